def m_X12_canEnd_j152 (k : Nat) (x4 : Int32) (y0 : Int32) (I : Mem) : Option ((Int32 × Int32) ⊕ ((Int32))) :=
  some (.inl (y0, x4 + 1))
set_option maxRecDepth 100000 in
set_option maxHeartbeats 4000000 in
theorem m_X12_canEnd_j152_ok {Z : Zx} {K : ((Int32 × Int32) ⊕ ((Int32))) → Prop} (C : Cx Z cX12_canEnd 7 RX12) (hR : RM Z 1 21) (k : Nat) (x4 : Int32) (y0 : Int32) (hk : isO k 12) (I : Mem) (hB : ∀ a, K (.inl a) → WM Z I 125 [some (rf (zG Z) k), none, some (.int a.1), none, some (.int a.2), none, none] []) (hX0 : ∀ b, K (.inr (b)) → WM Z I 159 [none, none, some (.int b), none, none, none, none] []) : WF Z K (m_X12_canEnd_j152 k x4 y0 I) I 152 [some (rf (zG Z) k), none, none, none, some (.int x4), none, none] [.int y0] := by
  unfold m_X12_canEnd_j152
  refine w_istore_n C dX12_canEnd_152 (Nat.le_of_ble_eq_true rfl) (L' := [some (rf (zG Z) k), none, some (.int y0), none, some (.int x4), none, none]) rfl (q := 153) rfl ?_
  refine w_iinc (v := x4 + 1) C dX12_canEnd_153 rfl rfl (L' := [some (rf (zG Z) k), none, some (.int y0), none, some (.int (x4 + 1)), none, none]) rfl (q := 156) rfl ?_
  refine w_goto (tgt := 125) C dX12_canEnd_156 (by decide) ?_
  exact w_jmp (fun h => WM.less (L' := [some (rf (zG Z) k), none, some (.int y0), none, some (.int (x4 + 1)), none, none]) (hB _ h) ⟨rfl, rfl, rfl, trivial⟩)
def m_X12_canEnd_j151 (k : Nat) (x4 : Int32) (I : Mem) : Option ((Int32 × Int32) ⊕ ((Int32))) :=
  m_X12_canEnd_j152 k x4 ((0 : Int32)) I
set_option maxRecDepth 100000 in
set_option maxHeartbeats 4000000 in
theorem m_X12_canEnd_j151_ok {Z : Zx} {K : ((Int32 × Int32) ⊕ ((Int32))) → Prop} (C : Cx Z cX12_canEnd 7 RX12) (hR : RM Z 1 21) (k : Nat) (x4 : Int32) (hk : isO k 12) (I : Mem) (hB : ∀ a, K (.inl a) → WM Z I 125 [some (rf (zG Z) k), none, some (.int a.1), none, some (.int a.2), none, none] []) (hX0 : ∀ b, K (.inr (b)) → WM Z I 159 [none, none, some (.int b), none, none, none, none] []) : WF Z K (m_X12_canEnd_j151 k x4 I) I 151 [some (rf (zG Z) k), none, none, none, some (.int x4), none, none] [] := by
  unfold m_X12_canEnd_j151
  refine w_iconst (v := (0)) C dX12_canEnd_151 (by decide) (q := 152) rfl ?_
  exact WF.less (L' := [some (rf (zG Z) k), none, none, none, some (.int x4), none, none]) (m_X12_canEnd_j152_ok C hR k x4 ((0 : Int32)) hk I hB hX0) ⟨rfl, rfl, trivial⟩
def m_X12_canEnd_b125 (k : Nat) (x2 : Int32) (x4 : Int32) (I : Mem) : Option ((Int32 × Int32) ⊕ ((Int32))) :=
  if I k 10 ≤ x4 then (some (.inr (x2))) else (if x2 = 0 then (m_X12_canEnd_j151 k x4 I) else (Option.bind (m_X12_isSkipped k x4 I) fun r1 => if r1 = 0 then (m_X12_canEnd_j151 k x4 I) else (m_X12_canEnd_j152 k x4 ((1 : Int32)) I)))
set_option maxRecDepth 100000 in
set_option maxHeartbeats 4000000 in
theorem m_X12_canEnd_b125_ok {Z : Zx} {K : ((Int32 × Int32) ⊕ ((Int32))) → Prop} (C : Cx Z cX12_canEnd 7 RX12) (hR : RM Z 1 21) (k : Nat) (x2 : Int32) (x4 : Int32) (hk : isO k 12) (I : Mem) (hB : ∀ a, K (.inl a) → WM Z I 125 [some (rf (zG Z) k), none, some (.int a.1), none, some (.int a.2), none, none] []) (hX0 : ∀ b, K (.inr (b)) → WM Z I 159 [none, none, some (.int b), none, none, none, none] []) : WF Z K (m_X12_canEnd_b125 k x2 x4 I) I 125 [some (rf (zG Z) k), none, some (.int x2), none, some (.int x4), none, none] [] := by
  unfold m_X12_canEnd_b125
  refine w_iload (v := x4) C dX12_canEnd_125 rfl (q := 127) rfl ?_
  refine w_aload_n (v := k) C dX12_canEnd_127 rfl (q := 128) rfl ?_
  refine g_X12_10 C hk lk_X12_134 dX12_canEnd_128 (q := 131) rfl ?_
  refine w_icmp_ge (tgt := 159) (q := 134) C dX12_canEnd_131 (by decide) rfl (fun _ => ?_) (fun _ => ?_)
  · exact w_jmp (fun h => WM.less (L' := [none, none, some (.int x2), none, none, none, none]) (hX0 _ h) ⟨rfl, trivial⟩)
  · refine w_iload_n (v := x2) C dX12_canEnd_134 rfl (q := 135) rfl ?_
    refine w_if_eq (tgt := 151) (q := 138) C dX12_canEnd_135 (by decide) rfl (fun _ => ?_) (fun _ => ?_)
    · exact WF.less (L' := [some (rf (zG Z) k), none, none, none, some (.int x4), none, none]) (m_X12_canEnd_j151_ok C hR k x4 hk I hB hX0) ⟨rfl, rfl, trivial⟩
    · refine w_aload_n (v := k) C dX12_canEnd_138 rfl (q := 139) rfl ?_
      refine w_iload (v := x4) C dX12_canEnd_139 rfl (q := 141) rfl ?_
      refine w_callV (val := fun r1 => some (.int r1)) (mem := fun r1 => I) (st1 := fun r1 => [.int r1]) (As := [.int x4]) (st := []) (q := 144) C hR (fun x h => c_X12_isSkipped (zl Z) (zG Z) x4 hk I h) hk mv_X12_isSkipped lk_X12_180 rfl (by decide) (fun _ => rfl) (Nat.le_of_ble_eq_true rfl) rfl rfl dX12_canEnd_141 rfl (fun r1 => ?_)
      refine w_if_eq (tgt := 151) (q := 147) C dX12_canEnd_144 (by decide) rfl (fun _ => ?_) (fun _ => ?_)
      · exact WF.less (L' := [some (rf (zG Z) k), none, none, none, some (.int x4), none, none]) (m_X12_canEnd_j151_ok C hR k x4 hk I hB hX0) ⟨rfl, rfl, trivial⟩
      · refine w_iconst (v := (1)) C dX12_canEnd_147 (by decide) (q := 148) rfl ?_
        refine w_goto (tgt := 152) C dX12_canEnd_148 (by decide) ?_
        exact WF.less (L' := [some (rf (zG Z) k), none, none, none, some (.int x4), none, none]) (m_X12_canEnd_j152_ok C hR k x4 ((1 : Int32)) hk I hB hX0) ⟨rfl, rfl, trivial⟩
def m_X12_canEnd_j122 (k : Nat) (x2 : Int32) (x3 : Int32) (I : Mem) : Option (Int32) :=
  Option.bind (loopF (fun a => m_X12_canEnd_b125 k a.1 a.2 I) FU (x2, x3)) (fun b2 => gd (okz b2) (some b2))
set_option maxRecDepth 100000 in
set_option maxHeartbeats 4000000 in
theorem m_X12_canEnd_j122_ok {Z : Zx} {K : Int32 → Prop} (C : Cx Z cX12_canEnd 7 RX12) (hR : RM Z 1 21) (k : Nat) (x2 : Int32) (x3 : Int32) (hk : isO k 12) (I : Mem) (hK : ∀ y, K (y) → RetI Z cX12_canEnd .boolean y I) : WF Z K (m_X12_canEnd_j122 k x2 x3 I) I 122 [some (rf (zG Z) k), none, some (.int x2), some (.int x3), none, none, none] [] := by
  unfold m_X12_canEnd_j122
  refine w_iload_n (v := x3) C dX12_canEnd_122 rfl (q := 123) rfl ?_
  refine w_istore C dX12_canEnd_123 (Nat.le_of_ble_eq_true rfl) (L' := [some (rf (zG Z) k), none, some (.int x2), some (.int x3), some (.int x3), none, none]) rfl (q := 125) rfl ?_
  refine WF.less (L' := [some (rf (zG Z) k), none, some (.int x2), none, some (.int x3), none, none]) (w_loopF (pc := 125) (a := (x2, x3)) (mem := fun a => I) (lo := fun a => [some (rf (zG Z) k), none, some (.int a.1), none, some (.int a.2), none, none]) (E := fun b2 => WM Z I 159 [none, none, some (.int b2), none, none, none, none] []) (fun a => m_X12_canEnd_b125_ok C hR k a.1 a.2 hk I (fun _ h => h) (fun _ h => h)) ?_) ⟨rfl, rfl, rfl, trivial⟩
  intro b2
  refine w_hx ?_
  refine w_iload_n (v := b2) C dX12_canEnd_159 rfl (q := 160) rfl ?_
  refine w_gd (fun h3 => ?_)
  exact w_iret C (hK _) (okz_n h3).1 dX12_canEnd_160
def m_X12_canEnd_j110 (k : Nat) (x5 : Int32) (x6 : Int32) (y0 : Int32) (I : Mem) : Option ((Int32 × Int32) ⊕ ((Int32))) :=
  some (.inl (y0, x6 + 1))
set_option maxRecDepth 100000 in
set_option maxHeartbeats 4000000 in
theorem m_X12_canEnd_j110_ok {Z : Zx} {K : ((Int32 × Int32) ⊕ ((Int32))) → Prop} (C : Cx Z cX12_canEnd 7 RX12) (hR : RM Z 1 21) (k : Nat) (x5 : Int32) (x6 : Int32) (y0 : Int32) (hk : isO k 12) (I : Mem) (hB : ∀ a, K (.inl a) → WM Z I 79 [some (rf (zG Z) k), none, some (.int a.1), none, none, some (.int x5), some (.int a.2)] []) (hX0 : ∀ b, K (.inr (b)) → WM Z I 117 [some (rf (zG Z) k), none, some (.int b), none, none, some (.int x5), none] []) : WF Z K (m_X12_canEnd_j110 k x5 x6 y0 I) I 110 [some (rf (zG Z) k), none, none, none, none, some (.int x5), some (.int x6)] [.int y0] := by
  unfold m_X12_canEnd_j110
  refine w_istore_n C dX12_canEnd_110 (Nat.le_of_ble_eq_true rfl) (L' := [some (rf (zG Z) k), none, some (.int y0), none, none, some (.int x5), some (.int x6)]) rfl (q := 111) rfl ?_
  refine w_iinc (v := x6 + 1) C dX12_canEnd_111 rfl rfl (L' := [some (rf (zG Z) k), none, some (.int y0), none, none, some (.int x5), some (.int (x6 + 1))]) rfl (q := 114) rfl ?_
  refine w_goto (tgt := 79) C dX12_canEnd_114 (by decide) ?_
  exact w_jmp (fun h => WM.less (L' := [some (rf (zG Z) k), none, some (.int y0), none, none, some (.int x5), some (.int (x6 + 1))]) (hB _ h) ⟨rfl, rfl, rfl, rfl, trivial⟩)
def m_X12_canEnd_j109 (k : Nat) (x5 : Int32) (x6 : Int32) (I : Mem) : Option ((Int32 × Int32) ⊕ ((Int32))) :=
  m_X12_canEnd_j110 k x5 x6 ((0 : Int32)) I
set_option maxRecDepth 100000 in
set_option maxHeartbeats 4000000 in
theorem m_X12_canEnd_j109_ok {Z : Zx} {K : ((Int32 × Int32) ⊕ ((Int32))) → Prop} (C : Cx Z cX12_canEnd 7 RX12) (hR : RM Z 1 21) (k : Nat) (x5 : Int32) (x6 : Int32) (hk : isO k 12) (I : Mem) (hB : ∀ a, K (.inl a) → WM Z I 79 [some (rf (zG Z) k), none, some (.int a.1), none, none, some (.int x5), some (.int a.2)] []) (hX0 : ∀ b, K (.inr (b)) → WM Z I 117 [some (rf (zG Z) k), none, some (.int b), none, none, some (.int x5), none] []) : WF Z K (m_X12_canEnd_j109 k x5 x6 I) I 109 [some (rf (zG Z) k), none, none, none, none, some (.int x5), some (.int x6)] [] := by
  unfold m_X12_canEnd_j109
  refine w_iconst (v := (0)) C dX12_canEnd_109 (by decide) (q := 110) rfl ?_
  exact WF.less (L' := [some (rf (zG Z) k), none, none, none, none, some (.int x5), some (.int x6)]) (m_X12_canEnd_j110_ok C hR k x5 x6 ((0 : Int32)) hk I hB hX0) ⟨rfl, rfl, rfl, trivial⟩
def m_X12_canEnd_b79 (k : Nat) (x5 : Int32) (x2 : Int32) (x6 : Int32) (I : Mem) : Option ((Int32 × Int32) ⊕ ((Int32))) :=
  gd (inb x5 12) (if I (k + 7) x5.toNatClampNeg < x6 then (some (.inr (x2))) else (if x2 = 0 then (m_X12_canEnd_j109 k x5 x6 I) else (gd (inb x6 10) (if I (k + 2) x6.toNatClampNeg = 0 then (m_X12_canEnd_j110 k x5 x6 ((1 : Int32)) I) else (m_X12_canEnd_j109 k x5 x6 I)))))
set_option maxRecDepth 100000 in
set_option maxHeartbeats 4000000 in
theorem m_X12_canEnd_b79_ok {Z : Zx} {K : ((Int32 × Int32) ⊕ ((Int32))) → Prop} (C : Cx Z cX12_canEnd 7 RX12) (hR : RM Z 1 21) (k : Nat) (x5 : Int32) (x2 : Int32) (x6 : Int32) (hk : isO k 12) (I : Mem) (hB : ∀ a, K (.inl a) → WM Z I 79 [some (rf (zG Z) k), none, some (.int a.1), none, none, some (.int x5), some (.int a.2)] []) (hX0 : ∀ b, K (.inr (b)) → WM Z I 117 [some (rf (zG Z) k), none, some (.int b), none, none, some (.int x5), none] []) : WF Z K (m_X12_canEnd_b79 k x5 x2 x6 I) I 79 [some (rf (zG Z) k), none, some (.int x2), none, none, some (.int x5), some (.int x6)] [] := by
  unfold m_X12_canEnd_b79
  refine w_iload (v := x6) C dX12_canEnd_79 rfl (q := 81) rfl ?_
  refine w_aload_n (v := k) C dX12_canEnd_81 rfl (q := 82) rfl ?_
  refine g_X12_7 C hk lk_X12_30 dX12_canEnd_82 (q := 85) rfl ?_
  refine w_iload (v := x5) C dX12_canEnd_85 rfl (q := 87) rfl ?_
  refine w_iald C (st_X12_7 hk).2 dX12_canEnd_87 (q := 88) rfl (fun _ => ?_)
  refine w_icmp_gt (tgt := 117) (q := 91) C dX12_canEnd_88 (by decide) rfl (fun _ => ?_) (fun _ => ?_)
  · exact w_jmp (fun h => WM.less (L' := [some (rf (zG Z) k), none, some (.int x2), none, none, some (.int x5), none]) (hX0 _ h) ⟨rfl, rfl, rfl, trivial⟩)
  · refine w_iload_n (v := x2) C dX12_canEnd_91 rfl (q := 92) rfl ?_
    refine w_if_eq (tgt := 109) (q := 95) C dX12_canEnd_92 (by decide) rfl (fun _ => ?_) (fun _ => ?_)
    · exact WF.less (L' := [some (rf (zG Z) k), none, none, none, none, some (.int x5), some (.int x6)]) (m_X12_canEnd_j109_ok C hR k x5 x6 hk I hB hX0) ⟨rfl, rfl, rfl, trivial⟩
    · refine w_aload_n (v := k) C dX12_canEnd_95 rfl (q := 96) rfl ?_
      refine g_X12_1 C hk lk_X12_13 dX12_canEnd_96 (q := 99) rfl ?_
      refine w_iload (v := x6) C dX12_canEnd_99 rfl (q := 101) rfl ?_
      refine w_iald C (st_X12_1 hk).2 dX12_canEnd_101 (q := 102) rfl (fun _ => ?_)
      refine w_if_ne (tgt := 109) (q := 105) C dX12_canEnd_102 (by decide) rfl (fun _ => ?_) (fun _ => ?_)
      · refine w_iconst (v := (1)) C dX12_canEnd_105 (by decide) (q := 106) rfl ?_
        refine w_goto (tgt := 110) C dX12_canEnd_106 (by decide) ?_
        exact WF.less (L' := [some (rf (zG Z) k), none, none, none, none, some (.int x5), some (.int x6)]) (m_X12_canEnd_j110_ok C hR k x5 x6 ((1 : Int32)) hk I hB hX0) ⟨rfl, rfl, rfl, trivial⟩
      · exact WF.less (L' := [some (rf (zG Z) k), none, none, none, none, some (.int x5), some (.int x6)]) (m_X12_canEnd_j109_ok C hR k x5 x6 hk I hB hX0) ⟨rfl, rfl, rfl, trivial⟩
def m_X12_canEnd_j72 (k : Nat) (x4 : Int32) (x5 : Int32) (y0 : Int32) (I : Mem) : Option (Int32) :=
  Option.bind (loopF (fun a => m_X12_canEnd_b79 k x5 a.1 a.2 I) FU (y0, x4 + 1)) (fun b4 => m_X12_canEnd_j122 k b4 (x5 + 1) I)
set_option maxRecDepth 100000 in
set_option maxHeartbeats 4000000 in
theorem m_X12_canEnd_j72_ok {Z : Zx} {K : Int32 → Prop} (C : Cx Z cX12_canEnd 7 RX12) (hR : RM Z 1 21) (k : Nat) (x4 : Int32) (x5 : Int32) (y0 : Int32) (hk : isO k 12) (I : Mem) (hK : ∀ y, K (y) → RetI Z cX12_canEnd .boolean y I) : WF Z K (m_X12_canEnd_j72 k x4 x5 y0 I) I 72 [some (rf (zG Z) k), none, none, none, some (.int x4), some (.int x5), none] [.int y0] := by
  unfold m_X12_canEnd_j72
  refine w_istore_n C dX12_canEnd_72 (Nat.le_of_ble_eq_true rfl) (L' := [some (rf (zG Z) k), none, some (.int y0), none, some (.int x4), some (.int x5), none]) rfl (q := 73) rfl ?_
  refine w_iload (v := x4) C dX12_canEnd_73 rfl (q := 75) rfl ?_
  refine w_iconst (v := (1)) C dX12_canEnd_75 (by decide) (q := 76) rfl ?_
  refine w_iadd C dX12_canEnd_76 (q := 77) rfl ?_
  refine w_istore C dX12_canEnd_77 (Nat.le_of_ble_eq_true rfl) (L' := [some (rf (zG Z) k), none, some (.int y0), none, some (.int x4), some (.int x5), some (.int (x4 + 1))]) rfl (q := 79) rfl ?_
  refine WF.less (L' := [some (rf (zG Z) k), none, some (.int y0), none, none, some (.int x5), some (.int (x4 + 1))]) (w_loopF (pc := 79) (a := (y0, x4 + 1)) (mem := fun a => I) (lo := fun a => [some (rf (zG Z) k), none, some (.int a.1), none, none, some (.int x5), some (.int a.2)]) (E := fun b4 => WM Z I 117 [some (rf (zG Z) k), none, some (.int b4), none, none, some (.int x5), none] []) (fun a => m_X12_canEnd_b79_ok C hR k x5 a.1 a.2 hk I (fun _ h => h) (fun _ h => h)) ?_) ⟨rfl, rfl, rfl, rfl, trivial⟩
  intro b4
  refine w_hx ?_
  refine w_iload (v := x5) C dX12_canEnd_117 rfl (q := 119) rfl ?_
  refine w_iconst (v := (1)) C dX12_canEnd_119 (by decide) (q := 120) rfl ?_
  refine w_iadd C dX12_canEnd_120 (q := 121) rfl ?_
  refine w_istore_n C dX12_canEnd_121 (Nat.le_of_ble_eq_true rfl) (L' := [some (rf (zG Z) k), none, some (.int b4), some (.int (x5 + 1)), none, some (.int x5), none]) rfl (q := 122) rfl ?_
  exact WF.less (L' := [some (rf (zG Z) k), none, some (.int b4), some (.int (x5 + 1)), none, none, none]) (m_X12_canEnd_j122_ok C hR k b4 (x5 + 1) hk I hK) ⟨rfl, rfl, rfl, trivial⟩
def m_X12_canEnd_j71 (k : Nat) (x4 : Int32) (x5 : Int32) (I : Mem) : Option (Int32) :=
  m_X12_canEnd_j72 k x4 x5 ((0 : Int32)) I
set_option maxRecDepth 100000 in
set_option maxHeartbeats 4000000 in
theorem m_X12_canEnd_j71_ok {Z : Zx} {K : Int32 → Prop} (C : Cx Z cX12_canEnd 7 RX12) (hR : RM Z 1 21) (k : Nat) (x4 : Int32) (x5 : Int32) (hk : isO k 12) (I : Mem) (hK : ∀ y, K (y) → RetI Z cX12_canEnd .boolean y I) : WF Z K (m_X12_canEnd_j71 k x4 x5 I) I 71 [some (rf (zG Z) k), none, none, none, some (.int x4), some (.int x5), none] [] := by
  unfold m_X12_canEnd_j71
  refine w_iconst (v := (0)) C dX12_canEnd_71 (by decide) (q := 72) rfl ?_
  exact WF.less (L' := [some (rf (zG Z) k), none, none, none, some (.int x4), some (.int x5), none]) (m_X12_canEnd_j72_ok C hR k x4 x5 ((0 : Int32)) hk I hK) ⟨rfl, rfl, rfl, trivial⟩
def m_X12_canEnd_j67 (k : Nat) (x4 : Int32) (x5 : Int32) (I : Mem) : Option (Int32) :=
  m_X12_canEnd_j72 k x4 x5 ((1 : Int32)) I
set_option maxRecDepth 100000 in
set_option maxHeartbeats 4000000 in
theorem m_X12_canEnd_j67_ok {Z : Zx} {K : Int32 → Prop} (C : Cx Z cX12_canEnd 7 RX12) (hR : RM Z 1 21) (k : Nat) (x4 : Int32) (x5 : Int32) (hk : isO k 12) (I : Mem) (hK : ∀ y, K (y) → RetI Z cX12_canEnd .boolean y I) : WF Z K (m_X12_canEnd_j67 k x4 x5 I) I 67 [some (rf (zG Z) k), none, none, none, some (.int x4), some (.int x5), none] [] := by
  unfold m_X12_canEnd_j67
  refine w_iconst (v := (1)) C dX12_canEnd_67 (by decide) (q := 68) rfl ?_
  refine w_goto (tgt := 72) C dX12_canEnd_68 (by decide) ?_
  exact WF.less (L' := [some (rf (zG Z) k), none, none, none, some (.int x4), some (.int x5), none]) (m_X12_canEnd_j72_ok C hR k x4 x5 ((1 : Int32)) hk I hK) ⟨rfl, rfl, rfl, trivial⟩
def m_X12_canEnd (k : Nat) (p1 : Int32) (I : Mem) : Option (Int32) :=
  if p1 = 1000 then (m_X12_canEnd_j122 k ((1 : Int32)) ((0 : Int32)) I) else (gd (inb (p1 / 100) 10) (gd (inb (p1 / 100) 10) (if p1 - p1 / 10 * 10 < I (k + 2) (p1 / 100).toNatClampNeg then (m_X12_canEnd_j71 k (p1 / 100) (I (k + 4) (p1 / 100).toNatClampNeg) I) else (gd (inb (I (k + 4) (p1 / 100).toNatClampNeg) 12) (if I (k + 5) (I (k + 4) (p1 / 100).toNatClampNeg).toNatClampNeg = 0 then (m_X12_canEnd_j67 k (p1 / 100) (I (k + 4) (p1 / 100).toNatClampNeg) I) else (gd (inb (I (k + 4) (p1 / 100).toNatClampNeg) 12) (if (p1 / 10) - (p1 / 10) / 10 * 10 < I (k + 8) (I (k + 4) (p1 / 100).toNatClampNeg).toNatClampNeg then (m_X12_canEnd_j71 k (p1 / 100) (I (k + 4) (p1 / 100).toNatClampNeg) I) else (m_X12_canEnd_j67 k (p1 / 100) (I (k + 4) (p1 / 100).toNatClampNeg) I))))))))
set_option maxRecDepth 100000 in
set_option maxHeartbeats 4000000 in
theorem m_X12_canEnd_ok {Z : Zx} {K : Int32 → Prop} (C : Cx Z cX12_canEnd 7 RX12) (hR : RM Z 1 21) (k : Nat) (p1 : Int32) (hk : isO k 12) (I : Mem) (hK : ∀ y, K (y) → RetI Z cX12_canEnd .boolean y I) : WF Z K (m_X12_canEnd k p1 I) I 0 [some (rf (zG Z) k), some (.int p1), none, none, none, none, none] [] := by
  unfold m_X12_canEnd
  refine w_iconst (v := (1)) C dX12_canEnd_0 (by decide) (q := 1) rfl ?_
  refine w_istore_n C dX12_canEnd_1 (Nat.le_of_ble_eq_true rfl) (L' := [some (rf (zG Z) k), some (.int p1), some (.int 1), none, none, none, none]) rfl (q := 2) rfl ?_
  refine w_iconst (v := (0)) C dX12_canEnd_2 (by decide) (q := 3) rfl ?_
  refine w_istore_n C dX12_canEnd_3 (Nat.le_of_ble_eq_true rfl) (L' := [some (rf (zG Z) k), some (.int p1), some (.int 1), some (.int 0), none, none, none]) rfl (q := 4) rfl ?_
  refine w_iload_n (v := p1) C dX12_canEnd_4 rfl (q := 5) rfl ?_
  refine w_sipush (v := (1000)) C dX12_canEnd_5 (by decide) (q := 8) rfl ?_
  refine w_icmp_eq (tgt := 122) (q := 11) C dX12_canEnd_8 (by decide) rfl (fun _ => ?_) (fun _ => ?_)
  · exact WF.less (L' := [some (rf (zG Z) k), none, some (.int 1), some (.int 0), none, none, none]) (m_X12_canEnd_j122_ok C hR k ((1 : Int32)) ((0 : Int32)) hk I hK) ⟨rfl, rfl, rfl, trivial⟩
  · refine w_iload_n (v := p1) C dX12_canEnd_11 rfl (q := 12) rfl ?_
    refine w_bipush (v := (100)) C dX12_canEnd_12 (by decide) (q := 14) rfl ?_
    refine w_idivL C (by decide) dX12_canEnd_14 (q := 15) rfl ?_
    refine w_istore C dX12_canEnd_15 (Nat.le_of_ble_eq_true rfl) (L' := [some (rf (zG Z) k), some (.int p1), some (.int 1), some (.int 0), some (.int (p1 / 100)), none, none]) rfl (q := 17) rfl ?_
    refine w_aload_n (v := k) C dX12_canEnd_17 rfl (q := 18) rfl ?_
    refine g_X12_3 C hk lk_X12_20 dX12_canEnd_18 (q := 21) rfl ?_
    refine w_iload (v := p1 / 100) C dX12_canEnd_21 rfl (q := 23) rfl ?_
    refine w_iald C (st_X12_3 hk).2 dX12_canEnd_23 (q := 24) rfl (fun _ => ?_)
    refine w_istore C dX12_canEnd_24 (Nat.le_of_ble_eq_true rfl) (L' := [some (rf (zG Z) k), some (.int p1), some (.int 1), some (.int 0), some (.int (p1 / 100)), some (.int (I (k + 4) (p1 / 100).toNatClampNeg)), none]) rfl (q := 26) rfl ?_
    refine w_iload_n (v := p1) C dX12_canEnd_26 rfl (q := 27) rfl ?_
    refine w_bipush (v := (10)) C dX12_canEnd_27 (by decide) (q := 29) rfl ?_
    refine w_iremL C (by decide) dX12_canEnd_29 (q := 30) rfl ?_
    refine w_aload_n (v := k) C dX12_canEnd_30 rfl (q := 31) rfl ?_
    refine g_X12_1 C hk lk_X12_13 dX12_canEnd_31 (q := 34) rfl ?_
    refine w_iload (v := p1 / 100) C dX12_canEnd_34 rfl (q := 36) rfl ?_
    refine w_iald C (st_X12_1 hk).2 dX12_canEnd_36 (q := 37) rfl (fun _ => ?_)
    refine w_icmp_lt (tgt := 71) (q := 40) C dX12_canEnd_37 (by decide) rfl (fun _ => ?_) (fun _ => ?_)
    · exact WF.less (L' := [some (rf (zG Z) k), none, none, none, some (.int (p1 / 100)), some (.int (I (k + 4) (p1 / 100).toNatClampNeg)), none]) (m_X12_canEnd_j71_ok C hR k (p1 / 100) (I (k + 4) (p1 / 100).toNatClampNeg) hk I hK) ⟨rfl, rfl, rfl, trivial⟩
    · refine w_aload_n (v := k) C dX12_canEnd_40 rfl (q := 41) rfl ?_
      refine g_X12_5 C hk lk_X12_23 dX12_canEnd_41 (q := 44) rfl ?_
      refine w_iload (v := I (k + 4) (p1 / 100).toNatClampNeg) C dX12_canEnd_44 rfl (q := 46) rfl ?_
      refine w_zald C (st_X12_5 hk).2 dX12_canEnd_46 (q := 47) rfl (fun _ => ?_)
      refine w_if_eq (tgt := 67) (q := 50) C dX12_canEnd_47 (by decide) rfl (fun _ => ?_) (fun _ => ?_)
      · exact WF.less (L' := [some (rf (zG Z) k), none, none, none, some (.int (p1 / 100)), some (.int (I (k + 4) (p1 / 100).toNatClampNeg)), none]) (m_X12_canEnd_j67_ok C hR k (p1 / 100) (I (k + 4) (p1 / 100).toNatClampNeg) hk I hK) ⟨rfl, rfl, rfl, trivial⟩
      · refine w_iload_n (v := p1) C dX12_canEnd_50 rfl (q := 51) rfl ?_
        refine w_bipush (v := (10)) C dX12_canEnd_51 (by decide) (q := 53) rfl ?_
        refine w_idivL C (by decide) dX12_canEnd_53 (q := 54) rfl ?_
        refine w_bipush (v := (10)) C dX12_canEnd_54 (by decide) (q := 56) rfl ?_
        refine w_iremL C (by decide) dX12_canEnd_56 (q := 57) rfl ?_
        refine w_aload_n (v := k) C dX12_canEnd_57 rfl (q := 58) rfl ?_
        refine g_X12_8 C hk lk_X12_33 dX12_canEnd_58 (q := 61) rfl ?_
        refine w_iload (v := I (k + 4) (p1 / 100).toNatClampNeg) C dX12_canEnd_61 rfl (q := 63) rfl ?_
        refine w_iald C (st_X12_8 hk).2 dX12_canEnd_63 (q := 64) rfl (fun _ => ?_)
        refine w_icmp_lt (tgt := 71) (q := 67) C dX12_canEnd_64 (by decide) rfl (fun _ => ?_) (fun _ => ?_)
        · exact WF.less (L' := [some (rf (zG Z) k), none, none, none, some (.int (p1 / 100)), some (.int (I (k + 4) (p1 / 100).toNatClampNeg)), none]) (m_X12_canEnd_j71_ok C hR k (p1 / 100) (I (k + 4) (p1 / 100).toNatClampNeg) hk I hK) ⟨rfl, rfl, rfl, trivial⟩
        · exact WF.less (L' := [some (rf (zG Z) k), none, none, none, some (.int (p1 / 100)), some (.int (I (k + 4) (p1 / 100).toNatClampNeg)), none]) (m_X12_canEnd_j67_ok C hR k (p1 / 100) (I (k + 4) (p1 / 100).toNatClampNeg) hk I hK) ⟨rfl, rfl, rfl, trivial⟩
theorem c_X12_canEnd (l : Launch) (G : Gx) {k : Nat} (p1 : Int32) (hk : isO k 12) (I : Mem) {x : Int32} (h : m_X12_canEnd k p1 I = some x) : Ct l G yX12_canEnd cX12_canEnd 7 (some (.boolean)) 1 21 [rf G k, .int p1] I (some (.int x)) I := Ct.of (by decide +kernel) rfl (Nat.le_of_ble_eq_true rfl) ret_i (fun Z hG hl C hR hret => by
  subst hG
  exact m_X12_canEnd_ok (K := fun y => y = x) C hR k p1 hk I (fun y hy => by subst hy; exact hret) x h rfl)
def m_X12_isSome_j41 (k : Nat) (p1 : Int32) (x3 : Int32) (y0 : Int32) (I : Mem) : Option ((Int32 × Int32) ⊕ ((Int32))) :=
  some (.inl (y0, x3 + 1))
set_option maxRecDepth 100000 in
set_option maxHeartbeats 4000000 in
theorem m_X12_isSome_j41_ok {Z : Zx} {K : ((Int32 × Int32) ⊕ ((Int32))) → Prop} (C : Cx Z cX12_isSome 4 RX12) (hR : RM Z 0 0) (k : Nat) (p1 : Int32) (x3 : Int32) (y0 : Int32) (hk : isO k 12) (I : Mem) (hB : ∀ a, K (.inl a) → WM Z I 4 [some (rf (zG Z) k), some (.int p1), some (.int a.1), some (.int a.2)] []) (hX0 : ∀ b, K (.inr (b)) → WM Z I 48 [none, none, some (.int b), none] []) : WF Z K (m_X12_isSome_j41 k p1 x3 y0 I) I 41 [some (rf (zG Z) k), some (.int p1), none, some (.int x3)] [.int y0] := by
  unfold m_X12_isSome_j41
  refine w_istore_n C dX12_isSome_41 (Nat.le_of_ble_eq_true rfl) (L' := [some (rf (zG Z) k), some (.int p1), some (.int y0), some (.int x3)]) rfl (q := 42) rfl ?_
  refine w_iinc (v := x3 + 1) C dX12_isSome_42 rfl rfl (L' := [some (rf (zG Z) k), some (.int p1), some (.int y0), some (.int (x3 + 1))]) rfl (q := 45) rfl ?_
  refine w_goto (tgt := 4) C dX12_isSome_45 (by decide) ?_
  exact w_jmp (fun h => WM.less (L' := [some (rf (zG Z) k), some (.int p1), some (.int y0), some (.int (x3 + 1))]) (hB _ h) ⟨rfl, rfl, rfl, rfl, trivial⟩)
def m_X12_isSome_j36 (k : Nat) (p1 : Int32) (x3 : Int32) (I : Mem) : Option ((Int32 × Int32) ⊕ ((Int32))) :=
  m_X12_isSome_j41 k p1 x3 ((1 : Int32)) I
set_option maxRecDepth 100000 in
set_option maxHeartbeats 4000000 in
theorem m_X12_isSome_j36_ok {Z : Zx} {K : ((Int32 × Int32) ⊕ ((Int32))) → Prop} (C : Cx Z cX12_isSome 4 RX12) (hR : RM Z 0 0) (k : Nat) (p1 : Int32) (x3 : Int32) (hk : isO k 12) (I : Mem) (hB : ∀ a, K (.inl a) → WM Z I 4 [some (rf (zG Z) k), some (.int p1), some (.int a.1), some (.int a.2)] []) (hX0 : ∀ b, K (.inr (b)) → WM Z I 48 [none, none, some (.int b), none] []) : WF Z K (m_X12_isSome_j36 k p1 x3 I) I 36 [some (rf (zG Z) k), some (.int p1), none, some (.int x3)] [] := by
  unfold m_X12_isSome_j36
  refine w_iconst (v := (1)) C dX12_isSome_36 (by decide) (q := 37) rfl ?_
  refine w_goto (tgt := 41) C dX12_isSome_37 (by decide) ?_
  exact WF.less (L' := [some (rf (zG Z) k), some (.int p1), none, some (.int x3)]) (m_X12_isSome_j41_ok C hR k p1 x3 ((1 : Int32)) hk I hB hX0) ⟨rfl, rfl, rfl, trivial⟩
def m_X12_isSome_b4 (k : Nat) (p1 : Int32) (x2 : Int32) (x3 : Int32) (I : Mem) : Option ((Int32 × Int32) ⊕ ((Int32))) :=
  if I k 35 ≤ x3 then (some (.inr (x2))) else (if x2 = 0 then (gd (inb x3 64) (gd (inb ((((1001 : Int32)) * p1) + (I (k + 25) x3.toNatClampNeg)) 19019) (if I (k + 24) ((((1001 : Int32)) * p1) + (I (k + 25) x3.toNatClampNeg)).toNatClampNeg = 0 then (m_X12_isSome_j41 k p1 x3 ((0 : Int32)) I) else (m_X12_isSome_j36 k p1 x3 I)))) else (m_X12_isSome_j36 k p1 x3 I))
set_option maxRecDepth 100000 in
set_option maxHeartbeats 4000000 in
theorem m_X12_isSome_b4_ok {Z : Zx} {K : ((Int32 × Int32) ⊕ ((Int32))) → Prop} (C : Cx Z cX12_isSome 4 RX12) (hR : RM Z 0 0) (k : Nat) (p1 : Int32) (x2 : Int32) (x3 : Int32) (hk : isO k 12) (I : Mem) (hB : ∀ a, K (.inl a) → WM Z I 4 [some (rf (zG Z) k), some (.int p1), some (.int a.1), some (.int a.2)] []) (hX0 : ∀ b, K (.inr (b)) → WM Z I 48 [none, none, some (.int b), none] []) : WF Z K (m_X12_isSome_b4 k p1 x2 x3 I) I 4 [some (rf (zG Z) k), some (.int p1), some (.int x2), some (.int x3)] [] := by
  unfold m_X12_isSome_b4
  refine w_iload_n (v := x3) C dX12_isSome_4 rfl (q := 5) rfl ?_
  refine w_aload_n (v := k) C dX12_isSome_5 rfl (q := 6) rfl ?_
  refine g_X12_35 C hk lk_X12_173 dX12_isSome_6 (q := 9) rfl ?_
  refine w_icmp_ge (tgt := 48) (q := 12) C dX12_isSome_9 (by decide) rfl (fun _ => ?_) (fun _ => ?_)
  · exact w_jmp (fun h => WM.less (L' := [none, none, some (.int x2), none]) (hX0 _ h) ⟨rfl, trivial⟩)
  · refine w_iload_n (v := x2) C dX12_isSome_12 rfl (q := 13) rfl ?_
    refine w_if_ne (tgt := 36) (q := 16) C dX12_isSome_13 (by decide) rfl (fun _ => ?_) (fun _ => ?_)
    · refine w_aload_n (v := k) C dX12_isSome_16 rfl (q := 17) rfl ?_
      refine g_X12_33 C hk lk_X12_81 dX12_isSome_17 (q := 20) rfl ?_
      refine w_sipush (v := (1001)) C dX12_isSome_20 (by decide) (q := 23) rfl ?_
      refine w_iload_n (v := p1) C dX12_isSome_23 rfl (q := 24) rfl ?_
      refine w_imul C dX12_isSome_24 (q := 25) rfl ?_
      refine w_aload_n (v := k) C dX12_isSome_25 rfl (q := 26) rfl ?_
      refine g_X12_34 C hk lk_X12_84 dX12_isSome_26 (q := 29) rfl ?_
      refine w_iload_n (v := x3) C dX12_isSome_29 rfl (q := 30) rfl ?_
      refine w_iald C (st_X12_34 hk).2 dX12_isSome_30 (q := 31) rfl (fun _ => ?_)
      refine w_iadd C dX12_isSome_31 (q := 32) rfl ?_
      refine w_zald C (st_X12_33 hk).2 dX12_isSome_32 (q := 33) rfl (fun _ => ?_)
      refine w_if_eq (tgt := 40) (q := 36) C dX12_isSome_33 (by decide) rfl (fun _ => ?_) (fun _ => ?_)
      · refine w_iconst (v := (0)) C dX12_isSome_40 (by decide) (q := 41) rfl ?_
        exact WF.less (L' := [some (rf (zG Z) k), some (.int p1), none, some (.int x3)]) (m_X12_isSome_j41_ok C hR k p1 x3 ((0 : Int32)) hk I hB hX0) ⟨rfl, rfl, rfl, trivial⟩
      · exact WF.less (L' := [some (rf (zG Z) k), some (.int p1), none, some (.int x3)]) (m_X12_isSome_j36_ok C hR k p1 x3 hk I hB hX0) ⟨rfl, rfl, rfl, trivial⟩
    · exact WF.less (L' := [some (rf (zG Z) k), some (.int p1), none, some (.int x3)]) (m_X12_isSome_j36_ok C hR k p1 x3 hk I hB hX0) ⟨rfl, rfl, rfl, trivial⟩
def m_X12_isSome (k : Nat) (p1 : Int32) (I : Mem) : Option (Int32) :=
  Option.bind (loopF (fun a => m_X12_isSome_b4 k p1 a.1 a.2 I) FU ((0 : Int32), (0 : Int32))) (fun b1 => gd (okz b1) (some b1))
set_option maxRecDepth 100000 in
set_option maxHeartbeats 4000000 in
theorem m_X12_isSome_ok {Z : Zx} {K : Int32 → Prop} (C : Cx Z cX12_isSome 4 RX12) (hR : RM Z 0 0) (k : Nat) (p1 : Int32) (hk : isO k 12) (I : Mem) (hK : ∀ y, K (y) → RetI Z cX12_isSome .boolean y I) : WF Z K (m_X12_isSome k p1 I) I 0 [some (rf (zG Z) k), some (.int p1), none, none] [] := by
  unfold m_X12_isSome
  refine w_iconst (v := (0)) C dX12_isSome_0 (by decide) (q := 1) rfl ?_
  refine w_istore_n C dX12_isSome_1 (Nat.le_of_ble_eq_true rfl) (L' := [some (rf (zG Z) k), some (.int p1), some (.int 0), none]) rfl (q := 2) rfl ?_
  refine w_iconst (v := (0)) C dX12_isSome_2 (by decide) (q := 3) rfl ?_
  refine w_istore_n C dX12_isSome_3 (Nat.le_of_ble_eq_true rfl) (L' := [some (rf (zG Z) k), some (.int p1), some (.int 0), some (.int 0)]) rfl (q := 4) rfl ?_
  refine WF.less (L' := [some (rf (zG Z) k), some (.int p1), some (.int 0), some (.int 0)]) (w_loopF (pc := 4) (a := ((0 : Int32), (0 : Int32))) (mem := fun a => I) (lo := fun a => [some (rf (zG Z) k), some (.int p1), some (.int a.1), some (.int a.2)]) (E := fun b1 => WM Z I 48 [none, none, some (.int b1), none] []) (fun a => m_X12_isSome_b4_ok C hR k p1 a.1 a.2 hk I (fun _ h => h) (fun _ h => h)) ?_) ⟨rfl, rfl, rfl, rfl, trivial⟩
  intro b1
  refine w_hx ?_
  refine w_iload_n (v := b1) C dX12_isSome_48 rfl (q := 49) rfl ?_
  refine w_gd (fun h2 => ?_)
  exact w_iret C (hK _) (okz_n h2).1 dX12_isSome_49
theorem c_X12_isSome (l : Launch) (G : Gx) {k : Nat} (p1 : Int32) (hk : isO k 12) (I : Mem) {x : Int32} (h : m_X12_isSome k p1 I = some x) : Ct l G yX12_isSome cX12_isSome 4 (some (.boolean)) 0 0 [rf G k, .int p1] I (some (.int x)) I := Ct.of (by decide +kernel) rfl (Nat.le_of_ble_eq_true rfl) ret_i (fun Z hG hl C hR hret => by
  subst hG
  exact m_X12_isSome_ok (K := fun y => y = x) C hR k p1 hk I (fun y hy => by subst hy; exact hret) x h rfl)
def m_X12_hopes_j106 (k : Nat) (p1 : Int32) (x2 : Int32) (x3 : Int32) (x4 : Int32) (I : Mem) : Option ((Int32 × Mem) ⊕ ((Mem))) :=
  gd (inb ((((1001 : Int32)) * x2) + x3) 19019) (gd (okz x4) (bnd (ms I (k + 24) ((((1001 : Int32)) * x2) + x3).toNatClampNeg x4) fun I1 => some (.inl (x3 + 1, I1))))
set_option maxRecDepth 100000 in
set_option maxHeartbeats 4000000 in
theorem m_X12_hopes_j106_ok {Z : Zx} {K : ((Int32 × Mem) ⊕ ((Mem))) → Prop} (C : Cx Z cX12_hopes 5 RX12) (hR : RM Z 2 54) (k : Nat) (p1 : Int32) (x2 : Int32) (x3 : Int32) (x4 : Int32) (hk : isO k 12) (I : Mem) (hB : ∀ a, K (.inl a) → WM Z a.2 8 [some (rf (zG Z) k), some (.int p1), some (.int x2), some (.int a.1), none] []) (hX0 : ∀ b, K (.inr (b)) → WM Z b 126 [some (rf (zG Z) k), some (.int p1), some (.int x2), none, none] []) : WF Z K (m_X12_hopes_j106 k p1 x2 x3 x4 I) I 106 [some (rf (zG Z) k), some (.int p1), some (.int x2), some (.int x3), some (.int x4)] [] := by
  unfold m_X12_hopes_j106
  refine w_aload_n (v := k) C dX12_hopes_106 rfl (q := 107) rfl ?_
  refine g_X12_33 C hk lk_X12_81 dX12_hopes_107 (q := 110) rfl ?_
  refine w_sipush (v := (1001)) C dX12_hopes_110 (by decide) (q := 113) rfl ?_
  refine w_iload_n (v := x2) C dX12_hopes_113 rfl (q := 114) rfl ?_
  refine w_imul C dX12_hopes_114 (q := 115) rfl ?_
  refine w_iload_n (v := x3) C dX12_hopes_115 rfl (q := 116) rfl ?_
  refine w_iadd C dX12_hopes_116 (q := 117) rfl ?_
  refine w_iload (v := x4) C dX12_hopes_117 rfl (q := 119) rfl ?_
  refine w_zast C (st_X12_33 hk).2 dX12_hopes_119 (q := 120) rfl (fun _ I1 => ?_)
  refine w_iinc (v := x3 + 1) C dX12_hopes_120 rfl rfl (L' := [some (rf (zG Z) k), some (.int p1), some (.int x2), some (.int (x3 + 1)), some (.int x4)]) rfl (q := 123) rfl ?_
  refine w_goto (tgt := 8) C dX12_hopes_123 (by decide) ?_
  exact w_jmp (fun h => WM.less (L' := [some (rf (zG Z) k), some (.int p1), some (.int x2), some (.int (x3 + 1)), none]) (hB _ h) ⟨rfl, rfl, rfl, rfl, trivial⟩)
def m_X12_hopes_j79 (k : Nat) (p1 : Int32) (x2 : Int32) (x3 : Int32) (x4 : Int32) (I : Mem) : Option ((Int32 × Mem) ⊕ ((Mem))) :=
  if x4 = 0 then (m_X12_hopes_j106 k p1 x2 x3 x4 I) else (gd (inb (x2 + 1) 20) (Option.bind (m_X12_leads k x3 (I (k + 14) (x2 + 1).toNatClampNeg) I) fun I2 => Option.bind (m_X12_isSome k (x2 + 1) I2) fun r3 => m_X12_hopes_j106 k p1 x2 x3 r3 I2))
set_option maxRecDepth 100000 in
set_option maxHeartbeats 4000000 in
theorem m_X12_hopes_j79_ok {Z : Zx} {K : ((Int32 × Mem) ⊕ ((Mem))) → Prop} (C : Cx Z cX12_hopes 5 RX12) (hR : RM Z 2 54) (k : Nat) (p1 : Int32) (x2 : Int32) (x3 : Int32) (x4 : Int32) (hk : isO k 12) (I : Mem) (hB : ∀ a, K (.inl a) → WM Z a.2 8 [some (rf (zG Z) k), some (.int p1), some (.int x2), some (.int a.1), none] []) (hX0 : ∀ b, K (.inr (b)) → WM Z b 126 [some (rf (zG Z) k), some (.int p1), some (.int x2), none, none] []) : WF Z K (m_X12_hopes_j79 k p1 x2 x3 x4 I) I 79 [some (rf (zG Z) k), some (.int p1), some (.int x2), some (.int x3), some (.int x4)] [] := by
  unfold m_X12_hopes_j79
  refine w_iload (v := x4) C dX12_hopes_79 rfl (q := 81) rfl ?_
  refine w_if_eq (tgt := 106) (q := 84) C dX12_hopes_81 (by decide) rfl (fun _ => ?_) (fun _ => ?_)
  · exact WF.less (L' := [some (rf (zG Z) k), some (.int p1), some (.int x2), some (.int x3), some (.int x4)]) (m_X12_hopes_j106_ok C hR k p1 x2 x3 x4 hk I hB hX0) ⟨rfl, rfl, rfl, rfl, rfl, trivial⟩
  · refine w_aload_n (v := k) C dX12_hopes_84 rfl (q := 85) rfl ?_
    refine w_iload_n (v := x3) C dX12_hopes_85 rfl (q := 86) rfl ?_
    refine w_aload_n (v := k) C dX12_hopes_86 rfl (q := 87) rfl ?_
    refine g_X12_18 C hk lk_X12_51 dX12_hopes_87 (q := 90) rfl ?_
    refine w_iload_n (v := x2) C dX12_hopes_90 rfl (q := 91) rfl ?_
    refine w_iconst (v := (1)) C dX12_hopes_91 (by decide) (q := 92) rfl ?_
    refine w_iadd C dX12_hopes_92 (q := 93) rfl ?_
    refine w_cald C (st_X12_18 hk).2 dX12_hopes_93 (q := 94) rfl (fun _ => ?_)
    refine w_callV (val := fun I2 => none) (mem := fun I2 => I2) (st1 := fun I2 => []) (As := [.int x3, .int (I (k + 14) (x2 + 1).toNatClampNeg)]) (st := []) (q := 97) C hR (fun x h => c_X12_leads (zl Z) (zG Z) x3 (I (k + 14) (x2 + 1).toNatClampNeg) hk I h) hk mv_X12_leads lk_X12_186 rfl (by decide) (fun _ => rfl) (Nat.le_of_ble_eq_true rfl) rfl rfl dX12_hopes_94 rfl (fun I2 => ?_)
    refine w_aload_n (v := k) C dX12_hopes_97 rfl (q := 98) rfl ?_
    refine w_iload_n (v := x2) C dX12_hopes_98 rfl (q := 99) rfl ?_
    refine w_iconst (v := (1)) C dX12_hopes_99 (by decide) (q := 100) rfl ?_
    refine w_iadd C dX12_hopes_100 (q := 101) rfl ?_
    refine w_callV (val := fun r3 => some (.int r3)) (mem := fun r3 => I2) (st1 := fun r3 => [.int r3]) (As := [.int (x2 + 1)]) (st := []) (q := 104) C hR (fun x h => c_X12_isSome (zl Z) (zG Z) (x2 + 1) hk I2 h) hk mv_X12_isSome lk_X12_190 rfl (by decide) (fun _ => rfl) (Nat.le_of_ble_eq_true rfl) rfl rfl dX12_hopes_101 rfl (fun r3 => ?_)
    refine w_istore C dX12_hopes_104 (Nat.le_of_ble_eq_true rfl) (L' := [some (rf (zG Z) k), some (.int p1), some (.int x2), some (.int x3), some (.int r3)]) rfl (q := 106) rfl ?_
    exact WF.less (L' := [some (rf (zG Z) k), some (.int p1), some (.int x2), some (.int x3), some (.int r3)]) (m_X12_hopes_j106_ok C hR k p1 x2 x3 r3 hk I2 hB hX0) ⟨rfl, rfl, rfl, rfl, rfl, trivial⟩
def m_X12_hopes_j57 (k : Nat) (p1 : Int32) (x2 : Int32) (x3 : Int32) (y0 : Int32) (I : Mem) : Option ((Int32 × Mem) ⊕ ((Mem))) :=
  if y0 = 0 then (m_X12_hopes_j79 k p1 x2 x3 y0 I) else (if x2 = p1 then (Option.bind (m_X12_canEnd k x3 I) fun r4 => m_X12_hopes_j106 k p1 x2 x3 r4 I) else (m_X12_hopes_j79 k p1 x2 x3 y0 I))
set_option maxRecDepth 100000 in
set_option maxHeartbeats 4000000 in
theorem m_X12_hopes_j57_ok {Z : Zx} {K : ((Int32 × Mem) ⊕ ((Mem))) → Prop} (C : Cx Z cX12_hopes 5 RX12) (hR : RM Z 2 54) (k : Nat) (p1 : Int32) (x2 : Int32) (x3 : Int32) (y0 : Int32) (hk : isO k 12) (I : Mem) (hB : ∀ a, K (.inl a) → WM Z a.2 8 [some (rf (zG Z) k), some (.int p1), some (.int x2), some (.int a.1), none] []) (hX0 : ∀ b, K (.inr (b)) → WM Z b 126 [some (rf (zG Z) k), some (.int p1), some (.int x2), none, none] []) : WF Z K (m_X12_hopes_j57 k p1 x2 x3 y0 I) I 57 [some (rf (zG Z) k), some (.int p1), some (.int x2), some (.int x3), none] [.int y0] := by
  unfold m_X12_hopes_j57
  refine w_istore C dX12_hopes_57 (Nat.le_of_ble_eq_true rfl) (L' := [some (rf (zG Z) k), some (.int p1), some (.int x2), some (.int x3), some (.int y0)]) rfl (q := 59) rfl ?_
  refine w_iload (v := y0) C dX12_hopes_59 rfl (q := 61) rfl ?_
  refine w_if_eq (tgt := 79) (q := 64) C dX12_hopes_61 (by decide) rfl (fun _ => ?_) (fun _ => ?_)
  · exact WF.less (L' := [some (rf (zG Z) k), some (.int p1), some (.int x2), some (.int x3), some (.int y0)]) (m_X12_hopes_j79_ok C hR k p1 x2 x3 y0 hk I hB hX0) ⟨rfl, rfl, rfl, rfl, rfl, trivial⟩
  · refine w_iload_n (v := x2) C dX12_hopes_64 rfl (q := 65) rfl ?_
    refine w_iload_n (v := p1) C dX12_hopes_65 rfl (q := 66) rfl ?_
    refine w_icmp_ne (tgt := 79) (q := 69) C dX12_hopes_66 (by decide) rfl (fun _ => ?_) (fun _ => ?_)
    · refine w_aload_n (v := k) C dX12_hopes_69 rfl (q := 70) rfl ?_
      refine w_iload_n (v := x3) C dX12_hopes_70 rfl (q := 71) rfl ?_
      refine w_callV (val := fun r4 => some (.int r4)) (mem := fun r4 => I) (st1 := fun r4 => [.int r4]) (As := [.int x3]) (st := []) (q := 74) C hR (fun x h => c_X12_canEnd (zl Z) (zG Z) x3 hk I h) hk mv_X12_canEnd lk_X12_183 rfl (by decide) (fun _ => rfl) (Nat.le_of_ble_eq_true rfl) rfl rfl dX12_hopes_71 rfl (fun r4 => ?_)
      refine w_istore C dX12_hopes_74 (Nat.le_of_ble_eq_true rfl) (L' := [some (rf (zG Z) k), some (.int p1), some (.int x2), some (.int x3), some (.int r4)]) rfl (q := 76) rfl ?_
      refine w_goto (tgt := 106) C dX12_hopes_76 (by decide) ?_
      exact WF.less (L' := [some (rf (zG Z) k), some (.int p1), some (.int x2), some (.int x3), some (.int r4)]) (m_X12_hopes_j106_ok C hR k p1 x2 x3 r4 hk I hB hX0) ⟨rfl, rfl, rfl, rfl, rfl, trivial⟩
    · exact WF.less (L' := [some (rf (zG Z) k), some (.int p1), some (.int x2), some (.int x3), some (.int y0)]) (m_X12_hopes_j79_ok C hR k p1 x2 x3 y0 hk I hB hX0) ⟨rfl, rfl, rfl, rfl, rfl, trivial⟩
def m_X12_hopes_j56 (k : Nat) (p1 : Int32) (x2 : Int32) (x3 : Int32) (I : Mem) : Option ((Int32 × Mem) ⊕ ((Mem))) :=
  m_X12_hopes_j57 k p1 x2 x3 ((0 : Int32)) I
set_option maxRecDepth 100000 in
set_option maxHeartbeats 4000000 in
theorem m_X12_hopes_j56_ok {Z : Zx} {K : ((Int32 × Mem) ⊕ ((Mem))) → Prop} (C : Cx Z cX12_hopes 5 RX12) (hR : RM Z 2 54) (k : Nat) (p1 : Int32) (x2 : Int32) (x3 : Int32) (hk : isO k 12) (I : Mem) (hB : ∀ a, K (.inl a) → WM Z a.2 8 [some (rf (zG Z) k), some (.int p1), some (.int x2), some (.int a.1), none] []) (hX0 : ∀ b, K (.inr (b)) → WM Z b 126 [some (rf (zG Z) k), some (.int p1), some (.int x2), none, none] []) : WF Z K (m_X12_hopes_j56 k p1 x2 x3 I) I 56 [some (rf (zG Z) k), some (.int p1), some (.int x2), some (.int x3), none] [] := by
  unfold m_X12_hopes_j56
  refine w_iconst (v := (0)) C dX12_hopes_56 (by decide) (q := 57) rfl ?_
  exact WF.less (L' := [some (rf (zG Z) k), some (.int p1), some (.int x2), some (.int x3), none]) (m_X12_hopes_j57_ok C hR k p1 x2 x3 ((0 : Int32)) hk I hB hX0) ⟨rfl, rfl, rfl, rfl, trivial⟩
def m_X12_hopes_b8 (k : Nat) (p1 : Int32) (x2 : Int32) (x3 : Int32) (I : Mem) : Option ((Int32 × Mem) ⊕ ((Mem))) :=
  if 1000 < x3 then (some (.inr (I))) else (if x3 = 1000 then (if x2 = 0 then (m_X12_hopes_j57 k p1 x2 x3 ((1 : Int32)) I) else (m_X12_hopes_j57 k p1 x2 x3 ((0 : Int32)) I)) else (if x3 - x3 / 10 * 10 ≤ 0 then (m_X12_hopes_j56 k p1 x2 x3 I) else (if I k 4 ≤ x3 / 100 then (m_X12_hopes_j56 k p1 x2 x3 I) else (m_X12_hopes_j57 k p1 x2 x3 ((1 : Int32)) I))))
set_option maxRecDepth 100000 in
set_option maxHeartbeats 4000000 in
theorem m_X12_hopes_b8_ok {Z : Zx} {K : ((Int32 × Mem) ⊕ ((Mem))) → Prop} (C : Cx Z cX12_hopes 5 RX12) (hR : RM Z 2 54) (k : Nat) (p1 : Int32) (x2 : Int32) (x3 : Int32) (hk : isO k 12) (I : Mem) (hB : ∀ a, K (.inl a) → WM Z a.2 8 [some (rf (zG Z) k), some (.int p1), some (.int x2), some (.int a.1), none] []) (hX0 : ∀ b, K (.inr (b)) → WM Z b 126 [some (rf (zG Z) k), some (.int p1), some (.int x2), none, none] []) : WF Z K (m_X12_hopes_b8 k p1 x2 x3 I) I 8 [some (rf (zG Z) k), some (.int p1), some (.int x2), some (.int x3), none] [] := by
  unfold m_X12_hopes_b8
  refine w_iload_n (v := x3) C dX12_hopes_8 rfl (q := 9) rfl ?_
  refine w_sipush (v := (1000)) C dX12_hopes_9 (by decide) (q := 12) rfl ?_
  refine w_icmp_gt (tgt := 126) (q := 15) C dX12_hopes_12 (by decide) rfl (fun _ => ?_) (fun _ => ?_)
  · exact w_jmp (fun h => WM.less (L' := [some (rf (zG Z) k), some (.int p1), some (.int x2), none, none]) (hX0 _ h) ⟨rfl, rfl, rfl, trivial⟩)
  · refine w_iload_n (v := x3) C dX12_hopes_15 rfl (q := 16) rfl ?_
    refine w_sipush (v := (1000)) C dX12_hopes_16 (by decide) (q := 19) rfl ?_
    refine w_icmp_ne (tgt := 34) (q := 22) C dX12_hopes_19 (by decide) rfl (fun _ => ?_) (fun _ => ?_)
    · refine w_iload_n (v := x2) C dX12_hopes_22 rfl (q := 23) rfl ?_
      refine w_if_ne (tgt := 30) (q := 26) C dX12_hopes_23 (by decide) rfl (fun _ => ?_) (fun _ => ?_)
      · refine w_iconst (v := (1)) C dX12_hopes_26 (by decide) (q := 27) rfl ?_
        refine w_goto (tgt := 57) C dX12_hopes_27 (by decide) ?_
        exact WF.less (L' := [some (rf (zG Z) k), some (.int p1), some (.int x2), some (.int x3), none]) (m_X12_hopes_j57_ok C hR k p1 x2 x3 ((1 : Int32)) hk I hB hX0) ⟨rfl, rfl, rfl, rfl, trivial⟩
      · refine w_iconst (v := (0)) C dX12_hopes_30 (by decide) (q := 31) rfl ?_
        refine w_goto (tgt := 57) C dX12_hopes_31 (by decide) ?_
        exact WF.less (L' := [some (rf (zG Z) k), some (.int p1), some (.int x2), some (.int x3), none]) (m_X12_hopes_j57_ok C hR k p1 x2 x3 ((0 : Int32)) hk I hB hX0) ⟨rfl, rfl, rfl, rfl, trivial⟩
    · refine w_iload_n (v := x3) C dX12_hopes_34 rfl (q := 35) rfl ?_
      refine w_bipush (v := (10)) C dX12_hopes_35 (by decide) (q := 37) rfl ?_
      refine w_iremL C (by decide) dX12_hopes_37 (q := 38) rfl ?_
      refine w_if_le (tgt := 56) (q := 41) C dX12_hopes_38 (by decide) rfl (fun _ => ?_) (fun _ => ?_)
      · exact WF.less (L' := [some (rf (zG Z) k), some (.int p1), some (.int x2), some (.int x3), none]) (m_X12_hopes_j56_ok C hR k p1 x2 x3 hk I hB hX0) ⟨rfl, rfl, rfl, rfl, trivial⟩
      · refine w_iload_n (v := x3) C dX12_hopes_41 rfl (q := 42) rfl ?_
        refine w_bipush (v := (100)) C dX12_hopes_42 (by decide) (q := 44) rfl ?_
        refine w_idivL C (by decide) dX12_hopes_44 (q := 45) rfl ?_
        refine w_aload_n (v := k) C dX12_hopes_45 rfl (q := 46) rfl ?_
        refine g_X12_4 C hk lk_X12_123 dX12_hopes_46 (q := 49) rfl ?_
        refine w_icmp_ge (tgt := 56) (q := 52) C dX12_hopes_49 (by decide) rfl (fun _ => ?_) (fun _ => ?_)
        · exact WF.less (L' := [some (rf (zG Z) k), some (.int p1), some (.int x2), some (.int x3), none]) (m_X12_hopes_j56_ok C hR k p1 x2 x3 hk I hB hX0) ⟨rfl, rfl, rfl, rfl, trivial⟩
        · refine w_iconst (v := (1)) C dX12_hopes_52 (by decide) (q := 53) rfl ?_
          refine w_goto (tgt := 57) C dX12_hopes_53 (by decide) ?_
          exact WF.less (L' := [some (rf (zG Z) k), some (.int p1), some (.int x2), some (.int x3), none]) (m_X12_hopes_j57_ok C hR k p1 x2 x3 ((1 : Int32)) hk I hB hX0) ⟨rfl, rfl, rfl, rfl, trivial⟩
def m_X12_hopes_b2 (k : Nat) (p1 : Int32) (x2 : Int32) (I : Mem) : Option ((Int32 × Mem) ⊕ ((Mem))) :=
  if x2 < 0 then (some (.inr (I))) else (Option.bind (loopF (fun a => m_X12_hopes_b8 k p1 x2 a.1 a.2) FU ((0 : Int32), I)) (fun b5 => some (.inl (x2 + (-1), b5))))
set_option maxRecDepth 100000 in
set_option maxHeartbeats 4000000 in
theorem m_X12_hopes_b2_ok {Z : Zx} {K : ((Int32 × Mem) ⊕ ((Mem))) → Prop} (C : Cx Z cX12_hopes 5 RX12) (hR : RM Z 2 54) (k : Nat) (p1 : Int32) (x2 : Int32) (hk : isO k 12) (I : Mem) (hB : ∀ a, K (.inl a) → WM Z a.2 2 [some (rf (zG Z) k), some (.int p1), some (.int a.1), none, none] []) (hX0 : ∀ b, K (.inr (b)) → WM Z b 132 [none, none, none, none, none] []) : WF Z K (m_X12_hopes_b2 k p1 x2 I) I 2 [some (rf (zG Z) k), some (.int p1), some (.int x2), none, none] [] := by
  unfold m_X12_hopes_b2
  refine w_iload_n (v := x2) C dX12_hopes_2 rfl (q := 3) rfl ?_
  refine w_if_lt (tgt := 132) (q := 6) C dX12_hopes_3 (by decide) rfl (fun _ => ?_) (fun _ => ?_)
  · exact w_jmp (fun h => WM.less (L' := [none, none, none, none, none]) (hX0 _ h) trivial)
  · refine w_iconst (v := (0)) C dX12_hopes_6 (by decide) (q := 7) rfl ?_
    refine w_istore_n C dX12_hopes_7 (Nat.le_of_ble_eq_true rfl) (L' := [some (rf (zG Z) k), some (.int p1), some (.int x2), some (.int 0), none]) rfl (q := 8) rfl ?_
    refine WF.less (L' := [some (rf (zG Z) k), some (.int p1), some (.int x2), some (.int 0), none]) (w_loopF (pc := 8) (a := ((0 : Int32), I)) (mem := fun a => a.2) (lo := fun a => [some (rf (zG Z) k), some (.int p1), some (.int x2), some (.int a.1), none]) (E := fun b5 => WM Z b5 126 [some (rf (zG Z) k), some (.int p1), some (.int x2), none, none] []) (fun a => m_X12_hopes_b8_ok C hR k p1 x2 a.1 hk a.2 (fun _ h => h) (fun _ h => h)) ?_) ⟨rfl, rfl, rfl, rfl, trivial⟩
    intro b5
    refine w_hx ?_
    refine w_iinc (v := x2 + (-1)) C dX12_hopes_126 rfl rfl (L' := [some (rf (zG Z) k), some (.int p1), some (.int (x2 + (-1))), none, none]) rfl (q := 129) rfl ?_
    refine w_goto (tgt := 2) C dX12_hopes_129 (by decide) ?_
    exact w_jmp (fun h => WM.less (L' := [some (rf (zG Z) k), some (.int p1), some (.int (x2 + (-1))), none, none]) (hB _ h) ⟨rfl, rfl, rfl, trivial⟩)
def m_X12_hopes (k : Nat) (p1 : Int32) (I : Mem) : Option (Mem) :=
  Option.bind (loopF (fun a => m_X12_hopes_b2 k p1 a.1 a.2) FU (p1, I)) (fun b6 => some b6)
set_option maxRecDepth 100000 in
set_option maxHeartbeats 4000000 in
theorem m_X12_hopes_ok {Z : Zx} {K : Mem → Prop} (C : Cx Z cX12_hopes 5 RX12) (hR : RM Z 2 54) (k : Nat) (p1 : Int32) (hk : isO k 12) (I : Mem) (hK : ∀ y, K (y) → RetV Z cX12_hopes y) : WF Z K (m_X12_hopes k p1 I) I 0 [some (rf (zG Z) k), some (.int p1), none, none, none] [] := by
  unfold m_X12_hopes
  refine w_iload_n (v := p1) C dX12_hopes_0 rfl (q := 1) rfl ?_
  refine w_istore_n C dX12_hopes_1 (Nat.le_of_ble_eq_true rfl) (L' := [some (rf (zG Z) k), some (.int p1), some (.int p1), none, none]) rfl (q := 2) rfl ?_
  refine WF.less (L' := [some (rf (zG Z) k), some (.int p1), some (.int p1), none, none]) (w_loopF (pc := 2) (a := (p1, I)) (mem := fun a => a.2) (lo := fun a => [some (rf (zG Z) k), some (.int p1), some (.int a.1), none, none]) (E := fun b6 => WM Z b6 132 [none, none, none, none, none] []) (fun a => m_X12_hopes_b2_ok C hR k p1 a.1 hk a.2 (fun _ h => h) (fun _ h => h)) ?_) ⟨rfl, rfl, rfl, trivial⟩
  intro b6
  refine w_hx ?_
  exact w_vret C (hK _) dX12_hopes_132
theorem c_X12_hopes (l : Launch) (G : Gx) {k : Nat} (p1 : Int32) (hk : isO k 12) (I : Mem) {x : Mem} (h : m_X12_hopes k p1 I = some x) : Ct l G yX12_hopes cX12_hopes 5 none 2 54 [rf G k, .int p1] I (none) x := Ct.of (by decide +kernel) rfl (Nat.le_of_ble_eq_true rfl) ret_v (fun Z hG hl C hR hret => by
  subst hG
  exact m_X12_hopes_ok (K := fun y => y = x) C hR k p1 hk I (fun y hy => by subst hy; exact hret) x h rfl)
def m_X12_viable_j26 (k : Nat) (p1 : Int32) (x2 : Int32) (y0 : Nat) (y1 : Int32) (y2 : Int32) (I : Mem) : Option ((Int32 × Mem) ⊕ ((Mem))) :=
  gd (inb y1 19019) (gd (okz y2) (bnd (ms I y0 y1.toNatClampNeg y2) fun I1 => some (.inl (x2 + 1, I1))))
set_option maxRecDepth 100000 in
set_option maxHeartbeats 4000000 in
theorem m_X12_viable_j26_ok {Z : Zx} {K : ((Int32 × Mem) ⊕ ((Mem))) → Prop} (C : Cx Z cX12_viable 6 RX12) (hR : RM Z 2 54) (k : Nat) (p1 : Int32) (x2 : Int32) (y0 : Nat) (y1 : Int32) (y2 : Int32) (hk : isO k 12) (hy0 : isA y0 2 19019) (I : Mem) (hB : ∀ a, K (.inl a) → WM Z a.2 2 [some (rf (zG Z) k), some (.int p1), some (.int a.1), none, none, none] []) (hX0 : ∀ b, K (.inr (b)) → WM Z b 33 [some (rf (zG Z) k), some (.int p1), none, none, none, none] []) : WF Z K (m_X12_viable_j26 k p1 x2 y0 y1 y2 I) I 26 [some (rf (zG Z) k), some (.int p1), some (.int x2), none, none, none] [.int y2, .int y1, rf (zG Z) y0] := by
  unfold m_X12_viable_j26
  refine w_zast C hy0 dX12_viable_26 (q := 27) rfl (fun _ I1 => ?_)
  refine w_iinc (v := x2 + 1) C dX12_viable_27 rfl rfl (L' := [some (rf (zG Z) k), some (.int p1), some (.int (x2 + 1)), none, none, none]) rfl (q := 30) rfl ?_
  refine w_goto (tgt := 2) C dX12_viable_30 (by decide) ?_
  exact w_jmp (fun h => WM.less (L' := [some (rf (zG Z) k), some (.int p1), some (.int (x2 + 1)), none, none, none]) (hB _ h) ⟨rfl, rfl, rfl, trivial⟩)
def m_X12_viable_b2 (k : Nat) (p1 : Int32) (x2 : Int32) (I : Mem) : Option ((Int32 × Mem) ⊕ ((Mem))) :=
  if 1000 < x2 then (some (.inr (I))) else (if x2 = 1000 then (m_X12_viable_j26 k p1 x2 (k + 24) x2 ((1 : Int32)) I) else (m_X12_viable_j26 k p1 x2 (k + 24) x2 ((0 : Int32)) I))
set_option maxRecDepth 100000 in
set_option maxHeartbeats 4000000 in
theorem m_X12_viable_b2_ok {Z : Zx} {K : ((Int32 × Mem) ⊕ ((Mem))) → Prop} (C : Cx Z cX12_viable 6 RX12) (hR : RM Z 2 54) (k : Nat) (p1 : Int32) (x2 : Int32) (hk : isO k 12) (I : Mem) (hB : ∀ a, K (.inl a) → WM Z a.2 2 [some (rf (zG Z) k), some (.int p1), some (.int a.1), none, none, none] []) (hX0 : ∀ b, K (.inr (b)) → WM Z b 33 [some (rf (zG Z) k), some (.int p1), none, none, none, none] []) : WF Z K (m_X12_viable_b2 k p1 x2 I) I 2 [some (rf (zG Z) k), some (.int p1), some (.int x2), none, none, none] [] := by
  unfold m_X12_viable_b2
  refine w_iload_n (v := x2) C dX12_viable_2 rfl (q := 3) rfl ?_
  refine w_sipush (v := (1000)) C dX12_viable_3 (by decide) (q := 6) rfl ?_
  refine w_icmp_gt (tgt := 33) (q := 9) C dX12_viable_6 (by decide) rfl (fun _ => ?_) (fun _ => ?_)
  · exact w_jmp (fun h => WM.less (L' := [some (rf (zG Z) k), some (.int p1), none, none, none, none]) (hX0 _ h) ⟨rfl, rfl, trivial⟩)
  · refine w_aload_n (v := k) C dX12_viable_9 rfl (q := 10) rfl ?_
    refine g_X12_33 C hk lk_X12_81 dX12_viable_10 (q := 13) rfl ?_
    refine w_iload_n (v := x2) C dX12_viable_13 rfl (q := 14) rfl ?_
    refine w_iload_n (v := x2) C dX12_viable_14 rfl (q := 15) rfl ?_
    refine w_sipush (v := (1000)) C dX12_viable_15 (by decide) (q := 18) rfl ?_
    refine w_icmp_ne (tgt := 25) (q := 21) C dX12_viable_18 (by decide) rfl (fun _ => ?_) (fun _ => ?_)
    · refine w_iconst (v := (1)) C dX12_viable_21 (by decide) (q := 22) rfl ?_
      refine w_goto (tgt := 26) C dX12_viable_22 (by decide) ?_
      exact WF.less (L' := [some (rf (zG Z) k), some (.int p1), some (.int x2), none, none, none]) (m_X12_viable_j26_ok C hR k p1 x2 (k + 24) x2 ((1 : Int32)) hk (st_X12_33 hk).2 I hB hX0) ⟨rfl, rfl, rfl, trivial⟩
    · refine w_iconst (v := (0)) C dX12_viable_25 (by decide) (q := 26) rfl ?_
      exact WF.less (L' := [some (rf (zG Z) k), some (.int p1), some (.int x2), none, none, none]) (m_X12_viable_j26_ok C hR k p1 x2 (k + 24) x2 ((0 : Int32)) hk (st_X12_33 hk).2 I hB hX0) ⟨rfl, rfl, rfl, trivial⟩
def m_X12_viable_b42 (k : Nat) (p1 : Int32) (x2 : Int32) (x3 : Int32) (I : Mem) : Option ((Int32 × Mem) ⊕ ((Mem))) :=
  if 1000 < x3 then (some (.inr (I))) else (gd (inb (((((1001 : Int32)) * x2) + 1001) + x3) 19019) (gd (okz ((0 : Int32))) (bnd (ms I (k + 24) (((((1001 : Int32)) * x2) + 1001) + x3).toNatClampNeg 0) fun I3 => some (.inl (x3 + 1, I3)))))
set_option maxRecDepth 100000 in
set_option maxHeartbeats 4000000 in
theorem m_X12_viable_b42_ok {Z : Zx} {K : ((Int32 × Mem) ⊕ ((Mem))) → Prop} (C : Cx Z cX12_viable 6 RX12) (hR : RM Z 2 54) (k : Nat) (p1 : Int32) (x2 : Int32) (x3 : Int32) (hk : isO k 12) (I : Mem) (hB : ∀ a, K (.inl a) → WM Z a.2 42 [some (rf (zG Z) k), some (.int p1), some (.int x2), some (.int a.1), none, none] []) (hX0 : ∀ b, K (.inr (b)) → WM Z b 72 [some (rf (zG Z) k), some (.int p1), some (.int x2), none, none, none] []) : WF Z K (m_X12_viable_b42 k p1 x2 x3 I) I 42 [some (rf (zG Z) k), some (.int p1), some (.int x2), some (.int x3), none, none] [] := by
  unfold m_X12_viable_b42
  refine w_iload_n (v := x3) C dX12_viable_42 rfl (q := 43) rfl ?_
  refine w_sipush (v := (1000)) C dX12_viable_43 (by decide) (q := 46) rfl ?_
  refine w_icmp_gt (tgt := 72) (q := 49) C dX12_viable_46 (by decide) rfl (fun _ => ?_) (fun _ => ?_)
  · exact w_jmp (fun h => WM.less (L' := [some (rf (zG Z) k), some (.int p1), some (.int x2), none, none, none]) (hX0 _ h) ⟨rfl, rfl, rfl, trivial⟩)
  · refine w_aload_n (v := k) C dX12_viable_49 rfl (q := 50) rfl ?_
    refine g_X12_33 C hk lk_X12_81 dX12_viable_50 (q := 53) rfl ?_
    refine w_sipush (v := (1001)) C dX12_viable_53 (by decide) (q := 56) rfl ?_
    refine w_iload_n (v := x2) C dX12_viable_56 rfl (q := 57) rfl ?_
    refine w_imul C dX12_viable_57 (q := 58) rfl ?_
    refine w_sipush (v := (1001)) C dX12_viable_58 (by decide) (q := 61) rfl ?_
    refine w_iadd C dX12_viable_61 (q := 62) rfl ?_
    refine w_iload_n (v := x3) C dX12_viable_62 rfl (q := 63) rfl ?_
    refine w_iadd C dX12_viable_63 (q := 64) rfl ?_
    refine w_iconst (v := (0)) C dX12_viable_64 (by decide) (q := 65) rfl ?_
    refine w_zast C (st_X12_33 hk).2 dX12_viable_65 (q := 66) rfl (fun _ I3 => ?_)
    refine w_iinc (v := x3 + 1) C dX12_viable_66 rfl rfl (L' := [some (rf (zG Z) k), some (.int p1), some (.int x2), some (.int (x3 + 1)), none, none]) rfl (q := 69) rfl ?_
    refine w_goto (tgt := 42) C dX12_viable_69 (by decide) ?_
    exact w_jmp (fun h => WM.less (L' := [some (rf (zG Z) k), some (.int p1), some (.int x2), some (.int (x3 + 1)), none, none]) (hB _ h) ⟨rfl, rfl, rfl, rfl, trivial⟩)
def m_X12_viable_j158 (k : Nat) (p1 : Int32) (x2 : Int32) (x3 : Int32) (x4 : Int32) (I : Mem) : Option ((Int32 × Int32 × Mem) ⊕ ((Int32 × Mem))) :=
  some (.inl (x3, x4 + 1, I))
set_option maxRecDepth 100000 in
set_option maxHeartbeats 4000000 in
theorem m_X12_viable_j158_ok {Z : Zx} {K : ((Int32 × Int32 × Mem) ⊕ ((Int32 × Mem))) → Prop} (C : Cx Z cX12_viable 6 RX12) (hR : RM Z 2 54) (k : Nat) (p1 : Int32) (x2 : Int32) (x3 : Int32) (x4 : Int32) (hk : isO k 12) (I : Mem) (hB : ∀ a, K (.inl a) → WM Z a.2.2 77 [some (rf (zG Z) k), some (.int p1), some (.int x2), some (.int a.1), some (.int a.2.1), none] []) (hX0 : ∀ b, K (.inr (b)) → WM Z b.2 164 [some (rf (zG Z) k), some (.int p1), some (.int x2), some (.int b.1), none, none] []) : WF Z K (m_X12_viable_j158 k p1 x2 x3 x4 I) I 158 [some (rf (zG Z) k), some (.int p1), some (.int x2), some (.int x3), some (.int x4), none] [] := by
  unfold m_X12_viable_j158
  refine w_iinc (v := x4 + 1) C dX12_viable_158 rfl rfl (L' := [some (rf (zG Z) k), some (.int p1), some (.int x2), some (.int x3), some (.int (x4 + 1)), none]) rfl (q := 161) rfl ?_
  refine w_goto (tgt := 77) C dX12_viable_161 (by decide) ?_
  exact w_jmp (fun h => WM.less (L' := [some (rf (zG Z) k), some (.int p1), some (.int x2), some (.int x3), some (.int (x4 + 1)), none]) (hB _ h) ⟨rfl, rfl, rfl, rfl, rfl, trivial⟩)
def m_X12_viable_b118 (k : Nat) (p1 : Int32) (x2 : Int32) (x4 : Int32) (x3 : Int32) (x5 : Int32) (I : Mem) : Option ((Int32 × Int32 × Mem) ⊕ ((Int32 × Mem))) :=
  if I k 35 ≤ x5 then (some (.inr ((x3, I)))) else (gd (inb x5 64) (gd (inb (((((1001 : Int32)) * x2) + 1001) + (I (k + 25) x5.toNatClampNeg)) 19019) (gd (okz ((1 : Int32))) (bnd (ms I (k + 24) (((((1001 : Int32)) * x2) + 1001) + (I (k + 25) x5.toNatClampNeg)).toNatClampNeg 1) fun I6 => some (.inl (1, x5 + 1, I6))))))
set_option maxRecDepth 100000 in
set_option maxHeartbeats 4000000 in
theorem m_X12_viable_b118_ok {Z : Zx} {K : ((Int32 × Int32 × Mem) ⊕ ((Int32 × Mem))) → Prop} (C : Cx Z cX12_viable 6 RX12) (hR : RM Z 2 54) (k : Nat) (p1 : Int32) (x2 : Int32) (x4 : Int32) (x3 : Int32) (x5 : Int32) (hk : isO k 12) (I : Mem) (hB : ∀ a, K (.inl a) → WM Z a.2.2 118 [some (rf (zG Z) k), some (.int p1), some (.int x2), some (.int a.1), some (.int x4), some (.int a.2.1)] []) (hX0 : ∀ b, K (.inr (b)) → WM Z b.2 158 [some (rf (zG Z) k), some (.int p1), some (.int x2), some (.int b.1), some (.int x4), none] []) : WF Z K (m_X12_viable_b118 k p1 x2 x4 x3 x5 I) I 118 [some (rf (zG Z) k), some (.int p1), some (.int x2), some (.int x3), some (.int x4), some (.int x5)] [] := by
  unfold m_X12_viable_b118
  refine w_iload (v := x5) C dX12_viable_118 rfl (q := 120) rfl ?_
  refine w_aload_n (v := k) C dX12_viable_120 rfl (q := 121) rfl ?_
  refine g_X12_35 C hk lk_X12_173 dX12_viable_121 (q := 124) rfl ?_
  refine w_icmp_ge (tgt := 158) (q := 127) C dX12_viable_124 (by decide) rfl (fun _ => ?_) (fun _ => ?_)
  · exact w_jmp (fun h => WM.less (L' := [some (rf (zG Z) k), some (.int p1), some (.int x2), some (.int x3), some (.int x4), none]) (hX0 _ h) ⟨rfl, rfl, rfl, rfl, rfl, trivial⟩)
  · refine w_aload_n (v := k) C dX12_viable_127 rfl (q := 128) rfl ?_
    refine g_X12_33 C hk lk_X12_81 dX12_viable_128 (q := 131) rfl ?_
    refine w_sipush (v := (1001)) C dX12_viable_131 (by decide) (q := 134) rfl ?_
    refine w_iload_n (v := x2) C dX12_viable_134 rfl (q := 135) rfl ?_
    refine w_imul C dX12_viable_135 (q := 136) rfl ?_
    refine w_sipush (v := (1001)) C dX12_viable_136 (by decide) (q := 139) rfl ?_
    refine w_iadd C dX12_viable_139 (q := 140) rfl ?_
    refine w_aload_n (v := k) C dX12_viable_140 rfl (q := 141) rfl ?_
    refine g_X12_34 C hk lk_X12_84 dX12_viable_141 (q := 144) rfl ?_
    refine w_iload (v := x5) C dX12_viable_144 rfl (q := 146) rfl ?_
    refine w_iald C (st_X12_34 hk).2 dX12_viable_146 (q := 147) rfl (fun _ => ?_)
    refine w_iadd C dX12_viable_147 (q := 148) rfl ?_
    refine w_iconst (v := (1)) C dX12_viable_148 (by decide) (q := 149) rfl ?_
    refine w_zast C (st_X12_33 hk).2 dX12_viable_149 (q := 150) rfl (fun _ I6 => ?_)
    refine w_iconst (v := (1)) C dX12_viable_150 (by decide) (q := 151) rfl ?_
    refine w_istore_n C dX12_viable_151 (Nat.le_of_ble_eq_true rfl) (L' := [some (rf (zG Z) k), some (.int p1), some (.int x2), some (.int 1), some (.int x4), some (.int x5)]) rfl (q := 152) rfl ?_
    refine w_iinc (v := x5 + 1) C dX12_viable_152 rfl rfl (L' := [some (rf (zG Z) k), some (.int p1), some (.int x2), some (.int 1), some (.int x4), some (.int (x5 + 1))]) rfl (q := 155) rfl ?_
    refine w_goto (tgt := 118) C dX12_viable_155 (by decide) ?_
    exact w_jmp (fun h => WM.less (L' := [some (rf (zG Z) k), some (.int p1), some (.int x2), some (.int 1), some (.int x4), some (.int (x5 + 1))]) (hB _ h) ⟨rfl, rfl, rfl, rfl, rfl, rfl, trivial⟩)
def m_X12_viable_b77 (k : Nat) (p1 : Int32) (x2 : Int32) (x3 : Int32) (x4 : Int32) (I : Mem) : Option ((Int32 × Int32 × Mem) ⊕ ((Int32 × Mem))) :=
  if 1000 < x4 then (some (.inr ((x3, I)))) else (gd (inb ((((1001 : Int32)) * x2) + x4) 19019) (if I (k + 24) ((((1001 : Int32)) * x2) + x4).toNatClampNeg = 0 then (m_X12_viable_j158 k p1 x2 x3 x4 I) else (gd (inb (x2 + 1) 20) (Option.bind (m_X12_leads k x4 (I (k + 14) (x2 + 1).toNatClampNeg) I) fun I5 => Option.bind (loopF (fun a => m_X12_viable_b118 k p1 x2 x4 a.1 a.2.1 a.2.2) FU (x3, (0 : Int32), I5)) (fun b7 => m_X12_viable_j158 k p1 x2 b7.1 x4 b7.2)))))
set_option maxRecDepth 100000 in
set_option maxHeartbeats 4000000 in
theorem m_X12_viable_b77_ok {Z : Zx} {K : ((Int32 × Int32 × Mem) ⊕ ((Int32 × Mem))) → Prop} (C : Cx Z cX12_viable 6 RX12) (hR : RM Z 2 54) (k : Nat) (p1 : Int32) (x2 : Int32) (x3 : Int32) (x4 : Int32) (hk : isO k 12) (I : Mem) (hB : ∀ a, K (.inl a) → WM Z a.2.2 77 [some (rf (zG Z) k), some (.int p1), some (.int x2), some (.int a.1), some (.int a.2.1), none] []) (hX0 : ∀ b, K (.inr (b)) → WM Z b.2 164 [some (rf (zG Z) k), some (.int p1), some (.int x2), some (.int b.1), none, none] []) : WF Z K (m_X12_viable_b77 k p1 x2 x3 x4 I) I 77 [some (rf (zG Z) k), some (.int p1), some (.int x2), some (.int x3), some (.int x4), none] [] := by
  unfold m_X12_viable_b77
  refine w_iload (v := x4) C dX12_viable_77 rfl (q := 79) rfl ?_
  refine w_sipush (v := (1000)) C dX12_viable_79 (by decide) (q := 82) rfl ?_
  refine w_icmp_gt (tgt := 164) (q := 85) C dX12_viable_82 (by decide) rfl (fun _ => ?_) (fun _ => ?_)
  · exact w_jmp (fun h => WM.less (L' := [some (rf (zG Z) k), some (.int p1), some (.int x2), some (.int x3), none, none]) (hX0 _ h) ⟨rfl, rfl, rfl, rfl, trivial⟩)
  · refine w_aload_n (v := k) C dX12_viable_85 rfl (q := 86) rfl ?_
    refine g_X12_33 C hk lk_X12_81 dX12_viable_86 (q := 89) rfl ?_
    refine w_sipush (v := (1001)) C dX12_viable_89 (by decide) (q := 92) rfl ?_
    refine w_iload_n (v := x2) C dX12_viable_92 rfl (q := 93) rfl ?_
    refine w_imul C dX12_viable_93 (q := 94) rfl ?_
    refine w_iload (v := x4) C dX12_viable_94 rfl (q := 96) rfl ?_
    refine w_iadd C dX12_viable_96 (q := 97) rfl ?_
    refine w_zald C (st_X12_33 hk).2 dX12_viable_97 (q := 98) rfl (fun _ => ?_)
    refine w_if_eq (tgt := 158) (q := 101) C dX12_viable_98 (by decide) rfl (fun _ => ?_) (fun _ => ?_)
    · exact WF.less (L' := [some (rf (zG Z) k), some (.int p1), some (.int x2), some (.int x3), some (.int x4), none]) (m_X12_viable_j158_ok C hR k p1 x2 x3 x4 hk I hB hX0) ⟨rfl, rfl, rfl, rfl, rfl, trivial⟩
    · refine w_aload_n (v := k) C dX12_viable_101 rfl (q := 102) rfl ?_
      refine w_iload (v := x4) C dX12_viable_102 rfl (q := 104) rfl ?_
      refine w_aload_n (v := k) C dX12_viable_104 rfl (q := 105) rfl ?_
      refine g_X12_18 C hk lk_X12_51 dX12_viable_105 (q := 108) rfl ?_
      refine w_iload_n (v := x2) C dX12_viable_108 rfl (q := 109) rfl ?_
      refine w_iconst (v := (1)) C dX12_viable_109 (by decide) (q := 110) rfl ?_
      refine w_iadd C dX12_viable_110 (q := 111) rfl ?_
      refine w_cald C (st_X12_18 hk).2 dX12_viable_111 (q := 112) rfl (fun _ => ?_)
      refine w_callV (val := fun I5 => none) (mem := fun I5 => I5) (st1 := fun I5 => []) (As := [.int x4, .int (I (k + 14) (x2 + 1).toNatClampNeg)]) (st := []) (q := 115) C hR (fun x h => c_X12_leads (zl Z) (zG Z) x4 (I (k + 14) (x2 + 1).toNatClampNeg) hk I h) hk mv_X12_leads lk_X12_186 rfl (by decide) (fun _ => rfl) (Nat.le_of_ble_eq_true rfl) rfl rfl dX12_viable_112 rfl (fun I5 => ?_)
      refine w_iconst (v := (0)) C dX12_viable_115 (by decide) (q := 116) rfl ?_
      refine w_istore C dX12_viable_116 (Nat.le_of_ble_eq_true rfl) (L' := [some (rf (zG Z) k), some (.int p1), some (.int x2), some (.int x3), some (.int x4), some (.int 0)]) rfl (q := 118) rfl ?_
      refine WF.less (L' := [some (rf (zG Z) k), some (.int p1), some (.int x2), some (.int x3), some (.int x4), some (.int 0)]) (w_loopF (pc := 118) (a := (x3, (0 : Int32), I5)) (mem := fun a => a.2.2) (lo := fun a => [some (rf (zG Z) k), some (.int p1), some (.int x2), some (.int a.1), some (.int x4), some (.int a.2.1)]) (E := fun b7 => WM Z b7.2 158 [some (rf (zG Z) k), some (.int p1), some (.int x2), some (.int b7.1), some (.int x4), none] []) (fun a => m_X12_viable_b118_ok C hR k p1 x2 x4 a.1 a.2.1 hk a.2.2 (fun _ h => h) (fun _ h => h)) ?_) ⟨rfl, rfl, rfl, rfl, rfl, rfl, trivial⟩
      intro b7
      refine w_hx ?_
      exact WF.less (L' := [some (rf (zG Z) k), some (.int p1), some (.int x2), some (.int b7.1), some (.int x4), none]) (m_X12_viable_j158_ok C hR k p1 x2 b7.1 x4 hk b7.2 hB hX0) ⟨rfl, rfl, rfl, rfl, rfl, trivial⟩
def m_X12_viable_b35 (k : Nat) (p1 : Int32) (x2 : Int32) (I : Mem) : Option ((Int32 × Mem) ⊕ ((Int32 × Mem))) :=
  if p1 ≤ x2 then (some (.inr ((p1, I)))) else (Option.bind (loopF (fun a => m_X12_viable_b42 k p1 x2 a.1 a.2) FU ((0 : Int32), I)) (fun b4 => Option.bind (loopF (fun a => m_X12_viable_b77 k p1 x2 a.1 a.2.1 a.2.2) FU ((0 : Int32), (0 : Int32), b4)) (fun b8 => if b8.1 = 0 then (some (.inr ((x2, b8.2)))) else (some (.inl (x2 + 1, b8.2))))))
set_option maxRecDepth 100000 in
set_option maxHeartbeats 4000000 in
theorem m_X12_viable_b35_ok {Z : Zx} {K : ((Int32 × Mem) ⊕ ((Int32 × Mem))) → Prop} (C : Cx Z cX12_viable 6 RX12) (hR : RM Z 2 54) (k : Nat) (p1 : Int32) (x2 : Int32) (hk : isO k 12) (I : Mem) (hB : ∀ a, K (.inl a) → WM Z a.2 35 [some (rf (zG Z) k), some (.int p1), some (.int a.1), none, none, none] []) (hK : ∀ y, K (.inr (y)) → RetI Z cX12_viable .int y.1 y.2) : WF Z K (m_X12_viable_b35 k p1 x2 I) I 35 [some (rf (zG Z) k), some (.int p1), some (.int x2), none, none, none] [] := by
  unfold m_X12_viable_b35
  refine w_iload_n (v := x2) C dX12_viable_35 rfl (q := 36) rfl ?_
  refine w_iload_n (v := p1) C dX12_viable_36 rfl (q := 37) rfl ?_
  refine w_icmp_ge (tgt := 176) (q := 40) C dX12_viable_37 (by decide) rfl (fun _ => ?_) (fun _ => ?_)
  · refine w_iload_n (v := p1) C dX12_viable_176 rfl (q := 177) rfl ?_
    exact w_iret C (hK _) rfl dX12_viable_177
  · refine w_iconst (v := (0)) C dX12_viable_40 (by decide) (q := 41) rfl ?_
    refine w_istore_n C dX12_viable_41 (Nat.le_of_ble_eq_true rfl) (L' := [some (rf (zG Z) k), some (.int p1), some (.int x2), some (.int 0), none, none]) rfl (q := 42) rfl ?_
    refine WF.less (L' := [some (rf (zG Z) k), some (.int p1), some (.int x2), some (.int 0), none, none]) (w_loopF (pc := 42) (a := ((0 : Int32), I)) (mem := fun a => a.2) (lo := fun a => [some (rf (zG Z) k), some (.int p1), some (.int x2), some (.int a.1), none, none]) (E := fun b4 => WM Z b4 72 [some (rf (zG Z) k), some (.int p1), some (.int x2), none, none, none] []) (fun a => m_X12_viable_b42_ok C hR k p1 x2 a.1 hk a.2 (fun _ h => h) (fun _ h => h)) ?_) ⟨rfl, rfl, rfl, rfl, trivial⟩
    intro b4
    refine w_hx ?_
    refine w_iconst (v := (0)) C dX12_viable_72 (by decide) (q := 73) rfl ?_
    refine w_istore_n C dX12_viable_73 (Nat.le_of_ble_eq_true rfl) (L' := [some (rf (zG Z) k), some (.int p1), some (.int x2), some (.int 0), none, none]) rfl (q := 74) rfl ?_
    refine w_iconst (v := (0)) C dX12_viable_74 (by decide) (q := 75) rfl ?_
    refine w_istore C dX12_viable_75 (Nat.le_of_ble_eq_true rfl) (L' := [some (rf (zG Z) k), some (.int p1), some (.int x2), some (.int 0), some (.int 0), none]) rfl (q := 77) rfl ?_
    refine WF.less (L' := [some (rf (zG Z) k), some (.int p1), some (.int x2), some (.int 0), some (.int 0), none]) (w_loopF (pc := 77) (a := ((0 : Int32), (0 : Int32), b4)) (mem := fun a => a.2.2) (lo := fun a => [some (rf (zG Z) k), some (.int p1), some (.int x2), some (.int a.1), some (.int a.2.1), none]) (E := fun b8 => WM Z b8.2 164 [some (rf (zG Z) k), some (.int p1), some (.int x2), some (.int b8.1), none, none] []) (fun a => m_X12_viable_b77_ok C hR k p1 x2 a.1 a.2.1 hk a.2.2 (fun _ h => h) (fun _ h => h)) ?_) ⟨rfl, rfl, rfl, rfl, rfl, trivial⟩
    intro b8
    refine w_hx ?_
    refine w_iload_n (v := b8.1) C dX12_viable_164 rfl (q := 165) rfl ?_
    refine w_if_ne (tgt := 170) (q := 168) C dX12_viable_165 (by decide) rfl (fun _ => ?_) (fun _ => ?_)
    · refine w_iload_n (v := x2) C dX12_viable_168 rfl (q := 169) rfl ?_
      exact w_iret C (hK _) rfl dX12_viable_169
    · refine w_iinc (v := x2 + 1) C dX12_viable_170 rfl rfl (L' := [some (rf (zG Z) k), some (.int p1), some (.int (x2 + 1)), some (.int b8.1), none, none]) rfl (q := 173) rfl ?_
      refine w_goto (tgt := 35) C dX12_viable_173 (by decide) ?_
      exact w_jmp (fun h => WM.less (L' := [some (rf (zG Z) k), some (.int p1), some (.int (x2 + 1)), none, none, none]) (hB _ h) ⟨rfl, rfl, rfl, trivial⟩)
def m_X12_viable (k : Nat) (p1 : Int32) (I : Mem) : Option (Int32 × Mem) :=
  Option.bind (loopF (fun a => m_X12_viable_b2 k p1 a.1 a.2) FU ((0 : Int32), I)) (fun b2 => Option.bind (loopF (fun a => m_X12_viable_b35 k p1 a.1 a.2) FU ((0 : Int32), b2)) (fun b9 => some b9))
set_option maxRecDepth 100000 in
set_option maxHeartbeats 4000000 in
theorem m_X12_viable_ok {Z : Zx} {K : (Int32 × Mem) → Prop} (C : Cx Z cX12_viable 6 RX12) (hR : RM Z 2 54) (k : Nat) (p1 : Int32) (hk : isO k 12) (I : Mem) (hK : ∀ y, K (y) → RetI Z cX12_viable .int y.1 y.2) : WF Z K (m_X12_viable k p1 I) I 0 [some (rf (zG Z) k), some (.int p1), none, none, none, none] [] := by
  unfold m_X12_viable
  refine w_iconst (v := (0)) C dX12_viable_0 (by decide) (q := 1) rfl ?_
  refine w_istore_n C dX12_viable_1 (Nat.le_of_ble_eq_true rfl) (L' := [some (rf (zG Z) k), some (.int p1), some (.int 0), none, none, none]) rfl (q := 2) rfl ?_
  refine WF.less (L' := [some (rf (zG Z) k), some (.int p1), some (.int 0), none, none, none]) (w_loopF (pc := 2) (a := ((0 : Int32), I)) (mem := fun a => a.2) (lo := fun a => [some (rf (zG Z) k), some (.int p1), some (.int a.1), none, none, none]) (E := fun b2 => WM Z b2 33 [some (rf (zG Z) k), some (.int p1), none, none, none, none] []) (fun a => m_X12_viable_b2_ok C hR k p1 a.1 hk a.2 (fun _ h => h) (fun _ h => h)) ?_) ⟨rfl, rfl, rfl, trivial⟩
  intro b2
  refine w_hx ?_
  refine w_iconst (v := (0)) C dX12_viable_33 (by decide) (q := 34) rfl ?_
  refine w_istore_n C dX12_viable_34 (Nat.le_of_ble_eq_true rfl) (L' := [some (rf (zG Z) k), some (.int p1), some (.int 0), none, none, none]) rfl (q := 35) rfl ?_
  refine WF.less (L' := [some (rf (zG Z) k), some (.int p1), some (.int 0), none, none, none]) (w_loopF (pc := 35) (a := ((0 : Int32), b2)) (mem := fun a => a.2) (lo := fun a => [some (rf (zG Z) k), some (.int p1), some (.int a.1), none, none, none]) (E := fun b9 => RetI Z cX12_viable .int b9.1 b9.2) (fun a => m_X12_viable_b35_ok C hR k p1 a.1 hk a.2 (fun _ h => h) (fun _ h => h)) ?_) ⟨rfl, rfl, rfl, trivial⟩
  intro b9
  exact w_hr (hK _)
theorem c_X12_viable (l : Launch) (G : Gx) {k : Nat} (p1 : Int32) (hk : isO k 12) (I : Mem) {x : Int32 × Mem} (h : m_X12_viable k p1 I = some x) : Ct l G yX12_viable cX12_viable 6 (some (.int)) 2 54 [rf G k, .int p1] I (some (.int x.1)) x.2 := Ct.of (by decide +kernel) rfl (Nat.le_of_ble_eq_true rfl) ret_i (fun Z hG hl C hR hret => by
  subst hG
  exact m_X12_viable_ok (K := fun y => y = x) C hR k p1 hk I (fun y hy => by subst hy; exact hret) x h rfl)
def m_X12_matches_b81 (k : Nat) (x1 : Int32) (x3 : Int32) (x4 : Int32) (I : Mem) : Option ((Int32) ⊕ ((Int32))) :=
  gd (inb x4 64) (gd (inb (((((1001 : Int32)) * x3) + 1001) + (I (k + 25) x4.toNatClampNeg)) 19019) (if I (k + 24) (((((1001 : Int32)) * x3) + 1001) + (I (k + 25) x4.toNatClampNeg)).toNatClampNeg = 0 then (some (.inl (x4 + 1))) else (some (.inr (x4)))))
set_option maxRecDepth 100000 in
set_option maxHeartbeats 4000000 in
theorem m_X12_matches_b81_ok {Z : Zx} {K : ((Int32) ⊕ ((Int32))) → Prop} (C : Cx Z cX12_matches 5 RX12) (hR : RM Z 3 79) (k : Nat) (x1 : Int32) (x3 : Int32) (x4 : Int32) (hk : isO k 12) (I : Mem) (hB : ∀ a, K (.inl a) → WM Z I 81 [some (rf (zG Z) k), some (.int x1), none, some (.int x3), some (.int a)] []) (hX0 : ∀ b, K (.inr (b)) → WM Z I 112 [some (rf (zG Z) k), some (.int x1), none, some (.int x3), some (.int b)] []) : WF Z K (m_X12_matches_b81 k x1 x3 x4 I) I 81 [some (rf (zG Z) k), some (.int x1), none, some (.int x3), some (.int x4)] [] := by
  unfold m_X12_matches_b81
  refine w_aload_n (v := k) C dX12_matches_81 rfl (q := 82) rfl ?_
  refine g_X12_33 C hk lk_X12_81 dX12_matches_82 (q := 85) rfl ?_
  refine w_sipush (v := (1001)) C dX12_matches_85 (by decide) (q := 88) rfl ?_
  refine w_iload_n (v := x3) C dX12_matches_88 rfl (q := 89) rfl ?_
  refine w_imul C dX12_matches_89 (q := 90) rfl ?_
  refine w_sipush (v := (1001)) C dX12_matches_90 (by decide) (q := 93) rfl ?_
  refine w_iadd C dX12_matches_93 (q := 94) rfl ?_
  refine w_aload_n (v := k) C dX12_matches_94 rfl (q := 95) rfl ?_
  refine g_X12_34 C hk lk_X12_84 dX12_matches_95 (q := 98) rfl ?_
  refine w_iload (v := x4) C dX12_matches_98 rfl (q := 100) rfl ?_
  refine w_iald C (st_X12_34 hk).2 dX12_matches_100 (q := 101) rfl (fun _ => ?_)
  refine w_iadd C dX12_matches_101 (q := 102) rfl ?_
  refine w_zald C (st_X12_33 hk).2 dX12_matches_102 (q := 103) rfl (fun _ => ?_)
  refine w_if_ne (tgt := 112) (q := 106) C dX12_matches_103 (by decide) rfl (fun _ => ?_) (fun _ => ?_)
  · refine w_iinc (v := x4 + 1) C dX12_matches_106 rfl rfl (L' := [some (rf (zG Z) k), some (.int x1), none, some (.int x3), some (.int (x4 + 1))]) rfl (q := 109) rfl ?_
    refine w_goto (tgt := 81) C dX12_matches_109 (by decide) ?_
    exact w_jmp (fun h => WM.less (L' := [some (rf (zG Z) k), some (.int x1), none, some (.int x3), some (.int (x4 + 1))]) (hB _ h) ⟨rfl, rfl, rfl, rfl, trivial⟩)
  · exact w_jmp (fun h => WM.less (L' := [some (rf (zG Z) k), some (.int x1), none, some (.int x3), some (.int x4)]) (hX0 _ h) ⟨rfl, rfl, rfl, rfl, trivial⟩)
def m_X12_matches_b60 (k : Nat) (x1 : Int32) (x2 : Int32) (x3 : Int32) (I : Mem) : Option ((Int32 × Int32 × Mem) ⊕ ((Mem))) :=
  if x1 ≤ x3 then (some (.inr (I))) else (gd (inb (x3 + 1) 20) (Option.bind (m_X12_leads k x2 (I (k + 14) (x3 + 1).toNatClampNeg) I) fun I2 => Option.bind (loopF (fun a => m_X12_matches_b81 k x1 x3 a I2) FU ((0 : Int32))) (fun b3 => gd (inb b3 64) (gd (inb x3 20) (bnd (ms I2 (k + 22) x3.toNatClampNeg ((I2 (k + 25) b3.toNatClampNeg) / 100)) fun I4 => gd (inb x3 20) (bnd (ms I4 (k + 23) x3.toNatClampNeg (((I2 (k + 25) b3.toNatClampNeg) / 10) - ((I2 (k + 25) b3.toNatClampNeg) / 10) / 10 * 10)) fun I5 => some (.inl (I2 (k + 25) b3.toNatClampNeg, x3 + 1, I5))))))))
set_option maxRecDepth 100000 in
set_option maxHeartbeats 4000000 in
theorem m_X12_matches_b60_ok {Z : Zx} {K : ((Int32 × Int32 × Mem) ⊕ ((Mem))) → Prop} (C : Cx Z cX12_matches 5 RX12) (hR : RM Z 3 79) (k : Nat) (x1 : Int32) (x2 : Int32) (x3 : Int32) (hk : isO k 12) (I : Mem) (hB : ∀ a, K (.inl a) → WM Z a.2.2 60 [some (rf (zG Z) k), some (.int x1), some (.int a.1), some (.int a.2.1), none] []) (hX0 : ∀ b, K (.inr (b)) → WM Z b 149 [none, none, none, none, none] []) : WF Z K (m_X12_matches_b60 k x1 x2 x3 I) I 60 [some (rf (zG Z) k), some (.int x1), some (.int x2), some (.int x3), none] [] := by
  unfold m_X12_matches_b60
  refine w_iload_n (v := x3) C dX12_matches_60 rfl (q := 61) rfl ?_
  refine w_iload_n (v := x1) C dX12_matches_61 rfl (q := 62) rfl ?_
  refine w_icmp_ge (tgt := 149) (q := 65) C dX12_matches_62 (by decide) rfl (fun _ => ?_) (fun _ => ?_)
  · exact w_jmp (fun h => WM.less (L' := [none, none, none, none, none]) (hX0 _ h) trivial)
  · refine w_aload_n (v := k) C dX12_matches_65 rfl (q := 66) rfl ?_
    refine w_iload_n (v := x2) C dX12_matches_66 rfl (q := 67) rfl ?_
    refine w_aload_n (v := k) C dX12_matches_67 rfl (q := 68) rfl ?_
    refine g_X12_18 C hk lk_X12_51 dX12_matches_68 (q := 71) rfl ?_
    refine w_iload_n (v := x3) C dX12_matches_71 rfl (q := 72) rfl ?_
    refine w_iconst (v := (1)) C dX12_matches_72 (by decide) (q := 73) rfl ?_
    refine w_iadd C dX12_matches_73 (q := 74) rfl ?_
    refine w_cald C (st_X12_18 hk).2 dX12_matches_74 (q := 75) rfl (fun _ => ?_)
    refine w_callV (val := fun I2 => none) (mem := fun I2 => I2) (st1 := fun I2 => []) (As := [.int x2, .int (I (k + 14) (x3 + 1).toNatClampNeg)]) (st := []) (q := 78) C hR (fun x h => c_X12_leads (zl Z) (zG Z) x2 (I (k + 14) (x3 + 1).toNatClampNeg) hk I h) hk mv_X12_leads lk_X12_186 rfl (by decide) (fun _ => rfl) (Nat.le_of_ble_eq_true rfl) rfl rfl dX12_matches_75 rfl (fun I2 => ?_)
    refine w_iconst (v := (0)) C dX12_matches_78 (by decide) (q := 79) rfl ?_
    refine w_istore C dX12_matches_79 (Nat.le_of_ble_eq_true rfl) (L' := [some (rf (zG Z) k), some (.int x1), some (.int x2), some (.int x3), some (.int 0)]) rfl (q := 81) rfl ?_
    refine WF.less (L' := [some (rf (zG Z) k), some (.int x1), none, some (.int x3), some (.int 0)]) (w_loopF (pc := 81) (a := ((0 : Int32))) (mem := fun a => I2) (lo := fun a => [some (rf (zG Z) k), some (.int x1), none, some (.int x3), some (.int a)]) (E := fun b3 => WM Z I2 112 [some (rf (zG Z) k), some (.int x1), none, some (.int x3), some (.int b3)] []) (fun a => m_X12_matches_b81_ok C hR k x1 x3 a hk I2 (fun _ h => h) (fun _ h => h)) ?_) ⟨rfl, rfl, rfl, rfl, trivial⟩
    intro b3
    refine w_hx ?_
    refine w_aload_n (v := k) C dX12_matches_112 rfl (q := 113) rfl ?_
    refine g_X12_34 C hk lk_X12_84 dX12_matches_113 (q := 116) rfl ?_
    refine w_iload (v := b3) C dX12_matches_116 rfl (q := 118) rfl ?_
    refine w_iald C (st_X12_34 hk).2 dX12_matches_118 (q := 119) rfl (fun _ => ?_)
    refine w_istore_n C dX12_matches_119 (Nat.le_of_ble_eq_true rfl) (L' := [some (rf (zG Z) k), some (.int x1), some (.int (I2 (k + 25) b3.toNatClampNeg)), some (.int x3), some (.int b3)]) rfl (q := 120) rfl ?_
    refine w_aload_n (v := k) C dX12_matches_120 rfl (q := 121) rfl ?_
    refine g_X12_30 C hk lk_X12_75 dX12_matches_121 (q := 124) rfl ?_
    refine w_iload_n (v := x3) C dX12_matches_124 rfl (q := 125) rfl ?_
    refine w_iload_n (v := I2 (k + 25) b3.toNatClampNeg) C dX12_matches_125 rfl (q := 126) rfl ?_
    refine w_bipush (v := (100)) C dX12_matches_126 (by decide) (q := 128) rfl ?_
    refine w_idivL C (by decide) dX12_matches_128 (q := 129) rfl ?_
    refine w_iast C (st_X12_30 hk).2 dX12_matches_129 (q := 130) rfl (fun _ I4 => ?_)
    refine w_aload_n (v := k) C dX12_matches_130 rfl (q := 131) rfl ?_
    refine g_X12_31 C hk lk_X12_78 dX12_matches_131 (q := 134) rfl ?_
    refine w_iload_n (v := x3) C dX12_matches_134 rfl (q := 135) rfl ?_
    refine w_iload_n (v := I2 (k + 25) b3.toNatClampNeg) C dX12_matches_135 rfl (q := 136) rfl ?_
    refine w_bipush (v := (10)) C dX12_matches_136 (by decide) (q := 138) rfl ?_
    refine w_idivL C (by decide) dX12_matches_138 (q := 139) rfl ?_
    refine w_bipush (v := (10)) C dX12_matches_139 (by decide) (q := 141) rfl ?_
    refine w_iremL C (by decide) dX12_matches_141 (q := 142) rfl ?_
    refine w_iast C (st_X12_31 hk).2 dX12_matches_142 (q := 143) rfl (fun _ I5 => ?_)
    refine w_iinc (v := x3 + 1) C dX12_matches_143 rfl rfl (L' := [some (rf (zG Z) k), some (.int x1), some (.int (I2 (k + 25) b3.toNatClampNeg)), some (.int (x3 + 1)), some (.int b3)]) rfl (q := 146) rfl ?_
    refine w_goto (tgt := 60) C dX12_matches_146 (by decide) ?_
    exact w_jmp (fun h => WM.less (L' := [some (rf (zG Z) k), some (.int x1), some (.int (I2 (k + 25) b3.toNatClampNeg)), some (.int (x3 + 1)), none]) (hB _ h) ⟨rfl, rfl, rfl, rfl, trivial⟩)
def m_X12_matches_j42 (k : Nat) (x2 : Int32) (y0 : Nat) (y1 : Int32) (I : Mem) : Option (Mem) :=
  gd (inb (x2 + 1) 20) (Option.bind (m_X12_fault y0 y1 (I (k + 13) (x2 + 1).toNatClampNeg) I) fun I8 => some I8)
set_option maxRecDepth 100000 in
set_option maxHeartbeats 4000000 in
theorem m_X12_matches_j42_ok {Z : Zx} {K : Mem → Prop} (C : Cx Z cX12_matches 5 RX12) (hR : RM Z 3 79) (k : Nat) (x2 : Int32) (y0 : Nat) (y1 : Int32) (hk : isO k 12) (hy0 : isO y0 12) (I : Mem) (hK : ∀ y, K (y) → RetV Z cX12_matches y) : WF Z K (m_X12_matches_j42 k x2 y0 y1 I) I 42 [some (rf (zG Z) k), none, some (.int x2), none, none] [.int y1, rf (zG Z) y0] := by
  unfold m_X12_matches_j42
  refine w_aload_n (v := k) C dX12_matches_42 rfl (q := 43) rfl ?_
  refine g_X12_17 C hk lk_X12_48 dX12_matches_43 (q := 46) rfl ?_
  refine w_iload_n (v := x2) C dX12_matches_46 rfl (q := 47) rfl ?_
  refine w_iconst (v := (1)) C dX12_matches_47 (by decide) (q := 48) rfl ?_
  refine w_iadd C dX12_matches_48 (q := 49) rfl ?_
  refine w_iald C (st_X12_17 hk).2 dX12_matches_49 (q := 50) rfl (fun _ => ?_)
  refine w_callV (val := fun I8 => none) (mem := fun I8 => I8) (st1 := fun I8 => []) (As := [.int y1, .int (I (k + 13) (x2 + 1).toNatClampNeg)]) (st := []) (q := 53) C hR (fun x h => c_X12_fault (zl Z) (zG Z) y1 (I (k + 13) (x2 + 1).toNatClampNeg) hy0 I h) hy0 mv_X12_fault lk_X12_152 rfl (by decide) (fun _ => rfl) (Nat.le_of_ble_eq_true rfl) rfl rfl dX12_matches_50 rfl (fun I8 => ?_)
  exact w_vret C (hK _) dX12_matches_53
def m_X12_matches (k : Nat) (I : Mem) : Option (Mem) :=
  Option.bind (m_X12_hopes k ((I k 22) - 2) I) fun I1 => gd (inb 1000 19019) (if I1 (k + 24) ((1000 : Int32)).toNatClampNeg = 0 then (Option.bind (m_X12_viable k ((I k 22) - 2) I1) fun r7 => if (I k 22) - 2 ≤ r7.1 then (m_X12_matches_j42 k r7.1 k ((12 : Int32)) r7.2) else (m_X12_matches_j42 k r7.1 k ((11 : Int32)) r7.2)) else (Option.bind (loopF (fun a => m_X12_matches_b60 k ((I k 22) - 2) a.1 a.2.1 a.2.2) FU ((1000 : Int32), (0 : Int32), I1)) (fun b6 => some b6)))
set_option maxRecDepth 100000 in
set_option maxHeartbeats 4000000 in
theorem m_X12_matches_ok {Z : Zx} {K : Mem → Prop} (C : Cx Z cX12_matches 5 RX12) (hR : RM Z 3 79) (k : Nat) (hk : isO k 12) (I : Mem) (hK : ∀ y, K (y) → RetV Z cX12_matches y) : WF Z K (m_X12_matches k I) I 0 [some (rf (zG Z) k), none, none, none, none] [] := by
  unfold m_X12_matches
  refine w_aload_n (v := k) C dX12_matches_0 rfl (q := 1) rfl ?_
  refine g_X12_22 C hk lk_X12_149 dX12_matches_1 (q := 4) rfl ?_
  refine w_iconst (v := (2)) C dX12_matches_4 (by decide) (q := 5) rfl ?_
  refine w_isub C dX12_matches_5 (q := 6) rfl ?_
  refine w_istore_n C dX12_matches_6 (Nat.le_of_ble_eq_true rfl) (L' := [some (rf (zG Z) k), some (.int ((I k 22) - 2)), none, none, none]) rfl (q := 7) rfl ?_
  refine w_aload_n (v := k) C dX12_matches_7 rfl (q := 8) rfl ?_
  refine w_iload_n (v := (I k 22) - 2) C dX12_matches_8 rfl (q := 9) rfl ?_
  refine w_callV (val := fun I1 => none) (mem := fun I1 => I1) (st1 := fun I1 => []) (As := [.int ((I k 22) - 2)]) (st := []) (q := 12) C hR (fun x h => c_X12_hopes (zl Z) (zG Z) ((I k 22) - 2) hk I h) hk mv_X12_hopes lk_X12_193 rfl (by decide) (fun _ => rfl) (Nat.le_of_ble_eq_true rfl) rfl rfl dX12_matches_9 rfl (fun I1 => ?_)
  refine w_aload_n (v := k) C dX12_matches_12 rfl (q := 13) rfl ?_
  refine g_X12_33 C hk lk_X12_81 dX12_matches_13 (q := 16) rfl ?_
  refine w_sipush (v := (1000)) C dX12_matches_16 (by decide) (q := 19) rfl ?_
  refine w_zald C (st_X12_33 hk).2 dX12_matches_19 (q := 20) rfl (fun _ => ?_)
  refine w_if_ne (tgt := 54) (q := 23) C dX12_matches_20 (by decide) rfl (fun _ => ?_) (fun _ => ?_)
  · refine w_aload_n (v := k) C dX12_matches_23 rfl (q := 24) rfl ?_
    refine w_iload_n (v := (I k 22) - 2) C dX12_matches_24 rfl (q := 25) rfl ?_
    refine w_callV (val := fun r7 => some (.int r7.1)) (mem := fun r7 => r7.2) (st1 := fun r7 => [.int r7.1]) (As := [.int ((I k 22) - 2)]) (st := []) (q := 28) C hR (fun x h => c_X12_viable (zl Z) (zG Z) ((I k 22) - 2) hk I1 h) hk mv_X12_viable lk_X12_197 rfl (by decide) (fun _ => rfl) (Nat.le_of_ble_eq_true rfl) rfl rfl dX12_matches_25 rfl (fun r7 => ?_)
    refine w_istore_n C dX12_matches_28 (Nat.le_of_ble_eq_true rfl) (L' := [some (rf (zG Z) k), some (.int ((I k 22) - 2)), some (.int r7.1), none, none]) rfl (q := 29) rfl ?_
    refine w_aload_n (v := k) C dX12_matches_29 rfl (q := 30) rfl ?_
    refine w_iload_n (v := r7.1) C dX12_matches_30 rfl (q := 31) rfl ?_
    refine w_iload_n (v := (I k 22) - 2) C dX12_matches_31 rfl (q := 32) rfl ?_
    refine w_icmp_ge (tgt := 40) (q := 35) C dX12_matches_32 (by decide) rfl (fun _ => ?_) (fun _ => ?_)
    · refine w_bipush (v := (12)) C dX12_matches_40 (by decide) (q := 42) rfl ?_
      exact WF.less (L' := [some (rf (zG Z) k), none, some (.int r7.1), none, none]) (m_X12_matches_j42_ok C hR k r7.1 k ((12 : Int32)) hk hk r7.2 hK) ⟨rfl, rfl, trivial⟩
    · refine w_bipush (v := (11)) C dX12_matches_35 (by decide) (q := 37) rfl ?_
      refine w_goto (tgt := 42) C dX12_matches_37 (by decide) ?_
      exact WF.less (L' := [some (rf (zG Z) k), none, some (.int r7.1), none, none]) (m_X12_matches_j42_ok C hR k r7.1 k ((11 : Int32)) hk hk r7.2 hK) ⟨rfl, rfl, trivial⟩
  · refine w_sipush (v := (1000)) C dX12_matches_54 (by decide) (q := 57) rfl ?_
    refine w_istore_n C dX12_matches_57 (Nat.le_of_ble_eq_true rfl) (L' := [some (rf (zG Z) k), some (.int ((I k 22) - 2)), some (.int 1000), none, none]) rfl (q := 58) rfl ?_
    refine w_iconst (v := (0)) C dX12_matches_58 (by decide) (q := 59) rfl ?_
    refine w_istore_n C dX12_matches_59 (Nat.le_of_ble_eq_true rfl) (L' := [some (rf (zG Z) k), some (.int ((I k 22) - 2)), some (.int 1000), some (.int 0), none]) rfl (q := 60) rfl ?_
    refine WF.less (L' := [some (rf (zG Z) k), some (.int ((I k 22) - 2)), some (.int 1000), some (.int 0), none]) (w_loopF (pc := 60) (a := ((1000 : Int32), (0 : Int32), I1)) (mem := fun a => a.2.2) (lo := fun a => [some (rf (zG Z) k), some (.int ((I k 22) - 2)), some (.int a.1), some (.int a.2.1), none]) (E := fun b6 => WM Z b6 149 [none, none, none, none, none] []) (fun a => m_X12_matches_b60_ok C hR k ((I k 22) - 2) a.1 a.2.1 hk a.2.2 (fun _ h => h) (fun _ h => h)) ?_) ⟨rfl, rfl, rfl, rfl, trivial⟩
    intro b6
    refine w_hx ?_
    exact w_vret C (hK _) dX12_matches_149
theorem c_X12_matches (l : Launch) (G : Gx) {k : Nat} (hk : isO k 12) (I : Mem) {x : Mem} (h : m_X12_matches k I = some x) : Ct l G yX12_matches cX12_matches 5 none 3 79 [rf G k] I (none) x := Ct.of (by decide +kernel) rfl (Nat.le_of_ble_eq_true rfl) ret_v (fun Z hG hl C hR hret => by
  subst hG
  exact m_X12_matches_ok (K := fun y => y = x) C hR k hk I (fun y hy => by subst hy; exact hret) x h rfl)
def m_X12_accepts_b104 (k : Nat) (x1 : Int32) (x2 : Int32) (x3 : Int32) (I : Mem) : Option ((Int32 × Mem) ⊕ ((Mem))) :=
  gd (inb ((((5 : Int32)) * x1) + x2) 100) (if I (k + 20) ((((5 : Int32)) * x1) + x2).toNatClampNeg ≤ x3 then (some (.inr (I))) else (gd (inb ((((8 : Int32)) * (((((5 : Int32)) * x1) + 5) + x2)) + x3) 800) (gd (inb ((((8 : Int32)) * ((((5 : Int32)) * x1) + x2)) + x3) 800) (gd (okc (I (k + 17) ((((8 : Int32)) * (((((5 : Int32)) * x1) + 5) + x2)) + x3).toNatClampNeg)) (bnd (ms I (k + 21) ((((8 : Int32)) * ((((5 : Int32)) * x1) + x2)) + x3).toNatClampNeg (I (k + 17) ((((8 : Int32)) * (((((5 : Int32)) * x1) + 5) + x2)) + x3).toNatClampNeg)) fun I9 => some (.inl (x3 + 1, I9)))))))
set_option maxRecDepth 100000 in
set_option maxHeartbeats 4000000 in
theorem m_X12_accepts_b104_ok {Z : Zx} {K : ((Int32 × Mem) ⊕ ((Mem))) → Prop} (C : Cx Z cX12_accepts 4 RX12) (hR : RM Z 2 48) (k : Nat) (x1 : Int32) (x2 : Int32) (x3 : Int32) (hk : isO k 12) (I : Mem) (hB : ∀ a, K (.inl a) → WM Z a.2 104 [some (rf (zG Z) k), some (.int x1), some (.int x2), some (.int a.1)] []) (hX0 : ∀ b, K (.inr (b)) → WM Z b 156 [some (rf (zG Z) k), some (.int x1), some (.int x2), none] []) : WF Z K (m_X12_accepts_b104 k x1 x2 x3 I) I 104 [some (rf (zG Z) k), some (.int x1), some (.int x2), some (.int x3)] [] := by
  unfold m_X12_accepts_b104
  refine w_iload_n (v := x3) C dX12_accepts_104 rfl (q := 105) rfl ?_
  refine w_aload_n (v := k) C dX12_accepts_105 rfl (q := 106) rfl ?_
  refine g_X12_28 C hk lk_X12_69 dX12_accepts_106 (q := 109) rfl ?_
  refine w_iconst (v := (5)) C dX12_accepts_109 (by decide) (q := 110) rfl ?_
  refine w_iload_n (v := x1) C dX12_accepts_110 rfl (q := 111) rfl ?_
  refine w_imul C dX12_accepts_111 (q := 112) rfl ?_
  refine w_iload_n (v := x2) C dX12_accepts_112 rfl (q := 113) rfl ?_
  refine w_iadd C dX12_accepts_113 (q := 114) rfl ?_
  refine w_iald C (st_X12_28 hk).2 dX12_accepts_114 (q := 115) rfl (fun _ => ?_)
  refine w_icmp_ge (tgt := 156) (q := 118) C dX12_accepts_115 (by decide) rfl (fun _ => ?_) (fun _ => ?_)
  · exact w_jmp (fun h => WM.less (L' := [some (rf (zG Z) k), some (.int x1), some (.int x2), none]) (hX0 _ h) ⟨rfl, rfl, rfl, trivial⟩)
  · refine w_aload_n (v := k) C dX12_accepts_118 rfl (q := 119) rfl ?_
    refine g_X12_29 C hk lk_X12_72 dX12_accepts_119 (q := 122) rfl ?_
    refine w_bipush (v := (8)) C dX12_accepts_122 (by decide) (q := 124) rfl ?_
    refine w_iconst (v := (5)) C dX12_accepts_124 (by decide) (q := 125) rfl ?_
    refine w_iload_n (v := x1) C dX12_accepts_125 rfl (q := 126) rfl ?_
    refine w_imul C dX12_accepts_126 (q := 127) rfl ?_
    refine w_iload_n (v := x2) C dX12_accepts_127 rfl (q := 128) rfl ?_
    refine w_iadd C dX12_accepts_128 (q := 129) rfl ?_
    refine w_imul C dX12_accepts_129 (q := 130) rfl ?_
    refine w_iload_n (v := x3) C dX12_accepts_130 rfl (q := 131) rfl ?_
    refine w_iadd C dX12_accepts_131 (q := 132) rfl ?_
    refine w_aload_n (v := k) C dX12_accepts_132 rfl (q := 133) rfl ?_
    refine g_X12_21 C hk lk_X12_60 dX12_accepts_133 (q := 136) rfl ?_
    refine w_bipush (v := (8)) C dX12_accepts_136 (by decide) (q := 138) rfl ?_
    refine w_iconst (v := (5)) C dX12_accepts_138 (by decide) (q := 139) rfl ?_
    refine w_iload_n (v := x1) C dX12_accepts_139 rfl (q := 140) rfl ?_
    refine w_imul C dX12_accepts_140 (q := 141) rfl ?_
    refine w_iconst (v := (5)) C dX12_accepts_141 (by decide) (q := 142) rfl ?_
    refine w_iadd C dX12_accepts_142 (q := 143) rfl ?_
    refine w_iload_n (v := x2) C dX12_accepts_143 rfl (q := 144) rfl ?_
    refine w_iadd C dX12_accepts_144 (q := 145) rfl ?_
    refine w_imul C dX12_accepts_145 (q := 146) rfl ?_
    refine w_iload_n (v := x3) C dX12_accepts_146 rfl (q := 147) rfl ?_
    refine w_iadd C dX12_accepts_147 (q := 148) rfl ?_
    refine w_cald C (st_X12_21 hk).2 dX12_accepts_148 (q := 149) rfl (fun _ => ?_)
    refine w_cast C (st_X12_29 hk).2 dX12_accepts_149 (q := 150) rfl (fun _ I9 => ?_)
    refine w_iinc (v := x3 + 1) C dX12_accepts_150 rfl rfl (L' := [some (rf (zG Z) k), some (.int x1), some (.int x2), some (.int (x3 + 1))]) rfl (q := 153) rfl ?_
    refine w_goto (tgt := 104) C dX12_accepts_153 (by decide) ?_
    exact w_jmp (fun h => WM.less (L' := [some (rf (zG Z) k), some (.int x1), some (.int x2), some (.int (x3 + 1))]) (hB _ h) ⟨rfl, rfl, rfl, rfl, trivial⟩)
def m_X12_accepts_b70 (k : Nat) (x1 : Int32) (x2 : Int32) (I : Mem) : Option ((Int32 × Mem) ⊕ ((Mem))) :=
  gd (inb x1 20) (if I (k + 19) x1.toNatClampNeg ≤ x2 then (some (.inr (I))) else (gd (inb (((((5 : Int32)) * x1) + 5) + x2) 100) (gd (inb ((((5 : Int32)) * x1) + x2) 100) (bnd (ms I (k + 20) ((((5 : Int32)) * x1) + x2).toNatClampNeg (I (k + 16) (((((5 : Int32)) * x1) + 5) + x2).toNatClampNeg)) fun I8 => Option.bind (loopF (fun a => m_X12_accepts_b104 k x1 x2 a.1 a.2) FU ((0 : Int32), I8)) (fun b10 => some (.inl (x2 + 1, b10)))))))
set_option maxRecDepth 100000 in
set_option maxHeartbeats 4000000 in
theorem m_X12_accepts_b70_ok {Z : Zx} {K : ((Int32 × Mem) ⊕ ((Mem))) → Prop} (C : Cx Z cX12_accepts 4 RX12) (hR : RM Z 2 48) (k : Nat) (x1 : Int32) (x2 : Int32) (hk : isO k 12) (I : Mem) (hB : ∀ a, K (.inl a) → WM Z a.2 70 [some (rf (zG Z) k), some (.int x1), some (.int a.1), none] []) (hX0 : ∀ b, K (.inr (b)) → WM Z b 162 [some (rf (zG Z) k), some (.int x1), none, none] []) : WF Z K (m_X12_accepts_b70 k x1 x2 I) I 70 [some (rf (zG Z) k), some (.int x1), some (.int x2), none] [] := by
  unfold m_X12_accepts_b70
  refine w_iload_n (v := x2) C dX12_accepts_70 rfl (q := 71) rfl ?_
  refine w_aload_n (v := k) C dX12_accepts_71 rfl (q := 72) rfl ?_
  refine g_X12_27 C hk lk_X12_66 dX12_accepts_72 (q := 75) rfl ?_
  refine w_iload_n (v := x1) C dX12_accepts_75 rfl (q := 76) rfl ?_
  refine w_iald C (st_X12_27 hk).2 dX12_accepts_76 (q := 77) rfl (fun _ => ?_)
  refine w_icmp_ge (tgt := 162) (q := 80) C dX12_accepts_77 (by decide) rfl (fun _ => ?_) (fun _ => ?_)
  · exact w_jmp (fun h => WM.less (L' := [some (rf (zG Z) k), some (.int x1), none, none]) (hX0 _ h) ⟨rfl, rfl, trivial⟩)
  · refine w_aload_n (v := k) C dX12_accepts_80 rfl (q := 81) rfl ?_
    refine g_X12_28 C hk lk_X12_69 dX12_accepts_81 (q := 84) rfl ?_
    refine w_iconst (v := (5)) C dX12_accepts_84 (by decide) (q := 85) rfl ?_
    refine w_iload_n (v := x1) C dX12_accepts_85 rfl (q := 86) rfl ?_
    refine w_imul C dX12_accepts_86 (q := 87) rfl ?_
    refine w_iload_n (v := x2) C dX12_accepts_87 rfl (q := 88) rfl ?_
    refine w_iadd C dX12_accepts_88 (q := 89) rfl ?_
    refine w_aload_n (v := k) C dX12_accepts_89 rfl (q := 90) rfl ?_
    refine g_X12_20 C hk lk_X12_57 dX12_accepts_90 (q := 93) rfl ?_
    refine w_iconst (v := (5)) C dX12_accepts_93 (by decide) (q := 94) rfl ?_
    refine w_iload_n (v := x1) C dX12_accepts_94 rfl (q := 95) rfl ?_
    refine w_imul C dX12_accepts_95 (q := 96) rfl ?_
    refine w_iconst (v := (5)) C dX12_accepts_96 (by decide) (q := 97) rfl ?_
    refine w_iadd C dX12_accepts_97 (q := 98) rfl ?_
    refine w_iload_n (v := x2) C dX12_accepts_98 rfl (q := 99) rfl ?_
    refine w_iadd C dX12_accepts_99 (q := 100) rfl ?_
    refine w_iald C (st_X12_20 hk).2 dX12_accepts_100 (q := 101) rfl (fun _ => ?_)
    refine w_iast C (st_X12_28 hk).2 dX12_accepts_101 (q := 102) rfl (fun _ I8 => ?_)
    refine w_iconst (v := (0)) C dX12_accepts_102 (by decide) (q := 103) rfl ?_
    refine w_istore_n C dX12_accepts_103 (Nat.le_of_ble_eq_true rfl) (L' := [some (rf (zG Z) k), some (.int x1), some (.int x2), some (.int 0)]) rfl (q := 104) rfl ?_
    refine WF.less (L' := [some (rf (zG Z) k), some (.int x1), some (.int x2), some (.int 0)]) (w_loopF (pc := 104) (a := ((0 : Int32), I8)) (mem := fun a => a.2) (lo := fun a => [some (rf (zG Z) k), some (.int x1), some (.int x2), some (.int a.1)]) (E := fun b10 => WM Z b10 156 [some (rf (zG Z) k), some (.int x1), some (.int x2), none] []) (fun a => m_X12_accepts_b104_ok C hR k x1 x2 a.1 hk a.2 (fun _ h => h) (fun _ h => h)) ?_) ⟨rfl, rfl, rfl, rfl, trivial⟩
    intro b10
    refine w_hx ?_
    refine w_iinc (v := x2 + 1) C dX12_accepts_156 rfl rfl (L' := [some (rf (zG Z) k), some (.int x1), some (.int (x2 + 1)), none]) rfl (q := 159) rfl ?_
    refine w_goto (tgt := 70) C dX12_accepts_159 (by decide) ?_
    exact w_jmp (fun h => WM.less (L' := [some (rf (zG Z) k), some (.int x1), some (.int (x2 + 1)), none]) (hB _ h) ⟨rfl, rfl, rfl, trivial⟩)
def m_X12_accepts_b32 (k : Nat) (x1 : Int32) (I : Mem) : Option ((Int32 × Mem) ⊕ ((Mem))) :=
  if I k 32 ≤ x1 then (some (.inr (I))) else (gd (inb (x1 + 1) 20) (gd (inb x1 20) (gd (okc (I (k + 14) (x1 + 1).toNatClampNeg)) (bnd (ms I (k + 18) x1.toNatClampNeg (I (k + 14) (x1 + 1).toNatClampNeg)) fun I6 => gd (inb (x1 + 1) 20) (gd (inb x1 20) (bnd (ms I6 (k + 19) x1.toNatClampNeg (I6 (k + 15) (x1 + 1).toNatClampNeg)) fun I7 => Option.bind (loopF (fun a => m_X12_accepts_b70 k x1 a.1 a.2) FU ((0 : Int32), I7)) (fun b11 => some (.inl (x1 + 1, b11)))))))))
set_option maxRecDepth 100000 in
set_option maxHeartbeats 4000000 in
theorem m_X12_accepts_b32_ok {Z : Zx} {K : ((Int32 × Mem) ⊕ ((Mem))) → Prop} (C : Cx Z cX12_accepts 4 RX12) (hR : RM Z 2 48) (k : Nat) (x1 : Int32) (hk : isO k 12) (I : Mem) (hB : ∀ a, K (.inl a) → WM Z a.2 32 [some (rf (zG Z) k), some (.int a.1), none, none] []) (hX0 : ∀ b, K (.inr (b)) → WM Z b 168 [none, none, none, none] []) : WF Z K (m_X12_accepts_b32 k x1 I) I 32 [some (rf (zG Z) k), some (.int x1), none, none] [] := by
  unfold m_X12_accepts_b32
  refine w_iload_n (v := x1) C dX12_accepts_32 rfl (q := 33) rfl ?_
  refine w_aload_n (v := k) C dX12_accepts_33 rfl (q := 34) rfl ?_
  refine g_X12_32 C hk lk_X12_200 dX12_accepts_34 (q := 37) rfl ?_
  refine w_icmp_ge (tgt := 168) (q := 40) C dX12_accepts_37 (by decide) rfl (fun _ => ?_) (fun _ => ?_)
  · exact w_jmp (fun h => WM.less (L' := [none, none, none, none]) (hX0 _ h) trivial)
  · refine w_aload_n (v := k) C dX12_accepts_40 rfl (q := 41) rfl ?_
    refine g_X12_26 C hk lk_X12_63 dX12_accepts_41 (q := 44) rfl ?_
    refine w_iload_n (v := x1) C dX12_accepts_44 rfl (q := 45) rfl ?_
    refine w_aload_n (v := k) C dX12_accepts_45 rfl (q := 46) rfl ?_
    refine g_X12_18 C hk lk_X12_51 dX12_accepts_46 (q := 49) rfl ?_
    refine w_iload_n (v := x1) C dX12_accepts_49 rfl (q := 50) rfl ?_
    refine w_iconst (v := (1)) C dX12_accepts_50 (by decide) (q := 51) rfl ?_
    refine w_iadd C dX12_accepts_51 (q := 52) rfl ?_
    refine w_cald C (st_X12_18 hk).2 dX12_accepts_52 (q := 53) rfl (fun _ => ?_)
    refine w_cast C (st_X12_26 hk).2 dX12_accepts_53 (q := 54) rfl (fun _ I6 => ?_)
    refine w_aload_n (v := k) C dX12_accepts_54 rfl (q := 55) rfl ?_
    refine g_X12_27 C hk lk_X12_66 dX12_accepts_55 (q := 58) rfl ?_
    refine w_iload_n (v := x1) C dX12_accepts_58 rfl (q := 59) rfl ?_
    refine w_aload_n (v := k) C dX12_accepts_59 rfl (q := 60) rfl ?_
    refine g_X12_19 C hk lk_X12_54 dX12_accepts_60 (q := 63) rfl ?_
    refine w_iload_n (v := x1) C dX12_accepts_63 rfl (q := 64) rfl ?_
    refine w_iconst (v := (1)) C dX12_accepts_64 (by decide) (q := 65) rfl ?_
    refine w_iadd C dX12_accepts_65 (q := 66) rfl ?_
    refine w_iald C (st_X12_19 hk).2 dX12_accepts_66 (q := 67) rfl (fun _ => ?_)
    refine w_iast C (st_X12_27 hk).2 dX12_accepts_67 (q := 68) rfl (fun _ I7 => ?_)
    refine w_iconst (v := (0)) C dX12_accepts_68 (by decide) (q := 69) rfl ?_
    refine w_istore_n C dX12_accepts_69 (Nat.le_of_ble_eq_true rfl) (L' := [some (rf (zG Z) k), some (.int x1), some (.int 0), none]) rfl (q := 70) rfl ?_
    refine WF.less (L' := [some (rf (zG Z) k), some (.int x1), some (.int 0), none]) (w_loopF (pc := 70) (a := ((0 : Int32), I7)) (mem := fun a => a.2) (lo := fun a => [some (rf (zG Z) k), some (.int x1), some (.int a.1), none]) (E := fun b11 => WM Z b11 162 [some (rf (zG Z) k), some (.int x1), none, none] []) (fun a => m_X12_accepts_b70_ok C hR k x1 a.1 hk a.2 (fun _ h => h) (fun _ h => h)) ?_) ⟨rfl, rfl, rfl, trivial⟩
    intro b11
    refine w_hx ?_
    refine w_iinc (v := x1 + 1) C dX12_accepts_162 rfl rfl (L' := [some (rf (zG Z) k), some (.int (x1 + 1)), none, none]) rfl (q := 165) rfl ?_
    refine w_goto (tgt := 32) C dX12_accepts_165 (by decide) ?_
    exact w_jmp (fun h => WM.less (L' := [some (rf (zG Z) k), some (.int (x1 + 1)), none, none]) (hB _ h) ⟨rfl, rfl, trivial⟩)
def m_X12_accepts (k : Nat) (I : Mem) : Option (Mem) :=
  bnd (ms I k 23 1) fun I1 => bnd (ms I1 k 24 1) fun I2 => Option.bind (m_X12_numberIn k ((0 : Int32)) ((0 : Int32)) I2) fun r3 => bnd (ms I2 k 25 r3) fun I4 => bnd (ms I4 k 32 ((I4 k 22) - 2)) fun I5 => Option.bind (loopF (fun a => m_X12_accepts_b32 k a.1 a.2) FU ((0 : Int32), I5)) (fun b12 => some b12)
set_option maxRecDepth 100000 in
set_option maxHeartbeats 4000000 in
theorem m_X12_accepts_ok {Z : Zx} {K : Mem → Prop} (C : Cx Z cX12_accepts 4 RX12) (hR : RM Z 2 48) (k : Nat) (hk : isO k 12) (I : Mem) (hK : ∀ y, K (y) → RetV Z cX12_accepts y) : WF Z K (m_X12_accepts k I) I 0 [some (rf (zG Z) k), none, none, none] [] := by
  unfold m_X12_accepts
  refine w_aload_n (v := k) C dX12_accepts_0 rfl (q := 1) rfl ?_
  refine w_iconst (v := (1)) C dX12_accepts_1 (by decide) (q := 2) rfl ?_
  refine p_X12_23 C hk (by decide) lk_X12_140 dX12_accepts_2 (q := 5) rfl (fun I1 => ?_)
  refine w_aload_n (v := k) C dX12_accepts_5 rfl (q := 6) rfl ?_
  refine w_iconst (v := (1)) C dX12_accepts_6 (by decide) (q := 7) rfl ?_
  refine p_X12_24 C hk (by decide) lk_X12_167 dX12_accepts_7 (q := 10) rfl (fun I2 => ?_)
  refine w_aload_n (v := k) C dX12_accepts_10 rfl (q := 11) rfl ?_
  refine w_aload_n (v := k) C dX12_accepts_11 rfl (q := 12) rfl ?_
  refine w_iconst (v := (0)) C dX12_accepts_12 (by decide) (q := 13) rfl ?_
  refine w_iconst (v := (0)) C dX12_accepts_13 (by decide) (q := 14) rfl ?_
  refine w_callV (val := fun r3 => some (.int r3)) (mem := fun r3 => I2) (st1 := fun r3 => [.int r3, rf (zG Z) k]) (As := [.int 0, .int 0]) (st := [rf (zG Z) k]) (q := 17) C hR (fun x h => c_X12_numberIn (zl Z) (zG Z) ((0 : Int32)) ((0 : Int32)) hk I2 h) hk mv_X12_numberIn lk_X12_163 rfl (by decide) (fun _ => rfl) (Nat.le_of_ble_eq_true rfl) rfl rfl dX12_accepts_14 rfl (fun r3 => ?_)
  refine p_X12_25 C hk  lk_X12_170 dX12_accepts_17 (q := 20) rfl (fun I4 => ?_)
  refine w_aload_n (v := k) C dX12_accepts_20 rfl (q := 21) rfl ?_
  refine w_aload_n (v := k) C dX12_accepts_21 rfl (q := 22) rfl ?_
  refine g_X12_22 C hk lk_X12_149 dX12_accepts_22 (q := 25) rfl ?_
  refine w_iconst (v := (2)) C dX12_accepts_25 (by decide) (q := 26) rfl ?_
  refine w_isub C dX12_accepts_26 (q := 27) rfl ?_
  refine p_X12_32 C hk  lk_X12_200 dX12_accepts_27 (q := 30) rfl (fun I5 => ?_)
  refine w_iconst (v := (0)) C dX12_accepts_30 (by decide) (q := 31) rfl ?_
  refine w_istore_n C dX12_accepts_31 (Nat.le_of_ble_eq_true rfl) (L' := [some (rf (zG Z) k), some (.int 0), none, none]) rfl (q := 32) rfl ?_
  refine WF.less (L' := [some (rf (zG Z) k), some (.int 0), none, none]) (w_loopF (pc := 32) (a := ((0 : Int32), I5)) (mem := fun a => a.2) (lo := fun a => [some (rf (zG Z) k), some (.int a.1), none, none]) (E := fun b12 => WM Z b12 168 [none, none, none, none] []) (fun a => m_X12_accepts_b32_ok C hR k a.1 hk a.2 (fun _ h => h) (fun _ h => h)) ?_) ⟨rfl, rfl, trivial⟩
  intro b12
  refine w_hx ?_
  exact w_vret C (hK _) dX12_accepts_168
theorem c_X12_accepts (l : Launch) (G : Gx) {k : Nat} (hk : isO k 12) (I : Mem) {x : Mem} (h : m_X12_accepts k I = some x) : Ct l G yX12_accepts cX12_accepts 4 none 2 48 [rf G k] I (none) x := Ct.of (by decide +kernel) rfl (Nat.le_of_ble_eq_true rfl) ret_v (fun Z hG hl C hR hret => by
  subst hG
  exact m_X12_accepts_ok (K := fun y => y = x) C hR k hk I (fun y hy => by subst hy; exact hret) x h rfl)
def m_X12_read_j74 (k : Nat) (I : Mem) : Option (Int32 × Mem) :=
  bnd (ms I k 13 0) fun I4 => some ((I4 k 16, I4))
set_option maxRecDepth 100000 in
set_option maxHeartbeats 4000000 in
theorem m_X12_read_j74_ok {Z : Zx} {K : (Int32 × Mem) → Prop} (C : Cx Z cX12_read 1 RX12) (hR : RM Z 4 103) (k : Nat) (hk : isO k 12) (I : Mem) (hK : ∀ y, K (y) → RetI Z cX12_read .int y.1 y.2) : WF Z K (m_X12_read_j74 k I) I 74 [some (rf (zG Z) k)] [] := by
  unfold m_X12_read_j74
  refine w_aload_n (v := k) C dX12_read_74 rfl (q := 75) rfl ?_
  refine w_iconst (v := (0)) C dX12_read_75 (by decide) (q := 76) rfl ?_
  refine p_X12_13 C hk  lk_X12_143 dX12_read_76 (q := 79) rfl (fun I4 => ?_)
  refine w_aload_n (v := k) C dX12_read_79 rfl (q := 80) rfl ?_
  refine g_X12_16 C hk lk_X12_146 dX12_read_80 (q := 83) rfl ?_
  exact w_iret C (hK _) rfl dX12_read_83
def m_X12_read_j63 (k : Nat) (I : Mem) : Option (Int32 × Mem) :=
  if I k 16 = 0 then (Option.bind (m_X12_accepts k I) fun I5 => m_X12_read_j74 k I5) else (m_X12_read_j74 k I)
set_option maxRecDepth 100000 in
set_option maxHeartbeats 4000000 in
theorem m_X12_read_j63_ok {Z : Zx} {K : (Int32 × Mem) → Prop} (C : Cx Z cX12_read 1 RX12) (hR : RM Z 4 103) (k : Nat) (hk : isO k 12) (I : Mem) (hK : ∀ y, K (y) → RetI Z cX12_read .int y.1 y.2) : WF Z K (m_X12_read_j63 k I) I 63 [some (rf (zG Z) k)] [] := by
  unfold m_X12_read_j63
  refine w_aload_n (v := k) C dX12_read_63 rfl (q := 64) rfl ?_
  refine g_X12_16 C hk lk_X12_146 dX12_read_64 (q := 67) rfl ?_
  refine w_if_ne (tgt := 74) (q := 70) C dX12_read_67 (by decide) rfl (fun _ => ?_) (fun _ => ?_)
  · refine w_aload_n (v := k) C dX12_read_70 rfl (q := 71) rfl ?_
    refine w_callV (val := fun I5 => none) (mem := fun I5 => I5) (st1 := fun I5 => []) (As := []) (st := []) (q := 74) C hR (fun x h => c_X12_accepts (zl Z) (zG Z)  hk I h) hk mv_X12_accepts lk_X12_215 rfl (by decide) (fun _ => rfl) (Nat.le_of_ble_eq_true rfl) rfl rfl dX12_read_71 rfl (fun I5 => ?_)
    exact WF.less (L' := [some (rf (zG Z) k)]) (m_X12_read_j74_ok C hR k hk I5 hK) ⟨rfl, trivial⟩
  · exact WF.less (L' := [some (rf (zG Z) k)]) (m_X12_read_j74_ok C hR k hk I hK) ⟨rfl, trivial⟩
def m_X12_read_j52 (k : Nat) (I : Mem) : Option (Int32 × Mem) :=
  if I k 16 = 0 then (Option.bind (m_X12_matches k I) fun I6 => m_X12_read_j63 k I6) else (m_X12_read_j63 k I)
set_option maxRecDepth 100000 in
set_option maxHeartbeats 4000000 in
theorem m_X12_read_j52_ok {Z : Zx} {K : (Int32 × Mem) → Prop} (C : Cx Z cX12_read 1 RX12) (hR : RM Z 4 103) (k : Nat) (hk : isO k 12) (I : Mem) (hK : ∀ y, K (y) → RetI Z cX12_read .int y.1 y.2) : WF Z K (m_X12_read_j52 k I) I 52 [some (rf (zG Z) k)] [] := by
  unfold m_X12_read_j52
  refine w_aload_n (v := k) C dX12_read_52 rfl (q := 53) rfl ?_
  refine g_X12_16 C hk lk_X12_146 dX12_read_53 (q := 56) rfl ?_
  refine w_if_ne (tgt := 63) (q := 59) C dX12_read_56 (by decide) rfl (fun _ => ?_) (fun _ => ?_)
  · refine w_aload_n (v := k) C dX12_read_59 rfl (q := 60) rfl ?_
    refine w_callV (val := fun I6 => none) (mem := fun I6 => I6) (st1 := fun I6 => []) (As := []) (st := []) (q := 63) C hR (fun x h => c_X12_matches (zl Z) (zG Z)  hk I h) hk mv_X12_matches lk_X12_212 rfl (by decide) (fun _ => rfl) (Nat.le_of_ble_eq_true rfl) rfl rfl dX12_read_60 rfl (fun I6 => ?_)
    exact WF.less (L' := [some (rf (zG Z) k)]) (m_X12_read_j63_ok C hR k hk I6 hK) ⟨rfl, trivial⟩
  · exact WF.less (L' := [some (rf (zG Z) k)]) (m_X12_read_j63_ok C hR k hk I hK) ⟨rfl, trivial⟩
def m_X12_read_j41 (k : Nat) (I : Mem) : Option (Int32 × Mem) :=
  if I k 16 = 0 then (Option.bind (m_X12_numbers k I) fun I7 => m_X12_read_j52 k I7) else (m_X12_read_j52 k I)
set_option maxRecDepth 100000 in
set_option maxHeartbeats 4000000 in
theorem m_X12_read_j41_ok {Z : Zx} {K : (Int32 × Mem) → Prop} (C : Cx Z cX12_read 1 RX12) (hR : RM Z 4 103) (k : Nat) (hk : isO k 12) (I : Mem) (hK : ∀ y, K (y) → RetI Z cX12_read .int y.1 y.2) : WF Z K (m_X12_read_j41 k I) I 41 [some (rf (zG Z) k)] [] := by
  unfold m_X12_read_j41
  refine w_aload_n (v := k) C dX12_read_41 rfl (q := 42) rfl ?_
  refine g_X12_16 C hk lk_X12_146 dX12_read_42 (q := 45) rfl ?_
  refine w_if_ne (tgt := 52) (q := 48) C dX12_read_45 (by decide) rfl (fun _ => ?_) (fun _ => ?_)
  · refine w_aload_n (v := k) C dX12_read_48 rfl (q := 49) rfl ?_
    refine w_callV (val := fun I7 => none) (mem := fun I7 => I7) (st1 := fun I7 => []) (As := []) (st := []) (q := 52) C hR (fun x h => c_X12_numbers (zl Z) (zG Z)  hk I h) hk mv_X12_numbers lk_X12_209 rfl (by decide) (fun _ => rfl) (Nat.le_of_ble_eq_true rfl) rfl rfl dX12_read_49 rfl (fun I7 => ?_)
    exact WF.less (L' := [some (rf (zG Z) k)]) (m_X12_read_j52_ok C hR k hk I7 hK) ⟨rfl, trivial⟩
  · exact WF.less (L' := [some (rf (zG Z) k)]) (m_X12_read_j52_ok C hR k hk I hK) ⟨rfl, trivial⟩
def m_X12_read_j13 (k : Nat) (y0 : Nat) (y1 : Int32) (I : Mem) : Option (Int32 × Mem) :=
  Option.bind (m_X12_isFine y0 y1 I) fun r1 => if r1.1 = 0 then (some ((0, r1.2))) else (bnd (ms r1.2 k 16 0) fun I2 => Option.bind (m_X12_splits k I2) fun I3 => if I3 k 16 = 0 then (Option.bind (m_X12_envelope k I3) fun I8 => m_X12_read_j41 k I8) else (m_X12_read_j41 k I3))
set_option maxRecDepth 100000 in
set_option maxHeartbeats 4000000 in
theorem m_X12_read_j13_ok {Z : Zx} {K : (Int32 × Mem) → Prop} (C : Cx Z cX12_read 1 RX12) (hR : RM Z 4 103) (k : Nat) (y0 : Nat) (y1 : Int32) (hk : isO k 12) (hy0 : isO y0 12) (I : Mem) (hK : ∀ y, K (y) → RetI Z cX12_read .int y.1 y.2) : WF Z K (m_X12_read_j13 k y0 y1 I) I 13 [some (rf (zG Z) k)] [.int y1, rf (zG Z) y0] := by
  unfold m_X12_read_j13
  refine w_callV (val := fun r1 => some (.int r1.1)) (mem := fun r1 => r1.2) (st1 := fun r1 => [.int r1.1]) (As := [.int y1]) (st := []) (q := 16) C hR (fun x h => c_X12_isFine (zl Z) (zG Z) y1 hy0 I h) hy0 mv_X12_isFine lk_X12_126 rfl (by decide) (fun _ => rfl) (Nat.le_of_ble_eq_true rfl) rfl rfl dX12_read_13 rfl (fun r1 => ?_)
  refine w_if_ne (tgt := 21) (q := 19) C dX12_read_16 (by decide) rfl (fun _ => ?_) (fun _ => ?_)
  · refine w_iconst (v := (0)) C dX12_read_19 (by decide) (q := 20) rfl ?_
    exact w_iret C (hK _) rfl dX12_read_20
  · refine w_aload_n (v := k) C dX12_read_21 rfl (q := 22) rfl ?_
    refine w_iconst (v := (0)) C dX12_read_22 (by decide) (q := 23) rfl ?_
    refine p_X12_16 C hk  lk_X12_146 dX12_read_23 (q := 26) rfl (fun I2 => ?_)
    refine w_aload_n (v := k) C dX12_read_26 rfl (q := 27) rfl ?_
    refine w_callV (val := fun I3 => none) (mem := fun I3 => I3) (st1 := fun I3 => []) (As := []) (st := []) (q := 30) C hR (fun x h => c_X12_splits (zl Z) (zG Z)  hk I2 h) hk mv_X12_splits lk_X12_203 rfl (by decide) (fun _ => rfl) (Nat.le_of_ble_eq_true rfl) rfl rfl dX12_read_27 rfl (fun I3 => ?_)
    refine w_aload_n (v := k) C dX12_read_30 rfl (q := 31) rfl ?_
    refine g_X12_16 C hk lk_X12_146 dX12_read_31 (q := 34) rfl ?_
    refine w_if_ne (tgt := 41) (q := 37) C dX12_read_34 (by decide) rfl (fun _ => ?_) (fun _ => ?_)
    · refine w_aload_n (v := k) C dX12_read_37 rfl (q := 38) rfl ?_
      refine w_callV (val := fun I8 => none) (mem := fun I8 => I8) (st1 := fun I8 => []) (As := []) (st := []) (q := 41) C hR (fun x h => c_X12_envelope (zl Z) (zG Z)  hk I3 h) hk mv_X12_envelope lk_X12_206 rfl (by decide) (fun _ => rfl) (Nat.le_of_ble_eq_true rfl) rfl rfl dX12_read_38 rfl (fun I8 => ?_)
      exact WF.less (L' := [some (rf (zG Z) k)]) (m_X12_read_j41_ok C hR k hk I8 hK) ⟨rfl, trivial⟩
    · exact WF.less (L' := [some (rf (zG Z) k)]) (m_X12_read_j41_ok C hR k hk I3 hK) ⟨rfl, trivial⟩
def m_X12_read (k : Nat) (I : Mem) : Option (Int32 × Mem) :=
  if I k 11 = 0 then (m_X12_read_j13 k k ((0 : Int32)) I) else (m_X12_read_j13 k k ((1 : Int32)) I)
set_option maxRecDepth 100000 in
set_option maxHeartbeats 4000000 in
theorem m_X12_read_ok {Z : Zx} {K : (Int32 × Mem) → Prop} (C : Cx Z cX12_read 1 RX12) (hR : RM Z 4 103) (k : Nat) (hk : isO k 12) (I : Mem) (hK : ∀ y, K (y) → RetI Z cX12_read .int y.1 y.2) : WF Z K (m_X12_read k I) I 0 [some (rf (zG Z) k)] [] := by
  unfold m_X12_read
  refine w_aload_n (v := k) C dX12_read_0 rfl (q := 1) rfl ?_
  refine w_aload_n (v := k) C dX12_read_1 rfl (q := 2) rfl ?_
  refine g_X12_11 C hk lk_X12_130 dX12_read_2 (q := 5) rfl ?_
  refine w_if_eq (tgt := 12) (q := 8) C dX12_read_5 (by decide) rfl (fun _ => ?_) (fun _ => ?_)
  · refine w_iconst (v := (0)) C dX12_read_12 (by decide) (q := 13) rfl ?_
    exact WF.less (L' := [some (rf (zG Z) k)]) (m_X12_read_j13_ok C hR k k ((0 : Int32)) hk hk I hK) ⟨rfl, trivial⟩
  · refine w_iconst (v := (1)) C dX12_read_8 (by decide) (q := 9) rfl ?_
    refine w_goto (tgt := 13) C dX12_read_9 (by decide) ?_
    exact WF.less (L' := [some (rf (zG Z) k)]) (m_X12_read_j13_ok C hR k k ((1 : Int32)) hk hk I hK) ⟨rfl, trivial⟩
theorem c_X12_read (l : Launch) (G : Gx) {k : Nat} (hk : isO k 12) (I : Mem) {x : Int32 × Mem} (h : m_X12_read k I = some x) : Ct l G yX12_read cX12_read 1 (some (.int)) 4 103 [rf G k] I (some (.int x.1)) x.2 := Ct.of (by decide +kernel) rfl (Nat.le_of_ble_eq_true rfl) ret_i (fun Z hG hl C hR hret => by
  subst hG
  exact m_X12_read_ok (K := fun y => y = x) C hR k hk I (fun y hy => by subst hy; exact hret) x h rfl)
