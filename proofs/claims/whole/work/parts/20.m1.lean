def m_X12_thrown (k : Nat) (I : Mem) : Option (Int32) :=
  some (I k 48)
set_option maxRecDepth 100000 in
set_option maxHeartbeats 4000000 in
theorem m_X12_thrown_ok {Z : Zx} {K : Int32 → Prop} (C : Cx Z cX12_thrown 1 RX12) (hR : RM Z 0 0) (k : Nat) (hk : isO k 12) (I : Mem) (hK : ∀ y, K (y) → RetI Z cX12_thrown .int y I) : WF Z K (m_X12_thrown k I) I 0 [some (rf (zG Z) k)] [] := by
  unfold m_X12_thrown
  refine w_aload_n (v := k) C dX12_thrown_0 rfl (q := 1) rfl ?_
  refine g_X12_48 C hk lk_X12_111 dX12_thrown_1 (q := 4) rfl ?_
  exact w_iret C (hK _) rfl dX12_thrown_4
theorem c_X12_thrown (l : Launch) (G : Gx) {k : Nat} (hk : isO k 12) (I : Mem) {x : Int32} (h : m_X12_thrown k I = some x) : Ct l G yX12_thrown cX12_thrown 1 (some (.int)) 0 0 [rf G k] I (some (.int x)) I := Ct.of (by decide +kernel) rfl (Nat.le_of_ble_eq_true rfl) ret_i (fun Z hG hl C hR hret => by
  subst hG
  exact m_X12_thrown_ok (K := fun y => y = x) C hR k hk I (fun y hy => by subst hy; exact hret) x h rfl)
def m_X12_in (p1 : Int32) (p2 : Int32) (p3 : Int32) (I : Mem) : Option (Int32) :=
  if p1 < p2 then (some 0) else (if p3 < p1 then (some 0) else (some 1))
set_option maxRecDepth 100000 in
set_option maxHeartbeats 4000000 in
theorem m_X12_in_ok {Z : Zx} {K : Int32 → Prop} (C : Cx Z cX12_in 3 RX12) (hR : RM Z 0 0) (p1 : Int32) (p2 : Int32) (p3 : Int32) (I : Mem) (hK : ∀ y, K (y) → RetI Z cX12_in .boolean y I) : WF Z K (m_X12_in p1 p2 p3 I) I 0 [some (.int p1), some (.int p2), some (.int p3)] [] := by
  unfold m_X12_in
  refine w_iload_n (v := p1) C dX12_in_0 rfl (q := 1) rfl ?_
  refine w_iload_n (v := p2) C dX12_in_1 rfl (q := 2) rfl ?_
  refine w_icmp_lt (tgt := 14) (q := 5) C dX12_in_2 (by decide) rfl (fun _ => ?_) (fun _ => ?_)
  · refine w_iconst (v := (0)) C dX12_in_14 (by decide) (q := 15) rfl ?_
    exact w_iret C (hK _) (by decide) dX12_in_15
  · refine w_iload_n (v := p1) C dX12_in_5 rfl (q := 6) rfl ?_
    refine w_iload_n (v := p3) C dX12_in_6 rfl (q := 7) rfl ?_
    refine w_icmp_gt (tgt := 14) (q := 10) C dX12_in_7 (by decide) rfl (fun _ => ?_) (fun _ => ?_)
    · refine w_iconst (v := (0)) C dX12_in_14 (by decide) (q := 15) rfl ?_
      exact w_iret C (hK _) (by decide) dX12_in_15
    · refine w_iconst (v := (1)) C dX12_in_10 (by decide) (q := 11) rfl ?_
      refine w_goto (tgt := 15) C dX12_in_11 (by decide) ?_
      exact w_iret C (hK _) (by decide) dX12_in_15
theorem c_X12_in (l : Launch) (G : Gx) (p1 : Int32) (p2 : Int32) (p3 : Int32)  (I : Mem) {x : Int32} (h : m_X12_in p1 p2 p3 I = some x) : Ct l G yX12_in cX12_in 3 (some (.boolean)) 0 0 [.int p1, .int p2, .int p3] I (some (.int x)) I := Ct.of (by decide +kernel) rfl (Nat.le_of_ble_eq_true rfl) ret_i (fun Z hG hl C hR hret => by
  subst hG
  exact m_X12_in_ok (K := fun y => y = x) C hR p1 p2 p3  I (fun y hy => by subst hy; exact hret) x h rfl)
def m_X12_isFine (k : Nat) (p1 : Int32) (I : Mem) : Option (Int32 × Mem) :=
  bnd (ms I k 48 p1) fun I1 => if p1 = 0 then (some ((1, I1))) else (some ((0, I1)))
set_option maxRecDepth 100000 in
set_option maxHeartbeats 4000000 in
theorem m_X12_isFine_ok {Z : Zx} {K : (Int32 × Mem) → Prop} (C : Cx Z cX12_isFine 2 RX12) (hR : RM Z 0 0) (k : Nat) (p1 : Int32) (hk : isO k 12) (I : Mem) (hK : ∀ y, K (y) → RetI Z cX12_isFine .boolean y.1 y.2) : WF Z K (m_X12_isFine k p1 I) I 0 [some (rf (zG Z) k), some (.int p1)] [] := by
  unfold m_X12_isFine
  refine w_aload_n (v := k) C dX12_isFine_0 rfl (q := 1) rfl ?_
  refine w_iload_n (v := p1) C dX12_isFine_1 rfl (q := 2) rfl ?_
  refine p_X12_48 C hk  lk_X12_111 dX12_isFine_2 (q := 5) rfl (fun I1 => ?_)
  refine w_iload_n (v := p1) C dX12_isFine_5 rfl (q := 6) rfl ?_
  refine w_if_ne (tgt := 13) (q := 9) C dX12_isFine_6 (by decide) rfl (fun _ => ?_) (fun _ => ?_)
  · refine w_iconst (v := (1)) C dX12_isFine_9 (by decide) (q := 10) rfl ?_
    refine w_goto (tgt := 14) C dX12_isFine_10 (by decide) ?_
    exact w_iret C (hK _) (by decide) dX12_isFine_14
  · refine w_iconst (v := (0)) C dX12_isFine_13 (by decide) (q := 14) rfl ?_
    exact w_iret C (hK _) (by decide) dX12_isFine_14
theorem c_X12_isFine (l : Launch) (G : Gx) {k : Nat} (p1 : Int32) (hk : isO k 12) (I : Mem) {x : Int32 × Mem} (h : m_X12_isFine k p1 I = some x) : Ct l G yX12_isFine cX12_isFine 2 (some (.boolean)) 0 0 [rf G k, .int p1] I (some (.int x.1)) x.2 := Ct.of (by decide +kernel) rfl (Nat.le_of_ble_eq_true rfl) ret_i (fun Z hG hl C hR hret => by
  subst hG
  exact m_X12_isFine_ok (K := fun y => y = x) C hR k p1 hk I (fun y hy => by subst hy; exact hret) x h rfl)
def m_X12_isTag (p1 : Int32) (I : Mem) : Option (Int32) :=
  Option.bind (m_X12_in p1 ((65 : Int32)) ((90 : Int32)) I) fun r1 => if r1 = 0 then (some 0) else (if p1 = 72 then (some 0) else (if p1 = 84 then (some 0) else (some 1)))
set_option maxRecDepth 100000 in
set_option maxHeartbeats 4000000 in
theorem m_X12_isTag_ok {Z : Zx} {K : Int32 → Prop} (C : Cx Z cX12_isTag 1 RX12) (hR : RM Z 1 22) (p1 : Int32) (I : Mem) (hK : ∀ y, K (y) → RetI Z cX12_isTag .boolean y I) : WF Z K (m_X12_isTag p1 I) I 0 [some (.int p1)] [] := by
  unfold m_X12_isTag
  refine w_iload_n (v := p1) C dX12_isTag_0 rfl (q := 1) rfl ?_
  refine w_bipush (v := (65)) C dX12_isTag_1 (by decide) (q := 3) rfl ?_
  refine w_bipush (v := (90)) C dX12_isTag_3 (by decide) (q := 5) rfl ?_
  refine w_callS (val := fun r1 => some (.int r1)) (mem := fun r1 => I) (st1 := fun r1 => [.int r1]) (As := [.int p1, .int 65, .int 90]) (st := []) (q := 8) C hR (fun x h => c_X12_in (zl Z) (zG Z) p1 ((65 : Int32)) ((90 : Int32))  I h) mv_X12_in lk_X12_115 rfl (by decide) (fun _ => rfl) (Nat.le_of_ble_eq_true rfl) rfl rfl dX12_isTag_5 rfl (fun r1 => ?_)
  refine w_if_eq (tgt := 27) (q := 11) C dX12_isTag_8 (by decide) rfl (fun _ => ?_) (fun _ => ?_)
  · refine w_iconst (v := (0)) C dX12_isTag_27 (by decide) (q := 28) rfl ?_
    exact w_iret C (hK _) (by decide) dX12_isTag_28
  · refine w_iload_n (v := p1) C dX12_isTag_11 rfl (q := 12) rfl ?_
    refine w_bipush (v := (72)) C dX12_isTag_12 (by decide) (q := 14) rfl ?_
    refine w_icmp_eq (tgt := 27) (q := 17) C dX12_isTag_14 (by decide) rfl (fun _ => ?_) (fun _ => ?_)
    · refine w_iconst (v := (0)) C dX12_isTag_27 (by decide) (q := 28) rfl ?_
      exact w_iret C (hK _) (by decide) dX12_isTag_28
    · refine w_iload_n (v := p1) C dX12_isTag_17 rfl (q := 18) rfl ?_
      refine w_bipush (v := (84)) C dX12_isTag_18 (by decide) (q := 20) rfl ?_
      refine w_icmp_eq (tgt := 27) (q := 23) C dX12_isTag_20 (by decide) rfl (fun _ => ?_) (fun _ => ?_)
      · refine w_iconst (v := (0)) C dX12_isTag_27 (by decide) (q := 28) rfl ?_
        exact w_iret C (hK _) (by decide) dX12_isTag_28
      · refine w_iconst (v := (1)) C dX12_isTag_23 (by decide) (q := 24) rfl ?_
        refine w_goto (tgt := 28) C dX12_isTag_24 (by decide) ?_
        exact w_iret C (hK _) (by decide) dX12_isTag_28
theorem c_X12_isTag (l : Launch) (G : Gx) (p1 : Int32)  (I : Mem) {x : Int32} (h : m_X12_isTag p1 I = some x) : Ct l G yX12_isTag cX12_isTag 1 (some (.boolean)) 1 22 [.int p1] I (some (.int x)) I := Ct.of (by decide +kernel) rfl (Nat.le_of_ble_eq_true rfl) ret_i (fun Z hG hl C hR hret => by
  subst hG
  exact m_X12_isTag_ok (K := fun y => y = x) C hR p1  I (fun y hy => by subst hy; exact hret) x h rfl)
def m_X12_addItem_j121 (k : Nat) (p1 : Int32) (p2 : Int32) (p3 : Int32) (I : Mem) : Option (Int32 × Mem) :=
  gd (inb (I k 4) 10) (gd (okc p1) (bnd (ms I (k + 1) (I k 4).toNatClampNeg p1) fun I3 => gd (inb (I3 k 4) 10) (bnd (ms I3 (k + 2) (I3 k 4).toNatClampNeg p2) fun I4 => gd (inb (I4 k 4) 10) (bnd (ms I4 (k + 3) (I4 k 4).toNatClampNeg p3) fun I5 => gd (inb (I5 k 4) 10) (bnd (ms I5 (k + 4) (I5 k 4).toNatClampNeg ((I5 k 10) - 1)) fun I6 => gd (inb ((I6 k 10) - 1) 12) (bnd (ms I6 (k + 7) ((I6 k 10) - 1).toNatClampNeg (I6 k 4)) fun I7 => bnd (ms I7 k 4 ((I7 k 4) + 1)) fun I8 => some (((I8 k 4) - 1, I8))))))))
set_option maxRecDepth 100000 in
set_option maxHeartbeats 4000000 in
theorem m_X12_addItem_j121_ok {Z : Zx} {K : (Int32 × Mem) → Prop} (C : Cx Z cX12_addItem 5 RX12) (hR : RM Z 2 42) (k : Nat) (p1 : Int32) (p2 : Int32) (p3 : Int32) (hk : isO k 12) (I : Mem) (hK : ∀ y, K (y) → RetI Z cX12_addItem .int y.1 y.2) : WF Z K (m_X12_addItem_j121 k p1 p2 p3 I) I 121 [some (rf (zG Z) k), some (.int p1), some (.int p2), some (.int p3), none] [] := by
  unfold m_X12_addItem_j121
  refine w_aload_n (v := k) C dX12_addItem_121 rfl (q := 122) rfl ?_
  refine g_X12_0 C hk lk_X12_7 dX12_addItem_122 (q := 125) rfl ?_
  refine w_aload_n (v := k) C dX12_addItem_125 rfl (q := 126) rfl ?_
  refine g_X12_4 C hk lk_X12_123 dX12_addItem_126 (q := 129) rfl ?_
  refine w_iload_n (v := p1) C dX12_addItem_129 rfl (q := 130) rfl ?_
  refine w_cast C (st_X12_0 hk).2 dX12_addItem_130 (q := 131) rfl (fun _ I3 => ?_)
  refine w_aload_n (v := k) C dX12_addItem_131 rfl (q := 132) rfl ?_
  refine g_X12_1 C hk lk_X12_13 dX12_addItem_132 (q := 135) rfl ?_
  refine w_aload_n (v := k) C dX12_addItem_135 rfl (q := 136) rfl ?_
  refine g_X12_4 C hk lk_X12_123 dX12_addItem_136 (q := 139) rfl ?_
  refine w_iload_n (v := p2) C dX12_addItem_139 rfl (q := 140) rfl ?_
  refine w_iast C (st_X12_1 hk).2 dX12_addItem_140 (q := 141) rfl (fun _ I4 => ?_)
  refine w_aload_n (v := k) C dX12_addItem_141 rfl (q := 142) rfl ?_
  refine g_X12_2 C hk lk_X12_17 dX12_addItem_142 (q := 145) rfl ?_
  refine w_aload_n (v := k) C dX12_addItem_145 rfl (q := 146) rfl ?_
  refine g_X12_4 C hk lk_X12_123 dX12_addItem_146 (q := 149) rfl ?_
  refine w_iload_n (v := p3) C dX12_addItem_149 rfl (q := 150) rfl ?_
  refine w_iast C (st_X12_2 hk).2 dX12_addItem_150 (q := 151) rfl (fun _ I5 => ?_)
  refine w_aload_n (v := k) C dX12_addItem_151 rfl (q := 152) rfl ?_
  refine g_X12_3 C hk lk_X12_20 dX12_addItem_152 (q := 155) rfl ?_
  refine w_aload_n (v := k) C dX12_addItem_155 rfl (q := 156) rfl ?_
  refine g_X12_4 C hk lk_X12_123 dX12_addItem_156 (q := 159) rfl ?_
  refine w_aload_n (v := k) C dX12_addItem_159 rfl (q := 160) rfl ?_
  refine g_X12_10 C hk lk_X12_134 dX12_addItem_160 (q := 163) rfl ?_
  refine w_iconst (v := (1)) C dX12_addItem_163 (by decide) (q := 164) rfl ?_
  refine w_isub C dX12_addItem_164 (q := 165) rfl ?_
  refine w_iast C (st_X12_3 hk).2 dX12_addItem_165 (q := 166) rfl (fun _ I6 => ?_)
  refine w_aload_n (v := k) C dX12_addItem_166 rfl (q := 167) rfl ?_
  refine g_X12_7 C hk lk_X12_30 dX12_addItem_167 (q := 170) rfl ?_
  refine w_aload_n (v := k) C dX12_addItem_170 rfl (q := 171) rfl ?_
  refine g_X12_10 C hk lk_X12_134 dX12_addItem_171 (q := 174) rfl ?_
  refine w_iconst (v := (1)) C dX12_addItem_174 (by decide) (q := 175) rfl ?_
  refine w_isub C dX12_addItem_175 (q := 176) rfl ?_
  refine w_aload_n (v := k) C dX12_addItem_176 rfl (q := 177) rfl ?_
  refine g_X12_4 C hk lk_X12_123 dX12_addItem_177 (q := 180) rfl ?_
  refine w_iast C (st_X12_7 hk).2 dX12_addItem_180 (q := 181) rfl (fun _ I7 => ?_)
  refine w_aload_n (v := k) C dX12_addItem_181 rfl (q := 182) rfl ?_
  refine w_dup C dX12_addItem_182 rfl (q := 183) rfl ?_
  refine g_X12_4 C hk lk_X12_123 dX12_addItem_183 (q := 186) rfl ?_
  refine w_iconst (v := (1)) C dX12_addItem_186 (by decide) (q := 187) rfl ?_
  refine w_iadd C dX12_addItem_187 (q := 188) rfl ?_
  refine p_X12_4 C hk  lk_X12_123 dX12_addItem_188 (q := 191) rfl (fun I8 => ?_)
  refine w_aload_n (v := k) C dX12_addItem_191 rfl (q := 192) rfl ?_
  refine g_X12_4 C hk lk_X12_123 dX12_addItem_192 (q := 195) rfl ?_
  refine w_iconst (v := (1)) C dX12_addItem_195 (by decide) (q := 196) rfl ?_
  refine w_isub C dX12_addItem_196 (q := 197) rfl ?_
  exact w_iret C (hK _) rfl dX12_addItem_197
def m_X12_addItem_j63 (k : Nat) (p1 : Int32) (p2 : Int32) (p3 : Int32) (y0 : Nat) (y1 : Int32) (I : Mem) : Option (Int32 × Mem) :=
  Option.bind (m_X12_isFine y0 y1 I) fun r2 => if r2.1 = 0 then (some ((0, r2.2))) else (if r2.2 k 11 = 0 then (gd (inb (r2.2 k 10) 12) (gd (okz ((0 : Int32))) (bnd (ms r2.2 (k + 5) (r2.2 k 10).toNatClampNeg 0) fun I9 => gd (inb (I9 k 10) 12) (bnd (ms I9 (k + 6) (I9 k 10).toNatClampNeg (I9 k 4)) fun I10 => gd (inb (I10 k 10) 12) (bnd (ms I10 (k + 8) (I10 k 10).toNatClampNeg p2) fun I11 => bnd (ms I11 k 10 ((I11 k 10) + 1)) fun I12 => m_X12_addItem_j121 k p1 p2 p3 I12))))) else (m_X12_addItem_j121 k p1 p2 p3 r2.2))
set_option maxRecDepth 100000 in
set_option maxHeartbeats 4000000 in
theorem m_X12_addItem_j63_ok {Z : Zx} {K : (Int32 × Mem) → Prop} (C : Cx Z cX12_addItem 5 RX12) (hR : RM Z 2 42) (k : Nat) (p1 : Int32) (p2 : Int32) (p3 : Int32) (y0 : Nat) (y1 : Int32) (hk : isO k 12) (hy0 : isO y0 12) (I : Mem) (hK : ∀ y, K (y) → RetI Z cX12_addItem .int y.1 y.2) : WF Z K (m_X12_addItem_j63 k p1 p2 p3 y0 y1 I) I 63 [some (rf (zG Z) k), some (.int p1), some (.int p2), some (.int p3), none] [.int y1, rf (zG Z) y0] := by
  unfold m_X12_addItem_j63
  refine w_callV (val := fun r2 => some (.int r2.1)) (mem := fun r2 => r2.2) (st1 := fun r2 => [.int r2.1]) (As := [.int y1]) (st := []) (q := 66) C hR (fun x h => c_X12_isFine (zl Z) (zG Z) y1 hy0 I h) hy0 mv_X12_isFine lk_X12_126 rfl (by decide) (fun _ => rfl) (Nat.le_of_ble_eq_true rfl) rfl rfl dX12_addItem_63 rfl (fun r2 => ?_)
  refine w_if_ne (tgt := 71) (q := 69) C dX12_addItem_66 (by decide) rfl (fun _ => ?_) (fun _ => ?_)
  · refine w_iconst (v := (0)) C dX12_addItem_69 (by decide) (q := 70) rfl ?_
    exact w_iret C (hK _) rfl dX12_addItem_70
  · refine w_aload_n (v := k) C dX12_addItem_71 rfl (q := 72) rfl ?_
    refine g_X12_11 C hk lk_X12_130 dX12_addItem_72 (q := 75) rfl ?_
    refine w_if_ne (tgt := 121) (q := 78) C dX12_addItem_75 (by decide) rfl (fun _ => ?_) (fun _ => ?_)
    · refine w_aload_n (v := k) C dX12_addItem_78 rfl (q := 79) rfl ?_
      refine g_X12_5 C hk lk_X12_23 dX12_addItem_79 (q := 82) rfl ?_
      refine w_aload_n (v := k) C dX12_addItem_82 rfl (q := 83) rfl ?_
      refine g_X12_10 C hk lk_X12_134 dX12_addItem_83 (q := 86) rfl ?_
      refine w_iconst (v := (0)) C dX12_addItem_86 (by decide) (q := 87) rfl ?_
      refine w_zast C (st_X12_5 hk).2 dX12_addItem_87 (q := 88) rfl (fun _ I9 => ?_)
      refine w_aload_n (v := k) C dX12_addItem_88 rfl (q := 89) rfl ?_
      refine g_X12_6 C hk lk_X12_27 dX12_addItem_89 (q := 92) rfl ?_
      refine w_aload_n (v := k) C dX12_addItem_92 rfl (q := 93) rfl ?_
      refine g_X12_10 C hk lk_X12_134 dX12_addItem_93 (q := 96) rfl ?_
      refine w_aload_n (v := k) C dX12_addItem_96 rfl (q := 97) rfl ?_
      refine g_X12_4 C hk lk_X12_123 dX12_addItem_97 (q := 100) rfl ?_
      refine w_iast C (st_X12_6 hk).2 dX12_addItem_100 (q := 101) rfl (fun _ I10 => ?_)
      refine w_aload_n (v := k) C dX12_addItem_101 rfl (q := 102) rfl ?_
      refine g_X12_8 C hk lk_X12_33 dX12_addItem_102 (q := 105) rfl ?_
      refine w_aload_n (v := k) C dX12_addItem_105 rfl (q := 106) rfl ?_
      refine g_X12_10 C hk lk_X12_134 dX12_addItem_106 (q := 109) rfl ?_
      refine w_iload_n (v := p2) C dX12_addItem_109 rfl (q := 110) rfl ?_
      refine w_iast C (st_X12_8 hk).2 dX12_addItem_110 (q := 111) rfl (fun _ I11 => ?_)
      refine w_aload_n (v := k) C dX12_addItem_111 rfl (q := 112) rfl ?_
      refine w_dup C dX12_addItem_112 rfl (q := 113) rfl ?_
      refine g_X12_10 C hk lk_X12_134 dX12_addItem_113 (q := 116) rfl ?_
      refine w_iconst (v := (1)) C dX12_addItem_116 (by decide) (q := 117) rfl ?_
      refine w_iadd C dX12_addItem_117 (q := 118) rfl ?_
      refine p_X12_10 C hk  lk_X12_134 dX12_addItem_118 (q := 121) rfl (fun I12 => ?_)
      exact WF.less (L' := [some (rf (zG Z) k), some (.int p1), some (.int p2), some (.int p3), none]) (m_X12_addItem_j121_ok C hR k p1 p2 p3 hk I12 hK) ⟨rfl, rfl, rfl, rfl, trivial⟩
    · exact WF.less (L' := [some (rf (zG Z) k), some (.int p1), some (.int p2), some (.int p3), none]) (m_X12_addItem_j121_ok C hR k p1 p2 p3 hk r2.2 hK) ⟨rfl, rfl, rfl, rfl, trivial⟩
def m_X12_addItem_j37 (k : Nat) (p1 : Int32) (p2 : Int32) (p3 : Int32) (y0 : Int32) (I : Mem) : Option (Int32 × Mem) :=
  if y0 = 0 then (m_X12_addItem_j63 k p1 p2 p3 k ((1 : Int32)) I) else (if I k 4 = 10 then (m_X12_addItem_j63 k p1 p2 p3 k ((2 : Int32)) I) else (m_X12_addItem_j63 k p1 p2 p3 k ((0 : Int32)) I))
set_option maxRecDepth 100000 in
set_option maxHeartbeats 4000000 in
theorem m_X12_addItem_j37_ok {Z : Zx} {K : (Int32 × Mem) → Prop} (C : Cx Z cX12_addItem 5 RX12) (hR : RM Z 2 42) (k : Nat) (p1 : Int32) (p2 : Int32) (p3 : Int32) (y0 : Int32) (hk : isO k 12) (I : Mem) (hK : ∀ y, K (y) → RetI Z cX12_addItem .int y.1 y.2) : WF Z K (m_X12_addItem_j37 k p1 p2 p3 y0 I) I 37 [some (rf (zG Z) k), some (.int p1), some (.int p2), some (.int p3), none] [.int y0] := by
  unfold m_X12_addItem_j37
  refine w_istore C dX12_addItem_37 (Nat.le_of_ble_eq_true rfl) (L' := [some (rf (zG Z) k), some (.int p1), some (.int p2), some (.int p3), some (.int y0)]) rfl (q := 39) rfl ?_
  refine w_aload_n (v := k) C dX12_addItem_39 rfl (q := 40) rfl ?_
  refine w_iload (v := y0) C dX12_addItem_40 rfl (q := 42) rfl ?_
  refine w_if_ne (tgt := 49) (q := 45) C dX12_addItem_42 (by decide) rfl (fun _ => ?_) (fun _ => ?_)
  · refine w_iconst (v := (1)) C dX12_addItem_45 (by decide) (q := 46) rfl ?_
    refine w_goto (tgt := 63) C dX12_addItem_46 (by decide) ?_
    exact WF.less (L' := [some (rf (zG Z) k), some (.int p1), some (.int p2), some (.int p3), none]) (m_X12_addItem_j63_ok C hR k p1 p2 p3 k ((1 : Int32)) hk hk I hK) ⟨rfl, rfl, rfl, rfl, trivial⟩
  · refine w_aload_n (v := k) C dX12_addItem_49 rfl (q := 50) rfl ?_
    refine g_X12_4 C hk lk_X12_123 dX12_addItem_50 (q := 53) rfl ?_
    refine w_bipush (v := (10)) C dX12_addItem_53 (by decide) (q := 55) rfl ?_
    refine w_icmp_ne (tgt := 62) (q := 58) C dX12_addItem_55 (by decide) rfl (fun _ => ?_) (fun _ => ?_)
    · refine w_iconst (v := (2)) C dX12_addItem_58 (by decide) (q := 59) rfl ?_
      refine w_goto (tgt := 63) C dX12_addItem_59 (by decide) ?_
      exact WF.less (L' := [some (rf (zG Z) k), some (.int p1), some (.int p2), some (.int p3), none]) (m_X12_addItem_j63_ok C hR k p1 p2 p3 k ((2 : Int32)) hk hk I hK) ⟨rfl, rfl, rfl, rfl, trivial⟩
    · refine w_iconst (v := (0)) C dX12_addItem_62 (by decide) (q := 63) rfl ?_
      exact WF.less (L' := [some (rf (zG Z) k), some (.int p1), some (.int p2), some (.int p3), none]) (m_X12_addItem_j63_ok C hR k p1 p2 p3 k ((0 : Int32)) hk hk I hK) ⟨rfl, rfl, rfl, rfl, trivial⟩
def m_X12_addItem_j36 (k : Nat) (p1 : Int32) (p2 : Int32) (p3 : Int32) (I : Mem) : Option (Int32 × Mem) :=
  m_X12_addItem_j37 k p1 p2 p3 ((0 : Int32)) I
set_option maxRecDepth 100000 in
set_option maxHeartbeats 4000000 in
theorem m_X12_addItem_j36_ok {Z : Zx} {K : (Int32 × Mem) → Prop} (C : Cx Z cX12_addItem 5 RX12) (hR : RM Z 2 42) (k : Nat) (p1 : Int32) (p2 : Int32) (p3 : Int32) (hk : isO k 12) (I : Mem) (hK : ∀ y, K (y) → RetI Z cX12_addItem .int y.1 y.2) : WF Z K (m_X12_addItem_j36 k p1 p2 p3 I) I 36 [some (rf (zG Z) k), some (.int p1), some (.int p2), some (.int p3), none] [] := by
  unfold m_X12_addItem_j36
  refine w_iconst (v := (0)) C dX12_addItem_36 (by decide) (q := 37) rfl ?_
  exact WF.less (L' := [some (rf (zG Z) k), some (.int p1), some (.int p2), some (.int p3), none]) (m_X12_addItem_j37_ok C hR k p1 p2 p3 ((0 : Int32)) hk I hK) ⟨rfl, rfl, rfl, rfl, trivial⟩
def m_X12_addItem (k : Nat) (p1 : Int32) (p2 : Int32) (p3 : Int32) (I : Mem) : Option (Int32 × Mem) :=
  Option.bind (m_X12_isTag p1 I) fun r1 => if r1 = 0 then (m_X12_addItem_j36 k p1 p2 p3 I) else (Option.bind (m_X12_in p2 ((0 : Int32)) ((9 : Int32)) I) fun r13 => if r13 = 0 then (m_X12_addItem_j36 k p1 p2 p3 I) else (Option.bind (m_X12_in p3 ((1 : Int32)) ((9 : Int32)) I) fun r14 => if r14 = 0 then (m_X12_addItem_j36 k p1 p2 p3 I) else (if p3 < p2 then (m_X12_addItem_j36 k p1 p2 p3 I) else (m_X12_addItem_j37 k p1 p2 p3 ((1 : Int32)) I))))
set_option maxRecDepth 100000 in
set_option maxHeartbeats 4000000 in
theorem m_X12_addItem_ok {Z : Zx} {K : (Int32 × Mem) → Prop} (C : Cx Z cX12_addItem 5 RX12) (hR : RM Z 2 42) (k : Nat) (p1 : Int32) (p2 : Int32) (p3 : Int32) (hk : isO k 12) (I : Mem) (hK : ∀ y, K (y) → RetI Z cX12_addItem .int y.1 y.2) : WF Z K (m_X12_addItem k p1 p2 p3 I) I 0 [some (rf (zG Z) k), some (.int p1), some (.int p2), some (.int p3), none] [] := by
  unfold m_X12_addItem
  refine w_iload_n (v := p1) C dX12_addItem_0 rfl (q := 1) rfl ?_
  refine w_callS (val := fun r1 => some (.int r1)) (mem := fun r1 => I) (st1 := fun r1 => [.int r1]) (As := [.int p1]) (st := []) (q := 4) C hR (fun x h => c_X12_isTag (zl Z) (zG Z) p1  I h) mv_X12_isTag lk_X12_119 rfl (by decide) (fun _ => rfl) (Nat.le_of_ble_eq_true rfl) rfl rfl dX12_addItem_1 rfl (fun r1 => ?_)
  refine w_if_eq (tgt := 36) (q := 7) C dX12_addItem_4 (by decide) rfl (fun _ => ?_) (fun _ => ?_)
  · exact WF.less (L' := [some (rf (zG Z) k), some (.int p1), some (.int p2), some (.int p3), none]) (m_X12_addItem_j36_ok C hR k p1 p2 p3 hk I hK) ⟨rfl, rfl, rfl, rfl, trivial⟩
  · refine w_iload_n (v := p2) C dX12_addItem_7 rfl (q := 8) rfl ?_
    refine w_iconst (v := (0)) C dX12_addItem_8 (by decide) (q := 9) rfl ?_
    refine w_bipush (v := (9)) C dX12_addItem_9 (by decide) (q := 11) rfl ?_
    refine w_callS (val := fun r13 => some (.int r13)) (mem := fun r13 => I) (st1 := fun r13 => [.int r13]) (As := [.int p2, .int 0, .int 9]) (st := []) (q := 14) C hR (fun x h => c_X12_in (zl Z) (zG Z) p2 ((0 : Int32)) ((9 : Int32))  I h) mv_X12_in lk_X12_115 rfl (by decide) (fun _ => rfl) (Nat.le_of_ble_eq_true rfl) rfl rfl dX12_addItem_11 rfl (fun r13 => ?_)
    refine w_if_eq (tgt := 36) (q := 17) C dX12_addItem_14 (by decide) rfl (fun _ => ?_) (fun _ => ?_)
    · exact WF.less (L' := [some (rf (zG Z) k), some (.int p1), some (.int p2), some (.int p3), none]) (m_X12_addItem_j36_ok C hR k p1 p2 p3 hk I hK) ⟨rfl, rfl, rfl, rfl, trivial⟩
    · refine w_iload_n (v := p3) C dX12_addItem_17 rfl (q := 18) rfl ?_
      refine w_iconst (v := (1)) C dX12_addItem_18 (by decide) (q := 19) rfl ?_
      refine w_bipush (v := (9)) C dX12_addItem_19 (by decide) (q := 21) rfl ?_
      refine w_callS (val := fun r14 => some (.int r14)) (mem := fun r14 => I) (st1 := fun r14 => [.int r14]) (As := [.int p3, .int 1, .int 9]) (st := []) (q := 24) C hR (fun x h => c_X12_in (zl Z) (zG Z) p3 ((1 : Int32)) ((9 : Int32))  I h) mv_X12_in lk_X12_115 rfl (by decide) (fun _ => rfl) (Nat.le_of_ble_eq_true rfl) rfl rfl dX12_addItem_21 rfl (fun r14 => ?_)
      refine w_if_eq (tgt := 36) (q := 27) C dX12_addItem_24 (by decide) rfl (fun _ => ?_) (fun _ => ?_)
      · exact WF.less (L' := [some (rf (zG Z) k), some (.int p1), some (.int p2), some (.int p3), none]) (m_X12_addItem_j36_ok C hR k p1 p2 p3 hk I hK) ⟨rfl, rfl, rfl, rfl, trivial⟩
      · refine w_iload_n (v := p3) C dX12_addItem_27 rfl (q := 28) rfl ?_
        refine w_iload_n (v := p2) C dX12_addItem_28 rfl (q := 29) rfl ?_
        refine w_icmp_lt (tgt := 36) (q := 32) C dX12_addItem_29 (by decide) rfl (fun _ => ?_) (fun _ => ?_)
        · exact WF.less (L' := [some (rf (zG Z) k), some (.int p1), some (.int p2), some (.int p3), none]) (m_X12_addItem_j36_ok C hR k p1 p2 p3 hk I hK) ⟨rfl, rfl, rfl, rfl, trivial⟩
        · refine w_iconst (v := (1)) C dX12_addItem_32 (by decide) (q := 33) rfl ?_
          refine w_goto (tgt := 37) C dX12_addItem_33 (by decide) ?_
          exact WF.less (L' := [some (rf (zG Z) k), some (.int p1), some (.int p2), some (.int p3), none]) (m_X12_addItem_j37_ok C hR k p1 p2 p3 ((1 : Int32)) hk I hK) ⟨rfl, rfl, rfl, rfl, trivial⟩
theorem c_X12_addItem (l : Launch) (G : Gx) {k : Nat} (p1 : Int32) (p2 : Int32) (p3 : Int32) (hk : isO k 12) (I : Mem) {x : Int32 × Mem} (h : m_X12_addItem k p1 p2 p3 I = some x) : Ct l G yX12_addItem cX12_addItem 5 (some (.int)) 2 42 [rf G k, .int p1, .int p2, .int p3] I (some (.int x.1)) x.2 := Ct.of (by decide +kernel) rfl (Nat.le_of_ble_eq_true rfl) ret_i (fun Z hG hl C hR hret => by
  subst hG
  exact m_X12_addItem_ok (K := fun y => y = x) C hR k p1 p2 p3 hk I (fun y hy => by subst hy; exact hret) x h rfl)
def m_X12_openLoop_j52 (k : Nat) (p1 : Int32) (p2 : Int32) (y0 : Nat) (y1 : Int32) (I : Mem) : Option (Mem) :=
  Option.bind (m_X12_isFine y0 y1 I) fun r2 => if r2.1 = 0 then (some r2.2) else (gd (inb (r2.2 k 10) 12) (gd (okz ((1 : Int32))) (bnd (ms r2.2 (k + 5) (r2.2 k 10).toNatClampNeg 1) fun I3 => gd (inb (I3 k 10) 12) (bnd (ms I3 (k + 6) (I3 k 10).toNatClampNeg (I3 k 4)) fun I4 => gd (inb (I4 k 10) 12) (bnd (ms I4 (k + 7) (I4 k 10).toNatClampNeg ((I4 k 4) - 1)) fun I5 => gd (inb (I5 k 10) 12) (bnd (ms I5 (k + 8) (I5 k 10).toNatClampNeg p1) fun I6 => gd (inb (I6 k 10) 12) (bnd (ms I6 (k + 9) (I6 k 10).toNatClampNeg p2) fun I7 => bnd (ms I7 k 10 ((I7 k 10) + 1)) fun I8 => bnd (ms I8 k 11 1) fun I9 => some I9)))))))
set_option maxRecDepth 100000 in
set_option maxHeartbeats 4000000 in
theorem m_X12_openLoop_j52_ok {Z : Zx} {K : Mem → Prop} (C : Cx Z cX12_openLoop 4 RX12) (hR : RM Z 1 22) (k : Nat) (p1 : Int32) (p2 : Int32) (y0 : Nat) (y1 : Int32) (hk : isO k 12) (hy0 : isO y0 12) (I : Mem) (hK : ∀ y, K (y) → RetV Z cX12_openLoop y) : WF Z K (m_X12_openLoop_j52 k p1 p2 y0 y1 I) I 52 [some (rf (zG Z) k), some (.int p1), some (.int p2), none] [.int y1, rf (zG Z) y0] := by
  unfold m_X12_openLoop_j52
  refine w_callV (val := fun r2 => some (.int r2.1)) (mem := fun r2 => r2.2) (st1 := fun r2 => [.int r2.1]) (As := [.int y1]) (st := []) (q := 55) C hR (fun x h => c_X12_isFine (zl Z) (zG Z) y1 hy0 I h) hy0 mv_X12_isFine lk_X12_126 rfl (by decide) (fun _ => rfl) (Nat.le_of_ble_eq_true rfl) rfl rfl dX12_openLoop_52 rfl (fun r2 => ?_)
  refine w_if_ne (tgt := 59) (q := 58) C dX12_openLoop_55 (by decide) rfl (fun _ => ?_) (fun _ => ?_)
  · exact w_vret C (hK _) dX12_openLoop_58
  · refine w_aload_n (v := k) C dX12_openLoop_59 rfl (q := 60) rfl ?_
    refine g_X12_5 C hk lk_X12_23 dX12_openLoop_60 (q := 63) rfl ?_
    refine w_aload_n (v := k) C dX12_openLoop_63 rfl (q := 64) rfl ?_
    refine g_X12_10 C hk lk_X12_134 dX12_openLoop_64 (q := 67) rfl ?_
    refine w_iconst (v := (1)) C dX12_openLoop_67 (by decide) (q := 68) rfl ?_
    refine w_zast C (st_X12_5 hk).2 dX12_openLoop_68 (q := 69) rfl (fun _ I3 => ?_)
    refine w_aload_n (v := k) C dX12_openLoop_69 rfl (q := 70) rfl ?_
    refine g_X12_6 C hk lk_X12_27 dX12_openLoop_70 (q := 73) rfl ?_
    refine w_aload_n (v := k) C dX12_openLoop_73 rfl (q := 74) rfl ?_
    refine g_X12_10 C hk lk_X12_134 dX12_openLoop_74 (q := 77) rfl ?_
    refine w_aload_n (v := k) C dX12_openLoop_77 rfl (q := 78) rfl ?_
    refine g_X12_4 C hk lk_X12_123 dX12_openLoop_78 (q := 81) rfl ?_
    refine w_iast C (st_X12_6 hk).2 dX12_openLoop_81 (q := 82) rfl (fun _ I4 => ?_)
    refine w_aload_n (v := k) C dX12_openLoop_82 rfl (q := 83) rfl ?_
    refine g_X12_7 C hk lk_X12_30 dX12_openLoop_83 (q := 86) rfl ?_
    refine w_aload_n (v := k) C dX12_openLoop_86 rfl (q := 87) rfl ?_
    refine g_X12_10 C hk lk_X12_134 dX12_openLoop_87 (q := 90) rfl ?_
    refine w_aload_n (v := k) C dX12_openLoop_90 rfl (q := 91) rfl ?_
    refine g_X12_4 C hk lk_X12_123 dX12_openLoop_91 (q := 94) rfl ?_
    refine w_iconst (v := (1)) C dX12_openLoop_94 (by decide) (q := 95) rfl ?_
    refine w_isub C dX12_openLoop_95 (q := 96) rfl ?_
    refine w_iast C (st_X12_7 hk).2 dX12_openLoop_96 (q := 97) rfl (fun _ I5 => ?_)
    refine w_aload_n (v := k) C dX12_openLoop_97 rfl (q := 98) rfl ?_
    refine g_X12_8 C hk lk_X12_33 dX12_openLoop_98 (q := 101) rfl ?_
    refine w_aload_n (v := k) C dX12_openLoop_101 rfl (q := 102) rfl ?_
    refine g_X12_10 C hk lk_X12_134 dX12_openLoop_102 (q := 105) rfl ?_
    refine w_iload_n (v := p1) C dX12_openLoop_105 rfl (q := 106) rfl ?_
    refine w_iast C (st_X12_8 hk).2 dX12_openLoop_106 (q := 107) rfl (fun _ I6 => ?_)
    refine w_aload_n (v := k) C dX12_openLoop_107 rfl (q := 108) rfl ?_
    refine g_X12_9 C hk lk_X12_36 dX12_openLoop_108 (q := 111) rfl ?_
    refine w_aload_n (v := k) C dX12_openLoop_111 rfl (q := 112) rfl ?_
    refine g_X12_10 C hk lk_X12_134 dX12_openLoop_112 (q := 115) rfl ?_
    refine w_iload_n (v := p2) C dX12_openLoop_115 rfl (q := 116) rfl ?_
    refine w_iast C (st_X12_9 hk).2 dX12_openLoop_116 (q := 117) rfl (fun _ I7 => ?_)
    refine w_aload_n (v := k) C dX12_openLoop_117 rfl (q := 118) rfl ?_
    refine w_dup C dX12_openLoop_118 rfl (q := 119) rfl ?_
    refine g_X12_10 C hk lk_X12_134 dX12_openLoop_119 (q := 122) rfl ?_
    refine w_iconst (v := (1)) C dX12_openLoop_122 (by decide) (q := 123) rfl ?_
    refine w_iadd C dX12_openLoop_123 (q := 124) rfl ?_
    refine p_X12_10 C hk  lk_X12_134 dX12_openLoop_124 (q := 127) rfl (fun I8 => ?_)
    refine w_aload_n (v := k) C dX12_openLoop_127 rfl (q := 128) rfl ?_
    refine w_iconst (v := (1)) C dX12_openLoop_128 (by decide) (q := 129) rfl ?_
    refine p_X12_11 C hk (by decide) lk_X12_130 dX12_openLoop_129 (q := 132) rfl (fun I9 => ?_)
    exact w_vret C (hK _) dX12_openLoop_132
def m_X12_openLoop_j30 (k : Nat) (p1 : Int32) (p2 : Int32) (y0 : Int32) (I : Mem) : Option (Mem) :=
  if y0 = 0 then (m_X12_openLoop_j52 k p1 p2 k ((1 : Int32)) I) else (if I k 11 = 0 then (m_X12_openLoop_j52 k p1 p2 k ((0 : Int32)) I) else (m_X12_openLoop_j52 k p1 p2 k ((2 : Int32)) I))
set_option maxRecDepth 100000 in
set_option maxHeartbeats 4000000 in
theorem m_X12_openLoop_j30_ok {Z : Zx} {K : Mem → Prop} (C : Cx Z cX12_openLoop 4 RX12) (hR : RM Z 1 22) (k : Nat) (p1 : Int32) (p2 : Int32) (y0 : Int32) (hk : isO k 12) (I : Mem) (hK : ∀ y, K (y) → RetV Z cX12_openLoop y) : WF Z K (m_X12_openLoop_j30 k p1 p2 y0 I) I 30 [some (rf (zG Z) k), some (.int p1), some (.int p2), none] [.int y0] := by
  unfold m_X12_openLoop_j30
  refine w_istore_n C dX12_openLoop_30 (Nat.le_of_ble_eq_true rfl) (L' := [some (rf (zG Z) k), some (.int p1), some (.int p2), some (.int y0)]) rfl (q := 31) rfl ?_
  refine w_aload_n (v := k) C dX12_openLoop_31 rfl (q := 32) rfl ?_
  refine w_iload_n (v := y0) C dX12_openLoop_32 rfl (q := 33) rfl ?_
  refine w_if_ne (tgt := 40) (q := 36) C dX12_openLoop_33 (by decide) rfl (fun _ => ?_) (fun _ => ?_)
  · refine w_iconst (v := (1)) C dX12_openLoop_36 (by decide) (q := 37) rfl ?_
    refine w_goto (tgt := 52) C dX12_openLoop_37 (by decide) ?_
    exact WF.less (L' := [some (rf (zG Z) k), some (.int p1), some (.int p2), none]) (m_X12_openLoop_j52_ok C hR k p1 p2 k ((1 : Int32)) hk hk I hK) ⟨rfl, rfl, rfl, trivial⟩
  · refine w_aload_n (v := k) C dX12_openLoop_40 rfl (q := 41) rfl ?_
    refine g_X12_11 C hk lk_X12_130 dX12_openLoop_41 (q := 44) rfl ?_
    refine w_if_eq (tgt := 51) (q := 47) C dX12_openLoop_44 (by decide) rfl (fun _ => ?_) (fun _ => ?_)
    · refine w_iconst (v := (0)) C dX12_openLoop_51 (by decide) (q := 52) rfl ?_
      exact WF.less (L' := [some (rf (zG Z) k), some (.int p1), some (.int p2), none]) (m_X12_openLoop_j52_ok C hR k p1 p2 k ((0 : Int32)) hk hk I hK) ⟨rfl, rfl, rfl, trivial⟩
    · refine w_iconst (v := (2)) C dX12_openLoop_47 (by decide) (q := 48) rfl ?_
      refine w_goto (tgt := 52) C dX12_openLoop_48 (by decide) ?_
      exact WF.less (L' := [some (rf (zG Z) k), some (.int p1), some (.int p2), none]) (m_X12_openLoop_j52_ok C hR k p1 p2 k ((2 : Int32)) hk hk I hK) ⟨rfl, rfl, rfl, trivial⟩
def m_X12_openLoop_j29 (k : Nat) (p1 : Int32) (p2 : Int32) (I : Mem) : Option (Mem) :=
  m_X12_openLoop_j30 k p1 p2 ((0 : Int32)) I
set_option maxRecDepth 100000 in
set_option maxHeartbeats 4000000 in
theorem m_X12_openLoop_j29_ok {Z : Zx} {K : Mem → Prop} (C : Cx Z cX12_openLoop 4 RX12) (hR : RM Z 1 22) (k : Nat) (p1 : Int32) (p2 : Int32) (hk : isO k 12) (I : Mem) (hK : ∀ y, K (y) → RetV Z cX12_openLoop y) : WF Z K (m_X12_openLoop_j29 k p1 p2 I) I 29 [some (rf (zG Z) k), some (.int p1), some (.int p2), none] [] := by
  unfold m_X12_openLoop_j29
  refine w_iconst (v := (0)) C dX12_openLoop_29 (by decide) (q := 30) rfl ?_
  exact WF.less (L' := [some (rf (zG Z) k), some (.int p1), some (.int p2), none]) (m_X12_openLoop_j30_ok C hR k p1 p2 ((0 : Int32)) hk I hK) ⟨rfl, rfl, rfl, trivial⟩
def m_X12_openLoop (k : Nat) (p1 : Int32) (p2 : Int32) (I : Mem) : Option (Mem) :=
  Option.bind (m_X12_in p1 ((0 : Int32)) ((9 : Int32)) I) fun r1 => if r1 = 0 then (m_X12_openLoop_j29 k p1 p2 I) else (Option.bind (m_X12_in p2 ((1 : Int32)) ((9 : Int32)) I) fun r10 => if r10 = 0 then (m_X12_openLoop_j29 k p1 p2 I) else (if p2 < p1 then (m_X12_openLoop_j29 k p1 p2 I) else (m_X12_openLoop_j30 k p1 p2 ((1 : Int32)) I)))
set_option maxRecDepth 100000 in
set_option maxHeartbeats 4000000 in
theorem m_X12_openLoop_ok {Z : Zx} {K : Mem → Prop} (C : Cx Z cX12_openLoop 4 RX12) (hR : RM Z 1 22) (k : Nat) (p1 : Int32) (p2 : Int32) (hk : isO k 12) (I : Mem) (hK : ∀ y, K (y) → RetV Z cX12_openLoop y) : WF Z K (m_X12_openLoop k p1 p2 I) I 0 [some (rf (zG Z) k), some (.int p1), some (.int p2), none] [] := by
  unfold m_X12_openLoop
  refine w_iload_n (v := p1) C dX12_openLoop_0 rfl (q := 1) rfl ?_
  refine w_iconst (v := (0)) C dX12_openLoop_1 (by decide) (q := 2) rfl ?_
  refine w_bipush (v := (9)) C dX12_openLoop_2 (by decide) (q := 4) rfl ?_
  refine w_callS (val := fun r1 => some (.int r1)) (mem := fun r1 => I) (st1 := fun r1 => [.int r1]) (As := [.int p1, .int 0, .int 9]) (st := []) (q := 7) C hR (fun x h => c_X12_in (zl Z) (zG Z) p1 ((0 : Int32)) ((9 : Int32))  I h) mv_X12_in lk_X12_115 rfl (by decide) (fun _ => rfl) (Nat.le_of_ble_eq_true rfl) rfl rfl dX12_openLoop_4 rfl (fun r1 => ?_)
  refine w_if_eq (tgt := 29) (q := 10) C dX12_openLoop_7 (by decide) rfl (fun _ => ?_) (fun _ => ?_)
  · exact WF.less (L' := [some (rf (zG Z) k), some (.int p1), some (.int p2), none]) (m_X12_openLoop_j29_ok C hR k p1 p2 hk I hK) ⟨rfl, rfl, rfl, trivial⟩
  · refine w_iload_n (v := p2) C dX12_openLoop_10 rfl (q := 11) rfl ?_
    refine w_iconst (v := (1)) C dX12_openLoop_11 (by decide) (q := 12) rfl ?_
    refine w_bipush (v := (9)) C dX12_openLoop_12 (by decide) (q := 14) rfl ?_
    refine w_callS (val := fun r10 => some (.int r10)) (mem := fun r10 => I) (st1 := fun r10 => [.int r10]) (As := [.int p2, .int 1, .int 9]) (st := []) (q := 17) C hR (fun x h => c_X12_in (zl Z) (zG Z) p2 ((1 : Int32)) ((9 : Int32))  I h) mv_X12_in lk_X12_115 rfl (by decide) (fun _ => rfl) (Nat.le_of_ble_eq_true rfl) rfl rfl dX12_openLoop_14 rfl (fun r10 => ?_)
    refine w_if_eq (tgt := 29) (q := 20) C dX12_openLoop_17 (by decide) rfl (fun _ => ?_) (fun _ => ?_)
    · exact WF.less (L' := [some (rf (zG Z) k), some (.int p1), some (.int p2), none]) (m_X12_openLoop_j29_ok C hR k p1 p2 hk I hK) ⟨rfl, rfl, rfl, trivial⟩
    · refine w_iload_n (v := p2) C dX12_openLoop_20 rfl (q := 21) rfl ?_
      refine w_iload_n (v := p1) C dX12_openLoop_21 rfl (q := 22) rfl ?_
      refine w_icmp_lt (tgt := 29) (q := 25) C dX12_openLoop_22 (by decide) rfl (fun _ => ?_) (fun _ => ?_)
      · exact WF.less (L' := [some (rf (zG Z) k), some (.int p1), some (.int p2), none]) (m_X12_openLoop_j29_ok C hR k p1 p2 hk I hK) ⟨rfl, rfl, rfl, trivial⟩
      · refine w_iconst (v := (1)) C dX12_openLoop_25 (by decide) (q := 26) rfl ?_
        refine w_goto (tgt := 30) C dX12_openLoop_26 (by decide) ?_
        exact WF.less (L' := [some (rf (zG Z) k), some (.int p1), some (.int p2), none]) (m_X12_openLoop_j30_ok C hR k p1 p2 ((1 : Int32)) hk I hK) ⟨rfl, rfl, rfl, trivial⟩
theorem c_X12_openLoop (l : Launch) (G : Gx) {k : Nat} (p1 : Int32) (p2 : Int32) (hk : isO k 12) (I : Mem) {x : Mem} (h : m_X12_openLoop k p1 p2 I = some x) : Ct l G yX12_openLoop cX12_openLoop 4 none 1 22 [rf G k, .int p1, .int p2] I (none) x := Ct.of (by decide +kernel) rfl (Nat.le_of_ble_eq_true rfl) ret_v (fun Z hG hl C hR hret => by
  subst hG
  exact m_X12_openLoop_ok (K := fun y => y = x) C hR k p1 p2 hk I (fun y hy => by subst hy; exact hret) x h rfl)
def m_X12_closeLoop_j54 (k : Nat) (x1 : Int32) (y0 : Nat) (y1 : Int32) (I : Mem) : Option (Int32 × Mem) :=
  Option.bind (m_X12_isFine y0 y1 I) fun r1 => if r1.1 = 0 then (some ((0, r1.2))) else (bnd (ms r1.2 k 11 0) fun I2 => some ((x1, I2)))
set_option maxRecDepth 100000 in
set_option maxHeartbeats 4000000 in
theorem m_X12_closeLoop_j54_ok {Z : Zx} {K : (Int32 × Mem) → Prop} (C : Cx Z cX12_closeLoop 2 RX12) (hR : RM Z 1 21) (k : Nat) (x1 : Int32) (y0 : Nat) (y1 : Int32) (hk : isO k 12) (hy0 : isO y0 12) (I : Mem) (hK : ∀ y, K (y) → RetI Z cX12_closeLoop .int y.1 y.2) : WF Z K (m_X12_closeLoop_j54 k x1 y0 y1 I) I 54 [some (rf (zG Z) k), some (.int x1)] [.int y1, rf (zG Z) y0] := by
  unfold m_X12_closeLoop_j54
  refine w_callV (val := fun r1 => some (.int r1.1)) (mem := fun r1 => r1.2) (st1 := fun r1 => [.int r1.1]) (As := [.int y1]) (st := []) (q := 57) C hR (fun x h => c_X12_isFine (zl Z) (zG Z) y1 hy0 I h) hy0 mv_X12_isFine lk_X12_126 rfl (by decide) (fun _ => rfl) (Nat.le_of_ble_eq_true rfl) rfl rfl dX12_closeLoop_54 rfl (fun r1 => ?_)
  refine w_if_ne (tgt := 62) (q := 60) C dX12_closeLoop_57 (by decide) rfl (fun _ => ?_) (fun _ => ?_)
  · refine w_iconst (v := (0)) C dX12_closeLoop_60 (by decide) (q := 61) rfl ?_
    exact w_iret C (hK _) rfl dX12_closeLoop_61
  · refine w_aload_n (v := k) C dX12_closeLoop_62 rfl (q := 63) rfl ?_
    refine w_iconst (v := (0)) C dX12_closeLoop_63 (by decide) (q := 64) rfl ?_
    refine p_X12_11 C hk (by decide) lk_X12_130 dX12_closeLoop_64 (q := 67) rfl (fun I2 => ?_)
    refine w_iload_n (v := x1) C dX12_closeLoop_67 rfl (q := 68) rfl ?_
    exact w_iret C (hK _) rfl dX12_closeLoop_68
def m_X12_closeLoop_j49 (k : Nat) (x1 : Int32) (y0 : Nat) (I : Mem) : Option (Int32 × Mem) :=
  m_X12_closeLoop_j54 k x1 y0 ((1 : Int32)) I
set_option maxRecDepth 100000 in
set_option maxHeartbeats 4000000 in
theorem m_X12_closeLoop_j49_ok {Z : Zx} {K : (Int32 × Mem) → Prop} (C : Cx Z cX12_closeLoop 2 RX12) (hR : RM Z 1 21) (k : Nat) (x1 : Int32) (y0 : Nat) (hk : isO k 12) (hy0 : isO y0 12) (I : Mem) (hK : ∀ y, K (y) → RetI Z cX12_closeLoop .int y.1 y.2) : WF Z K (m_X12_closeLoop_j49 k x1 y0 I) I 49 [some (rf (zG Z) k), some (.int x1)] [rf (zG Z) y0] := by
  unfold m_X12_closeLoop_j49
  refine w_iconst (v := (1)) C dX12_closeLoop_49 (by decide) (q := 50) rfl ?_
  refine w_goto (tgt := 54) C dX12_closeLoop_50 (by decide) ?_
  exact WF.less (L' := [some (rf (zG Z) k), some (.int x1)]) (m_X12_closeLoop_j54_ok C hR k x1 y0 ((1 : Int32)) hk hy0 I hK) ⟨rfl, rfl, trivial⟩
def m_X12_closeLoop_j36 (k : Nat) (y0 : Int32) (I : Mem) : Option (Int32 × Mem) :=
  if I k 11 = 0 then (m_X12_closeLoop_j49 k y0 k I) else (if y0 = 0 then (m_X12_closeLoop_j49 k y0 k I) else (m_X12_closeLoop_j54 k y0 k ((0 : Int32)) I))
set_option maxRecDepth 100000 in
set_option maxHeartbeats 4000000 in
theorem m_X12_closeLoop_j36_ok {Z : Zx} {K : (Int32 × Mem) → Prop} (C : Cx Z cX12_closeLoop 2 RX12) (hR : RM Z 1 21) (k : Nat) (y0 : Int32) (hk : isO k 12) (I : Mem) (hK : ∀ y, K (y) → RetI Z cX12_closeLoop .int y.1 y.2) : WF Z K (m_X12_closeLoop_j36 k y0 I) I 36 [some (rf (zG Z) k), none] [.int y0] := by
  unfold m_X12_closeLoop_j36
  refine w_istore_n C dX12_closeLoop_36 (Nat.le_of_ble_eq_true rfl) (L' := [some (rf (zG Z) k), some (.int y0)]) rfl (q := 37) rfl ?_
  refine w_aload_n (v := k) C dX12_closeLoop_37 rfl (q := 38) rfl ?_
  refine w_aload_n (v := k) C dX12_closeLoop_38 rfl (q := 39) rfl ?_
  refine g_X12_11 C hk lk_X12_130 dX12_closeLoop_39 (q := 42) rfl ?_
  refine w_if_eq (tgt := 49) (q := 45) C dX12_closeLoop_42 (by decide) rfl (fun _ => ?_) (fun _ => ?_)
  · exact WF.less (L' := [some (rf (zG Z) k), some (.int y0)]) (m_X12_closeLoop_j49_ok C hR k y0 k hk hk I hK) ⟨rfl, rfl, trivial⟩
  · refine w_iload_n (v := y0) C dX12_closeLoop_45 rfl (q := 46) rfl ?_
    refine w_if_ne (tgt := 53) (q := 49) C dX12_closeLoop_46 (by decide) rfl (fun _ => ?_) (fun _ => ?_)
    · exact WF.less (L' := [some (rf (zG Z) k), some (.int y0)]) (m_X12_closeLoop_j49_ok C hR k y0 k hk hk I hK) ⟨rfl, rfl, trivial⟩
    · refine w_iconst (v := (0)) C dX12_closeLoop_53 (by decide) (q := 54) rfl ?_
      exact WF.less (L' := [some (rf (zG Z) k), some (.int y0)]) (m_X12_closeLoop_j54_ok C hR k y0 k ((0 : Int32)) hk hk I hK) ⟨rfl, rfl, trivial⟩
def m_X12_closeLoop (k : Nat) (I : Mem) : Option (Int32 × Mem) :=
  if I k 10 = 0 then (m_X12_closeLoop_j36 k ((0 : Int32)) I) else (gd (inb ((I k 10) - 1) 12) (gd (inb ((I k 10) - 1) 12) (m_X12_closeLoop_j36 k (((I (k + 7) ((I k 10) - 1).toNatClampNeg) - (I (k + 6) ((I k 10) - 1).toNatClampNeg)) + 1) I)))
set_option maxRecDepth 100000 in
set_option maxHeartbeats 4000000 in
theorem m_X12_closeLoop_ok {Z : Zx} {K : (Int32 × Mem) → Prop} (C : Cx Z cX12_closeLoop 2 RX12) (hR : RM Z 1 21) (k : Nat) (hk : isO k 12) (I : Mem) (hK : ∀ y, K (y) → RetI Z cX12_closeLoop .int y.1 y.2) : WF Z K (m_X12_closeLoop k I) I 0 [some (rf (zG Z) k), none] [] := by
  unfold m_X12_closeLoop
  refine w_aload_n (v := k) C dX12_closeLoop_0 rfl (q := 1) rfl ?_
  refine g_X12_10 C hk lk_X12_134 dX12_closeLoop_1 (q := 4) rfl ?_
  refine w_if_ne (tgt := 11) (q := 7) C dX12_closeLoop_4 (by decide) rfl (fun _ => ?_) (fun _ => ?_)
  · refine w_iconst (v := (0)) C dX12_closeLoop_7 (by decide) (q := 8) rfl ?_
    refine w_goto (tgt := 36) C dX12_closeLoop_8 (by decide) ?_
    exact WF.less (L' := [some (rf (zG Z) k), none]) (m_X12_closeLoop_j36_ok C hR k ((0 : Int32)) hk I hK) ⟨rfl, trivial⟩
  · refine w_aload_n (v := k) C dX12_closeLoop_11 rfl (q := 12) rfl ?_
    refine g_X12_7 C hk lk_X12_30 dX12_closeLoop_12 (q := 15) rfl ?_
    refine w_aload_n (v := k) C dX12_closeLoop_15 rfl (q := 16) rfl ?_
    refine g_X12_10 C hk lk_X12_134 dX12_closeLoop_16 (q := 19) rfl ?_
    refine w_iconst (v := (1)) C dX12_closeLoop_19 (by decide) (q := 20) rfl ?_
    refine w_isub C dX12_closeLoop_20 (q := 21) rfl ?_
    refine w_iald C (st_X12_7 hk).2 dX12_closeLoop_21 (q := 22) rfl (fun _ => ?_)
    refine w_aload_n (v := k) C dX12_closeLoop_22 rfl (q := 23) rfl ?_
    refine g_X12_6 C hk lk_X12_27 dX12_closeLoop_23 (q := 26) rfl ?_
    refine w_aload_n (v := k) C dX12_closeLoop_26 rfl (q := 27) rfl ?_
    refine g_X12_10 C hk lk_X12_134 dX12_closeLoop_27 (q := 30) rfl ?_
    refine w_iconst (v := (1)) C dX12_closeLoop_30 (by decide) (q := 31) rfl ?_
    refine w_isub C dX12_closeLoop_31 (q := 32) rfl ?_
    refine w_iald C (st_X12_6 hk).2 dX12_closeLoop_32 (q := 33) rfl (fun _ => ?_)
    refine w_isub C dX12_closeLoop_33 (q := 34) rfl ?_
    refine w_iconst (v := (1)) C dX12_closeLoop_34 (by decide) (q := 35) rfl ?_
    refine w_iadd C dX12_closeLoop_35 (q := 36) rfl ?_
    exact WF.less (L' := [some (rf (zG Z) k), none]) (m_X12_closeLoop_j36_ok C hR k (((I (k + 7) ((I k 10) - 1).toNatClampNeg) - (I (k + 6) ((I k 10) - 1).toNatClampNeg)) + 1) hk I hK) ⟨rfl, trivial⟩
theorem c_X12_closeLoop (l : Launch) (G : Gx) {k : Nat} (hk : isO k 12) (I : Mem) {x : Int32 × Mem} (h : m_X12_closeLoop k I = some x) : Ct l G yX12_closeLoop cX12_closeLoop 2 (some (.int)) 1 21 [rf G k] I (some (.int x.1)) x.2 := Ct.of (by decide +kernel) rfl (Nat.le_of_ble_eq_true rfl) ret_i (fun Z hG hl C hR hret => by
  subst hG
  exact m_X12_closeLoop_ok (K := fun y => y = x) C hR k hk I (fun y hy => by subst hy; exact hret) x h rfl)
def m_X12_clear (k : Nat) (I : Mem) : Option (Mem) :=
  bnd (ms I k 48 0) fun I1 => bnd (ms I1 k 4 0) fun I2 => bnd (ms I2 k 10 0) fun I3 => bnd (ms I3 k 11 0) fun I4 => bnd (ms I4 k 42 0) fun I5 => bnd (ms I5 k 23 0) fun I6 => some I6
set_option maxRecDepth 100000 in
set_option maxHeartbeats 4000000 in
theorem m_X12_clear_ok {Z : Zx} {K : Mem → Prop} (C : Cx Z cX12_clear 1 RX12) (hR : RM Z 0 0) (k : Nat) (hk : isO k 12) (I : Mem) (hK : ∀ y, K (y) → RetV Z cX12_clear y) : WF Z K (m_X12_clear k I) I 0 [some (rf (zG Z) k)] [] := by
  unfold m_X12_clear
  refine w_aload_n (v := k) C dX12_clear_0 rfl (q := 1) rfl ?_
  refine w_iconst (v := (0)) C dX12_clear_1 (by decide) (q := 2) rfl ?_
  refine p_X12_48 C hk  lk_X12_111 dX12_clear_2 (q := 5) rfl (fun I1 => ?_)
  refine w_aload_n (v := k) C dX12_clear_5 rfl (q := 6) rfl ?_
  refine w_iconst (v := (0)) C dX12_clear_6 (by decide) (q := 7) rfl ?_
  refine p_X12_4 C hk  lk_X12_123 dX12_clear_7 (q := 10) rfl (fun I2 => ?_)
  refine w_aload_n (v := k) C dX12_clear_10 rfl (q := 11) rfl ?_
  refine w_iconst (v := (0)) C dX12_clear_11 (by decide) (q := 12) rfl ?_
  refine p_X12_10 C hk  lk_X12_134 dX12_clear_12 (q := 15) rfl (fun I3 => ?_)
  refine w_aload_n (v := k) C dX12_clear_15 rfl (q := 16) rfl ?_
  refine w_iconst (v := (0)) C dX12_clear_16 (by decide) (q := 17) rfl ?_
  refine p_X12_11 C hk (by decide) lk_X12_130 dX12_clear_17 (q := 20) rfl (fun I4 => ?_)
  refine w_aload_n (v := k) C dX12_clear_20 rfl (q := 21) rfl ?_
  refine w_iconst (v := (0)) C dX12_clear_21 (by decide) (q := 22) rfl ?_
  refine p_X12_42 C hk  lk_X12_137 dX12_clear_22 (q := 25) rfl (fun I5 => ?_)
  refine w_aload_n (v := k) C dX12_clear_25 rfl (q := 26) rfl ?_
  refine w_iconst (v := (0)) C dX12_clear_26 (by decide) (q := 27) rfl ?_
  refine p_X12_23 C hk (by decide) lk_X12_140 dX12_clear_27 (q := 30) rfl (fun I6 => ?_)
  exact w_vret C (hK _) dX12_clear_30
theorem c_X12_clear (l : Launch) (G : Gx) {k : Nat} (hk : isO k 12) (I : Mem) {x : Mem} (h : m_X12_clear k I = some x) : Ct l G yX12_clear cX12_clear 1 none 0 0 [rf G k] I (none) x := Ct.of (by decide +kernel) rfl (Nat.le_of_ble_eq_true rfl) ret_v (fun Z hG hl C hR hret => by
  subst hG
  exact m_X12_clear_ok (K := fun y => y = x) C hR k hk I (fun y hy => by subst hy; exact hret) x h rfl)
def m_X12_items (k : Nat) (I : Mem) : Option (Int32 × Mem) :=
  bnd (ms I k 48 0) fun I1 => some ((I1 k 4, I1))
set_option maxRecDepth 100000 in
set_option maxHeartbeats 4000000 in
theorem m_X12_items_ok {Z : Zx} {K : (Int32 × Mem) → Prop} (C : Cx Z cX12_items 1 RX12) (hR : RM Z 0 0) (k : Nat) (hk : isO k 12) (I : Mem) (hK : ∀ y, K (y) → RetI Z cX12_items .int y.1 y.2) : WF Z K (m_X12_items k I) I 0 [some (rf (zG Z) k)] [] := by
  unfold m_X12_items
  refine w_aload_n (v := k) C dX12_items_0 rfl (q := 1) rfl ?_
  refine w_iconst (v := (0)) C dX12_items_1 (by decide) (q := 2) rfl ?_
  refine p_X12_48 C hk  lk_X12_111 dX12_items_2 (q := 5) rfl (fun I1 => ?_)
  refine w_aload_n (v := k) C dX12_items_5 rfl (q := 6) rfl ?_
  refine g_X12_4 C hk lk_X12_123 dX12_items_6 (q := 9) rfl ?_
  exact w_iret C (hK _) rfl dX12_items_9
theorem c_X12_items (l : Launch) (G : Gx) {k : Nat} (hk : isO k 12) (I : Mem) {x : Int32 × Mem} (h : m_X12_items k I = some x) : Ct l G yX12_items cX12_items 1 (some (.int)) 0 0 [rf G k] I (some (.int x.1)) x.2 := Ct.of (by decide +kernel) rfl (Nat.le_of_ble_eq_true rfl) ret_i (fun Z hG hl C hR hret => by
  subst hG
  exact m_X12_items_ok (K := fun y => y = x) C hR k hk I (fun y hy => by subst hy; exact hret) x h rfl)
def m_X12_feed_j31 (k : Nat) (p1 : Int32) (y0 : Nat) (y1 : Int32) (I : Mem) : Option (Int32 × Mem) :=
  Option.bind (m_X12_isFine y0 y1 I) fun r2 => if r2.1 = 0 then (some ((0, r2.2))) else (gd (inb (r2.2 k 13) 300) (gd (okc p1) (bnd (ms r2.2 (k + 10) (r2.2 k 13).toNatClampNeg p1) fun I3 => bnd (ms I3 k 13 ((I3 k 13) + 1)) fun I4 => some ((I4 k 13, I4)))))
set_option maxRecDepth 100000 in
set_option maxHeartbeats 4000000 in
theorem m_X12_feed_j31_ok {Z : Zx} {K : (Int32 × Mem) → Prop} (C : Cx Z cX12_feed 2 RX12) (hR : RM Z 1 22) (k : Nat) (p1 : Int32) (y0 : Nat) (y1 : Int32) (hk : isO k 12) (hy0 : isO y0 12) (I : Mem) (hK : ∀ y, K (y) → RetI Z cX12_feed .int y.1 y.2) : WF Z K (m_X12_feed_j31 k p1 y0 y1 I) I 31 [some (rf (zG Z) k), some (.int p1)] [.int y1, rf (zG Z) y0] := by
  unfold m_X12_feed_j31
  refine w_callV (val := fun r2 => some (.int r2.1)) (mem := fun r2 => r2.2) (st1 := fun r2 => [.int r2.1]) (As := [.int y1]) (st := []) (q := 34) C hR (fun x h => c_X12_isFine (zl Z) (zG Z) y1 hy0 I h) hy0 mv_X12_isFine lk_X12_126 rfl (by decide) (fun _ => rfl) (Nat.le_of_ble_eq_true rfl) rfl rfl dX12_feed_31 rfl (fun r2 => ?_)
  refine w_if_ne (tgt := 39) (q := 37) C dX12_feed_34 (by decide) rfl (fun _ => ?_) (fun _ => ?_)
  · refine w_iconst (v := (0)) C dX12_feed_37 (by decide) (q := 38) rfl ?_
    exact w_iret C (hK _) rfl dX12_feed_38
  · refine w_aload_n (v := k) C dX12_feed_39 rfl (q := 40) rfl ?_
    refine g_X12_12 C hk lk_X12_39 dX12_feed_40 (q := 43) rfl ?_
    refine w_aload_n (v := k) C dX12_feed_43 rfl (q := 44) rfl ?_
    refine g_X12_13 C hk lk_X12_143 dX12_feed_44 (q := 47) rfl ?_
    refine w_iload_n (v := p1) C dX12_feed_47 rfl (q := 48) rfl ?_
    refine w_cast C (st_X12_12 hk).2 dX12_feed_48 (q := 49) rfl (fun _ I3 => ?_)
    refine w_aload_n (v := k) C dX12_feed_49 rfl (q := 50) rfl ?_
    refine w_dup C dX12_feed_50 rfl (q := 51) rfl ?_
    refine g_X12_13 C hk lk_X12_143 dX12_feed_51 (q := 54) rfl ?_
    refine w_iconst (v := (1)) C dX12_feed_54 (by decide) (q := 55) rfl ?_
    refine w_iadd C dX12_feed_55 (q := 56) rfl ?_
    refine p_X12_13 C hk  lk_X12_143 dX12_feed_56 (q := 59) rfl (fun I4 => ?_)
    refine w_aload_n (v := k) C dX12_feed_59 rfl (q := 60) rfl ?_
    refine g_X12_13 C hk lk_X12_143 dX12_feed_60 (q := 63) rfl ?_
    exact w_iret C (hK _) rfl dX12_feed_63
def m_X12_feed (k : Nat) (p1 : Int32) (I : Mem) : Option (Int32 × Mem) :=
  Option.bind (m_X12_in p1 ((32 : Int32)) ((126 : Int32)) I) fun r1 => if r1 = 0 then (m_X12_feed_j31 k p1 k ((1 : Int32)) I) else (if I k 13 = 300 then (m_X12_feed_j31 k p1 k ((2 : Int32)) I) else (m_X12_feed_j31 k p1 k ((0 : Int32)) I))
set_option maxRecDepth 100000 in
set_option maxHeartbeats 4000000 in
theorem m_X12_feed_ok {Z : Zx} {K : (Int32 × Mem) → Prop} (C : Cx Z cX12_feed 2 RX12) (hR : RM Z 1 22) (k : Nat) (p1 : Int32) (hk : isO k 12) (I : Mem) (hK : ∀ y, K (y) → RetI Z cX12_feed .int y.1 y.2) : WF Z K (m_X12_feed k p1 I) I 0 [some (rf (zG Z) k), some (.int p1)] [] := by
  unfold m_X12_feed
  refine w_aload_n (v := k) C dX12_feed_0 rfl (q := 1) rfl ?_
  refine w_iload_n (v := p1) C dX12_feed_1 rfl (q := 2) rfl ?_
  refine w_bipush (v := (32)) C dX12_feed_2 (by decide) (q := 4) rfl ?_
  refine w_bipush (v := (126)) C dX12_feed_4 (by decide) (q := 6) rfl ?_
  refine w_callS (val := fun r1 => some (.int r1)) (mem := fun r1 => I) (st1 := fun r1 => [.int r1, rf (zG Z) k]) (As := [.int p1, .int 32, .int 126]) (st := [rf (zG Z) k]) (q := 9) C hR (fun x h => c_X12_in (zl Z) (zG Z) p1 ((32 : Int32)) ((126 : Int32))  I h) mv_X12_in lk_X12_115 rfl (by decide) (fun _ => rfl) (Nat.le_of_ble_eq_true rfl) rfl rfl dX12_feed_6 rfl (fun r1 => ?_)
  refine w_if_ne (tgt := 16) (q := 12) C dX12_feed_9 (by decide) rfl (fun _ => ?_) (fun _ => ?_)
  · refine w_iconst (v := (1)) C dX12_feed_12 (by decide) (q := 13) rfl ?_
    refine w_goto (tgt := 31) C dX12_feed_13 (by decide) ?_
    exact WF.less (L' := [some (rf (zG Z) k), some (.int p1)]) (m_X12_feed_j31_ok C hR k p1 k ((1 : Int32)) hk hk I hK) ⟨rfl, rfl, trivial⟩
  · refine w_aload_n (v := k) C dX12_feed_16 rfl (q := 17) rfl ?_
    refine g_X12_13 C hk lk_X12_143 dX12_feed_17 (q := 20) rfl ?_
    refine w_sipush (v := (300)) C dX12_feed_20 (by decide) (q := 23) rfl ?_
    refine w_icmp_ne (tgt := 30) (q := 26) C dX12_feed_23 (by decide) rfl (fun _ => ?_) (fun _ => ?_)
    · refine w_iconst (v := (2)) C dX12_feed_26 (by decide) (q := 27) rfl ?_
      refine w_goto (tgt := 31) C dX12_feed_27 (by decide) ?_
      exact WF.less (L' := [some (rf (zG Z) k), some (.int p1)]) (m_X12_feed_j31_ok C hR k p1 k ((2 : Int32)) hk hk I hK) ⟨rfl, rfl, trivial⟩
    · refine w_iconst (v := (0)) C dX12_feed_30 (by decide) (q := 31) rfl ?_
      exact WF.less (L' := [some (rf (zG Z) k), some (.int p1)]) (m_X12_feed_j31_ok C hR k p1 k ((0 : Int32)) hk hk I hK) ⟨rfl, rfl, trivial⟩
theorem c_X12_feed (l : Launch) (G : Gx) {k : Nat} (p1 : Int32) (hk : isO k 12) (I : Mem) {x : Int32 × Mem} (h : m_X12_feed k p1 I = some x) : Ct l G yX12_feed cX12_feed 2 (some (.int)) 1 22 [rf G k, .int p1] I (some (.int x.1)) x.2 := Ct.of (by decide +kernel) rfl (Nat.le_of_ble_eq_true rfl) ret_i (fun Z hG hl C hR hret => by
  subst hG
  exact m_X12_feed_ok (K := fun y => y = x) C hR k p1 hk I (fun y hy => by subst hy; exact hret) x h rfl)
def m_X12_discard (k : Nat) (I : Mem) : Option (Int32 × Mem) :=
  bnd (ms I k 48 0) fun I1 => bnd (ms I1 k 13 0) fun I2 => some ((I1 k 13, I2))
set_option maxRecDepth 100000 in
set_option maxHeartbeats 4000000 in
theorem m_X12_discard_ok {Z : Zx} {K : (Int32 × Mem) → Prop} (C : Cx Z cX12_discard 2 RX12) (hR : RM Z 0 0) (k : Nat) (hk : isO k 12) (I : Mem) (hK : ∀ y, K (y) → RetI Z cX12_discard .int y.1 y.2) : WF Z K (m_X12_discard k I) I 0 [some (rf (zG Z) k), none] [] := by
  unfold m_X12_discard
  refine w_aload_n (v := k) C dX12_discard_0 rfl (q := 1) rfl ?_
  refine w_iconst (v := (0)) C dX12_discard_1 (by decide) (q := 2) rfl ?_
  refine p_X12_48 C hk  lk_X12_111 dX12_discard_2 (q := 5) rfl (fun I1 => ?_)
  refine w_aload_n (v := k) C dX12_discard_5 rfl (q := 6) rfl ?_
  refine g_X12_13 C hk lk_X12_143 dX12_discard_6 (q := 9) rfl ?_
  refine w_istore_n C dX12_discard_9 (Nat.le_of_ble_eq_true rfl) (L' := [some (rf (zG Z) k), some (.int (I1 k 13))]) rfl (q := 10) rfl ?_
  refine w_aload_n (v := k) C dX12_discard_10 rfl (q := 11) rfl ?_
  refine w_iconst (v := (0)) C dX12_discard_11 (by decide) (q := 12) rfl ?_
  refine p_X12_13 C hk  lk_X12_143 dX12_discard_12 (q := 15) rfl (fun I2 => ?_)
  refine w_iload_n (v := I1 k 13) C dX12_discard_15 rfl (q := 16) rfl ?_
  exact w_iret C (hK _) rfl dX12_discard_16
theorem c_X12_discard (l : Launch) (G : Gx) {k : Nat} (hk : isO k 12) (I : Mem) {x : Int32 × Mem} (h : m_X12_discard k I = some x) : Ct l G yX12_discard cX12_discard 2 (some (.int)) 0 0 [rf G k] I (some (.int x.1)) x.2 := Ct.of (by decide +kernel) rfl (Nat.le_of_ble_eq_true rfl) ret_i (fun Z hG hl C hR hret => by
  subst hG
  exact m_X12_discard_ok (K := fun y => y = x) C hR k hk I (fun y hy => by subst hy; exact hret) x h rfl)
def m_X12_length (k : Nat) (I : Mem) : Option (Int32 × Mem) :=
  bnd (ms I k 48 0) fun I1 => some ((I1 k 13, I1))
set_option maxRecDepth 100000 in
set_option maxHeartbeats 4000000 in
theorem m_X12_length_ok {Z : Zx} {K : (Int32 × Mem) → Prop} (C : Cx Z cX12_length 1 RX12) (hR : RM Z 0 0) (k : Nat) (hk : isO k 12) (I : Mem) (hK : ∀ y, K (y) → RetI Z cX12_length .int y.1 y.2) : WF Z K (m_X12_length k I) I 0 [some (rf (zG Z) k)] [] := by
  unfold m_X12_length
  refine w_aload_n (v := k) C dX12_length_0 rfl (q := 1) rfl ?_
  refine w_iconst (v := (0)) C dX12_length_1 (by decide) (q := 2) rfl ?_
  refine p_X12_48 C hk  lk_X12_111 dX12_length_2 (q := 5) rfl (fun I1 => ?_)
  refine w_aload_n (v := k) C dX12_length_5 rfl (q := 6) rfl ?_
  refine g_X12_13 C hk lk_X12_143 dX12_length_6 (q := 9) rfl ?_
  exact w_iret C (hK _) rfl dX12_length_9
theorem c_X12_length (l : Launch) (G : Gx) {k : Nat} (hk : isO k 12) (I : Mem) {x : Int32 × Mem} (h : m_X12_length k I = some x) : Ct l G yX12_length cX12_length 1 (some (.int)) 0 0 [rf G k] I (some (.int x.1)) x.2 := Ct.of (by decide +kernel) rfl (Nat.le_of_ble_eq_true rfl) ret_i (fun Z hG hl C hR hret => by
  subst hG
  exact m_X12_length_ok (K := fun y => y = x) C hR k hk I (fun y hy => by subst hy; exact hret) x h rfl)
def m_X12_fault (k : Nat) (p1 : Int32) (p2 : Int32) (I : Mem) : Option (Mem) :=
  gd (inb (I k 16) 160) (bnd (ms I (k + 11) (I k 16).toNatClampNeg p1) fun I1 => gd (inb (I1 k 16) 160) (bnd (ms I1 (k + 12) (I1 k 16).toNatClampNeg p2) fun I2 => bnd (ms I2 k 16 ((I2 k 16) + 1)) fun I3 => some I3))
set_option maxRecDepth 100000 in
set_option maxHeartbeats 4000000 in
theorem m_X12_fault_ok {Z : Zx} {K : Mem → Prop} (C : Cx Z cX12_fault 3 RX12) (hR : RM Z 0 0) (k : Nat) (p1 : Int32) (p2 : Int32) (hk : isO k 12) (I : Mem) (hK : ∀ y, K (y) → RetV Z cX12_fault y) : WF Z K (m_X12_fault k p1 p2 I) I 0 [some (rf (zG Z) k), some (.int p1), some (.int p2)] [] := by
  unfold m_X12_fault
  refine w_aload_n (v := k) C dX12_fault_0 rfl (q := 1) rfl ?_
  refine g_X12_14 C hk lk_X12_42 dX12_fault_1 (q := 4) rfl ?_
  refine w_aload_n (v := k) C dX12_fault_4 rfl (q := 5) rfl ?_
  refine g_X12_16 C hk lk_X12_146 dX12_fault_5 (q := 8) rfl ?_
  refine w_iload_n (v := p1) C dX12_fault_8 rfl (q := 9) rfl ?_
  refine w_iast C (st_X12_14 hk).2 dX12_fault_9 (q := 10) rfl (fun _ I1 => ?_)
  refine w_aload_n (v := k) C dX12_fault_10 rfl (q := 11) rfl ?_
  refine g_X12_15 C hk lk_X12_45 dX12_fault_11 (q := 14) rfl ?_
  refine w_aload_n (v := k) C dX12_fault_14 rfl (q := 15) rfl ?_
  refine g_X12_16 C hk lk_X12_146 dX12_fault_15 (q := 18) rfl ?_
  refine w_iload_n (v := p2) C dX12_fault_18 rfl (q := 19) rfl ?_
  refine w_iast C (st_X12_15 hk).2 dX12_fault_19 (q := 20) rfl (fun _ I2 => ?_)
  refine w_aload_n (v := k) C dX12_fault_20 rfl (q := 21) rfl ?_
  refine w_dup C dX12_fault_21 rfl (q := 22) rfl ?_
  refine g_X12_16 C hk lk_X12_146 dX12_fault_22 (q := 25) rfl ?_
  refine w_iconst (v := (1)) C dX12_fault_25 (by decide) (q := 26) rfl ?_
  refine w_iadd C dX12_fault_26 (q := 27) rfl ?_
  refine p_X12_16 C hk  lk_X12_146 dX12_fault_27 (q := 30) rfl (fun I3 => ?_)
  exact w_vret C (hK _) dX12_fault_30
theorem c_X12_fault (l : Launch) (G : Gx) {k : Nat} (p1 : Int32) (p2 : Int32) (hk : isO k 12) (I : Mem) {x : Mem} (h : m_X12_fault k p1 p2 I = some x) : Ct l G yX12_fault cX12_fault 3 none 0 0 [rf G k, .int p1, .int p2] I (none) x := Ct.of (by decide +kernel) rfl (Nat.le_of_ble_eq_true rfl) ret_v (fun Z hG hl C hR hret => by
  subst hG
  exact m_X12_fault_ok (K := fun y => y = x) C hR k p1 p2 hk I (fun y hy => by subst hy; exact hret) x h rfl)
def m_X12_endOf_j38 (k : Nat) (y0 : Int32) (y1 : Int32) (I : Mem) : Option ((Int32) ⊕ ((Int32))) :=
  some (.inl (y0 + y1))
set_option maxRecDepth 100000 in
set_option maxHeartbeats 4000000 in
theorem m_X12_endOf_j38_ok {Z : Zx} {K : ((Int32) ⊕ ((Int32))) → Prop} (C : Cx Z cX12_endOf 3 RX12) (hR : RM Z 0 0) (k : Nat) (y0 : Int32) (y1 : Int32) (hk : isO k 12) (I : Mem) (hB : ∀ a, K (.inl a) → WM Z I 2 [some (rf (zG Z) k), none, some (.int a)] []) (hX0 : ∀ b, K (.inr (b)) → WM Z I 43 [some (rf (zG Z) k), none, some (.int b)] []) : WF Z K (m_X12_endOf_j38 k y0 y1 I) I 38 [some (rf (zG Z) k), none, none] [.int y1, .int y0] := by
  unfold m_X12_endOf_j38
  refine w_iadd C dX12_endOf_38 (q := 39) rfl ?_
  refine w_istore_n C dX12_endOf_39 (Nat.le_of_ble_eq_true rfl) (L' := [some (rf (zG Z) k), none, some (.int (y0 + y1))]) rfl (q := 40) rfl ?_
  refine w_goto (tgt := 2) C dX12_endOf_40 (by decide) ?_
  exact w_jmp (fun h => WM.less (L' := [some (rf (zG Z) k), none, some (.int (y0 + y1))]) (hB _ h) ⟨rfl, rfl, trivial⟩)
def m_X12_endOf_b2 (k : Nat) (x2 : Int32) (I : Mem) : Option ((Int32) ⊕ ((Int32))) :=
  if I k 13 ≤ x2 then (some (.inr (x2))) else (gd (inb x2 300) (if I (k + 10) x2.toNatClampNeg = 39 then (some (.inr (x2))) else (gd (inb x2 300) (if I (k + 10) x2.toNatClampNeg = 63 then (m_X12_endOf_j38 k x2 ((2 : Int32)) I) else (m_X12_endOf_j38 k x2 ((1 : Int32)) I)))))
set_option maxRecDepth 100000 in
set_option maxHeartbeats 4000000 in
theorem m_X12_endOf_b2_ok {Z : Zx} {K : ((Int32) ⊕ ((Int32))) → Prop} (C : Cx Z cX12_endOf 3 RX12) (hR : RM Z 0 0) (k : Nat) (x2 : Int32) (hk : isO k 12) (I : Mem) (hB : ∀ a, K (.inl a) → WM Z I 2 [some (rf (zG Z) k), none, some (.int a)] []) (hX0 : ∀ b, K (.inr (b)) → WM Z I 43 [some (rf (zG Z) k), none, some (.int b)] []) : WF Z K (m_X12_endOf_b2 k x2 I) I 2 [some (rf (zG Z) k), none, some (.int x2)] [] := by
  unfold m_X12_endOf_b2
  refine w_iload_n (v := x2) C dX12_endOf_2 rfl (q := 3) rfl ?_
  refine w_aload_n (v := k) C dX12_endOf_3 rfl (q := 4) rfl ?_
  refine g_X12_13 C hk lk_X12_143 dX12_endOf_4 (q := 7) rfl ?_
  refine w_icmp_ge (tgt := 43) (q := 10) C dX12_endOf_7 (by decide) rfl (fun _ => ?_) (fun _ => ?_)
  · exact w_jmp (fun h => WM.less (L' := [some (rf (zG Z) k), none, some (.int x2)]) (hX0 _ h) ⟨rfl, rfl, trivial⟩)
  · refine w_aload_n (v := k) C dX12_endOf_10 rfl (q := 11) rfl ?_
    refine g_X12_12 C hk lk_X12_39 dX12_endOf_11 (q := 14) rfl ?_
    refine w_iload_n (v := x2) C dX12_endOf_14 rfl (q := 15) rfl ?_
    refine w_cald C (st_X12_12 hk).2 dX12_endOf_15 (q := 16) rfl (fun _ => ?_)
    refine w_bipush (v := (39)) C dX12_endOf_16 (by decide) (q := 18) rfl ?_
    refine w_icmp_eq (tgt := 43) (q := 21) C dX12_endOf_18 (by decide) rfl (fun _ => ?_) (fun _ => ?_)
    · exact w_jmp (fun h => WM.less (L' := [some (rf (zG Z) k), none, some (.int x2)]) (hX0 _ h) ⟨rfl, rfl, trivial⟩)
    · refine w_iload_n (v := x2) C dX12_endOf_21 rfl (q := 22) rfl ?_
      refine w_aload_n (v := k) C dX12_endOf_22 rfl (q := 23) rfl ?_
      refine g_X12_12 C hk lk_X12_39 dX12_endOf_23 (q := 26) rfl ?_
      refine w_iload_n (v := x2) C dX12_endOf_26 rfl (q := 27) rfl ?_
      refine w_cald C (st_X12_12 hk).2 dX12_endOf_27 (q := 28) rfl (fun _ => ?_)
      refine w_bipush (v := (63)) C dX12_endOf_28 (by decide) (q := 30) rfl ?_
      refine w_icmp_ne (tgt := 37) (q := 33) C dX12_endOf_30 (by decide) rfl (fun _ => ?_) (fun _ => ?_)
      · refine w_iconst (v := (2)) C dX12_endOf_33 (by decide) (q := 34) rfl ?_
        refine w_goto (tgt := 38) C dX12_endOf_34 (by decide) ?_
        exact WF.less (L' := [some (rf (zG Z) k), none, none]) (m_X12_endOf_j38_ok C hR k x2 ((2 : Int32)) hk I hB hX0) ⟨rfl, trivial⟩
      · refine w_iconst (v := (1)) C dX12_endOf_37 (by decide) (q := 38) rfl ?_
        exact WF.less (L' := [some (rf (zG Z) k), none, none]) (m_X12_endOf_j38_ok C hR k x2 ((1 : Int32)) hk I hB hX0) ⟨rfl, trivial⟩
def m_X12_endOf (k : Nat) (p1 : Int32) (I : Mem) : Option (Int32) :=
  Option.bind (loopF (fun a => m_X12_endOf_b2 k a I) FU p1) (fun b1 => if I k 13 ≤ b1 then (some (I k 13)) else (some b1))
set_option maxRecDepth 100000 in
set_option maxHeartbeats 4000000 in
theorem m_X12_endOf_ok {Z : Zx} {K : Int32 → Prop} (C : Cx Z cX12_endOf 3 RX12) (hR : RM Z 0 0) (k : Nat) (p1 : Int32) (hk : isO k 12) (I : Mem) (hK : ∀ y, K (y) → RetI Z cX12_endOf .int y I) : WF Z K (m_X12_endOf k p1 I) I 0 [some (rf (zG Z) k), some (.int p1), none] [] := by
  unfold m_X12_endOf
  refine w_iload_n (v := p1) C dX12_endOf_0 rfl (q := 1) rfl ?_
  refine w_istore_n C dX12_endOf_1 (Nat.le_of_ble_eq_true rfl) (L' := [some (rf (zG Z) k), some (.int p1), some (.int p1)]) rfl (q := 2) rfl ?_
  refine WF.less (L' := [some (rf (zG Z) k), none, some (.int p1)]) (w_loopF (pc := 2) (a := p1) (mem := fun a => I) (lo := fun a => [some (rf (zG Z) k), none, some (.int a)]) (E := fun b1 => WM Z I 43 [some (rf (zG Z) k), none, some (.int b1)] []) (fun a => m_X12_endOf_b2_ok C hR k a hk I (fun _ h => h) (fun _ h => h)) ?_) ⟨rfl, rfl, trivial⟩
  intro b1
  refine w_hx ?_
  refine w_iload_n (v := b1) C dX12_endOf_43 rfl (q := 44) rfl ?_
  refine w_aload_n (v := k) C dX12_endOf_44 rfl (q := 45) rfl ?_
  refine g_X12_13 C hk lk_X12_143 dX12_endOf_45 (q := 48) rfl ?_
  refine w_icmp_ge (tgt := 55) (q := 51) C dX12_endOf_48 (by decide) rfl (fun _ => ?_) (fun _ => ?_)
  · refine w_aload_n (v := k) C dX12_endOf_55 rfl (q := 56) rfl ?_
    refine g_X12_13 C hk lk_X12_143 dX12_endOf_56 (q := 59) rfl ?_
    exact w_iret C (hK _) rfl dX12_endOf_59
  · refine w_iload_n (v := b1) C dX12_endOf_51 rfl (q := 52) rfl ?_
    refine w_goto (tgt := 59) C dX12_endOf_52 (by decide) ?_
    exact w_iret C (hK _) rfl dX12_endOf_59
theorem c_X12_endOf (l : Launch) (G : Gx) {k : Nat} (p1 : Int32) (hk : isO k 12) (I : Mem) {x : Int32} (h : m_X12_endOf k p1 I = some x) : Ct l G yX12_endOf cX12_endOf 3 (some (.int)) 0 0 [rf G k, .int p1] I (some (.int x)) I := Ct.of (by decide +kernel) rfl (Nat.le_of_ble_eq_true rfl) ret_i (fun Z hG hl C hR hret => by
  subst hG
  exact m_X12_endOf_ok (K := fun y => y = x) C hR k p1 hk I (fun y hy => by subst hy; exact hret) x h rfl)
def m_X12_parts_j62 (k : Nat) (p1 : Int32) (p2 : Int32) (x3 : Int32) (x4 : Int32) (x5 : Int32) (y0 : Int32) (y1 : Int32) (I : Mem) : Option ((Int32 × Int32 × Int32) ⊕ ((Int32 × Int32 × Int32))) :=
  gd (inb (y0 + y1) 300) (some (.inl (x5 + 1, I (k + 10) (y0 + y1).toNatClampNeg, (y0 + y1) + 1)))
set_option maxRecDepth 100000 in
set_option maxHeartbeats 4000000 in
theorem m_X12_parts_j62_ok {Z : Zx} {K : ((Int32 × Int32 × Int32) ⊕ ((Int32 × Int32 × Int32))) → Prop} (C : Cx Z cX12_parts 9 RX12) (hR : RM Z 1 22) (k : Nat) (p1 : Int32) (p2 : Int32) (x3 : Int32) (x4 : Int32) (x5 : Int32) (y0 : Int32) (y1 : Int32) (hk : isO k 12) (I : Mem) (hB : ∀ a, K (.inl a) → WM Z I 25 [some (rf (zG Z) k), some (.int p1), some (.int p2), some (.int x3), some (.int x4), some (.int a.1), some (.int a.2.1), some (.int a.2.2), none] []) (hX0 : ∀ b, K (.inr (b)) → WM Z I 83 [some (rf (zG Z) k), some (.int p1), some (.int p2), some (.int x3), some (.int x4), some (.int b.1), some (.int b.2.1), some (.int b.2.2), none] []) : WF Z K (m_X12_parts_j62 k p1 p2 x3 x4 x5 y0 y1 I) I 62 [some (rf (zG Z) k), some (.int p1), some (.int p2), some (.int x3), some (.int x4), some (.int x5), none, none, none] [.int y1, .int y0] := by
  unfold m_X12_parts_j62
  refine w_iadd C dX12_parts_62 (q := 63) rfl ?_
  refine w_istore C dX12_parts_63 (Nat.le_of_ble_eq_true rfl) (L' := [some (rf (zG Z) k), some (.int p1), some (.int p2), some (.int x3), some (.int x4), some (.int x5), none, some (.int (y0 + y1)), none]) rfl (q := 65) rfl ?_
  refine w_aload_n (v := k) C dX12_parts_65 rfl (q := 66) rfl ?_
  refine g_X12_12 C hk lk_X12_39 dX12_parts_66 (q := 69) rfl ?_
  refine w_iload (v := y0 + y1) C dX12_parts_69 rfl (q := 71) rfl ?_
  refine w_cald C (st_X12_12 hk).2 dX12_parts_71 (q := 72) rfl (fun _ => ?_)
  refine w_istore C dX12_parts_72 (Nat.le_of_ble_eq_true rfl) (L' := [some (rf (zG Z) k), some (.int p1), some (.int p2), some (.int x3), some (.int x4), some (.int x5), some (.int (I (k + 10) (y0 + y1).toNatClampNeg)), some (.int (y0 + y1)), none]) rfl (q := 74) rfl ?_
  refine w_iinc (v := x5 + 1) C dX12_parts_74 rfl rfl (L' := [some (rf (zG Z) k), some (.int p1), some (.int p2), some (.int x3), some (.int x4), some (.int (x5 + 1)), some (.int (I (k + 10) (y0 + y1).toNatClampNeg)), some (.int (y0 + y1)), none]) rfl (q := 77) rfl ?_
  refine w_iinc (v := (y0 + y1) + 1) C dX12_parts_77 rfl rfl (L' := [some (rf (zG Z) k), some (.int p1), some (.int p2), some (.int x3), some (.int x4), some (.int (x5 + 1)), some (.int (I (k + 10) (y0 + y1).toNatClampNeg)), some (.int ((y0 + y1) + 1)), none]) rfl (q := 80) rfl ?_
  refine w_goto (tgt := 25) C dX12_parts_80 (by decide) ?_
  exact w_jmp (fun h => WM.less (L' := [some (rf (zG Z) k), some (.int p1), some (.int p2), some (.int x3), some (.int x4), some (.int (x5 + 1)), some (.int (I (k + 10) (y0 + y1).toNatClampNeg)), some (.int ((y0 + y1) + 1)), none]) (hB _ h) ⟨rfl, rfl, rfl, rfl, rfl, rfl, rfl, rfl, trivial⟩)
def m_X12_parts_b25 (k : Nat) (p1 : Int32) (p2 : Int32) (x3 : Int32) (x4 : Int32) (x5 : Int32) (x6 : Int32) (x7 : Int32) (I : Mem) : Option ((Int32 × Int32 × Int32) ⊕ ((Int32 × Int32 × Int32))) :=
  if p2 ≤ x7 then (some (.inr ((x5, x6, x7)))) else (gd (inb x7 300) (if I (k + 10) x7.toNatClampNeg = 43 then (some (.inr ((x5, x6, x7)))) else (gd (inb x7 300) (if I (k + 10) x7.toNatClampNeg = 63 then (m_X12_parts_j62 k p1 p2 x3 x4 x5 x7 ((1 : Int32)) I) else (m_X12_parts_j62 k p1 p2 x3 x4 x5 x7 ((0 : Int32)) I)))))
set_option maxRecDepth 100000 in
set_option maxHeartbeats 4000000 in
theorem m_X12_parts_b25_ok {Z : Zx} {K : ((Int32 × Int32 × Int32) ⊕ ((Int32 × Int32 × Int32))) → Prop} (C : Cx Z cX12_parts 9 RX12) (hR : RM Z 1 22) (k : Nat) (p1 : Int32) (p2 : Int32) (x3 : Int32) (x4 : Int32) (x5 : Int32) (x6 : Int32) (x7 : Int32) (hk : isO k 12) (I : Mem) (hB : ∀ a, K (.inl a) → WM Z I 25 [some (rf (zG Z) k), some (.int p1), some (.int p2), some (.int x3), some (.int x4), some (.int a.1), some (.int a.2.1), some (.int a.2.2), none] []) (hX0 : ∀ b, K (.inr (b)) → WM Z I 83 [some (rf (zG Z) k), some (.int p1), some (.int p2), some (.int x3), some (.int x4), some (.int b.1), some (.int b.2.1), some (.int b.2.2), none] []) : WF Z K (m_X12_parts_b25 k p1 p2 x3 x4 x5 x6 x7 I) I 25 [some (rf (zG Z) k), some (.int p1), some (.int p2), some (.int x3), some (.int x4), some (.int x5), some (.int x6), some (.int x7), none] [] := by
  unfold m_X12_parts_b25
  refine w_iload (v := x7) C dX12_parts_25 rfl (q := 27) rfl ?_
  refine w_iload_n (v := p2) C dX12_parts_27 rfl (q := 28) rfl ?_
  refine w_icmp_ge (tgt := 83) (q := 31) C dX12_parts_28 (by decide) rfl (fun _ => ?_) (fun _ => ?_)
  · exact w_jmp (fun h => WM.less (L' := [some (rf (zG Z) k), some (.int p1), some (.int p2), some (.int x3), some (.int x4), some (.int x5), some (.int x6), some (.int x7), none]) (hX0 _ h) ⟨rfl, rfl, rfl, rfl, rfl, rfl, rfl, rfl, trivial⟩)
  · refine w_aload_n (v := k) C dX12_parts_31 rfl (q := 32) rfl ?_
    refine g_X12_12 C hk lk_X12_39 dX12_parts_32 (q := 35) rfl ?_
    refine w_iload (v := x7) C dX12_parts_35 rfl (q := 37) rfl ?_
    refine w_cald C (st_X12_12 hk).2 dX12_parts_37 (q := 38) rfl (fun _ => ?_)
    refine w_bipush (v := (43)) C dX12_parts_38 (by decide) (q := 40) rfl ?_
    refine w_icmp_eq (tgt := 83) (q := 43) C dX12_parts_40 (by decide) rfl (fun _ => ?_) (fun _ => ?_)
    · exact w_jmp (fun h => WM.less (L' := [some (rf (zG Z) k), some (.int p1), some (.int p2), some (.int x3), some (.int x4), some (.int x5), some (.int x6), some (.int x7), none]) (hX0 _ h) ⟨rfl, rfl, rfl, rfl, rfl, rfl, rfl, rfl, trivial⟩)
    · refine w_iload (v := x7) C dX12_parts_43 rfl (q := 45) rfl ?_
      refine w_aload_n (v := k) C dX12_parts_45 rfl (q := 46) rfl ?_
      refine g_X12_12 C hk lk_X12_39 dX12_parts_46 (q := 49) rfl ?_
      refine w_iload (v := x7) C dX12_parts_49 rfl (q := 51) rfl ?_
      refine w_cald C (st_X12_12 hk).2 dX12_parts_51 (q := 52) rfl (fun _ => ?_)
      refine w_bipush (v := (63)) C dX12_parts_52 (by decide) (q := 54) rfl ?_
      refine w_icmp_ne (tgt := 61) (q := 57) C dX12_parts_54 (by decide) rfl (fun _ => ?_) (fun _ => ?_)
      · refine w_iconst (v := (1)) C dX12_parts_57 (by decide) (q := 58) rfl ?_
        refine w_goto (tgt := 62) C dX12_parts_58 (by decide) ?_
        exact WF.less (L' := [some (rf (zG Z) k), some (.int p1), some (.int p2), some (.int x3), some (.int x4), some (.int x5), none, none, none]) (m_X12_parts_j62_ok C hR k p1 p2 x3 x4 x5 x7 ((1 : Int32)) hk I hB hX0) ⟨rfl, rfl, rfl, rfl, rfl, rfl, trivial⟩
      · refine w_iconst (v := (0)) C dX12_parts_61 (by decide) (q := 62) rfl ?_
        exact WF.less (L' := [some (rf (zG Z) k), some (.int p1), some (.int p2), some (.int x3), some (.int x4), some (.int x5), none, none, none]) (m_X12_parts_j62_ok C hR k p1 p2 x3 x4 x5 x7 ((0 : Int32)) hk I hB hX0) ⟨rfl, rfl, rfl, rfl, rfl, rfl, trivial⟩
def m_X12_parts_j208 (k : Nat) (p2 : Int32) (x3 : Int32) (x4 : Int32) (x5 : Int32) (x7 : Int32) (x8 : Int32) (I : Mem) : Option ((Int32 × Int32 × Mem) ⊕ ((Int32 × Int32 × Mem))) :=
  some (.inl (x5 + 1, x7 + 1, I))
set_option maxRecDepth 100000 in
set_option maxHeartbeats 4000000 in
theorem m_X12_parts_j208_ok {Z : Zx} {K : ((Int32 × Int32 × Mem) ⊕ ((Int32 × Int32 × Mem))) → Prop} (C : Cx Z cX12_parts 9 RX12) (hR : RM Z 1 22) (k : Nat) (p2 : Int32) (x3 : Int32) (x4 : Int32) (x5 : Int32) (x7 : Int32) (x8 : Int32) (hk : isO k 12) (I : Mem) (hB : ∀ a, K (.inl a) → WM Z a.2.2 137 [some (rf (zG Z) k), none, some (.int p2), some (.int x3), some (.int x4), some (.int a.1), none, some (.int a.2.1), some (.int x8)] []) (hX0 : ∀ b, K (.inr (b)) → WM Z b.2.2 217 [some (rf (zG Z) k), none, some (.int p2), some (.int x3), some (.int x4), some (.int b.1), none, some (.int b.2.1), some (.int x8)] []) : WF Z K (m_X12_parts_j208 k p2 x3 x4 x5 x7 x8 I) I 208 [some (rf (zG Z) k), none, some (.int p2), some (.int x3), some (.int x4), some (.int x5), none, some (.int x7), some (.int x8)] [] := by
  unfold m_X12_parts_j208
  refine w_iinc (v := x5 + 1) C dX12_parts_208 rfl rfl (L' := [some (rf (zG Z) k), none, some (.int p2), some (.int x3), some (.int x4), some (.int (x5 + 1)), none, some (.int x7), some (.int x8)]) rfl (q := 211) rfl ?_
  refine w_iinc (v := x7 + 1) C dX12_parts_211 rfl rfl (L' := [some (rf (zG Z) k), none, some (.int p2), some (.int x3), some (.int x4), some (.int (x5 + 1)), none, some (.int (x7 + 1)), some (.int x8)]) rfl (q := 214) rfl ?_
  refine w_goto (tgt := 137) C dX12_parts_214 (by decide) ?_
  exact w_jmp (fun h => WM.less (L' := [some (rf (zG Z) k), none, some (.int p2), some (.int x3), some (.int x4), some (.int (x5 + 1)), none, some (.int (x7 + 1)), some (.int x8)]) (hB _ h) ⟨rfl, rfl, rfl, rfl, rfl, rfl, rfl, trivial⟩)
def m_X12_parts_j174 (k : Nat) (p2 : Int32) (x3 : Int32) (x4 : Int32) (x5 : Int32) (x8 : Int32) (y0 : Int32) (y1 : Int32) (I : Mem) : Option ((Int32 × Int32 × Mem) ⊕ ((Int32 × Int32 × Mem))) :=
  if 8 ≤ x5 then (m_X12_parts_j208 k p2 x3 x4 x5 (y0 + y1) x8 I) else (gd (inb (y0 + y1) 300) (gd (inb ((((8 : Int32)) * ((((5 : Int32)) * x3) + x4)) + x5) 800) (gd (okc (I (k + 10) (y0 + y1).toNatClampNeg)) (bnd (ms I (k + 17) ((((8 : Int32)) * ((((5 : Int32)) * x3) + x4)) + x5).toNatClampNeg (I (k + 10) (y0 + y1).toNatClampNeg)) fun I5 => m_X12_parts_j208 k p2 x3 x4 x5 (y0 + y1) x8 I5))))
set_option maxRecDepth 100000 in
set_option maxHeartbeats 4000000 in
theorem m_X12_parts_j174_ok {Z : Zx} {K : ((Int32 × Int32 × Mem) ⊕ ((Int32 × Int32 × Mem))) → Prop} (C : Cx Z cX12_parts 9 RX12) (hR : RM Z 1 22) (k : Nat) (p2 : Int32) (x3 : Int32) (x4 : Int32) (x5 : Int32) (x8 : Int32) (y0 : Int32) (y1 : Int32) (hk : isO k 12) (I : Mem) (hB : ∀ a, K (.inl a) → WM Z a.2.2 137 [some (rf (zG Z) k), none, some (.int p2), some (.int x3), some (.int x4), some (.int a.1), none, some (.int a.2.1), some (.int x8)] []) (hX0 : ∀ b, K (.inr (b)) → WM Z b.2.2 217 [some (rf (zG Z) k), none, some (.int p2), some (.int x3), some (.int x4), some (.int b.1), none, some (.int b.2.1), some (.int x8)] []) : WF Z K (m_X12_parts_j174 k p2 x3 x4 x5 x8 y0 y1 I) I 174 [some (rf (zG Z) k), none, some (.int p2), some (.int x3), some (.int x4), some (.int x5), none, none, some (.int x8)] [.int y1, .int y0] := by
  unfold m_X12_parts_j174
  refine w_iadd C dX12_parts_174 (q := 175) rfl ?_
  refine w_istore C dX12_parts_175 (Nat.le_of_ble_eq_true rfl) (L' := [some (rf (zG Z) k), none, some (.int p2), some (.int x3), some (.int x4), some (.int x5), none, some (.int (y0 + y1)), some (.int x8)]) rfl (q := 177) rfl ?_
  refine w_iload (v := x5) C dX12_parts_177 rfl (q := 179) rfl ?_
  refine w_bipush (v := (8)) C dX12_parts_179 (by decide) (q := 181) rfl ?_
  refine w_icmp_ge (tgt := 208) (q := 184) C dX12_parts_181 (by decide) rfl (fun _ => ?_) (fun _ => ?_)
  · exact WF.less (L' := [some (rf (zG Z) k), none, some (.int p2), some (.int x3), some (.int x4), some (.int x5), none, some (.int (y0 + y1)), some (.int x8)]) (m_X12_parts_j208_ok C hR k p2 x3 x4 x5 (y0 + y1) x8 hk I hB hX0) ⟨rfl, rfl, rfl, rfl, rfl, rfl, rfl, trivial⟩
  · refine w_aload_n (v := k) C dX12_parts_184 rfl (q := 185) rfl ?_
    refine g_X12_21 C hk lk_X12_60 dX12_parts_185 (q := 188) rfl ?_
    refine w_bipush (v := (8)) C dX12_parts_188 (by decide) (q := 190) rfl ?_
    refine w_iconst (v := (5)) C dX12_parts_190 (by decide) (q := 191) rfl ?_
    refine w_iload_n (v := x3) C dX12_parts_191 rfl (q := 192) rfl ?_
    refine w_imul C dX12_parts_192 (q := 193) rfl ?_
    refine w_iload (v := x4) C dX12_parts_193 rfl (q := 195) rfl ?_
    refine w_iadd C dX12_parts_195 (q := 196) rfl ?_
    refine w_imul C dX12_parts_196 (q := 197) rfl ?_
    refine w_iload (v := x5) C dX12_parts_197 rfl (q := 199) rfl ?_
    refine w_iadd C dX12_parts_199 (q := 200) rfl ?_
    refine w_aload_n (v := k) C dX12_parts_200 rfl (q := 201) rfl ?_
    refine g_X12_12 C hk lk_X12_39 dX12_parts_201 (q := 204) rfl ?_
    refine w_iload (v := y0 + y1) C dX12_parts_204 rfl (q := 206) rfl ?_
    refine w_cald C (st_X12_12 hk).2 dX12_parts_206 (q := 207) rfl (fun _ => ?_)
    refine w_cast C (st_X12_21 hk).2 dX12_parts_207 (q := 208) rfl (fun _ I5 => ?_)
    exact WF.less (L' := [some (rf (zG Z) k), none, some (.int p2), some (.int x3), some (.int x4), some (.int x5), none, some (.int (y0 + y1)), some (.int x8)]) (m_X12_parts_j208_ok C hR k p2 x3 x4 x5 (y0 + y1) x8 hk I5 hB hX0) ⟨rfl, rfl, rfl, rfl, rfl, rfl, rfl, trivial⟩
def m_X12_parts_b137 (k : Nat) (p2 : Int32) (x3 : Int32) (x4 : Int32) (x8 : Int32) (x5 : Int32) (x7 : Int32) (I : Mem) : Option ((Int32 × Int32 × Mem) ⊕ ((Int32 × Int32 × Mem))) :=
  if p2 ≤ x7 then (some (.inr ((x5, x7, I)))) else (gd (inb x7 300) (if I (k + 10) x7.toNatClampNeg = 43 then (some (.inr ((x5, x7, I)))) else (gd (inb x7 300) (if I (k + 10) x7.toNatClampNeg = 63 then (m_X12_parts_j174 k p2 x3 x4 x5 x8 x7 ((1 : Int32)) I) else (m_X12_parts_j174 k p2 x3 x4 x5 x8 x7 ((0 : Int32)) I)))))
set_option maxRecDepth 100000 in
set_option maxHeartbeats 4000000 in
theorem m_X12_parts_b137_ok {Z : Zx} {K : ((Int32 × Int32 × Mem) ⊕ ((Int32 × Int32 × Mem))) → Prop} (C : Cx Z cX12_parts 9 RX12) (hR : RM Z 1 22) (k : Nat) (p2 : Int32) (x3 : Int32) (x4 : Int32) (x8 : Int32) (x5 : Int32) (x7 : Int32) (hk : isO k 12) (I : Mem) (hB : ∀ a, K (.inl a) → WM Z a.2.2 137 [some (rf (zG Z) k), none, some (.int p2), some (.int x3), some (.int x4), some (.int a.1), none, some (.int a.2.1), some (.int x8)] []) (hX0 : ∀ b, K (.inr (b)) → WM Z b.2.2 217 [some (rf (zG Z) k), none, some (.int p2), some (.int x3), some (.int x4), some (.int b.1), none, some (.int b.2.1), some (.int x8)] []) : WF Z K (m_X12_parts_b137 k p2 x3 x4 x8 x5 x7 I) I 137 [some (rf (zG Z) k), none, some (.int p2), some (.int x3), some (.int x4), some (.int x5), none, some (.int x7), some (.int x8)] [] := by
  unfold m_X12_parts_b137
  refine w_iload (v := x7) C dX12_parts_137 rfl (q := 139) rfl ?_
  refine w_iload_n (v := p2) C dX12_parts_139 rfl (q := 140) rfl ?_
  refine w_icmp_ge (tgt := 217) (q := 143) C dX12_parts_140 (by decide) rfl (fun _ => ?_) (fun _ => ?_)
  · exact w_jmp (fun h => WM.less (L' := [some (rf (zG Z) k), none, some (.int p2), some (.int x3), some (.int x4), some (.int x5), none, some (.int x7), some (.int x8)]) (hX0 _ h) ⟨rfl, rfl, rfl, rfl, rfl, rfl, rfl, trivial⟩)
  · refine w_aload_n (v := k) C dX12_parts_143 rfl (q := 144) rfl ?_
    refine g_X12_12 C hk lk_X12_39 dX12_parts_144 (q := 147) rfl ?_
    refine w_iload (v := x7) C dX12_parts_147 rfl (q := 149) rfl ?_
    refine w_cald C (st_X12_12 hk).2 dX12_parts_149 (q := 150) rfl (fun _ => ?_)
    refine w_bipush (v := (43)) C dX12_parts_150 (by decide) (q := 152) rfl ?_
    refine w_icmp_eq (tgt := 217) (q := 155) C dX12_parts_152 (by decide) rfl (fun _ => ?_) (fun _ => ?_)
    · exact w_jmp (fun h => WM.less (L' := [some (rf (zG Z) k), none, some (.int p2), some (.int x3), some (.int x4), some (.int x5), none, some (.int x7), some (.int x8)]) (hX0 _ h) ⟨rfl, rfl, rfl, rfl, rfl, rfl, rfl, trivial⟩)
    · refine w_iload (v := x7) C dX12_parts_155 rfl (q := 157) rfl ?_
      refine w_aload_n (v := k) C dX12_parts_157 rfl (q := 158) rfl ?_
      refine g_X12_12 C hk lk_X12_39 dX12_parts_158 (q := 161) rfl ?_
      refine w_iload (v := x7) C dX12_parts_161 rfl (q := 163) rfl ?_
      refine w_cald C (st_X12_12 hk).2 dX12_parts_163 (q := 164) rfl (fun _ => ?_)
      refine w_bipush (v := (63)) C dX12_parts_164 (by decide) (q := 166) rfl ?_
      refine w_icmp_ne (tgt := 173) (q := 169) C dX12_parts_166 (by decide) rfl (fun _ => ?_) (fun _ => ?_)
      · refine w_iconst (v := (1)) C dX12_parts_169 (by decide) (q := 170) rfl ?_
        refine w_goto (tgt := 174) C dX12_parts_170 (by decide) ?_
        exact WF.less (L' := [some (rf (zG Z) k), none, some (.int p2), some (.int x3), some (.int x4), some (.int x5), none, none, some (.int x8)]) (m_X12_parts_j174_ok C hR k p2 x3 x4 x5 x8 x7 ((1 : Int32)) hk I hB hX0) ⟨rfl, rfl, rfl, rfl, rfl, rfl, trivial⟩
      · refine w_iconst (v := (0)) C dX12_parts_173 (by decide) (q := 174) rfl ?_
        exact WF.less (L' := [some (rf (zG Z) k), none, some (.int p2), some (.int x3), some (.int x4), some (.int x5), none, none, some (.int x8)]) (m_X12_parts_j174_ok C hR k p2 x3 x4 x5 x8 x7 ((0 : Int32)) hk I hB hX0) ⟨rfl, rfl, rfl, rfl, rfl, rfl, trivial⟩
def m_X12_parts_j247 (k : Nat) (p2 : Int32) (x3 : Int32) (x4 : Int32) (x7 : Int32) (I : Mem) : Option ((Int32 × Int32 × Mem) ⊕ ((Int32 × Int32 × Mem))) :=
  some (.inl (x4, x7, I))
set_option maxRecDepth 100000 in
set_option maxHeartbeats 4000000 in
theorem m_X12_parts_j247_ok {Z : Zx} {K : ((Int32 × Int32 × Mem) ⊕ ((Int32 × Int32 × Mem))) → Prop} (C : Cx Z cX12_parts 9 RX12) (hR : RM Z 1 22) (k : Nat) (p2 : Int32) (x3 : Int32) (x4 : Int32) (x7 : Int32) (hk : isO k 12) (I : Mem) (hB : ∀ a, K (.inl a) → WM Z a.2.2 115 [some (rf (zG Z) k), none, some (.int p2), some (.int x3), some (.int a.1), none, none, some (.int a.2.1), none] []) (hX0 : ∀ b, K (.inr (b)) → WM Z b.2.2 250 [some (rf (zG Z) k), none, some (.int p2), some (.int x3), some (.int b.1), none, none, some (.int b.2.1), none] []) : WF Z K (m_X12_parts_j247 k p2 x3 x4 x7 I) I 247 [some (rf (zG Z) k), none, some (.int p2), some (.int x3), some (.int x4), none, none, some (.int x7), none] [] := by
  unfold m_X12_parts_j247
  refine w_goto (tgt := 115) C dX12_parts_247 (by decide) ?_
  exact w_jmp (fun h => WM.less (L' := [some (rf (zG Z) k), none, some (.int p2), some (.int x3), some (.int x4), none, none, some (.int x7), none]) (hB _ h) ⟨rfl, rfl, rfl, rfl, rfl, trivial⟩)
def m_X12_parts_b115 (k : Nat) (p2 : Int32) (x3 : Int32) (x4 : Int32) (x7 : Int32) (I : Mem) : Option ((Int32 × Int32 × Mem) ⊕ ((Int32 × Int32 × Mem))) :=
  if p2 ≤ x7 then (some (.inr ((x4, x7, I)))) else (if 5 ≤ x4 then (some (.inr ((x4, x7, I)))) else (Option.bind (loopF (fun a => m_X12_parts_b137 k p2 x3 x4 (x7 + 1) a.1 a.2.1 a.2.2) FU ((0 : Int32), x7 + 1, I)) (fun b6 => gd (inb ((((5 : Int32)) * x3) + x4) 100) (bnd (ms b6.2.2 (k + 16) ((((5 : Int32)) * x3) + x4).toNatClampNeg b6.1) fun I7 => if b6.1 ≤ 8 then (m_X12_parts_j247 k p2 x3 (x4 + 1) b6.2.1 I7) else (Option.bind (m_X12_fault k ((4 : Int32)) (x7 + 1) I7) fun I8 => m_X12_parts_j247 k p2 x3 (x4 + 1) b6.2.1 I8)))))
set_option maxRecDepth 100000 in
set_option maxHeartbeats 4000000 in
theorem m_X12_parts_b115_ok {Z : Zx} {K : ((Int32 × Int32 × Mem) ⊕ ((Int32 × Int32 × Mem))) → Prop} (C : Cx Z cX12_parts 9 RX12) (hR : RM Z 1 22) (k : Nat) (p2 : Int32) (x3 : Int32) (x4 : Int32) (x7 : Int32) (hk : isO k 12) (I : Mem) (hB : ∀ a, K (.inl a) → WM Z a.2.2 115 [some (rf (zG Z) k), none, some (.int p2), some (.int x3), some (.int a.1), none, none, some (.int a.2.1), none] []) (hX0 : ∀ b, K (.inr (b)) → WM Z b.2.2 250 [some (rf (zG Z) k), none, some (.int p2), some (.int x3), some (.int b.1), none, none, some (.int b.2.1), none] []) : WF Z K (m_X12_parts_b115 k p2 x3 x4 x7 I) I 115 [some (rf (zG Z) k), none, some (.int p2), some (.int x3), some (.int x4), none, none, some (.int x7), none] [] := by
  unfold m_X12_parts_b115
  refine w_iload (v := x7) C dX12_parts_115 rfl (q := 117) rfl ?_
  refine w_iload_n (v := p2) C dX12_parts_117 rfl (q := 118) rfl ?_
  refine w_icmp_ge (tgt := 250) (q := 121) C dX12_parts_118 (by decide) rfl (fun _ => ?_) (fun _ => ?_)
  · exact w_jmp (fun h => WM.less (L' := [some (rf (zG Z) k), none, some (.int p2), some (.int x3), some (.int x4), none, none, some (.int x7), none]) (hX0 _ h) ⟨rfl, rfl, rfl, rfl, rfl, trivial⟩)
  · refine w_iload (v := x4) C dX12_parts_121 rfl (q := 123) rfl ?_
    refine w_iconst (v := (5)) C dX12_parts_123 (by decide) (q := 124) rfl ?_
    refine w_icmp_ge (tgt := 250) (q := 127) C dX12_parts_124 (by decide) rfl (fun _ => ?_) (fun _ => ?_)
    · exact w_jmp (fun h => WM.less (L' := [some (rf (zG Z) k), none, some (.int p2), some (.int x3), some (.int x4), none, none, some (.int x7), none]) (hX0 _ h) ⟨rfl, rfl, rfl, rfl, rfl, trivial⟩)
    · refine w_iinc (v := x7 + 1) C dX12_parts_127 rfl rfl (L' := [some (rf (zG Z) k), none, some (.int p2), some (.int x3), some (.int x4), none, none, some (.int (x7 + 1)), none]) rfl (q := 130) rfl ?_
      refine w_iload (v := x7 + 1) C dX12_parts_130 rfl (q := 132) rfl ?_
      refine w_istore C dX12_parts_132 (Nat.le_of_ble_eq_true rfl) (L' := [some (rf (zG Z) k), none, some (.int p2), some (.int x3), some (.int x4), none, none, some (.int (x7 + 1)), some (.int (x7 + 1))]) rfl (q := 134) rfl ?_
      refine w_iconst (v := (0)) C dX12_parts_134 (by decide) (q := 135) rfl ?_
      refine w_istore C dX12_parts_135 (Nat.le_of_ble_eq_true rfl) (L' := [some (rf (zG Z) k), none, some (.int p2), some (.int x3), some (.int x4), some (.int 0), none, some (.int (x7 + 1)), some (.int (x7 + 1))]) rfl (q := 137) rfl ?_
      refine WF.less (L' := [some (rf (zG Z) k), none, some (.int p2), some (.int x3), some (.int x4), some (.int 0), none, some (.int (x7 + 1)), some (.int (x7 + 1))]) (w_loopF (pc := 137) (a := ((0 : Int32), x7 + 1, I)) (mem := fun a => a.2.2) (lo := fun a => [some (rf (zG Z) k), none, some (.int p2), some (.int x3), some (.int x4), some (.int a.1), none, some (.int a.2.1), some (.int (x7 + 1))]) (E := fun b6 => WM Z b6.2.2 217 [some (rf (zG Z) k), none, some (.int p2), some (.int x3), some (.int x4), some (.int b6.1), none, some (.int b6.2.1), some (.int (x7 + 1))] []) (fun a => m_X12_parts_b137_ok C hR k p2 x3 x4 (x7 + 1) a.1 a.2.1 hk a.2.2 (fun _ h => h) (fun _ h => h)) ?_) ⟨rfl, rfl, rfl, rfl, rfl, rfl, rfl, trivial⟩
      intro b6
      refine w_hx ?_
      refine w_aload_n (v := k) C dX12_parts_217 rfl (q := 218) rfl ?_
      refine g_X12_20 C hk lk_X12_57 dX12_parts_218 (q := 221) rfl ?_
      refine w_iconst (v := (5)) C dX12_parts_221 (by decide) (q := 222) rfl ?_
      refine w_iload_n (v := x3) C dX12_parts_222 rfl (q := 223) rfl ?_
      refine w_imul C dX12_parts_223 (q := 224) rfl ?_
      refine w_iload (v := x4) C dX12_parts_224 rfl (q := 226) rfl ?_
      refine w_iadd C dX12_parts_226 (q := 227) rfl ?_
      refine w_iload (v := b6.1) C dX12_parts_227 rfl (q := 229) rfl ?_
      refine w_iast C (st_X12_20 hk).2 dX12_parts_229 (q := 230) rfl (fun _ I7 => ?_)
      refine w_iinc (v := x4 + 1) C dX12_parts_230 rfl rfl (L' := [some (rf (zG Z) k), none, some (.int p2), some (.int x3), some (.int (x4 + 1)), some (.int b6.1), none, some (.int b6.2.1), some (.int (x7 + 1))]) rfl (q := 233) rfl ?_
      refine w_iload (v := b6.1) C dX12_parts_233 rfl (q := 235) rfl ?_
      refine w_bipush (v := (8)) C dX12_parts_235 (by decide) (q := 237) rfl ?_
      refine w_icmp_le (tgt := 247) (q := 240) C dX12_parts_237 (by decide) rfl (fun _ => ?_) (fun _ => ?_)
      · exact WF.less (L' := [some (rf (zG Z) k), none, some (.int p2), some (.int x3), some (.int (x4 + 1)), none, none, some (.int b6.2.1), none]) (m_X12_parts_j247_ok C hR k p2 x3 (x4 + 1) b6.2.1 hk I7 hB hX0) ⟨rfl, rfl, rfl, rfl, rfl, trivial⟩
      · refine w_aload_n (v := k) C dX12_parts_240 rfl (q := 241) rfl ?_
        refine w_iconst (v := (4)) C dX12_parts_241 (by decide) (q := 242) rfl ?_
        refine w_iload (v := x7 + 1) C dX12_parts_242 rfl (q := 244) rfl ?_
        refine w_callV (val := fun I8 => none) (mem := fun I8 => I8) (st1 := fun I8 => []) (As := [.int 4, .int (x7 + 1)]) (st := []) (q := 247) C hR (fun x h => c_X12_fault (zl Z) (zG Z) ((4 : Int32)) (x7 + 1) hk I7 h) hk mv_X12_fault lk_X12_152 rfl (by decide) (fun _ => rfl) (Nat.le_of_ble_eq_true rfl) rfl rfl dX12_parts_244 rfl (fun I8 => ?_)
        exact WF.less (L' := [some (rf (zG Z) k), none, some (.int p2), some (.int x3), some (.int (x4 + 1)), none, none, some (.int b6.2.1), none]) (m_X12_parts_j247_ok C hR k p2 x3 (x4 + 1) b6.2.1 hk I8 hB hX0) ⟨rfl, rfl, rfl, rfl, rfl, trivial⟩
def m_X12_parts_j273 (k : Nat) (I : Mem) : Option (Mem) :=
  bnd (ms I k 22 ((I k 22) + 1)) fun I11 => some I11
set_option maxRecDepth 100000 in
set_option maxHeartbeats 4000000 in
theorem m_X12_parts_j273_ok {Z : Zx} {K : Mem → Prop} (C : Cx Z cX12_parts 9 RX12) (hR : RM Z 1 22) (k : Nat) (hk : isO k 12) (I : Mem) (hK : ∀ y, K (y) → RetV Z cX12_parts y) : WF Z K (m_X12_parts_j273 k I) I 273 [some (rf (zG Z) k), none, none, none, none, none, none, none, none] [] := by
  unfold m_X12_parts_j273
  refine w_aload_n (v := k) C dX12_parts_273 rfl (q := 274) rfl ?_
  refine w_dup C dX12_parts_274 rfl (q := 275) rfl ?_
  refine g_X12_22 C hk lk_X12_149 dX12_parts_275 (q := 278) rfl ?_
  refine w_iconst (v := (1)) C dX12_parts_278 (by decide) (q := 279) rfl ?_
  refine w_iadd C dX12_parts_279 (q := 280) rfl ?_
  refine p_X12_22 C hk  lk_X12_149 dX12_parts_280 (q := 283) rfl (fun I11 => ?_)
  exact w_vret C (hK _) dX12_parts_283
def m_X12_parts_j115 (k : Nat) (p2 : Int32) (x3 : Int32) (x4 : Int32) (x7 : Int32) (I : Mem) : Option (Mem) :=
  Option.bind (loopF (fun a => m_X12_parts_b115 k p2 x3 a.1 a.2.1 a.2.2) FU (x4, x7, I)) (fun b9 => gd (inb x3 20) (bnd (ms b9.2.2 (k + 15) x3.toNatClampNeg b9.1) fun I10 => if p2 ≤ b9.2.1 then (m_X12_parts_j273 k I10) else (Option.bind (m_X12_fault k ((3 : Int32)) (b9.2.1 + 1) I10) fun I12 => m_X12_parts_j273 k I12)))
set_option maxRecDepth 100000 in
set_option maxHeartbeats 4000000 in
theorem m_X12_parts_j115_ok {Z : Zx} {K : Mem → Prop} (C : Cx Z cX12_parts 9 RX12) (hR : RM Z 1 22) (k : Nat) (p2 : Int32) (x3 : Int32) (x4 : Int32) (x7 : Int32) (hk : isO k 12) (I : Mem) (hK : ∀ y, K (y) → RetV Z cX12_parts y) : WF Z K (m_X12_parts_j115 k p2 x3 x4 x7 I) I 115 [some (rf (zG Z) k), none, some (.int p2), some (.int x3), some (.int x4), none, none, some (.int x7), none] [] := by
  unfold m_X12_parts_j115
  refine WF.less (L' := [some (rf (zG Z) k), none, some (.int p2), some (.int x3), some (.int x4), none, none, some (.int x7), none]) (w_loopF (pc := 115) (a := (x4, x7, I)) (mem := fun a => a.2.2) (lo := fun a => [some (rf (zG Z) k), none, some (.int p2), some (.int x3), some (.int a.1), none, none, some (.int a.2.1), none]) (E := fun b9 => WM Z b9.2.2 250 [some (rf (zG Z) k), none, some (.int p2), some (.int x3), some (.int b9.1), none, none, some (.int b9.2.1), none] []) (fun a => m_X12_parts_b115_ok C hR k p2 x3 a.1 a.2.1 hk a.2.2 (fun _ h => h) (fun _ h => h)) ?_) ⟨rfl, rfl, rfl, rfl, rfl, trivial⟩
  intro b9
  refine w_hx ?_
  refine w_aload_n (v := k) C dX12_parts_250 rfl (q := 251) rfl ?_
  refine g_X12_19 C hk lk_X12_54 dX12_parts_251 (q := 254) rfl ?_
  refine w_iload_n (v := x3) C dX12_parts_254 rfl (q := 255) rfl ?_
  refine w_iload (v := b9.1) C dX12_parts_255 rfl (q := 257) rfl ?_
  refine w_iast C (st_X12_19 hk).2 dX12_parts_257 (q := 258) rfl (fun _ I10 => ?_)
  refine w_iload (v := b9.2.1) C dX12_parts_258 rfl (q := 260) rfl ?_
  refine w_iload_n (v := p2) C dX12_parts_260 rfl (q := 261) rfl ?_
  refine w_icmp_ge (tgt := 273) (q := 264) C dX12_parts_261 (by decide) rfl (fun _ => ?_) (fun _ => ?_)
  · exact WF.less (L' := [some (rf (zG Z) k), none, none, none, none, none, none, none, none]) (m_X12_parts_j273_ok C hR k hk I10 hK) ⟨rfl, trivial⟩
  · refine w_aload_n (v := k) C dX12_parts_264 rfl (q := 265) rfl ?_
    refine w_iconst (v := (3)) C dX12_parts_265 (by decide) (q := 266) rfl ?_
    refine w_iload (v := b9.2.1) C dX12_parts_266 rfl (q := 268) rfl ?_
    refine w_iconst (v := (1)) C dX12_parts_268 (by decide) (q := 269) rfl ?_
    refine w_iadd C dX12_parts_269 (q := 270) rfl ?_
    refine w_callV (val := fun I12 => none) (mem := fun I12 => I12) (st1 := fun I12 => []) (As := [.int 3, .int (b9.2.1 + 1)]) (st := []) (q := 273) C hR (fun x h => c_X12_fault (zl Z) (zG Z) ((3 : Int32)) (b9.2.1 + 1) hk I10 h) hk mv_X12_fault lk_X12_152 rfl (by decide) (fun _ => rfl) (Nat.le_of_ble_eq_true rfl) rfl rfl dX12_parts_270 rfl (fun I12 => ?_)
    exact WF.less (L' := [some (rf (zG Z) k), none, none, none, none, none, none, none, none]) (m_X12_parts_j273_ok C hR k hk I12 hK) ⟨rfl, trivial⟩
def m_X12_parts_j109 (k : Nat) (p1 : Int32) (p2 : Int32) (x3 : Int32) (x4 : Int32) (x7 : Int32) (I : Mem) : Option (Mem) :=
  Option.bind (m_X12_fault k ((2 : Int32)) p1 I) fun I4 => m_X12_parts_j115 k p2 x3 x4 x7 I4
set_option maxRecDepth 100000 in
set_option maxHeartbeats 4000000 in
theorem m_X12_parts_j109_ok {Z : Zx} {K : Mem → Prop} (C : Cx Z cX12_parts 9 RX12) (hR : RM Z 1 22) (k : Nat) (p1 : Int32) (p2 : Int32) (x3 : Int32) (x4 : Int32) (x7 : Int32) (hk : isO k 12) (I : Mem) (hK : ∀ y, K (y) → RetV Z cX12_parts y) : WF Z K (m_X12_parts_j109 k p1 p2 x3 x4 x7 I) I 109 [some (rf (zG Z) k), some (.int p1), some (.int p2), some (.int x3), some (.int x4), none, none, some (.int x7), none] [] := by
  unfold m_X12_parts_j109
  refine w_aload_n (v := k) C dX12_parts_109 rfl (q := 110) rfl ?_
  refine w_iconst (v := (2)) C dX12_parts_110 (by decide) (q := 111) rfl ?_
  refine w_iload_n (v := p1) C dX12_parts_111 rfl (q := 112) rfl ?_
  refine w_callV (val := fun I4 => none) (mem := fun I4 => I4) (st1 := fun I4 => []) (As := [.int 2, .int p1]) (st := []) (q := 115) C hR (fun x h => c_X12_fault (zl Z) (zG Z) ((2 : Int32)) p1 hk I h) hk mv_X12_fault lk_X12_152 rfl (by decide) (fun _ => rfl) (Nat.le_of_ble_eq_true rfl) rfl rfl dX12_parts_112 rfl (fun I4 => ?_)
  exact WF.less (L' := [some (rf (zG Z) k), none, some (.int p2), some (.int x3), some (.int x4), none, none, some (.int x7), none]) (m_X12_parts_j115_ok C hR k p2 x3 x4 x7 hk I4 hK) ⟨rfl, rfl, rfl, rfl, rfl, trivial⟩
def m_X12_parts (k : Nat) (p1 : Int32) (p2 : Int32) (I : Mem) : Option (Mem) :=
  gd (inb (I k 22) 20) (bnd (ms I (k + 13) (I k 22).toNatClampNeg p1) fun I1 => Option.bind (loopF (fun a => m_X12_parts_b25 k p1 p2 (I k 22) ((0 : Int32)) a.1 a.2.1 a.2.2 I1) FU ((0 : Int32), (32 : Int32), p1)) (fun b2 => gd (inb (I k 22) 20) (gd (okc b2.2.1) (bnd (ms I1 (k + 14) (I k 22).toNatClampNeg b2.2.1) fun I3 => if b2.1 = 1 then (Option.bind (m_X12_in b2.2.1 ((65 : Int32)) ((90 : Int32)) I3) fun r13 => if r13 = 0 then (m_X12_parts_j109 k p1 p2 (I k 22) ((0 : Int32)) b2.2.2 I3) else (m_X12_parts_j115 k p2 (I k 22) ((0 : Int32)) b2.2.2 I3)) else (m_X12_parts_j109 k p1 p2 (I k 22) ((0 : Int32)) b2.2.2 I3)))))
set_option maxRecDepth 100000 in
set_option maxHeartbeats 4000000 in
theorem m_X12_parts_ok {Z : Zx} {K : Mem → Prop} (C : Cx Z cX12_parts 9 RX12) (hR : RM Z 1 22) (k : Nat) (p1 : Int32) (p2 : Int32) (hk : isO k 12) (I : Mem) (hK : ∀ y, K (y) → RetV Z cX12_parts y) : WF Z K (m_X12_parts k p1 p2 I) I 0 [some (rf (zG Z) k), some (.int p1), some (.int p2), none, none, none, none, none, none] [] := by
  unfold m_X12_parts
  refine w_aload_n (v := k) C dX12_parts_0 rfl (q := 1) rfl ?_
  refine g_X12_22 C hk lk_X12_149 dX12_parts_1 (q := 4) rfl ?_
  refine w_istore_n C dX12_parts_4 (Nat.le_of_ble_eq_true rfl) (L' := [some (rf (zG Z) k), some (.int p1), some (.int p2), some (.int (I k 22)), none, none, none, none, none]) rfl (q := 5) rfl ?_
  refine w_aload_n (v := k) C dX12_parts_5 rfl (q := 6) rfl ?_
  refine g_X12_17 C hk lk_X12_48 dX12_parts_6 (q := 9) rfl ?_
  refine w_iload_n (v := I k 22) C dX12_parts_9 rfl (q := 10) rfl ?_
  refine w_iload_n (v := p1) C dX12_parts_10 rfl (q := 11) rfl ?_
  refine w_iast C (st_X12_17 hk).2 dX12_parts_11 (q := 12) rfl (fun _ I1 => ?_)
  refine w_iconst (v := (0)) C dX12_parts_12 (by decide) (q := 13) rfl ?_
  refine w_istore C dX12_parts_13 (Nat.le_of_ble_eq_true rfl) (L' := [some (rf (zG Z) k), some (.int p1), some (.int p2), some (.int (I k 22)), some (.int 0), none, none, none, none]) rfl (q := 15) rfl ?_
  refine w_iconst (v := (0)) C dX12_parts_15 (by decide) (q := 16) rfl ?_
  refine w_istore C dX12_parts_16 (Nat.le_of_ble_eq_true rfl) (L' := [some (rf (zG Z) k), some (.int p1), some (.int p2), some (.int (I k 22)), some (.int 0), some (.int 0), none, none, none]) rfl (q := 18) rfl ?_
  refine w_bipush (v := (32)) C dX12_parts_18 (by decide) (q := 20) rfl ?_
  refine w_istore C dX12_parts_20 (Nat.le_of_ble_eq_true rfl) (L' := [some (rf (zG Z) k), some (.int p1), some (.int p2), some (.int (I k 22)), some (.int 0), some (.int 0), some (.int 32), none, none]) rfl (q := 22) rfl ?_
  refine w_iload_n (v := p1) C dX12_parts_22 rfl (q := 23) rfl ?_
  refine w_istore C dX12_parts_23 (Nat.le_of_ble_eq_true rfl) (L' := [some (rf (zG Z) k), some (.int p1), some (.int p2), some (.int (I k 22)), some (.int 0), some (.int 0), some (.int 32), some (.int p1), none]) rfl (q := 25) rfl ?_
  refine WF.less (L' := [some (rf (zG Z) k), some (.int p1), some (.int p2), some (.int (I k 22)), some (.int 0), some (.int 0), some (.int 32), some (.int p1), none]) (w_loopF (pc := 25) (a := ((0 : Int32), (32 : Int32), p1)) (mem := fun a => I1) (lo := fun a => [some (rf (zG Z) k), some (.int p1), some (.int p2), some (.int (I k 22)), some (.int 0), some (.int a.1), some (.int a.2.1), some (.int a.2.2), none]) (E := fun b2 => WM Z I1 83 [some (rf (zG Z) k), some (.int p1), some (.int p2), some (.int (I k 22)), some (.int 0), some (.int b2.1), some (.int b2.2.1), some (.int b2.2.2), none] []) (fun a => m_X12_parts_b25_ok C hR k p1 p2 (I k 22) ((0 : Int32)) a.1 a.2.1 a.2.2 hk I1 (fun _ h => h) (fun _ h => h)) ?_) ⟨rfl, rfl, rfl, rfl, rfl, rfl, rfl, rfl, trivial⟩
  intro b2
  refine w_hx ?_
  refine w_aload_n (v := k) C dX12_parts_83 rfl (q := 84) rfl ?_
  refine g_X12_18 C hk lk_X12_51 dX12_parts_84 (q := 87) rfl ?_
  refine w_iload_n (v := I k 22) C dX12_parts_87 rfl (q := 88) rfl ?_
  refine w_iload (v := b2.2.1) C dX12_parts_88 rfl (q := 90) rfl ?_
  refine w_cast C (st_X12_18 hk).2 dX12_parts_90 (q := 91) rfl (fun _ I3 => ?_)
  refine w_iload (v := b2.1) C dX12_parts_91 rfl (q := 93) rfl ?_
  refine w_iconst (v := (1)) C dX12_parts_93 (by decide) (q := 94) rfl ?_
  refine w_icmp_ne (tgt := 109) (q := 97) C dX12_parts_94 (by decide) rfl (fun _ => ?_) (fun _ => ?_)
  · refine w_iload (v := b2.2.1) C dX12_parts_97 rfl (q := 99) rfl ?_
    refine w_bipush (v := (65)) C dX12_parts_99 (by decide) (q := 101) rfl ?_
    refine w_bipush (v := (90)) C dX12_parts_101 (by decide) (q := 103) rfl ?_
    refine w_callS (val := fun r13 => some (.int r13)) (mem := fun r13 => I3) (st1 := fun r13 => [.int r13]) (As := [.int b2.2.1, .int 65, .int 90]) (st := []) (q := 106) C hR (fun x h => c_X12_in (zl Z) (zG Z) b2.2.1 ((65 : Int32)) ((90 : Int32))  I3 h) mv_X12_in lk_X12_115 rfl (by decide) (fun _ => rfl) (Nat.le_of_ble_eq_true rfl) rfl rfl dX12_parts_103 rfl (fun r13 => ?_)
    refine w_if_ne (tgt := 115) (q := 109) C dX12_parts_106 (by decide) rfl (fun _ => ?_) (fun _ => ?_)
    · exact WF.less (L' := [some (rf (zG Z) k), some (.int p1), some (.int p2), some (.int (I k 22)), some (.int 0), none, none, some (.int b2.2.2), none]) (m_X12_parts_j109_ok C hR k p1 p2 (I k 22) ((0 : Int32)) b2.2.2 hk I3 hK) ⟨rfl, rfl, rfl, rfl, rfl, rfl, trivial⟩
    · exact WF.less (L' := [some (rf (zG Z) k), none, some (.int p2), some (.int (I k 22)), some (.int 0), none, none, some (.int b2.2.2), none]) (m_X12_parts_j115_ok C hR k p2 (I k 22) ((0 : Int32)) b2.2.2 hk I3 hK) ⟨rfl, rfl, rfl, rfl, rfl, trivial⟩
  · exact WF.less (L' := [some (rf (zG Z) k), some (.int p1), some (.int p2), some (.int (I k 22)), some (.int 0), none, none, some (.int b2.2.2), none]) (m_X12_parts_j109_ok C hR k p1 p2 (I k 22) ((0 : Int32)) b2.2.2 hk I3 hK) ⟨rfl, rfl, rfl, rfl, rfl, rfl, trivial⟩
theorem c_X12_parts (l : Launch) (G : Gx) {k : Nat} (p1 : Int32) (p2 : Int32) (hk : isO k 12) (I : Mem) {x : Mem} (h : m_X12_parts k p1 p2 I = some x) : Ct l G yX12_parts cX12_parts 9 none 1 22 [rf G k, .int p1, .int p2] I (none) x := Ct.of (by decide +kernel) rfl (Nat.le_of_ble_eq_true rfl) ret_v (fun Z hG hl C hR hret => by
  subst hG
  exact m_X12_parts_ok (K := fun y => y = x) C hR k p1 p2 hk I (fun y hy => by subst hy; exact hret) x h rfl)
