def m_L_law_j193 (Xs : Nat × (Nat → Int32)) (x3 : Int32) (x5 : Int32) (x6 : Int32) (y0 : Int32) (I : Mem2) : Option ((Int32 × Int32 × Mem2) ⊕ ((Int32 × Mem2))) :=
  some (.inl (y0, x6 + 1, I))
set_option maxRecDepth 100000 in
set_option maxHeartbeats 4000000 in
theorem m_L_law_j193_ok {Z : Zx} {K : ((Int32 × Int32 × Mem2) ⊕ ((Int32 × Mem2))) → Prop} (C : Cx Z code 8 RL) (hR : RM Z 13 480) (hn : Gn (zG Z) = 1) (Xs : Nat × (Nat → Int32)) (x3 : Int32) (x5 : Int32) (x6 : Int32) (y0 : Int32) (hXs : Xs = sG (zG Z)) (I : Mem2) (hB : ∀ a, K (.inl a) → WM Z (mg2 a.2.2) 63 [some (.ref (Gb (zG Z))), some (rf (zG Z) 0), some (rf (zG Z) 196), some (.int x3), some (.int a.1), some (.int x5), some (.int a.2.1), none] []) (hX0 : ∀ b, K (.inr (b)) → WM Z (mg2 b.2) 201 [none, none, none, none, some (.int b.1), none, none, none] []) : WF Z K (m_L_law_j193 Xs x3 x5 x6 y0 I) (mg2 I) 193 [some (.ref (Gb (zG Z))), some (rf (zG Z) 0), some (rf (zG Z) 196), some (.int x3), none, some (.int x5), some (.int x6), none] [.int y0] := by
  unfold m_L_law_j193
  refine w_istore C dL_law_193 (Nat.le_of_ble_eq_true rfl) (L' := [some (.ref (Gb (zG Z))), some (rf (zG Z) 0), some (rf (zG Z) 196), some (.int x3), some (.int y0), some (.int x5), some (.int x6), none]) rfl (q := 195) rfl ?_
  refine w_iinc (v := x6 + 1) C dL_law_195 rfl rfl (L' := [some (.ref (Gb (zG Z))), some (rf (zG Z) 0), some (rf (zG Z) 196), some (.int x3), some (.int y0), some (.int x5), some (.int (x6 + 1)), none]) rfl (q := 198) rfl ?_
  refine w_goto (tgt := 63) C dL_law_198 (by decide) ?_
  exact w_jmp (fun h => WM.less (L' := [some (.ref (Gb (zG Z))), some (rf (zG Z) 0), some (rf (zG Z) 196), some (.int x3), some (.int y0), some (.int x5), some (.int (x6 + 1)), none]) (hB _ h) ⟨rfl, rfl, rfl, rfl, rfl, rfl, rfl, trivial⟩)
def m_L_law_j192 (Xs : Nat × (Nat → Int32)) (x3 : Int32) (x5 : Int32) (x6 : Int32) (I : Mem2) : Option ((Int32 × Int32 × Mem2) ⊕ ((Int32 × Mem2))) :=
  m_L_law_j193 Xs x3 x5 x6 ((0 : Int32)) I
set_option maxRecDepth 100000 in
set_option maxHeartbeats 4000000 in
theorem m_L_law_j192_ok {Z : Zx} {K : ((Int32 × Int32 × Mem2) ⊕ ((Int32 × Mem2))) → Prop} (C : Cx Z code 8 RL) (hR : RM Z 13 480) (hn : Gn (zG Z) = 1) (Xs : Nat × (Nat → Int32)) (x3 : Int32) (x5 : Int32) (x6 : Int32) (hXs : Xs = sG (zG Z)) (I : Mem2) (hB : ∀ a, K (.inl a) → WM Z (mg2 a.2.2) 63 [some (.ref (Gb (zG Z))), some (rf (zG Z) 0), some (rf (zG Z) 196), some (.int x3), some (.int a.1), some (.int x5), some (.int a.2.1), none] []) (hX0 : ∀ b, K (.inr (b)) → WM Z (mg2 b.2) 201 [none, none, none, none, some (.int b.1), none, none, none] []) : WF Z K (m_L_law_j192 Xs x3 x5 x6 I) (mg2 I) 192 [some (.ref (Gb (zG Z))), some (rf (zG Z) 0), some (rf (zG Z) 196), some (.int x3), none, some (.int x5), some (.int x6), none] [] := by
  unfold m_L_law_j192
  refine w_iconst (v := (0)) C dL_law_192 (by decide) (q := 193) rfl ?_
  exact WF.less (L' := [some (.ref (Gb (zG Z))), some (rf (zG Z) 0), some (rf (zG Z) 196), some (.int x3), none, some (.int x5), some (.int x6), none]) (m_L_law_j193_ok C hR hn Xs x3 x5 x6 ((0 : Int32)) hXs I hB hX0) ⟨rfl, rfl, rfl, rfl, rfl, rfl, trivial⟩
def m_L_law_j150 (Xs : Nat × (Nat → Int32)) (x3 : Int32) (x5 : Int32) (x6 : Int32) (y0 : Int32) (I : Mem2) : Option ((Int32 × Int32 × Mem2) ⊕ ((Int32 × Mem2))) :=
  if y0 = 0 then (m_L_law_j192 Xs x3 x5 x6 I) else (Option.bind (m_X11_write 0 I.1) fun r7 => Option.bind (m_X11_written 0 r7.2) fun r8 => if r7.1 = r8 then (Option.bind (m_L_isReadAgain x3 ((r7.2, I.2))) fun r9 => if r9.1 = 0 then (m_L_law_j192 Xs x3 x5 x6 r9.2) else (Option.bind (m_X11_control 0 r9.2.2) fun r10 => if r10 = x6 + 1 then (m_L_law_j193 Xs x3 x5 x6 ((1 : Int32)) r9.2) else (m_L_law_j192 Xs x3 x5 x6 r9.2))) else (m_L_law_j192 Xs x3 x5 x6 (r7.2, I.2)))
set_option maxRecDepth 100000 in
set_option maxHeartbeats 4000000 in
theorem m_L_law_j150_ok {Z : Zx} {K : ((Int32 × Int32 × Mem2) ⊕ ((Int32 × Mem2))) → Prop} (C : Cx Z code 8 RL) (hR : RM Z 13 480) (hn : Gn (zG Z) = 1) (Xs : Nat × (Nat → Int32)) (x3 : Int32) (x5 : Int32) (x6 : Int32) (y0 : Int32) (hXs : Xs = sG (zG Z)) (I : Mem2) (hB : ∀ a, K (.inl a) → WM Z (mg2 a.2.2) 63 [some (.ref (Gb (zG Z))), some (rf (zG Z) 0), some (rf (zG Z) 196), some (.int x3), some (.int a.1), some (.int x5), some (.int a.2.1), none] []) (hX0 : ∀ b, K (.inr (b)) → WM Z (mg2 b.2) 201 [none, none, none, none, some (.int b.1), none, none, none] []) : WF Z K (m_L_law_j150 Xs x3 x5 x6 y0 I) (mg2 I) 150 [some (.ref (Gb (zG Z))), some (rf (zG Z) 0), some (rf (zG Z) 196), some (.int x3), none, some (.int x5), some (.int x6), none] [.int y0] := by
  unfold m_L_law_j150
  refine w_istore C dL_law_150 (Nat.le_of_ble_eq_true rfl) (L' := [some (.ref (Gb (zG Z))), some (rf (zG Z) 0), some (rf (zG Z) 196), some (.int x3), some (.int y0), some (.int x5), some (.int x6), none]) rfl (q := 152) rfl ?_
  refine w_iload (v := y0) C dL_law_152 rfl (q := 154) rfl ?_
  refine w_if_eq (tgt := 192) (q := 157) C dL_law_154 (by decide) rfl (fun _ => ?_) (fun _ => ?_)
  · exact WF.less (L' := [some (.ref (Gb (zG Z))), some (rf (zG Z) 0), some (rf (zG Z) 196), some (.int x3), none, some (.int x5), some (.int x6), none]) (m_L_law_j192_ok C hR hn Xs x3 x5 x6 hXs I hB hX0) ⟨rfl, rfl, rfl, rfl, rfl, rfl, trivial⟩
  · refine w_aload_n (v := 0) C dL_law_157 rfl (q := 158) rfl ?_
    refine w_callVO (val := fun r7 => some (.int r7.1)) (mem := fun r7 => r7.2) (st1 := fun r7 => [.int r7.1]) (As := []) (st := []) (q := 161) C hR hn (fun x h => c_X11_write (zl Z) (loG (zG Z))  ho_0  I.1 h) ho_0 mv_X11_write lk_L_102 rfl (by decide) (fun _ => rfl) (Nat.le_of_ble_eq_true rfl) rfl rfl dL_law_158 rfl (fun r7 => ?_)
    refine w_aload_n (v := 0) C dL_law_161 rfl (q := 162) rfl ?_
    refine w_callVO (val := fun r8 => some (.int r8)) (mem := fun r8 => r7.2) (st1 := fun r8 => [.int r8, .int r7.1]) (As := []) (st := [.int r7.1]) (q := 165) C hR hn (fun x h => c_X11_written (zl Z) (loG (zG Z))  ho_0  r7.2 h) ho_0 mv_X11_written lk_L_76 rfl (by decide) (fun _ => rfl) (Nat.le_of_ble_eq_true rfl) rfl rfl dL_law_162 rfl (fun r8 => ?_)
    refine w_icmp_ne (tgt := 192) (q := 168) C dL_law_165 (by decide) rfl (fun _ => ?_) (fun _ => ?_)
    · refine w_aload_n (v := 0) C dL_law_168 rfl (q := 169) rfl ?_
      refine w_aload_n (v := 196) C dL_law_169 rfl (q := 170) rfl ?_
      refine w_iload_n (v := x3) C dL_law_170 rfl (q := 171) rfl ?_
      refine w_callS (val := fun r9 => some (.int r9.1)) (mem := fun r9 => mg2 r9.2) (st1 := fun r9 => [.int r9.1]) (As := [rf (zG Z) 0, rf (zG Z) 196, .int x3]) (st := []) (q := 174) C hR (fun x h => c_L_isReadAgain (zl Z) (zG Z) hn x3   ((r7.2, I.2)) h) mv_L_isReadAgain lk_L_105 rfl (by decide) (fun _ => rfl) (Nat.le_of_ble_eq_true rfl) rfl rfl dL_law_171 rfl (fun r9 => ?_)
      refine w_if_eq (tgt := 192) (q := 177) C dL_law_174 (by decide) rfl (fun _ => ?_) (fun _ => ?_)
      · exact WF.less (L' := [some (.ref (Gb (zG Z))), some (rf (zG Z) 0), some (rf (zG Z) 196), some (.int x3), none, some (.int x5), some (.int x6), none]) (m_L_law_j192_ok C hR hn Xs x3 x5 x6 hXs r9.2 hB hX0) ⟨rfl, rfl, rfl, rfl, rfl, rfl, trivial⟩
      · refine w_aload_n (v := 196) C dL_law_177 rfl (q := 178) rfl ?_
        refine w_callVP (val := fun r10 => some (.int r10)) (mem := fun r10 => r9.2.2) (st1 := fun r10 => [.int r10]) (As := []) (st := []) (q := 181) C hR hn (fun x h => c_X11_control (zl Z) (shG (zG Z))  ho_0  r9.2.2 h) ho_0 mv_X11_control lk_L_95 rfl (by decide) (fun _ => rfl) (Nat.le_of_ble_eq_true rfl) rfl rfl dL_law_178 rfl (fun r10 => ?_)
        refine w_iload (v := x6) C dL_law_181 rfl (q := 183) rfl ?_
        refine w_iconst (v := (1)) C dL_law_183 (by decide) (q := 184) rfl ?_
        refine w_iadd C dL_law_184 (q := 185) rfl ?_
        refine w_icmp_ne (tgt := 192) (q := 188) C dL_law_185 (by decide) rfl (fun _ => ?_) (fun _ => ?_)
        · refine w_iconst (v := (1)) C dL_law_188 (by decide) (q := 189) rfl ?_
          refine w_goto (tgt := 193) C dL_law_189 (by decide) ?_
          exact WF.less (L' := [some (.ref (Gb (zG Z))), some (rf (zG Z) 0), some (rf (zG Z) 196), some (.int x3), none, some (.int x5), some (.int x6), none]) (m_L_law_j193_ok C hR hn Xs x3 x5 x6 ((1 : Int32)) hXs r9.2 hB hX0) ⟨rfl, rfl, rfl, rfl, rfl, rfl, trivial⟩
        · exact WF.less (L' := [some (.ref (Gb (zG Z))), some (rf (zG Z) 0), some (rf (zG Z) 196), some (.int x3), none, some (.int x5), some (.int x6), none]) (m_L_law_j192_ok C hR hn Xs x3 x5 x6 hXs r9.2 hB hX0) ⟨rfl, rfl, rfl, rfl, rfl, rfl, trivial⟩
    · exact WF.less (L' := [some (.ref (Gb (zG Z))), some (rf (zG Z) 0), some (rf (zG Z) 196), some (.int x3), none, some (.int x5), some (.int x6), none]) (m_L_law_j192_ok C hR hn Xs x3 x5 x6 hXs (r7.2, I.2) hB hX0) ⟨rfl, rfl, rfl, rfl, rfl, rfl, trivial⟩
def m_L_law_j149 (Xs : Nat × (Nat → Int32)) (x3 : Int32) (x5 : Int32) (x6 : Int32) (I : Mem2) : Option ((Int32 × Int32 × Mem2) ⊕ ((Int32 × Mem2))) :=
  m_L_law_j150 Xs x3 x5 x6 ((0 : Int32)) I
set_option maxRecDepth 100000 in
set_option maxHeartbeats 4000000 in
theorem m_L_law_j149_ok {Z : Zx} {K : ((Int32 × Int32 × Mem2) ⊕ ((Int32 × Mem2))) → Prop} (C : Cx Z code 8 RL) (hR : RM Z 13 480) (hn : Gn (zG Z) = 1) (Xs : Nat × (Nat → Int32)) (x3 : Int32) (x5 : Int32) (x6 : Int32) (hXs : Xs = sG (zG Z)) (I : Mem2) (hB : ∀ a, K (.inl a) → WM Z (mg2 a.2.2) 63 [some (.ref (Gb (zG Z))), some (rf (zG Z) 0), some (rf (zG Z) 196), some (.int x3), some (.int a.1), some (.int x5), some (.int a.2.1), none] []) (hX0 : ∀ b, K (.inr (b)) → WM Z (mg2 b.2) 201 [none, none, none, none, some (.int b.1), none, none, none] []) : WF Z K (m_L_law_j149 Xs x3 x5 x6 I) (mg2 I) 149 [some (.ref (Gb (zG Z))), some (rf (zG Z) 0), some (rf (zG Z) 196), some (.int x3), none, some (.int x5), some (.int x6), none] [] := by
  unfold m_L_law_j149
  refine w_iconst (v := (0)) C dL_law_149 (by decide) (q := 150) rfl ?_
  exact WF.less (L' := [some (.ref (Gb (zG Z))), some (rf (zG Z) 0), some (rf (zG Z) 196), some (.int x3), none, some (.int x5), some (.int x6), none]) (m_L_law_j150_ok C hR hn Xs x3 x5 x6 ((0 : Int32)) hXs I hB hX0) ⟨rfl, rfl, rfl, rfl, rfl, rfl, trivial⟩
def m_L_law_b63 (Xs : Nat × (Nat → Int32)) (x3 : Int32) (x5 : Int32) (x4 : Int32) (x6 : Int32) (I : Mem2) : Option ((Int32 × Int32 × Mem2) ⊕ ((Int32 × Mem2))) :=
  if 6 ≤ x6 then (some (.inr ((x4, I)))) else (if x4 = 0 then (some (.inr ((x4, I)))) else (Option.bind (m_L_part Xs (((2 : Int32)) + x6) (mg2 I)) fun r4 => Option.bind (m_L_feedAll 0 Xs (((7 : Int32)) * x6) (r4 - r4 / 5 * 5) (x5 + x6) I.1) fun I5 => Option.bind (m_X11_read 0 I5) fun r6 => if r6.1 = 0 then (Option.bind (m_X11_length 0 r6.2) fun r11 => if r11 = 0 then (Option.bind (m_X11_control 0 r6.2) fun r12 => if r12 = x5 + x6 then (Option.bind (m_L_isAsFed 0 Xs (((7 : Int32)) * x6) (r4 - r4 / 5 * 5) r6.2) fun r13 => if r13 = 0 then (m_L_law_j149 Xs x3 x5 x6 (r6.2, I.2)) else (m_L_law_j150 Xs x3 x5 x6 ((1 : Int32)) (r6.2, I.2))) else (m_L_law_j149 Xs x3 x5 x6 (r6.2, I.2))) else (m_L_law_j149 Xs x3 x5 x6 (r6.2, I.2))) else (m_L_law_j149 Xs x3 x5 x6 (r6.2, I.2))))
set_option maxRecDepth 100000 in
set_option maxHeartbeats 4000000 in
theorem m_L_law_b63_ok {Z : Zx} {K : ((Int32 × Int32 × Mem2) ⊕ ((Int32 × Mem2))) → Prop} (C : Cx Z code 8 RL) (hR : RM Z 13 480) (hn : Gn (zG Z) = 1) (Xs : Nat × (Nat → Int32)) (x3 : Int32) (x5 : Int32) (x4 : Int32) (x6 : Int32) (hXs : Xs = sG (zG Z)) (I : Mem2) (hB : ∀ a, K (.inl a) → WM Z (mg2 a.2.2) 63 [some (.ref (Gb (zG Z))), some (rf (zG Z) 0), some (rf (zG Z) 196), some (.int x3), some (.int a.1), some (.int x5), some (.int a.2.1), none] []) (hX0 : ∀ b, K (.inr (b)) → WM Z (mg2 b.2) 201 [none, none, none, none, some (.int b.1), none, none, none] []) : WF Z K (m_L_law_b63 Xs x3 x5 x4 x6 I) (mg2 I) 63 [some (.ref (Gb (zG Z))), some (rf (zG Z) 0), some (rf (zG Z) 196), some (.int x3), some (.int x4), some (.int x5), some (.int x6), none] [] := by
  unfold m_L_law_b63
  refine w_iload (v := x6) C dL_law_63 rfl (q := 65) rfl ?_
  refine w_bipush (v := (6)) C dL_law_65 (by decide) (q := 67) rfl ?_
  refine w_icmp_ge (tgt := 201) (q := 70) C dL_law_67 (by decide) rfl (fun _ => ?_) (fun _ => ?_)
  · exact w_jmp (fun h => WM.less (L' := [none, none, none, none, some (.int x4), none, none, none]) (hX0 _ h) ⟨rfl, trivial⟩)
  · refine w_iload (v := x4) C dL_law_70 rfl (q := 72) rfl ?_
    refine w_if_eq (tgt := 201) (q := 75) C dL_law_72 (by decide) rfl (fun _ => ?_) (fun _ => ?_)
    · exact w_jmp (fun h => WM.less (L' := [none, none, none, none, some (.int x4), none, none, none]) (hX0 _ h) ⟨rfl, trivial⟩)
    · refine w_aloadB (b := Gb (zG Z)) C dL_law_75 rfl (q := 76) rfl ?_
      refine w_iconst (v := (2)) C dL_law_76 (by decide) (q := 77) rfl ?_
      refine w_iload (v := x6) C dL_law_77 rfl (q := 79) rfl ?_
      refine w_iadd C dL_law_79 (q := 80) rfl ?_
      refine w_callS (val := fun r4 => some (.int r4)) (mem := fun r4 => mg2 I) (st1 := fun r4 => [.int r4]) (As := [.ref (Gb (zG Z)), .int (((2 : Int32)) + x6)]) (st := []) (q := 83) C hR (fun x h => c_L_part (zl Z) (zG Z) (((2 : Int32)) + x6)  hXs (mg2 I) h) mv_L_part lk_L_41 rfl (by decide) (fun _ => rfl) (Nat.le_of_ble_eq_true rfl) rfl rfl dL_law_80 rfl (fun r4 => ?_)
      refine w_iconst (v := (5)) C dL_law_83 (by decide) (q := 84) rfl ?_
      refine w_iremL C (by decide) dL_law_84 (q := 85) rfl ?_
      refine w_istore C dL_law_85 (Nat.le_of_ble_eq_true rfl) (L' := [some (.ref (Gb (zG Z))), some (rf (zG Z) 0), some (rf (zG Z) 196), some (.int x3), some (.int x4), some (.int x5), some (.int x6), some (.int (r4 - r4 / 5 * 5))]) rfl (q := 87) rfl ?_
      refine w_aload_n (v := 0) C dL_law_87 rfl (q := 88) rfl ?_
      refine w_aloadB (b := Gb (zG Z)) C dL_law_88 rfl (q := 89) rfl ?_
      refine w_bipush (v := (7)) C dL_law_89 (by decide) (q := 91) rfl ?_
      refine w_iload (v := x6) C dL_law_91 rfl (q := 93) rfl ?_
      refine w_imul C dL_law_93 (q := 94) rfl ?_
      refine w_iload (v := r4 - r4 / 5 * 5) C dL_law_94 rfl (q := 96) rfl ?_
      refine w_iload (v := x5) C dL_law_96 rfl (q := 98) rfl ?_
      refine w_iload (v := x6) C dL_law_98 rfl (q := 100) rfl ?_
      refine w_iadd C dL_law_100 (q := 101) rfl ?_
      refine w_callSO (val := fun I5 => none) (mem := fun I5 => I5) (st1 := fun I5 => []) (As := [rf (zG Z) 0, .ref (Gb (zG Z)), .int (((7 : Int32)) * x6), .int (r4 - r4 / 5 * 5), .int (x5 + x6)]) (st := []) (q := 104) C hR hn (fun x h => c_L_feedAll (zl Z) (loG (zG Z)) (((7 : Int32)) * x6) (r4 - r4 / 5 * 5) (x5 + x6) ho_0 hXs I.1 h) mv_L_feedAll lk_L_91 rfl (by decide) (fun _ => rfl) (Nat.le_of_ble_eq_true rfl) rfl rfl dL_law_101 rfl (fun I5 => ?_)
      refine w_aload_n (v := 0) C dL_law_104 rfl (q := 105) rfl ?_
      refine w_callVO (val := fun r6 => some (.int r6.1)) (mem := fun r6 => r6.2) (st1 := fun r6 => [.int r6.1]) (As := []) (st := []) (q := 108) C hR hn (fun x h => c_X11_read (zl Z) (loG (zG Z))  ho_0  I5 h) ho_0 mv_X11_read lk_L_83 rfl (by decide) (fun _ => rfl) (Nat.le_of_ble_eq_true rfl) rfl rfl dL_law_105 rfl (fun r6 => ?_)
      refine w_if_ne (tgt := 149) (q := 111) C dL_law_108 (by decide) rfl (fun _ => ?_) (fun _ => ?_)
      · refine w_aload_n (v := 0) C dL_law_111 rfl (q := 112) rfl ?_
        refine w_callVO (val := fun r11 => some (.int r11)) (mem := fun r11 => r6.2) (st1 := fun r11 => [.int r11]) (As := []) (st := []) (q := 115) C hR hn (fun x h => c_X11_length (zl Z) (loG (zG Z))  ho_0  r6.2 h) ho_0 mv_X11_length lk_L_80 rfl (by decide) (fun _ => rfl) (Nat.le_of_ble_eq_true rfl) rfl rfl dL_law_112 rfl (fun r11 => ?_)
        refine w_if_ne (tgt := 149) (q := 118) C dL_law_115 (by decide) rfl (fun _ => ?_) (fun _ => ?_)
        · refine w_aload_n (v := 0) C dL_law_118 rfl (q := 119) rfl ?_
          refine w_callVO (val := fun r12 => some (.int r12)) (mem := fun r12 => r6.2) (st1 := fun r12 => [.int r12]) (As := []) (st := []) (q := 122) C hR hn (fun x h => c_X11_control (zl Z) (loG (zG Z))  ho_0  r6.2 h) ho_0 mv_X11_control lk_L_95 rfl (by decide) (fun _ => rfl) (Nat.le_of_ble_eq_true rfl) rfl rfl dL_law_119 rfl (fun r12 => ?_)
          refine w_iload (v := x5) C dL_law_122 rfl (q := 124) rfl ?_
          refine w_iload (v := x6) C dL_law_124 rfl (q := 126) rfl ?_
          refine w_iadd C dL_law_126 (q := 127) rfl ?_
          refine w_icmp_ne (tgt := 149) (q := 130) C dL_law_127 (by decide) rfl (fun _ => ?_) (fun _ => ?_)
          · refine w_aload_n (v := 0) C dL_law_130 rfl (q := 131) rfl ?_
            refine w_aloadB (b := Gb (zG Z)) C dL_law_131 rfl (q := 132) rfl ?_
            refine w_bipush (v := (7)) C dL_law_132 (by decide) (q := 134) rfl ?_
            refine w_iload (v := x6) C dL_law_134 rfl (q := 136) rfl ?_
            refine w_imul C dL_law_136 (q := 137) rfl ?_
            refine w_iload (v := r4 - r4 / 5 * 5) C dL_law_137 rfl (q := 139) rfl ?_
            refine w_callSO (val := fun r13 => some (.int r13)) (mem := fun r13 => r6.2) (st1 := fun r13 => [.int r13]) (As := [rf (zG Z) 0, .ref (Gb (zG Z)), .int (((7 : Int32)) * x6), .int (r4 - r4 / 5 * 5)]) (st := []) (q := 142) C hR hn (fun x h => c_L_isAsFed (zl Z) (loG (zG Z)) (((7 : Int32)) * x6) (r4 - r4 / 5 * 5) ho_0 hXs r6.2 h) mv_L_isAsFed lk_L_98 rfl (by decide) (fun _ => rfl) (Nat.le_of_ble_eq_true rfl) rfl rfl dL_law_139 rfl (fun r13 => ?_)
            refine w_if_eq (tgt := 149) (q := 145) C dL_law_142 (by decide) rfl (fun _ => ?_) (fun _ => ?_)
            · exact WF.less (L' := [some (.ref (Gb (zG Z))), some (rf (zG Z) 0), some (rf (zG Z) 196), some (.int x3), none, some (.int x5), some (.int x6), none]) (m_L_law_j149_ok C hR hn Xs x3 x5 x6 hXs (r6.2, I.2) hB hX0) ⟨rfl, rfl, rfl, rfl, rfl, rfl, trivial⟩
            · refine w_iconst (v := (1)) C dL_law_145 (by decide) (q := 146) rfl ?_
              refine w_goto (tgt := 150) C dL_law_146 (by decide) ?_
              exact WF.less (L' := [some (.ref (Gb (zG Z))), some (rf (zG Z) 0), some (rf (zG Z) 196), some (.int x3), none, some (.int x5), some (.int x6), none]) (m_L_law_j150_ok C hR hn Xs x3 x5 x6 ((1 : Int32)) hXs (r6.2, I.2) hB hX0) ⟨rfl, rfl, rfl, rfl, rfl, rfl, trivial⟩
          · exact WF.less (L' := [some (.ref (Gb (zG Z))), some (rf (zG Z) 0), some (rf (zG Z) 196), some (.int x3), none, some (.int x5), some (.int x6), none]) (m_L_law_j149_ok C hR hn Xs x3 x5 x6 hXs (r6.2, I.2) hB hX0) ⟨rfl, rfl, rfl, rfl, rfl, rfl, trivial⟩
        · exact WF.less (L' := [some (.ref (Gb (zG Z))), some (rf (zG Z) 0), some (rf (zG Z) 196), some (.int x3), none, some (.int x5), some (.int x6), none]) (m_L_law_j149_ok C hR hn Xs x3 x5 x6 hXs (r6.2, I.2) hB hX0) ⟨rfl, rfl, rfl, rfl, rfl, rfl, trivial⟩
      · exact WF.less (L' := [some (.ref (Gb (zG Z))), some (rf (zG Z) 0), some (rf (zG Z) 196), some (.int x3), none, some (.int x5), some (.int x6), none]) (m_L_law_j149_ok C hR hn Xs x3 x5 x6 hXs (r6.2, I.2) hB hX0) ⟨rfl, rfl, rfl, rfl, rfl, rfl, trivial⟩
def m_L_law_j46 (Xs : Nat × (Nat → Int32)) (x3 : Int32) (y0 : Int32) (I : Mem2) : Option (Int32 × Mem2) :=
  Option.bind (m_L_part Xs ((1 : Int32)) (mg2 I)) fun r3 => Option.bind (loopF (fun a => m_L_law_b63 Xs x3 (((1 : Int32)) + (r3 - r3 / 80 * 80)) a.1 a.2.1 a.2.2) FU (y0, (0 : Int32), I)) (fun b14 => gd (okz b14.1) (some ((b14.1, b14.2))))
set_option maxRecDepth 100000 in
set_option maxHeartbeats 4000000 in
theorem m_L_law_j46_ok {Z : Zx} {K : (Int32 × Mem2) → Prop} (C : Cx Z code 8 RL) (hR : RM Z 13 480) (hn : Gn (zG Z) = 1) (Xs : Nat × (Nat → Int32)) (x3 : Int32) (y0 : Int32) (hXs : Xs = sG (zG Z)) (I : Mem2) (hK : ∀ y, K (y) → RetI Z code .boolean y.1 (mg2 y.2)) : WF Z K (m_L_law_j46 Xs x3 y0 I) (mg2 I) 46 [some (.ref (Gb (zG Z))), some (rf (zG Z) 0), some (rf (zG Z) 196), some (.int x3), none, none, none, none] [.int y0] := by
  unfold m_L_law_j46
  refine w_istore C dL_law_46 (Nat.le_of_ble_eq_true rfl) (L' := [some (.ref (Gb (zG Z))), some (rf (zG Z) 0), some (rf (zG Z) 196), some (.int x3), some (.int y0), none, none, none]) rfl (q := 48) rfl ?_
  refine w_iconst (v := (1)) C dL_law_48 (by decide) (q := 49) rfl ?_
  refine w_aloadB (b := Gb (zG Z)) C dL_law_49 rfl (q := 50) rfl ?_
  refine w_iconst (v := (1)) C dL_law_50 (by decide) (q := 51) rfl ?_
  refine w_callS (val := fun r3 => some (.int r3)) (mem := fun r3 => mg2 I) (st1 := fun r3 => [.int r3, .int 1]) (As := [.ref (Gb (zG Z)), .int 1]) (st := [.int 1]) (q := 54) C hR (fun x h => c_L_part (zl Z) (zG Z) ((1 : Int32))  hXs (mg2 I) h) mv_L_part lk_L_41 rfl (by decide) (fun _ => rfl) (Nat.le_of_ble_eq_true rfl) rfl rfl dL_law_51 rfl (fun r3 => ?_)
  refine w_bipush (v := (80)) C dL_law_54 (by decide) (q := 56) rfl ?_
  refine w_iremL C (by decide) dL_law_56 (q := 57) rfl ?_
  refine w_iadd C dL_law_57 (q := 58) rfl ?_
  refine w_istore C dL_law_58 (Nat.le_of_ble_eq_true rfl) (L' := [some (.ref (Gb (zG Z))), some (rf (zG Z) 0), some (rf (zG Z) 196), some (.int x3), some (.int y0), some (.int (((1 : Int32)) + (r3 - r3 / 80 * 80))), none, none]) rfl (q := 60) rfl ?_
  refine w_iconst (v := (0)) C dL_law_60 (by decide) (q := 61) rfl ?_
  refine w_istore C dL_law_61 (Nat.le_of_ble_eq_true rfl) (L' := [some (.ref (Gb (zG Z))), some (rf (zG Z) 0), some (rf (zG Z) 196), some (.int x3), some (.int y0), some (.int (((1 : Int32)) + (r3 - r3 / 80 * 80))), some (.int 0), none]) rfl (q := 63) rfl ?_
  refine WF.less (L' := [some (.ref (Gb (zG Z))), some (rf (zG Z) 0), some (rf (zG Z) 196), some (.int x3), some (.int y0), some (.int (((1 : Int32)) + (r3 - r3 / 80 * 80))), some (.int 0), none]) (w_loopF (pc := 63) (a := (y0, (0 : Int32), I)) (mem := fun (a : Int32 × Int32 × Mem2) => mg2 a.2.2) (lo := fun (a : Int32 × Int32 × Mem2) => [some (.ref (Gb (zG Z))), some (rf (zG Z) 0), some (rf (zG Z) 196), some (.int x3), some (.int a.1), some (.int (((1 : Int32)) + (r3 - r3 / 80 * 80))), some (.int a.2.1), none]) (E := fun (b14 : Int32 × Mem2) => WM Z (mg2 b14.2) 201 [none, none, none, none, some (.int b14.1), none, none, none] []) (fun a => m_L_law_b63_ok C hR hn Xs x3 (((1 : Int32)) + (r3 - r3 / 80 * 80)) a.1 a.2.1 hXs a.2.2 (fun _ h => h) (fun _ h => h)) ?_) ⟨rfl, rfl, rfl, rfl, rfl, rfl, rfl, trivial⟩
  intro b14
  refine w_hx ?_
  refine w_iload (v := b14.1) C dL_law_201 rfl (q := 203) rfl ?_
  refine w_gd (fun h15 => ?_)
  exact w_iret C (hK _) (okz_n h15).1 dL_law_203
def m_L_law_j45 (Xs : Nat × (Nat → Int32)) (x3 : Int32) (I : Mem2) : Option (Int32 × Mem2) :=
  m_L_law_j46 Xs x3 ((0 : Int32)) I
set_option maxRecDepth 100000 in
set_option maxHeartbeats 4000000 in
theorem m_L_law_j45_ok {Z : Zx} {K : (Int32 × Mem2) → Prop} (C : Cx Z code 8 RL) (hR : RM Z 13 480) (hn : Gn (zG Z) = 1) (Xs : Nat × (Nat → Int32)) (x3 : Int32) (hXs : Xs = sG (zG Z)) (I : Mem2) (hK : ∀ y, K (y) → RetI Z code .boolean y.1 (mg2 y.2)) : WF Z K (m_L_law_j45 Xs x3 I) (mg2 I) 45 [some (.ref (Gb (zG Z))), some (rf (zG Z) 0), some (rf (zG Z) 196), some (.int x3), none, none, none, none] [] := by
  unfold m_L_law_j45
  refine w_iconst (v := (0)) C dL_law_45 (by decide) (q := 46) rfl ?_
  exact WF.less (L' := [some (.ref (Gb (zG Z))), some (rf (zG Z) 0), some (rf (zG Z) 196), some (.int x3), none, none, none, none]) (m_L_law_j46_ok C hR hn Xs x3 ((0 : Int32)) hXs I hK) ⟨rfl, rfl, rfl, rfl, trivial⟩
def m_L_law (Xs : Nat × (Nat → Int32)) (I : Mem2) : Option (Int32 × Mem2) :=
  Option.bind (m_L_part Xs ((0 : Int32)) (mg2 I)) fun r1 => Option.bind (m_L_isLaid 0 (r1 - r1 / 6 * 6) I.1) fun r2 => if r2.1 = 0 then (m_L_law_j45 Xs (r1 - r1 / 6 * 6) (r2.2, I.2)) else (Option.bind (m_L_isLaid 0 (r1 - r1 / 6 * 6) I.2) fun r16 => if r16.1 = 0 then (m_L_law_j45 Xs (r1 - r1 / 6 * 6) (r2.2, r16.2)) else (m_L_law_j46 Xs (r1 - r1 / 6 * 6) ((1 : Int32)) (r2.2, r16.2)))
set_option maxRecDepth 100000 in
set_option maxHeartbeats 4000000 in
theorem m_L_law_ok {Z : Zx} {K : (Int32 × Mem2) → Prop} (C : Cx Z code 8 RL) (hR : RM Z 13 480) (hn : Gn (zG Z) = 1) (Xs : Nat × (Nat → Int32)) (hXs : Xs = sG (zG Z)) (I : Mem2) (hK : ∀ y, K (y) → RetI Z code .boolean y.1 (mg2 y.2)) : WF Z K (m_L_law Xs I) (mg2 I) 16 [some (.ref (Gb (zG Z))), some (rf (zG Z) 0), some (rf (zG Z) 196), none, none, none, none, none] [] := by
  unfold m_L_law
  refine w_aloadB (b := Gb (zG Z)) C dL_law_16 rfl (q := 17) rfl ?_
  refine w_iconst (v := (0)) C dL_law_17 (by decide) (q := 18) rfl ?_
  refine w_callS (val := fun r1 => some (.int r1)) (mem := fun r1 => mg2 I) (st1 := fun r1 => [.int r1]) (As := [.ref (Gb (zG Z)), .int 0]) (st := []) (q := 21) C hR (fun x h => c_L_part (zl Z) (zG Z) ((0 : Int32))  hXs (mg2 I) h) mv_L_part lk_L_41 rfl (by decide) (fun _ => rfl) (Nat.le_of_ble_eq_true rfl) rfl rfl dL_law_18 rfl (fun r1 => ?_)
  refine w_bipush (v := (6)) C dL_law_21 (by decide) (q := 23) rfl ?_
  refine w_iremL C (by decide) dL_law_23 (q := 24) rfl ?_
  refine w_istore_n C dL_law_24 (Nat.le_of_ble_eq_true rfl) (L' := [some (.ref (Gb (zG Z))), some (rf (zG Z) 0), some (rf (zG Z) 196), some (.int (r1 - r1 / 6 * 6)), none, none, none, none]) rfl (q := 25) rfl ?_
  refine w_aload_n (v := 0) C dL_law_25 rfl (q := 26) rfl ?_
  refine w_iload_n (v := r1 - r1 / 6 * 6) C dL_law_26 rfl (q := 27) rfl ?_
  refine w_callSO (val := fun r2 => some (.int r2.1)) (mem := fun r2 => r2.2) (st1 := fun r2 => [.int r2.1]) (As := [rf (zG Z) 0, .int (r1 - r1 / 6 * 6)]) (st := []) (q := 30) C hR hn (fun x h => c_L_isLaid (zl Z) (loG (zG Z)) (r1 - r1 / 6 * 6) ho_0  I.1 h) mv_L_isLaid lk_L_87 rfl (by decide) (fun _ => rfl) (Nat.le_of_ble_eq_true rfl) rfl rfl dL_law_27 rfl (fun r2 => ?_)
  refine w_if_eq (tgt := 45) (q := 33) C dL_law_30 (by decide) rfl (fun _ => ?_) (fun _ => ?_)
  · exact WF.less (L' := [some (.ref (Gb (zG Z))), some (rf (zG Z) 0), some (rf (zG Z) 196), some (.int (r1 - r1 / 6 * 6)), none, none, none, none]) (m_L_law_j45_ok C hR hn Xs (r1 - r1 / 6 * 6) hXs (r2.2, I.2) hK) ⟨rfl, rfl, rfl, rfl, trivial⟩
  · refine w_aload_n (v := 196) C dL_law_33 rfl (q := 34) rfl ?_
    refine w_iload_n (v := r1 - r1 / 6 * 6) C dL_law_34 rfl (q := 35) rfl ?_
    refine w_callSP (val := fun r16 => some (.int r16.1)) (mem := fun r16 => r16.2) (st1 := fun r16 => [.int r16.1]) (As := [rf (zG Z) 196, .int (r1 - r1 / 6 * 6)]) (st := []) (q := 38) C hR hn (fun x h => c_L_isLaid (zl Z) (shG (zG Z)) (r1 - r1 / 6 * 6) ho_0  I.2 h) mv_L_isLaid lk_L_87 rfl (by decide) (fun _ => rfl) (Nat.le_of_ble_eq_true rfl) rfl rfl dL_law_35 rfl (fun r16 => ?_)
    refine w_if_eq (tgt := 45) (q := 41) C dL_law_38 (by decide) rfl (fun _ => ?_) (fun _ => ?_)
    · exact WF.less (L' := [some (.ref (Gb (zG Z))), some (rf (zG Z) 0), some (rf (zG Z) 196), some (.int (r1 - r1 / 6 * 6)), none, none, none, none]) (m_L_law_j45_ok C hR hn Xs (r1 - r1 / 6 * 6) hXs (r2.2, r16.2) hK) ⟨rfl, rfl, rfl, rfl, trivial⟩
    · refine w_iconst (v := (1)) C dL_law_41 (by decide) (q := 42) rfl ?_
      refine w_goto (tgt := 46) C dL_law_42 (by decide) ?_
      exact WF.less (L' := [some (.ref (Gb (zG Z))), some (rf (zG Z) 0), some (rf (zG Z) 196), some (.int (r1 - r1 / 6 * 6)), none, none, none, none]) (m_L_law_j46_ok C hR hn Xs (r1 - r1 / 6 * 6) ((1 : Int32)) hXs (r2.2, r16.2) hK) ⟨rfl, rfl, rfl, rfl, trivial⟩
