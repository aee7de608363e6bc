def m_L_isReadAgain_b2 (p3 : Int32) (x3 : Int32) (I : Mem2) : Option ((Int32 × Mem2) ⊕ ((Mem2))) :=
  Option.bind (m_X11_written 0 I.1) fun r1 => if r1 ≤ x3 then (some (.inr (I))) else (Option.bind (m_X11_letter 0 x3 I.1) fun r2 => Option.bind (m_X11_feed 0 r2 I.2) fun r3 => some (.inl (x3 + 1, (I.1, r3.2))))
set_option maxRecDepth 100000 in
set_option maxHeartbeats 4000000 in
theorem m_L_isReadAgain_b2_ok {Z : Zx} {K : ((Int32 × Mem2) ⊕ ((Mem2))) → Prop} (C : Cx Z cL_isReadAgain 8 RL) (hR : RM Z 7 169) (hn : Gn (zG Z) = 1) (p3 : Int32) (x3 : Int32) (I : Mem2) (hB : ∀ a, K (.inl a) → WM Z (mg2 a.2) 2 [some (rf (zG Z) 0), some (rf (zG Z) 196), some (.int p3), some (.int a.1), none, none, none, none] []) (hX0 : ∀ b, K (.inr (b)) → WM Z (mg2 b) 26 [some (rf (zG Z) 0), some (rf (zG Z) 196), some (.int p3), none, none, none, none, none] []) : WF Z K (m_L_isReadAgain_b2 p3 x3 I) (mg2 I) 2 [some (rf (zG Z) 0), some (rf (zG Z) 196), some (.int p3), some (.int x3), none, none, none, none] [] := by
  unfold m_L_isReadAgain_b2
  refine w_iload_n (v := x3) C dL_isReadAgain_2 rfl (q := 3) rfl ?_
  refine w_aload_n (v := 0) C dL_isReadAgain_3 rfl (q := 4) rfl ?_
  refine w_callVO (val := fun r1 => some (.int r1)) (mem := fun r1 => I.1) (st1 := fun r1 => [.int r1, .int x3]) (As := []) (st := [.int x3]) (q := 7) C hR hn (fun x h => c_X11_written (zl Z) (loG (zG Z))  ho_0  I.1 h) ho_0 mv_X11_written lk_L_76 rfl (by decide) (fun _ => rfl) (Nat.le_of_ble_eq_true rfl) rfl rfl dL_isReadAgain_4 rfl (fun r1 => ?_)
  refine w_icmp_ge (tgt := 26) (q := 10) C dL_isReadAgain_7 (by decide) rfl (fun _ => ?_) (fun _ => ?_)
  · exact w_jmp (fun h => WM.less (L' := [some (rf (zG Z) 0), some (rf (zG Z) 196), some (.int p3), none, none, none, none, none]) (hX0 _ h) ⟨rfl, rfl, rfl, trivial⟩)
  · refine w_aload_n (v := 196) C dL_isReadAgain_10 rfl (q := 11) rfl ?_
    refine w_aload_n (v := 0) C dL_isReadAgain_11 rfl (q := 12) rfl ?_
    refine w_iload_n (v := x3) C dL_isReadAgain_12 rfl (q := 13) rfl ?_
    refine w_callVO (val := fun r2 => some (.int r2)) (mem := fun r2 => I.1) (st1 := fun r2 => [.int r2, rf (zG Z) 196]) (As := [.int x3]) (st := [rf (zG Z) 196]) (q := 16) C hR hn (fun x h => c_X11_letter (zl Z) (loG (zG Z)) x3 ho_0  I.1 h) ho_0 mv_X11_letter lk_L_79 rfl (by decide) (fun _ => rfl) (Nat.le_of_ble_eq_true rfl) rfl rfl dL_isReadAgain_13 rfl (fun r2 => ?_)
    refine w_callVP (val := fun r3 => some (.int r3.1)) (mem := fun r3 => r3.2) (st1 := fun r3 => [.int r3.1]) (As := [.int r2]) (st := []) (q := 19) C hR hn (fun x h => c_X11_feed (zl Z) (shG (zG Z)) r2 ho_0  I.2 h) ho_0 mv_X11_feed lk_L_31 rfl (by decide) (fun _ => rfl) (Nat.le_of_ble_eq_true rfl) rfl rfl dL_isReadAgain_16 rfl (fun r3 => ?_)
    refine w_pop C dL_isReadAgain_19 rfl (q := 20) rfl ?_
    refine w_iinc (v := x3 + 1) C dL_isReadAgain_20 rfl rfl (L' := [some (rf (zG Z) 0), some (rf (zG Z) 196), some (.int p3), some (.int (x3 + 1)), none, none, none, none]) rfl (q := 23) rfl ?_
    refine w_goto (tgt := 2) C dL_isReadAgain_23 (by decide) ?_
    exact w_jmp (fun h => WM.less (L' := [some (rf (zG Z) 0), some (rf (zG Z) 196), some (.int p3), some (.int (x3 + 1)), none, none, none, none]) (hB _ h) ⟨rfl, rfl, rfl, rfl, trivial⟩)
def m_L_isReadAgain_j222 (p3 : Int32) (x4 : Int32) (x5 : Int32) (x6 : Int32) (x7 : Int32) (y0 : Int32) (I : Mem2) : Option ((Int32 × Int32) ⊕ ((Int32))) :=
  some (.inl (y0, x7 + 1))
set_option maxRecDepth 100000 in
set_option maxHeartbeats 4000000 in
theorem m_L_isReadAgain_j222_ok {Z : Zx} {K : ((Int32 × Int32) ⊕ ((Int32))) → Prop} (C : Cx Z cL_isReadAgain 8 RL) (hR : RM Z 7 169) (hn : Gn (zG Z) = 1) (p3 : Int32) (x4 : Int32) (x5 : Int32) (x6 : Int32) (x7 : Int32) (y0 : Int32) (I : Mem2) (hB : ∀ a, K (.inl a) → WM Z (mg2 I) 183 [some (rf (zG Z) 0), some (rf (zG Z) 196), some (.int p3), some (.int a.1), some (.int x4), some (.int x5), some (.int x6), some (.int a.2)] []) (hX0 : ∀ b, K (.inr (b)) → WM Z (mg2 I) 229 [some (rf (zG Z) 0), some (rf (zG Z) 196), some (.int p3), some (.int b), some (.int x4), some (.int x5), none, none] []) : WF Z K (m_L_isReadAgain_j222 p3 x4 x5 x6 x7 y0 I) (mg2 I) 222 [some (rf (zG Z) 0), some (rf (zG Z) 196), some (.int p3), none, some (.int x4), some (.int x5), some (.int x6), some (.int x7)] [.int y0] := by
  unfold m_L_isReadAgain_j222
  refine w_istore_n C dL_isReadAgain_222 (Nat.le_of_ble_eq_true rfl) (L' := [some (rf (zG Z) 0), some (rf (zG Z) 196), some (.int p3), some (.int y0), some (.int x4), some (.int x5), some (.int x6), some (.int x7)]) rfl (q := 223) rfl ?_
  refine w_iinc (v := x7 + 1) C dL_isReadAgain_223 rfl rfl (L' := [some (rf (zG Z) 0), some (rf (zG Z) 196), some (.int p3), some (.int y0), some (.int x4), some (.int x5), some (.int x6), some (.int (x7 + 1))]) rfl (q := 226) rfl ?_
  refine w_goto (tgt := 183) C dL_isReadAgain_226 (by decide) ?_
  exact w_jmp (fun h => WM.less (L' := [some (rf (zG Z) 0), some (rf (zG Z) 196), some (.int p3), some (.int y0), some (.int x4), some (.int x5), some (.int x6), some (.int (x7 + 1))]) (hB _ h) ⟨rfl, rfl, rfl, rfl, rfl, rfl, rfl, rfl, trivial⟩)
def m_L_isReadAgain_b183 (p3 : Int32) (x4 : Int32) (x5 : Int32) (x6 : Int32) (x3 : Int32) (x7 : Int32) (I : Mem2) : Option ((Int32 × Int32) ⊕ ((Int32))) :=
  if x6 ≤ x7 then (some (.inr (x3))) else (if x3 = 0 then (some (.inr (x3))) else (Option.bind (m_X11_content 0 x4 x5 x7 I.2) fun r12 => Option.bind (m_X11_content 0 x4 x5 x7 I.1) fun r13 => if r12 = r13 then (m_L_isReadAgain_j222 p3 x4 x5 x6 x7 ((1 : Int32)) I) else (m_L_isReadAgain_j222 p3 x4 x5 x6 x7 ((0 : Int32)) I)))
set_option maxRecDepth 100000 in
set_option maxHeartbeats 4000000 in
theorem m_L_isReadAgain_b183_ok {Z : Zx} {K : ((Int32 × Int32) ⊕ ((Int32))) → Prop} (C : Cx Z cL_isReadAgain 8 RL) (hR : RM Z 7 169) (hn : Gn (zG Z) = 1) (p3 : Int32) (x4 : Int32) (x5 : Int32) (x6 : Int32) (x3 : Int32) (x7 : Int32) (I : Mem2) (hB : ∀ a, K (.inl a) → WM Z (mg2 I) 183 [some (rf (zG Z) 0), some (rf (zG Z) 196), some (.int p3), some (.int a.1), some (.int x4), some (.int x5), some (.int x6), some (.int a.2)] []) (hX0 : ∀ b, K (.inr (b)) → WM Z (mg2 I) 229 [some (rf (zG Z) 0), some (rf (zG Z) 196), some (.int p3), some (.int b), some (.int x4), some (.int x5), none, none] []) : WF Z K (m_L_isReadAgain_b183 p3 x4 x5 x6 x3 x7 I) (mg2 I) 183 [some (rf (zG Z) 0), some (rf (zG Z) 196), some (.int p3), some (.int x3), some (.int x4), some (.int x5), some (.int x6), some (.int x7)] [] := by
  unfold m_L_isReadAgain_b183
  refine w_iload (v := x7) C dL_isReadAgain_183 rfl (q := 185) rfl ?_
  refine w_iload (v := x6) C dL_isReadAgain_185 rfl (q := 187) rfl ?_
  refine w_icmp_ge (tgt := 229) (q := 190) C dL_isReadAgain_187 (by decide) rfl (fun _ => ?_) (fun _ => ?_)
  · exact w_jmp (fun h => WM.less (L' := [some (rf (zG Z) 0), some (rf (zG Z) 196), some (.int p3), some (.int x3), some (.int x4), some (.int x5), none, none]) (hX0 _ h) ⟨rfl, rfl, rfl, rfl, rfl, rfl, trivial⟩)
  · refine w_iload_n (v := x3) C dL_isReadAgain_190 rfl (q := 191) rfl ?_
    refine w_if_eq (tgt := 229) (q := 194) C dL_isReadAgain_191 (by decide) rfl (fun _ => ?_) (fun _ => ?_)
    · exact w_jmp (fun h => WM.less (L' := [some (rf (zG Z) 0), some (rf (zG Z) 196), some (.int p3), some (.int x3), some (.int x4), some (.int x5), none, none]) (hX0 _ h) ⟨rfl, rfl, rfl, rfl, rfl, rfl, trivial⟩)
    · refine w_aload_n (v := 196) C dL_isReadAgain_194 rfl (q := 195) rfl ?_
      refine w_iload (v := x4) C dL_isReadAgain_195 rfl (q := 197) rfl ?_
      refine w_iload (v := x5) C dL_isReadAgain_197 rfl (q := 199) rfl ?_
      refine w_iload (v := x7) C dL_isReadAgain_199 rfl (q := 201) rfl ?_
      refine w_callVP (val := fun r12 => some (.int r12)) (mem := fun r12 => I.2) (st1 := fun r12 => [.int r12]) (As := [.int x4, .int x5, .int x7]) (st := []) (q := 204) C hR hn (fun x h => c_X11_content (zl Z) (shG (zG Z)) x4 x5 x7 ho_0  I.2 h) ho_0 mv_X11_content lk_L_72 rfl (by decide) (fun _ => rfl) (Nat.le_of_ble_eq_true rfl) rfl rfl dL_isReadAgain_201 rfl (fun r12 => ?_)
      refine w_aload_n (v := 0) C dL_isReadAgain_204 rfl (q := 205) rfl ?_
      refine w_iload (v := x4) C dL_isReadAgain_205 rfl (q := 207) rfl ?_
      refine w_iload (v := x5) C dL_isReadAgain_207 rfl (q := 209) rfl ?_
      refine w_iload (v := x7) C dL_isReadAgain_209 rfl (q := 211) rfl ?_
      refine w_callVO (val := fun r13 => some (.int r13)) (mem := fun r13 => I.1) (st1 := fun r13 => [.int r13, .int r12]) (As := [.int x4, .int x5, .int x7]) (st := [.int r12]) (q := 214) C hR hn (fun x h => c_X11_content (zl Z) (loG (zG Z)) x4 x5 x7 ho_0  I.1 h) ho_0 mv_X11_content lk_L_72 rfl (by decide) (fun _ => rfl) (Nat.le_of_ble_eq_true rfl) rfl rfl dL_isReadAgain_211 rfl (fun r13 => ?_)
      refine w_icmp_ne (tgt := 221) (q := 217) C dL_isReadAgain_214 (by decide) rfl (fun _ => ?_) (fun _ => ?_)
      · refine w_iconst (v := (1)) C dL_isReadAgain_217 (by decide) (q := 218) rfl ?_
        refine w_goto (tgt := 222) C dL_isReadAgain_218 (by decide) ?_
        exact WF.less (L' := [some (rf (zG Z) 0), some (rf (zG Z) 196), some (.int p3), none, some (.int x4), some (.int x5), some (.int x6), some (.int x7)]) (m_L_isReadAgain_j222_ok C hR hn p3 x4 x5 x6 x7 ((1 : Int32))  I hB hX0) ⟨rfl, rfl, rfl, rfl, rfl, rfl, rfl, trivial⟩
      · refine w_iconst (v := (0)) C dL_isReadAgain_221 (by decide) (q := 222) rfl ?_
        exact WF.less (L' := [some (rf (zG Z) 0), some (rf (zG Z) 196), some (.int p3), none, some (.int x4), some (.int x5), some (.int x6), some (.int x7)]) (m_L_isReadAgain_j222_ok C hR hn p3 x4 x5 x6 x7 ((0 : Int32))  I hB hX0) ⟨rfl, rfl, rfl, rfl, rfl, rfl, rfl, trivial⟩
def m_L_isReadAgain_j179 (p3 : Int32) (x4 : Int32) (x5 : Int32) (x6 : Int32) (y0 : Int32) (I : Mem2) : Option ((Int32 × Int32) ⊕ ((Int32))) :=
  Option.bind (loopF (fun a => m_L_isReadAgain_b183 p3 x4 x5 x6 a.1 a.2 I) FU (y0, (0 : Int32))) (fun b14 => some (.inl (b14, x5 + 1)))
set_option maxRecDepth 100000 in
set_option maxHeartbeats 4000000 in
theorem m_L_isReadAgain_j179_ok {Z : Zx} {K : ((Int32 × Int32) ⊕ ((Int32))) → Prop} (C : Cx Z cL_isReadAgain 8 RL) (hR : RM Z 7 169) (hn : Gn (zG Z) = 1) (p3 : Int32) (x4 : Int32) (x5 : Int32) (x6 : Int32) (y0 : Int32) (I : Mem2) (hB : ∀ a, K (.inl a) → WM Z (mg2 I) 126 [some (rf (zG Z) 0), some (rf (zG Z) 196), some (.int p3), some (.int a.1), some (.int x4), some (.int a.2), none, none] []) (hX0 : ∀ b, K (.inr (b)) → WM Z (mg2 I) 235 [some (rf (zG Z) 0), some (rf (zG Z) 196), some (.int p3), some (.int b), some (.int x4), none, none, none] []) : WF Z K (m_L_isReadAgain_j179 p3 x4 x5 x6 y0 I) (mg2 I) 179 [some (rf (zG Z) 0), some (rf (zG Z) 196), some (.int p3), none, some (.int x4), some (.int x5), some (.int x6), none] [.int y0] := by
  unfold m_L_isReadAgain_j179
  refine w_istore_n C dL_isReadAgain_179 (Nat.le_of_ble_eq_true rfl) (L' := [some (rf (zG Z) 0), some (rf (zG Z) 196), some (.int p3), some (.int y0), some (.int x4), some (.int x5), some (.int x6), none]) rfl (q := 180) rfl ?_
  refine w_iconst (v := (0)) C dL_isReadAgain_180 (by decide) (q := 181) rfl ?_
  refine w_istore C dL_isReadAgain_181 (Nat.le_of_ble_eq_true rfl) (L' := [some (rf (zG Z) 0), some (rf (zG Z) 196), some (.int p3), some (.int y0), some (.int x4), some (.int x5), some (.int x6), some (.int 0)]) rfl (q := 183) rfl ?_
  refine WF.less (L' := [some (rf (zG Z) 0), some (rf (zG Z) 196), some (.int p3), some (.int y0), some (.int x4), some (.int x5), some (.int x6), some (.int 0)]) (w_loopF (pc := 183) (a := (y0, (0 : Int32))) (mem := fun (a : Int32 × Int32) => mg2 I) (lo := fun (a : Int32 × Int32) => [some (rf (zG Z) 0), some (rf (zG Z) 196), some (.int p3), some (.int a.1), some (.int x4), some (.int x5), some (.int x6), some (.int a.2)]) (E := fun (b14 : Int32) => WM Z (mg2 I) 229 [some (rf (zG Z) 0), some (rf (zG Z) 196), some (.int p3), some (.int b14), some (.int x4), some (.int x5), none, none] []) (fun a => m_L_isReadAgain_b183_ok C hR hn p3 x4 x5 x6 a.1 a.2  I (fun _ h => h) (fun _ h => h)) ?_) ⟨rfl, rfl, rfl, rfl, rfl, rfl, rfl, rfl, trivial⟩
  intro b14
  refine w_hx ?_
  refine w_iinc (v := x5 + 1) C dL_isReadAgain_229 rfl rfl (L' := [some (rf (zG Z) 0), some (rf (zG Z) 196), some (.int p3), some (.int b14), some (.int x4), some (.int (x5 + 1)), none, none]) rfl (q := 232) rfl ?_
  refine w_goto (tgt := 126) C dL_isReadAgain_232 (by decide) ?_
  exact w_jmp (fun h => WM.less (L' := [some (rf (zG Z) 0), some (rf (zG Z) 196), some (.int p3), some (.int b14), some (.int x4), some (.int (x5 + 1)), none, none]) (hB _ h) ⟨rfl, rfl, rfl, rfl, rfl, rfl, trivial⟩)
def m_L_isReadAgain_j159 (p3 : Int32) (x4 : Int32) (x5 : Int32) (y0 : Int32) (I : Mem2) : Option ((Int32 × Int32) ⊕ ((Int32))) :=
  Option.bind (m_X11_contentLength 0 x4 x5 I.2) fun r11 => if r11 = y0 then (m_L_isReadAgain_j179 p3 x4 x5 y0 ((1 : Int32)) I) else (m_L_isReadAgain_j179 p3 x4 x5 y0 ((0 : Int32)) I)
set_option maxRecDepth 100000 in
set_option maxHeartbeats 4000000 in
theorem m_L_isReadAgain_j159_ok {Z : Zx} {K : ((Int32 × Int32) ⊕ ((Int32))) → Prop} (C : Cx Z cL_isReadAgain 8 RL) (hR : RM Z 7 169) (hn : Gn (zG Z) = 1) (p3 : Int32) (x4 : Int32) (x5 : Int32) (y0 : Int32) (I : Mem2) (hB : ∀ a, K (.inl a) → WM Z (mg2 I) 126 [some (rf (zG Z) 0), some (rf (zG Z) 196), some (.int p3), some (.int a.1), some (.int x4), some (.int a.2), none, none] []) (hX0 : ∀ b, K (.inr (b)) → WM Z (mg2 I) 235 [some (rf (zG Z) 0), some (rf (zG Z) 196), some (.int p3), some (.int b), some (.int x4), none, none, none] []) : WF Z K (m_L_isReadAgain_j159 p3 x4 x5 y0 I) (mg2 I) 159 [some (rf (zG Z) 0), some (rf (zG Z) 196), some (.int p3), none, some (.int x4), some (.int x5), none, none] [.int y0] := by
  unfold m_L_isReadAgain_j159
  refine w_istore C dL_isReadAgain_159 (Nat.le_of_ble_eq_true rfl) (L' := [some (rf (zG Z) 0), some (rf (zG Z) 196), some (.int p3), none, some (.int x4), some (.int x5), some (.int y0), none]) rfl (q := 161) rfl ?_
  refine w_aload_n (v := 196) C dL_isReadAgain_161 rfl (q := 162) rfl ?_
  refine w_iload (v := x4) C dL_isReadAgain_162 rfl (q := 164) rfl ?_
  refine w_iload (v := x5) C dL_isReadAgain_164 rfl (q := 166) rfl ?_
  refine w_callVP (val := fun r11 => some (.int r11)) (mem := fun r11 => I.2) (st1 := fun r11 => [.int r11]) (As := [.int x4, .int x5]) (st := []) (q := 169) C hR hn (fun x h => c_X11_contentLength (zl Z) (shG (zG Z)) x4 x5 ho_0  I.2 h) ho_0 mv_X11_contentLength lk_L_69 rfl (by decide) (fun _ => rfl) (Nat.le_of_ble_eq_true rfl) rfl rfl dL_isReadAgain_166 rfl (fun r11 => ?_)
  refine w_iload (v := y0) C dL_isReadAgain_169 rfl (q := 171) rfl ?_
  refine w_icmp_ne (tgt := 178) (q := 174) C dL_isReadAgain_171 (by decide) rfl (fun _ => ?_) (fun _ => ?_)
  · refine w_iconst (v := (1)) C dL_isReadAgain_174 (by decide) (q := 175) rfl ?_
    refine w_goto (tgt := 179) C dL_isReadAgain_175 (by decide) ?_
    exact WF.less (L' := [some (rf (zG Z) 0), some (rf (zG Z) 196), some (.int p3), none, some (.int x4), some (.int x5), some (.int y0), none]) (m_L_isReadAgain_j179_ok C hR hn p3 x4 x5 y0 ((1 : Int32))  I hB hX0) ⟨rfl, rfl, rfl, rfl, rfl, rfl, trivial⟩
  · refine w_iconst (v := (0)) C dL_isReadAgain_178 (by decide) (q := 179) rfl ?_
    exact WF.less (L' := [some (rf (zG Z) 0), some (rf (zG Z) 196), some (.int p3), none, some (.int x4), some (.int x5), some (.int y0), none]) (m_L_isReadAgain_j179_ok C hR hn p3 x4 x5 y0 ((0 : Int32))  I hB hX0) ⟨rfl, rfl, rfl, rfl, rfl, rfl, trivial⟩
def m_L_isReadAgain_b126 (p3 : Int32) (x4 : Int32) (x3 : Int32) (x5 : Int32) (I : Mem2) : Option ((Int32 × Int32) ⊕ ((Int32))) :=
  if p3 ≤ x5 then (some (.inr (x3))) else (if x3 = 0 then (some (.inr (x3))) else (Option.bind (m_X11_elements 0 x4 I.1) fun r10 => if r10 ≤ x5 then (m_L_isReadAgain_j159 p3 x4 x5 ((0 : Int32)) I) else (Option.bind (m_X11_contentLength 0 x4 x5 I.1) fun r15 => m_L_isReadAgain_j159 p3 x4 x5 r15 I)))
set_option maxRecDepth 100000 in
set_option maxHeartbeats 4000000 in
theorem m_L_isReadAgain_b126_ok {Z : Zx} {K : ((Int32 × Int32) ⊕ ((Int32))) → Prop} (C : Cx Z cL_isReadAgain 8 RL) (hR : RM Z 7 169) (hn : Gn (zG Z) = 1) (p3 : Int32) (x4 : Int32) (x3 : Int32) (x5 : Int32) (I : Mem2) (hB : ∀ a, K (.inl a) → WM Z (mg2 I) 126 [some (rf (zG Z) 0), some (rf (zG Z) 196), some (.int p3), some (.int a.1), some (.int x4), some (.int a.2), none, none] []) (hX0 : ∀ b, K (.inr (b)) → WM Z (mg2 I) 235 [some (rf (zG Z) 0), some (rf (zG Z) 196), some (.int p3), some (.int b), some (.int x4), none, none, none] []) : WF Z K (m_L_isReadAgain_b126 p3 x4 x3 x5 I) (mg2 I) 126 [some (rf (zG Z) 0), some (rf (zG Z) 196), some (.int p3), some (.int x3), some (.int x4), some (.int x5), none, none] [] := by
  unfold m_L_isReadAgain_b126
  refine w_iload (v := x5) C dL_isReadAgain_126 rfl (q := 128) rfl ?_
  refine w_iload_n (v := p3) C dL_isReadAgain_128 rfl (q := 129) rfl ?_
  refine w_icmp_ge (tgt := 235) (q := 132) C dL_isReadAgain_129 (by decide) rfl (fun _ => ?_) (fun _ => ?_)
  · exact w_jmp (fun h => WM.less (L' := [some (rf (zG Z) 0), some (rf (zG Z) 196), some (.int p3), some (.int x3), some (.int x4), none, none, none]) (hX0 _ h) ⟨rfl, rfl, rfl, rfl, rfl, trivial⟩)
  · refine w_iload_n (v := x3) C dL_isReadAgain_132 rfl (q := 133) rfl ?_
    refine w_if_eq (tgt := 235) (q := 136) C dL_isReadAgain_133 (by decide) rfl (fun _ => ?_) (fun _ => ?_)
    · exact w_jmp (fun h => WM.less (L' := [some (rf (zG Z) 0), some (rf (zG Z) 196), some (.int p3), some (.int x3), some (.int x4), none, none, none]) (hX0 _ h) ⟨rfl, rfl, rfl, rfl, rfl, trivial⟩)
    · refine w_iload (v := x5) C dL_isReadAgain_136 rfl (q := 138) rfl ?_
      refine w_aload_n (v := 0) C dL_isReadAgain_138 rfl (q := 139) rfl ?_
      refine w_iload (v := x4) C dL_isReadAgain_139 rfl (q := 141) rfl ?_
      refine w_callVO (val := fun r10 => some (.int r10)) (mem := fun r10 => I.1) (st1 := fun r10 => [.int r10, .int x5]) (As := [.int x4]) (st := [.int x5]) (q := 144) C hR hn (fun x h => c_X11_elements (zl Z) (loG (zG Z)) x4 ho_0  I.1 h) ho_0 mv_X11_elements lk_L_59 rfl (by decide) (fun _ => rfl) (Nat.le_of_ble_eq_true rfl) rfl rfl dL_isReadAgain_141 rfl (fun r10 => ?_)
      refine w_icmp_ge (tgt := 158) (q := 147) C dL_isReadAgain_144 (by decide) rfl (fun _ => ?_) (fun _ => ?_)
      · refine w_iconst (v := (0)) C dL_isReadAgain_158 (by decide) (q := 159) rfl ?_
        exact WF.less (L' := [some (rf (zG Z) 0), some (rf (zG Z) 196), some (.int p3), none, some (.int x4), some (.int x5), none, none]) (m_L_isReadAgain_j159_ok C hR hn p3 x4 x5 ((0 : Int32))  I hB hX0) ⟨rfl, rfl, rfl, rfl, rfl, trivial⟩
      · refine w_aload_n (v := 0) C dL_isReadAgain_147 rfl (q := 148) rfl ?_
        refine w_iload (v := x4) C dL_isReadAgain_148 rfl (q := 150) rfl ?_
        refine w_iload (v := x5) C dL_isReadAgain_150 rfl (q := 152) rfl ?_
        refine w_callVO (val := fun r15 => some (.int r15)) (mem := fun r15 => I.1) (st1 := fun r15 => [.int r15]) (As := [.int x4, .int x5]) (st := []) (q := 155) C hR hn (fun x h => c_X11_contentLength (zl Z) (loG (zG Z)) x4 x5 ho_0  I.1 h) ho_0 mv_X11_contentLength lk_L_69 rfl (by decide) (fun _ => rfl) (Nat.le_of_ble_eq_true rfl) rfl rfl dL_isReadAgain_152 rfl (fun r15 => ?_)
        refine w_goto (tgt := 159) C dL_isReadAgain_155 (by decide) ?_
        exact WF.less (L' := [some (rf (zG Z) 0), some (rf (zG Z) 196), some (.int p3), none, some (.int x4), some (.int x5), none, none]) (m_L_isReadAgain_j159_ok C hR hn p3 x4 x5 r15  I hB hX0) ⟨rfl, rfl, rfl, rfl, rfl, trivial⟩
def m_L_isReadAgain_j122 (p3 : Int32) (x4 : Int32) (y0 : Int32) (I : Mem2) : Option ((Int32 × Int32) ⊕ ((Int32))) :=
  Option.bind (loopF (fun a => m_L_isReadAgain_b126 p3 x4 a.1 a.2 I) FU (y0, (0 : Int32))) (fun b16 => some (.inl (b16, x4 + 1)))
set_option maxRecDepth 100000 in
set_option maxHeartbeats 4000000 in
theorem m_L_isReadAgain_j122_ok {Z : Zx} {K : ((Int32 × Int32) ⊕ ((Int32))) → Prop} (C : Cx Z cL_isReadAgain 8 RL) (hR : RM Z 7 169) (hn : Gn (zG Z) = 1) (p3 : Int32) (x4 : Int32) (y0 : Int32) (I : Mem2) (hB : ∀ a, K (.inl a) → WM Z (mg2 I) 64 [some (rf (zG Z) 0), some (rf (zG Z) 196), some (.int p3), some (.int a.1), some (.int a.2), none, none, none] []) (hX0 : ∀ b, K (.inr (b)) → WM Z (mg2 I) 241 [none, none, none, some (.int b), none, none, none, none] []) : WF Z K (m_L_isReadAgain_j122 p3 x4 y0 I) (mg2 I) 122 [some (rf (zG Z) 0), some (rf (zG Z) 196), some (.int p3), none, some (.int x4), none, none, none] [.int y0] := by
  unfold m_L_isReadAgain_j122
  refine w_istore_n C dL_isReadAgain_122 (Nat.le_of_ble_eq_true rfl) (L' := [some (rf (zG Z) 0), some (rf (zG Z) 196), some (.int p3), some (.int y0), some (.int x4), none, none, none]) rfl (q := 123) rfl ?_
  refine w_iconst (v := (0)) C dL_isReadAgain_123 (by decide) (q := 124) rfl ?_
  refine w_istore C dL_isReadAgain_124 (Nat.le_of_ble_eq_true rfl) (L' := [some (rf (zG Z) 0), some (rf (zG Z) 196), some (.int p3), some (.int y0), some (.int x4), some (.int 0), none, none]) rfl (q := 126) rfl ?_
  refine WF.less (L' := [some (rf (zG Z) 0), some (rf (zG Z) 196), some (.int p3), some (.int y0), some (.int x4), some (.int 0), none, none]) (w_loopF (pc := 126) (a := (y0, (0 : Int32))) (mem := fun (a : Int32 × Int32) => mg2 I) (lo := fun (a : Int32 × Int32) => [some (rf (zG Z) 0), some (rf (zG Z) 196), some (.int p3), some (.int a.1), some (.int x4), some (.int a.2), none, none]) (E := fun (b16 : Int32) => WM Z (mg2 I) 235 [some (rf (zG Z) 0), some (rf (zG Z) 196), some (.int p3), some (.int b16), some (.int x4), none, none, none] []) (fun a => m_L_isReadAgain_b126_ok C hR hn p3 x4 a.1 a.2  I (fun _ h => h) (fun _ h => h)) ?_) ⟨rfl, rfl, rfl, rfl, rfl, rfl, trivial⟩
  intro b16
  refine w_hx ?_
  refine w_iinc (v := x4 + 1) C dL_isReadAgain_235 rfl rfl (L' := [some (rf (zG Z) 0), some (rf (zG Z) 196), some (.int p3), some (.int b16), some (.int (x4 + 1)), none, none, none]) rfl (q := 238) rfl ?_
  refine w_goto (tgt := 64) C dL_isReadAgain_238 (by decide) ?_
  exact w_jmp (fun h => WM.less (L' := [some (rf (zG Z) 0), some (rf (zG Z) 196), some (.int p3), some (.int b16), some (.int (x4 + 1)), none, none, none]) (hB _ h) ⟨rfl, rfl, rfl, rfl, rfl, trivial⟩)
def m_L_isReadAgain_j121 (p3 : Int32) (x4 : Int32) (I : Mem2) : Option ((Int32 × Int32) ⊕ ((Int32))) :=
  m_L_isReadAgain_j122 p3 x4 ((0 : Int32)) I
set_option maxRecDepth 100000 in
set_option maxHeartbeats 4000000 in
theorem m_L_isReadAgain_j121_ok {Z : Zx} {K : ((Int32 × Int32) ⊕ ((Int32))) → Prop} (C : Cx Z cL_isReadAgain 8 RL) (hR : RM Z 7 169) (hn : Gn (zG Z) = 1) (p3 : Int32) (x4 : Int32) (I : Mem2) (hB : ∀ a, K (.inl a) → WM Z (mg2 I) 64 [some (rf (zG Z) 0), some (rf (zG Z) 196), some (.int p3), some (.int a.1), some (.int a.2), none, none, none] []) (hX0 : ∀ b, K (.inr (b)) → WM Z (mg2 I) 241 [none, none, none, some (.int b), none, none, none, none] []) : WF Z K (m_L_isReadAgain_j121 p3 x4 I) (mg2 I) 121 [some (rf (zG Z) 0), some (rf (zG Z) 196), some (.int p3), none, some (.int x4), none, none, none] [] := by
  unfold m_L_isReadAgain_j121
  refine w_iconst (v := (0)) C dL_isReadAgain_121 (by decide) (q := 122) rfl ?_
  exact WF.less (L' := [some (rf (zG Z) 0), some (rf (zG Z) 196), some (.int p3), none, some (.int x4), none, none, none]) (m_L_isReadAgain_j122_ok C hR hn p3 x4 ((0 : Int32))  I hB hX0) ⟨rfl, rfl, rfl, rfl, trivial⟩
def m_L_isReadAgain_b64 (p3 : Int32) (x3 : Int32) (x4 : Int32) (I : Mem2) : Option ((Int32 × Int32) ⊕ ((Int32))) :=
  if x3 = 0 then (some (.inr (x3))) else (Option.bind (m_X11_segments 0 I.1) fun r7 => if r7 ≤ x4 then (some (.inr (x3))) else (Option.bind (m_X11_tag 0 x4 I.2) fun r8 => Option.bind (m_X11_tag 0 x4 I.1) fun r9 => if r8 = r9 then (Option.bind (m_X11_elements 0 x4 I.2) fun r17 => if r17 = p3 then (Option.bind (m_X11_pass 0 x4 I.2) fun r18 => Option.bind (m_X11_pass 0 x4 I.1) fun r19 => if r18 = r19 then (m_L_isReadAgain_j122 p3 x4 ((1 : Int32)) I) else (m_L_isReadAgain_j121 p3 x4 I)) else (m_L_isReadAgain_j121 p3 x4 I)) else (m_L_isReadAgain_j121 p3 x4 I)))
set_option maxRecDepth 100000 in
set_option maxHeartbeats 4000000 in
theorem m_L_isReadAgain_b64_ok {Z : Zx} {K : ((Int32 × Int32) ⊕ ((Int32))) → Prop} (C : Cx Z cL_isReadAgain 8 RL) (hR : RM Z 7 169) (hn : Gn (zG Z) = 1) (p3 : Int32) (x3 : Int32) (x4 : Int32) (I : Mem2) (hB : ∀ a, K (.inl a) → WM Z (mg2 I) 64 [some (rf (zG Z) 0), some (rf (zG Z) 196), some (.int p3), some (.int a.1), some (.int a.2), none, none, none] []) (hX0 : ∀ b, K (.inr (b)) → WM Z (mg2 I) 241 [none, none, none, some (.int b), none, none, none, none] []) : WF Z K (m_L_isReadAgain_b64 p3 x3 x4 I) (mg2 I) 64 [some (rf (zG Z) 0), some (rf (zG Z) 196), some (.int p3), some (.int x3), some (.int x4), none, none, none] [] := by
  unfold m_L_isReadAgain_b64
  refine w_iload_n (v := x3) C dL_isReadAgain_64 rfl (q := 65) rfl ?_
  refine w_if_eq (tgt := 241) (q := 68) C dL_isReadAgain_65 (by decide) rfl (fun _ => ?_) (fun _ => ?_)
  · exact w_jmp (fun h => WM.less (L' := [none, none, none, some (.int x3), none, none, none, none]) (hX0 _ h) ⟨rfl, trivial⟩)
  · refine w_iload (v := x4) C dL_isReadAgain_68 rfl (q := 70) rfl ?_
    refine w_aload_n (v := 0) C dL_isReadAgain_70 rfl (q := 71) rfl ?_
    refine w_callVO (val := fun r7 => some (.int r7)) (mem := fun r7 => I.1) (st1 := fun r7 => [.int r7, .int x4]) (As := []) (st := [.int x4]) (q := 74) C hR hn (fun x h => c_X11_segments (zl Z) (loG (zG Z))  ho_0  I.1 h) ho_0 mv_X11_segments lk_L_53 rfl (by decide) (fun _ => rfl) (Nat.le_of_ble_eq_true rfl) rfl rfl dL_isReadAgain_71 rfl (fun r7 => ?_)
    refine w_icmp_ge (tgt := 241) (q := 77) C dL_isReadAgain_74 (by decide) rfl (fun _ => ?_) (fun _ => ?_)
    · exact w_jmp (fun h => WM.less (L' := [none, none, none, some (.int x3), none, none, none, none]) (hX0 _ h) ⟨rfl, trivial⟩)
    · refine w_aload_n (v := 196) C dL_isReadAgain_77 rfl (q := 78) rfl ?_
      refine w_iload (v := x4) C dL_isReadAgain_78 rfl (q := 80) rfl ?_
      refine w_callVP (val := fun r8 => some (.int r8)) (mem := fun r8 => I.2) (st1 := fun r8 => [.int r8]) (As := [.int x4]) (st := []) (q := 83) C hR hn (fun x h => c_X11_tag (zl Z) (shG (zG Z)) x4 ho_0  I.2 h) ho_0 mv_X11_tag lk_L_56 rfl (by decide) (fun _ => rfl) (Nat.le_of_ble_eq_true rfl) rfl rfl dL_isReadAgain_80 rfl (fun r8 => ?_)
      refine w_aload_n (v := 0) C dL_isReadAgain_83 rfl (q := 84) rfl ?_
      refine w_iload (v := x4) C dL_isReadAgain_84 rfl (q := 86) rfl ?_
      refine w_callVO (val := fun r9 => some (.int r9)) (mem := fun r9 => I.1) (st1 := fun r9 => [.int r9, .int r8]) (As := [.int x4]) (st := [.int r8]) (q := 89) C hR hn (fun x h => c_X11_tag (zl Z) (loG (zG Z)) x4 ho_0  I.1 h) ho_0 mv_X11_tag lk_L_56 rfl (by decide) (fun _ => rfl) (Nat.le_of_ble_eq_true rfl) rfl rfl dL_isReadAgain_86 rfl (fun r9 => ?_)
      refine w_icmp_ne (tgt := 121) (q := 92) C dL_isReadAgain_89 (by decide) rfl (fun _ => ?_) (fun _ => ?_)
      · refine w_aload_n (v := 196) C dL_isReadAgain_92 rfl (q := 93) rfl ?_
        refine w_iload (v := x4) C dL_isReadAgain_93 rfl (q := 95) rfl ?_
        refine w_callVP (val := fun r17 => some (.int r17)) (mem := fun r17 => I.2) (st1 := fun r17 => [.int r17]) (As := [.int x4]) (st := []) (q := 98) C hR hn (fun x h => c_X11_elements (zl Z) (shG (zG Z)) x4 ho_0  I.2 h) ho_0 mv_X11_elements lk_L_59 rfl (by decide) (fun _ => rfl) (Nat.le_of_ble_eq_true rfl) rfl rfl dL_isReadAgain_95 rfl (fun r17 => ?_)
        refine w_iload_n (v := p3) C dL_isReadAgain_98 rfl (q := 99) rfl ?_
        refine w_icmp_ne (tgt := 121) (q := 102) C dL_isReadAgain_99 (by decide) rfl (fun _ => ?_) (fun _ => ?_)
        · refine w_aload_n (v := 196) C dL_isReadAgain_102 rfl (q := 103) rfl ?_
          refine w_iload (v := x4) C dL_isReadAgain_103 rfl (q := 105) rfl ?_
          refine w_callVP (val := fun r18 => some (.int r18)) (mem := fun r18 => I.2) (st1 := fun r18 => [.int r18]) (As := [.int x4]) (st := []) (q := 108) C hR hn (fun x h => c_X11_pass (zl Z) (shG (zG Z)) x4 ho_0  I.2 h) ho_0 mv_X11_pass lk_L_66 rfl (by decide) (fun _ => rfl) (Nat.le_of_ble_eq_true rfl) rfl rfl dL_isReadAgain_105 rfl (fun r18 => ?_)
          refine w_aload_n (v := 0) C dL_isReadAgain_108 rfl (q := 109) rfl ?_
          refine w_iload (v := x4) C dL_isReadAgain_109 rfl (q := 111) rfl ?_
          refine w_callVO (val := fun r19 => some (.int r19)) (mem := fun r19 => I.1) (st1 := fun r19 => [.int r19, .int r18]) (As := [.int x4]) (st := [.int r18]) (q := 114) C hR hn (fun x h => c_X11_pass (zl Z) (loG (zG Z)) x4 ho_0  I.1 h) ho_0 mv_X11_pass lk_L_66 rfl (by decide) (fun _ => rfl) (Nat.le_of_ble_eq_true rfl) rfl rfl dL_isReadAgain_111 rfl (fun r19 => ?_)
          refine w_icmp_ne (tgt := 121) (q := 117) C dL_isReadAgain_114 (by decide) rfl (fun _ => ?_) (fun _ => ?_)
          · refine w_iconst (v := (1)) C dL_isReadAgain_117 (by decide) (q := 118) rfl ?_
            refine w_goto (tgt := 122) C dL_isReadAgain_118 (by decide) ?_
            exact WF.less (L' := [some (rf (zG Z) 0), some (rf (zG Z) 196), some (.int p3), none, some (.int x4), none, none, none]) (m_L_isReadAgain_j122_ok C hR hn p3 x4 ((1 : Int32))  I hB hX0) ⟨rfl, rfl, rfl, rfl, trivial⟩
          · exact WF.less (L' := [some (rf (zG Z) 0), some (rf (zG Z) 196), some (.int p3), none, some (.int x4), none, none, none]) (m_L_isReadAgain_j121_ok C hR hn p3 x4  I hB hX0) ⟨rfl, rfl, rfl, rfl, trivial⟩
        · exact WF.less (L' := [some (rf (zG Z) 0), some (rf (zG Z) 196), some (.int p3), none, some (.int x4), none, none, none]) (m_L_isReadAgain_j121_ok C hR hn p3 x4  I hB hX0) ⟨rfl, rfl, rfl, rfl, trivial⟩
      · exact WF.less (L' := [some (rf (zG Z) 0), some (rf (zG Z) 196), some (.int p3), none, some (.int x4), none, none, none]) (m_L_isReadAgain_j121_ok C hR hn p3 x4  I hB hX0) ⟨rfl, rfl, rfl, rfl, trivial⟩
def m_L_isReadAgain_j60 (p3 : Int32) (y0 : Int32) (I : Mem2) : Option (Int32 × Mem2) :=
  Option.bind (loopF (fun a => m_L_isReadAgain_b64 p3 a.1 a.2 I) FU (y0, (0 : Int32))) (fun b20 => gd (okz b20) (some ((b20, I))))
set_option maxRecDepth 100000 in
set_option maxHeartbeats 4000000 in
theorem m_L_isReadAgain_j60_ok {Z : Zx} {K : (Int32 × Mem2) → Prop} (C : Cx Z cL_isReadAgain 8 RL) (hR : RM Z 7 169) (hn : Gn (zG Z) = 1) (p3 : Int32) (y0 : Int32) (I : Mem2) (hK : ∀ y, K (y) → RetI Z cL_isReadAgain .boolean y.1 (mg2 y.2)) : WF Z K (m_L_isReadAgain_j60 p3 y0 I) (mg2 I) 60 [some (rf (zG Z) 0), some (rf (zG Z) 196), some (.int p3), none, none, none, none, none] [.int y0] := by
  unfold m_L_isReadAgain_j60
  refine w_istore_n C dL_isReadAgain_60 (Nat.le_of_ble_eq_true rfl) (L' := [some (rf (zG Z) 0), some (rf (zG Z) 196), some (.int p3), some (.int y0), none, none, none, none]) rfl (q := 61) rfl ?_
  refine w_iconst (v := (0)) C dL_isReadAgain_61 (by decide) (q := 62) rfl ?_
  refine w_istore C dL_isReadAgain_62 (Nat.le_of_ble_eq_true rfl) (L' := [some (rf (zG Z) 0), some (rf (zG Z) 196), some (.int p3), some (.int y0), some (.int 0), none, none, none]) rfl (q := 64) rfl ?_
  refine WF.less (L' := [some (rf (zG Z) 0), some (rf (zG Z) 196), some (.int p3), some (.int y0), some (.int 0), none, none, none]) (w_loopF (pc := 64) (a := (y0, (0 : Int32))) (mem := fun (a : Int32 × Int32) => mg2 I) (lo := fun (a : Int32 × Int32) => [some (rf (zG Z) 0), some (rf (zG Z) 196), some (.int p3), some (.int a.1), some (.int a.2), none, none, none]) (E := fun (b20 : Int32) => WM Z (mg2 I) 241 [none, none, none, some (.int b20), none, none, none, none] []) (fun a => m_L_isReadAgain_b64_ok C hR hn p3 a.1 a.2  I (fun _ h => h) (fun _ h => h)) ?_) ⟨rfl, rfl, rfl, rfl, rfl, trivial⟩
  intro b20
  refine w_hx ?_
  refine w_iload_n (v := b20) C dL_isReadAgain_241 rfl (q := 242) rfl ?_
  refine w_gd (fun h21 => ?_)
  exact w_iret C (hK _) (okz_n h21).1 dL_isReadAgain_242
def m_L_isReadAgain_j59 (p3 : Int32) (I : Mem2) : Option (Int32 × Mem2) :=
  m_L_isReadAgain_j60 p3 ((0 : Int32)) I
set_option maxRecDepth 100000 in
set_option maxHeartbeats 4000000 in
theorem m_L_isReadAgain_j59_ok {Z : Zx} {K : (Int32 × Mem2) → Prop} (C : Cx Z cL_isReadAgain 8 RL) (hR : RM Z 7 169) (hn : Gn (zG Z) = 1) (p3 : Int32) (I : Mem2) (hK : ∀ y, K (y) → RetI Z cL_isReadAgain .boolean y.1 (mg2 y.2)) : WF Z K (m_L_isReadAgain_j59 p3 I) (mg2 I) 59 [some (rf (zG Z) 0), some (rf (zG Z) 196), some (.int p3), none, none, none, none, none] [] := by
  unfold m_L_isReadAgain_j59
  refine w_iconst (v := (0)) C dL_isReadAgain_59 (by decide) (q := 60) rfl ?_
  exact WF.less (L' := [some (rf (zG Z) 0), some (rf (zG Z) 196), some (.int p3), none, none, none, none, none]) (m_L_isReadAgain_j60_ok C hR hn p3 ((0 : Int32))  I hK) ⟨rfl, rfl, rfl, trivial⟩
def m_L_isReadAgain (p3 : Int32) (I : Mem2) : Option (Int32 × Mem2) :=
  Option.bind (loopF (fun a => m_L_isReadAgain_b2 p3 a.1 a.2) FU ((0 : Int32), I)) (fun b4 => Option.bind (m_X11_length 0 b4.2) fun r5 => Option.bind (m_X11_written 0 b4.1) fun r6 => if r5 = r6 then (Option.bind (m_X11_read 0 b4.2) fun r22 => if r22.1 = 0 then (Option.bind (m_X11_segments 0 r22.2) fun r23 => Option.bind (m_X11_segments 0 b4.1) fun r24 => if r23 = r24 then (m_L_isReadAgain_j60 p3 ((1 : Int32)) (b4.1, r22.2)) else (m_L_isReadAgain_j59 p3 (b4.1, r22.2))) else (m_L_isReadAgain_j59 p3 (b4.1, r22.2))) else (m_L_isReadAgain_j59 p3 b4))
set_option maxRecDepth 100000 in
set_option maxHeartbeats 4000000 in
theorem m_L_isReadAgain_ok {Z : Zx} {K : (Int32 × Mem2) → Prop} (C : Cx Z cL_isReadAgain 8 RL) (hR : RM Z 7 169) (hn : Gn (zG Z) = 1) (p3 : Int32) (I : Mem2) (hK : ∀ y, K (y) → RetI Z cL_isReadAgain .boolean y.1 (mg2 y.2)) : WF Z K (m_L_isReadAgain p3 I) (mg2 I) 0 [some (rf (zG Z) 0), some (rf (zG Z) 196), some (.int p3), none, none, none, none, none] [] := by
  unfold m_L_isReadAgain
  refine w_iconst (v := (0)) C dL_isReadAgain_0 (by decide) (q := 1) rfl ?_
  refine w_istore_n C dL_isReadAgain_1 (Nat.le_of_ble_eq_true rfl) (L' := [some (rf (zG Z) 0), some (rf (zG Z) 196), some (.int p3), some (.int 0), none, none, none, none]) rfl (q := 2) rfl ?_
  refine WF.less (L' := [some (rf (zG Z) 0), some (rf (zG Z) 196), some (.int p3), some (.int 0), none, none, none, none]) (w_loopF (pc := 2) (a := ((0 : Int32), I)) (mem := fun (a : Int32 × Mem2) => mg2 a.2) (lo := fun (a : Int32 × Mem2) => [some (rf (zG Z) 0), some (rf (zG Z) 196), some (.int p3), some (.int a.1), none, none, none, none]) (E := fun (b4 : Mem2) => WM Z (mg2 b4) 26 [some (rf (zG Z) 0), some (rf (zG Z) 196), some (.int p3), none, none, none, none, none] []) (fun a => m_L_isReadAgain_b2_ok C hR hn p3 a.1  a.2 (fun _ h => h) (fun _ h => h)) ?_) ⟨rfl, rfl, rfl, rfl, trivial⟩
  intro b4
  refine w_hx ?_
  refine w_aload_n (v := 196) C dL_isReadAgain_26 rfl (q := 27) rfl ?_
  refine w_callVP (val := fun r5 => some (.int r5)) (mem := fun r5 => b4.2) (st1 := fun r5 => [.int r5]) (As := []) (st := []) (q := 30) C hR hn (fun x h => c_X11_length (zl Z) (shG (zG Z))  ho_0  b4.2 h) ho_0 mv_X11_length lk_L_80 rfl (by decide) (fun _ => rfl) (Nat.le_of_ble_eq_true rfl) rfl rfl dL_isReadAgain_27 rfl (fun r5 => ?_)
  refine w_aload_n (v := 0) C dL_isReadAgain_30 rfl (q := 31) rfl ?_
  refine w_callVO (val := fun r6 => some (.int r6)) (mem := fun r6 => b4.1) (st1 := fun r6 => [.int r6, .int r5]) (As := []) (st := [.int r5]) (q := 34) C hR hn (fun x h => c_X11_written (zl Z) (loG (zG Z))  ho_0  b4.1 h) ho_0 mv_X11_written lk_L_76 rfl (by decide) (fun _ => rfl) (Nat.le_of_ble_eq_true rfl) rfl rfl dL_isReadAgain_31 rfl (fun r6 => ?_)
  refine w_icmp_ne (tgt := 59) (q := 37) C dL_isReadAgain_34 (by decide) rfl (fun _ => ?_) (fun _ => ?_)
  · refine w_aload_n (v := 196) C dL_isReadAgain_37 rfl (q := 38) rfl ?_
    refine w_callVP (val := fun r22 => some (.int r22.1)) (mem := fun r22 => r22.2) (st1 := fun r22 => [.int r22.1]) (As := []) (st := []) (q := 41) C hR hn (fun x h => c_X11_read (zl Z) (shG (zG Z))  ho_0  b4.2 h) ho_0 mv_X11_read lk_L_83 rfl (by decide) (fun _ => rfl) (Nat.le_of_ble_eq_true rfl) rfl rfl dL_isReadAgain_38 rfl (fun r22 => ?_)
    refine w_if_ne (tgt := 59) (q := 44) C dL_isReadAgain_41 (by decide) rfl (fun _ => ?_) (fun _ => ?_)
    · refine w_aload_n (v := 196) C dL_isReadAgain_44 rfl (q := 45) rfl ?_
      refine w_callVP (val := fun r23 => some (.int r23)) (mem := fun r23 => r22.2) (st1 := fun r23 => [.int r23]) (As := []) (st := []) (q := 48) C hR hn (fun x h => c_X11_segments (zl Z) (shG (zG Z))  ho_0  r22.2 h) ho_0 mv_X11_segments lk_L_53 rfl (by decide) (fun _ => rfl) (Nat.le_of_ble_eq_true rfl) rfl rfl dL_isReadAgain_45 rfl (fun r23 => ?_)
      refine w_aload_n (v := 0) C dL_isReadAgain_48 rfl (q := 49) rfl ?_
      refine w_callVO (val := fun r24 => some (.int r24)) (mem := fun r24 => b4.1) (st1 := fun r24 => [.int r24, .int r23]) (As := []) (st := [.int r23]) (q := 52) C hR hn (fun x h => c_X11_segments (zl Z) (loG (zG Z))  ho_0  b4.1 h) ho_0 mv_X11_segments lk_L_53 rfl (by decide) (fun _ => rfl) (Nat.le_of_ble_eq_true rfl) rfl rfl dL_isReadAgain_49 rfl (fun r24 => ?_)
      refine w_icmp_ne (tgt := 59) (q := 55) C dL_isReadAgain_52 (by decide) rfl (fun _ => ?_) (fun _ => ?_)
      · refine w_iconst (v := (1)) C dL_isReadAgain_55 (by decide) (q := 56) rfl ?_
        refine w_goto (tgt := 60) C dL_isReadAgain_56 (by decide) ?_
        exact WF.less (L' := [some (rf (zG Z) 0), some (rf (zG Z) 196), some (.int p3), none, none, none, none, none]) (m_L_isReadAgain_j60_ok C hR hn p3 ((1 : Int32))  (b4.1, r22.2) hK) ⟨rfl, rfl, rfl, trivial⟩
      · exact WF.less (L' := [some (rf (zG Z) 0), some (rf (zG Z) 196), some (.int p3), none, none, none, none, none]) (m_L_isReadAgain_j59_ok C hR hn p3  (b4.1, r22.2) hK) ⟨rfl, rfl, rfl, trivial⟩
    · exact WF.less (L' := [some (rf (zG Z) 0), some (rf (zG Z) 196), some (.int p3), none, none, none, none, none]) (m_L_isReadAgain_j59_ok C hR hn p3  (b4.1, r22.2) hK) ⟨rfl, rfl, rfl, trivial⟩
  · exact WF.less (L' := [some (rf (zG Z) 0), some (rf (zG Z) 196), some (.int p3), none, none, none, none, none]) (m_L_isReadAgain_j59_ok C hR hn p3  b4 hK) ⟨rfl, rfl, rfl, trivial⟩
theorem c_L_isReadAgain (l : Launch) (G : Gx) (hn : Gn G = 1) (p3 : Int32)  (I : Mem2) {x : Int32 × Mem2} (h : m_L_isReadAgain p3 I = some x) : Ct l G yL_isReadAgain cL_isReadAgain 8 (some (.boolean)) 7 169 [rf G 0, rf G 196, .int p3] (mg2 I) (some (.int x.1)) (mg2 x.2) := Ct.of (by decide +kernel) rfl (Nat.le_of_ble_eq_true rfl) ret_i (fun Z hG hl C hR hret => by
  subst hG
  exact m_L_isReadAgain_ok (K := fun y => y = x) C hR hn p3  I (fun y hy => by subst hy; exact hret) x h rfl)
