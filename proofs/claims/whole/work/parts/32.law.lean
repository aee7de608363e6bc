theorem mw_addItem : MWp yL_addItem cL_addItem 6 [(0, 12, 15, 13), (0, 12, 19, 15)] 5 := ⟨(LT.mem (List.mem_of_getElem? (i := 395) (by decide +kernel)) (by decide +kernel)), (LT.mem (List.mem_of_getElem? (i := 47) (by decide +kernel)) (by decide +kernel)), (LT.mem (List.mem_of_getElem? (i := 396) (by decide +kernel)) (by decide +kernel)), by decide +kernel⟩
theorem mw_openLoop : MWp yL_openLoop cL_openLoop 4 [(0, 6, 9, 13), (0, 6, 12, 15)] 3 := ⟨(LT.mem (List.mem_of_getElem? (i := 525) (by decide +kernel)) (by decide +kernel)), (LT.mem (List.mem_of_getElem? (i := 47) (by decide +kernel)) (by decide +kernel)), (LT.mem (List.mem_of_getElem? (i := 526) (by decide +kernel)) (by decide +kernel)), by decide +kernel⟩
theorem mw_closeLoop : MWp yL_closeLoop cL_closeLoop 3 [(0, 8, 11, 15)] 2 := ⟨(LT.mem (List.mem_of_getElem? (i := 542) (by decide +kernel)) (by decide +kernel)), (LT.mem (List.mem_of_getElem? (i := 47) (by decide +kernel)) (by decide +kernel)), (LT.mem (List.mem_of_getElem? (i := 543) (by decide +kernel)) (by decide +kernel)), by decide +kernel⟩
theorem mw_feed : MWp yL_feed cL_feed 4 [(0, 9, 12, 13), (0, 9, 15, 15)] 3 := ⟨(LT.mem (List.mem_of_getElem? (i := 559) (by decide +kernel)) (by decide +kernel)), (LT.mem (List.mem_of_getElem? (i := 47) (by decide +kernel)) (by decide +kernel)), (LT.mem (List.mem_of_getElem? (i := 560) (by decide +kernel)) (by decide +kernel)), by decide +kernel⟩
theorem mw_read : MWp yL_read cL_read 3 [(0, 8, 11, 15)] 2 := ⟨(LT.mem (List.mem_of_getElem? (i := 575) (by decide +kernel)) (by decide +kernel)), (LT.mem (List.mem_of_getElem? (i := 47) (by decide +kernel)) (by decide +kernel)), (LT.mem (List.mem_of_getElem? (i := 576) (by decide +kernel)) (by decide +kernel)), by decide +kernel⟩
theorem mw_faultKind : MWp yL_faultKind cL_faultKind 4 [(0, 9, 12, 36)] 3 := ⟨(LT.mem (List.mem_of_getElem? (i := 795) (by decide +kernel)) (by decide +kernel)), (LT.mem (List.mem_of_getElem? (i := 47) (by decide +kernel)) (by decide +kernel)), (LT.mem (List.mem_of_getElem? (i := 796) (by decide +kernel)) (by decide +kernel)), by decide +kernel⟩
theorem mw_faultPlace : MWp yL_faultPlace cL_faultPlace 4 [(0, 9, 12, 36)] 3 := ⟨(LT.mem (List.mem_of_getElem? (i := 827) (by decide +kernel)) (by decide +kernel)), (LT.mem (List.mem_of_getElem? (i := 47) (by decide +kernel)) (by decide +kernel)), (LT.mem (List.mem_of_getElem? (i := 828) (by decide +kernel)) (by decide +kernel)), by decide +kernel⟩
theorem mw_control : MWp yL_control cL_control 3 [(0, 8, 11, 44)] 2 := ⟨(LT.mem (List.mem_of_getElem? (i := 838) (by decide +kernel)) (by decide +kernel)), (LT.mem (List.mem_of_getElem? (i := 47) (by decide +kernel)) (by decide +kernel)), (LT.mem (List.mem_of_getElem? (i := 839) (by decide +kernel)) (by decide +kernel)), by decide +kernel⟩
theorem mw_segments : MWp yL_segments cL_segments 3 [(0, 8, 11, 15)] 2 := ⟨(LT.mem (List.mem_of_getElem? (i := 862) (by decide +kernel)) (by decide +kernel)), (LT.mem (List.mem_of_getElem? (i := 47) (by decide +kernel)) (by decide +kernel)), (LT.mem (List.mem_of_getElem? (i := 863) (by decide +kernel)) (by decide +kernel)), by decide +kernel⟩
theorem mw_tag : MWp yL_tag cL_tag 4 [(0, 9, 12, 15), (0, 9, 15, 36)] 3 := ⟨(LT.mem (List.mem_of_getElem? (i := 875) (by decide +kernel)) (by decide +kernel)), (LT.mem (List.mem_of_getElem? (i := 47) (by decide +kernel)) (by decide +kernel)), (LT.mem (List.mem_of_getElem? (i := 876) (by decide +kernel)) (by decide +kernel)), by decide +kernel⟩
theorem mw_elements : MWp yL_elements cL_elements 4 [(0, 9, 12, 15), (0, 9, 15, 36)] 3 := ⟨(LT.mem (List.mem_of_getElem? (i := 889) (by decide +kernel)) (by decide +kernel)), (LT.mem (List.mem_of_getElem? (i := 47) (by decide +kernel)) (by decide +kernel)), (LT.mem (List.mem_of_getElem? (i := 890) (by decide +kernel)) (by decide +kernel)), by decide +kernel⟩
theorem mw_contentLength : MWp yL_contentLength cL_contentLength 5 [(0, 10, 13, 15), (0, 10, 17, 36)] 4 := ⟨(LT.mem (List.mem_of_getElem? (i := 897) (by decide +kernel)) (by decide +kernel)), (LT.mem (List.mem_of_getElem? (i := 47) (by decide +kernel)) (by decide +kernel)), (LT.mem (List.mem_of_getElem? (i := 898) (by decide +kernel)) (by decide +kernel)), by decide +kernel⟩
theorem mw_content : MWp yL_content cL_content 6 [(0, 12, 15, 15), (0, 12, 19, 36)] 5 := ⟨(LT.mem (List.mem_of_getElem? (i := 910) (by decide +kernel)) (by decide +kernel)), (LT.mem (List.mem_of_getElem? (i := 47) (by decide +kernel)) (by decide +kernel)), (LT.mem (List.mem_of_getElem? (i := 911) (by decide +kernel)) (by decide +kernel)), by decide +kernel⟩
theorem mw_item : MWp yL_item cL_item 4 [(0, 9, 12, 15), (0, 9, 15, 36)] 3 := ⟨(LT.mem (List.mem_of_getElem? (i := 919) (by decide +kernel)) (by decide +kernel)), (LT.mem (List.mem_of_getElem? (i := 47) (by decide +kernel)) (by decide +kernel)), (LT.mem (List.mem_of_getElem? (i := 920) (by decide +kernel)) (by decide +kernel)), by decide +kernel⟩
theorem mw_pass : MWp yL_pass cL_pass 4 [(0, 9, 12, 15), (0, 9, 15, 36)] 3 := ⟨(LT.mem (List.mem_of_getElem? (i := 930) (by decide +kernel)) (by decide +kernel)), (LT.mem (List.mem_of_getElem? (i := 47) (by decide +kernel)) (by decide +kernel)), (LT.mem (List.mem_of_getElem? (i := 931) (by decide +kernel)) (by decide +kernel)), by decide +kernel⟩
theorem mw_addRule : MWp yL_addRule cL_addRule 5 [(0, 10, 13, 36), (0, 10, 17, 13), (0, 10, 21, 15)] 4 := ⟨(LT.mem (List.mem_of_getElem? (i := 941) (by decide +kernel)) (by decide +kernel)), (LT.mem (List.mem_of_getElem? (i := 47) (by decide +kernel)) (by decide +kernel)), (LT.mem (List.mem_of_getElem? (i := 942) (by decide +kernel)) (by decide +kernel)), by decide +kernel⟩
theorem mw_addField : MWp yL_addField cL_addField 5 [(0, 10, 13, 36), (0, 10, 17, 13), (0, 10, 21, 15)] 4 := ⟨(LT.mem (List.mem_of_getElem? (i := 963) (by decide +kernel)) (by decide +kernel)), (LT.mem (List.mem_of_getElem? (i := 47) (by decide +kernel)) (by decide +kernel)), (LT.mem (List.mem_of_getElem? (i := 964) (by decide +kernel)) (by decide +kernel)), by decide +kernel⟩
theorem mw_setCondition : MWp yL_setCondition cL_setCondition 5 [(0, 7, 10, 36), (0, 7, 14, 13)] 4 := ⟨(LT.mem (List.mem_of_getElem? (i := 989) (by decide +kernel)) (by decide +kernel)), (LT.mem (List.mem_of_getElem? (i := 47) (by decide +kernel)) (by decide +kernel)), (LT.mem (List.mem_of_getElem? (i := 990) (by decide +kernel)) (by decide +kernel)), by decide +kernel⟩
theorem mw_write : MWp yL_write cL_write 3 [(0, 8, 11, 15)] 2 := ⟨(LT.mem (List.mem_of_getElem? (i := 1001) (by decide +kernel)) (by decide +kernel)), (LT.mem (List.mem_of_getElem? (i := 47) (by decide +kernel)) (by decide +kernel)), (LT.mem (List.mem_of_getElem? (i := 1002) (by decide +kernel)) (by decide +kernel)), by decide +kernel⟩
theorem mw_letter : MWp yL_letter cL_letter 4 [(0, 9, 12, 36)] 3 := ⟨(LT.mem (List.mem_of_getElem? (i := 1057) (by decide +kernel)) (by decide +kernel)), (LT.mem (List.mem_of_getElem? (i := 47) (by decide +kernel)) (by decide +kernel)), (LT.mem (List.mem_of_getElem? (i := 1058) (by decide +kernel)) (by decide +kernel)), by decide +kernel⟩
theorem mw_feedWritten : MWp yL_feedWritten cL_feedWritten 3 [(0, 8, 11, 15)] 2 := ⟨(LT.mem (List.mem_of_getElem? (i := 1065) (by decide +kernel)) (by decide +kernel)), (LT.mem (List.mem_of_getElem? (i := 47) (by decide +kernel)) (by decide +kernel)), (LT.mem (List.mem_of_getElem? (i := 1066) (by decide +kernel)) (by decide +kernel)), by decide +kernel⟩
theorem ho_0 : isO 0 11 := ⟨by decide, by decide +kernel⟩
theorem ho_196 : isO 196 12 := ⟨by decide, by decide +kernel⟩
theorem ha_230 : isA 230 3 1 := ⟨by decide, by decide +kernel⟩
def m_L_case0 (n : Nat) (xs : Nat → Int32) (i : Int32) (I : Mem) : Option (Mem ⊕ Unit) :=
  gd (inb (i + 1) n) (gd (inb (i + 2) n) (gd (inb (i + 3) n) (Option.bind (m_L_addItem 0 (((xs (i + 1).toNatClampNeg).toUInt32 % 65536).toInt32) (xs (i + 2).toNatClampNeg) (xs (i + 3).toNatClampNeg) 230 I) fun r1 => gd (inb (i + 1) n) (gd (inb (i + 2) n) (gd (inb (i + 3) n) (Option.bind (m_X12_addItem 196 (((xs (i + 1).toNatClampNeg).toUInt32 % 65536).toInt32) (xs (i + 2).toNatClampNeg) (xs (i + 3).toNatClampNeg) r1.2) fun r2 => Option.bind (m_X12_thrown 196 r2.2) fun r3 => if r3 = r1.1 then (if r1.1 = 0 then (gd (inb 0 1) (if lg_cmp (r2.2 230 (0 : Int32).toNatClampNeg).toInt64 r2.1.toInt64 = 0 then (some (.inl r2.2)) else (some (.inr ())))) else (some (.inl r2.2))) else (some (.inr ()))))))))
set_option maxRecDepth 100000 in
set_option maxHeartbeats 4000000 in
theorem m_L_case0_ok {Z : Zx} {K : Mem ⊕ Unit → Prop} (C : Cx Z code 7 RL) (hR : RM Z 13 472) (hst : (zl Z).stackTraces = false) (hNC : NCs (zs Z)) {b n : Nat} {xs : Nat → Int32} (X : LX Z b n xs) (i : Int32) (I : Mem) (hc : Z.2.2.1 + 4 ≤ (zR Z).cells) (hs : Z.2.2.2.1 + 24 ≤ (zR Z).slots) (hB : ∀ I', K (.inl I') → WM (Zb Z (Z.2.2.1 + 4) (Z.2.2.2.1 + 24)) I' 1411 [some (.ref b), some (rf (zG Z) 0), some (rf (zG Z) 196), some (rf (zG Z) 230), some (.int i), none, none] []) (hE : ¬ K (.inr ())) : WF Z K (m_L_case0 n xs i I) I 156 [some (.ref b), some (rf (zG Z) 0), some (rf (zG Z) 196), some (rf (zG Z) 230), some (.int i), none, none] [] := by
  unfold m_L_case0
  refine w_aload_n (v := 0) C dL_law_156 rfl (q := 157) rfl ?_
  refine w_aloadB (b := b) C dL_law_157 rfl (q := 158) rfl ?_
  refine w_iload (v := i) C dL_law_158 rfl (q := 160) rfl ?_
  refine w_iconst (v := (1)) C dL_law_160 (by decide) (q := 161) rfl ?_
  refine w_iadd C dL_law_161 (q := 162) rfl ?_
  refine w_sld C X dL_law_162 (q := 163) rfl (fun _ => ?_)
  refine w_i2c C dL_law_163 (q := 164) rfl ?_
  refine w_aloadB (b := b) C dL_law_164 rfl (q := 165) rfl ?_
  refine w_iload (v := i) C dL_law_165 rfl (q := 167) rfl ?_
  refine w_iconst (v := (2)) C dL_law_167 (by decide) (q := 168) rfl ?_
  refine w_iadd C dL_law_168 (q := 169) rfl ?_
  refine w_sld C X dL_law_169 (q := 170) rfl (fun _ => ?_)
  refine w_aloadB (b := b) C dL_law_170 rfl (q := 171) rfl ?_
  refine w_iload (v := i) C dL_law_171 rfl (q := 173) rfl ?_
  refine w_iconst (v := (3)) C dL_law_173 (by decide) (q := 174) rfl ?_
  refine w_iadd C dL_law_174 (q := 175) rfl ?_
  refine w_sld C X dL_law_175 (q := 176) rfl (fun _ => ?_)
  refine w_aload_n (v := 230) C dL_law_176 rfl (q := 177) rfl ?_
  refine w_callSW (As := [rf (zG Z) 0, .int (((xs (i + 1).toNatClampNeg).toUInt32 % 65536).toInt32), .int (xs (i + 2).toNatClampNeg), .int (xs (i + 3).toNatClampNeg), rf (zG Z) 230]) (st := []) (q := 180) C hR hNC (okA hc (by decide)) (okA hs (by decide)) (fun x h => c_L_addItem (zl Z) hst (zG Z) (((xs (i + 1).toNatClampNeg).toUInt32 % 65536).toInt32) (xs (i + 2).toNatClampNeg) (xs (i + 3).toNatClampNeg) ho_0 ha_230 I h) mw_addItem lk_L_94 rfl (by decide) (Nat.le_of_ble_eq_true rfl) rfl rfl dL_law_177 rfl (fun r1 => ?_)
  have C1 := C.bump (c := Z.2.2.1 + 1) (n := Z.2.2.2.1 + 6) (okA hc (by decide)) (okA hs (by decide))
  refine w_istore C1 dL_law_180 (Nat.le_of_ble_eq_true rfl) (L' := [some (.ref b), some (rf (zG Z) 0), some (rf (zG Z) 196), some (rf (zG Z) 230), some (.int i), some (.int r1.1), none]) rfl (q := 182) rfl ?_
  refine w_aload_n (v := 196) C1 dL_law_182 rfl (q := 183) rfl ?_
  refine w_aloadB (b := b) C1 dL_law_183 rfl (q := 184) rfl ?_
  refine w_iload (v := i) C1 dL_law_184 rfl (q := 186) rfl ?_
  refine w_iconst (v := (1)) C1 dL_law_186 (by decide) (q := 187) rfl ?_
  refine w_iadd C1 dL_law_187 (q := 188) rfl ?_
  refine w_sld C1 X dL_law_188 (q := 189) rfl (fun _ => ?_)
  refine w_i2c C1 dL_law_189 (q := 190) rfl ?_
  refine w_aloadB (b := b) C1 dL_law_190 rfl (q := 191) rfl ?_
  refine w_iload (v := i) C1 dL_law_191 rfl (q := 193) rfl ?_
  refine w_iconst (v := (2)) C1 dL_law_193 (by decide) (q := 194) rfl ?_
  refine w_iadd C1 dL_law_194 (q := 195) rfl ?_
  refine w_sld C1 X dL_law_195 (q := 196) rfl (fun _ => ?_)
  refine w_aloadB (b := b) C1 dL_law_196 rfl (q := 197) rfl ?_
  refine w_iload (v := i) C1 dL_law_197 rfl (q := 199) rfl ?_
  refine w_iconst (v := (3)) C1 dL_law_199 (by decide) (q := 200) rfl ?_
  refine w_iadd C1 dL_law_200 (q := 201) rfl ?_
  refine w_sld C1 X dL_law_201 (q := 202) rfl (fun _ => ?_)
  refine w_callV (val := fun r2 => some (.int r2.1)) (mem := fun r2 => r2.2) (st1 := fun r2 => [.int r2.1]) (As := [.int (((xs (i + 1).toNatClampNeg).toUInt32 % 65536).toInt32), .int (xs (i + 2).toNatClampNeg), .int (xs (i + 3).toNatClampNeg)]) (st := []) (q := 205) C1 hR (fun x h => c_X12_addItem (zl Z) (zG Z) (((xs (i + 1).toNatClampNeg).toUInt32 % 65536).toInt32) (xs (i + 2).toNatClampNeg) (xs (i + 3).toNatClampNeg) ho_196 r1.2 h) ho_196 mv_X12_addItem lk_L_99 rfl (by decide) (fun _ => rfl) (Nat.le_of_ble_eq_true rfl) rfl rfl dL_law_202 rfl (fun r2 => ?_)
  refine w_istore C1 dL_law_205 (Nat.le_of_ble_eq_true rfl) (L' := [some (.ref b), some (rf (zG Z) 0), some (rf (zG Z) 196), some (rf (zG Z) 230), some (.int i), some (.int r1.1), some (.int r2.1)]) rfl (q := 207) rfl ?_
  refine w_aload_n (v := 196) C1 dL_law_207 rfl (q := 208) rfl ?_
  refine w_callV (val := fun r3 => some (.int r3)) (mem := fun r3 => r2.2) (st1 := fun r3 => [.int r3]) (As := []) (st := []) (q := 211) C1 hR (fun x h => c_X12_thrown (zl Z) (zG Z)  ho_196 r2.2 h) ho_196 mv_X12_thrown lk_L_100 rfl (by decide) (fun _ => rfl) (Nat.le_of_ble_eq_true rfl) rfl rfl dL_law_208 rfl (fun r3 => ?_)
  refine w_iload (v := r1.1) C1 dL_law_211 rfl (q := 213) rfl ?_
  refine w_icmp_eq (tgt := 218) (q := 216) C1 dL_law_213 (by decide) rfl (fun _ => ?_) (fun _ => ?_)
  · refine w_iload (v := r1.1) C1 dL_law_218 rfl (q := 220) rfl ?_
    refine w_if_ne (tgt := 235) (q := 223) C1 dL_law_220 (by decide) rfl (fun _ => ?_) (fun _ => ?_)
    · refine w_aload_n (v := 230) C1 dL_law_223 rfl (q := 224) rfl ?_
      refine w_iconst (v := (0)) C1 dL_law_224 (by decide) (q := 225) rfl ?_
      refine w_lald C1 ha_230 dL_law_225 (q := 226) rfl (fun _ => ?_)
      refine w_iload (v := r2.1) C1 dL_law_226 rfl (q := 228) rfl ?_
      refine w_i2l C1 dL_law_228 (q := 229) rfl ?_
      refine w_lcmp C1 dL_law_229 (q := 230) rfl ?_
      refine w_if_eq (tgt := 235) (q := 233) C1 dL_law_230 (by decide) rfl (fun _ => ?_) (fun _ => ?_)
      · refine w_goto (tgt := 1411) C1 dL_law_235 (by decide) ?_
        exact w_jmp (fun h => WM.widen (c := Z.2.2.1 + 4) (n := Z.2.2.2.1 + 24) (Nat.add_le_add_left (by decide) _) (Nat.add_le_add_left (by decide) _) (WM.less (L' := [some (.ref b), some (rf (zG Z) 0), some (rf (zG Z) 196), some (rf (zG Z) 230), some (.int i), none, none]) (hB _ h) ⟨rfl, rfl, rfl, rfl, rfl, trivial⟩))
      · exact w_bad hE
    · refine w_goto (tgt := 1411) C1 dL_law_235 (by decide) ?_
      exact w_jmp (fun h => WM.widen (c := Z.2.2.1 + 4) (n := Z.2.2.2.1 + 24) (Nat.add_le_add_left (by decide) _) (Nat.add_le_add_left (by decide) _) (WM.less (L' := [some (.ref b), some (rf (zG Z) 0), some (rf (zG Z) 196), some (rf (zG Z) 230), some (.int i), none, none]) (hB _ h) ⟨rfl, rfl, rfl, rfl, rfl, trivial⟩))
  · exact w_bad hE
def m_L_case1 (n : Nat) (xs : Nat → Int32) (i : Int32) (I : Mem) : Option (Mem ⊕ Unit) :=
  gd (inb (i + 1) n) (gd (inb (i + 2) n) (Option.bind (m_L_openLoop 0 (xs (i + 1).toNatClampNeg) (xs (i + 2).toNatClampNeg) I) fun r1 => gd (inb (i + 1) n) (gd (inb (i + 2) n) (Option.bind (m_X12_openLoop 196 (xs (i + 1).toNatClampNeg) (xs (i + 2).toNatClampNeg) r1.2) fun I2 => Option.bind (m_X12_thrown 196 I2) fun r3 => if r3 = r1.1 then (some (.inl I2)) else (some (.inr ()))))))
set_option maxRecDepth 100000 in
set_option maxHeartbeats 4000000 in
theorem m_L_case1_ok {Z : Zx} {K : Mem ⊕ Unit → Prop} (C : Cx Z code 7 RL) (hR : RM Z 13 472) (hst : (zl Z).stackTraces = false) (hNC : NCs (zs Z)) {b n : Nat} {xs : Nat → Int32} (X : LX Z b n xs) (i : Int32) (I : Mem) (hc : Z.2.2.1 + 4 ≤ (zR Z).cells) (hs : Z.2.2.2.1 + 24 ≤ (zR Z).slots) (hB : ∀ I', K (.inl I') → WM (Zb Z (Z.2.2.1 + 4) (Z.2.2.2.1 + 24)) I' 1411 [some (.ref b), some (rf (zG Z) 0), some (rf (zG Z) 196), some (rf (zG Z) 230), some (.int i), none, none] []) (hE : ¬ K (.inr ())) : WF Z K (m_L_case1 n xs i I) I 238 [some (.ref b), some (rf (zG Z) 0), some (rf (zG Z) 196), some (rf (zG Z) 230), some (.int i), none, none] [] := by
  unfold m_L_case1
  refine w_aload_n (v := 0) C dL_law_238 rfl (q := 239) rfl ?_
  refine w_aloadB (b := b) C dL_law_239 rfl (q := 240) rfl ?_
  refine w_iload (v := i) C dL_law_240 rfl (q := 242) rfl ?_
  refine w_iconst (v := (1)) C dL_law_242 (by decide) (q := 243) rfl ?_
  refine w_iadd C dL_law_243 (q := 244) rfl ?_
  refine w_sld C X dL_law_244 (q := 245) rfl (fun _ => ?_)
  refine w_aloadB (b := b) C dL_law_245 rfl (q := 246) rfl ?_
  refine w_iload (v := i) C dL_law_246 rfl (q := 248) rfl ?_
  refine w_iconst (v := (2)) C dL_law_248 (by decide) (q := 249) rfl ?_
  refine w_iadd C dL_law_249 (q := 250) rfl ?_
  refine w_sld C X dL_law_250 (q := 251) rfl (fun _ => ?_)
  refine w_callSW (As := [rf (zG Z) 0, .int (xs (i + 1).toNatClampNeg), .int (xs (i + 2).toNatClampNeg)]) (st := []) (q := 254) C hR hNC (okA hc (by decide)) (okA hs (by decide)) (fun x h => c_L_openLoop (zl Z) hst (zG Z) (xs (i + 1).toNatClampNeg) (xs (i + 2).toNatClampNeg) ho_0 I h) mw_openLoop lk_L_103 rfl (by decide) (Nat.le_of_ble_eq_true rfl) rfl rfl dL_law_251 rfl (fun r1 => ?_)
  have C1 := C.bump (c := Z.2.2.1 + 1) (n := Z.2.2.2.1 + 6) (okA hc (by decide)) (okA hs (by decide))
  refine w_istore C1 dL_law_254 (Nat.le_of_ble_eq_true rfl) (L' := [some (.ref b), some (rf (zG Z) 0), some (rf (zG Z) 196), some (rf (zG Z) 230), some (.int i), some (.int r1.1), none]) rfl (q := 256) rfl ?_
  refine w_aload_n (v := 196) C1 dL_law_256 rfl (q := 257) rfl ?_
  refine w_aloadB (b := b) C1 dL_law_257 rfl (q := 258) rfl ?_
  refine w_iload (v := i) C1 dL_law_258 rfl (q := 260) rfl ?_
  refine w_iconst (v := (1)) C1 dL_law_260 (by decide) (q := 261) rfl ?_
  refine w_iadd C1 dL_law_261 (q := 262) rfl ?_
  refine w_sld C1 X dL_law_262 (q := 263) rfl (fun _ => ?_)
  refine w_aloadB (b := b) C1 dL_law_263 rfl (q := 264) rfl ?_
  refine w_iload (v := i) C1 dL_law_264 rfl (q := 266) rfl ?_
  refine w_iconst (v := (2)) C1 dL_law_266 (by decide) (q := 267) rfl ?_
  refine w_iadd C1 dL_law_267 (q := 268) rfl ?_
  refine w_sld C1 X dL_law_268 (q := 269) rfl (fun _ => ?_)
  refine w_callV (val := fun I2 => none) (mem := fun I2 => I2) (st1 := fun I2 => []) (As := [.int (xs (i + 1).toNatClampNeg), .int (xs (i + 2).toNatClampNeg)]) (st := []) (q := 272) C1 hR (fun x h => c_X12_openLoop (zl Z) (zG Z) (xs (i + 1).toNatClampNeg) (xs (i + 2).toNatClampNeg) ho_196 r1.2 h) ho_196 mv_X12_openLoop lk_L_106 rfl (by decide) (fun _ => rfl) (Nat.le_of_ble_eq_true rfl) rfl rfl dL_law_269 rfl (fun I2 => ?_)
  refine w_aload_n (v := 196) C1 dL_law_272 rfl (q := 273) rfl ?_
  refine w_callV (val := fun r3 => some (.int r3)) (mem := fun r3 => I2) (st1 := fun r3 => [.int r3]) (As := []) (st := []) (q := 276) C1 hR (fun x h => c_X12_thrown (zl Z) (zG Z)  ho_196 I2 h) ho_196 mv_X12_thrown lk_L_100 rfl (by decide) (fun _ => rfl) (Nat.le_of_ble_eq_true rfl) rfl rfl dL_law_273 rfl (fun r3 => ?_)
  refine w_iload (v := r1.1) C1 dL_law_276 rfl (q := 278) rfl ?_
  refine w_icmp_eq (tgt := 283) (q := 281) C1 dL_law_278 (by decide) rfl (fun _ => ?_) (fun _ => ?_)
  · refine w_goto (tgt := 1411) C1 dL_law_283 (by decide) ?_
    exact w_jmp (fun h => WM.widen (c := Z.2.2.1 + 4) (n := Z.2.2.2.1 + 24) (Nat.add_le_add_left (by decide) _) (Nat.add_le_add_left (by decide) _) (WM.less (L' := [some (.ref b), some (rf (zG Z) 0), some (rf (zG Z) 196), some (rf (zG Z) 230), some (.int i), none, none]) (hB _ h) ⟨rfl, rfl, rfl, rfl, rfl, trivial⟩))
  · exact w_bad hE
def m_L_case2 (n : Nat) (xs : Nat → Int32) (i : Int32) (I : Mem) : Option (Mem ⊕ Unit) :=
  Option.bind (m_L_closeLoop 0 230 I) fun r1 => Option.bind (m_X12_closeLoop 196 r1.2) fun r2 => Option.bind (m_X12_thrown 196 r2.2) fun r3 => if r3 = r1.1 then (if r1.1 = 0 then (gd (inb 0 1) (if lg_cmp (r2.2 230 (0 : Int32).toNatClampNeg).toInt64 r2.1.toInt64 = 0 then (some (.inl r2.2)) else (some (.inr ())))) else (some (.inl r2.2))) else (some (.inr ()))
set_option maxRecDepth 100000 in
set_option maxHeartbeats 4000000 in
theorem m_L_case2_ok {Z : Zx} {K : Mem ⊕ Unit → Prop} (C : Cx Z code 7 RL) (hR : RM Z 13 472) (hst : (zl Z).stackTraces = false) (hNC : NCs (zs Z)) {b n : Nat} {xs : Nat → Int32} (X : LX Z b n xs) (i : Int32) (I : Mem) (hc : Z.2.2.1 + 4 ≤ (zR Z).cells) (hs : Z.2.2.2.1 + 24 ≤ (zR Z).slots) (hB : ∀ I', K (.inl I') → WM (Zb Z (Z.2.2.1 + 4) (Z.2.2.2.1 + 24)) I' 1411 [some (.ref b), some (rf (zG Z) 0), some (rf (zG Z) 196), some (rf (zG Z) 230), some (.int i), none, none] []) (hE : ¬ K (.inr ())) : WF Z K (m_L_case2 n xs i I) I 286 [some (.ref b), some (rf (zG Z) 0), some (rf (zG Z) 196), some (rf (zG Z) 230), some (.int i), none, none] [] := by
  unfold m_L_case2
  refine w_aload_n (v := 0) C dL_law_286 rfl (q := 287) rfl ?_
  refine w_aload_n (v := 230) C dL_law_287 rfl (q := 288) rfl ?_
  refine w_callSW (As := [rf (zG Z) 0, rf (zG Z) 230]) (st := []) (q := 291) C hR hNC (okA hc (by decide)) (okA hs (by decide)) (fun x h => c_L_closeLoop (zl Z) hst (zG Z)  ho_0 ha_230 I h) mw_closeLoop lk_L_107 rfl (by decide) (Nat.le_of_ble_eq_true rfl) rfl rfl dL_law_288 rfl (fun r1 => ?_)
  have C1 := C.bump (c := Z.2.2.1 + 1) (n := Z.2.2.2.1 + 6) (okA hc (by decide)) (okA hs (by decide))
  refine w_istore C1 dL_law_291 (Nat.le_of_ble_eq_true rfl) (L' := [some (.ref b), some (rf (zG Z) 0), some (rf (zG Z) 196), some (rf (zG Z) 230), some (.int i), some (.int r1.1), none]) rfl (q := 293) rfl ?_
  refine w_aload_n (v := 196) C1 dL_law_293 rfl (q := 294) rfl ?_
  refine w_callV (val := fun r2 => some (.int r2.1)) (mem := fun r2 => r2.2) (st1 := fun r2 => [.int r2.1]) (As := []) (st := []) (q := 297) C1 hR (fun x h => c_X12_closeLoop (zl Z) (zG Z)  ho_196 r1.2 h) ho_196 mv_X12_closeLoop lk_L_110 rfl (by decide) (fun _ => rfl) (Nat.le_of_ble_eq_true rfl) rfl rfl dL_law_294 rfl (fun r2 => ?_)
  refine w_istore C1 dL_law_297 (Nat.le_of_ble_eq_true rfl) (L' := [some (.ref b), some (rf (zG Z) 0), some (rf (zG Z) 196), some (rf (zG Z) 230), some (.int i), some (.int r1.1), some (.int r2.1)]) rfl (q := 299) rfl ?_
  refine w_aload_n (v := 196) C1 dL_law_299 rfl (q := 300) rfl ?_
  refine w_callV (val := fun r3 => some (.int r3)) (mem := fun r3 => r2.2) (st1 := fun r3 => [.int r3]) (As := []) (st := []) (q := 303) C1 hR (fun x h => c_X12_thrown (zl Z) (zG Z)  ho_196 r2.2 h) ho_196 mv_X12_thrown lk_L_100 rfl (by decide) (fun _ => rfl) (Nat.le_of_ble_eq_true rfl) rfl rfl dL_law_300 rfl (fun r3 => ?_)
  refine w_iload (v := r1.1) C1 dL_law_303 rfl (q := 305) rfl ?_
  refine w_icmp_eq (tgt := 310) (q := 308) C1 dL_law_305 (by decide) rfl (fun _ => ?_) (fun _ => ?_)
  · refine w_iload (v := r1.1) C1 dL_law_310 rfl (q := 312) rfl ?_
    refine w_if_ne (tgt := 327) (q := 315) C1 dL_law_312 (by decide) rfl (fun _ => ?_) (fun _ => ?_)
    · refine w_aload_n (v := 230) C1 dL_law_315 rfl (q := 316) rfl ?_
      refine w_iconst (v := (0)) C1 dL_law_316 (by decide) (q := 317) rfl ?_
      refine w_lald C1 ha_230 dL_law_317 (q := 318) rfl (fun _ => ?_)
      refine w_iload (v := r2.1) C1 dL_law_318 rfl (q := 320) rfl ?_
      refine w_i2l C1 dL_law_320 (q := 321) rfl ?_
      refine w_lcmp C1 dL_law_321 (q := 322) rfl ?_
      refine w_if_eq (tgt := 327) (q := 325) C1 dL_law_322 (by decide) rfl (fun _ => ?_) (fun _ => ?_)
      · refine w_goto (tgt := 1411) C1 dL_law_327 (by decide) ?_
        exact w_jmp (fun h => WM.widen (c := Z.2.2.1 + 4) (n := Z.2.2.2.1 + 24) (Nat.add_le_add_left (by decide) _) (Nat.add_le_add_left (by decide) _) (WM.less (L' := [some (.ref b), some (rf (zG Z) 0), some (rf (zG Z) 196), some (rf (zG Z) 230), some (.int i), none, none]) (hB _ h) ⟨rfl, rfl, rfl, rfl, rfl, trivial⟩))
      · exact w_bad hE
    · refine w_goto (tgt := 1411) C1 dL_law_327 (by decide) ?_
      exact w_jmp (fun h => WM.widen (c := Z.2.2.1 + 4) (n := Z.2.2.2.1 + 24) (Nat.add_le_add_left (by decide) _) (Nat.add_le_add_left (by decide) _) (WM.less (L' := [some (.ref b), some (rf (zG Z) 0), some (rf (zG Z) 196), some (rf (zG Z) 230), some (.int i), none, none]) (hB _ h) ⟨rfl, rfl, rfl, rfl, rfl, trivial⟩))
  · exact w_bad hE
def m_L_case3 (n : Nat) (xs : Nat → Int32) (i : Int32) (I : Mem) : Option (Mem ⊕ Unit) :=
  Option.bind (m_X11_clear 0 I) fun I1 => Option.bind (m_X12_clear 196 I1) fun I2 => some (.inl I2)
set_option maxRecDepth 100000 in
set_option maxHeartbeats 4000000 in
theorem m_L_case3_ok {Z : Zx} {K : Mem ⊕ Unit → Prop} (C : Cx Z code 7 RL) (hR : RM Z 13 472) (hst : (zl Z).stackTraces = false) (hNC : NCs (zs Z)) {b n : Nat} {xs : Nat → Int32} (X : LX Z b n xs) (i : Int32) (I : Mem) (hc : Z.2.2.1 + 4 ≤ (zR Z).cells) (hs : Z.2.2.2.1 + 24 ≤ (zR Z).slots) (hB : ∀ I', K (.inl I') → WM (Zb Z (Z.2.2.1 + 4) (Z.2.2.2.1 + 24)) I' 1411 [some (.ref b), some (rf (zG Z) 0), some (rf (zG Z) 196), some (rf (zG Z) 230), some (.int i), none, none] []) (hE : ¬ K (.inr ())) : WF Z K (m_L_case3 n xs i I) I 330 [some (.ref b), some (rf (zG Z) 0), some (rf (zG Z) 196), some (rf (zG Z) 230), some (.int i), none, none] [] := by
  unfold m_L_case3
  refine w_aload_n (v := 0) C dL_law_330 rfl (q := 331) rfl ?_
  refine w_callV (val := fun I1 => none) (mem := fun I1 => I1) (st1 := fun I1 => []) (As := []) (st := []) (q := 334) C hR (fun x h => c_X11_clear (zl Z) (zG Z)  ho_0 I h) ho_0 mv_X11_clear lk_L_111 rfl (by decide) (fun _ => rfl) (Nat.le_of_ble_eq_true rfl) rfl rfl dL_law_331 rfl (fun I1 => ?_)
  refine w_aload_n (v := 196) C dL_law_334 rfl (q := 335) rfl ?_
  refine w_callV (val := fun I2 => none) (mem := fun I2 => I2) (st1 := fun I2 => []) (As := []) (st := []) (q := 338) C hR (fun x h => c_X12_clear (zl Z) (zG Z)  ho_196 I1 h) ho_196 mv_X12_clear lk_L_114 rfl (by decide) (fun _ => rfl) (Nat.le_of_ble_eq_true rfl) rfl rfl dL_law_335 rfl (fun I2 => ?_)
  refine w_goto (tgt := 1411) C dL_law_338 (by decide) ?_
  exact w_jmp (fun h => WM.widen (c := Z.2.2.1 + 4) (n := Z.2.2.2.1 + 24) (Nat.le_add_right _ _) (Nat.le_add_right _ _) (WM.less (L' := [some (.ref b), some (rf (zG Z) 0), some (rf (zG Z) 196), some (rf (zG Z) 230), some (.int i), none, none]) (hB _ h) ⟨rfl, rfl, rfl, rfl, rfl, trivial⟩))
def m_L_case4 (n : Nat) (xs : Nat → Int32) (i : Int32) (I : Mem) : Option (Mem ⊕ Unit) :=
  Option.bind (m_X11_items 0 I) fun r1 => Option.bind (m_X12_items 196 I) fun r2 => if r1 = r2.1 then (some (.inl r2.2)) else (some (.inr ()))
set_option maxRecDepth 100000 in
set_option maxHeartbeats 4000000 in
theorem m_L_case4_ok {Z : Zx} {K : Mem ⊕ Unit → Prop} (C : Cx Z code 7 RL) (hR : RM Z 13 472) (hst : (zl Z).stackTraces = false) (hNC : NCs (zs Z)) {b n : Nat} {xs : Nat → Int32} (X : LX Z b n xs) (i : Int32) (I : Mem) (hc : Z.2.2.1 + 4 ≤ (zR Z).cells) (hs : Z.2.2.2.1 + 24 ≤ (zR Z).slots) (hB : ∀ I', K (.inl I') → WM (Zb Z (Z.2.2.1 + 4) (Z.2.2.2.1 + 24)) I' 1411 [some (.ref b), some (rf (zG Z) 0), some (rf (zG Z) 196), some (rf (zG Z) 230), some (.int i), none, none] []) (hE : ¬ K (.inr ())) : WF Z K (m_L_case4 n xs i I) I 341 [some (.ref b), some (rf (zG Z) 0), some (rf (zG Z) 196), some (rf (zG Z) 230), some (.int i), none, none] [] := by
  unfold m_L_case4
  refine w_aload_n (v := 0) C dL_law_341 rfl (q := 342) rfl ?_
  refine w_callV (val := fun r1 => some (.int r1)) (mem := fun r1 => I) (st1 := fun r1 => [.int r1]) (As := []) (st := []) (q := 345) C hR (fun x h => c_X11_items (zl Z) (zG Z)  ho_0 I h) ho_0 mv_X11_items lk_L_115 rfl (by decide) (fun _ => rfl) (Nat.le_of_ble_eq_true rfl) rfl rfl dL_law_342 rfl (fun r1 => ?_)
  refine w_aload_n (v := 196) C dL_law_345 rfl (q := 346) rfl ?_
  refine w_callV (val := fun r2 => some (.int r2.1)) (mem := fun r2 => r2.2) (st1 := fun r2 => [.int r2.1, .int r1]) (As := []) (st := [.int r1]) (q := 349) C hR (fun x h => c_X12_items (zl Z) (zG Z)  ho_196 I h) ho_196 mv_X12_items lk_L_118 rfl (by decide) (fun _ => rfl) (Nat.le_of_ble_eq_true rfl) rfl rfl dL_law_346 rfl (fun r2 => ?_)
  refine w_icmp_eq (tgt := 1411) (q := 352) C dL_law_349 (by decide) rfl (fun _ => ?_) (fun _ => ?_)
  · exact w_jmp (fun h => WM.widen (c := Z.2.2.1 + 4) (n := Z.2.2.2.1 + 24) (Nat.le_add_right _ _) (Nat.le_add_right _ _) (WM.less (L' := [some (.ref b), some (rf (zG Z) 0), some (rf (zG Z) 196), some (rf (zG Z) 230), some (.int i), none, none]) (hB _ h) ⟨rfl, rfl, rfl, rfl, rfl, trivial⟩))
  · exact w_bad hE
def m_L_case5 (n : Nat) (xs : Nat → Int32) (i : Int32) (I : Mem) : Option (Mem ⊕ Unit) :=
  gd (inb (i + 1) n) (Option.bind (m_L_feed 0 (((xs (i + 1).toNatClampNeg).toUInt32 % 65536).toInt32) 230 I) fun r1 => gd (inb (i + 1) n) (Option.bind (m_X12_feed 196 (((xs (i + 1).toNatClampNeg).toUInt32 % 65536).toInt32) r1.2) fun r2 => Option.bind (m_X12_thrown 196 r2.2) fun r3 => if r3 = r1.1 then (if r1.1 = 0 then (gd (inb 0 1) (if lg_cmp (r2.2 230 (0 : Int32).toNatClampNeg).toInt64 r2.1.toInt64 = 0 then (some (.inl r2.2)) else (some (.inr ())))) else (some (.inl r2.2))) else (some (.inr ()))))
set_option maxRecDepth 100000 in
set_option maxHeartbeats 4000000 in
theorem m_L_case5_ok {Z : Zx} {K : Mem ⊕ Unit → Prop} (C : Cx Z code 7 RL) (hR : RM Z 13 472) (hst : (zl Z).stackTraces = false) (hNC : NCs (zs Z)) {b n : Nat} {xs : Nat → Int32} (X : LX Z b n xs) (i : Int32) (I : Mem) (hc : Z.2.2.1 + 4 ≤ (zR Z).cells) (hs : Z.2.2.2.1 + 24 ≤ (zR Z).slots) (hB : ∀ I', K (.inl I') → WM (Zb Z (Z.2.2.1 + 4) (Z.2.2.2.1 + 24)) I' 1411 [some (.ref b), some (rf (zG Z) 0), some (rf (zG Z) 196), some (rf (zG Z) 230), some (.int i), none, none] []) (hE : ¬ K (.inr ())) : WF Z K (m_L_case5 n xs i I) I 354 [some (.ref b), some (rf (zG Z) 0), some (rf (zG Z) 196), some (rf (zG Z) 230), some (.int i), none, none] [] := by
  unfold m_L_case5
  refine w_aload_n (v := 0) C dL_law_354 rfl (q := 355) rfl ?_
  refine w_aloadB (b := b) C dL_law_355 rfl (q := 356) rfl ?_
  refine w_iload (v := i) C dL_law_356 rfl (q := 358) rfl ?_
  refine w_iconst (v := (1)) C dL_law_358 (by decide) (q := 359) rfl ?_
  refine w_iadd C dL_law_359 (q := 360) rfl ?_
  refine w_sld C X dL_law_360 (q := 361) rfl (fun _ => ?_)
  refine w_i2c C dL_law_361 (q := 362) rfl ?_
  refine w_aload_n (v := 230) C dL_law_362 rfl (q := 363) rfl ?_
  refine w_callSW (As := [rf (zG Z) 0, .int (((xs (i + 1).toNatClampNeg).toUInt32 % 65536).toInt32), rf (zG Z) 230]) (st := []) (q := 366) C hR hNC (okA hc (by decide)) (okA hs (by decide)) (fun x h => c_L_feed (zl Z) hst (zG Z) (((xs (i + 1).toNatClampNeg).toUInt32 % 65536).toInt32) ho_0 ha_230 I h) mw_feed lk_L_119 rfl (by decide) (Nat.le_of_ble_eq_true rfl) rfl rfl dL_law_363 rfl (fun r1 => ?_)
  have C1 := C.bump (c := Z.2.2.1 + 1) (n := Z.2.2.2.1 + 6) (okA hc (by decide)) (okA hs (by decide))
  refine w_istore C1 dL_law_366 (Nat.le_of_ble_eq_true rfl) (L' := [some (.ref b), some (rf (zG Z) 0), some (rf (zG Z) 196), some (rf (zG Z) 230), some (.int i), some (.int r1.1), none]) rfl (q := 368) rfl ?_
  refine w_aload_n (v := 196) C1 dL_law_368 rfl (q := 369) rfl ?_
  refine w_aloadB (b := b) C1 dL_law_369 rfl (q := 370) rfl ?_
  refine w_iload (v := i) C1 dL_law_370 rfl (q := 372) rfl ?_
  refine w_iconst (v := (1)) C1 dL_law_372 (by decide) (q := 373) rfl ?_
  refine w_iadd C1 dL_law_373 (q := 374) rfl ?_
  refine w_sld C1 X dL_law_374 (q := 375) rfl (fun _ => ?_)
  refine w_i2c C1 dL_law_375 (q := 376) rfl ?_
  refine w_callV (val := fun r2 => some (.int r2.1)) (mem := fun r2 => r2.2) (st1 := fun r2 => [.int r2.1]) (As := [.int (((xs (i + 1).toNatClampNeg).toUInt32 % 65536).toInt32)]) (st := []) (q := 379) C1 hR (fun x h => c_X12_feed (zl Z) (zG Z) (((xs (i + 1).toNatClampNeg).toUInt32 % 65536).toInt32) ho_196 r1.2 h) ho_196 mv_X12_feed lk_L_122 rfl (by decide) (fun _ => rfl) (Nat.le_of_ble_eq_true rfl) rfl rfl dL_law_376 rfl (fun r2 => ?_)
  refine w_istore C1 dL_law_379 (Nat.le_of_ble_eq_true rfl) (L' := [some (.ref b), some (rf (zG Z) 0), some (rf (zG Z) 196), some (rf (zG Z) 230), some (.int i), some (.int r1.1), some (.int r2.1)]) rfl (q := 381) rfl ?_
  refine w_aload_n (v := 196) C1 dL_law_381 rfl (q := 382) rfl ?_
  refine w_callV (val := fun r3 => some (.int r3)) (mem := fun r3 => r2.2) (st1 := fun r3 => [.int r3]) (As := []) (st := []) (q := 385) C1 hR (fun x h => c_X12_thrown (zl Z) (zG Z)  ho_196 r2.2 h) ho_196 mv_X12_thrown lk_L_100 rfl (by decide) (fun _ => rfl) (Nat.le_of_ble_eq_true rfl) rfl rfl dL_law_382 rfl (fun r3 => ?_)
  refine w_iload (v := r1.1) C1 dL_law_385 rfl (q := 387) rfl ?_
  refine w_icmp_eq (tgt := 392) (q := 390) C1 dL_law_387 (by decide) rfl (fun _ => ?_) (fun _ => ?_)
  · refine w_iload (v := r1.1) C1 dL_law_392 rfl (q := 394) rfl ?_
    refine w_if_ne (tgt := 409) (q := 397) C1 dL_law_394 (by decide) rfl (fun _ => ?_) (fun _ => ?_)
    · refine w_aload_n (v := 230) C1 dL_law_397 rfl (q := 398) rfl ?_
      refine w_iconst (v := (0)) C1 dL_law_398 (by decide) (q := 399) rfl ?_
      refine w_lald C1 ha_230 dL_law_399 (q := 400) rfl (fun _ => ?_)
      refine w_iload (v := r2.1) C1 dL_law_400 rfl (q := 402) rfl ?_
      refine w_i2l C1 dL_law_402 (q := 403) rfl ?_
      refine w_lcmp C1 dL_law_403 (q := 404) rfl ?_
      refine w_if_eq (tgt := 409) (q := 407) C1 dL_law_404 (by decide) rfl (fun _ => ?_) (fun _ => ?_)
      · refine w_goto (tgt := 1411) C1 dL_law_409 (by decide) ?_
        exact w_jmp (fun h => WM.widen (c := Z.2.2.1 + 4) (n := Z.2.2.2.1 + 24) (Nat.add_le_add_left (by decide) _) (Nat.add_le_add_left (by decide) _) (WM.less (L' := [some (.ref b), some (rf (zG Z) 0), some (rf (zG Z) 196), some (rf (zG Z) 230), some (.int i), none, none]) (hB _ h) ⟨rfl, rfl, rfl, rfl, rfl, trivial⟩))
      · exact w_bad hE
    · refine w_goto (tgt := 1411) C1 dL_law_409 (by decide) ?_
      exact w_jmp (fun h => WM.widen (c := Z.2.2.1 + 4) (n := Z.2.2.2.1 + 24) (Nat.add_le_add_left (by decide) _) (Nat.add_le_add_left (by decide) _) (WM.less (L' := [some (.ref b), some (rf (zG Z) 0), some (rf (zG Z) 196), some (rf (zG Z) 230), some (.int i), none, none]) (hB _ h) ⟨rfl, rfl, rfl, rfl, rfl, trivial⟩))
  · exact w_bad hE
def m_L_case6 (n : Nat) (xs : Nat → Int32) (i : Int32) (I : Mem) : Option (Mem ⊕ Unit) :=
  Option.bind (m_X11_discard 0 I) fun r1 => Option.bind (m_X12_discard 196 r1.2) fun r2 => if r1.1 = r2.1 then (some (.inl r2.2)) else (some (.inr ()))
set_option maxRecDepth 100000 in
set_option maxHeartbeats 4000000 in
theorem m_L_case6_ok {Z : Zx} {K : Mem ⊕ Unit → Prop} (C : Cx Z code 7 RL) (hR : RM Z 13 472) (hst : (zl Z).stackTraces = false) (hNC : NCs (zs Z)) {b n : Nat} {xs : Nat → Int32} (X : LX Z b n xs) (i : Int32) (I : Mem) (hc : Z.2.2.1 + 4 ≤ (zR Z).cells) (hs : Z.2.2.2.1 + 24 ≤ (zR Z).slots) (hB : ∀ I', K (.inl I') → WM (Zb Z (Z.2.2.1 + 4) (Z.2.2.2.1 + 24)) I' 1411 [some (.ref b), some (rf (zG Z) 0), some (rf (zG Z) 196), some (rf (zG Z) 230), some (.int i), none, none] []) (hE : ¬ K (.inr ())) : WF Z K (m_L_case6 n xs i I) I 412 [some (.ref b), some (rf (zG Z) 0), some (rf (zG Z) 196), some (rf (zG Z) 230), some (.int i), none, none] [] := by
  unfold m_L_case6
  refine w_aload_n (v := 0) C dL_law_412 rfl (q := 413) rfl ?_
  refine w_callV (val := fun r1 => some (.int r1.1)) (mem := fun r1 => r1.2) (st1 := fun r1 => [.int r1.1]) (As := []) (st := []) (q := 416) C hR (fun x h => c_X11_discard (zl Z) (zG Z)  ho_0 I h) ho_0 mv_X11_discard lk_L_123 rfl (by decide) (fun _ => rfl) (Nat.le_of_ble_eq_true rfl) rfl rfl dL_law_413 rfl (fun r1 => ?_)
  refine w_aload_n (v := 196) C dL_law_416 rfl (q := 417) rfl ?_
  refine w_callV (val := fun r2 => some (.int r2.1)) (mem := fun r2 => r2.2) (st1 := fun r2 => [.int r2.1, .int r1.1]) (As := []) (st := [.int r1.1]) (q := 420) C hR (fun x h => c_X12_discard (zl Z) (zG Z)  ho_196 r1.2 h) ho_196 mv_X12_discard lk_L_126 rfl (by decide) (fun _ => rfl) (Nat.le_of_ble_eq_true rfl) rfl rfl dL_law_417 rfl (fun r2 => ?_)
  refine w_icmp_eq (tgt := 1411) (q := 423) C dL_law_420 (by decide) rfl (fun _ => ?_) (fun _ => ?_)
  · exact w_jmp (fun h => WM.widen (c := Z.2.2.1 + 4) (n := Z.2.2.2.1 + 24) (Nat.le_add_right _ _) (Nat.le_add_right _ _) (WM.less (L' := [some (.ref b), some (rf (zG Z) 0), some (rf (zG Z) 196), some (rf (zG Z) 230), some (.int i), none, none]) (hB _ h) ⟨rfl, rfl, rfl, rfl, rfl, trivial⟩))
  · exact w_bad hE
def m_L_case7 (n : Nat) (xs : Nat → Int32) (i : Int32) (I : Mem) : Option (Mem ⊕ Unit) :=
  Option.bind (m_X11_length 0 I) fun r1 => Option.bind (m_X12_length 196 I) fun r2 => if r1 = r2.1 then (some (.inl r2.2)) else (some (.inr ()))
set_option maxRecDepth 100000 in
set_option maxHeartbeats 4000000 in
theorem m_L_case7_ok {Z : Zx} {K : Mem ⊕ Unit → Prop} (C : Cx Z code 7 RL) (hR : RM Z 13 472) (hst : (zl Z).stackTraces = false) (hNC : NCs (zs Z)) {b n : Nat} {xs : Nat → Int32} (X : LX Z b n xs) (i : Int32) (I : Mem) (hc : Z.2.2.1 + 4 ≤ (zR Z).cells) (hs : Z.2.2.2.1 + 24 ≤ (zR Z).slots) (hB : ∀ I', K (.inl I') → WM (Zb Z (Z.2.2.1 + 4) (Z.2.2.2.1 + 24)) I' 1411 [some (.ref b), some (rf (zG Z) 0), some (rf (zG Z) 196), some (rf (zG Z) 230), some (.int i), none, none] []) (hE : ¬ K (.inr ())) : WF Z K (m_L_case7 n xs i I) I 425 [some (.ref b), some (rf (zG Z) 0), some (rf (zG Z) 196), some (rf (zG Z) 230), some (.int i), none, none] [] := by
  unfold m_L_case7
  refine w_aload_n (v := 0) C dL_law_425 rfl (q := 426) rfl ?_
  refine w_callV (val := fun r1 => some (.int r1)) (mem := fun r1 => I) (st1 := fun r1 => [.int r1]) (As := []) (st := []) (q := 429) C hR (fun x h => c_X11_length (zl Z) (zG Z)  ho_0 I h) ho_0 mv_X11_length lk_L_127 rfl (by decide) (fun _ => rfl) (Nat.le_of_ble_eq_true rfl) rfl rfl dL_law_426 rfl (fun r1 => ?_)
  refine w_aload_n (v := 196) C dL_law_429 rfl (q := 430) rfl ?_
  refine w_callV (val := fun r2 => some (.int r2.1)) (mem := fun r2 => r2.2) (st1 := fun r2 => [.int r2.1, .int r1]) (As := []) (st := [.int r1]) (q := 433) C hR (fun x h => c_X12_length (zl Z) (zG Z)  ho_196 I h) ho_196 mv_X12_length lk_L_130 rfl (by decide) (fun _ => rfl) (Nat.le_of_ble_eq_true rfl) rfl rfl dL_law_430 rfl (fun r2 => ?_)
  refine w_icmp_eq (tgt := 1411) (q := 436) C dL_law_433 (by decide) rfl (fun _ => ?_) (fun _ => ?_)
  · exact w_jmp (fun h => WM.widen (c := Z.2.2.1 + 4) (n := Z.2.2.2.1 + 24) (Nat.le_add_right _ _) (Nat.le_add_right _ _) (WM.less (L' := [some (.ref b), some (rf (zG Z) 0), some (rf (zG Z) 196), some (rf (zG Z) 230), some (.int i), none, none]) (hB _ h) ⟨rfl, rfl, rfl, rfl, rfl, trivial⟩))
  · exact w_bad hE
def m_L_case8 (n : Nat) (xs : Nat → Int32) (i : Int32) (I : Mem) : Option (Mem ⊕ Unit) :=
  Option.bind (m_L_read 0 230 I) fun r1 => Option.bind (m_X12_read 196 r1.2) fun r2 => Option.bind (m_X12_thrown 196 r2.2) fun r3 => if r3 = r1.1 then (if r1.1 = 0 then (gd (inb 0 1) (if lg_cmp (r2.2 230 (0 : Int32).toNatClampNeg).toInt64 r2.1.toInt64 = 0 then (some (.inl r2.2)) else (some (.inr ())))) else (some (.inl r2.2))) else (some (.inr ()))
set_option maxRecDepth 100000 in
set_option maxHeartbeats 4000000 in
theorem m_L_case8_ok {Z : Zx} {K : Mem ⊕ Unit → Prop} (C : Cx Z code 7 RL) (hR : RM Z 13 472) (hst : (zl Z).stackTraces = false) (hNC : NCs (zs Z)) {b n : Nat} {xs : Nat → Int32} (X : LX Z b n xs) (i : Int32) (I : Mem) (hc : Z.2.2.1 + 4 ≤ (zR Z).cells) (hs : Z.2.2.2.1 + 24 ≤ (zR Z).slots) (hB : ∀ I', K (.inl I') → WM (Zb Z (Z.2.2.1 + 4) (Z.2.2.2.1 + 24)) I' 1411 [some (.ref b), some (rf (zG Z) 0), some (rf (zG Z) 196), some (rf (zG Z) 230), some (.int i), none, none] []) (hE : ¬ K (.inr ())) : WF Z K (m_L_case8 n xs i I) I 438 [some (.ref b), some (rf (zG Z) 0), some (rf (zG Z) 196), some (rf (zG Z) 230), some (.int i), none, none] [] := by
  unfold m_L_case8
  refine w_aload_n (v := 0) C dL_law_438 rfl (q := 439) rfl ?_
  refine w_aload_n (v := 230) C dL_law_439 rfl (q := 440) rfl ?_
  refine w_callSW (As := [rf (zG Z) 0, rf (zG Z) 230]) (st := []) (q := 443) C hR hNC (okA hc (by decide)) (okA hs (by decide)) (fun x h => c_L_read (zl Z) hst (zG Z)  ho_0 ha_230 I h) mw_read lk_L_131 rfl (by decide) (Nat.le_of_ble_eq_true rfl) rfl rfl dL_law_440 rfl (fun r1 => ?_)
  have C1 := C.bump (c := Z.2.2.1 + 1) (n := Z.2.2.2.1 + 6) (okA hc (by decide)) (okA hs (by decide))
  refine w_istore C1 dL_law_443 (Nat.le_of_ble_eq_true rfl) (L' := [some (.ref b), some (rf (zG Z) 0), some (rf (zG Z) 196), some (rf (zG Z) 230), some (.int i), some (.int r1.1), none]) rfl (q := 445) rfl ?_
  refine w_aload_n (v := 196) C1 dL_law_445 rfl (q := 446) rfl ?_
  refine w_callV (val := fun r2 => some (.int r2.1)) (mem := fun r2 => r2.2) (st1 := fun r2 => [.int r2.1]) (As := []) (st := []) (q := 449) C1 hR (fun x h => c_X12_read (zl Z) (zG Z)  ho_196 r1.2 h) ho_196 mv_X12_read lk_L_133 rfl (by decide) (fun _ => rfl) (Nat.le_of_ble_eq_true rfl) rfl rfl dL_law_446 rfl (fun r2 => ?_)
  refine w_istore C1 dL_law_449 (Nat.le_of_ble_eq_true rfl) (L' := [some (.ref b), some (rf (zG Z) 0), some (rf (zG Z) 196), some (rf (zG Z) 230), some (.int i), some (.int r1.1), some (.int r2.1)]) rfl (q := 451) rfl ?_
  refine w_aload_n (v := 196) C1 dL_law_451 rfl (q := 452) rfl ?_
  refine w_callV (val := fun r3 => some (.int r3)) (mem := fun r3 => r2.2) (st1 := fun r3 => [.int r3]) (As := []) (st := []) (q := 455) C1 hR (fun x h => c_X12_thrown (zl Z) (zG Z)  ho_196 r2.2 h) ho_196 mv_X12_thrown lk_L_100 rfl (by decide) (fun _ => rfl) (Nat.le_of_ble_eq_true rfl) rfl rfl dL_law_452 rfl (fun r3 => ?_)
  refine w_iload (v := r1.1) C1 dL_law_455 rfl (q := 457) rfl ?_
  refine w_icmp_eq (tgt := 462) (q := 460) C1 dL_law_457 (by decide) rfl (fun _ => ?_) (fun _ => ?_)
  · refine w_iload (v := r1.1) C1 dL_law_462 rfl (q := 464) rfl ?_
    refine w_if_ne (tgt := 479) (q := 467) C1 dL_law_464 (by decide) rfl (fun _ => ?_) (fun _ => ?_)
    · refine w_aload_n (v := 230) C1 dL_law_467 rfl (q := 468) rfl ?_
      refine w_iconst (v := (0)) C1 dL_law_468 (by decide) (q := 469) rfl ?_
      refine w_lald C1 ha_230 dL_law_469 (q := 470) rfl (fun _ => ?_)
      refine w_iload (v := r2.1) C1 dL_law_470 rfl (q := 472) rfl ?_
      refine w_i2l C1 dL_law_472 (q := 473) rfl ?_
      refine w_lcmp C1 dL_law_473 (q := 474) rfl ?_
      refine w_if_eq (tgt := 479) (q := 477) C1 dL_law_474 (by decide) rfl (fun _ => ?_) (fun _ => ?_)
      · refine w_goto (tgt := 1411) C1 dL_law_479 (by decide) ?_
        exact w_jmp (fun h => WM.widen (c := Z.2.2.1 + 4) (n := Z.2.2.2.1 + 24) (Nat.add_le_add_left (by decide) _) (Nat.add_le_add_left (by decide) _) (WM.less (L' := [some (.ref b), some (rf (zG Z) 0), some (rf (zG Z) 196), some (rf (zG Z) 230), some (.int i), none, none]) (hB _ h) ⟨rfl, rfl, rfl, rfl, rfl, trivial⟩))
      · exact w_bad hE
    · refine w_goto (tgt := 1411) C1 dL_law_479 (by decide) ?_
      exact w_jmp (fun h => WM.widen (c := Z.2.2.1 + 4) (n := Z.2.2.2.1 + 24) (Nat.add_le_add_left (by decide) _) (Nat.add_le_add_left (by decide) _) (WM.less (L' := [some (.ref b), some (rf (zG Z) 0), some (rf (zG Z) 196), some (rf (zG Z) 230), some (.int i), none, none]) (hB _ h) ⟨rfl, rfl, rfl, rfl, rfl, trivial⟩))
  · exact w_bad hE
def m_L_case9 (n : Nat) (xs : Nat → Int32) (i : Int32) (I : Mem) : Option (Mem ⊕ Unit) :=
  gd (inb (i + 1) n) (Option.bind (m_L_faultKind 0 (xs (i + 1).toNatClampNeg) 230 I) fun r1 => gd (inb (i + 1) n) (Option.bind (m_X12_faultKind 196 (xs (i + 1).toNatClampNeg) r1.2) fun r2 => Option.bind (m_X12_thrown 196 r2.2) fun r3 => if r3 = r1.1 then (if r1.1 = 0 then (gd (inb 0 1) (if lg_cmp (r2.2 230 (0 : Int32).toNatClampNeg).toInt64 r2.1.toInt64 = 0 then (some (.inl r2.2)) else (some (.inr ())))) else (some (.inl r2.2))) else (some (.inr ()))))
set_option maxRecDepth 100000 in
set_option maxHeartbeats 4000000 in
theorem m_L_case9_ok {Z : Zx} {K : Mem ⊕ Unit → Prop} (C : Cx Z code 7 RL) (hR : RM Z 13 472) (hst : (zl Z).stackTraces = false) (hNC : NCs (zs Z)) {b n : Nat} {xs : Nat → Int32} (X : LX Z b n xs) (i : Int32) (I : Mem) (hc : Z.2.2.1 + 4 ≤ (zR Z).cells) (hs : Z.2.2.2.1 + 24 ≤ (zR Z).slots) (hB : ∀ I', K (.inl I') → WM (Zb Z (Z.2.2.1 + 4) (Z.2.2.2.1 + 24)) I' 1411 [some (.ref b), some (rf (zG Z) 0), some (rf (zG Z) 196), some (rf (zG Z) 230), some (.int i), none, none] []) (hE : ¬ K (.inr ())) : WF Z K (m_L_case9 n xs i I) I 482 [some (.ref b), some (rf (zG Z) 0), some (rf (zG Z) 196), some (rf (zG Z) 230), some (.int i), none, none] [] := by
  unfold m_L_case9
  refine w_aload_n (v := 0) C dL_law_482 rfl (q := 483) rfl ?_
  refine w_aloadB (b := b) C dL_law_483 rfl (q := 484) rfl ?_
  refine w_iload (v := i) C dL_law_484 rfl (q := 486) rfl ?_
  refine w_iconst (v := (1)) C dL_law_486 (by decide) (q := 487) rfl ?_
  refine w_iadd C dL_law_487 (q := 488) rfl ?_
  refine w_sld C X dL_law_488 (q := 489) rfl (fun _ => ?_)
  refine w_aload_n (v := 230) C dL_law_489 rfl (q := 490) rfl ?_
  refine w_callSW (As := [rf (zG Z) 0, .int (xs (i + 1).toNatClampNeg), rf (zG Z) 230]) (st := []) (q := 493) C hR hNC (okA hc (by decide)) (okA hs (by decide)) (fun x h => c_L_faultKind (zl Z) hst (zG Z) (xs (i + 1).toNatClampNeg) ho_0 ha_230 I h) mw_faultKind lk_L_134 rfl (by decide) (Nat.le_of_ble_eq_true rfl) rfl rfl dL_law_490 rfl (fun r1 => ?_)
  have C1 := C.bump (c := Z.2.2.1 + 1) (n := Z.2.2.2.1 + 6) (okA hc (by decide)) (okA hs (by decide))
  refine w_istore C1 dL_law_493 (Nat.le_of_ble_eq_true rfl) (L' := [some (.ref b), some (rf (zG Z) 0), some (rf (zG Z) 196), some (rf (zG Z) 230), some (.int i), some (.int r1.1), none]) rfl (q := 495) rfl ?_
  refine w_aload_n (v := 196) C1 dL_law_495 rfl (q := 496) rfl ?_
  refine w_aloadB (b := b) C1 dL_law_496 rfl (q := 497) rfl ?_
  refine w_iload (v := i) C1 dL_law_497 rfl (q := 499) rfl ?_
  refine w_iconst (v := (1)) C1 dL_law_499 (by decide) (q := 500) rfl ?_
  refine w_iadd C1 dL_law_500 (q := 501) rfl ?_
  refine w_sld C1 X dL_law_501 (q := 502) rfl (fun _ => ?_)
  refine w_callV (val := fun r2 => some (.int r2.1)) (mem := fun r2 => r2.2) (st1 := fun r2 => [.int r2.1]) (As := [.int (xs (i + 1).toNatClampNeg)]) (st := []) (q := 505) C1 hR (fun x h => c_X12_faultKind (zl Z) (zG Z) (xs (i + 1).toNatClampNeg) ho_196 r1.2 h) ho_196 mv_X12_faultKind lk_L_137 rfl (by decide) (fun _ => rfl) (Nat.le_of_ble_eq_true rfl) rfl rfl dL_law_502 rfl (fun r2 => ?_)
  refine w_istore C1 dL_law_505 (Nat.le_of_ble_eq_true rfl) (L' := [some (.ref b), some (rf (zG Z) 0), some (rf (zG Z) 196), some (rf (zG Z) 230), some (.int i), some (.int r1.1), some (.int r2.1)]) rfl (q := 507) rfl ?_
  refine w_aload_n (v := 196) C1 dL_law_507 rfl (q := 508) rfl ?_
  refine w_callV (val := fun r3 => some (.int r3)) (mem := fun r3 => r2.2) (st1 := fun r3 => [.int r3]) (As := []) (st := []) (q := 511) C1 hR (fun x h => c_X12_thrown (zl Z) (zG Z)  ho_196 r2.2 h) ho_196 mv_X12_thrown lk_L_100 rfl (by decide) (fun _ => rfl) (Nat.le_of_ble_eq_true rfl) rfl rfl dL_law_508 rfl (fun r3 => ?_)
  refine w_iload (v := r1.1) C1 dL_law_511 rfl (q := 513) rfl ?_
  refine w_icmp_eq (tgt := 518) (q := 516) C1 dL_law_513 (by decide) rfl (fun _ => ?_) (fun _ => ?_)
  · refine w_iload (v := r1.1) C1 dL_law_518 rfl (q := 520) rfl ?_
    refine w_if_ne (tgt := 535) (q := 523) C1 dL_law_520 (by decide) rfl (fun _ => ?_) (fun _ => ?_)
    · refine w_aload_n (v := 230) C1 dL_law_523 rfl (q := 524) rfl ?_
      refine w_iconst (v := (0)) C1 dL_law_524 (by decide) (q := 525) rfl ?_
      refine w_lald C1 ha_230 dL_law_525 (q := 526) rfl (fun _ => ?_)
      refine w_iload (v := r2.1) C1 dL_law_526 rfl (q := 528) rfl ?_
      refine w_i2l C1 dL_law_528 (q := 529) rfl ?_
      refine w_lcmp C1 dL_law_529 (q := 530) rfl ?_
      refine w_if_eq (tgt := 535) (q := 533) C1 dL_law_530 (by decide) rfl (fun _ => ?_) (fun _ => ?_)
      · refine w_goto (tgt := 1411) C1 dL_law_535 (by decide) ?_
        exact w_jmp (fun h => WM.widen (c := Z.2.2.1 + 4) (n := Z.2.2.2.1 + 24) (Nat.add_le_add_left (by decide) _) (Nat.add_le_add_left (by decide) _) (WM.less (L' := [some (.ref b), some (rf (zG Z) 0), some (rf (zG Z) 196), some (rf (zG Z) 230), some (.int i), none, none]) (hB _ h) ⟨rfl, rfl, rfl, rfl, rfl, trivial⟩))
      · exact w_bad hE
    · refine w_goto (tgt := 1411) C1 dL_law_535 (by decide) ?_
      exact w_jmp (fun h => WM.widen (c := Z.2.2.1 + 4) (n := Z.2.2.2.1 + 24) (Nat.add_le_add_left (by decide) _) (Nat.add_le_add_left (by decide) _) (WM.less (L' := [some (.ref b), some (rf (zG Z) 0), some (rf (zG Z) 196), some (rf (zG Z) 230), some (.int i), none, none]) (hB _ h) ⟨rfl, rfl, rfl, rfl, rfl, trivial⟩))
  · exact w_bad hE
def m_L_case10 (n : Nat) (xs : Nat → Int32) (i : Int32) (I : Mem) : Option (Mem ⊕ Unit) :=
  gd (inb (i + 1) n) (Option.bind (m_L_faultPlace 0 (xs (i + 1).toNatClampNeg) 230 I) fun r1 => gd (inb (i + 1) n) (Option.bind (m_X12_faultPlace 196 (xs (i + 1).toNatClampNeg) r1.2) fun r2 => Option.bind (m_X12_thrown 196 r2.2) fun r3 => if r3 = r1.1 then (if r1.1 = 0 then (gd (inb 0 1) (if lg_cmp (r2.2 230 (0 : Int32).toNatClampNeg).toInt64 r2.1.toInt64 = 0 then (some (.inl r2.2)) else (some (.inr ())))) else (some (.inl r2.2))) else (some (.inr ()))))
set_option maxRecDepth 100000 in
set_option maxHeartbeats 4000000 in
theorem m_L_case10_ok {Z : Zx} {K : Mem ⊕ Unit → Prop} (C : Cx Z code 7 RL) (hR : RM Z 13 472) (hst : (zl Z).stackTraces = false) (hNC : NCs (zs Z)) {b n : Nat} {xs : Nat → Int32} (X : LX Z b n xs) (i : Int32) (I : Mem) (hc : Z.2.2.1 + 4 ≤ (zR Z).cells) (hs : Z.2.2.2.1 + 24 ≤ (zR Z).slots) (hB : ∀ I', K (.inl I') → WM (Zb Z (Z.2.2.1 + 4) (Z.2.2.2.1 + 24)) I' 1411 [some (.ref b), some (rf (zG Z) 0), some (rf (zG Z) 196), some (rf (zG Z) 230), some (.int i), none, none] []) (hE : ¬ K (.inr ())) : WF Z K (m_L_case10 n xs i I) I 538 [some (.ref b), some (rf (zG Z) 0), some (rf (zG Z) 196), some (rf (zG Z) 230), some (.int i), none, none] [] := by
  unfold m_L_case10
  refine w_aload_n (v := 0) C dL_law_538 rfl (q := 539) rfl ?_
  refine w_aloadB (b := b) C dL_law_539 rfl (q := 540) rfl ?_
  refine w_iload (v := i) C dL_law_540 rfl (q := 542) rfl ?_
  refine w_iconst (v := (1)) C dL_law_542 (by decide) (q := 543) rfl ?_
  refine w_iadd C dL_law_543 (q := 544) rfl ?_
  refine w_sld C X dL_law_544 (q := 545) rfl (fun _ => ?_)
  refine w_aload_n (v := 230) C dL_law_545 rfl (q := 546) rfl ?_
  refine w_callSW (As := [rf (zG Z) 0, .int (xs (i + 1).toNatClampNeg), rf (zG Z) 230]) (st := []) (q := 549) C hR hNC (okA hc (by decide)) (okA hs (by decide)) (fun x h => c_L_faultPlace (zl Z) hst (zG Z) (xs (i + 1).toNatClampNeg) ho_0 ha_230 I h) mw_faultPlace lk_L_138 rfl (by decide) (Nat.le_of_ble_eq_true rfl) rfl rfl dL_law_546 rfl (fun r1 => ?_)
  have C1 := C.bump (c := Z.2.2.1 + 1) (n := Z.2.2.2.1 + 6) (okA hc (by decide)) (okA hs (by decide))
  refine w_istore C1 dL_law_549 (Nat.le_of_ble_eq_true rfl) (L' := [some (.ref b), some (rf (zG Z) 0), some (rf (zG Z) 196), some (rf (zG Z) 230), some (.int i), some (.int r1.1), none]) rfl (q := 551) rfl ?_
  refine w_aload_n (v := 196) C1 dL_law_551 rfl (q := 552) rfl ?_
  refine w_aloadB (b := b) C1 dL_law_552 rfl (q := 553) rfl ?_
  refine w_iload (v := i) C1 dL_law_553 rfl (q := 555) rfl ?_
  refine w_iconst (v := (1)) C1 dL_law_555 (by decide) (q := 556) rfl ?_
  refine w_iadd C1 dL_law_556 (q := 557) rfl ?_
  refine w_sld C1 X dL_law_557 (q := 558) rfl (fun _ => ?_)
  refine w_callV (val := fun r2 => some (.int r2.1)) (mem := fun r2 => r2.2) (st1 := fun r2 => [.int r2.1]) (As := [.int (xs (i + 1).toNatClampNeg)]) (st := []) (q := 561) C1 hR (fun x h => c_X12_faultPlace (zl Z) (zG Z) (xs (i + 1).toNatClampNeg) ho_196 r1.2 h) ho_196 mv_X12_faultPlace lk_L_140 rfl (by decide) (fun _ => rfl) (Nat.le_of_ble_eq_true rfl) rfl rfl dL_law_558 rfl (fun r2 => ?_)
  refine w_istore C1 dL_law_561 (Nat.le_of_ble_eq_true rfl) (L' := [some (.ref b), some (rf (zG Z) 0), some (rf (zG Z) 196), some (rf (zG Z) 230), some (.int i), some (.int r1.1), some (.int r2.1)]) rfl (q := 563) rfl ?_
  refine w_aload_n (v := 196) C1 dL_law_563 rfl (q := 564) rfl ?_
  refine w_callV (val := fun r3 => some (.int r3)) (mem := fun r3 => r2.2) (st1 := fun r3 => [.int r3]) (As := []) (st := []) (q := 567) C1 hR (fun x h => c_X12_thrown (zl Z) (zG Z)  ho_196 r2.2 h) ho_196 mv_X12_thrown lk_L_100 rfl (by decide) (fun _ => rfl) (Nat.le_of_ble_eq_true rfl) rfl rfl dL_law_564 rfl (fun r3 => ?_)
  refine w_iload (v := r1.1) C1 dL_law_567 rfl (q := 569) rfl ?_
  refine w_icmp_eq (tgt := 574) (q := 572) C1 dL_law_569 (by decide) rfl (fun _ => ?_) (fun _ => ?_)
  · refine w_iload (v := r1.1) C1 dL_law_574 rfl (q := 576) rfl ?_
    refine w_if_ne (tgt := 591) (q := 579) C1 dL_law_576 (by decide) rfl (fun _ => ?_) (fun _ => ?_)
    · refine w_aload_n (v := 230) C1 dL_law_579 rfl (q := 580) rfl ?_
      refine w_iconst (v := (0)) C1 dL_law_580 (by decide) (q := 581) rfl ?_
      refine w_lald C1 ha_230 dL_law_581 (q := 582) rfl (fun _ => ?_)
      refine w_iload (v := r2.1) C1 dL_law_582 rfl (q := 584) rfl ?_
      refine w_i2l C1 dL_law_584 (q := 585) rfl ?_
      refine w_lcmp C1 dL_law_585 (q := 586) rfl ?_
      refine w_if_eq (tgt := 591) (q := 589) C1 dL_law_586 (by decide) rfl (fun _ => ?_) (fun _ => ?_)
      · refine w_goto (tgt := 1411) C1 dL_law_591 (by decide) ?_
        exact w_jmp (fun h => WM.widen (c := Z.2.2.1 + 4) (n := Z.2.2.2.1 + 24) (Nat.add_le_add_left (by decide) _) (Nat.add_le_add_left (by decide) _) (WM.less (L' := [some (.ref b), some (rf (zG Z) 0), some (rf (zG Z) 196), some (rf (zG Z) 230), some (.int i), none, none]) (hB _ h) ⟨rfl, rfl, rfl, rfl, rfl, trivial⟩))
      · exact w_bad hE
    · refine w_goto (tgt := 1411) C1 dL_law_591 (by decide) ?_
      exact w_jmp (fun h => WM.widen (c := Z.2.2.1 + 4) (n := Z.2.2.2.1 + 24) (Nat.add_le_add_left (by decide) _) (Nat.add_le_add_left (by decide) _) (WM.less (L' := [some (.ref b), some (rf (zG Z) 0), some (rf (zG Z) 196), some (rf (zG Z) 230), some (.int i), none, none]) (hB _ h) ⟨rfl, rfl, rfl, rfl, rfl, trivial⟩))
  · exact w_bad hE
def m_L_case11 (n : Nat) (xs : Nat → Int32) (i : Int32) (I : Mem) : Option (Mem ⊕ Unit) :=
  Option.bind (m_L_control 0 230 I) fun r1 => Option.bind (m_X12_control 196 r1.2) fun r2 => Option.bind (m_X12_thrown 196 r2.2) fun r3 => if r3 = r1.1 then (if r1.1 = 0 then (gd (inb 0 1) (if lg_cmp (r2.2 230 (0 : Int32).toNatClampNeg).toInt64 r2.1.toInt64 = 0 then (some (.inl r2.2)) else (some (.inr ())))) else (some (.inl r2.2))) else (some (.inr ()))
set_option maxRecDepth 100000 in
set_option maxHeartbeats 4000000 in
theorem m_L_case11_ok {Z : Zx} {K : Mem ⊕ Unit → Prop} (C : Cx Z code 7 RL) (hR : RM Z 13 472) (hst : (zl Z).stackTraces = false) (hNC : NCs (zs Z)) {b n : Nat} {xs : Nat → Int32} (X : LX Z b n xs) (i : Int32) (I : Mem) (hc : Z.2.2.1 + 4 ≤ (zR Z).cells) (hs : Z.2.2.2.1 + 24 ≤ (zR Z).slots) (hB : ∀ I', K (.inl I') → WM (Zb Z (Z.2.2.1 + 4) (Z.2.2.2.1 + 24)) I' 1411 [some (.ref b), some (rf (zG Z) 0), some (rf (zG Z) 196), some (rf (zG Z) 230), some (.int i), none, none] []) (hE : ¬ K (.inr ())) : WF Z K (m_L_case11 n xs i I) I 594 [some (.ref b), some (rf (zG Z) 0), some (rf (zG Z) 196), some (rf (zG Z) 230), some (.int i), none, none] [] := by
  unfold m_L_case11
  refine w_aload_n (v := 0) C dL_law_594 rfl (q := 595) rfl ?_
  refine w_aload_n (v := 230) C dL_law_595 rfl (q := 596) rfl ?_
  refine w_callSW (As := [rf (zG Z) 0, rf (zG Z) 230]) (st := []) (q := 599) C hR hNC (okA hc (by decide)) (okA hs (by decide)) (fun x h => c_L_control (zl Z) hst (zG Z)  ho_0 ha_230 I h) mw_control lk_L_141 rfl (by decide) (Nat.le_of_ble_eq_true rfl) rfl rfl dL_law_596 rfl (fun r1 => ?_)
  have C1 := C.bump (c := Z.2.2.1 + 1) (n := Z.2.2.2.1 + 6) (okA hc (by decide)) (okA hs (by decide))
  refine w_istore C1 dL_law_599 (Nat.le_of_ble_eq_true rfl) (L' := [some (.ref b), some (rf (zG Z) 0), some (rf (zG Z) 196), some (rf (zG Z) 230), some (.int i), some (.int r1.1), none]) rfl (q := 601) rfl ?_
  refine w_aload_n (v := 196) C1 dL_law_601 rfl (q := 602) rfl ?_
  refine w_callV (val := fun r2 => some (.int r2.1)) (mem := fun r2 => r2.2) (st1 := fun r2 => [.int r2.1]) (As := []) (st := []) (q := 605) C1 hR (fun x h => c_X12_control (zl Z) (zG Z)  ho_196 r1.2 h) ho_196 mv_X12_control lk_L_143 rfl (by decide) (fun _ => rfl) (Nat.le_of_ble_eq_true rfl) rfl rfl dL_law_602 rfl (fun r2 => ?_)
  refine w_istore C1 dL_law_605 (Nat.le_of_ble_eq_true rfl) (L' := [some (.ref b), some (rf (zG Z) 0), some (rf (zG Z) 196), some (rf (zG Z) 230), some (.int i), some (.int r1.1), some (.int r2.1)]) rfl (q := 607) rfl ?_
  refine w_aload_n (v := 196) C1 dL_law_607 rfl (q := 608) rfl ?_
  refine w_callV (val := fun r3 => some (.int r3)) (mem := fun r3 => r2.2) (st1 := fun r3 => [.int r3]) (As := []) (st := []) (q := 611) C1 hR (fun x h => c_X12_thrown (zl Z) (zG Z)  ho_196 r2.2 h) ho_196 mv_X12_thrown lk_L_100 rfl (by decide) (fun _ => rfl) (Nat.le_of_ble_eq_true rfl) rfl rfl dL_law_608 rfl (fun r3 => ?_)
  refine w_iload (v := r1.1) C1 dL_law_611 rfl (q := 613) rfl ?_
  refine w_icmp_eq (tgt := 618) (q := 616) C1 dL_law_613 (by decide) rfl (fun _ => ?_) (fun _ => ?_)
  · refine w_iload (v := r1.1) C1 dL_law_618 rfl (q := 620) rfl ?_
    refine w_if_ne (tgt := 635) (q := 623) C1 dL_law_620 (by decide) rfl (fun _ => ?_) (fun _ => ?_)
    · refine w_aload_n (v := 230) C1 dL_law_623 rfl (q := 624) rfl ?_
      refine w_iconst (v := (0)) C1 dL_law_624 (by decide) (q := 625) rfl ?_
      refine w_lald C1 ha_230 dL_law_625 (q := 626) rfl (fun _ => ?_)
      refine w_iload (v := r2.1) C1 dL_law_626 rfl (q := 628) rfl ?_
      refine w_i2l C1 dL_law_628 (q := 629) rfl ?_
      refine w_lcmp C1 dL_law_629 (q := 630) rfl ?_
      refine w_if_eq (tgt := 635) (q := 633) C1 dL_law_630 (by decide) rfl (fun _ => ?_) (fun _ => ?_)
      · refine w_goto (tgt := 1411) C1 dL_law_635 (by decide) ?_
        exact w_jmp (fun h => WM.widen (c := Z.2.2.1 + 4) (n := Z.2.2.2.1 + 24) (Nat.add_le_add_left (by decide) _) (Nat.add_le_add_left (by decide) _) (WM.less (L' := [some (.ref b), some (rf (zG Z) 0), some (rf (zG Z) 196), some (rf (zG Z) 230), some (.int i), none, none]) (hB _ h) ⟨rfl, rfl, rfl, rfl, rfl, trivial⟩))
      · exact w_bad hE
    · refine w_goto (tgt := 1411) C1 dL_law_635 (by decide) ?_
      exact w_jmp (fun h => WM.widen (c := Z.2.2.1 + 4) (n := Z.2.2.2.1 + 24) (Nat.add_le_add_left (by decide) _) (Nat.add_le_add_left (by decide) _) (WM.less (L' := [some (.ref b), some (rf (zG Z) 0), some (rf (zG Z) 196), some (rf (zG Z) 230), some (.int i), none, none]) (hB _ h) ⟨rfl, rfl, rfl, rfl, rfl, trivial⟩))
  · exact w_bad hE
def m_L_case12 (n : Nat) (xs : Nat → Int32) (i : Int32) (I : Mem) : Option (Mem ⊕ Unit) :=
  Option.bind (m_L_segments 0 230 I) fun r1 => Option.bind (m_X12_segments 196 r1.2) fun r2 => Option.bind (m_X12_thrown 196 r2.2) fun r3 => if r3 = r1.1 then (if r1.1 = 0 then (gd (inb 0 1) (if lg_cmp (r2.2 230 (0 : Int32).toNatClampNeg).toInt64 r2.1.toInt64 = 0 then (some (.inl r2.2)) else (some (.inr ())))) else (some (.inl r2.2))) else (some (.inr ()))
set_option maxRecDepth 100000 in
set_option maxHeartbeats 4000000 in
theorem m_L_case12_ok {Z : Zx} {K : Mem ⊕ Unit → Prop} (C : Cx Z code 7 RL) (hR : RM Z 13 472) (hst : (zl Z).stackTraces = false) (hNC : NCs (zs Z)) {b n : Nat} {xs : Nat → Int32} (X : LX Z b n xs) (i : Int32) (I : Mem) (hc : Z.2.2.1 + 4 ≤ (zR Z).cells) (hs : Z.2.2.2.1 + 24 ≤ (zR Z).slots) (hB : ∀ I', K (.inl I') → WM (Zb Z (Z.2.2.1 + 4) (Z.2.2.2.1 + 24)) I' 1411 [some (.ref b), some (rf (zG Z) 0), some (rf (zG Z) 196), some (rf (zG Z) 230), some (.int i), none, none] []) (hE : ¬ K (.inr ())) : WF Z K (m_L_case12 n xs i I) I 638 [some (.ref b), some (rf (zG Z) 0), some (rf (zG Z) 196), some (rf (zG Z) 230), some (.int i), none, none] [] := by
  unfold m_L_case12
  refine w_aload_n (v := 0) C dL_law_638 rfl (q := 639) rfl ?_
  refine w_aload_n (v := 230) C dL_law_639 rfl (q := 640) rfl ?_
  refine w_callSW (As := [rf (zG Z) 0, rf (zG Z) 230]) (st := []) (q := 643) C hR hNC (okA hc (by decide)) (okA hs (by decide)) (fun x h => c_L_segments (zl Z) hst (zG Z)  ho_0 ha_230 I h) mw_segments lk_L_144 rfl (by decide) (Nat.le_of_ble_eq_true rfl) rfl rfl dL_law_640 rfl (fun r1 => ?_)
  have C1 := C.bump (c := Z.2.2.1 + 1) (n := Z.2.2.2.1 + 6) (okA hc (by decide)) (okA hs (by decide))
  refine w_istore C1 dL_law_643 (Nat.le_of_ble_eq_true rfl) (L' := [some (.ref b), some (rf (zG Z) 0), some (rf (zG Z) 196), some (rf (zG Z) 230), some (.int i), some (.int r1.1), none]) rfl (q := 645) rfl ?_
  refine w_aload_n (v := 196) C1 dL_law_645 rfl (q := 646) rfl ?_
  refine w_callV (val := fun r2 => some (.int r2.1)) (mem := fun r2 => r2.2) (st1 := fun r2 => [.int r2.1]) (As := []) (st := []) (q := 649) C1 hR (fun x h => c_X12_segments (zl Z) (zG Z)  ho_196 r1.2 h) ho_196 mv_X12_segments lk_L_146 rfl (by decide) (fun _ => rfl) (Nat.le_of_ble_eq_true rfl) rfl rfl dL_law_646 rfl (fun r2 => ?_)
  refine w_istore C1 dL_law_649 (Nat.le_of_ble_eq_true rfl) (L' := [some (.ref b), some (rf (zG Z) 0), some (rf (zG Z) 196), some (rf (zG Z) 230), some (.int i), some (.int r1.1), some (.int r2.1)]) rfl (q := 651) rfl ?_
  refine w_aload_n (v := 196) C1 dL_law_651 rfl (q := 652) rfl ?_
  refine w_callV (val := fun r3 => some (.int r3)) (mem := fun r3 => r2.2) (st1 := fun r3 => [.int r3]) (As := []) (st := []) (q := 655) C1 hR (fun x h => c_X12_thrown (zl Z) (zG Z)  ho_196 r2.2 h) ho_196 mv_X12_thrown lk_L_100 rfl (by decide) (fun _ => rfl) (Nat.le_of_ble_eq_true rfl) rfl rfl dL_law_652 rfl (fun r3 => ?_)
  refine w_iload (v := r1.1) C1 dL_law_655 rfl (q := 657) rfl ?_
  refine w_icmp_eq (tgt := 662) (q := 660) C1 dL_law_657 (by decide) rfl (fun _ => ?_) (fun _ => ?_)
  · refine w_iload (v := r1.1) C1 dL_law_662 rfl (q := 664) rfl ?_
    refine w_if_ne (tgt := 679) (q := 667) C1 dL_law_664 (by decide) rfl (fun _ => ?_) (fun _ => ?_)
    · refine w_aload_n (v := 230) C1 dL_law_667 rfl (q := 668) rfl ?_
      refine w_iconst (v := (0)) C1 dL_law_668 (by decide) (q := 669) rfl ?_
      refine w_lald C1 ha_230 dL_law_669 (q := 670) rfl (fun _ => ?_)
      refine w_iload (v := r2.1) C1 dL_law_670 rfl (q := 672) rfl ?_
      refine w_i2l C1 dL_law_672 (q := 673) rfl ?_
      refine w_lcmp C1 dL_law_673 (q := 674) rfl ?_
      refine w_if_eq (tgt := 679) (q := 677) C1 dL_law_674 (by decide) rfl (fun _ => ?_) (fun _ => ?_)
      · refine w_goto (tgt := 1411) C1 dL_law_679 (by decide) ?_
        exact w_jmp (fun h => WM.widen (c := Z.2.2.1 + 4) (n := Z.2.2.2.1 + 24) (Nat.add_le_add_left (by decide) _) (Nat.add_le_add_left (by decide) _) (WM.less (L' := [some (.ref b), some (rf (zG Z) 0), some (rf (zG Z) 196), some (rf (zG Z) 230), some (.int i), none, none]) (hB _ h) ⟨rfl, rfl, rfl, rfl, rfl, trivial⟩))
      · exact w_bad hE
    · refine w_goto (tgt := 1411) C1 dL_law_679 (by decide) ?_
      exact w_jmp (fun h => WM.widen (c := Z.2.2.1 + 4) (n := Z.2.2.2.1 + 24) (Nat.add_le_add_left (by decide) _) (Nat.add_le_add_left (by decide) _) (WM.less (L' := [some (.ref b), some (rf (zG Z) 0), some (rf (zG Z) 196), some (rf (zG Z) 230), some (.int i), none, none]) (hB _ h) ⟨rfl, rfl, rfl, rfl, rfl, trivial⟩))
  · exact w_bad hE
def m_L_case13 (n : Nat) (xs : Nat → Int32) (i : Int32) (I : Mem) : Option (Mem ⊕ Unit) :=
  gd (inb (i + 1) n) (Option.bind (m_L_tag 0 (xs (i + 1).toNatClampNeg) 230 I) fun r1 => gd (inb (i + 1) n) (Option.bind (m_X12_tag 196 (xs (i + 1).toNatClampNeg) r1.2) fun r2 => Option.bind (m_X12_thrown 196 r2.2) fun r3 => if r3 = r1.1 then (if r1.1 = 0 then (gd (inb 0 1) (if lg_cmp (r2.2 230 (0 : Int32).toNatClampNeg).toInt64 r2.1.toInt64 = 0 then (some (.inl r2.2)) else (some (.inr ())))) else (some (.inl r2.2))) else (some (.inr ()))))
set_option maxRecDepth 100000 in
set_option maxHeartbeats 4000000 in
theorem m_L_case13_ok {Z : Zx} {K : Mem ⊕ Unit → Prop} (C : Cx Z code 7 RL) (hR : RM Z 13 472) (hst : (zl Z).stackTraces = false) (hNC : NCs (zs Z)) {b n : Nat} {xs : Nat → Int32} (X : LX Z b n xs) (i : Int32) (I : Mem) (hc : Z.2.2.1 + 4 ≤ (zR Z).cells) (hs : Z.2.2.2.1 + 24 ≤ (zR Z).slots) (hB : ∀ I', K (.inl I') → WM (Zb Z (Z.2.2.1 + 4) (Z.2.2.2.1 + 24)) I' 1411 [some (.ref b), some (rf (zG Z) 0), some (rf (zG Z) 196), some (rf (zG Z) 230), some (.int i), none, none] []) (hE : ¬ K (.inr ())) : WF Z K (m_L_case13 n xs i I) I 682 [some (.ref b), some (rf (zG Z) 0), some (rf (zG Z) 196), some (rf (zG Z) 230), some (.int i), none, none] [] := by
  unfold m_L_case13
  refine w_aload_n (v := 0) C dL_law_682 rfl (q := 683) rfl ?_
  refine w_aloadB (b := b) C dL_law_683 rfl (q := 684) rfl ?_
  refine w_iload (v := i) C dL_law_684 rfl (q := 686) rfl ?_
  refine w_iconst (v := (1)) C dL_law_686 (by decide) (q := 687) rfl ?_
  refine w_iadd C dL_law_687 (q := 688) rfl ?_
  refine w_sld C X dL_law_688 (q := 689) rfl (fun _ => ?_)
  refine w_aload_n (v := 230) C dL_law_689 rfl (q := 690) rfl ?_
  refine w_callSW (As := [rf (zG Z) 0, .int (xs (i + 1).toNatClampNeg), rf (zG Z) 230]) (st := []) (q := 693) C hR hNC (okA hc (by decide)) (okA hs (by decide)) (fun x h => c_L_tag (zl Z) hst (zG Z) (xs (i + 1).toNatClampNeg) ho_0 ha_230 I h) mw_tag lk_L_147 rfl (by decide) (Nat.le_of_ble_eq_true rfl) rfl rfl dL_law_690 rfl (fun r1 => ?_)
  have C1 := C.bump (c := Z.2.2.1 + 2) (n := Z.2.2.2.1 + 12) (okA hc (by decide)) (okA hs (by decide))
  refine w_istore C1 dL_law_693 (Nat.le_of_ble_eq_true rfl) (L' := [some (.ref b), some (rf (zG Z) 0), some (rf (zG Z) 196), some (rf (zG Z) 230), some (.int i), some (.int r1.1), none]) rfl (q := 695) rfl ?_
  refine w_aload_n (v := 196) C1 dL_law_695 rfl (q := 696) rfl ?_
  refine w_aloadB (b := b) C1 dL_law_696 rfl (q := 697) rfl ?_
  refine w_iload (v := i) C1 dL_law_697 rfl (q := 699) rfl ?_
  refine w_iconst (v := (1)) C1 dL_law_699 (by decide) (q := 700) rfl ?_
  refine w_iadd C1 dL_law_700 (q := 701) rfl ?_
  refine w_sld C1 X dL_law_701 (q := 702) rfl (fun _ => ?_)
  refine w_callV (val := fun r2 => some (.int r2.1)) (mem := fun r2 => r2.2) (st1 := fun r2 => [.int r2.1]) (As := [.int (xs (i + 1).toNatClampNeg)]) (st := []) (q := 705) C1 hR (fun x h => c_X12_tag (zl Z) (zG Z) (xs (i + 1).toNatClampNeg) ho_196 r1.2 h) ho_196 mv_X12_tag lk_L_149 rfl (by decide) (fun _ => rfl) (Nat.le_of_ble_eq_true rfl) rfl rfl dL_law_702 rfl (fun r2 => ?_)
  refine w_istore C1 dL_law_705 (Nat.le_of_ble_eq_true rfl) (L' := [some (.ref b), some (rf (zG Z) 0), some (rf (zG Z) 196), some (rf (zG Z) 230), some (.int i), some (.int r1.1), some (.int r2.1)]) rfl (q := 707) rfl ?_
  refine w_aload_n (v := 196) C1 dL_law_707 rfl (q := 708) rfl ?_
  refine w_callV (val := fun r3 => some (.int r3)) (mem := fun r3 => r2.2) (st1 := fun r3 => [.int r3]) (As := []) (st := []) (q := 711) C1 hR (fun x h => c_X12_thrown (zl Z) (zG Z)  ho_196 r2.2 h) ho_196 mv_X12_thrown lk_L_100 rfl (by decide) (fun _ => rfl) (Nat.le_of_ble_eq_true rfl) rfl rfl dL_law_708 rfl (fun r3 => ?_)
  refine w_iload (v := r1.1) C1 dL_law_711 rfl (q := 713) rfl ?_
  refine w_icmp_eq (tgt := 718) (q := 716) C1 dL_law_713 (by decide) rfl (fun _ => ?_) (fun _ => ?_)
  · refine w_iload (v := r1.1) C1 dL_law_718 rfl (q := 720) rfl ?_
    refine w_if_ne (tgt := 735) (q := 723) C1 dL_law_720 (by decide) rfl (fun _ => ?_) (fun _ => ?_)
    · refine w_aload_n (v := 230) C1 dL_law_723 rfl (q := 724) rfl ?_
      refine w_iconst (v := (0)) C1 dL_law_724 (by decide) (q := 725) rfl ?_
      refine w_lald C1 ha_230 dL_law_725 (q := 726) rfl (fun _ => ?_)
      refine w_iload (v := r2.1) C1 dL_law_726 rfl (q := 728) rfl ?_
      refine w_i2l C1 dL_law_728 (q := 729) rfl ?_
      refine w_lcmp C1 dL_law_729 (q := 730) rfl ?_
      refine w_if_eq (tgt := 735) (q := 733) C1 dL_law_730 (by decide) rfl (fun _ => ?_) (fun _ => ?_)
      · refine w_goto (tgt := 1411) C1 dL_law_735 (by decide) ?_
        exact w_jmp (fun h => WM.widen (c := Z.2.2.1 + 4) (n := Z.2.2.2.1 + 24) (Nat.add_le_add_left (by decide) _) (Nat.add_le_add_left (by decide) _) (WM.less (L' := [some (.ref b), some (rf (zG Z) 0), some (rf (zG Z) 196), some (rf (zG Z) 230), some (.int i), none, none]) (hB _ h) ⟨rfl, rfl, rfl, rfl, rfl, trivial⟩))
      · exact w_bad hE
    · refine w_goto (tgt := 1411) C1 dL_law_735 (by decide) ?_
      exact w_jmp (fun h => WM.widen (c := Z.2.2.1 + 4) (n := Z.2.2.2.1 + 24) (Nat.add_le_add_left (by decide) _) (Nat.add_le_add_left (by decide) _) (WM.less (L' := [some (.ref b), some (rf (zG Z) 0), some (rf (zG Z) 196), some (rf (zG Z) 230), some (.int i), none, none]) (hB _ h) ⟨rfl, rfl, rfl, rfl, rfl, trivial⟩))
  · exact w_bad hE
def m_L_case14 (n : Nat) (xs : Nat → Int32) (i : Int32) (I : Mem) : Option (Mem ⊕ Unit) :=
  gd (inb (i + 1) n) (Option.bind (m_L_elements 0 (xs (i + 1).toNatClampNeg) 230 I) fun r1 => gd (inb (i + 1) n) (Option.bind (m_X12_elements 196 (xs (i + 1).toNatClampNeg) r1.2) fun r2 => Option.bind (m_X12_thrown 196 r2.2) fun r3 => if r3 = r1.1 then (if r1.1 = 0 then (gd (inb 0 1) (if lg_cmp (r2.2 230 (0 : Int32).toNatClampNeg).toInt64 r2.1.toInt64 = 0 then (some (.inl r2.2)) else (some (.inr ())))) else (some (.inl r2.2))) else (some (.inr ()))))
set_option maxRecDepth 100000 in
set_option maxHeartbeats 4000000 in
theorem m_L_case14_ok {Z : Zx} {K : Mem ⊕ Unit → Prop} (C : Cx Z code 7 RL) (hR : RM Z 13 472) (hst : (zl Z).stackTraces = false) (hNC : NCs (zs Z)) {b n : Nat} {xs : Nat → Int32} (X : LX Z b n xs) (i : Int32) (I : Mem) (hc : Z.2.2.1 + 4 ≤ (zR Z).cells) (hs : Z.2.2.2.1 + 24 ≤ (zR Z).slots) (hB : ∀ I', K (.inl I') → WM (Zb Z (Z.2.2.1 + 4) (Z.2.2.2.1 + 24)) I' 1411 [some (.ref b), some (rf (zG Z) 0), some (rf (zG Z) 196), some (rf (zG Z) 230), some (.int i), none, none] []) (hE : ¬ K (.inr ())) : WF Z K (m_L_case14 n xs i I) I 738 [some (.ref b), some (rf (zG Z) 0), some (rf (zG Z) 196), some (rf (zG Z) 230), some (.int i), none, none] [] := by
  unfold m_L_case14
  refine w_aload_n (v := 0) C dL_law_738 rfl (q := 739) rfl ?_
  refine w_aloadB (b := b) C dL_law_739 rfl (q := 740) rfl ?_
  refine w_iload (v := i) C dL_law_740 rfl (q := 742) rfl ?_
  refine w_iconst (v := (1)) C dL_law_742 (by decide) (q := 743) rfl ?_
  refine w_iadd C dL_law_743 (q := 744) rfl ?_
  refine w_sld C X dL_law_744 (q := 745) rfl (fun _ => ?_)
  refine w_aload_n (v := 230) C dL_law_745 rfl (q := 746) rfl ?_
  refine w_callSW (As := [rf (zG Z) 0, .int (xs (i + 1).toNatClampNeg), rf (zG Z) 230]) (st := []) (q := 749) C hR hNC (okA hc (by decide)) (okA hs (by decide)) (fun x h => c_L_elements (zl Z) hst (zG Z) (xs (i + 1).toNatClampNeg) ho_0 ha_230 I h) mw_elements lk_L_150 rfl (by decide) (Nat.le_of_ble_eq_true rfl) rfl rfl dL_law_746 rfl (fun r1 => ?_)
  have C1 := C.bump (c := Z.2.2.1 + 2) (n := Z.2.2.2.1 + 12) (okA hc (by decide)) (okA hs (by decide))
  refine w_istore C1 dL_law_749 (Nat.le_of_ble_eq_true rfl) (L' := [some (.ref b), some (rf (zG Z) 0), some (rf (zG Z) 196), some (rf (zG Z) 230), some (.int i), some (.int r1.1), none]) rfl (q := 751) rfl ?_
  refine w_aload_n (v := 196) C1 dL_law_751 rfl (q := 752) rfl ?_
  refine w_aloadB (b := b) C1 dL_law_752 rfl (q := 753) rfl ?_
  refine w_iload (v := i) C1 dL_law_753 rfl (q := 755) rfl ?_
  refine w_iconst (v := (1)) C1 dL_law_755 (by decide) (q := 756) rfl ?_
  refine w_iadd C1 dL_law_756 (q := 757) rfl ?_
  refine w_sld C1 X dL_law_757 (q := 758) rfl (fun _ => ?_)
  refine w_callV (val := fun r2 => some (.int r2.1)) (mem := fun r2 => r2.2) (st1 := fun r2 => [.int r2.1]) (As := [.int (xs (i + 1).toNatClampNeg)]) (st := []) (q := 761) C1 hR (fun x h => c_X12_elements (zl Z) (zG Z) (xs (i + 1).toNatClampNeg) ho_196 r1.2 h) ho_196 mv_X12_elements lk_L_152 rfl (by decide) (fun _ => rfl) (Nat.le_of_ble_eq_true rfl) rfl rfl dL_law_758 rfl (fun r2 => ?_)
  refine w_istore C1 dL_law_761 (Nat.le_of_ble_eq_true rfl) (L' := [some (.ref b), some (rf (zG Z) 0), some (rf (zG Z) 196), some (rf (zG Z) 230), some (.int i), some (.int r1.1), some (.int r2.1)]) rfl (q := 763) rfl ?_
  refine w_aload_n (v := 196) C1 dL_law_763 rfl (q := 764) rfl ?_
  refine w_callV (val := fun r3 => some (.int r3)) (mem := fun r3 => r2.2) (st1 := fun r3 => [.int r3]) (As := []) (st := []) (q := 767) C1 hR (fun x h => c_X12_thrown (zl Z) (zG Z)  ho_196 r2.2 h) ho_196 mv_X12_thrown lk_L_100 rfl (by decide) (fun _ => rfl) (Nat.le_of_ble_eq_true rfl) rfl rfl dL_law_764 rfl (fun r3 => ?_)
  refine w_iload (v := r1.1) C1 dL_law_767 rfl (q := 769) rfl ?_
  refine w_icmp_eq (tgt := 774) (q := 772) C1 dL_law_769 (by decide) rfl (fun _ => ?_) (fun _ => ?_)
  · refine w_iload (v := r1.1) C1 dL_law_774 rfl (q := 776) rfl ?_
    refine w_if_ne (tgt := 791) (q := 779) C1 dL_law_776 (by decide) rfl (fun _ => ?_) (fun _ => ?_)
    · refine w_aload_n (v := 230) C1 dL_law_779 rfl (q := 780) rfl ?_
      refine w_iconst (v := (0)) C1 dL_law_780 (by decide) (q := 781) rfl ?_
      refine w_lald C1 ha_230 dL_law_781 (q := 782) rfl (fun _ => ?_)
      refine w_iload (v := r2.1) C1 dL_law_782 rfl (q := 784) rfl ?_
      refine w_i2l C1 dL_law_784 (q := 785) rfl ?_
      refine w_lcmp C1 dL_law_785 (q := 786) rfl ?_
      refine w_if_eq (tgt := 791) (q := 789) C1 dL_law_786 (by decide) rfl (fun _ => ?_) (fun _ => ?_)
      · refine w_goto (tgt := 1411) C1 dL_law_791 (by decide) ?_
        exact w_jmp (fun h => WM.widen (c := Z.2.2.1 + 4) (n := Z.2.2.2.1 + 24) (Nat.add_le_add_left (by decide) _) (Nat.add_le_add_left (by decide) _) (WM.less (L' := [some (.ref b), some (rf (zG Z) 0), some (rf (zG Z) 196), some (rf (zG Z) 230), some (.int i), none, none]) (hB _ h) ⟨rfl, rfl, rfl, rfl, rfl, trivial⟩))
      · exact w_bad hE
    · refine w_goto (tgt := 1411) C1 dL_law_791 (by decide) ?_
      exact w_jmp (fun h => WM.widen (c := Z.2.2.1 + 4) (n := Z.2.2.2.1 + 24) (Nat.add_le_add_left (by decide) _) (Nat.add_le_add_left (by decide) _) (WM.less (L' := [some (.ref b), some (rf (zG Z) 0), some (rf (zG Z) 196), some (rf (zG Z) 230), some (.int i), none, none]) (hB _ h) ⟨rfl, rfl, rfl, rfl, rfl, trivial⟩))
  · exact w_bad hE
def m_L_case15 (n : Nat) (xs : Nat → Int32) (i : Int32) (I : Mem) : Option (Mem ⊕ Unit) :=
  gd (inb (i + 1) n) (gd (inb (i + 2) n) (Option.bind (m_L_contentLength 0 (xs (i + 1).toNatClampNeg) (xs (i + 2).toNatClampNeg) 230 I) fun r1 => gd (inb (i + 1) n) (gd (inb (i + 2) n) (Option.bind (m_X12_contentLength 196 (xs (i + 1).toNatClampNeg) (xs (i + 2).toNatClampNeg) r1.2) fun r2 => Option.bind (m_X12_thrown 196 r2.2) fun r3 => if r3 = r1.1 then (if r1.1 = 0 then (gd (inb 0 1) (if lg_cmp (r2.2 230 (0 : Int32).toNatClampNeg).toInt64 r2.1.toInt64 = 0 then (some (.inl r2.2)) else (some (.inr ())))) else (some (.inl r2.2))) else (some (.inr ()))))))
set_option maxRecDepth 100000 in
set_option maxHeartbeats 4000000 in
theorem m_L_case15_ok {Z : Zx} {K : Mem ⊕ Unit → Prop} (C : Cx Z code 7 RL) (hR : RM Z 13 472) (hst : (zl Z).stackTraces = false) (hNC : NCs (zs Z)) {b n : Nat} {xs : Nat → Int32} (X : LX Z b n xs) (i : Int32) (I : Mem) (hc : Z.2.2.1 + 4 ≤ (zR Z).cells) (hs : Z.2.2.2.1 + 24 ≤ (zR Z).slots) (hB : ∀ I', K (.inl I') → WM (Zb Z (Z.2.2.1 + 4) (Z.2.2.2.1 + 24)) I' 1411 [some (.ref b), some (rf (zG Z) 0), some (rf (zG Z) 196), some (rf (zG Z) 230), some (.int i), none, none] []) (hE : ¬ K (.inr ())) : WF Z K (m_L_case15 n xs i I) I 794 [some (.ref b), some (rf (zG Z) 0), some (rf (zG Z) 196), some (rf (zG Z) 230), some (.int i), none, none] [] := by
  unfold m_L_case15
  refine w_aload_n (v := 0) C dL_law_794 rfl (q := 795) rfl ?_
  refine w_aloadB (b := b) C dL_law_795 rfl (q := 796) rfl ?_
  refine w_iload (v := i) C dL_law_796 rfl (q := 798) rfl ?_
  refine w_iconst (v := (1)) C dL_law_798 (by decide) (q := 799) rfl ?_
  refine w_iadd C dL_law_799 (q := 800) rfl ?_
  refine w_sld C X dL_law_800 (q := 801) rfl (fun _ => ?_)
  refine w_aloadB (b := b) C dL_law_801 rfl (q := 802) rfl ?_
  refine w_iload (v := i) C dL_law_802 rfl (q := 804) rfl ?_
  refine w_iconst (v := (2)) C dL_law_804 (by decide) (q := 805) rfl ?_
  refine w_iadd C dL_law_805 (q := 806) rfl ?_
  refine w_sld C X dL_law_806 (q := 807) rfl (fun _ => ?_)
  refine w_aload_n (v := 230) C dL_law_807 rfl (q := 808) rfl ?_
  refine w_callSW (As := [rf (zG Z) 0, .int (xs (i + 1).toNatClampNeg), .int (xs (i + 2).toNatClampNeg), rf (zG Z) 230]) (st := []) (q := 811) C hR hNC (okA hc (by decide)) (okA hs (by decide)) (fun x h => c_L_contentLength (zl Z) hst (zG Z) (xs (i + 1).toNatClampNeg) (xs (i + 2).toNatClampNeg) ho_0 ha_230 I h) mw_contentLength lk_L_153 rfl (by decide) (Nat.le_of_ble_eq_true rfl) rfl rfl dL_law_808 rfl (fun r1 => ?_)
  have C1 := C.bump (c := Z.2.2.1 + 3) (n := Z.2.2.2.1 + 18) (okA hc (by decide)) (okA hs (by decide))
  refine w_istore C1 dL_law_811 (Nat.le_of_ble_eq_true rfl) (L' := [some (.ref b), some (rf (zG Z) 0), some (rf (zG Z) 196), some (rf (zG Z) 230), some (.int i), some (.int r1.1), none]) rfl (q := 813) rfl ?_
  refine w_aload_n (v := 196) C1 dL_law_813 rfl (q := 814) rfl ?_
  refine w_aloadB (b := b) C1 dL_law_814 rfl (q := 815) rfl ?_
  refine w_iload (v := i) C1 dL_law_815 rfl (q := 817) rfl ?_
  refine w_iconst (v := (1)) C1 dL_law_817 (by decide) (q := 818) rfl ?_
  refine w_iadd C1 dL_law_818 (q := 819) rfl ?_
  refine w_sld C1 X dL_law_819 (q := 820) rfl (fun _ => ?_)
  refine w_aloadB (b := b) C1 dL_law_820 rfl (q := 821) rfl ?_
  refine w_iload (v := i) C1 dL_law_821 rfl (q := 823) rfl ?_
  refine w_iconst (v := (2)) C1 dL_law_823 (by decide) (q := 824) rfl ?_
  refine w_iadd C1 dL_law_824 (q := 825) rfl ?_
  refine w_sld C1 X dL_law_825 (q := 826) rfl (fun _ => ?_)
  refine w_callV (val := fun r2 => some (.int r2.1)) (mem := fun r2 => r2.2) (st1 := fun r2 => [.int r2.1]) (As := [.int (xs (i + 1).toNatClampNeg), .int (xs (i + 2).toNatClampNeg)]) (st := []) (q := 829) C1 hR (fun x h => c_X12_contentLength (zl Z) (zG Z) (xs (i + 1).toNatClampNeg) (xs (i + 2).toNatClampNeg) ho_196 r1.2 h) ho_196 mv_X12_contentLength lk_L_156 rfl (by decide) (fun _ => rfl) (Nat.le_of_ble_eq_true rfl) rfl rfl dL_law_826 rfl (fun r2 => ?_)
  refine w_istore C1 dL_law_829 (Nat.le_of_ble_eq_true rfl) (L' := [some (.ref b), some (rf (zG Z) 0), some (rf (zG Z) 196), some (rf (zG Z) 230), some (.int i), some (.int r1.1), some (.int r2.1)]) rfl (q := 831) rfl ?_
  refine w_aload_n (v := 196) C1 dL_law_831 rfl (q := 832) rfl ?_
  refine w_callV (val := fun r3 => some (.int r3)) (mem := fun r3 => r2.2) (st1 := fun r3 => [.int r3]) (As := []) (st := []) (q := 835) C1 hR (fun x h => c_X12_thrown (zl Z) (zG Z)  ho_196 r2.2 h) ho_196 mv_X12_thrown lk_L_100 rfl (by decide) (fun _ => rfl) (Nat.le_of_ble_eq_true rfl) rfl rfl dL_law_832 rfl (fun r3 => ?_)
  refine w_iload (v := r1.1) C1 dL_law_835 rfl (q := 837) rfl ?_
  refine w_icmp_eq (tgt := 842) (q := 840) C1 dL_law_837 (by decide) rfl (fun _ => ?_) (fun _ => ?_)
  · refine w_iload (v := r1.1) C1 dL_law_842 rfl (q := 844) rfl ?_
    refine w_if_ne (tgt := 859) (q := 847) C1 dL_law_844 (by decide) rfl (fun _ => ?_) (fun _ => ?_)
    · refine w_aload_n (v := 230) C1 dL_law_847 rfl (q := 848) rfl ?_
      refine w_iconst (v := (0)) C1 dL_law_848 (by decide) (q := 849) rfl ?_
      refine w_lald C1 ha_230 dL_law_849 (q := 850) rfl (fun _ => ?_)
      refine w_iload (v := r2.1) C1 dL_law_850 rfl (q := 852) rfl ?_
      refine w_i2l C1 dL_law_852 (q := 853) rfl ?_
      refine w_lcmp C1 dL_law_853 (q := 854) rfl ?_
      refine w_if_eq (tgt := 859) (q := 857) C1 dL_law_854 (by decide) rfl (fun _ => ?_) (fun _ => ?_)
      · refine w_goto (tgt := 1411) C1 dL_law_859 (by decide) ?_
        exact w_jmp (fun h => WM.widen (c := Z.2.2.1 + 4) (n := Z.2.2.2.1 + 24) (Nat.add_le_add_left (by decide) _) (Nat.add_le_add_left (by decide) _) (WM.less (L' := [some (.ref b), some (rf (zG Z) 0), some (rf (zG Z) 196), some (rf (zG Z) 230), some (.int i), none, none]) (hB _ h) ⟨rfl, rfl, rfl, rfl, rfl, trivial⟩))
      · exact w_bad hE
    · refine w_goto (tgt := 1411) C1 dL_law_859 (by decide) ?_
      exact w_jmp (fun h => WM.widen (c := Z.2.2.1 + 4) (n := Z.2.2.2.1 + 24) (Nat.add_le_add_left (by decide) _) (Nat.add_le_add_left (by decide) _) (WM.less (L' := [some (.ref b), some (rf (zG Z) 0), some (rf (zG Z) 196), some (rf (zG Z) 230), some (.int i), none, none]) (hB _ h) ⟨rfl, rfl, rfl, rfl, rfl, trivial⟩))
  · exact w_bad hE
def m_L_case16 (n : Nat) (xs : Nat → Int32) (i : Int32) (I : Mem) : Option (Mem ⊕ Unit) :=
  gd (inb (i + 1) n) (gd (inb (i + 2) n) (gd (inb (i + 3) n) (Option.bind (m_L_content 0 (xs (i + 1).toNatClampNeg) (xs (i + 2).toNatClampNeg) (xs (i + 3).toNatClampNeg) 230 I) fun r1 => gd (inb (i + 1) n) (gd (inb (i + 2) n) (gd (inb (i + 3) n) (Option.bind (m_X12_content 196 (xs (i + 1).toNatClampNeg) (xs (i + 2).toNatClampNeg) (xs (i + 3).toNatClampNeg) r1.2) fun r2 => Option.bind (m_X12_thrown 196 r2.2) fun r3 => if r3 = r1.1 then (if r1.1 = 0 then (gd (inb 0 1) (if lg_cmp (r2.2 230 (0 : Int32).toNatClampNeg).toInt64 r2.1.toInt64 = 0 then (some (.inl r2.2)) else (some (.inr ())))) else (some (.inl r2.2))) else (some (.inr ()))))))))
set_option maxRecDepth 100000 in
set_option maxHeartbeats 4000000 in
theorem m_L_case16_ok {Z : Zx} {K : Mem ⊕ Unit → Prop} (C : Cx Z code 7 RL) (hR : RM Z 13 472) (hst : (zl Z).stackTraces = false) (hNC : NCs (zs Z)) {b n : Nat} {xs : Nat → Int32} (X : LX Z b n xs) (i : Int32) (I : Mem) (hc : Z.2.2.1 + 4 ≤ (zR Z).cells) (hs : Z.2.2.2.1 + 24 ≤ (zR Z).slots) (hB : ∀ I', K (.inl I') → WM (Zb Z (Z.2.2.1 + 4) (Z.2.2.2.1 + 24)) I' 1411 [some (.ref b), some (rf (zG Z) 0), some (rf (zG Z) 196), some (rf (zG Z) 230), some (.int i), none, none] []) (hE : ¬ K (.inr ())) : WF Z K (m_L_case16 n xs i I) I 862 [some (.ref b), some (rf (zG Z) 0), some (rf (zG Z) 196), some (rf (zG Z) 230), some (.int i), none, none] [] := by
  unfold m_L_case16
  refine w_aload_n (v := 0) C dL_law_862 rfl (q := 863) rfl ?_
  refine w_aloadB (b := b) C dL_law_863 rfl (q := 864) rfl ?_
  refine w_iload (v := i) C dL_law_864 rfl (q := 866) rfl ?_
  refine w_iconst (v := (1)) C dL_law_866 (by decide) (q := 867) rfl ?_
  refine w_iadd C dL_law_867 (q := 868) rfl ?_
  refine w_sld C X dL_law_868 (q := 869) rfl (fun _ => ?_)
  refine w_aloadB (b := b) C dL_law_869 rfl (q := 870) rfl ?_
  refine w_iload (v := i) C dL_law_870 rfl (q := 872) rfl ?_
  refine w_iconst (v := (2)) C dL_law_872 (by decide) (q := 873) rfl ?_
  refine w_iadd C dL_law_873 (q := 874) rfl ?_
  refine w_sld C X dL_law_874 (q := 875) rfl (fun _ => ?_)
  refine w_aloadB (b := b) C dL_law_875 rfl (q := 876) rfl ?_
  refine w_iload (v := i) C dL_law_876 rfl (q := 878) rfl ?_
  refine w_iconst (v := (3)) C dL_law_878 (by decide) (q := 879) rfl ?_
  refine w_iadd C dL_law_879 (q := 880) rfl ?_
  refine w_sld C X dL_law_880 (q := 881) rfl (fun _ => ?_)
  refine w_aload_n (v := 230) C dL_law_881 rfl (q := 882) rfl ?_
  refine w_callSW (As := [rf (zG Z) 0, .int (xs (i + 1).toNatClampNeg), .int (xs (i + 2).toNatClampNeg), .int (xs (i + 3).toNatClampNeg), rf (zG Z) 230]) (st := []) (q := 885) C hR hNC (okA hc (by decide)) (okA hs (by decide)) (fun x h => c_L_content (zl Z) hst (zG Z) (xs (i + 1).toNatClampNeg) (xs (i + 2).toNatClampNeg) (xs (i + 3).toNatClampNeg) ho_0 ha_230 I h) mw_content lk_L_157 rfl (by decide) (Nat.le_of_ble_eq_true rfl) rfl rfl dL_law_882 rfl (fun r1 => ?_)
  have C1 := C.bump (c := Z.2.2.1 + 4) (n := Z.2.2.2.1 + 24) (okA hc (by decide)) (okA hs (by decide))
  refine w_istore C1 dL_law_885 (Nat.le_of_ble_eq_true rfl) (L' := [some (.ref b), some (rf (zG Z) 0), some (rf (zG Z) 196), some (rf (zG Z) 230), some (.int i), some (.int r1.1), none]) rfl (q := 887) rfl ?_
  refine w_aload_n (v := 196) C1 dL_law_887 rfl (q := 888) rfl ?_
  refine w_aloadB (b := b) C1 dL_law_888 rfl (q := 889) rfl ?_
  refine w_iload (v := i) C1 dL_law_889 rfl (q := 891) rfl ?_
  refine w_iconst (v := (1)) C1 dL_law_891 (by decide) (q := 892) rfl ?_
  refine w_iadd C1 dL_law_892 (q := 893) rfl ?_
  refine w_sld C1 X dL_law_893 (q := 894) rfl (fun _ => ?_)
  refine w_aloadB (b := b) C1 dL_law_894 rfl (q := 895) rfl ?_
  refine w_iload (v := i) C1 dL_law_895 rfl (q := 897) rfl ?_
  refine w_iconst (v := (2)) C1 dL_law_897 (by decide) (q := 898) rfl ?_
  refine w_iadd C1 dL_law_898 (q := 899) rfl ?_
  refine w_sld C1 X dL_law_899 (q := 900) rfl (fun _ => ?_)
  refine w_aloadB (b := b) C1 dL_law_900 rfl (q := 901) rfl ?_
  refine w_iload (v := i) C1 dL_law_901 rfl (q := 903) rfl ?_
  refine w_iconst (v := (3)) C1 dL_law_903 (by decide) (q := 904) rfl ?_
  refine w_iadd C1 dL_law_904 (q := 905) rfl ?_
  refine w_sld C1 X dL_law_905 (q := 906) rfl (fun _ => ?_)
  refine w_callV (val := fun r2 => some (.int r2.1)) (mem := fun r2 => r2.2) (st1 := fun r2 => [.int r2.1]) (As := [.int (xs (i + 1).toNatClampNeg), .int (xs (i + 2).toNatClampNeg), .int (xs (i + 3).toNatClampNeg)]) (st := []) (q := 909) C1 hR (fun x h => c_X12_content (zl Z) (zG Z) (xs (i + 1).toNatClampNeg) (xs (i + 2).toNatClampNeg) (xs (i + 3).toNatClampNeg) ho_196 r1.2 h) ho_196 mv_X12_content lk_L_160 rfl (by decide) (fun _ => rfl) (Nat.le_of_ble_eq_true rfl) rfl rfl dL_law_906 rfl (fun r2 => ?_)
  refine w_istore C1 dL_law_909 (Nat.le_of_ble_eq_true rfl) (L' := [some (.ref b), some (rf (zG Z) 0), some (rf (zG Z) 196), some (rf (zG Z) 230), some (.int i), some (.int r1.1), some (.int r2.1)]) rfl (q := 911) rfl ?_
  refine w_aload_n (v := 196) C1 dL_law_911 rfl (q := 912) rfl ?_
  refine w_callV (val := fun r3 => some (.int r3)) (mem := fun r3 => r2.2) (st1 := fun r3 => [.int r3]) (As := []) (st := []) (q := 915) C1 hR (fun x h => c_X12_thrown (zl Z) (zG Z)  ho_196 r2.2 h) ho_196 mv_X12_thrown lk_L_100 rfl (by decide) (fun _ => rfl) (Nat.le_of_ble_eq_true rfl) rfl rfl dL_law_912 rfl (fun r3 => ?_)
  refine w_iload (v := r1.1) C1 dL_law_915 rfl (q := 917) rfl ?_
  refine w_icmp_eq (tgt := 922) (q := 920) C1 dL_law_917 (by decide) rfl (fun _ => ?_) (fun _ => ?_)
  · refine w_iload (v := r1.1) C1 dL_law_922 rfl (q := 924) rfl ?_
    refine w_if_ne (tgt := 939) (q := 927) C1 dL_law_924 (by decide) rfl (fun _ => ?_) (fun _ => ?_)
    · refine w_aload_n (v := 230) C1 dL_law_927 rfl (q := 928) rfl ?_
      refine w_iconst (v := (0)) C1 dL_law_928 (by decide) (q := 929) rfl ?_
      refine w_lald C1 ha_230 dL_law_929 (q := 930) rfl (fun _ => ?_)
      refine w_iload (v := r2.1) C1 dL_law_930 rfl (q := 932) rfl ?_
      refine w_i2l C1 dL_law_932 (q := 933) rfl ?_
      refine w_lcmp C1 dL_law_933 (q := 934) rfl ?_
      refine w_if_eq (tgt := 939) (q := 937) C1 dL_law_934 (by decide) rfl (fun _ => ?_) (fun _ => ?_)
      · refine w_goto (tgt := 1411) C1 dL_law_939 (by decide) ?_
        exact w_jmp (fun h => WM.widen (c := Z.2.2.1 + 4) (n := Z.2.2.2.1 + 24) (Nat.add_le_add_left (by decide) _) (Nat.add_le_add_left (by decide) _) (WM.less (L' := [some (.ref b), some (rf (zG Z) 0), some (rf (zG Z) 196), some (rf (zG Z) 230), some (.int i), none, none]) (hB _ h) ⟨rfl, rfl, rfl, rfl, rfl, trivial⟩))
      · exact w_bad hE
    · refine w_goto (tgt := 1411) C1 dL_law_939 (by decide) ?_
      exact w_jmp (fun h => WM.widen (c := Z.2.2.1 + 4) (n := Z.2.2.2.1 + 24) (Nat.add_le_add_left (by decide) _) (Nat.add_le_add_left (by decide) _) (WM.less (L' := [some (.ref b), some (rf (zG Z) 0), some (rf (zG Z) 196), some (rf (zG Z) 230), some (.int i), none, none]) (hB _ h) ⟨rfl, rfl, rfl, rfl, rfl, trivial⟩))
  · exact w_bad hE
def m_L_case17 (n : Nat) (xs : Nat → Int32) (i : Int32) (I : Mem) : Option (Mem ⊕ Unit) :=
  gd (inb (i + 1) n) (Option.bind (m_L_item 0 (xs (i + 1).toNatClampNeg) 230 I) fun r1 => gd (inb (i + 1) n) (Option.bind (m_X12_item 196 (xs (i + 1).toNatClampNeg) r1.2) fun r2 => Option.bind (m_X12_thrown 196 r2.2) fun r3 => if r3 = r1.1 then (if r1.1 = 0 then (gd (inb 0 1) (if lg_cmp (r2.2 230 (0 : Int32).toNatClampNeg).toInt64 r2.1.toInt64 = 0 then (some (.inl r2.2)) else (some (.inr ())))) else (some (.inl r2.2))) else (some (.inr ()))))
set_option maxRecDepth 100000 in
set_option maxHeartbeats 4000000 in
theorem m_L_case17_ok {Z : Zx} {K : Mem ⊕ Unit → Prop} (C : Cx Z code 7 RL) (hR : RM Z 13 472) (hst : (zl Z).stackTraces = false) (hNC : NCs (zs Z)) {b n : Nat} {xs : Nat → Int32} (X : LX Z b n xs) (i : Int32) (I : Mem) (hc : Z.2.2.1 + 4 ≤ (zR Z).cells) (hs : Z.2.2.2.1 + 24 ≤ (zR Z).slots) (hB : ∀ I', K (.inl I') → WM (Zb Z (Z.2.2.1 + 4) (Z.2.2.2.1 + 24)) I' 1411 [some (.ref b), some (rf (zG Z) 0), some (rf (zG Z) 196), some (rf (zG Z) 230), some (.int i), none, none] []) (hE : ¬ K (.inr ())) : WF Z K (m_L_case17 n xs i I) I 942 [some (.ref b), some (rf (zG Z) 0), some (rf (zG Z) 196), some (rf (zG Z) 230), some (.int i), none, none] [] := by
  unfold m_L_case17
  refine w_aload_n (v := 0) C dL_law_942 rfl (q := 943) rfl ?_
  refine w_aloadB (b := b) C dL_law_943 rfl (q := 944) rfl ?_
  refine w_iload (v := i) C dL_law_944 rfl (q := 946) rfl ?_
  refine w_iconst (v := (1)) C dL_law_946 (by decide) (q := 947) rfl ?_
  refine w_iadd C dL_law_947 (q := 948) rfl ?_
  refine w_sld C X dL_law_948 (q := 949) rfl (fun _ => ?_)
  refine w_aload_n (v := 230) C dL_law_949 rfl (q := 950) rfl ?_
  refine w_callSW (As := [rf (zG Z) 0, .int (xs (i + 1).toNatClampNeg), rf (zG Z) 230]) (st := []) (q := 953) C hR hNC (okA hc (by decide)) (okA hs (by decide)) (fun x h => c_L_item (zl Z) hst (zG Z) (xs (i + 1).toNatClampNeg) ho_0 ha_230 I h) mw_item lk_L_161 rfl (by decide) (Nat.le_of_ble_eq_true rfl) rfl rfl dL_law_950 rfl (fun r1 => ?_)
  have C1 := C.bump (c := Z.2.2.1 + 2) (n := Z.2.2.2.1 + 12) (okA hc (by decide)) (okA hs (by decide))
  refine w_istore C1 dL_law_953 (Nat.le_of_ble_eq_true rfl) (L' := [some (.ref b), some (rf (zG Z) 0), some (rf (zG Z) 196), some (rf (zG Z) 230), some (.int i), some (.int r1.1), none]) rfl (q := 955) rfl ?_
  refine w_aload_n (v := 196) C1 dL_law_955 rfl (q := 956) rfl ?_
  refine w_aloadB (b := b) C1 dL_law_956 rfl (q := 957) rfl ?_
  refine w_iload (v := i) C1 dL_law_957 rfl (q := 959) rfl ?_
  refine w_iconst (v := (1)) C1 dL_law_959 (by decide) (q := 960) rfl ?_
  refine w_iadd C1 dL_law_960 (q := 961) rfl ?_
  refine w_sld C1 X dL_law_961 (q := 962) rfl (fun _ => ?_)
  refine w_callV (val := fun r2 => some (.int r2.1)) (mem := fun r2 => r2.2) (st1 := fun r2 => [.int r2.1]) (As := [.int (xs (i + 1).toNatClampNeg)]) (st := []) (q := 965) C1 hR (fun x h => c_X12_item (zl Z) (zG Z) (xs (i + 1).toNatClampNeg) ho_196 r1.2 h) ho_196 mv_X12_item lk_L_163 rfl (by decide) (fun _ => rfl) (Nat.le_of_ble_eq_true rfl) rfl rfl dL_law_962 rfl (fun r2 => ?_)
  refine w_istore C1 dL_law_965 (Nat.le_of_ble_eq_true rfl) (L' := [some (.ref b), some (rf (zG Z) 0), some (rf (zG Z) 196), some (rf (zG Z) 230), some (.int i), some (.int r1.1), some (.int r2.1)]) rfl (q := 967) rfl ?_
  refine w_aload_n (v := 196) C1 dL_law_967 rfl (q := 968) rfl ?_
  refine w_callV (val := fun r3 => some (.int r3)) (mem := fun r3 => r2.2) (st1 := fun r3 => [.int r3]) (As := []) (st := []) (q := 971) C1 hR (fun x h => c_X12_thrown (zl Z) (zG Z)  ho_196 r2.2 h) ho_196 mv_X12_thrown lk_L_100 rfl (by decide) (fun _ => rfl) (Nat.le_of_ble_eq_true rfl) rfl rfl dL_law_968 rfl (fun r3 => ?_)
  refine w_iload (v := r1.1) C1 dL_law_971 rfl (q := 973) rfl ?_
  refine w_icmp_eq (tgt := 978) (q := 976) C1 dL_law_973 (by decide) rfl (fun _ => ?_) (fun _ => ?_)
  · refine w_iload (v := r1.1) C1 dL_law_978 rfl (q := 980) rfl ?_
    refine w_if_ne (tgt := 995) (q := 983) C1 dL_law_980 (by decide) rfl (fun _ => ?_) (fun _ => ?_)
    · refine w_aload_n (v := 230) C1 dL_law_983 rfl (q := 984) rfl ?_
      refine w_iconst (v := (0)) C1 dL_law_984 (by decide) (q := 985) rfl ?_
      refine w_lald C1 ha_230 dL_law_985 (q := 986) rfl (fun _ => ?_)
      refine w_iload (v := r2.1) C1 dL_law_986 rfl (q := 988) rfl ?_
      refine w_i2l C1 dL_law_988 (q := 989) rfl ?_
      refine w_lcmp C1 dL_law_989 (q := 990) rfl ?_
      refine w_if_eq (tgt := 995) (q := 993) C1 dL_law_990 (by decide) rfl (fun _ => ?_) (fun _ => ?_)
      · refine w_goto (tgt := 1411) C1 dL_law_995 (by decide) ?_
        exact w_jmp (fun h => WM.widen (c := Z.2.2.1 + 4) (n := Z.2.2.2.1 + 24) (Nat.add_le_add_left (by decide) _) (Nat.add_le_add_left (by decide) _) (WM.less (L' := [some (.ref b), some (rf (zG Z) 0), some (rf (zG Z) 196), some (rf (zG Z) 230), some (.int i), none, none]) (hB _ h) ⟨rfl, rfl, rfl, rfl, rfl, trivial⟩))
      · exact w_bad hE
    · refine w_goto (tgt := 1411) C1 dL_law_995 (by decide) ?_
      exact w_jmp (fun h => WM.widen (c := Z.2.2.1 + 4) (n := Z.2.2.2.1 + 24) (Nat.add_le_add_left (by decide) _) (Nat.add_le_add_left (by decide) _) (WM.less (L' := [some (.ref b), some (rf (zG Z) 0), some (rf (zG Z) 196), some (rf (zG Z) 230), some (.int i), none, none]) (hB _ h) ⟨rfl, rfl, rfl, rfl, rfl, trivial⟩))
  · exact w_bad hE
def m_L_case18 (n : Nat) (xs : Nat → Int32) (i : Int32) (I : Mem) : Option (Mem ⊕ Unit) :=
  gd (inb (i + 1) n) (Option.bind (m_L_pass 0 (xs (i + 1).toNatClampNeg) 230 I) fun r1 => gd (inb (i + 1) n) (Option.bind (m_X12_pass 196 (xs (i + 1).toNatClampNeg) r1.2) fun r2 => Option.bind (m_X12_thrown 196 r2.2) fun r3 => if r3 = r1.1 then (if r1.1 = 0 then (gd (inb 0 1) (if lg_cmp (r2.2 230 (0 : Int32).toNatClampNeg).toInt64 r2.1.toInt64 = 0 then (some (.inl r2.2)) else (some (.inr ())))) else (some (.inl r2.2))) else (some (.inr ()))))
set_option maxRecDepth 100000 in
set_option maxHeartbeats 4000000 in
theorem m_L_case18_ok {Z : Zx} {K : Mem ⊕ Unit → Prop} (C : Cx Z code 7 RL) (hR : RM Z 13 472) (hst : (zl Z).stackTraces = false) (hNC : NCs (zs Z)) {b n : Nat} {xs : Nat → Int32} (X : LX Z b n xs) (i : Int32) (I : Mem) (hc : Z.2.2.1 + 4 ≤ (zR Z).cells) (hs : Z.2.2.2.1 + 24 ≤ (zR Z).slots) (hB : ∀ I', K (.inl I') → WM (Zb Z (Z.2.2.1 + 4) (Z.2.2.2.1 + 24)) I' 1411 [some (.ref b), some (rf (zG Z) 0), some (rf (zG Z) 196), some (rf (zG Z) 230), some (.int i), none, none] []) (hE : ¬ K (.inr ())) : WF Z K (m_L_case18 n xs i I) I 998 [some (.ref b), some (rf (zG Z) 0), some (rf (zG Z) 196), some (rf (zG Z) 230), some (.int i), none, none] [] := by
  unfold m_L_case18
  refine w_aload_n (v := 0) C dL_law_998 rfl (q := 999) rfl ?_
  refine w_aloadB (b := b) C dL_law_999 rfl (q := 1000) rfl ?_
  refine w_iload (v := i) C dL_law_1000 rfl (q := 1002) rfl ?_
  refine w_iconst (v := (1)) C dL_law_1002 (by decide) (q := 1003) rfl ?_
  refine w_iadd C dL_law_1003 (q := 1004) rfl ?_
  refine w_sld C X dL_law_1004 (q := 1005) rfl (fun _ => ?_)
  refine w_aload_n (v := 230) C dL_law_1005 rfl (q := 1006) rfl ?_
  refine w_callSW (As := [rf (zG Z) 0, .int (xs (i + 1).toNatClampNeg), rf (zG Z) 230]) (st := []) (q := 1009) C hR hNC (okA hc (by decide)) (okA hs (by decide)) (fun x h => c_L_pass (zl Z) hst (zG Z) (xs (i + 1).toNatClampNeg) ho_0 ha_230 I h) mw_pass lk_L_164 rfl (by decide) (Nat.le_of_ble_eq_true rfl) rfl rfl dL_law_1006 rfl (fun r1 => ?_)
  have C1 := C.bump (c := Z.2.2.1 + 2) (n := Z.2.2.2.1 + 12) (okA hc (by decide)) (okA hs (by decide))
  refine w_istore C1 dL_law_1009 (Nat.le_of_ble_eq_true rfl) (L' := [some (.ref b), some (rf (zG Z) 0), some (rf (zG Z) 196), some (rf (zG Z) 230), some (.int i), some (.int r1.1), none]) rfl (q := 1011) rfl ?_
  refine w_aload_n (v := 196) C1 dL_law_1011 rfl (q := 1012) rfl ?_
  refine w_aloadB (b := b) C1 dL_law_1012 rfl (q := 1013) rfl ?_
  refine w_iload (v := i) C1 dL_law_1013 rfl (q := 1015) rfl ?_
  refine w_iconst (v := (1)) C1 dL_law_1015 (by decide) (q := 1016) rfl ?_
  refine w_iadd C1 dL_law_1016 (q := 1017) rfl ?_
  refine w_sld C1 X dL_law_1017 (q := 1018) rfl (fun _ => ?_)
  refine w_callV (val := fun r2 => some (.int r2.1)) (mem := fun r2 => r2.2) (st1 := fun r2 => [.int r2.1]) (As := [.int (xs (i + 1).toNatClampNeg)]) (st := []) (q := 1021) C1 hR (fun x h => c_X12_pass (zl Z) (zG Z) (xs (i + 1).toNatClampNeg) ho_196 r1.2 h) ho_196 mv_X12_pass lk_L_166 rfl (by decide) (fun _ => rfl) (Nat.le_of_ble_eq_true rfl) rfl rfl dL_law_1018 rfl (fun r2 => ?_)
  refine w_istore C1 dL_law_1021 (Nat.le_of_ble_eq_true rfl) (L' := [some (.ref b), some (rf (zG Z) 0), some (rf (zG Z) 196), some (rf (zG Z) 230), some (.int i), some (.int r1.1), some (.int r2.1)]) rfl (q := 1023) rfl ?_
  refine w_aload_n (v := 196) C1 dL_law_1023 rfl (q := 1024) rfl ?_
  refine w_callV (val := fun r3 => some (.int r3)) (mem := fun r3 => r2.2) (st1 := fun r3 => [.int r3]) (As := []) (st := []) (q := 1027) C1 hR (fun x h => c_X12_thrown (zl Z) (zG Z)  ho_196 r2.2 h) ho_196 mv_X12_thrown lk_L_100 rfl (by decide) (fun _ => rfl) (Nat.le_of_ble_eq_true rfl) rfl rfl dL_law_1024 rfl (fun r3 => ?_)
  refine w_iload (v := r1.1) C1 dL_law_1027 rfl (q := 1029) rfl ?_
  refine w_icmp_eq (tgt := 1034) (q := 1032) C1 dL_law_1029 (by decide) rfl (fun _ => ?_) (fun _ => ?_)
  · refine w_iload (v := r1.1) C1 dL_law_1034 rfl (q := 1036) rfl ?_
    refine w_if_ne (tgt := 1051) (q := 1039) C1 dL_law_1036 (by decide) rfl (fun _ => ?_) (fun _ => ?_)
    · refine w_aload_n (v := 230) C1 dL_law_1039 rfl (q := 1040) rfl ?_
      refine w_iconst (v := (0)) C1 dL_law_1040 (by decide) (q := 1041) rfl ?_
      refine w_lald C1 ha_230 dL_law_1041 (q := 1042) rfl (fun _ => ?_)
      refine w_iload (v := r2.1) C1 dL_law_1042 rfl (q := 1044) rfl ?_
      refine w_i2l C1 dL_law_1044 (q := 1045) rfl ?_
      refine w_lcmp C1 dL_law_1045 (q := 1046) rfl ?_
      refine w_if_eq (tgt := 1051) (q := 1049) C1 dL_law_1046 (by decide) rfl (fun _ => ?_) (fun _ => ?_)
      · refine w_goto (tgt := 1411) C1 dL_law_1051 (by decide) ?_
        exact w_jmp (fun h => WM.widen (c := Z.2.2.1 + 4) (n := Z.2.2.2.1 + 24) (Nat.add_le_add_left (by decide) _) (Nat.add_le_add_left (by decide) _) (WM.less (L' := [some (.ref b), some (rf (zG Z) 0), some (rf (zG Z) 196), some (rf (zG Z) 230), some (.int i), none, none]) (hB _ h) ⟨rfl, rfl, rfl, rfl, rfl, trivial⟩))
      · exact w_bad hE
    · refine w_goto (tgt := 1411) C1 dL_law_1051 (by decide) ?_
      exact w_jmp (fun h => WM.widen (c := Z.2.2.1 + 4) (n := Z.2.2.2.1 + 24) (Nat.add_le_add_left (by decide) _) (Nat.add_le_add_left (by decide) _) (WM.less (L' := [some (.ref b), some (rf (zG Z) 0), some (rf (zG Z) 196), some (rf (zG Z) 230), some (.int i), none, none]) (hB _ h) ⟨rfl, rfl, rfl, rfl, rfl, trivial⟩))
  · exact w_bad hE
def m_L_case19 (n : Nat) (xs : Nat → Int32) (i : Int32) (I : Mem) : Option (Mem ⊕ Unit) :=
  gd (inb (i + 1) n) (gd (inb (i + 2) n) (Option.bind (m_L_addRule 0 (xs (i + 1).toNatClampNeg) (((xs (i + 2).toNatClampNeg).toUInt32 % 65536).toInt32) 230 I) fun r1 => gd (inb (i + 1) n) (gd (inb (i + 2) n) (Option.bind (m_X12_addRule 196 (xs (i + 1).toNatClampNeg) (((xs (i + 2).toNatClampNeg).toUInt32 % 65536).toInt32) r1.2) fun r2 => Option.bind (m_X12_thrown 196 r2.2) fun r3 => if r3 = r1.1 then (if r1.1 = 0 then (gd (inb 0 1) (if lg_cmp (r2.2 230 (0 : Int32).toNatClampNeg).toInt64 r2.1.toInt64 = 0 then (some (.inl r2.2)) else (some (.inr ())))) else (some (.inl r2.2))) else (some (.inr ()))))))
set_option maxRecDepth 100000 in
set_option maxHeartbeats 4000000 in
theorem m_L_case19_ok {Z : Zx} {K : Mem ⊕ Unit → Prop} (C : Cx Z code 7 RL) (hR : RM Z 13 472) (hst : (zl Z).stackTraces = false) (hNC : NCs (zs Z)) {b n : Nat} {xs : Nat → Int32} (X : LX Z b n xs) (i : Int32) (I : Mem) (hc : Z.2.2.1 + 4 ≤ (zR Z).cells) (hs : Z.2.2.2.1 + 24 ≤ (zR Z).slots) (hB : ∀ I', K (.inl I') → WM (Zb Z (Z.2.2.1 + 4) (Z.2.2.2.1 + 24)) I' 1411 [some (.ref b), some (rf (zG Z) 0), some (rf (zG Z) 196), some (rf (zG Z) 230), some (.int i), none, none] []) (hE : ¬ K (.inr ())) : WF Z K (m_L_case19 n xs i I) I 1054 [some (.ref b), some (rf (zG Z) 0), some (rf (zG Z) 196), some (rf (zG Z) 230), some (.int i), none, none] [] := by
  unfold m_L_case19
  refine w_aload_n (v := 0) C dL_law_1054 rfl (q := 1055) rfl ?_
  refine w_aloadB (b := b) C dL_law_1055 rfl (q := 1056) rfl ?_
  refine w_iload (v := i) C dL_law_1056 rfl (q := 1058) rfl ?_
  refine w_iconst (v := (1)) C dL_law_1058 (by decide) (q := 1059) rfl ?_
  refine w_iadd C dL_law_1059 (q := 1060) rfl ?_
  refine w_sld C X dL_law_1060 (q := 1061) rfl (fun _ => ?_)
  refine w_aloadB (b := b) C dL_law_1061 rfl (q := 1062) rfl ?_
  refine w_iload (v := i) C dL_law_1062 rfl (q := 1064) rfl ?_
  refine w_iconst (v := (2)) C dL_law_1064 (by decide) (q := 1065) rfl ?_
  refine w_iadd C dL_law_1065 (q := 1066) rfl ?_
  refine w_sld C X dL_law_1066 (q := 1067) rfl (fun _ => ?_)
  refine w_i2c C dL_law_1067 (q := 1068) rfl ?_
  refine w_aload_n (v := 230) C dL_law_1068 rfl (q := 1069) rfl ?_
  refine w_callSW (As := [rf (zG Z) 0, .int (xs (i + 1).toNatClampNeg), .int (((xs (i + 2).toNatClampNeg).toUInt32 % 65536).toInt32), rf (zG Z) 230]) (st := []) (q := 1072) C hR hNC (okA hc (by decide)) (okA hs (by decide)) (fun x h => c_L_addRule (zl Z) hst (zG Z) (xs (i + 1).toNatClampNeg) (((xs (i + 2).toNatClampNeg).toUInt32 % 65536).toInt32) ho_0 ha_230 I h) mw_addRule lk_L_167 rfl (by decide) (Nat.le_of_ble_eq_true rfl) rfl rfl dL_law_1069 rfl (fun r1 => ?_)
  have C1 := C.bump (c := Z.2.2.1 + 1) (n := Z.2.2.2.1 + 6) (okA hc (by decide)) (okA hs (by decide))
  refine w_istore C1 dL_law_1072 (Nat.le_of_ble_eq_true rfl) (L' := [some (.ref b), some (rf (zG Z) 0), some (rf (zG Z) 196), some (rf (zG Z) 230), some (.int i), some (.int r1.1), none]) rfl (q := 1074) rfl ?_
  refine w_aload_n (v := 196) C1 dL_law_1074 rfl (q := 1075) rfl ?_
  refine w_aloadB (b := b) C1 dL_law_1075 rfl (q := 1076) rfl ?_
  refine w_iload (v := i) C1 dL_law_1076 rfl (q := 1078) rfl ?_
  refine w_iconst (v := (1)) C1 dL_law_1078 (by decide) (q := 1079) rfl ?_
  refine w_iadd C1 dL_law_1079 (q := 1080) rfl ?_
  refine w_sld C1 X dL_law_1080 (q := 1081) rfl (fun _ => ?_)
  refine w_aloadB (b := b) C1 dL_law_1081 rfl (q := 1082) rfl ?_
  refine w_iload (v := i) C1 dL_law_1082 rfl (q := 1084) rfl ?_
  refine w_iconst (v := (2)) C1 dL_law_1084 (by decide) (q := 1085) rfl ?_
  refine w_iadd C1 dL_law_1085 (q := 1086) rfl ?_
  refine w_sld C1 X dL_law_1086 (q := 1087) rfl (fun _ => ?_)
  refine w_i2c C1 dL_law_1087 (q := 1088) rfl ?_
  refine w_callV (val := fun r2 => some (.int r2.1)) (mem := fun r2 => r2.2) (st1 := fun r2 => [.int r2.1]) (As := [.int (xs (i + 1).toNatClampNeg), .int (((xs (i + 2).toNatClampNeg).toUInt32 % 65536).toInt32)]) (st := []) (q := 1091) C1 hR (fun x h => c_X12_addRule (zl Z) (zG Z) (xs (i + 1).toNatClampNeg) (((xs (i + 2).toNatClampNeg).toUInt32 % 65536).toInt32) ho_196 r1.2 h) ho_196 mv_X12_addRule lk_L_170 rfl (by decide) (fun _ => rfl) (Nat.le_of_ble_eq_true rfl) rfl rfl dL_law_1088 rfl (fun r2 => ?_)
  refine w_istore C1 dL_law_1091 (Nat.le_of_ble_eq_true rfl) (L' := [some (.ref b), some (rf (zG Z) 0), some (rf (zG Z) 196), some (rf (zG Z) 230), some (.int i), some (.int r1.1), some (.int r2.1)]) rfl (q := 1093) rfl ?_
  refine w_aload_n (v := 196) C1 dL_law_1093 rfl (q := 1094) rfl ?_
  refine w_callV (val := fun r3 => some (.int r3)) (mem := fun r3 => r2.2) (st1 := fun r3 => [.int r3]) (As := []) (st := []) (q := 1097) C1 hR (fun x h => c_X12_thrown (zl Z) (zG Z)  ho_196 r2.2 h) ho_196 mv_X12_thrown lk_L_100 rfl (by decide) (fun _ => rfl) (Nat.le_of_ble_eq_true rfl) rfl rfl dL_law_1094 rfl (fun r3 => ?_)
  refine w_iload (v := r1.1) C1 dL_law_1097 rfl (q := 1099) rfl ?_
  refine w_icmp_eq (tgt := 1104) (q := 1102) C1 dL_law_1099 (by decide) rfl (fun _ => ?_) (fun _ => ?_)
  · refine w_iload (v := r1.1) C1 dL_law_1104 rfl (q := 1106) rfl ?_
    refine w_if_ne (tgt := 1121) (q := 1109) C1 dL_law_1106 (by decide) rfl (fun _ => ?_) (fun _ => ?_)
    · refine w_aload_n (v := 230) C1 dL_law_1109 rfl (q := 1110) rfl ?_
      refine w_iconst (v := (0)) C1 dL_law_1110 (by decide) (q := 1111) rfl ?_
      refine w_lald C1 ha_230 dL_law_1111 (q := 1112) rfl (fun _ => ?_)
      refine w_iload (v := r2.1) C1 dL_law_1112 rfl (q := 1114) rfl ?_
      refine w_i2l C1 dL_law_1114 (q := 1115) rfl ?_
      refine w_lcmp C1 dL_law_1115 (q := 1116) rfl ?_
      refine w_if_eq (tgt := 1121) (q := 1119) C1 dL_law_1116 (by decide) rfl (fun _ => ?_) (fun _ => ?_)
      · refine w_goto (tgt := 1411) C1 dL_law_1121 (by decide) ?_
        exact w_jmp (fun h => WM.widen (c := Z.2.2.1 + 4) (n := Z.2.2.2.1 + 24) (Nat.add_le_add_left (by decide) _) (Nat.add_le_add_left (by decide) _) (WM.less (L' := [some (.ref b), some (rf (zG Z) 0), some (rf (zG Z) 196), some (rf (zG Z) 230), some (.int i), none, none]) (hB _ h) ⟨rfl, rfl, rfl, rfl, rfl, trivial⟩))
      · exact w_bad hE
    · refine w_goto (tgt := 1411) C1 dL_law_1121 (by decide) ?_
      exact w_jmp (fun h => WM.widen (c := Z.2.2.1 + 4) (n := Z.2.2.2.1 + 24) (Nat.add_le_add_left (by decide) _) (Nat.add_le_add_left (by decide) _) (WM.less (L' := [some (.ref b), some (rf (zG Z) 0), some (rf (zG Z) 196), some (rf (zG Z) 230), some (.int i), none, none]) (hB _ h) ⟨rfl, rfl, rfl, rfl, rfl, trivial⟩))
  · exact w_bad hE
def m_L_case20 (n : Nat) (xs : Nat → Int32) (i : Int32) (I : Mem) : Option (Mem ⊕ Unit) :=
  gd (inb (i + 1) n) (gd (inb (i + 2) n) (Option.bind (m_L_addField 0 (xs (i + 1).toNatClampNeg) (xs (i + 2).toNatClampNeg) 230 I) fun r1 => gd (inb (i + 1) n) (gd (inb (i + 2) n) (Option.bind (m_X12_addField 196 (xs (i + 1).toNatClampNeg) (xs (i + 2).toNatClampNeg) r1.2) fun r2 => Option.bind (m_X12_thrown 196 r2.2) fun r3 => if r3 = r1.1 then (if r1.1 = 0 then (gd (inb 0 1) (if lg_cmp (r2.2 230 (0 : Int32).toNatClampNeg).toInt64 r2.1.toInt64 = 0 then (some (.inl r2.2)) else (some (.inr ())))) else (some (.inl r2.2))) else (some (.inr ()))))))
set_option maxRecDepth 100000 in
set_option maxHeartbeats 4000000 in
theorem m_L_case20_ok {Z : Zx} {K : Mem ⊕ Unit → Prop} (C : Cx Z code 7 RL) (hR : RM Z 13 472) (hst : (zl Z).stackTraces = false) (hNC : NCs (zs Z)) {b n : Nat} {xs : Nat → Int32} (X : LX Z b n xs) (i : Int32) (I : Mem) (hc : Z.2.2.1 + 4 ≤ (zR Z).cells) (hs : Z.2.2.2.1 + 24 ≤ (zR Z).slots) (hB : ∀ I', K (.inl I') → WM (Zb Z (Z.2.2.1 + 4) (Z.2.2.2.1 + 24)) I' 1411 [some (.ref b), some (rf (zG Z) 0), some (rf (zG Z) 196), some (rf (zG Z) 230), some (.int i), none, none] []) (hE : ¬ K (.inr ())) : WF Z K (m_L_case20 n xs i I) I 1124 [some (.ref b), some (rf (zG Z) 0), some (rf (zG Z) 196), some (rf (zG Z) 230), some (.int i), none, none] [] := by
  unfold m_L_case20
  refine w_aload_n (v := 0) C dL_law_1124 rfl (q := 1125) rfl ?_
  refine w_aloadB (b := b) C dL_law_1125 rfl (q := 1126) rfl ?_
  refine w_iload (v := i) C dL_law_1126 rfl (q := 1128) rfl ?_
  refine w_iconst (v := (1)) C dL_law_1128 (by decide) (q := 1129) rfl ?_
  refine w_iadd C dL_law_1129 (q := 1130) rfl ?_
  refine w_sld C X dL_law_1130 (q := 1131) rfl (fun _ => ?_)
  refine w_aloadB (b := b) C dL_law_1131 rfl (q := 1132) rfl ?_
  refine w_iload (v := i) C dL_law_1132 rfl (q := 1134) rfl ?_
  refine w_iconst (v := (2)) C dL_law_1134 (by decide) (q := 1135) rfl ?_
  refine w_iadd C dL_law_1135 (q := 1136) rfl ?_
  refine w_sld C X dL_law_1136 (q := 1137) rfl (fun _ => ?_)
  refine w_aload_n (v := 230) C dL_law_1137 rfl (q := 1138) rfl ?_
  refine w_callSW (As := [rf (zG Z) 0, .int (xs (i + 1).toNatClampNeg), .int (xs (i + 2).toNatClampNeg), rf (zG Z) 230]) (st := []) (q := 1141) C hR hNC (okA hc (by decide)) (okA hs (by decide)) (fun x h => c_L_addField (zl Z) hst (zG Z) (xs (i + 1).toNatClampNeg) (xs (i + 2).toNatClampNeg) ho_0 ha_230 I h) mw_addField lk_L_171 rfl (by decide) (Nat.le_of_ble_eq_true rfl) rfl rfl dL_law_1138 rfl (fun r1 => ?_)
  have C1 := C.bump (c := Z.2.2.1 + 2) (n := Z.2.2.2.1 + 12) (okA hc (by decide)) (okA hs (by decide))
  refine w_istore C1 dL_law_1141 (Nat.le_of_ble_eq_true rfl) (L' := [some (.ref b), some (rf (zG Z) 0), some (rf (zG Z) 196), some (rf (zG Z) 230), some (.int i), some (.int r1.1), none]) rfl (q := 1143) rfl ?_
  refine w_aload_n (v := 196) C1 dL_law_1143 rfl (q := 1144) rfl ?_
  refine w_aloadB (b := b) C1 dL_law_1144 rfl (q := 1145) rfl ?_
  refine w_iload (v := i) C1 dL_law_1145 rfl (q := 1147) rfl ?_
  refine w_iconst (v := (1)) C1 dL_law_1147 (by decide) (q := 1148) rfl ?_
  refine w_iadd C1 dL_law_1148 (q := 1149) rfl ?_
  refine w_sld C1 X dL_law_1149 (q := 1150) rfl (fun _ => ?_)
  refine w_aloadB (b := b) C1 dL_law_1150 rfl (q := 1151) rfl ?_
  refine w_iload (v := i) C1 dL_law_1151 rfl (q := 1153) rfl ?_
  refine w_iconst (v := (2)) C1 dL_law_1153 (by decide) (q := 1154) rfl ?_
  refine w_iadd C1 dL_law_1154 (q := 1155) rfl ?_
  refine w_sld C1 X dL_law_1155 (q := 1156) rfl (fun _ => ?_)
  refine w_callV (val := fun r2 => some (.int r2.1)) (mem := fun r2 => r2.2) (st1 := fun r2 => [.int r2.1]) (As := [.int (xs (i + 1).toNatClampNeg), .int (xs (i + 2).toNatClampNeg)]) (st := []) (q := 1159) C1 hR (fun x h => c_X12_addField (zl Z) (zG Z) (xs (i + 1).toNatClampNeg) (xs (i + 2).toNatClampNeg) ho_196 r1.2 h) ho_196 mv_X12_addField lk_L_173 rfl (by decide) (fun _ => rfl) (Nat.le_of_ble_eq_true rfl) rfl rfl dL_law_1156 rfl (fun r2 => ?_)
  refine w_istore C1 dL_law_1159 (Nat.le_of_ble_eq_true rfl) (L' := [some (.ref b), some (rf (zG Z) 0), some (rf (zG Z) 196), some (rf (zG Z) 230), some (.int i), some (.int r1.1), some (.int r2.1)]) rfl (q := 1161) rfl ?_
  refine w_aload_n (v := 196) C1 dL_law_1161 rfl (q := 1162) rfl ?_
  refine w_callV (val := fun r3 => some (.int r3)) (mem := fun r3 => r2.2) (st1 := fun r3 => [.int r3]) (As := []) (st := []) (q := 1165) C1 hR (fun x h => c_X12_thrown (zl Z) (zG Z)  ho_196 r2.2 h) ho_196 mv_X12_thrown lk_L_100 rfl (by decide) (fun _ => rfl) (Nat.le_of_ble_eq_true rfl) rfl rfl dL_law_1162 rfl (fun r3 => ?_)
  refine w_iload (v := r1.1) C1 dL_law_1165 rfl (q := 1167) rfl ?_
  refine w_icmp_eq (tgt := 1172) (q := 1170) C1 dL_law_1167 (by decide) rfl (fun _ => ?_) (fun _ => ?_)
  · refine w_iload (v := r1.1) C1 dL_law_1172 rfl (q := 1174) rfl ?_
    refine w_if_ne (tgt := 1189) (q := 1177) C1 dL_law_1174 (by decide) rfl (fun _ => ?_) (fun _ => ?_)
    · refine w_aload_n (v := 230) C1 dL_law_1177 rfl (q := 1178) rfl ?_
      refine w_iconst (v := (0)) C1 dL_law_1178 (by decide) (q := 1179) rfl ?_
      refine w_lald C1 ha_230 dL_law_1179 (q := 1180) rfl (fun _ => ?_)
      refine w_iload (v := r2.1) C1 dL_law_1180 rfl (q := 1182) rfl ?_
      refine w_i2l C1 dL_law_1182 (q := 1183) rfl ?_
      refine w_lcmp C1 dL_law_1183 (q := 1184) rfl ?_
      refine w_if_eq (tgt := 1189) (q := 1187) C1 dL_law_1184 (by decide) rfl (fun _ => ?_) (fun _ => ?_)
      · refine w_goto (tgt := 1411) C1 dL_law_1189 (by decide) ?_
        exact w_jmp (fun h => WM.widen (c := Z.2.2.1 + 4) (n := Z.2.2.2.1 + 24) (Nat.add_le_add_left (by decide) _) (Nat.add_le_add_left (by decide) _) (WM.less (L' := [some (.ref b), some (rf (zG Z) 0), some (rf (zG Z) 196), some (rf (zG Z) 230), some (.int i), none, none]) (hB _ h) ⟨rfl, rfl, rfl, rfl, rfl, trivial⟩))
      · exact w_bad hE
    · refine w_goto (tgt := 1411) C1 dL_law_1189 (by decide) ?_
      exact w_jmp (fun h => WM.widen (c := Z.2.2.1 + 4) (n := Z.2.2.2.1 + 24) (Nat.add_le_add_left (by decide) _) (Nat.add_le_add_left (by decide) _) (WM.less (L' := [some (.ref b), some (rf (zG Z) 0), some (rf (zG Z) 196), some (rf (zG Z) 230), some (.int i), none, none]) (hB _ h) ⟨rfl, rfl, rfl, rfl, rfl, trivial⟩))
  · exact w_bad hE
def m_L_case21 (n : Nat) (xs : Nat → Int32) (i : Int32) (I : Mem) : Option (Mem ⊕ Unit) :=
  gd (inb (i + 1) n) (gd (inb (i + 2) n) (gd (inb (i + 3) n) (Option.bind (m_L_setCondition 0 (xs (i + 1).toNatClampNeg) (xs (i + 2).toNatClampNeg) (((xs (i + 3).toNatClampNeg).toUInt32 % 65536).toInt32) I) fun r1 => gd (inb (i + 1) n) (gd (inb (i + 2) n) (gd (inb (i + 3) n) (Option.bind (m_X12_setCondition 196 (xs (i + 1).toNatClampNeg) (xs (i + 2).toNatClampNeg) (((xs (i + 3).toNatClampNeg).toUInt32 % 65536).toInt32) r1.2) fun I2 => Option.bind (m_X12_thrown 196 I2) fun r3 => if r3 = r1.1 then (some (.inl I2)) else (some (.inr ()))))))))
set_option maxRecDepth 100000 in
set_option maxHeartbeats 4000000 in
theorem m_L_case21_ok {Z : Zx} {K : Mem ⊕ Unit → Prop} (C : Cx Z code 7 RL) (hR : RM Z 13 472) (hst : (zl Z).stackTraces = false) (hNC : NCs (zs Z)) {b n : Nat} {xs : Nat → Int32} (X : LX Z b n xs) (i : Int32) (I : Mem) (hc : Z.2.2.1 + 4 ≤ (zR Z).cells) (hs : Z.2.2.2.1 + 24 ≤ (zR Z).slots) (hB : ∀ I', K (.inl I') → WM (Zb Z (Z.2.2.1 + 4) (Z.2.2.2.1 + 24)) I' 1411 [some (.ref b), some (rf (zG Z) 0), some (rf (zG Z) 196), some (rf (zG Z) 230), some (.int i), none, none] []) (hE : ¬ K (.inr ())) : WF Z K (m_L_case21 n xs i I) I 1192 [some (.ref b), some (rf (zG Z) 0), some (rf (zG Z) 196), some (rf (zG Z) 230), some (.int i), none, none] [] := by
  unfold m_L_case21
  refine w_aload_n (v := 0) C dL_law_1192 rfl (q := 1193) rfl ?_
  refine w_aloadB (b := b) C dL_law_1193 rfl (q := 1194) rfl ?_
  refine w_iload (v := i) C dL_law_1194 rfl (q := 1196) rfl ?_
  refine w_iconst (v := (1)) C dL_law_1196 (by decide) (q := 1197) rfl ?_
  refine w_iadd C dL_law_1197 (q := 1198) rfl ?_
  refine w_sld C X dL_law_1198 (q := 1199) rfl (fun _ => ?_)
  refine w_aloadB (b := b) C dL_law_1199 rfl (q := 1200) rfl ?_
  refine w_iload (v := i) C dL_law_1200 rfl (q := 1202) rfl ?_
  refine w_iconst (v := (2)) C dL_law_1202 (by decide) (q := 1203) rfl ?_
  refine w_iadd C dL_law_1203 (q := 1204) rfl ?_
  refine w_sld C X dL_law_1204 (q := 1205) rfl (fun _ => ?_)
  refine w_aloadB (b := b) C dL_law_1205 rfl (q := 1206) rfl ?_
  refine w_iload (v := i) C dL_law_1206 rfl (q := 1208) rfl ?_
  refine w_iconst (v := (3)) C dL_law_1208 (by decide) (q := 1209) rfl ?_
  refine w_iadd C dL_law_1209 (q := 1210) rfl ?_
  refine w_sld C X dL_law_1210 (q := 1211) rfl (fun _ => ?_)
  refine w_i2c C dL_law_1211 (q := 1212) rfl ?_
  refine w_callSW (As := [rf (zG Z) 0, .int (xs (i + 1).toNatClampNeg), .int (xs (i + 2).toNatClampNeg), .int (((xs (i + 3).toNatClampNeg).toUInt32 % 65536).toInt32)]) (st := []) (q := 1215) C hR hNC (okA hc (by decide)) (okA hs (by decide)) (fun x h => c_L_setCondition (zl Z) hst (zG Z) (xs (i + 1).toNatClampNeg) (xs (i + 2).toNatClampNeg) (((xs (i + 3).toNatClampNeg).toUInt32 % 65536).toInt32) ho_0 I h) mw_setCondition lk_L_174 rfl (by decide) (Nat.le_of_ble_eq_true rfl) rfl rfl dL_law_1212 rfl (fun r1 => ?_)
  have C1 := C.bump (c := Z.2.2.1 + 2) (n := Z.2.2.2.1 + 12) (okA hc (by decide)) (okA hs (by decide))
  refine w_istore C1 dL_law_1215 (Nat.le_of_ble_eq_true rfl) (L' := [some (.ref b), some (rf (zG Z) 0), some (rf (zG Z) 196), some (rf (zG Z) 230), some (.int i), some (.int r1.1), none]) rfl (q := 1217) rfl ?_
  refine w_aload_n (v := 196) C1 dL_law_1217 rfl (q := 1218) rfl ?_
  refine w_aloadB (b := b) C1 dL_law_1218 rfl (q := 1219) rfl ?_
  refine w_iload (v := i) C1 dL_law_1219 rfl (q := 1221) rfl ?_
  refine w_iconst (v := (1)) C1 dL_law_1221 (by decide) (q := 1222) rfl ?_
  refine w_iadd C1 dL_law_1222 (q := 1223) rfl ?_
  refine w_sld C1 X dL_law_1223 (q := 1224) rfl (fun _ => ?_)
  refine w_aloadB (b := b) C1 dL_law_1224 rfl (q := 1225) rfl ?_
  refine w_iload (v := i) C1 dL_law_1225 rfl (q := 1227) rfl ?_
  refine w_iconst (v := (2)) C1 dL_law_1227 (by decide) (q := 1228) rfl ?_
  refine w_iadd C1 dL_law_1228 (q := 1229) rfl ?_
  refine w_sld C1 X dL_law_1229 (q := 1230) rfl (fun _ => ?_)
  refine w_aloadB (b := b) C1 dL_law_1230 rfl (q := 1231) rfl ?_
  refine w_iload (v := i) C1 dL_law_1231 rfl (q := 1233) rfl ?_
  refine w_iconst (v := (3)) C1 dL_law_1233 (by decide) (q := 1234) rfl ?_
  refine w_iadd C1 dL_law_1234 (q := 1235) rfl ?_
  refine w_sld C1 X dL_law_1235 (q := 1236) rfl (fun _ => ?_)
  refine w_i2c C1 dL_law_1236 (q := 1237) rfl ?_
  refine w_callV (val := fun I2 => none) (mem := fun I2 => I2) (st1 := fun I2 => []) (As := [.int (xs (i + 1).toNatClampNeg), .int (xs (i + 2).toNatClampNeg), .int (((xs (i + 3).toNatClampNeg).toUInt32 % 65536).toInt32)]) (st := []) (q := 1240) C1 hR (fun x h => c_X12_setCondition (zl Z) (zG Z) (xs (i + 1).toNatClampNeg) (xs (i + 2).toNatClampNeg) (((xs (i + 3).toNatClampNeg).toUInt32 % 65536).toInt32) ho_196 r1.2 h) ho_196 mv_X12_setCondition lk_L_177 rfl (by decide) (fun _ => rfl) (Nat.le_of_ble_eq_true rfl) rfl rfl dL_law_1237 rfl (fun I2 => ?_)
  refine w_aload_n (v := 196) C1 dL_law_1240 rfl (q := 1241) rfl ?_
  refine w_callV (val := fun r3 => some (.int r3)) (mem := fun r3 => I2) (st1 := fun r3 => [.int r3]) (As := []) (st := []) (q := 1244) C1 hR (fun x h => c_X12_thrown (zl Z) (zG Z)  ho_196 I2 h) ho_196 mv_X12_thrown lk_L_100 rfl (by decide) (fun _ => rfl) (Nat.le_of_ble_eq_true rfl) rfl rfl dL_law_1241 rfl (fun r3 => ?_)
  refine w_iload (v := r1.1) C1 dL_law_1244 rfl (q := 1246) rfl ?_
  refine w_icmp_eq (tgt := 1251) (q := 1249) C1 dL_law_1246 (by decide) rfl (fun _ => ?_) (fun _ => ?_)
  · refine w_goto (tgt := 1411) C1 dL_law_1251 (by decide) ?_
    exact w_jmp (fun h => WM.widen (c := Z.2.2.1 + 4) (n := Z.2.2.2.1 + 24) (Nat.add_le_add_left (by decide) _) (Nat.add_le_add_left (by decide) _) (WM.less (L' := [some (.ref b), some (rf (zG Z) 0), some (rf (zG Z) 196), some (rf (zG Z) 230), some (.int i), none, none]) (hB _ h) ⟨rfl, rfl, rfl, rfl, rfl, trivial⟩))
  · exact w_bad hE
def m_L_case22 (n : Nat) (xs : Nat → Int32) (i : Int32) (I : Mem) : Option (Mem ⊕ Unit) :=
  Option.bind (m_L_write 0 230 I) fun r1 => Option.bind (m_X12_write 196 r1.2) fun r2 => Option.bind (m_X12_thrown 196 r2.2) fun r3 => if r3 = r1.1 then (if r1.1 = 0 then (gd (inb 0 1) (if lg_cmp (r2.2 230 (0 : Int32).toNatClampNeg).toInt64 r2.1.toInt64 = 0 then (some (.inl r2.2)) else (some (.inr ())))) else (some (.inl r2.2))) else (some (.inr ()))
set_option maxRecDepth 100000 in
set_option maxHeartbeats 4000000 in
theorem m_L_case22_ok {Z : Zx} {K : Mem ⊕ Unit → Prop} (C : Cx Z code 7 RL) (hR : RM Z 13 472) (hst : (zl Z).stackTraces = false) (hNC : NCs (zs Z)) {b n : Nat} {xs : Nat → Int32} (X : LX Z b n xs) (i : Int32) (I : Mem) (hc : Z.2.2.1 + 4 ≤ (zR Z).cells) (hs : Z.2.2.2.1 + 24 ≤ (zR Z).slots) (hB : ∀ I', K (.inl I') → WM (Zb Z (Z.2.2.1 + 4) (Z.2.2.2.1 + 24)) I' 1411 [some (.ref b), some (rf (zG Z) 0), some (rf (zG Z) 196), some (rf (zG Z) 230), some (.int i), none, none] []) (hE : ¬ K (.inr ())) : WF Z K (m_L_case22 n xs i I) I 1254 [some (.ref b), some (rf (zG Z) 0), some (rf (zG Z) 196), some (rf (zG Z) 230), some (.int i), none, none] [] := by
  unfold m_L_case22
  refine w_aload_n (v := 0) C dL_law_1254 rfl (q := 1255) rfl ?_
  refine w_aload_n (v := 230) C dL_law_1255 rfl (q := 1256) rfl ?_
  refine w_callSW (As := [rf (zG Z) 0, rf (zG Z) 230]) (st := []) (q := 1259) C hR hNC (okA hc (by decide)) (okA hs (by decide)) (fun x h => c_L_write (zl Z) hst (zG Z)  ho_0 ha_230 I h) mw_write lk_L_178 rfl (by decide) (Nat.le_of_ble_eq_true rfl) rfl rfl dL_law_1256 rfl (fun r1 => ?_)
  have C1 := C.bump (c := Z.2.2.1 + 2) (n := Z.2.2.2.1 + 12) (okA hc (by decide)) (okA hs (by decide))
  refine w_istore C1 dL_law_1259 (Nat.le_of_ble_eq_true rfl) (L' := [some (.ref b), some (rf (zG Z) 0), some (rf (zG Z) 196), some (rf (zG Z) 230), some (.int i), some (.int r1.1), none]) rfl (q := 1261) rfl ?_
  refine w_aload_n (v := 196) C1 dL_law_1261 rfl (q := 1262) rfl ?_
  refine w_callV (val := fun r2 => some (.int r2.1)) (mem := fun r2 => r2.2) (st1 := fun r2 => [.int r2.1]) (As := []) (st := []) (q := 1265) C1 hR (fun x h => c_X12_write (zl Z) (zG Z)  ho_196 r1.2 h) ho_196 mv_X12_write lk_L_180 rfl (by decide) (fun _ => rfl) (Nat.le_of_ble_eq_true rfl) rfl rfl dL_law_1262 rfl (fun r2 => ?_)
  refine w_istore C1 dL_law_1265 (Nat.le_of_ble_eq_true rfl) (L' := [some (.ref b), some (rf (zG Z) 0), some (rf (zG Z) 196), some (rf (zG Z) 230), some (.int i), some (.int r1.1), some (.int r2.1)]) rfl (q := 1267) rfl ?_
  refine w_aload_n (v := 196) C1 dL_law_1267 rfl (q := 1268) rfl ?_
  refine w_callV (val := fun r3 => some (.int r3)) (mem := fun r3 => r2.2) (st1 := fun r3 => [.int r3]) (As := []) (st := []) (q := 1271) C1 hR (fun x h => c_X12_thrown (zl Z) (zG Z)  ho_196 r2.2 h) ho_196 mv_X12_thrown lk_L_100 rfl (by decide) (fun _ => rfl) (Nat.le_of_ble_eq_true rfl) rfl rfl dL_law_1268 rfl (fun r3 => ?_)
  refine w_iload (v := r1.1) C1 dL_law_1271 rfl (q := 1273) rfl ?_
  refine w_icmp_eq (tgt := 1278) (q := 1276) C1 dL_law_1273 (by decide) rfl (fun _ => ?_) (fun _ => ?_)
  · refine w_iload (v := r1.1) C1 dL_law_1278 rfl (q := 1280) rfl ?_
    refine w_if_ne (tgt := 1295) (q := 1283) C1 dL_law_1280 (by decide) rfl (fun _ => ?_) (fun _ => ?_)
    · refine w_aload_n (v := 230) C1 dL_law_1283 rfl (q := 1284) rfl ?_
      refine w_iconst (v := (0)) C1 dL_law_1284 (by decide) (q := 1285) rfl ?_
      refine w_lald C1 ha_230 dL_law_1285 (q := 1286) rfl (fun _ => ?_)
      refine w_iload (v := r2.1) C1 dL_law_1286 rfl (q := 1288) rfl ?_
      refine w_i2l C1 dL_law_1288 (q := 1289) rfl ?_
      refine w_lcmp C1 dL_law_1289 (q := 1290) rfl ?_
      refine w_if_eq (tgt := 1295) (q := 1293) C1 dL_law_1290 (by decide) rfl (fun _ => ?_) (fun _ => ?_)
      · refine w_goto (tgt := 1411) C1 dL_law_1295 (by decide) ?_
        exact w_jmp (fun h => WM.widen (c := Z.2.2.1 + 4) (n := Z.2.2.2.1 + 24) (Nat.add_le_add_left (by decide) _) (Nat.add_le_add_left (by decide) _) (WM.less (L' := [some (.ref b), some (rf (zG Z) 0), some (rf (zG Z) 196), some (rf (zG Z) 230), some (.int i), none, none]) (hB _ h) ⟨rfl, rfl, rfl, rfl, rfl, trivial⟩))
      · exact w_bad hE
    · refine w_goto (tgt := 1411) C1 dL_law_1295 (by decide) ?_
      exact w_jmp (fun h => WM.widen (c := Z.2.2.1 + 4) (n := Z.2.2.2.1 + 24) (Nat.add_le_add_left (by decide) _) (Nat.add_le_add_left (by decide) _) (WM.less (L' := [some (.ref b), some (rf (zG Z) 0), some (rf (zG Z) 196), some (rf (zG Z) 230), some (.int i), none, none]) (hB _ h) ⟨rfl, rfl, rfl, rfl, rfl, trivial⟩))
  · exact w_bad hE
def m_L_case23 (n : Nat) (xs : Nat → Int32) (i : Int32) (I : Mem) : Option (Mem ⊕ Unit) :=
  Option.bind (m_X11_written 0 I) fun r1 => Option.bind (m_X12_written 196 I) fun r2 => if r1 = r2.1 then (some (.inl r2.2)) else (some (.inr ()))
set_option maxRecDepth 100000 in
set_option maxHeartbeats 4000000 in
theorem m_L_case23_ok {Z : Zx} {K : Mem ⊕ Unit → Prop} (C : Cx Z code 7 RL) (hR : RM Z 13 472) (hst : (zl Z).stackTraces = false) (hNC : NCs (zs Z)) {b n : Nat} {xs : Nat → Int32} (X : LX Z b n xs) (i : Int32) (I : Mem) (hc : Z.2.2.1 + 4 ≤ (zR Z).cells) (hs : Z.2.2.2.1 + 24 ≤ (zR Z).slots) (hB : ∀ I', K (.inl I') → WM (Zb Z (Z.2.2.1 + 4) (Z.2.2.2.1 + 24)) I' 1411 [some (.ref b), some (rf (zG Z) 0), some (rf (zG Z) 196), some (rf (zG Z) 230), some (.int i), none, none] []) (hE : ¬ K (.inr ())) : WF Z K (m_L_case23 n xs i I) I 1298 [some (.ref b), some (rf (zG Z) 0), some (rf (zG Z) 196), some (rf (zG Z) 230), some (.int i), none, none] [] := by
  unfold m_L_case23
  refine w_aload_n (v := 0) C dL_law_1298 rfl (q := 1299) rfl ?_
  refine w_callV (val := fun r1 => some (.int r1)) (mem := fun r1 => I) (st1 := fun r1 => [.int r1]) (As := []) (st := []) (q := 1302) C hR (fun x h => c_X11_written (zl Z) (zG Z)  ho_0 I h) ho_0 mv_X11_written lk_L_181 rfl (by decide) (fun _ => rfl) (Nat.le_of_ble_eq_true rfl) rfl rfl dL_law_1299 rfl (fun r1 => ?_)
  refine w_aload_n (v := 196) C dL_law_1302 rfl (q := 1303) rfl ?_
  refine w_callV (val := fun r2 => some (.int r2.1)) (mem := fun r2 => r2.2) (st1 := fun r2 => [.int r2.1, .int r1]) (As := []) (st := [.int r1]) (q := 1306) C hR (fun x h => c_X12_written (zl Z) (zG Z)  ho_196 I h) ho_196 mv_X12_written lk_L_184 rfl (by decide) (fun _ => rfl) (Nat.le_of_ble_eq_true rfl) rfl rfl dL_law_1303 rfl (fun r2 => ?_)
  refine w_icmp_eq (tgt := 1411) (q := 1309) C dL_law_1306 (by decide) rfl (fun _ => ?_) (fun _ => ?_)
  · exact w_jmp (fun h => WM.widen (c := Z.2.2.1 + 4) (n := Z.2.2.2.1 + 24) (Nat.le_add_right _ _) (Nat.le_add_right _ _) (WM.less (L' := [some (.ref b), some (rf (zG Z) 0), some (rf (zG Z) 196), some (rf (zG Z) 230), some (.int i), none, none]) (hB _ h) ⟨rfl, rfl, rfl, rfl, rfl, trivial⟩))
  · exact w_bad hE
def m_L_case24 (n : Nat) (xs : Nat → Int32) (i : Int32) (I : Mem) : Option (Mem ⊕ Unit) :=
  gd (inb (i + 1) n) (Option.bind (m_L_letter 0 (xs (i + 1).toNatClampNeg) 230 I) fun r1 => gd (inb (i + 1) n) (Option.bind (m_X12_letter 196 (xs (i + 1).toNatClampNeg) r1.2) fun r2 => Option.bind (m_X12_thrown 196 r2.2) fun r3 => if r3 = r1.1 then (if r1.1 = 0 then (gd (inb 0 1) (if lg_cmp (r2.2 230 (0 : Int32).toNatClampNeg).toInt64 r2.1.toInt64 = 0 then (some (.inl r2.2)) else (some (.inr ())))) else (some (.inl r2.2))) else (some (.inr ()))))
set_option maxRecDepth 100000 in
set_option maxHeartbeats 4000000 in
theorem m_L_case24_ok {Z : Zx} {K : Mem ⊕ Unit → Prop} (C : Cx Z code 7 RL) (hR : RM Z 13 472) (hst : (zl Z).stackTraces = false) (hNC : NCs (zs Z)) {b n : Nat} {xs : Nat → Int32} (X : LX Z b n xs) (i : Int32) (I : Mem) (hc : Z.2.2.1 + 4 ≤ (zR Z).cells) (hs : Z.2.2.2.1 + 24 ≤ (zR Z).slots) (hB : ∀ I', K (.inl I') → WM (Zb Z (Z.2.2.1 + 4) (Z.2.2.2.1 + 24)) I' 1411 [some (.ref b), some (rf (zG Z) 0), some (rf (zG Z) 196), some (rf (zG Z) 230), some (.int i), none, none] []) (hE : ¬ K (.inr ())) : WF Z K (m_L_case24 n xs i I) I 1311 [some (.ref b), some (rf (zG Z) 0), some (rf (zG Z) 196), some (rf (zG Z) 230), some (.int i), none, none] [] := by
  unfold m_L_case24
  refine w_aload_n (v := 0) C dL_law_1311 rfl (q := 1312) rfl ?_
  refine w_aloadB (b := b) C dL_law_1312 rfl (q := 1313) rfl ?_
  refine w_iload (v := i) C dL_law_1313 rfl (q := 1315) rfl ?_
  refine w_iconst (v := (1)) C dL_law_1315 (by decide) (q := 1316) rfl ?_
  refine w_iadd C dL_law_1316 (q := 1317) rfl ?_
  refine w_sld C X dL_law_1317 (q := 1318) rfl (fun _ => ?_)
  refine w_aload_n (v := 230) C dL_law_1318 rfl (q := 1319) rfl ?_
  refine w_callSW (As := [rf (zG Z) 0, .int (xs (i + 1).toNatClampNeg), rf (zG Z) 230]) (st := []) (q := 1322) C hR hNC (okA hc (by decide)) (okA hs (by decide)) (fun x h => c_L_letter (zl Z) hst (zG Z) (xs (i + 1).toNatClampNeg) ho_0 ha_230 I h) mw_letter lk_L_185 rfl (by decide) (Nat.le_of_ble_eq_true rfl) rfl rfl dL_law_1319 rfl (fun r1 => ?_)
  have C1 := C.bump (c := Z.2.2.1 + 1) (n := Z.2.2.2.1 + 6) (okA hc (by decide)) (okA hs (by decide))
  refine w_istore C1 dL_law_1322 (Nat.le_of_ble_eq_true rfl) (L' := [some (.ref b), some (rf (zG Z) 0), some (rf (zG Z) 196), some (rf (zG Z) 230), some (.int i), some (.int r1.1), none]) rfl (q := 1324) rfl ?_
  refine w_aload_n (v := 196) C1 dL_law_1324 rfl (q := 1325) rfl ?_
  refine w_aloadB (b := b) C1 dL_law_1325 rfl (q := 1326) rfl ?_
  refine w_iload (v := i) C1 dL_law_1326 rfl (q := 1328) rfl ?_
  refine w_iconst (v := (1)) C1 dL_law_1328 (by decide) (q := 1329) rfl ?_
  refine w_iadd C1 dL_law_1329 (q := 1330) rfl ?_
  refine w_sld C1 X dL_law_1330 (q := 1331) rfl (fun _ => ?_)
  refine w_callV (val := fun r2 => some (.int r2.1)) (mem := fun r2 => r2.2) (st1 := fun r2 => [.int r2.1]) (As := [.int (xs (i + 1).toNatClampNeg)]) (st := []) (q := 1334) C1 hR (fun x h => c_X12_letter (zl Z) (zG Z) (xs (i + 1).toNatClampNeg) ho_196 r1.2 h) ho_196 mv_X12_letter lk_L_187 rfl (by decide) (fun _ => rfl) (Nat.le_of_ble_eq_true rfl) rfl rfl dL_law_1331 rfl (fun r2 => ?_)
  refine w_istore C1 dL_law_1334 (Nat.le_of_ble_eq_true rfl) (L' := [some (.ref b), some (rf (zG Z) 0), some (rf (zG Z) 196), some (rf (zG Z) 230), some (.int i), some (.int r1.1), some (.int r2.1)]) rfl (q := 1336) rfl ?_
  refine w_aload_n (v := 196) C1 dL_law_1336 rfl (q := 1337) rfl ?_
  refine w_callV (val := fun r3 => some (.int r3)) (mem := fun r3 => r2.2) (st1 := fun r3 => [.int r3]) (As := []) (st := []) (q := 1340) C1 hR (fun x h => c_X12_thrown (zl Z) (zG Z)  ho_196 r2.2 h) ho_196 mv_X12_thrown lk_L_100 rfl (by decide) (fun _ => rfl) (Nat.le_of_ble_eq_true rfl) rfl rfl dL_law_1337 rfl (fun r3 => ?_)
  refine w_iload (v := r1.1) C1 dL_law_1340 rfl (q := 1342) rfl ?_
  refine w_icmp_eq (tgt := 1347) (q := 1345) C1 dL_law_1342 (by decide) rfl (fun _ => ?_) (fun _ => ?_)
  · refine w_iload (v := r1.1) C1 dL_law_1347 rfl (q := 1349) rfl ?_
    refine w_if_ne (tgt := 1364) (q := 1352) C1 dL_law_1349 (by decide) rfl (fun _ => ?_) (fun _ => ?_)
    · refine w_aload_n (v := 230) C1 dL_law_1352 rfl (q := 1353) rfl ?_
      refine w_iconst (v := (0)) C1 dL_law_1353 (by decide) (q := 1354) rfl ?_
      refine w_lald C1 ha_230 dL_law_1354 (q := 1355) rfl (fun _ => ?_)
      refine w_iload (v := r2.1) C1 dL_law_1355 rfl (q := 1357) rfl ?_
      refine w_i2l C1 dL_law_1357 (q := 1358) rfl ?_
      refine w_lcmp C1 dL_law_1358 (q := 1359) rfl ?_
      refine w_if_eq (tgt := 1364) (q := 1362) C1 dL_law_1359 (by decide) rfl (fun _ => ?_) (fun _ => ?_)
      · refine w_goto (tgt := 1411) C1 dL_law_1364 (by decide) ?_
        exact w_jmp (fun h => WM.widen (c := Z.2.2.1 + 4) (n := Z.2.2.2.1 + 24) (Nat.add_le_add_left (by decide) _) (Nat.add_le_add_left (by decide) _) (WM.less (L' := [some (.ref b), some (rf (zG Z) 0), some (rf (zG Z) 196), some (rf (zG Z) 230), some (.int i), none, none]) (hB _ h) ⟨rfl, rfl, rfl, rfl, rfl, trivial⟩))
      · exact w_bad hE
    · refine w_goto (tgt := 1411) C1 dL_law_1364 (by decide) ?_
      exact w_jmp (fun h => WM.widen (c := Z.2.2.1 + 4) (n := Z.2.2.2.1 + 24) (Nat.add_le_add_left (by decide) _) (Nat.add_le_add_left (by decide) _) (WM.less (L' := [some (.ref b), some (rf (zG Z) 0), some (rf (zG Z) 196), some (rf (zG Z) 230), some (.int i), none, none]) (hB _ h) ⟨rfl, rfl, rfl, rfl, rfl, trivial⟩))
  · exact w_bad hE
def m_L_case25 (n : Nat) (xs : Nat → Int32) (i : Int32) (I : Mem) : Option (Mem ⊕ Unit) :=
  Option.bind (m_L_feedWritten 0 230 I) fun r1 => Option.bind (m_X12_feedWritten 196 r1.2) fun r2 => Option.bind (m_X12_thrown 196 r2.2) fun r3 => if r3 = r1.1 then (if r1.1 = 0 then (gd (inb 0 1) (if lg_cmp (r2.2 230 (0 : Int32).toNatClampNeg).toInt64 r2.1.toInt64 = 0 then (some (.inl r2.2)) else (some (.inr ())))) else (some (.inl r2.2))) else (some (.inr ()))
set_option maxRecDepth 100000 in
set_option maxHeartbeats 4000000 in
theorem m_L_case25_ok {Z : Zx} {K : Mem ⊕ Unit → Prop} (C : Cx Z code 7 RL) (hR : RM Z 13 472) (hst : (zl Z).stackTraces = false) (hNC : NCs (zs Z)) {b n : Nat} {xs : Nat → Int32} (X : LX Z b n xs) (i : Int32) (I : Mem) (hc : Z.2.2.1 + 4 ≤ (zR Z).cells) (hs : Z.2.2.2.1 + 24 ≤ (zR Z).slots) (hB : ∀ I', K (.inl I') → WM (Zb Z (Z.2.2.1 + 4) (Z.2.2.2.1 + 24)) I' 1411 [some (.ref b), some (rf (zG Z) 0), some (rf (zG Z) 196), some (rf (zG Z) 230), some (.int i), none, none] []) (hE : ¬ K (.inr ())) : WF Z K (m_L_case25 n xs i I) I 1367 [some (.ref b), some (rf (zG Z) 0), some (rf (zG Z) 196), some (rf (zG Z) 230), some (.int i), none, none] [] := by
  unfold m_L_case25
  refine w_aload_n (v := 0) C dL_law_1367 rfl (q := 1368) rfl ?_
  refine w_aload_n (v := 230) C dL_law_1368 rfl (q := 1369) rfl ?_
  refine w_callSW (As := [rf (zG Z) 0, rf (zG Z) 230]) (st := []) (q := 1372) C hR hNC (okA hc (by decide)) (okA hs (by decide)) (fun x h => c_L_feedWritten (zl Z) hst (zG Z)  ho_0 ha_230 I h) mw_feedWritten lk_L_188 rfl (by decide) (Nat.le_of_ble_eq_true rfl) rfl rfl dL_law_1369 rfl (fun r1 => ?_)
  have C1 := C.bump (c := Z.2.2.1 + 1) (n := Z.2.2.2.1 + 6) (okA hc (by decide)) (okA hs (by decide))
  refine w_istore C1 dL_law_1372 (Nat.le_of_ble_eq_true rfl) (L' := [some (.ref b), some (rf (zG Z) 0), some (rf (zG Z) 196), some (rf (zG Z) 230), some (.int i), some (.int r1.1), none]) rfl (q := 1374) rfl ?_
  refine w_aload_n (v := 196) C1 dL_law_1374 rfl (q := 1375) rfl ?_
  refine w_callV (val := fun r2 => some (.int r2.1)) (mem := fun r2 => r2.2) (st1 := fun r2 => [.int r2.1]) (As := []) (st := []) (q := 1378) C1 hR (fun x h => c_X12_feedWritten (zl Z) (zG Z)  ho_196 r1.2 h) ho_196 mv_X12_feedWritten lk_L_190 rfl (by decide) (fun _ => rfl) (Nat.le_of_ble_eq_true rfl) rfl rfl dL_law_1375 rfl (fun r2 => ?_)
  refine w_istore C1 dL_law_1378 (Nat.le_of_ble_eq_true rfl) (L' := [some (.ref b), some (rf (zG Z) 0), some (rf (zG Z) 196), some (rf (zG Z) 230), some (.int i), some (.int r1.1), some (.int r2.1)]) rfl (q := 1380) rfl ?_
  refine w_aload_n (v := 196) C1 dL_law_1380 rfl (q := 1381) rfl ?_
  refine w_callV (val := fun r3 => some (.int r3)) (mem := fun r3 => r2.2) (st1 := fun r3 => [.int r3]) (As := []) (st := []) (q := 1384) C1 hR (fun x h => c_X12_thrown (zl Z) (zG Z)  ho_196 r2.2 h) ho_196 mv_X12_thrown lk_L_100 rfl (by decide) (fun _ => rfl) (Nat.le_of_ble_eq_true rfl) rfl rfl dL_law_1381 rfl (fun r3 => ?_)
  refine w_iload (v := r1.1) C1 dL_law_1384 rfl (q := 1386) rfl ?_
  refine w_icmp_eq (tgt := 1391) (q := 1389) C1 dL_law_1386 (by decide) rfl (fun _ => ?_) (fun _ => ?_)
  · refine w_iload (v := r1.1) C1 dL_law_1391 rfl (q := 1393) rfl ?_
    refine w_if_ne (tgt := 1408) (q := 1396) C1 dL_law_1393 (by decide) rfl (fun _ => ?_) (fun _ => ?_)
    · refine w_aload_n (v := 230) C1 dL_law_1396 rfl (q := 1397) rfl ?_
      refine w_iconst (v := (0)) C1 dL_law_1397 (by decide) (q := 1398) rfl ?_
      refine w_lald C1 ha_230 dL_law_1398 (q := 1399) rfl (fun _ => ?_)
      refine w_iload (v := r2.1) C1 dL_law_1399 rfl (q := 1401) rfl ?_
      refine w_i2l C1 dL_law_1401 (q := 1402) rfl ?_
      refine w_lcmp C1 dL_law_1402 (q := 1403) rfl ?_
      refine w_if_eq (tgt := 1408) (q := 1406) C1 dL_law_1403 (by decide) rfl (fun _ => ?_) (fun _ => ?_)
      · refine w_goto (tgt := 1411) C1 dL_law_1408 (by decide) ?_
        exact w_jmp (fun h => WM.widen (c := Z.2.2.1 + 4) (n := Z.2.2.2.1 + 24) (Nat.add_le_add_left (by decide) _) (Nat.add_le_add_left (by decide) _) (WM.less (L' := [some (.ref b), some (rf (zG Z) 0), some (rf (zG Z) 196), some (rf (zG Z) 230), some (.int i), none, none]) (hB _ h) ⟨rfl, rfl, rfl, rfl, rfl, trivial⟩))
      · exact w_bad hE
    · refine w_goto (tgt := 1411) C1 dL_law_1408 (by decide) ?_
      exact w_jmp (fun h => WM.widen (c := Z.2.2.1 + 4) (n := Z.2.2.2.1 + 24) (Nat.add_le_add_left (by decide) _) (Nat.add_le_add_left (by decide) _) (WM.less (L' := [some (.ref b), some (rf (zG Z) 0), some (rf (zG Z) 196), some (rf (zG Z) 230), some (.int i), none, none]) (hB _ h) ⟨rfl, rfl, rfl, rfl, rfl, trivial⟩))
  · exact w_bad hE
def m_L_step (n : Nat) (xs : Nat → Int32) (i : Int32) (I : Mem) : Option (Mem ⊕ Unit) :=
  gd (inb i n) (if xs i.toNatClampNeg &&& 31 = 0 then m_L_case0 n xs i I else if xs i.toNatClampNeg &&& 31 = 1 then m_L_case1 n xs i I else if xs i.toNatClampNeg &&& 31 = 2 then m_L_case2 n xs i I else if xs i.toNatClampNeg &&& 31 = 3 then m_L_case3 n xs i I else if xs i.toNatClampNeg &&& 31 = 4 then m_L_case4 n xs i I else if xs i.toNatClampNeg &&& 31 = 5 then m_L_case5 n xs i I else if xs i.toNatClampNeg &&& 31 = 6 then m_L_case6 n xs i I else if xs i.toNatClampNeg &&& 31 = 7 then m_L_case7 n xs i I else if xs i.toNatClampNeg &&& 31 = 8 then m_L_case8 n xs i I else if xs i.toNatClampNeg &&& 31 = 9 then m_L_case9 n xs i I else if xs i.toNatClampNeg &&& 31 = 10 then m_L_case10 n xs i I else if xs i.toNatClampNeg &&& 31 = 11 then m_L_case11 n xs i I else if xs i.toNatClampNeg &&& 31 = 12 then m_L_case12 n xs i I else if xs i.toNatClampNeg &&& 31 = 13 then m_L_case13 n xs i I else if xs i.toNatClampNeg &&& 31 = 14 then m_L_case14 n xs i I else if xs i.toNatClampNeg &&& 31 = 15 then m_L_case15 n xs i I else if xs i.toNatClampNeg &&& 31 = 16 then m_L_case16 n xs i I else if xs i.toNatClampNeg &&& 31 = 17 then m_L_case17 n xs i I else if xs i.toNatClampNeg &&& 31 = 18 then m_L_case18 n xs i I else if xs i.toNatClampNeg &&& 31 = 19 then m_L_case19 n xs i I else if xs i.toNatClampNeg &&& 31 = 20 then m_L_case20 n xs i I else if xs i.toNatClampNeg &&& 31 = 21 then m_L_case21 n xs i I else if xs i.toNatClampNeg &&& 31 = 22 then m_L_case22 n xs i I else if xs i.toNatClampNeg &&& 31 = 23 then m_L_case23 n xs i I else if xs i.toNatClampNeg &&& 31 = 24 then m_L_case24 n xs i I else if xs i.toNatClampNeg &&& 31 = 25 then m_L_case25 n xs i I else some (.inl I))
set_option maxRecDepth 100000 in
set_option maxHeartbeats 4000000 in
theorem m_L_step_ok {Z : Zx} {K : Mem ⊕ Unit → Prop} (C : Cx Z code 7 RL) (hR : RM Z 13 472) (hst : (zl Z).stackTraces = false) (hNC : NCs (zs Z)) {b n : Nat} {xs : Nat → Int32} (X : LX Z b n xs) (i : Int32) (I : Mem) (hc : Z.2.2.1 + 4 ≤ (zR Z).cells) (hs : Z.2.2.2.1 + 24 ≤ (zR Z).slots) (hB : ∀ I', K (.inl I') → WM (Zb Z (Z.2.2.1 + 4) (Z.2.2.2.1 + 24)) I' 1411 [some (.ref b), some (rf (zG Z) 0), some (rf (zG Z) 196), some (rf (zG Z) 230), some (.int i), none, none] []) (hE : ¬ K (.inr ())) : WF Z K (m_L_step n xs i I) I 32 [some (.ref b), some (rf (zG Z) 0), some (rf (zG Z) 196), some (rf (zG Z) 230), some (.int i), none, none] [] := by
  unfold m_L_step
  refine w_aloadB (b := b) C dL_law_32 rfl (q := 33) rfl ?_
  refine w_iload (v := i) C dL_law_33 rfl (q := 35) rfl ?_
  refine w_sld C X dL_law_35 (q := 36) rfl (fun _ => ?_)
  refine w_bipush (v := (31)) C dL_law_36 (by decide) (q := 38) rfl ?_
  refine w_iand C dL_law_38 (q := 39) rfl ?_
  obtain ⟨j, hj, hx⟩ := pk_andE (xs i.toNatClampNeg) (m := 31) 5 (by decide)
  generalize xs i.toNatClampNeg &&& 31 = x at hx ⊢
  by_cases h0 : x = 0
  · rw [if_pos h0, h0]
    exact w_tabIn (tgt := 156) C dL_law_39 (by decide) (by decide) rfl (by decide) (m_L_case0_ok C hR hst hNC X i I hc hs hB hE)
  rw [if_neg h0]
  by_cases h1 : x = 1
  · rw [if_pos h1, h1]
    exact w_tabIn (tgt := 238) C dL_law_39 (by decide) (by decide) rfl (by decide) (m_L_case1_ok C hR hst hNC X i I hc hs hB hE)
  rw [if_neg h1]
  by_cases h2 : x = 2
  · rw [if_pos h2, h2]
    exact w_tabIn (tgt := 286) C dL_law_39 (by decide) (by decide) rfl (by decide) (m_L_case2_ok C hR hst hNC X i I hc hs hB hE)
  rw [if_neg h2]
  by_cases h3 : x = 3
  · rw [if_pos h3, h3]
    exact w_tabIn (tgt := 330) C dL_law_39 (by decide) (by decide) rfl (by decide) (m_L_case3_ok C hR hst hNC X i I hc hs hB hE)
  rw [if_neg h3]
  by_cases h4 : x = 4
  · rw [if_pos h4, h4]
    exact w_tabIn (tgt := 341) C dL_law_39 (by decide) (by decide) rfl (by decide) (m_L_case4_ok C hR hst hNC X i I hc hs hB hE)
  rw [if_neg h4]
  by_cases h5 : x = 5
  · rw [if_pos h5, h5]
    exact w_tabIn (tgt := 354) C dL_law_39 (by decide) (by decide) rfl (by decide) (m_L_case5_ok C hR hst hNC X i I hc hs hB hE)
  rw [if_neg h5]
  by_cases h6 : x = 6
  · rw [if_pos h6, h6]
    exact w_tabIn (tgt := 412) C dL_law_39 (by decide) (by decide) rfl (by decide) (m_L_case6_ok C hR hst hNC X i I hc hs hB hE)
  rw [if_neg h6]
  by_cases h7 : x = 7
  · rw [if_pos h7, h7]
    exact w_tabIn (tgt := 425) C dL_law_39 (by decide) (by decide) rfl (by decide) (m_L_case7_ok C hR hst hNC X i I hc hs hB hE)
  rw [if_neg h7]
  by_cases h8 : x = 8
  · rw [if_pos h8, h8]
    exact w_tabIn (tgt := 438) C dL_law_39 (by decide) (by decide) rfl (by decide) (m_L_case8_ok C hR hst hNC X i I hc hs hB hE)
  rw [if_neg h8]
  by_cases h9 : x = 9
  · rw [if_pos h9, h9]
    exact w_tabIn (tgt := 482) C dL_law_39 (by decide) (by decide) rfl (by decide) (m_L_case9_ok C hR hst hNC X i I hc hs hB hE)
  rw [if_neg h9]
  by_cases h10 : x = 10
  · rw [if_pos h10, h10]
    exact w_tabIn (tgt := 538) C dL_law_39 (by decide) (by decide) rfl (by decide) (m_L_case10_ok C hR hst hNC X i I hc hs hB hE)
  rw [if_neg h10]
  by_cases h11 : x = 11
  · rw [if_pos h11, h11]
    exact w_tabIn (tgt := 594) C dL_law_39 (by decide) (by decide) rfl (by decide) (m_L_case11_ok C hR hst hNC X i I hc hs hB hE)
  rw [if_neg h11]
  by_cases h12 : x = 12
  · rw [if_pos h12, h12]
    exact w_tabIn (tgt := 638) C dL_law_39 (by decide) (by decide) rfl (by decide) (m_L_case12_ok C hR hst hNC X i I hc hs hB hE)
  rw [if_neg h12]
  by_cases h13 : x = 13
  · rw [if_pos h13, h13]
    exact w_tabIn (tgt := 682) C dL_law_39 (by decide) (by decide) rfl (by decide) (m_L_case13_ok C hR hst hNC X i I hc hs hB hE)
  rw [if_neg h13]
  by_cases h14 : x = 14
  · rw [if_pos h14, h14]
    exact w_tabIn (tgt := 738) C dL_law_39 (by decide) (by decide) rfl (by decide) (m_L_case14_ok C hR hst hNC X i I hc hs hB hE)
  rw [if_neg h14]
  by_cases h15 : x = 15
  · rw [if_pos h15, h15]
    exact w_tabIn (tgt := 794) C dL_law_39 (by decide) (by decide) rfl (by decide) (m_L_case15_ok C hR hst hNC X i I hc hs hB hE)
  rw [if_neg h15]
  by_cases h16 : x = 16
  · rw [if_pos h16, h16]
    exact w_tabIn (tgt := 862) C dL_law_39 (by decide) (by decide) rfl (by decide) (m_L_case16_ok C hR hst hNC X i I hc hs hB hE)
  rw [if_neg h16]
  by_cases h17 : x = 17
  · rw [if_pos h17, h17]
    exact w_tabIn (tgt := 942) C dL_law_39 (by decide) (by decide) rfl (by decide) (m_L_case17_ok C hR hst hNC X i I hc hs hB hE)
  rw [if_neg h17]
  by_cases h18 : x = 18
  · rw [if_pos h18, h18]
    exact w_tabIn (tgt := 998) C dL_law_39 (by decide) (by decide) rfl (by decide) (m_L_case18_ok C hR hst hNC X i I hc hs hB hE)
  rw [if_neg h18]
  by_cases h19 : x = 19
  · rw [if_pos h19, h19]
    exact w_tabIn (tgt := 1054) C dL_law_39 (by decide) (by decide) rfl (by decide) (m_L_case19_ok C hR hst hNC X i I hc hs hB hE)
  rw [if_neg h19]
  by_cases h20 : x = 20
  · rw [if_pos h20, h20]
    exact w_tabIn (tgt := 1124) C dL_law_39 (by decide) (by decide) rfl (by decide) (m_L_case20_ok C hR hst hNC X i I hc hs hB hE)
  rw [if_neg h20]
  by_cases h21 : x = 21
  · rw [if_pos h21, h21]
    exact w_tabIn (tgt := 1192) C dL_law_39 (by decide) (by decide) rfl (by decide) (m_L_case21_ok C hR hst hNC X i I hc hs hB hE)
  rw [if_neg h21]
  by_cases h22 : x = 22
  · rw [if_pos h22, h22]
    exact w_tabIn (tgt := 1254) C dL_law_39 (by decide) (by decide) rfl (by decide) (m_L_case22_ok C hR hst hNC X i I hc hs hB hE)
  rw [if_neg h22]
  by_cases h23 : x = 23
  · rw [if_pos h23, h23]
    exact w_tabIn (tgt := 1298) C dL_law_39 (by decide) (by decide) rfl (by decide) (m_L_case23_ok C hR hst hNC X i I hc hs hB hE)
  rw [if_neg h23]
  by_cases h24 : x = 24
  · rw [if_pos h24, h24]
    exact w_tabIn (tgt := 1311) C dL_law_39 (by decide) (by decide) rfl (by decide) (m_L_case24_ok C hR hst hNC X i I hc hs hB hE)
  rw [if_neg h24]
  by_cases h25 : x = 25
  · rw [if_pos h25, h25]
    exact w_tabIn (tgt := 1367) C dL_law_39 (by decide) (by decide) rfl (by decide) (m_L_case25_ok C hR hst hNC X i I hc hs hB hE)
  rw [if_neg h25]
  refine w_tabOut (tgt := 1411) C dL_law_39 (Or.inr ?_) (by decide) ?_
  · by_cases hj2 : 26 ≤ j
    · subst hx
      have hall : ∀ j : Fin 32, 26 ≤ j.val → 25 < (nI j.val).toInt := by decide
      exact hall ⟨j, hj⟩ hj2
    · exfalso
      rcases (by omega : j = 0 ∨ j = 1 ∨ j = 2 ∨ j = 3 ∨ j = 4 ∨ j = 5 ∨ j = 6 ∨ j = 7 ∨ j = 8 ∨ j = 9 ∨ j = 10 ∨ j = 11 ∨ j = 12 ∨ j = 13 ∨ j = 14 ∨ j = 15 ∨ j = 16 ∨ j = 17 ∨ j = 18 ∨ j = 19 ∨ j = 20 ∨ j = 21 ∨ j = 22 ∨ j = 23 ∨ j = 24 ∨ j = 25) with rfl | rfl | rfl | rfl | rfl | rfl | rfl | rfl | rfl | rfl | rfl | rfl | rfl | rfl | rfl | rfl | rfl | rfl | rfl | rfl | rfl | rfl | rfl | rfl | rfl | rfl
      · exact h0 (hx.trans (by decide))
      · exact h1 (hx.trans (by decide))
      · exact h2 (hx.trans (by decide))
      · exact h3 (hx.trans (by decide))
      · exact h4 (hx.trans (by decide))
      · exact h5 (hx.trans (by decide))
      · exact h6 (hx.trans (by decide))
      · exact h7 (hx.trans (by decide))
      · exact h8 (hx.trans (by decide))
      · exact h9 (hx.trans (by decide))
      · exact h10 (hx.trans (by decide))
      · exact h11 (hx.trans (by decide))
      · exact h12 (hx.trans (by decide))
      · exact h13 (hx.trans (by decide))
      · exact h14 (hx.trans (by decide))
      · exact h15 (hx.trans (by decide))
      · exact h16 (hx.trans (by decide))
      · exact h17 (hx.trans (by decide))
      · exact h18 (hx.trans (by decide))
      · exact h19 (hx.trans (by decide))
      · exact h20 (hx.trans (by decide))
      · exact h21 (hx.trans (by decide))
      · exact h22 (hx.trans (by decide))
      · exact h23 (hx.trans (by decide))
      · exact h24 (hx.trans (by decide))
      · exact h25 (hx.trans (by decide))
  · exact w_jmp (fun h => WM.widen (c := Z.2.2.1 + 4) (n := Z.2.2.2.1 + 24) (Nat.le_add_right _ _) (Nat.le_add_right _ _) (hB _ h))
