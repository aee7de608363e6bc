def m_X11_needElement_j24  (I : Mem) : Option ((Unit ⊕ Nat) × Mem) :=
  some (.inr 2, I)
set_option maxRecDepth 100000 in
set_option maxHeartbeats 4000000 in
theorem m_X11_needElement_j24_ok {Z : Zx} {K : ((Unit ⊕ Nat) × Mem) → Prop} (C : Cx Z cX11_needElement 3 RX11) (hR : RM Z 8 131) (I : Mem) (hst : (zl Z).stackTraces = false) (hc : Z.2.2.1 + 1 ≤ (zR Z).cells) (hs : Z.2.2.2.1 + 6 ≤ (zR Z).slots) (hK : ∀ v I', K (.inl v, I') → RetV Z cX11_needElement I') (hE : ∀ k I', K (.inr k, I') → RetX Z k I') : WF Z K (m_X11_needElement_j24  I) I 24 [none, none, none] [] := by
  unfold m_X11_needElement_j24
  exact w_throwW C hR (okA hc (by decide)) (okA hs (by decide)) (k := 2) (ik := 192) (is := 272) (ic := 196) (text := "no such element") (hE _ _) tw_X11_192_196 (by decide +kernel) (by decide) (Nat.le_of_ble_eq_true rfl) rfl dX11_needElement_24 dX11_needElement_27 dX11_needElement_28 dX11_needElement_31 dX11_needElement_34
def m_X11_needElement_j5 (k : Nat) (p1 : Int32) (p2 : Int32) (I : Mem) : Option ((Unit ⊕ Nat) × Mem) :=
  if p2 < 0 then (m_X11_needElement_j24  I) else (gd (iO ((I k 5).toNatClampNeg) 4) (Option.bind (m_X4_bodyAt ((I k 5).toNatClampNeg) p1 I) fun r4 => gd (iO r4 9) (Option.bind (m_X9_elementCount r4 I) fun r6 => if p2 < r6 then (some (.inl (), I)) else (m_X11_needElement_j24  I))))
set_option maxRecDepth 100000 in
set_option maxHeartbeats 4000000 in
theorem m_X11_needElement_j5_ok {Z : Zx} {K : ((Unit ⊕ Nat) × Mem) → Prop} (C : Cx Z cX11_needElement 3 RX11) (hR : RM Z 8 131) (k : Nat) (p1 : Int32) (p2 : Int32) (hk : isO k 11) (I : Mem) (hst : (zl Z).stackTraces = false) (hc : Z.2.2.1 + 1 ≤ (zR Z).cells) (hs : Z.2.2.2.1 + 6 ≤ (zR Z).slots) (hK : ∀ v I', K (.inl v, I') → RetV Z cX11_needElement I') (hE : ∀ k I', K (.inr k, I') → RetX Z k I') : WF Z K (m_X11_needElement_j5 k p1 p2 I) I 5 [some (rf (zG Z) k), some (.int p1), some (.int p2)] [] := by
  unfold m_X11_needElement_j5
  refine w_iload_n (v := p2) C dX11_needElement_5 rfl (q := 6) rfl ?_
  refine w_if_lt (tgt := 24) (q := 9) C dX11_needElement_6 (by decide) rfl (fun _ => ?_) (fun _ => ?_)
  · exact WF.less (L' := [none, none, none]) (m_X11_needElement_j24_ok C hR   I hst hc hs hK hE) trivial
  · refine w_iload_n (v := p2) C dX11_needElement_9 rfl (q := 10) rfl ?_
    refine w_aload_n (v := k) C dX11_needElement_10 rfl (q := 11) rfl ?_
    refine g_X11_5 C hk lk_X11_49 dX11_needElement_11 (q := 14) rfl ?_
    refine w_gd (fun h3 => ?_)
    refine w_iload_n (v := p1) C dX11_needElement_14 rfl (q := 15) rfl ?_
    refine w_callV (val := fun r4 => some (rf (zG Z) r4)) (mem := fun r4 => I) (st1 := fun r4 => [rf (zG Z) r4, .int p2]) (As := [.int p1]) (st := [.int p2]) (q := 18) C hR (fun x h => c_X4_bodyAt (zl Z) (zG Z) p1 (iO_of h3) I h) (iO_of h3) mv_X4_bodyAt lk_X11_173 rfl (by decide) (fun _ => rfl) (Nat.le_of_ble_eq_true rfl) rfl rfl dX11_needElement_15 rfl (fun r4 => ?_)
    refine w_gd (fun h5 => ?_)
    refine w_callV (val := fun r6 => some (.int r6)) (mem := fun r6 => I) (st1 := fun r6 => [.int r6, .int p2]) (As := []) (st := [.int p2]) (q := 21) C hR (fun x h => c_X9_elementCount (zl Z) (zG Z)  (iO_of h5) I h) (iO_of h5) mv_X9_elementCount lk_X11_183 rfl (by decide) (fun _ => rfl) (Nat.le_of_ble_eq_true rfl) rfl rfl dX11_needElement_18 rfl (fun r6 => ?_)
    refine w_icmp_lt (tgt := 35) (q := 24) C dX11_needElement_21 (by decide) rfl (fun _ => ?_) (fun _ => ?_)
    · exact w_vret C (hK _ _) dX11_needElement_35
    · exact WF.less (L' := [none, none, none]) (m_X11_needElement_j24_ok C hR   I hst hc hs hK hE) trivial
def m_X11_needElement (k : Nat) (p1 : Int32) (p2 : Int32) (I : Mem) : Option ((Unit ⊕ Nat) × Mem) :=
  obx (m_X11_needSegment k p1 I) (fun k I9 => some (.inr k, I9)) (fun r1 I2 => m_X11_needElement_j5 k p1 p2 I2)
set_option maxRecDepth 100000 in
set_option maxHeartbeats 4000000 in
theorem m_X11_needElement_ok {Z : Zx} {K : ((Unit ⊕ Nat) × Mem) → Prop} (C : Cx Z cX11_needElement 3 RX11) (hR : RM Z 8 131) (k : Nat) (p1 : Int32) (p2 : Int32) (hk : isO k 11) (I : Mem) (hst : (zl Z).stackTraces = false) (hc : Z.2.2.1 + 3 ≤ (zR Z).cells) (hs : Z.2.2.2.1 + 18 ≤ (zR Z).slots) (hK : ∀ v I', K (.inl v, I') → RetV Z cX11_needElement I') (hE : ∀ k I', K (.inr k, I') → RetX Z k I') : WF Z K (m_X11_needElement k p1 p2 I) I 0 [some (rf (zG Z) k), some (.int p1), some (.int p2)] [] := by
  unfold m_X11_needElement
  refine w_aload_n (v := k) C dX11_needElement_0 rfl (q := 1) rfl ?_
  refine w_iload_n (v := p1) C dX11_needElement_1 rfl (q := 2) rfl ?_
  refine w_callVX (val := fun _ => none) (st1 := fun _ => []) (As := [.int p1]) (st := []) (q := 5) C hR (okA hc (by decide)) (okA hs (by decide)) (fun x h => c_X11_needSegment (zl Z) hst (zG Z) p1 hk I h) hk mv_X11_needSegment lk_X11_170 rfl (by decide) (fun _ => rfl) (Nat.le_of_ble_eq_true rfl) rfl rfl dX11_needElement_2 rfl (hE) (fun r1 I2 => ?_)
  exact WF.less (L' := [some (rf (zG Z) k), some (.int p1), some (.int p2)]) (m_X11_needElement_j5_ok (C.bump (okA hc (by decide)) (okA hs (by decide))) hR k p1 p2 hk I2 hst (by have := hc; show Z.2.2.1 + 2 + 1 ≤ _; omega) (by have := hs; show Z.2.2.2.1 + 12 + 6 ≤ _; omega) hK hE) ⟨rfl, rfl, rfl, trivial⟩
theorem c_X11_needElement (l : Launch) (hst : l.stackTraces = false) (G : Gx) {k : Nat} (p1 : Int32) (p2 : Int32) (hk : isO k 11) (I : Mem) {x : (Unit ⊕ Nat) × Mem} (h : m_X11_needElement k p1 p2 I = some x) : CtX l G yX11_needElement cX11_needElement 3 none 8 131 3 18 [rf G k, .int p1, .int p2] I (rsX (fun _ => none) x.1) x.2 := CtX.of hst (by decide +kernel) rfl (Nat.le_of_ble_eq_true rfl) retx_v (fun Z hG hl C hR hc hs hret hexc => by
  subst hG
  subst hl
  exact m_X11_needElement_ok (K := fun y => y = x) C hR k p1 p2 hk I hst hc hs (fun v I' hy => by subst hy; exact hret _ rfl) (fun k I' hy => by subst hy; exact hexc _ rfl) x h rfl)
def m_X11_contentLength_j6 (k : Nat) (p1 : Int32) (p2 : Int32) (I : Mem) : Option ((Int32 ⊕ Nat) × Mem) :=
  gd (iO ((I k 5).toNatClampNeg) 4) (Option.bind (m_X4_bodyAt ((I k 5).toNatClampNeg) p1 I) fun r4 => gd (iO r4 9) (Option.bind (m_X9_countIn r4 p2 I) fun r6 => some ((.inl r6, I))))
set_option maxRecDepth 100000 in
set_option maxHeartbeats 4000000 in
theorem m_X11_contentLength_j6_ok {Z : Zx} {K : ((Int32 ⊕ Nat) × Mem) → Prop} (C : Cx Z cX11_contentLength 3 RX11) (hR : RM Z 9 153) (k : Nat) (p1 : Int32) (p2 : Int32) (hk : isO k 11) (I : Mem) (hst : (zl Z).stackTraces = false) (hc : Z.2.2.1 + 0 ≤ (zR Z).cells) (hs : Z.2.2.2.1 + 0 ≤ (zR Z).slots) (hK : ∀ v I', K (.inl v, I') → RetI Z cX11_contentLength .int v I') (hE : ∀ k I', K (.inr k, I') → RetX Z k I') : WF Z K (m_X11_contentLength_j6 k p1 p2 I) I 6 [some (rf (zG Z) k), some (.int p1), some (.int p2)] [] := by
  unfold m_X11_contentLength_j6
  refine w_aload_n (v := k) C dX11_contentLength_6 rfl (q := 7) rfl ?_
  refine g_X11_5 C hk lk_X11_49 dX11_contentLength_7 (q := 10) rfl ?_
  refine w_gd (fun h3 => ?_)
  refine w_iload_n (v := p1) C dX11_contentLength_10 rfl (q := 11) rfl ?_
  refine w_callV (val := fun r4 => some (rf (zG Z) r4)) (mem := fun r4 => I) (st1 := fun r4 => [rf (zG Z) r4]) (As := [.int p1]) (st := []) (q := 14) C hR (fun x h => c_X4_bodyAt (zl Z) (zG Z) p1 (iO_of h3) I h) (iO_of h3) mv_X4_bodyAt lk_X11_173 rfl (by decide) (fun _ => rfl) (Nat.le_of_ble_eq_true rfl) rfl rfl dX11_contentLength_11 rfl (fun r4 => ?_)
  refine w_gd (fun h5 => ?_)
  refine w_iload_n (v := p2) C dX11_contentLength_14 rfl (q := 15) rfl ?_
  refine w_callV (val := fun r6 => some (.int r6)) (mem := fun r6 => I) (st1 := fun r6 => [.int r6]) (As := [.int p2]) (st := []) (q := 18) C hR (fun x h => c_X9_countIn (zl Z) (zG Z) p2 (iO_of h5) I h) (iO_of h5) mv_X9_countIn lk_X11_189 rfl (by decide) (fun _ => rfl) (Nat.le_of_ble_eq_true rfl) rfl rfl dX11_contentLength_15 rfl (fun r6 => ?_)
  exact w_iret C (hK _ _) rfl dX11_contentLength_18
def m_X11_contentLength (k : Nat) (p1 : Int32) (p2 : Int32) (I : Mem) : Option ((Int32 ⊕ Nat) × Mem) :=
  obx (m_X11_needElement k p1 p2 I) (fun k I9 => some (.inr k, I9)) (fun r1 I2 => m_X11_contentLength_j6 k p1 p2 I2)
set_option maxRecDepth 100000 in
set_option maxHeartbeats 4000000 in
theorem m_X11_contentLength_ok {Z : Zx} {K : ((Int32 ⊕ Nat) × Mem) → Prop} (C : Cx Z cX11_contentLength 3 RX11) (hR : RM Z 9 153) (k : Nat) (p1 : Int32) (p2 : Int32) (hk : isO k 11) (I : Mem) (hst : (zl Z).stackTraces = false) (hc : Z.2.2.1 + 3 ≤ (zR Z).cells) (hs : Z.2.2.2.1 + 18 ≤ (zR Z).slots) (hK : ∀ v I', K (.inl v, I') → RetI Z cX11_contentLength .int v I') (hE : ∀ k I', K (.inr k, I') → RetX Z k I') : WF Z K (m_X11_contentLength k p1 p2 I) I 0 [some (rf (zG Z) k), some (.int p1), some (.int p2)] [] := by
  unfold m_X11_contentLength
  refine w_aload_n (v := k) C dX11_contentLength_0 rfl (q := 1) rfl ?_
  refine w_iload_n (v := p1) C dX11_contentLength_1 rfl (q := 2) rfl ?_
  refine w_iload_n (v := p2) C dX11_contentLength_2 rfl (q := 3) rfl ?_
  refine w_callVX (val := fun _ => none) (st1 := fun _ => []) (As := [.int p1, .int p2]) (st := []) (q := 6) C hR (okA hc (by decide)) (okA hs (by decide)) (fun x h => c_X11_needElement (zl Z) hst (zG Z) p1 p2 hk I h) hk mv_X11_needElement lk_X11_186 rfl (by decide) (fun _ => rfl) (Nat.le_of_ble_eq_true rfl) rfl rfl dX11_contentLength_3 rfl (hE) (fun r1 I2 => ?_)
  exact WF.less (L' := [some (rf (zG Z) k), some (.int p1), some (.int p2)]) (m_X11_contentLength_j6_ok (C.bump (okA hc (by decide)) (okA hs (by decide))) hR k p1 p2 hk I2 hst (by have := hc; show Z.2.2.1 + 3 + 0 ≤ _; omega) (by have := hs; show Z.2.2.2.1 + 18 + 0 ≤ _; omega) hK hE) ⟨rfl, rfl, rfl, trivial⟩
theorem c_X11_contentLength (l : Launch) (hst : l.stackTraces = false) (G : Gx) {k : Nat} (p1 : Int32) (p2 : Int32) (hk : isO k 11) (I : Mem) {x : (Int32 ⊕ Nat) × Mem} (h : m_X11_contentLength k p1 p2 I = some x) : CtX l G yX11_contentLength cX11_contentLength 3 (some (.int)) 9 153 3 18 [rf G k, .int p1, .int p2] I (rsX (fun v => some (.int v)) x.1) x.2 := CtX.of hst (by decide +kernel) rfl (Nat.le_of_ble_eq_true rfl) retx_i (fun Z hG hl C hR hc hs hret hexc => by
  subst hG
  subst hl
  exact m_X11_contentLength_ok (K := fun y => y = x) C hR k p1 p2 hk I hst hc hs (fun v I' hy => by subst hy; exact hret _ rfl) (fun k I' hy => by subst hy; exact hexc _ rfl) x h rfl)
def m_X11_content_j26  (I : Mem) : Option ((Int32 ⊕ Nat) × Mem) :=
  some (.inr 2, I)
set_option maxRecDepth 100000 in
set_option maxHeartbeats 4000000 in
theorem m_X11_content_j26_ok {Z : Zx} {K : ((Int32 ⊕ Nat) × Mem) → Prop} (C : Cx Z cX11_content 4 RX11) (hR : RM Z 9 153) (I : Mem) (hst : (zl Z).stackTraces = false) (hc : Z.2.2.1 + 1 ≤ (zR Z).cells) (hs : Z.2.2.2.1 + 6 ≤ (zR Z).slots) (hK : ∀ v I', K (.inl v, I') → RetI Z cX11_content .char v I') (hE : ∀ k I', K (.inr k, I') → RetX Z k I') : WF Z K (m_X11_content_j26  I) I 26 [none, none, none, none] [] := by
  unfold m_X11_content_j26
  exact w_throw C hR (okA hc (by decide)) (okA hs (by decide)) (k := 2) (ik := 192) (is := 194) (ic := 196) (text := "no such letter") (hE _ _) tw_X11_192_196 (by decide +kernel) (by decide) (Nat.le_of_ble_eq_true rfl) rfl dX11_content_26 dX11_content_29 dX11_content_30 dX11_content_32 dX11_content_35
def m_X11_content_j6 (k : Nat) (p1 : Int32) (p2 : Int32) (p3 : Int32) (I : Mem) : Option ((Int32 ⊕ Nat) × Mem) :=
  if p3 < 0 then (m_X11_content_j26  I) else (gd (iO ((I k 5).toNatClampNeg) 4) (Option.bind (m_X4_bodyAt ((I k 5).toNatClampNeg) p1 I) fun r4 => gd (iO r4 9) (Option.bind (m_X9_countIn r4 p2 I) fun r6 => if p3 < r6 then (gd (iO ((I k 5).toNatClampNeg) 4) (Option.bind (m_X4_bodyAt ((I k 5).toNatClampNeg) p1 I) fun r8 => gd (iO r8 9) (Option.bind (m_X9_letterIn r8 p2 p3 I) fun r10 => gd (okc r10) (some ((.inl r10, I)))))) else (m_X11_content_j26  I))))
set_option maxRecDepth 100000 in
set_option maxHeartbeats 4000000 in
theorem m_X11_content_j6_ok {Z : Zx} {K : ((Int32 ⊕ Nat) × Mem) → Prop} (C : Cx Z cX11_content 4 RX11) (hR : RM Z 9 153) (k : Nat) (p1 : Int32) (p2 : Int32) (p3 : Int32) (hk : isO k 11) (I : Mem) (hst : (zl Z).stackTraces = false) (hc : Z.2.2.1 + 1 ≤ (zR Z).cells) (hs : Z.2.2.2.1 + 6 ≤ (zR Z).slots) (hK : ∀ v I', K (.inl v, I') → RetI Z cX11_content .char v I') (hE : ∀ k I', K (.inr k, I') → RetX Z k I') : WF Z K (m_X11_content_j6 k p1 p2 p3 I) I 6 [some (rf (zG Z) k), some (.int p1), some (.int p2), some (.int p3)] [] := by
  unfold m_X11_content_j6
  refine w_iload_n (v := p3) C dX11_content_6 rfl (q := 7) rfl ?_
  refine w_if_lt (tgt := 26) (q := 10) C dX11_content_7 (by decide) rfl (fun _ => ?_) (fun _ => ?_)
  · exact WF.less (L' := [none, none, none, none]) (m_X11_content_j26_ok C hR   I hst hc hs hK hE) trivial
  · refine w_iload_n (v := p3) C dX11_content_10 rfl (q := 11) rfl ?_
    refine w_aload_n (v := k) C dX11_content_11 rfl (q := 12) rfl ?_
    refine g_X11_5 C hk lk_X11_49 dX11_content_12 (q := 15) rfl ?_
    refine w_gd (fun h3 => ?_)
    refine w_iload_n (v := p1) C dX11_content_15 rfl (q := 16) rfl ?_
    refine w_callV (val := fun r4 => some (rf (zG Z) r4)) (mem := fun r4 => I) (st1 := fun r4 => [rf (zG Z) r4, .int p3]) (As := [.int p1]) (st := [.int p3]) (q := 19) C hR (fun x h => c_X4_bodyAt (zl Z) (zG Z) p1 (iO_of h3) I h) (iO_of h3) mv_X4_bodyAt lk_X11_173 rfl (by decide) (fun _ => rfl) (Nat.le_of_ble_eq_true rfl) rfl rfl dX11_content_16 rfl (fun r4 => ?_)
    refine w_gd (fun h5 => ?_)
    refine w_iload_n (v := p2) C dX11_content_19 rfl (q := 20) rfl ?_
    refine w_callV (val := fun r6 => some (.int r6)) (mem := fun r6 => I) (st1 := fun r6 => [.int r6, .int p3]) (As := [.int p2]) (st := [.int p3]) (q := 23) C hR (fun x h => c_X9_countIn (zl Z) (zG Z) p2 (iO_of h5) I h) (iO_of h5) mv_X9_countIn lk_X11_189 rfl (by decide) (fun _ => rfl) (Nat.le_of_ble_eq_true rfl) rfl rfl dX11_content_20 rfl (fun r6 => ?_)
    refine w_icmp_lt (tgt := 36) (q := 26) C dX11_content_23 (by decide) rfl (fun _ => ?_) (fun _ => ?_)
    · refine w_aload_n (v := k) C dX11_content_36 rfl (q := 37) rfl ?_
      refine g_X11_5 C hk lk_X11_49 dX11_content_37 (q := 40) rfl ?_
      refine w_gd (fun h7 => ?_)
      refine w_iload_n (v := p1) C dX11_content_40 rfl (q := 41) rfl ?_
      refine w_callV (val := fun r8 => some (rf (zG Z) r8)) (mem := fun r8 => I) (st1 := fun r8 => [rf (zG Z) r8]) (As := [.int p1]) (st := []) (q := 44) C hR (fun x h => c_X4_bodyAt (zl Z) (zG Z) p1 (iO_of h7) I h) (iO_of h7) mv_X4_bodyAt lk_X11_173 rfl (by decide) (fun _ => rfl) (Nat.le_of_ble_eq_true rfl) rfl rfl dX11_content_41 rfl (fun r8 => ?_)
      refine w_gd (fun h9 => ?_)
      refine w_iload_n (v := p2) C dX11_content_44 rfl (q := 45) rfl ?_
      refine w_iload_n (v := p3) C dX11_content_45 rfl (q := 46) rfl ?_
      refine w_callV (val := fun r10 => some (.int r10)) (mem := fun r10 => I) (st1 := fun r10 => [.int r10]) (As := [.int p2, .int p3]) (st := []) (q := 49) C hR (fun x h => c_X9_letterIn (zl Z) (zG Z) p2 p3 (iO_of h9) I h) (iO_of h9) mv_X9_letterIn lk_X11_197 rfl (by decide) (fun _ => rfl) (Nat.le_of_ble_eq_true rfl) rfl rfl dX11_content_46 rfl (fun r10 => ?_)
      refine w_gd (fun h11 => ?_)
      exact w_iret C (hK _ _) (okc_n h11).1 dX11_content_49
    · exact WF.less (L' := [none, none, none, none]) (m_X11_content_j26_ok C hR   I hst hc hs hK hE) trivial
def m_X11_content (k : Nat) (p1 : Int32) (p2 : Int32) (p3 : Int32) (I : Mem) : Option ((Int32 ⊕ Nat) × Mem) :=
  obx (m_X11_needElement k p1 p2 I) (fun k I9 => some (.inr k, I9)) (fun r1 I2 => m_X11_content_j6 k p1 p2 p3 I2)
set_option maxRecDepth 100000 in
set_option maxHeartbeats 4000000 in
theorem m_X11_content_ok {Z : Zx} {K : ((Int32 ⊕ Nat) × Mem) → Prop} (C : Cx Z cX11_content 4 RX11) (hR : RM Z 9 153) (k : Nat) (p1 : Int32) (p2 : Int32) (p3 : Int32) (hk : isO k 11) (I : Mem) (hst : (zl Z).stackTraces = false) (hc : Z.2.2.1 + 4 ≤ (zR Z).cells) (hs : Z.2.2.2.1 + 24 ≤ (zR Z).slots) (hK : ∀ v I', K (.inl v, I') → RetI Z cX11_content .char v I') (hE : ∀ k I', K (.inr k, I') → RetX Z k I') : WF Z K (m_X11_content k p1 p2 p3 I) I 0 [some (rf (zG Z) k), some (.int p1), some (.int p2), some (.int p3)] [] := by
  unfold m_X11_content
  refine w_aload_n (v := k) C dX11_content_0 rfl (q := 1) rfl ?_
  refine w_iload_n (v := p1) C dX11_content_1 rfl (q := 2) rfl ?_
  refine w_iload_n (v := p2) C dX11_content_2 rfl (q := 3) rfl ?_
  refine w_callVX (val := fun _ => none) (st1 := fun _ => []) (As := [.int p1, .int p2]) (st := []) (q := 6) C hR (okA hc (by decide)) (okA hs (by decide)) (fun x h => c_X11_needElement (zl Z) hst (zG Z) p1 p2 hk I h) hk mv_X11_needElement lk_X11_186 rfl (by decide) (fun _ => rfl) (Nat.le_of_ble_eq_true rfl) rfl rfl dX11_content_3 rfl (hE) (fun r1 I2 => ?_)
  exact WF.less (L' := [some (rf (zG Z) k), some (.int p1), some (.int p2), some (.int p3)]) (m_X11_content_j6_ok (C.bump (okA hc (by decide)) (okA hs (by decide))) hR k p1 p2 p3 hk I2 hst (by have := hc; show Z.2.2.1 + 3 + 1 ≤ _; omega) (by have := hs; show Z.2.2.2.1 + 18 + 6 ≤ _; omega) hK hE) ⟨rfl, rfl, rfl, rfl, trivial⟩
theorem c_X11_content (l : Launch) (hst : l.stackTraces = false) (G : Gx) {k : Nat} (p1 : Int32) (p2 : Int32) (p3 : Int32) (hk : isO k 11) (I : Mem) {x : (Int32 ⊕ Nat) × Mem} (h : m_X11_content k p1 p2 p3 I = some x) : CtX l G yX11_content cX11_content 4 (some (.char)) 9 153 4 24 [rf G k, .int p1, .int p2, .int p3] I (rsX (fun v => some (.int v)) x.1) x.2 := CtX.of hst (by decide +kernel) rfl (Nat.le_of_ble_eq_true rfl) retx_i (fun Z hG hl C hR hc hs hret hexc => by
  subst hG
  subst hl
  exact m_X11_content_ok (K := fun y => y = x) C hR k p1 p2 p3 hk I hst hc hs (fun v I' hy => by subst hy; exact hret _ rfl) (fun k I' hy => by subst hy; exact hexc _ rfl) x h rfl)
def m_X9_itemNumber (k : Nat) (I : Mem) : Option (Int32) :=
  some (I k 5)
set_option maxRecDepth 100000 in
set_option maxHeartbeats 4000000 in
theorem m_X9_itemNumber_ok {Z : Zx} {K : Int32 → Prop} (C : Cx Z cX9_itemNumber 1 RX9) (hR : RM Z 0 0) (k : Nat) (hk : isO k 9) (I : Mem) (hK : ∀ y, K (y) → RetI Z cX9_itemNumber .int y I) : WF Z K (m_X9_itemNumber k I) I 0 [some (rf (zG Z) k)] [] := by
  unfold m_X9_itemNumber
  refine w_aload_n (v := k) C dX9_itemNumber_0 rfl (q := 1) rfl ?_
  refine g_X9_5 C hk lk_X9_30 dX9_itemNumber_1 (q := 4) rfl ?_
  exact w_iret C (hK _) rfl dX9_itemNumber_4
theorem c_X9_itemNumber (l : Launch) (G : Gx) {k : Nat} (hk : isO k 9) (I : Mem) {x : Int32} (h : m_X9_itemNumber k I = some x) : Ct l G yX9_itemNumber cX9_itemNumber 1 (some (.int)) 0 0 [rf G k] I (some (.int x)) I := Ct.of (by decide +kernel) rfl (Nat.le_of_ble_eq_true rfl) ret_i (fun Z hG hl C hR hret => by
  subst hG
  exact m_X9_itemNumber_ok (K := fun y => y = x) C hR k hk I (fun y hy => by subst hy; exact hret) x h rfl)
def m_X11_item_j5 (k : Nat) (p1 : Int32) (I : Mem) : Option ((Int32 ⊕ Nat) × Mem) :=
  gd (iO ((I k 5).toNatClampNeg) 4) (Option.bind (m_X4_bodyAt ((I k 5).toNatClampNeg) p1 I) fun r4 => gd (iO r4 9) (Option.bind (m_X9_itemNumber r4 I) fun r6 => some ((.inl r6, I))))
set_option maxRecDepth 100000 in
set_option maxHeartbeats 4000000 in
theorem m_X11_item_j5_ok {Z : Zx} {K : ((Int32 ⊕ Nat) × Mem) → Prop} (C : Cx Z cX11_item 2 RX11) (hR : RM Z 8 131) (k : Nat) (p1 : Int32) (hk : isO k 11) (I : Mem) (hst : (zl Z).stackTraces = false) (hc : Z.2.2.1 + 0 ≤ (zR Z).cells) (hs : Z.2.2.2.1 + 0 ≤ (zR Z).slots) (hK : ∀ v I', K (.inl v, I') → RetI Z cX11_item .int v I') (hE : ∀ k I', K (.inr k, I') → RetX Z k I') : WF Z K (m_X11_item_j5 k p1 I) I 5 [some (rf (zG Z) k), some (.int p1)] [] := by
  unfold m_X11_item_j5
  refine w_aload_n (v := k) C dX11_item_5 rfl (q := 6) rfl ?_
  refine g_X11_5 C hk lk_X11_49 dX11_item_6 (q := 9) rfl ?_
  refine w_gd (fun h3 => ?_)
  refine w_iload_n (v := p1) C dX11_item_9 rfl (q := 10) rfl ?_
  refine w_callV (val := fun r4 => some (rf (zG Z) r4)) (mem := fun r4 => I) (st1 := fun r4 => [rf (zG Z) r4]) (As := [.int p1]) (st := []) (q := 13) C hR (fun x h => c_X4_bodyAt (zl Z) (zG Z) p1 (iO_of h3) I h) (iO_of h3) mv_X4_bodyAt lk_X11_173 rfl (by decide) (fun _ => rfl) (Nat.le_of_ble_eq_true rfl) rfl rfl dX11_item_10 rfl (fun r4 => ?_)
  refine w_gd (fun h5 => ?_)
  refine w_callV (val := fun r6 => some (.int r6)) (mem := fun r6 => I) (st1 := fun r6 => [.int r6]) (As := []) (st := []) (q := 16) C hR (fun x h => c_X9_itemNumber (zl Z) (zG Z)  (iO_of h5) I h) (iO_of h5) mv_X9_itemNumber lk_X11_201 rfl (by decide) (fun _ => rfl) (Nat.le_of_ble_eq_true rfl) rfl rfl dX11_item_13 rfl (fun r6 => ?_)
  exact w_iret C (hK _ _) rfl dX11_item_16
def m_X11_item (k : Nat) (p1 : Int32) (I : Mem) : Option ((Int32 ⊕ Nat) × Mem) :=
  obx (m_X11_needSegment k p1 I) (fun k I9 => some (.inr k, I9)) (fun r1 I2 => m_X11_item_j5 k p1 I2)
set_option maxRecDepth 100000 in
set_option maxHeartbeats 4000000 in
theorem m_X11_item_ok {Z : Zx} {K : ((Int32 ⊕ Nat) × Mem) → Prop} (C : Cx Z cX11_item 2 RX11) (hR : RM Z 8 131) (k : Nat) (p1 : Int32) (hk : isO k 11) (I : Mem) (hst : (zl Z).stackTraces = false) (hc : Z.2.2.1 + 2 ≤ (zR Z).cells) (hs : Z.2.2.2.1 + 12 ≤ (zR Z).slots) (hK : ∀ v I', K (.inl v, I') → RetI Z cX11_item .int v I') (hE : ∀ k I', K (.inr k, I') → RetX Z k I') : WF Z K (m_X11_item k p1 I) I 0 [some (rf (zG Z) k), some (.int p1)] [] := by
  unfold m_X11_item
  refine w_aload_n (v := k) C dX11_item_0 rfl (q := 1) rfl ?_
  refine w_iload_n (v := p1) C dX11_item_1 rfl (q := 2) rfl ?_
  refine w_callVX (val := fun _ => none) (st1 := fun _ => []) (As := [.int p1]) (st := []) (q := 5) C hR (okA hc (by decide)) (okA hs (by decide)) (fun x h => c_X11_needSegment (zl Z) hst (zG Z) p1 hk I h) hk mv_X11_needSegment lk_X11_170 rfl (by decide) (fun _ => rfl) (Nat.le_of_ble_eq_true rfl) rfl rfl dX11_item_2 rfl (hE) (fun r1 I2 => ?_)
  exact WF.less (L' := [some (rf (zG Z) k), some (.int p1)]) (m_X11_item_j5_ok (C.bump (okA hc (by decide)) (okA hs (by decide))) hR k p1 hk I2 hst (by have := hc; show Z.2.2.1 + 2 + 0 ≤ _; omega) (by have := hs; show Z.2.2.2.1 + 12 + 0 ≤ _; omega) hK hE) ⟨rfl, rfl, trivial⟩
theorem c_X11_item (l : Launch) (hst : l.stackTraces = false) (G : Gx) {k : Nat} (p1 : Int32) (hk : isO k 11) (I : Mem) {x : (Int32 ⊕ Nat) × Mem} (h : m_X11_item k p1 I = some x) : CtX l G yX11_item cX11_item 2 (some (.int)) 8 131 2 12 [rf G k, .int p1] I (rsX (fun v => some (.int v)) x.1) x.2 := CtX.of hst (by decide +kernel) rfl (Nat.le_of_ble_eq_true rfl) retx_i (fun Z hG hl C hR hc hs hret hexc => by
  subst hG
  subst hl
  exact m_X11_item_ok (K := fun y => y = x) C hR k p1 hk I hst hc hs (fun v I' hy => by subst hy; exact hret _ rfl) (fun k I' hy => by subst hy; exact hexc _ rfl) x h rfl)
def m_X9_passNumber (k : Nat) (I : Mem) : Option (Int32) :=
  some (I k 6)
set_option maxRecDepth 100000 in
set_option maxHeartbeats 4000000 in
theorem m_X9_passNumber_ok {Z : Zx} {K : Int32 → Prop} (C : Cx Z cX9_passNumber 1 RX9) (hR : RM Z 0 0) (k : Nat) (hk : isO k 9) (I : Mem) (hK : ∀ y, K (y) → RetI Z cX9_passNumber .int y I) : WF Z K (m_X9_passNumber k I) I 0 [some (rf (zG Z) k)] [] := by
  unfold m_X9_passNumber
  refine w_aload_n (v := k) C dX9_passNumber_0 rfl (q := 1) rfl ?_
  refine g_X9_6 C hk lk_X9_33 dX9_passNumber_1 (q := 4) rfl ?_
  exact w_iret C (hK _) rfl dX9_passNumber_4
theorem c_X9_passNumber (l : Launch) (G : Gx) {k : Nat} (hk : isO k 9) (I : Mem) {x : Int32} (h : m_X9_passNumber k I = some x) : Ct l G yX9_passNumber cX9_passNumber 1 (some (.int)) 0 0 [rf G k] I (some (.int x)) I := Ct.of (by decide +kernel) rfl (Nat.le_of_ble_eq_true rfl) ret_i (fun Z hG hl C hR hret => by
  subst hG
  exact m_X9_passNumber_ok (K := fun y => y = x) C hR k hk I (fun y hy => by subst hy; exact hret) x h rfl)
def m_X11_pass_j5 (k : Nat) (p1 : Int32) (I : Mem) : Option ((Int32 ⊕ Nat) × Mem) :=
  gd (iO ((I k 5).toNatClampNeg) 4) (Option.bind (m_X4_bodyAt ((I k 5).toNatClampNeg) p1 I) fun r4 => gd (iO r4 9) (Option.bind (m_X9_passNumber r4 I) fun r6 => some ((.inl r6, I))))
set_option maxRecDepth 100000 in
set_option maxHeartbeats 4000000 in
theorem m_X11_pass_j5_ok {Z : Zx} {K : ((Int32 ⊕ Nat) × Mem) → Prop} (C : Cx Z cX11_pass 2 RX11) (hR : RM Z 8 131) (k : Nat) (p1 : Int32) (hk : isO k 11) (I : Mem) (hst : (zl Z).stackTraces = false) (hc : Z.2.2.1 + 0 ≤ (zR Z).cells) (hs : Z.2.2.2.1 + 0 ≤ (zR Z).slots) (hK : ∀ v I', K (.inl v, I') → RetI Z cX11_pass .int v I') (hE : ∀ k I', K (.inr k, I') → RetX Z k I') : WF Z K (m_X11_pass_j5 k p1 I) I 5 [some (rf (zG Z) k), some (.int p1)] [] := by
  unfold m_X11_pass_j5
  refine w_aload_n (v := k) C dX11_pass_5 rfl (q := 6) rfl ?_
  refine g_X11_5 C hk lk_X11_49 dX11_pass_6 (q := 9) rfl ?_
  refine w_gd (fun h3 => ?_)
  refine w_iload_n (v := p1) C dX11_pass_9 rfl (q := 10) rfl ?_
  refine w_callV (val := fun r4 => some (rf (zG Z) r4)) (mem := fun r4 => I) (st1 := fun r4 => [rf (zG Z) r4]) (As := [.int p1]) (st := []) (q := 13) C hR (fun x h => c_X4_bodyAt (zl Z) (zG Z) p1 (iO_of h3) I h) (iO_of h3) mv_X4_bodyAt lk_X11_173 rfl (by decide) (fun _ => rfl) (Nat.le_of_ble_eq_true rfl) rfl rfl dX11_pass_10 rfl (fun r4 => ?_)
  refine w_gd (fun h5 => ?_)
  refine w_callV (val := fun r6 => some (.int r6)) (mem := fun r6 => I) (st1 := fun r6 => [.int r6]) (As := []) (st := []) (q := 16) C hR (fun x h => c_X9_passNumber (zl Z) (zG Z)  (iO_of h5) I h) (iO_of h5) mv_X9_passNumber lk_X11_204 rfl (by decide) (fun _ => rfl) (Nat.le_of_ble_eq_true rfl) rfl rfl dX11_pass_13 rfl (fun r6 => ?_)
  exact w_iret C (hK _ _) rfl dX11_pass_16
def m_X11_pass (k : Nat) (p1 : Int32) (I : Mem) : Option ((Int32 ⊕ Nat) × Mem) :=
  obx (m_X11_needSegment k p1 I) (fun k I9 => some (.inr k, I9)) (fun r1 I2 => m_X11_pass_j5 k p1 I2)
set_option maxRecDepth 100000 in
set_option maxHeartbeats 4000000 in
theorem m_X11_pass_ok {Z : Zx} {K : ((Int32 ⊕ Nat) × Mem) → Prop} (C : Cx Z cX11_pass 2 RX11) (hR : RM Z 8 131) (k : Nat) (p1 : Int32) (hk : isO k 11) (I : Mem) (hst : (zl Z).stackTraces = false) (hc : Z.2.2.1 + 2 ≤ (zR Z).cells) (hs : Z.2.2.2.1 + 12 ≤ (zR Z).slots) (hK : ∀ v I', K (.inl v, I') → RetI Z cX11_pass .int v I') (hE : ∀ k I', K (.inr k, I') → RetX Z k I') : WF Z K (m_X11_pass k p1 I) I 0 [some (rf (zG Z) k), some (.int p1)] [] := by
  unfold m_X11_pass
  refine w_aload_n (v := k) C dX11_pass_0 rfl (q := 1) rfl ?_
  refine w_iload_n (v := p1) C dX11_pass_1 rfl (q := 2) rfl ?_
  refine w_callVX (val := fun _ => none) (st1 := fun _ => []) (As := [.int p1]) (st := []) (q := 5) C hR (okA hc (by decide)) (okA hs (by decide)) (fun x h => c_X11_needSegment (zl Z) hst (zG Z) p1 hk I h) hk mv_X11_needSegment lk_X11_170 rfl (by decide) (fun _ => rfl) (Nat.le_of_ble_eq_true rfl) rfl rfl dX11_pass_2 rfl (hE) (fun r1 I2 => ?_)
  exact WF.less (L' := [some (rf (zG Z) k), some (.int p1)]) (m_X11_pass_j5_ok (C.bump (okA hc (by decide)) (okA hs (by decide))) hR k p1 hk I2 hst (by have := hc; show Z.2.2.1 + 2 + 0 ≤ _; omega) (by have := hs; show Z.2.2.2.1 + 12 + 0 ≤ _; omega) hK hE) ⟨rfl, rfl, trivial⟩
theorem c_X11_pass (l : Launch) (hst : l.stackTraces = false) (G : Gx) {k : Nat} (p1 : Int32) (hk : isO k 11) (I : Mem) {x : (Int32 ⊕ Nat) × Mem} (h : m_X11_pass k p1 I = some x) : CtX l G yX11_pass cX11_pass 2 (some (.int)) 8 131 2 12 [rf G k, .int p1] I (rsX (fun v => some (.int v)) x.1) x.2 := CtX.of hst (by decide +kernel) rfl (Nat.le_of_ble_eq_true rfl) retx_i (fun Z hG hl C hR hc hs hret hexc => by
  subst hG
  subst hl
  exact m_X11_pass_ok (K := fun y => y = x) C hR k p1 hk I hst hc hs (fun v I' hy => by subst hy; exact hret _ rfl) (fun k I' hy => by subst hy; exact hexc _ rfl) x h rfl)
def m_X6_begin (k : Nat) (p1 : Int32) (p2 : Int32) (I : Mem) : Option (Mem) :=
  bnd (ms I k 1 p1) fun I1 => gd (okc p2) (bnd (ms I1 k 2 p2) fun I2 => bnd (ms I2 k 3 0) fun I4 => bnd (ms I4 k 4 (-1)) fun I5 => some I5)
set_option maxRecDepth 100000 in
set_option maxHeartbeats 4000000 in
theorem m_X6_begin_ok {Z : Zx} {K : Mem → Prop} (C : Cx Z cX6_begin 3 RX6) (hR : RM Z 0 0) (k : Nat) (p1 : Int32) (p2 : Int32) (hk : isO k 6) (I : Mem) (hK : ∀ y, K (y) → RetV Z cX6_begin y) : WF Z K (m_X6_begin k p1 p2 I) I 0 [some (rf (zG Z) k), some (.int p1), some (.int p2)] [] := by
  unfold m_X6_begin
  refine w_aload_n (v := k) C dX6_begin_0 rfl (q := 1) rfl ?_
  refine w_iload_n (v := p1) C dX6_begin_1 rfl (q := 2) rfl ?_
  refine p_X6_1 C hk  lk_X6_15 dX6_begin_2 (q := 5) rfl (fun I1 => ?_)
  refine w_aload_n (v := k) C dX6_begin_5 rfl (q := 6) rfl ?_
  refine w_iload_n (v := p2) C dX6_begin_6 rfl (q := 7) rfl ?_
  refine w_gd (fun h3 => ?_)
  refine p_X6_2 C hk h3 lk_X6_19 dX6_begin_7 (q := 10) rfl (fun I2 => ?_)
  refine w_aload_n (v := k) C dX6_begin_10 rfl (q := 11) rfl ?_
  refine w_iconst (v := (0)) C dX6_begin_11 (by decide) (q := 12) rfl ?_
  refine p_X6_3 C hk  lk_X6_23 dX6_begin_12 (q := 15) rfl (fun I4 => ?_)
  refine w_aload_n (v := k) C dX6_begin_15 rfl (q := 16) rfl ?_
  refine w_iconst (v := (-1)) C dX6_begin_16 (by decide) (q := 17) rfl ?_
  refine p_X6_4 C hk  lk_X6_26 dX6_begin_17 (q := 20) rfl (fun I5 => ?_)
  exact w_vret C (hK _) dX6_begin_20
theorem c_X6_begin (l : Launch) (G : Gx) {k : Nat} (p1 : Int32) (p2 : Int32) (hk : isO k 6) (I : Mem) {x : Mem} (h : m_X6_begin k p1 p2 I = some x) : Ct l G yX6_begin cX6_begin 3 none 0 0 [rf G k, .int p1, .int p2] I (none) x := Ct.of (by decide +kernel) rfl (Nat.le_of_ble_eq_true rfl) ret_v (fun Z hG hl C hR hret => by
  subst hG
  exact m_X6_begin_ok (K := fun y => y = x) C hR k p1 p2 hk I (fun y hy => by subst hy; exact hret) x h rfl)
def m_X7_append (k : Nat) (p1 : Int32) (p2 : Int32) (I : Mem) : Option (Int32 × Mem) :=
  if I k 2 < 10 then (gd (inb (I k 2) 10) (Option.bind (m_X6_begin ((k + 1) + (3 + 2 * (I k 2).toNatClampNeg)) p1 p2 I) fun I2 => bnd (ms I2 k 2 ((I2 k 2) + 1)) fun I3 => some (((I3 k 2) - 1, I3)))) else (some ((I k 2, I)))
set_option maxRecDepth 100000 in
set_option maxHeartbeats 4000000 in
theorem m_X7_append_ok {Z : Zx} {K : (Int32 × Mem) → Prop} (C : Cx Z cX7_append 3 RX7) (hR : RM Z 1 22) (k : Nat) (p1 : Int32) (p2 : Int32) (hk : isO k 7) (I : Mem) (hK : ∀ y, K (y) → RetI Z cX7_append .int y.1 y.2) : WF Z K (m_X7_append k p1 p2 I) I 0 [some (rf (zG Z) k), some (.int p1), some (.int p2)] [] := by
  unfold m_X7_append
  refine w_aload_n (v := k) C dX7_append_0 rfl (q := 1) rfl ?_
  refine g_X7_2 C hk lk_X7_22 dX7_append_1 (q := 4) rfl ?_
  refine w_bipush (v := (10)) C dX7_append_4 (by decide) (q := 6) rfl ?_
  refine w_icmp_lt (tgt := 14) (q := 9) C dX7_append_6 (by decide) rfl (fun _ => ?_) (fun _ => ?_)
  · refine w_aload_n (v := k) C dX7_append_14 rfl (q := 15) rfl ?_
    refine g_X7_0 C hk lk_X7_11 dX7_append_15 (q := 18) rfl ?_
    refine w_aload_n (v := k) C dX7_append_18 rfl (q := 19) rfl ?_
    refine g_X7_2 C hk lk_X7_22 dX7_append_19 (q := 22) rfl ?_
    refine w_aald (t := 2) C (st_X7_0 hk).2 rfl (el_Rule (st_X7_0 hk).2) dX7_append_22 (q := 23) rfl (fun _ h1 => ?_)
    refine w_iload_n (v := p1) C dX7_append_23 rfl (q := 24) rfl ?_
    refine w_iload_n (v := p2) C dX7_append_24 rfl (q := 25) rfl ?_
    refine w_callV (val := fun I2 => none) (mem := fun I2 => I2) (st1 := fun I2 => []) (As := [.int p1, .int p2]) (st := []) (q := 28) C hR (fun x h => c_X6_begin (zl Z) (zG Z) p1 p2 h1 I h) h1 mv_X6_begin lk_X7_26 rfl (by decide) (fun _ => rfl) (Nat.le_of_ble_eq_true rfl) rfl rfl dX7_append_25 rfl (fun I2 => ?_)
    refine w_aload_n (v := k) C dX7_append_28 rfl (q := 29) rfl ?_
    refine w_dup C dX7_append_29 rfl (q := 30) rfl ?_
    refine g_X7_2 C hk lk_X7_22 dX7_append_30 (q := 33) rfl ?_
    refine w_iconst (v := (1)) C dX7_append_33 (by decide) (q := 34) rfl ?_
    refine w_iadd C dX7_append_34 (q := 35) rfl ?_
    refine p_X7_2 C hk  lk_X7_22 dX7_append_35 (q := 38) rfl (fun I3 => ?_)
    refine w_aload_n (v := k) C dX7_append_38 rfl (q := 39) rfl ?_
    refine g_X7_2 C hk lk_X7_22 dX7_append_39 (q := 42) rfl ?_
    refine w_iconst (v := (1)) C dX7_append_42 (by decide) (q := 43) rfl ?_
    refine w_isub C dX7_append_43 (q := 44) rfl ?_
    exact w_iret C (hK _) rfl dX7_append_44
  · refine w_aload_n (v := k) C dX7_append_9 rfl (q := 10) rfl ?_
    refine g_X7_2 C hk lk_X7_22 dX7_append_10 (q := 13) rfl ?_
    exact w_iret C (hK _) rfl dX7_append_13
theorem c_X7_append (l : Launch) (G : Gx) {k : Nat} (p1 : Int32) (p2 : Int32) (hk : isO k 7) (I : Mem) {x : Int32 × Mem} (h : m_X7_append k p1 p2 I = some x) : Ct l G yX7_append cX7_append 3 (some (.int)) 1 22 [rf G k, .int p1, .int p2] I (some (.int x.1)) x.2 := Ct.of (by decide +kernel) rfl (Nat.le_of_ble_eq_true rfl) ret_i (fun Z hG hl C hR hret => by
  subst hG
  exact m_X7_append_ok (K := fun y => y = x) C hR k p1 p2 hk I (fun y hy => by subst hy; exact hret) x h rfl)
def m_X7_count (k : Nat) (I : Mem) : Option (Int32) :=
  some (I k 2)
set_option maxRecDepth 100000 in
set_option maxHeartbeats 4000000 in
theorem m_X7_count_ok {Z : Zx} {K : Int32 → Prop} (C : Cx Z cX7_count 1 RX7) (hR : RM Z 0 0) (k : Nat) (hk : isO k 7) (I : Mem) (hK : ∀ y, K (y) → RetI Z cX7_count .int y I) : WF Z K (m_X7_count k I) I 0 [some (rf (zG Z) k)] [] := by
  unfold m_X7_count
  refine w_aload_n (v := k) C dX7_count_0 rfl (q := 1) rfl ?_
  refine g_X7_2 C hk lk_X7_22 dX7_count_1 (q := 4) rfl ?_
  exact w_iret C (hK _) rfl dX7_count_4
theorem c_X7_count (l : Launch) (G : Gx) {k : Nat} (hk : isO k 7) (I : Mem) {x : Int32} (h : m_X7_count k I = some x) : Ct l G yX7_count cX7_count 1 (some (.int)) 0 0 [rf G k] I (some (.int x)) I := Ct.of (by decide +kernel) rfl (Nat.le_of_ble_eq_true rfl) ret_i (fun Z hG hl C hR hret => by
  subst hG
  exact m_X7_count_ok (K := fun y => y = x) C hR k hk I (fun y hy => by subst hy; exact hret) x h rfl)
def m_X11_addRule_j15  (I : Mem) : Option ((Int32 ⊕ Nat) × Mem) :=
  some (.inr 2, I)
set_option maxRecDepth 100000 in
set_option maxHeartbeats 4000000 in
theorem m_X11_addRule_j15_ok {Z : Zx} {K : ((Int32 ⊕ Nat) × Mem) → Prop} (C : Cx Z cX11_addRule 3 RX11) (hR : RM Z 6 90) (I : Mem) (hst : (zl Z).stackTraces = false) (hc : Z.2.2.1 + 1 ≤ (zR Z).cells) (hs : Z.2.2.2.1 + 6 ≤ (zR Z).slots) (hK : ∀ v I', K (.inl v, I') → RetI Z cX11_addRule .int v I') (hE : ∀ k I', K (.inr k, I') → RetX Z k I') : WF Z K (m_X11_addRule_j15  I) I 15 [none, none, none] [] := by
  unfold m_X11_addRule_j15
  exact w_throw C hR (okA hc (by decide)) (okA hs (by decide)) (k := 2) (ik := 192) (is := 207) (ic := 196) (text := "no such item") (hE _ _) tw_X11_192_196 (by decide +kernel) (by decide) (Nat.le_of_ble_eq_true rfl) rfl dX11_addRule_15 dX11_addRule_18 dX11_addRule_19 dX11_addRule_21 dX11_addRule_24
def m_X11_addRule (k : Nat) (p1 : Int32) (p2 : Int32) (I : Mem) : Option ((Int32 ⊕ Nat) × Mem) :=
  if p1 < 0 then (m_X11_addRule_j15  I) else (Option.bind (m_X8_itemCount (k + 1) I) fun r1 => if p1 < r1 then (Option.bind (m_X11_isBodyTag p2 I) fun r2 => if r2 = 0 then (some (.inr 0, I)) else (Option.bind (m_X7_count (k + 38) I) fun r3 => if r3 < 10 then (Option.bind (m_X7_append (k + 38) p1 p2 I) fun r4 => some ((.inl r4.1, r4.2))) else (some (.inr 1, I)))) else (m_X11_addRule_j15  I))
set_option maxRecDepth 100000 in
set_option maxHeartbeats 4000000 in
theorem m_X11_addRule_ok {Z : Zx} {K : ((Int32 ⊕ Nat) × Mem) → Prop} (C : Cx Z cX11_addRule 3 RX11) (hR : RM Z 6 90) (k : Nat) (p1 : Int32) (p2 : Int32) (hk : isO k 11) (I : Mem) (hst : (zl Z).stackTraces = false) (hc : Z.2.2.1 + 1 ≤ (zR Z).cells) (hs : Z.2.2.2.1 + 6 ≤ (zR Z).slots) (hK : ∀ v I', K (.inl v, I') → RetI Z cX11_addRule .int v I') (hE : ∀ k I', K (.inr k, I') → RetX Z k I') : WF Z K (m_X11_addRule k p1 p2 I) I 0 [some (rf (zG Z) k), some (.int p1), some (.int p2)] [] := by
  unfold m_X11_addRule
  refine w_iload_n (v := p1) C dX11_addRule_0 rfl (q := 1) rfl ?_
  refine w_if_lt (tgt := 15) (q := 4) C dX11_addRule_1 (by decide) rfl (fun _ => ?_) (fun _ => ?_)
  · exact WF.less (L' := [none, none, none]) (m_X11_addRule_j15_ok C hR   I hst hc hs hK hE) trivial
  · refine w_iload_n (v := p1) C dX11_addRule_4 rfl (q := 5) rfl ?_
    refine w_aload_n (v := k) C dX11_addRule_5 rfl (q := 6) rfl ?_
    refine g_X11_0 C hk lk_X11_12 dX11_addRule_6 (q := 9) rfl ?_
    refine w_callV (val := fun r1 => some (.int r1)) (mem := fun r1 => I) (st1 := fun r1 => [.int r1, .int p1]) (As := []) (st := [.int p1]) (q := 12) C hR (fun x h => c_X8_itemCount (zl Z) (zG Z)  (st_X11_0 hk).2 I h) (st_X11_0 hk).2 mv_X8_itemCount lk_X11_77 rfl (by decide) (fun _ => rfl) (Nat.le_of_ble_eq_true rfl) rfl rfl dX11_addRule_9 rfl (fun r1 => ?_)
    refine w_icmp_lt (tgt := 25) (q := 15) C dX11_addRule_12 (by decide) rfl (fun _ => ?_) (fun _ => ?_)
    · refine w_iload_n (v := p2) C dX11_addRule_25 rfl (q := 26) rfl ?_
      refine w_callS (val := fun r2 => some (.int r2)) (mem := fun r2 => I) (st1 := fun r2 => [.int r2]) (As := [.int p2]) (st := []) (q := 29) C hR (fun x h => c_X11_isBodyTag (zl Z) (zG Z) p2  I h) mv_X11_isBodyTag lk_X11_62 rfl (by decide) (fun _ => rfl) (Nat.le_of_ble_eq_true rfl) rfl rfl dX11_addRule_26 rfl (fun r2 => ?_)
      refine w_if_ne (tgt := 42) (q := 32) C dX11_addRule_29 (by decide) rfl (fun _ => ?_) (fun _ => ?_)
      · exact w_throw C hR (okA hc (by decide)) (okA hs (by decide)) (k := 0) (ik := 70) (is := 209) (ic := 74) (text := "tag is not as told") (hE _ _) tw_X11_70_74 (by decide +kernel) (by decide) (Nat.le_of_ble_eq_true rfl) rfl dX11_addRule_32 dX11_addRule_35 dX11_addRule_36 dX11_addRule_38 dX11_addRule_41
      · refine w_aload_n (v := k) C dX11_addRule_42 rfl (q := 43) rfl ?_
        refine g_X11_4 C hk lk_X11_42 dX11_addRule_43 (q := 46) rfl ?_
        refine w_callV (val := fun r3 => some (.int r3)) (mem := fun r3 => I) (st1 := fun r3 => [.int r3]) (As := []) (st := []) (q := 49) C hR (fun x h => c_X7_count (zl Z) (zG Z)  (st_X11_4 hk).2 I h) (st_X11_4 hk).2 mv_X7_count lk_X11_211 rfl (by decide) (fun _ => rfl) (Nat.le_of_ble_eq_true rfl) rfl rfl dX11_addRule_46 rfl (fun r3 => ?_)
        refine w_bipush (v := (10)) C dX11_addRule_49 (by decide) (q := 51) rfl ?_
        refine w_icmp_lt (tgt := 64) (q := 54) C dX11_addRule_51 (by decide) rfl (fun _ => ?_) (fun _ => ?_)
        · refine w_aload_n (v := k) C dX11_addRule_64 rfl (q := 65) rfl ?_
          refine g_X11_4 C hk lk_X11_42 dX11_addRule_65 (q := 68) rfl ?_
          refine w_iload_n (v := p1) C dX11_addRule_68 rfl (q := 69) rfl ?_
          refine w_iload_n (v := p2) C dX11_addRule_69 rfl (q := 70) rfl ?_
          refine w_callV (val := fun r4 => some (.int r4.1)) (mem := fun r4 => r4.2) (st1 := fun r4 => [.int r4.1]) (As := [.int p1, .int p2]) (st := []) (q := 73) C hR (fun x h => c_X7_append (zl Z) (zG Z) p1 p2 (st_X11_4 hk).2 I h) (st_X11_4 hk).2 mv_X7_append lk_X11_214 rfl (by decide) (fun _ => rfl) (Nat.le_of_ble_eq_true rfl) rfl rfl dX11_addRule_70 rfl (fun r4 => ?_)
          exact w_iret C (hK _ _) rfl dX11_addRule_73
        · exact w_throw C hR (okA hc (by decide)) (okA hs (by decide)) (k := 1) (ik := 81) (is := 212) (ic := 85) (text := "there are 10 rules") (hE _ _) tw_X11_81_85 (by decide +kernel) (by decide) (Nat.le_of_ble_eq_true rfl) rfl dX11_addRule_54 dX11_addRule_57 dX11_addRule_58 dX11_addRule_60 dX11_addRule_63
    · exact WF.less (L' := [none, none, none]) (m_X11_addRule_j15_ok C hR   I hst hc hs hK hE) trivial
theorem c_X11_addRule (l : Launch) (hst : l.stackTraces = false) (G : Gx) {k : Nat} (p1 : Int32) (p2 : Int32) (hk : isO k 11) (I : Mem) {x : (Int32 ⊕ Nat) × Mem} (h : m_X11_addRule k p1 p2 I = some x) : CtX l G yX11_addRule cX11_addRule 3 (some (.int)) 6 90 1 6 [rf G k, .int p1, .int p2] I (rsX (fun v => some (.int v)) x.1) x.2 := CtX.of hst (by decide +kernel) rfl (Nat.le_of_ble_eq_true rfl) retx_i (fun Z hG hl C hR hc hs hret hexc => by
  subst hG
  subst hl
  exact m_X11_addRule_ok (K := fun y => y = x) C hR k p1 p2 hk I hst hc hs (fun v I' hy => by subst hy; exact hret _ rfl) (fun k I' hy => by subst hy; exact hexc _ rfl) x h rfl)
def m_X11_needRule_j15  (I : Mem) : Option ((Unit ⊕ Nat) × Mem) :=
  some (.inr 2, I)
set_option maxRecDepth 100000 in
set_option maxHeartbeats 4000000 in
theorem m_X11_needRule_j15_ok {Z : Zx} {K : ((Unit ⊕ Nat) × Mem) → Prop} (C : Cx Z cX11_needRule 2 RX11) (hR : RM Z 6 90) (I : Mem) (hst : (zl Z).stackTraces = false) (hc : Z.2.2.1 + 1 ≤ (zR Z).cells) (hs : Z.2.2.2.1 + 6 ≤ (zR Z).slots) (hK : ∀ v I', K (.inl v, I') → RetV Z cX11_needRule I') (hE : ∀ k I', K (.inr k, I') → RetX Z k I') : WF Z K (m_X11_needRule_j15  I) I 15 [none, none] [] := by
  unfold m_X11_needRule_j15
  exact w_throwW C hR (okA hc (by decide)) (okA hs (by decide)) (k := 2) (ik := 192) (is := 274) (ic := 196) (text := "no such rule") (hE _ _) tw_X11_192_196 (by decide +kernel) (by decide) (Nat.le_of_ble_eq_true rfl) rfl dX11_needRule_15 dX11_needRule_18 dX11_needRule_19 dX11_needRule_22 dX11_needRule_25
def m_X11_needRule (k : Nat) (p1 : Int32) (I : Mem) : Option ((Unit ⊕ Nat) × Mem) :=
  if p1 < 0 then (m_X11_needRule_j15  I) else (Option.bind (m_X7_count (k + 38) I) fun r1 => if p1 < r1 then (some (.inl (), I)) else (m_X11_needRule_j15  I))
set_option maxRecDepth 100000 in
set_option maxHeartbeats 4000000 in
theorem m_X11_needRule_ok {Z : Zx} {K : ((Unit ⊕ Nat) × Mem) → Prop} (C : Cx Z cX11_needRule 2 RX11) (hR : RM Z 6 90) (k : Nat) (p1 : Int32) (hk : isO k 11) (I : Mem) (hst : (zl Z).stackTraces = false) (hc : Z.2.2.1 + 1 ≤ (zR Z).cells) (hs : Z.2.2.2.1 + 6 ≤ (zR Z).slots) (hK : ∀ v I', K (.inl v, I') → RetV Z cX11_needRule I') (hE : ∀ k I', K (.inr k, I') → RetX Z k I') : WF Z K (m_X11_needRule k p1 I) I 0 [some (rf (zG Z) k), some (.int p1)] [] := by
  unfold m_X11_needRule
  refine w_iload_n (v := p1) C dX11_needRule_0 rfl (q := 1) rfl ?_
  refine w_if_lt (tgt := 15) (q := 4) C dX11_needRule_1 (by decide) rfl (fun _ => ?_) (fun _ => ?_)
  · exact WF.less (L' := [none, none]) (m_X11_needRule_j15_ok C hR   I hst hc hs hK hE) trivial
  · refine w_iload_n (v := p1) C dX11_needRule_4 rfl (q := 5) rfl ?_
    refine w_aload_n (v := k) C dX11_needRule_5 rfl (q := 6) rfl ?_
    refine g_X11_4 C hk lk_X11_42 dX11_needRule_6 (q := 9) rfl ?_
    refine w_callV (val := fun r1 => some (.int r1)) (mem := fun r1 => I) (st1 := fun r1 => [.int r1, .int p1]) (As := []) (st := [.int p1]) (q := 12) C hR (fun x h => c_X7_count (zl Z) (zG Z)  (st_X11_4 hk).2 I h) (st_X11_4 hk).2 mv_X7_count lk_X11_211 rfl (by decide) (fun _ => rfl) (Nat.le_of_ble_eq_true rfl) rfl rfl dX11_needRule_9 rfl (fun r1 => ?_)
    refine w_icmp_lt (tgt := 26) (q := 15) C dX11_needRule_12 (by decide) rfl (fun _ => ?_) (fun _ => ?_)
    · exact w_vret C (hK _ _) dX11_needRule_26
    · exact WF.less (L' := [none, none]) (m_X11_needRule_j15_ok C hR   I hst hc hs hK hE) trivial
theorem c_X11_needRule (l : Launch) (hst : l.stackTraces = false) (G : Gx) {k : Nat} (p1 : Int32) (hk : isO k 11) (I : Mem) {x : (Unit ⊕ Nat) × Mem} (h : m_X11_needRule k p1 I = some x) : CtX l G yX11_needRule cX11_needRule 2 none 6 90 1 6 [rf G k, .int p1] I (rsX (fun _ => none) x.1) x.2 := CtX.of hst (by decide +kernel) rfl (Nat.le_of_ble_eq_true rfl) retx_v (fun Z hG hl C hR hc hs hret hexc => by
  subst hG
  subst hl
  exact m_X11_needRule_ok (K := fun y => y = x) C hR k p1 hk I hst hc hs (fun v I' hy => by subst hy; exact hret _ rfl) (fun k I' hy => by subst hy; exact hexc _ rfl) x h rfl)
def m_X6_appendField_j28 (k : Nat) (I : Mem) : Option (Int32 × Mem) :=
  some ((I k 3, I))
set_option maxRecDepth 100000 in
set_option maxHeartbeats 4000000 in
theorem m_X6_appendField_j28_ok {Z : Zx} {K : (Int32 × Mem) → Prop} (C : Cx Z cX6_appendField 2 RX6) (hR : RM Z 0 0) (k : Nat) (hk : isO k 6) (I : Mem) (hK : ∀ y, K (y) → RetI Z cX6_appendField .int y.1 y.2) : WF Z K (m_X6_appendField_j28 k I) I 28 [some (rf (zG Z) k), none] [] := by
  unfold m_X6_appendField_j28
  refine w_aload_n (v := k) C dX6_appendField_28 rfl (q := 29) rfl ?_
  refine g_X6_3 C hk lk_X6_23 dX6_appendField_29 (q := 32) rfl ?_
  exact w_iret C (hK _) rfl dX6_appendField_32
def m_X6_appendField (k : Nat) (p1 : Int32) (I : Mem) : Option (Int32 × Mem) :=
  if 5 ≤ I k 3 then (m_X6_appendField_j28 k I) else (gd (inb (I k 3) 5) (bnd (ms I (k + 1) (I k 3).toNatClampNeg p1) fun I1 => bnd (ms I1 k 3 ((I1 k 3) + 1)) fun I2 => m_X6_appendField_j28 k I2))
set_option maxRecDepth 100000 in
set_option maxHeartbeats 4000000 in
theorem m_X6_appendField_ok {Z : Zx} {K : (Int32 × Mem) → Prop} (C : Cx Z cX6_appendField 2 RX6) (hR : RM Z 0 0) (k : Nat) (p1 : Int32) (hk : isO k 6) (I : Mem) (hK : ∀ y, K (y) → RetI Z cX6_appendField .int y.1 y.2) : WF Z K (m_X6_appendField k p1 I) I 0 [some (rf (zG Z) k), some (.int p1)] [] := by
  unfold m_X6_appendField
  refine w_aload_n (v := k) C dX6_appendField_0 rfl (q := 1) rfl ?_
  refine g_X6_3 C hk lk_X6_23 dX6_appendField_1 (q := 4) rfl ?_
  refine w_iconst (v := (5)) C dX6_appendField_4 (by decide) (q := 5) rfl ?_
  refine w_icmp_ge (tgt := 28) (q := 8) C dX6_appendField_5 (by decide) rfl (fun _ => ?_) (fun _ => ?_)
  · exact WF.less (L' := [some (rf (zG Z) k), none]) (m_X6_appendField_j28_ok C hR k hk I hK) ⟨rfl, trivial⟩
  · refine w_aload_n (v := k) C dX6_appendField_8 rfl (q := 9) rfl ?_
    refine g_X6_0 C hk lk_X6_9 dX6_appendField_9 (q := 12) rfl ?_
    refine w_aload_n (v := k) C dX6_appendField_12 rfl (q := 13) rfl ?_
    refine g_X6_3 C hk lk_X6_23 dX6_appendField_13 (q := 16) rfl ?_
    refine w_iload_n (v := p1) C dX6_appendField_16 rfl (q := 17) rfl ?_
    refine w_iast C (st_X6_0 hk).2 dX6_appendField_17 (q := 18) rfl (fun _ I1 => ?_)
    refine w_aload_n (v := k) C dX6_appendField_18 rfl (q := 19) rfl ?_
    refine w_dup C dX6_appendField_19 rfl (q := 20) rfl ?_
    refine g_X6_3 C hk lk_X6_23 dX6_appendField_20 (q := 23) rfl ?_
    refine w_iconst (v := (1)) C dX6_appendField_23 (by decide) (q := 24) rfl ?_
    refine w_iadd C dX6_appendField_24 (q := 25) rfl ?_
    refine p_X6_3 C hk  lk_X6_23 dX6_appendField_25 (q := 28) rfl (fun I2 => ?_)
    exact WF.less (L' := [some (rf (zG Z) k), none]) (m_X6_appendField_j28_ok C hR k hk I2 hK) ⟨rfl, trivial⟩
theorem c_X6_appendField (l : Launch) (G : Gx) {k : Nat} (p1 : Int32) (hk : isO k 6) (I : Mem) {x : Int32 × Mem} (h : m_X6_appendField k p1 I = some x) : Ct l G yX6_appendField cX6_appendField 2 (some (.int)) 0 0 [rf G k, .int p1] I (some (.int x.1)) x.2 := Ct.of (by decide +kernel) rfl (Nat.le_of_ble_eq_true rfl) ret_i (fun Z hG hl C hR hret => by
  subst hG
  exact m_X6_appendField_ok (K := fun y => y = x) C hR k p1 hk I (fun y hy => by subst hy; exact hret) x h rfl)
def m_X6_fieldCount (k : Nat) (I : Mem) : Option (Int32) :=
  some (I k 3)
set_option maxRecDepth 100000 in
set_option maxHeartbeats 4000000 in
theorem m_X6_fieldCount_ok {Z : Zx} {K : Int32 → Prop} (C : Cx Z cX6_fieldCount 1 RX6) (hR : RM Z 0 0) (k : Nat) (hk : isO k 6) (I : Mem) (hK : ∀ y, K (y) → RetI Z cX6_fieldCount .int y I) : WF Z K (m_X6_fieldCount k I) I 0 [some (rf (zG Z) k)] [] := by
  unfold m_X6_fieldCount
  refine w_aload_n (v := k) C dX6_fieldCount_0 rfl (q := 1) rfl ?_
  refine g_X6_3 C hk lk_X6_23 dX6_fieldCount_1 (q := 4) rfl ?_
  exact w_iret C (hK _) rfl dX6_fieldCount_4
theorem c_X6_fieldCount (l : Launch) (G : Gx) {k : Nat} (hk : isO k 6) (I : Mem) {x : Int32} (h : m_X6_fieldCount k I = some x) : Ct l G yX6_fieldCount cX6_fieldCount 1 (some (.int)) 0 0 [rf G k] I (some (.int x)) I := Ct.of (by decide +kernel) rfl (Nat.le_of_ble_eq_true rfl) ret_i (fun Z hG hl C hR hret => by
  subst hG
  exact m_X6_fieldCount_ok (K := fun y => y = x) C hR k hk I (fun y hy => by subst hy; exact hret) x h rfl)
def m_X7_at_j21 (k : Nat) (I : Mem) : Option (Nat) :=
  some (k + 2)
set_option maxRecDepth 100000 in
set_option maxHeartbeats 4000000 in
theorem m_X7_at_j21_ok {Z : Zx} {K : Nat → Prop} (C : Cx Z cX7_at 2 RX7) (hR : RM Z 0 0) (k : Nat) (hk : isO k 7) (I : Mem) (hK : ∀ y, K (y) → RetA Z cX7_at y I) : WF Z K (m_X7_at_j21 k I) I 21 [some (rf (zG Z) k), none] [] := by
  unfold m_X7_at_j21
  refine w_aload_n (v := k) C dX7_at_21 rfl (q := 22) rfl ?_
  refine g_X7_1 C hk lk_X7_18 dX7_at_22 (q := 25) rfl ?_
  exact w_aret C (hK _) dX7_at_25
def m_X7_at (k : Nat) (p1 : Int32) (I : Mem) : Option (Nat) :=
  if p1 < 0 then (m_X7_at_j21 k I) else (if I k 2 ≤ p1 then (m_X7_at_j21 k I) else (gd (inb p1 10) (some ((k + 1) + (3 + 2 * p1.toNatClampNeg)))))
set_option maxRecDepth 100000 in
set_option maxHeartbeats 4000000 in
theorem m_X7_at_ok {Z : Zx} {K : Nat → Prop} (C : Cx Z cX7_at 2 RX7) (hR : RM Z 0 0) (k : Nat) (p1 : Int32) (hk : isO k 7) (I : Mem) (hK : ∀ y, K (y) → RetA Z cX7_at y I) : WF Z K (m_X7_at k p1 I) I 0 [some (rf (zG Z) k), some (.int p1)] [] := by
  unfold m_X7_at
  refine w_iload_n (v := p1) C dX7_at_0 rfl (q := 1) rfl ?_
  refine w_if_lt (tgt := 21) (q := 4) C dX7_at_1 (by decide) rfl (fun _ => ?_) (fun _ => ?_)
  · exact WF.less (L' := [some (rf (zG Z) k), none]) (m_X7_at_j21_ok C hR k hk I hK) ⟨rfl, trivial⟩
  · refine w_iload_n (v := p1) C dX7_at_4 rfl (q := 5) rfl ?_
    refine w_aload_n (v := k) C dX7_at_5 rfl (q := 6) rfl ?_
    refine g_X7_2 C hk lk_X7_22 dX7_at_6 (q := 9) rfl ?_
    refine w_icmp_ge (tgt := 21) (q := 12) C dX7_at_9 (by decide) rfl (fun _ => ?_) (fun _ => ?_)
    · exact WF.less (L' := [some (rf (zG Z) k), none]) (m_X7_at_j21_ok C hR k hk I hK) ⟨rfl, trivial⟩
    · refine w_aload_n (v := k) C dX7_at_12 rfl (q := 13) rfl ?_
      refine g_X7_0 C hk lk_X7_11 dX7_at_13 (q := 16) rfl ?_
      refine w_iload_n (v := p1) C dX7_at_16 rfl (q := 17) rfl ?_
      refine w_aald (t := 2) C (st_X7_0 hk).2 rfl (el_Rule (st_X7_0 hk).2) dX7_at_17 (q := 18) rfl (fun _ h1 => ?_)
      refine w_goto (tgt := 25) C dX7_at_18 (by decide) ?_
      exact w_aret C (hK _) dX7_at_25
theorem c_X7_at (l : Launch) (G : Gx) {k : Nat} (p1 : Int32) (hk : isO k 7) (I : Mem) {x : Nat} (h : m_X7_at k p1 I = some x) : Ct l G yX7_at cX7_at 2 (some (.object "Segmentry$Rule")) 0 0 [rf G k, .int p1] I (some (rf G x)) I := Ct.of (by decide +kernel) rfl (Nat.le_of_ble_eq_true rfl) ret_a (fun Z hG hl C hR hret => by
  subst hG
  exact m_X7_at_ok (K := fun y => y = x) C hR k p1 hk I (fun y hy => by subst hy; exact hret _ rfl) x h rfl)
def m_X11_addField_j14  (I : Mem) : Option ((Int32 ⊕ Nat) × Mem) :=
  some (.inr 0, I)
set_option maxRecDepth 100000 in
set_option maxHeartbeats 4000000 in
theorem m_X11_addField_j14_ok {Z : Zx} {K : ((Int32 ⊕ Nat) × Mem) → Prop} (C : Cx Z cX11_addField 3 RX11) (hR : RM Z 7 111) (I : Mem) (hst : (zl Z).stackTraces = false) (hc : Z.2.2.1 + 1 ≤ (zR Z).cells) (hs : Z.2.2.2.1 + 6 ≤ (zR Z).slots) (hK : ∀ v I', K (.inl v, I') → RetI Z cX11_addField .int v I') (hE : ∀ k I', K (.inr k, I') → RetX Z k I') : WF Z K (m_X11_addField_j14  I) I 14 [none, none, none] [] := by
  unfold m_X11_addField_j14
  exact w_throw C hR (okA hc (by decide)) (okA hs (by decide)) (k := 0) (ik := 70) (is := 221) (ic := 74) (text := "element is out of range") (hE _ _) tw_X11_70_74 (by decide +kernel) (by decide) (Nat.le_of_ble_eq_true rfl) rfl dX11_addField_14 dX11_addField_17 dX11_addField_18 dX11_addField_20 dX11_addField_23
def m_X11_addField_j5 (k : Nat) (p1 : Int32) (p2 : Int32) (I : Mem) : Option ((Int32 ⊕ Nat) × Mem) :=
  if p2 < 0 then (m_X11_addField_j14  I) else (if p2 < 5 then (Option.bind (m_X7_at (k + 38) p1 I) fun r3 => gd (iO r3 6) (Option.bind (m_X6_fieldCount r3 I) fun r5 => if r5 < 5 then (Option.bind (m_X7_at (k + 38) p1 I) fun r6 => gd (iO r6 6) (Option.bind (m_X6_appendField r6 p2 I) fun r8 => some ((.inl r8.1, r8.2)))) else (some (.inr 1, I)))) else (m_X11_addField_j14  I))
set_option maxRecDepth 100000 in
set_option maxHeartbeats 4000000 in
theorem m_X11_addField_j5_ok {Z : Zx} {K : ((Int32 ⊕ Nat) × Mem) → Prop} (C : Cx Z cX11_addField 3 RX11) (hR : RM Z 7 111) (k : Nat) (p1 : Int32) (p2 : Int32) (hk : isO k 11) (I : Mem) (hst : (zl Z).stackTraces = false) (hc : Z.2.2.1 + 1 ≤ (zR Z).cells) (hs : Z.2.2.2.1 + 6 ≤ (zR Z).slots) (hK : ∀ v I', K (.inl v, I') → RetI Z cX11_addField .int v I') (hE : ∀ k I', K (.inr k, I') → RetX Z k I') : WF Z K (m_X11_addField_j5 k p1 p2 I) I 5 [some (rf (zG Z) k), some (.int p1), some (.int p2)] [] := by
  unfold m_X11_addField_j5
  refine w_iload_n (v := p2) C dX11_addField_5 rfl (q := 6) rfl ?_
  refine w_if_lt (tgt := 14) (q := 9) C dX11_addField_6 (by decide) rfl (fun _ => ?_) (fun _ => ?_)
  · exact WF.less (L' := [none, none, none]) (m_X11_addField_j14_ok C hR   I hst hc hs hK hE) trivial
  · refine w_iload_n (v := p2) C dX11_addField_9 rfl (q := 10) rfl ?_
    refine w_iconst (v := (5)) C dX11_addField_10 (by decide) (q := 11) rfl ?_
    refine w_icmp_lt (tgt := 24) (q := 14) C dX11_addField_11 (by decide) rfl (fun _ => ?_) (fun _ => ?_)
    · refine w_aload_n (v := k) C dX11_addField_24 rfl (q := 25) rfl ?_
      refine g_X11_4 C hk lk_X11_42 dX11_addField_25 (q := 28) rfl ?_
      refine w_iload_n (v := p1) C dX11_addField_28 rfl (q := 29) rfl ?_
      refine w_callV (val := fun r3 => some (rf (zG Z) r3)) (mem := fun r3 => I) (st1 := fun r3 => [rf (zG Z) r3]) (As := [.int p1]) (st := []) (q := 32) C hR (fun x h => c_X7_at (zl Z) (zG Z) p1 (st_X11_4 hk).2 I h) (st_X11_4 hk).2 mv_X7_at lk_X11_223 rfl (by decide) (fun _ => rfl) (Nat.le_of_ble_eq_true rfl) rfl rfl dX11_addField_29 rfl (fun r3 => ?_)
      refine w_gd (fun h4 => ?_)
      refine w_callV (val := fun r5 => some (.int r5)) (mem := fun r5 => I) (st1 := fun r5 => [.int r5]) (As := []) (st := []) (q := 35) C hR (fun x h => c_X6_fieldCount (zl Z) (zG Z)  (iO_of h4) I h) (iO_of h4) mv_X6_fieldCount lk_X11_227 rfl (by decide) (fun _ => rfl) (Nat.le_of_ble_eq_true rfl) rfl rfl dX11_addField_32 rfl (fun r5 => ?_)
      refine w_iconst (v := (5)) C dX11_addField_35 (by decide) (q := 36) rfl ?_
      refine w_icmp_lt (tgt := 49) (q := 39) C dX11_addField_36 (by decide) rfl (fun _ => ?_) (fun _ => ?_)
      · refine w_aload_n (v := k) C dX11_addField_49 rfl (q := 50) rfl ?_
        refine g_X11_4 C hk lk_X11_42 dX11_addField_50 (q := 53) rfl ?_
        refine w_iload_n (v := p1) C dX11_addField_53 rfl (q := 54) rfl ?_
        refine w_callV (val := fun r6 => some (rf (zG Z) r6)) (mem := fun r6 => I) (st1 := fun r6 => [rf (zG Z) r6]) (As := [.int p1]) (st := []) (q := 57) C hR (fun x h => c_X7_at (zl Z) (zG Z) p1 (st_X11_4 hk).2 I h) (st_X11_4 hk).2 mv_X7_at lk_X11_223 rfl (by decide) (fun _ => rfl) (Nat.le_of_ble_eq_true rfl) rfl rfl dX11_addField_54 rfl (fun r6 => ?_)
        refine w_gd (fun h7 => ?_)
        refine w_iload_n (v := p2) C dX11_addField_57 rfl (q := 58) rfl ?_
        refine w_callV (val := fun r8 => some (.int r8.1)) (mem := fun r8 => r8.2) (st1 := fun r8 => [.int r8.1]) (As := [.int p2]) (st := []) (q := 61) C hR (fun x h => c_X6_appendField (zl Z) (zG Z) p2 (iO_of h7) I h) (iO_of h7) mv_X6_appendField lk_X11_234 rfl (by decide) (fun _ => rfl) (Nat.le_of_ble_eq_true rfl) rfl rfl dX11_addField_58 rfl (fun r8 => ?_)
        exact w_iret C (hK _ _) rfl dX11_addField_61
      · exact w_throw C hR (okA hc (by decide)) (okA hs (by decide)) (k := 1) (ik := 81) (is := 232) (ic := 85) (text := "the rule has 5 fields") (hE _ _) tw_X11_81_85 (by decide +kernel) (by decide) (Nat.le_of_ble_eq_true rfl) rfl dX11_addField_39 dX11_addField_42 dX11_addField_43 dX11_addField_45 dX11_addField_48
    · exact WF.less (L' := [none, none, none]) (m_X11_addField_j14_ok C hR   I hst hc hs hK hE) trivial
def m_X11_addField (k : Nat) (p1 : Int32) (p2 : Int32) (I : Mem) : Option ((Int32 ⊕ Nat) × Mem) :=
  obx (m_X11_needRule k p1 I) (fun k I9 => some (.inr k, I9)) (fun r1 I2 => m_X11_addField_j5 k p1 p2 I2)
set_option maxRecDepth 100000 in
set_option maxHeartbeats 4000000 in
theorem m_X11_addField_ok {Z : Zx} {K : ((Int32 ⊕ Nat) × Mem) → Prop} (C : Cx Z cX11_addField 3 RX11) (hR : RM Z 7 111) (k : Nat) (p1 : Int32) (p2 : Int32) (hk : isO k 11) (I : Mem) (hst : (zl Z).stackTraces = false) (hc : Z.2.2.1 + 2 ≤ (zR Z).cells) (hs : Z.2.2.2.1 + 12 ≤ (zR Z).slots) (hK : ∀ v I', K (.inl v, I') → RetI Z cX11_addField .int v I') (hE : ∀ k I', K (.inr k, I') → RetX Z k I') : WF Z K (m_X11_addField k p1 p2 I) I 0 [some (rf (zG Z) k), some (.int p1), some (.int p2)] [] := by
  unfold m_X11_addField
  refine w_aload_n (v := k) C dX11_addField_0 rfl (q := 1) rfl ?_
  refine w_iload_n (v := p1) C dX11_addField_1 rfl (q := 2) rfl ?_
  refine w_callVX (val := fun _ => none) (st1 := fun _ => []) (As := [.int p1]) (st := []) (q := 5) C hR (okA hc (by decide)) (okA hs (by decide)) (fun x h => c_X11_needRule (zl Z) hst (zG Z) p1 hk I h) hk mv_X11_needRule lk_X11_218 rfl (by decide) (fun _ => rfl) (Nat.le_of_ble_eq_true rfl) rfl rfl dX11_addField_2 rfl (hE) (fun r1 I2 => ?_)
  exact WF.less (L' := [some (rf (zG Z) k), some (.int p1), some (.int p2)]) (m_X11_addField_j5_ok (C.bump (okA hc (by decide)) (okA hs (by decide))) hR k p1 p2 hk I2 hst (by have := hc; show Z.2.2.1 + 1 + 1 ≤ _; omega) (by have := hs; show Z.2.2.2.1 + 6 + 6 ≤ _; omega) hK hE) ⟨rfl, rfl, rfl, trivial⟩
theorem c_X11_addField (l : Launch) (hst : l.stackTraces = false) (G : Gx) {k : Nat} (p1 : Int32) (p2 : Int32) (hk : isO k 11) (I : Mem) {x : (Int32 ⊕ Nat) × Mem} (h : m_X11_addField k p1 p2 I = some x) : CtX l G yX11_addField cX11_addField 3 (some (.int)) 7 111 2 12 [rf G k, .int p1, .int p2] I (rsX (fun v => some (.int v)) x.1) x.2 := CtX.of hst (by decide +kernel) rfl (Nat.le_of_ble_eq_true rfl) retx_i (fun Z hG hl C hR hc hs hret hexc => by
  subst hG
  subst hl
  exact m_X11_addField_ok (K := fun y => y = x) C hR k p1 p2 hk I hst hc hs (fun v I' hy => by subst hy; exact hret _ rfl) (fun k I' hy => by subst hy; exact hexc _ rfl) x h rfl)
def m_X6_restrict (k : Nat) (p1 : Int32) (p2 : Int32) (I : Mem) : Option (Mem) :=
  bnd (ms I k 4 p1) fun I1 => gd (okc p2) (bnd (ms I1 k 5 p2) fun I2 => some I2)
set_option maxRecDepth 100000 in
set_option maxHeartbeats 4000000 in
theorem m_X6_restrict_ok {Z : Zx} {K : Mem → Prop} (C : Cx Z cX6_restrict 3 RX6) (hR : RM Z 0 0) (k : Nat) (p1 : Int32) (p2 : Int32) (hk : isO k 6) (I : Mem) (hK : ∀ y, K (y) → RetV Z cX6_restrict y) : WF Z K (m_X6_restrict k p1 p2 I) I 0 [some (rf (zG Z) k), some (.int p1), some (.int p2)] [] := by
  unfold m_X6_restrict
  refine w_aload_n (v := k) C dX6_restrict_0 rfl (q := 1) rfl ?_
  refine w_iload_n (v := p1) C dX6_restrict_1 rfl (q := 2) rfl ?_
  refine p_X6_4 C hk  lk_X6_26 dX6_restrict_2 (q := 5) rfl (fun I1 => ?_)
  refine w_aload_n (v := k) C dX6_restrict_5 rfl (q := 6) rfl ?_
  refine w_iload_n (v := p2) C dX6_restrict_6 rfl (q := 7) rfl ?_
  refine w_gd (fun h3 => ?_)
  refine p_X6_5 C hk h3 lk_X6_29 dX6_restrict_7 (q := 10) rfl (fun I2 => ?_)
  exact w_vret C (hK _) dX6_restrict_10
theorem c_X6_restrict (l : Launch) (G : Gx) {k : Nat} (p1 : Int32) (p2 : Int32) (hk : isO k 6) (I : Mem) {x : Mem} (h : m_X6_restrict k p1 p2 I = some x) : Ct l G yX6_restrict cX6_restrict 3 none 0 0 [rf G k, .int p1, .int p2] I (none) x := Ct.of (by decide +kernel) rfl (Nat.le_of_ble_eq_true rfl) ret_v (fun Z hG hl C hR hret => by
  subst hG
  exact m_X6_restrict_ok (K := fun y => y = x) C hR k p1 p2 hk I (fun y hy => by subst hy; exact hret) x h rfl)
def m_X11_setCondition_j21  (I : Mem) : Option ((Unit ⊕ Nat) × Mem) :=
  some (.inr 0, I)
set_option maxRecDepth 100000 in
set_option maxHeartbeats 4000000 in
theorem m_X11_setCondition_j21_ok {Z : Zx} {K : ((Unit ⊕ Nat) × Mem) → Prop} (C : Cx Z cX11_setCondition 4 RX11) (hR : RM Z 7 111) (I : Mem) (hst : (zl Z).stackTraces = false) (hc : Z.2.2.1 + 1 ≤ (zR Z).cells) (hs : Z.2.2.2.1 + 6 ≤ (zR Z).slots) (hK : ∀ v I', K (.inl v, I') → RetV Z cX11_setCondition I') (hE : ∀ k I', K (.inr k, I') → RetX Z k I') : WF Z K (m_X11_setCondition_j21  I) I 21 [none, none, none, none] [] := by
  unfold m_X11_setCondition_j21
  exact w_throw C hR (okA hc (by decide)) (okA hs (by decide)) (k := 0) (ik := 70) (is := 237) (ic := 74) (text := "element or letter is out of range") (hE _ _) tw_X11_70_74 (by decide +kernel) (by decide) (Nat.le_of_ble_eq_true rfl) rfl dX11_setCondition_21 dX11_setCondition_24 dX11_setCondition_25 dX11_setCondition_27 dX11_setCondition_30
def m_X11_setCondition_j5 (k : Nat) (p1 : Int32) (p2 : Int32) (p3 : Int32) (I : Mem) : Option ((Unit ⊕ Nat) × Mem) :=
  if p2 < 0 then (m_X11_setCondition_j21  I) else (if 5 ≤ p2 then (m_X11_setCondition_j21  I) else (Option.bind (m_X11_isLetter p3 I) fun r3 => if r3 = 0 then (m_X11_setCondition_j21  I) else (Option.bind (m_X7_at (k + 38) p1 I) fun r4 => gd (iO r4 6) (Option.bind (m_X6_restrict r4 p2 p3 I) fun I6 => some (.inl (), I6)))))
set_option maxRecDepth 100000 in
set_option maxHeartbeats 4000000 in
theorem m_X11_setCondition_j5_ok {Z : Zx} {K : ((Unit ⊕ Nat) × Mem) → Prop} (C : Cx Z cX11_setCondition 4 RX11) (hR : RM Z 7 111) (k : Nat) (p1 : Int32) (p2 : Int32) (p3 : Int32) (hk : isO k 11) (I : Mem) (hst : (zl Z).stackTraces = false) (hc : Z.2.2.1 + 1 ≤ (zR Z).cells) (hs : Z.2.2.2.1 + 6 ≤ (zR Z).slots) (hK : ∀ v I', K (.inl v, I') → RetV Z cX11_setCondition I') (hE : ∀ k I', K (.inr k, I') → RetX Z k I') : WF Z K (m_X11_setCondition_j5 k p1 p2 p3 I) I 5 [some (rf (zG Z) k), some (.int p1), some (.int p2), some (.int p3)] [] := by
  unfold m_X11_setCondition_j5
  refine w_iload_n (v := p2) C dX11_setCondition_5 rfl (q := 6) rfl ?_
  refine w_if_lt (tgt := 21) (q := 9) C dX11_setCondition_6 (by decide) rfl (fun _ => ?_) (fun _ => ?_)
  · exact WF.less (L' := [none, none, none, none]) (m_X11_setCondition_j21_ok C hR   I hst hc hs hK hE) trivial
  · refine w_iload_n (v := p2) C dX11_setCondition_9 rfl (q := 10) rfl ?_
    refine w_iconst (v := (5)) C dX11_setCondition_10 (by decide) (q := 11) rfl ?_
    refine w_icmp_ge (tgt := 21) (q := 14) C dX11_setCondition_11 (by decide) rfl (fun _ => ?_) (fun _ => ?_)
    · exact WF.less (L' := [none, none, none, none]) (m_X11_setCondition_j21_ok C hR   I hst hc hs hK hE) trivial
    · refine w_iload_n (v := p3) C dX11_setCondition_14 rfl (q := 15) rfl ?_
      refine w_callS (val := fun r3 => some (.int r3)) (mem := fun r3 => I) (st1 := fun r3 => [.int r3]) (As := [.int p3]) (st := []) (q := 18) C hR (fun x h => c_X11_isLetter (zl Z) (zG Z) p3  I h) mv_X11_isLetter lk_X11_118 rfl (by decide) (fun _ => rfl) (Nat.le_of_ble_eq_true rfl) rfl rfl dX11_setCondition_15 rfl (fun r3 => ?_)
      refine w_if_ne (tgt := 31) (q := 21) C dX11_setCondition_18 (by decide) rfl (fun _ => ?_) (fun _ => ?_)
      · exact WF.less (L' := [none, none, none, none]) (m_X11_setCondition_j21_ok C hR   I hst hc hs hK hE) trivial
      · refine w_aload_n (v := k) C dX11_setCondition_31 rfl (q := 32) rfl ?_
        refine g_X11_4 C hk lk_X11_42 dX11_setCondition_32 (q := 35) rfl ?_
        refine w_iload_n (v := p1) C dX11_setCondition_35 rfl (q := 36) rfl ?_
        refine w_callV (val := fun r4 => some (rf (zG Z) r4)) (mem := fun r4 => I) (st1 := fun r4 => [rf (zG Z) r4]) (As := [.int p1]) (st := []) (q := 39) C hR (fun x h => c_X7_at (zl Z) (zG Z) p1 (st_X11_4 hk).2 I h) (st_X11_4 hk).2 mv_X7_at lk_X11_223 rfl (by decide) (fun _ => rfl) (Nat.le_of_ble_eq_true rfl) rfl rfl dX11_setCondition_36 rfl (fun r4 => ?_)
        refine w_gd (fun h5 => ?_)
        refine w_iload_n (v := p2) C dX11_setCondition_39 rfl (q := 40) rfl ?_
        refine w_iload_n (v := p3) C dX11_setCondition_40 rfl (q := 41) rfl ?_
        refine w_callV (val := fun I6 => none) (mem := fun I6 => I6) (st1 := fun I6 => []) (As := [.int p2, .int p3]) (st := []) (q := 44) C hR (fun x h => c_X6_restrict (zl Z) (zG Z) p2 p3 (iO_of h5) I h) (iO_of h5) mv_X6_restrict lk_X11_239 rfl (by decide) (fun _ => rfl) (Nat.le_of_ble_eq_true rfl) rfl rfl dX11_setCondition_41 rfl (fun I6 => ?_)
        exact w_vret C (hK _ _) dX11_setCondition_44
def m_X11_setCondition (k : Nat) (p1 : Int32) (p2 : Int32) (p3 : Int32) (I : Mem) : Option ((Unit ⊕ Nat) × Mem) :=
  obx (m_X11_needRule k p1 I) (fun k I9 => some (.inr k, I9)) (fun r1 I2 => m_X11_setCondition_j5 k p1 p2 p3 I2)
set_option maxRecDepth 100000 in
set_option maxHeartbeats 4000000 in
theorem m_X11_setCondition_ok {Z : Zx} {K : ((Unit ⊕ Nat) × Mem) → Prop} (C : Cx Z cX11_setCondition 4 RX11) (hR : RM Z 7 111) (k : Nat) (p1 : Int32) (p2 : Int32) (p3 : Int32) (hk : isO k 11) (I : Mem) (hst : (zl Z).stackTraces = false) (hc : Z.2.2.1 + 2 ≤ (zR Z).cells) (hs : Z.2.2.2.1 + 12 ≤ (zR Z).slots) (hK : ∀ v I', K (.inl v, I') → RetV Z cX11_setCondition I') (hE : ∀ k I', K (.inr k, I') → RetX Z k I') : WF Z K (m_X11_setCondition k p1 p2 p3 I) I 0 [some (rf (zG Z) k), some (.int p1), some (.int p2), some (.int p3)] [] := by
  unfold m_X11_setCondition
  refine w_aload_n (v := k) C dX11_setCondition_0 rfl (q := 1) rfl ?_
  refine w_iload_n (v := p1) C dX11_setCondition_1 rfl (q := 2) rfl ?_
  refine w_callVX (val := fun _ => none) (st1 := fun _ => []) (As := [.int p1]) (st := []) (q := 5) C hR (okA hc (by decide)) (okA hs (by decide)) (fun x h => c_X11_needRule (zl Z) hst (zG Z) p1 hk I h) hk mv_X11_needRule lk_X11_218 rfl (by decide) (fun _ => rfl) (Nat.le_of_ble_eq_true rfl) rfl rfl dX11_setCondition_2 rfl (hE) (fun r1 I2 => ?_)
  exact WF.less (L' := [some (rf (zG Z) k), some (.int p1), some (.int p2), some (.int p3)]) (m_X11_setCondition_j5_ok (C.bump (okA hc (by decide)) (okA hs (by decide))) hR k p1 p2 p3 hk I2 hst (by have := hc; show Z.2.2.1 + 1 + 1 ≤ _; omega) (by have := hs; show Z.2.2.2.1 + 6 + 6 ≤ _; omega) hK hE) ⟨rfl, rfl, rfl, rfl, trivial⟩
theorem c_X11_setCondition (l : Launch) (hst : l.stackTraces = false) (G : Gx) {k : Nat} (p1 : Int32) (p2 : Int32) (p3 : Int32) (hk : isO k 11) (I : Mem) {x : (Unit ⊕ Nat) × Mem} (h : m_X11_setCondition k p1 p2 p3 I = some x) : CtX l G yX11_setCondition cX11_setCondition 4 none 7 111 2 12 [rf G k, .int p1, .int p2, .int p3] I (rsX (fun _ => none) x.1) x.2 := CtX.of hst (by decide +kernel) rfl (Nat.le_of_ble_eq_true rfl) retx_v (fun Z hG hl C hR hc hs hret hexc => by
  subst hG
  subst hl
  exact m_X11_setCondition_ok (K := fun y => y = x) C hR k p1 p2 p3 hk I hst hc hs (fun v I' hy => by subst hy; exact hret _ rfl) (fun k I' hy => by subst hy; exact hexc _ rfl) x h rfl)
def m_X6_holdsFor (k : Nat) (p1 : Nat) (I : Mem) : Option (Int32) :=
  Option.bind (m_X9_countIn p1 (I k 4) I) fun r1 => if r1 ≤ 0 then (some 0) else (Option.bind (m_X9_letterIn p1 (I k 4) ((0 : Int32)) I) fun r2 => if r2 = I k 5 then (some 1) else (some 0))
set_option maxRecDepth 100000 in
set_option maxHeartbeats 4000000 in
theorem m_X6_holdsFor_ok {Z : Zx} {K : Int32 → Prop} (C : Cx Z cX6_holdsFor 2 RX6) (hR : RM Z 2 44) (k : Nat) (p1 : Nat) (hk : isO k 6) (hp1 : isO p1 9) (I : Mem) (hK : ∀ y, K (y) → RetI Z cX6_holdsFor .boolean y I) : WF Z K (m_X6_holdsFor k p1 I) I 0 [some (rf (zG Z) k), some (rf (zG Z) p1)] [] := by
  unfold m_X6_holdsFor
  refine w_aload_n (v := p1) C dX6_holdsFor_0 rfl (q := 1) rfl ?_
  refine w_aload_n (v := k) C dX6_holdsFor_1 rfl (q := 2) rfl ?_
  refine g_X6_4 C hk lk_X6_26 dX6_holdsFor_2 (q := 5) rfl ?_
  refine w_callV (val := fun r1 => some (.int r1)) (mem := fun r1 => I) (st1 := fun r1 => [.int r1]) (As := [.int (I k 4)]) (st := []) (q := 8) C hR (fun x h => c_X9_countIn (zl Z) (zG Z) (I k 4) hp1 I h) hp1 mv_X9_countIn lk_X6_41 rfl (by decide) (fun _ => rfl) (Nat.le_of_ble_eq_true rfl) rfl rfl dX6_holdsFor_5 rfl (fun r1 => ?_)
  refine w_if_le (tgt := 31) (q := 11) C dX6_holdsFor_8 (by decide) rfl (fun _ => ?_) (fun _ => ?_)
  · refine w_iconst (v := (0)) C dX6_holdsFor_31 (by decide) (q := 32) rfl ?_
    exact w_iret C (hK _) (by decide) dX6_holdsFor_32
  · refine w_aload_n (v := p1) C dX6_holdsFor_11 rfl (q := 12) rfl ?_
    refine w_aload_n (v := k) C dX6_holdsFor_12 rfl (q := 13) rfl ?_
    refine g_X6_4 C hk lk_X6_26 dX6_holdsFor_13 (q := 16) rfl ?_
    refine w_iconst (v := (0)) C dX6_holdsFor_16 (by decide) (q := 17) rfl ?_
    refine w_callV (val := fun r2 => some (.int r2)) (mem := fun r2 => I) (st1 := fun r2 => [.int r2]) (As := [.int (I k 4), .int 0]) (st := []) (q := 20) C hR (fun x h => c_X9_letterIn (zl Z) (zG Z) (I k 4) ((0 : Int32)) hp1 I h) hp1 mv_X9_letterIn lk_X6_45 rfl (by decide) (fun _ => rfl) (Nat.le_of_ble_eq_true rfl) rfl rfl dX6_holdsFor_17 rfl (fun r2 => ?_)
    refine w_aload_n (v := k) C dX6_holdsFor_20 rfl (q := 21) rfl ?_
    refine g_X6_5 C hk lk_X6_29 dX6_holdsFor_21 (q := 24) rfl ?_
    refine w_icmp_ne (tgt := 31) (q := 27) C dX6_holdsFor_24 (by decide) rfl (fun _ => ?_) (fun _ => ?_)
    · refine w_iconst (v := (1)) C dX6_holdsFor_27 (by decide) (q := 28) rfl ?_
      refine w_goto (tgt := 32) C dX6_holdsFor_28 (by decide) ?_
      exact w_iret C (hK _) (by decide) dX6_holdsFor_32
    · refine w_iconst (v := (0)) C dX6_holdsFor_31 (by decide) (q := 32) rfl ?_
      exact w_iret C (hK _) (by decide) dX6_holdsFor_32
theorem c_X6_holdsFor (l : Launch) (G : Gx) {k : Nat} {p1 : Nat} (hk : isO k 6) (hp1 : isO p1 9) (I : Mem) {x : Int32} (h : m_X6_holdsFor k p1 I = some x) : Ct l G yX6_holdsFor cX6_holdsFor 2 (some (.boolean)) 2 44 [rf G k, rf G p1] I (some (.int x)) I := Ct.of (by decide +kernel) rfl (Nat.le_of_ble_eq_true rfl) ret_i (fun Z hG hl C hR hret => by
  subst hG
  exact m_X6_holdsFor_ok (K := fun y => y = x) C hR k p1 hk hp1 I (fun y hy => by subst hy; exact hret) x h rfl)
def m_X6_appliesTo_j27  (I : Mem) : Option (Int32) :=
  some 1
set_option maxRecDepth 100000 in
set_option maxHeartbeats 4000000 in
theorem m_X6_appliesTo_j27_ok {Z : Zx} {K : Int32 → Prop} (C : Cx Z cX6_appliesTo 2 RX6) (hR : RM Z 3 65) (I : Mem) (hK : ∀ y, K (y) → RetI Z cX6_appliesTo .boolean y I) : WF Z K (m_X6_appliesTo_j27  I) I 27 [none, none] [] := by
  unfold m_X6_appliesTo_j27
  refine w_iconst (v := (1)) C dX6_appliesTo_27 (by decide) (q := 28) rfl ?_
  refine w_goto (tgt := 32) C dX6_appliesTo_28 (by decide) ?_
  exact w_iret C (hK _) (by decide) dX6_appliesTo_32
def m_X6_appliesTo (k : Nat) (p1 : Nat) (I : Mem) : Option (Int32) :=
  Option.bind (m_X9_itemNumber p1 I) fun r1 => if r1 = I k 1 then (if I k 4 = -1 then (m_X6_appliesTo_j27  I) else (Option.bind (m_X6_holdsFor k p1 I) fun r2 => if r2 = 0 then (some 0) else (m_X6_appliesTo_j27  I))) else (some 0)
set_option maxRecDepth 100000 in
set_option maxHeartbeats 4000000 in
theorem m_X6_appliesTo_ok {Z : Zx} {K : Int32 → Prop} (C : Cx Z cX6_appliesTo 2 RX6) (hR : RM Z 3 65) (k : Nat) (p1 : Nat) (hk : isO k 6) (hp1 : isO p1 9) (I : Mem) (hK : ∀ y, K (y) → RetI Z cX6_appliesTo .boolean y I) : WF Z K (m_X6_appliesTo k p1 I) I 0 [some (rf (zG Z) k), some (rf (zG Z) p1)] [] := by
  unfold m_X6_appliesTo
  refine w_aload_n (v := p1) C dX6_appliesTo_0 rfl (q := 1) rfl ?_
  refine w_callV (val := fun r1 => some (.int r1)) (mem := fun r1 => I) (st1 := fun r1 => [.int r1]) (As := []) (st := []) (q := 4) C hR (fun x h => c_X9_itemNumber (zl Z) (zG Z)  hp1 I h) hp1 mv_X9_itemNumber lk_X6_32 rfl (by decide) (fun _ => rfl) (Nat.le_of_ble_eq_true rfl) rfl rfl dX6_appliesTo_1 rfl (fun r1 => ?_)
  refine w_aload_n (v := k) C dX6_appliesTo_4 rfl (q := 5) rfl ?_
  refine g_X6_1 C hk lk_X6_15 dX6_appliesTo_5 (q := 8) rfl ?_
  refine w_icmp_ne (tgt := 31) (q := 11) C dX6_appliesTo_8 (by decide) rfl (fun _ => ?_) (fun _ => ?_)
  · refine w_aload_n (v := k) C dX6_appliesTo_11 rfl (q := 12) rfl ?_
    refine g_X6_4 C hk lk_X6_26 dX6_appliesTo_12 (q := 15) rfl ?_
    refine w_iconst (v := (-1)) C dX6_appliesTo_15 (by decide) (q := 16) rfl ?_
    refine w_icmp_eq (tgt := 27) (q := 19) C dX6_appliesTo_16 (by decide) rfl (fun _ => ?_) (fun _ => ?_)
    · exact WF.less (L' := [none, none]) (m_X6_appliesTo_j27_ok C hR   I hK) trivial
    · refine w_aload_n (v := k) C dX6_appliesTo_19 rfl (q := 20) rfl ?_
      refine w_aload_n (v := p1) C dX6_appliesTo_20 rfl (q := 21) rfl ?_
      refine w_callV (val := fun r2 => some (.int r2)) (mem := fun r2 => I) (st1 := fun r2 => [.int r2]) (As := [rf (zG Z) p1]) (st := []) (q := 24) C hR (fun x h => c_X6_holdsFor (zl Z) (zG Z)  hk hp1 I h) hk mv_X6_holdsFor lk_X6_37 rfl (by decide) (fun _ => rfl) (Nat.le_of_ble_eq_true rfl) rfl rfl dX6_appliesTo_21 rfl (fun r2 => ?_)
      refine w_if_eq (tgt := 31) (q := 27) C dX6_appliesTo_24 (by decide) rfl (fun _ => ?_) (fun _ => ?_)
      · refine w_iconst (v := (0)) C dX6_appliesTo_31 (by decide) (q := 32) rfl ?_
        exact w_iret C (hK _) (by decide) dX6_appliesTo_32
      · exact WF.less (L' := [none, none]) (m_X6_appliesTo_j27_ok C hR   I hK) trivial
  · refine w_iconst (v := (0)) C dX6_appliesTo_31 (by decide) (q := 32) rfl ?_
    exact w_iret C (hK _) (by decide) dX6_appliesTo_32
theorem c_X6_appliesTo (l : Launch) (G : Gx) {k : Nat} {p1 : Nat} (hk : isO k 6) (hp1 : isO p1 9) (I : Mem) {x : Int32} (h : m_X6_appliesTo k p1 I = some x) : Ct l G yX6_appliesTo cX6_appliesTo 2 (some (.boolean)) 3 65 [rf G k, rf G p1] I (some (.int x)) I := Ct.of (by decide +kernel) rfl (Nat.le_of_ble_eq_true rfl) ret_i (fun Z hG hl C hR hret => by
  subst hG
  exact m_X6_appliesTo_ok (K := fun y => y = x) C hR k p1 hk hp1 I (fun y hy => by subst hy; exact hret) x h rfl)
def m_X10_putReleased_j24 (k : Nat) (p1 : Int32) (I : Mem) : Option (Mem) :=
  Option.bind (m_X10_put k p1 I) fun I2 => some I2
set_option maxRecDepth 100000 in
set_option maxHeartbeats 4000000 in
theorem m_X10_putReleased_j24_ok {Z : Zx} {K : Mem → Prop} (C : Cx Z cX10_putReleased 2 RX10) (hR : RM Z 1 21) (k : Nat) (p1 : Int32) (hk : isO k 10) (I : Mem) (hK : ∀ y, K (y) → RetV Z cX10_putReleased y) : WF Z K (m_X10_putReleased_j24 k p1 I) I 24 [some (rf (zG Z) k), some (.int p1)] [] := by
  unfold m_X10_putReleased_j24
  refine w_aload_n (v := k) C dX10_putReleased_24 rfl (q := 25) rfl ?_
  refine w_iload_n (v := p1) C dX10_putReleased_25 rfl (q := 26) rfl ?_
  refine w_callV (val := fun I2 => none) (mem := fun I2 => I2) (st1 := fun I2 => []) (As := [.int p1]) (st := []) (q := 29) C hR (fun x h => c_X10_put (zl Z) (zG Z) p1 hk I h) hk mv_X10_put lk_X10_27 rfl (by decide) (fun _ => rfl) (Nat.le_of_ble_eq_true rfl) rfl rfl dX10_putReleased_26 rfl (fun I2 => ?_)
  exact w_vret C (hK _) dX10_putReleased_29
def m_X10_putReleased_j18 (k : Nat) (p1 : Int32) (I : Mem) : Option (Mem) :=
  Option.bind (m_X10_put k ((63 : Int32)) I) fun I1 => m_X10_putReleased_j24 k p1 I1
set_option maxRecDepth 100000 in
set_option maxHeartbeats 4000000 in
theorem m_X10_putReleased_j18_ok {Z : Zx} {K : Mem → Prop} (C : Cx Z cX10_putReleased 2 RX10) (hR : RM Z 1 21) (k : Nat) (p1 : Int32) (hk : isO k 10) (I : Mem) (hK : ∀ y, K (y) → RetV Z cX10_putReleased y) : WF Z K (m_X10_putReleased_j18 k p1 I) I 18 [some (rf (zG Z) k), some (.int p1)] [] := by
  unfold m_X10_putReleased_j18
  refine w_aload_n (v := k) C dX10_putReleased_18 rfl (q := 19) rfl ?_
  refine w_bipush (v := (63)) C dX10_putReleased_19 (by decide) (q := 21) rfl ?_
  refine w_callV (val := fun I1 => none) (mem := fun I1 => I1) (st1 := fun I1 => []) (As := [.int 63]) (st := []) (q := 24) C hR (fun x h => c_X10_put (zl Z) (zG Z) ((63 : Int32)) hk I h) hk mv_X10_put lk_X10_27 rfl (by decide) (fun _ => rfl) (Nat.le_of_ble_eq_true rfl) rfl rfl dX10_putReleased_21 rfl (fun I1 => ?_)
  exact WF.less (L' := [some (rf (zG Z) k), some (.int p1)]) (m_X10_putReleased_j24_ok C hR k p1 hk I1 hK) ⟨rfl, rfl, trivial⟩
def m_X10_putReleased (k : Nat) (p1 : Int32) (I : Mem) : Option (Mem) :=
  if p1 = 43 then (m_X10_putReleased_j18 k p1 I) else (if p1 = 39 then (m_X10_putReleased_j18 k p1 I) else (if p1 = 63 then (m_X10_putReleased_j18 k p1 I) else (m_X10_putReleased_j24 k p1 I)))
set_option maxRecDepth 100000 in
set_option maxHeartbeats 4000000 in
theorem m_X10_putReleased_ok {Z : Zx} {K : Mem → Prop} (C : Cx Z cX10_putReleased 2 RX10) (hR : RM Z 1 21) (k : Nat) (p1 : Int32) (hk : isO k 10) (I : Mem) (hK : ∀ y, K (y) → RetV Z cX10_putReleased y) : WF Z K (m_X10_putReleased k p1 I) I 0 [some (rf (zG Z) k), some (.int p1)] [] := by
  unfold m_X10_putReleased
  refine w_iload_n (v := p1) C dX10_putReleased_0 rfl (q := 1) rfl ?_
  refine w_bipush (v := (43)) C dX10_putReleased_1 (by decide) (q := 3) rfl ?_
  refine w_icmp_eq (tgt := 18) (q := 6) C dX10_putReleased_3 (by decide) rfl (fun _ => ?_) (fun _ => ?_)
  · exact WF.less (L' := [some (rf (zG Z) k), some (.int p1)]) (m_X10_putReleased_j18_ok C hR k p1 hk I hK) ⟨rfl, rfl, trivial⟩
  · refine w_iload_n (v := p1) C dX10_putReleased_6 rfl (q := 7) rfl ?_
    refine w_bipush (v := (39)) C dX10_putReleased_7 (by decide) (q := 9) rfl ?_
    refine w_icmp_eq (tgt := 18) (q := 12) C dX10_putReleased_9 (by decide) rfl (fun _ => ?_) (fun _ => ?_)
    · exact WF.less (L' := [some (rf (zG Z) k), some (.int p1)]) (m_X10_putReleased_j18_ok C hR k p1 hk I hK) ⟨rfl, rfl, trivial⟩
    · refine w_iload_n (v := p1) C dX10_putReleased_12 rfl (q := 13) rfl ?_
      refine w_bipush (v := (63)) C dX10_putReleased_13 (by decide) (q := 15) rfl ?_
      refine w_icmp_ne (tgt := 24) (q := 18) C dX10_putReleased_15 (by decide) rfl (fun _ => ?_) (fun _ => ?_)
      · exact WF.less (L' := [some (rf (zG Z) k), some (.int p1)]) (m_X10_putReleased_j18_ok C hR k p1 hk I hK) ⟨rfl, rfl, trivial⟩
      · exact WF.less (L' := [some (rf (zG Z) k), some (.int p1)]) (m_X10_putReleased_j24_ok C hR k p1 hk I hK) ⟨rfl, rfl, trivial⟩
theorem c_X10_putReleased (l : Launch) (G : Gx) {k : Nat} (p1 : Int32) (hk : isO k 10) (I : Mem) {x : Mem} (h : m_X10_putReleased k p1 I = some x) : Ct l G yX10_putReleased cX10_putReleased 2 none 1 21 [rf G k, .int p1] I (none) x := Ct.of (by decide +kernel) rfl (Nat.le_of_ble_eq_true rfl) ret_v (fun Z hG hl C hR hret => by
  subst hG
  exact m_X10_putReleased_ok (K := fun y => y = x) C hR k p1 hk I (fun y hy => by subst hy; exact hret) x h rfl)
def m_X6_translate_b35 (k : Nat) (p1 : Nat) (p2 : Nat) (x3 : Int32) (x4 : Int32) (x5 : Int32) (I : Mem) : Option ((Int32 × Mem) ⊕ ((Mem))) :=
  Option.bind (m_X9_countIn p1 x4 I) fun r3 => if r3 ≤ x5 then (some (.inr (I))) else (Option.bind (m_X9_letterIn p1 x4 x5 I) fun r4 => Option.bind (m_X10_putReleased p2 r4 I) fun I5 => some (.inl (x5 + 1, I5)))
set_option maxRecDepth 100000 in
set_option maxHeartbeats 4000000 in
theorem m_X6_translate_b35_ok {Z : Zx} {K : ((Int32 × Mem) ⊕ ((Mem))) → Prop} (C : Cx Z cX6_translate 6 RX6) (hR : RM Z 2 44) (k : Nat) (p1 : Nat) (p2 : Nat) (x3 : Int32) (x4 : Int32) (x5 : Int32) (hk : isO k 6) (hp1 : isO p1 9) (hp2 : isO p2 10) (I : Mem) (hB : ∀ a, K (.inl a) → WM Z a.2 35 [some (rf (zG Z) k), some (rf (zG Z) p1), some (rf (zG Z) p2), some (.int x3), some (.int x4), some (.int a.1)] []) (hX0 : ∀ b, K (.inr (b)) → WM Z b 64 [some (rf (zG Z) k), some (rf (zG Z) p1), some (rf (zG Z) p2), some (.int x3), none, none] []) : WF Z K (m_X6_translate_b35 k p1 p2 x3 x4 x5 I) I 35 [some (rf (zG Z) k), some (rf (zG Z) p1), some (rf (zG Z) p2), some (.int x3), some (.int x4), some (.int x5)] [] := by
  unfold m_X6_translate_b35
  refine w_iload (v := x5) C dX6_translate_35 rfl (q := 37) rfl ?_
  refine w_aload_n (v := p1) C dX6_translate_37 rfl (q := 38) rfl ?_
  refine w_iload (v := x4) C dX6_translate_38 rfl (q := 40) rfl ?_
  refine w_callV (val := fun r3 => some (.int r3)) (mem := fun r3 => I) (st1 := fun r3 => [.int r3, .int x5]) (As := [.int x4]) (st := [.int x5]) (q := 43) C hR (fun x h => c_X9_countIn (zl Z) (zG Z) x4 hp1 I h) hp1 mv_X9_countIn lk_X6_41 rfl (by decide) (fun _ => rfl) (Nat.le_of_ble_eq_true rfl) rfl rfl dX6_translate_40 rfl (fun r3 => ?_)
  refine w_icmp_ge (tgt := 64) (q := 46) C dX6_translate_43 (by decide) rfl (fun _ => ?_) (fun _ => ?_)
  · exact w_jmp (fun h => WM.less (L' := [some (rf (zG Z) k), some (rf (zG Z) p1), some (rf (zG Z) p2), some (.int x3), none, none]) (hX0 _ h) ⟨rfl, rfl, rfl, rfl, trivial⟩)
  · refine w_aload_n (v := p2) C dX6_translate_46 rfl (q := 47) rfl ?_
    refine w_aload_n (v := p1) C dX6_translate_47 rfl (q := 48) rfl ?_
    refine w_iload (v := x4) C dX6_translate_48 rfl (q := 50) rfl ?_
    refine w_iload (v := x5) C dX6_translate_50 rfl (q := 52) rfl ?_
    refine w_callV (val := fun r4 => some (.int r4)) (mem := fun r4 => I) (st1 := fun r4 => [.int r4, rf (zG Z) p2]) (As := [.int x4, .int x5]) (st := [rf (zG Z) p2]) (q := 55) C hR (fun x h => c_X9_letterIn (zl Z) (zG Z) x4 x5 hp1 I h) hp1 mv_X9_letterIn lk_X6_45 rfl (by decide) (fun _ => rfl) (Nat.le_of_ble_eq_true rfl) rfl rfl dX6_translate_52 rfl (fun r4 => ?_)
    refine w_callV (val := fun I5 => none) (mem := fun I5 => I5) (st1 := fun I5 => []) (As := [.int r4]) (st := []) (q := 58) C hR (fun x h => c_X10_putReleased (zl Z) (zG Z) r4 hp2 I h) hp2 mv_X10_putReleased lk_X6_55 rfl (by decide) (fun _ => rfl) (Nat.le_of_ble_eq_true rfl) rfl rfl dX6_translate_55 rfl (fun I5 => ?_)
    refine w_iinc (v := x5 + 1) C dX6_translate_58 rfl rfl (L' := [some (rf (zG Z) k), some (rf (zG Z) p1), some (rf (zG Z) p2), some (.int x3), some (.int x4), some (.int (x5 + 1))]) rfl (q := 61) rfl ?_
    refine w_goto (tgt := 35) C dX6_translate_61 (by decide) ?_
    exact w_jmp (fun h => WM.less (L' := [some (rf (zG Z) k), some (rf (zG Z) p1), some (rf (zG Z) p2), some (.int x3), some (.int x4), some (.int (x5 + 1))]) (hB _ h) ⟨rfl, rfl, rfl, rfl, rfl, rfl, trivial⟩)
def m_X6_translate_b10 (k : Nat) (p1 : Nat) (p2 : Nat) (x3 : Int32) (I : Mem) : Option ((Int32 × Mem) ⊕ ((Mem))) :=
  if I k 3 ≤ x3 then (some (.inr (I))) else (gd (inb x3 5) (Option.bind (m_X10_put p2 ((43 : Int32)) I) fun I2 => Option.bind (loopF (fun a => m_X6_translate_b35 k p1 p2 x3 (I (k + 1) x3.toNatClampNeg) a.1 a.2) FU ((0 : Int32), I2)) (fun b6 => some (.inl (x3 + 1, b6)))))
set_option maxRecDepth 100000 in
set_option maxHeartbeats 4000000 in
theorem m_X6_translate_b10_ok {Z : Zx} {K : ((Int32 × Mem) ⊕ ((Mem))) → Prop} (C : Cx Z cX6_translate 6 RX6) (hR : RM Z 2 44) (k : Nat) (p1 : Nat) (p2 : Nat) (x3 : Int32) (hk : isO k 6) (hp1 : isO p1 9) (hp2 : isO p2 10) (I : Mem) (hB : ∀ a, K (.inl a) → WM Z a.2 10 [some (rf (zG Z) k), some (rf (zG Z) p1), some (rf (zG Z) p2), some (.int a.1), none, none] []) (hX0 : ∀ b, K (.inr (b)) → WM Z b 70 [none, none, some (rf (zG Z) p2), none, none, none] []) : WF Z K (m_X6_translate_b10 k p1 p2 x3 I) I 10 [some (rf (zG Z) k), some (rf (zG Z) p1), some (rf (zG Z) p2), some (.int x3), none, none] [] := by
  unfold m_X6_translate_b10
  refine w_iload_n (v := x3) C dX6_translate_10 rfl (q := 11) rfl ?_
  refine w_aload_n (v := k) C dX6_translate_11 rfl (q := 12) rfl ?_
  refine g_X6_3 C hk lk_X6_23 dX6_translate_12 (q := 15) rfl ?_
  refine w_icmp_ge (tgt := 70) (q := 18) C dX6_translate_15 (by decide) rfl (fun _ => ?_) (fun _ => ?_)
  · exact w_jmp (fun h => WM.less (L' := [none, none, some (rf (zG Z) p2), none, none, none]) (hX0 _ h) ⟨rfl, trivial⟩)
  · refine w_aload_n (v := k) C dX6_translate_18 rfl (q := 19) rfl ?_
    refine g_X6_0 C hk lk_X6_9 dX6_translate_19 (q := 22) rfl ?_
    refine w_iload_n (v := x3) C dX6_translate_22 rfl (q := 23) rfl ?_
    refine w_iald C (st_X6_0 hk).2 dX6_translate_23 (q := 24) rfl (fun _ => ?_)
    refine w_istore C dX6_translate_24 (Nat.le_of_ble_eq_true rfl) (L' := [some (rf (zG Z) k), some (rf (zG Z) p1), some (rf (zG Z) p2), some (.int x3), some (.int (I (k + 1) x3.toNatClampNeg)), none]) rfl (q := 26) rfl ?_
    refine w_aload_n (v := p2) C dX6_translate_26 rfl (q := 27) rfl ?_
    refine w_bipush (v := (43)) C dX6_translate_27 (by decide) (q := 29) rfl ?_
    refine w_callV (val := fun I2 => none) (mem := fun I2 => I2) (st1 := fun I2 => []) (As := [.int 43]) (st := []) (q := 32) C hR (fun x h => c_X10_put (zl Z) (zG Z) ((43 : Int32)) hp2 I h) hp2 mv_X10_put lk_X6_49 rfl (by decide) (fun _ => rfl) (Nat.le_of_ble_eq_true rfl) rfl rfl dX6_translate_29 rfl (fun I2 => ?_)
    refine w_iconst (v := (0)) C dX6_translate_32 (by decide) (q := 33) rfl ?_
    refine w_istore C dX6_translate_33 (Nat.le_of_ble_eq_true rfl) (L' := [some (rf (zG Z) k), some (rf (zG Z) p1), some (rf (zG Z) p2), some (.int x3), some (.int (I (k + 1) x3.toNatClampNeg)), some (.int 0)]) rfl (q := 35) rfl ?_
    refine WF.less (L' := [some (rf (zG Z) k), some (rf (zG Z) p1), some (rf (zG Z) p2), some (.int x3), some (.int (I (k + 1) x3.toNatClampNeg)), some (.int 0)]) (w_loopF (pc := 35) (a := ((0 : Int32), I2)) (mem := fun a => a.2) (lo := fun a => [some (rf (zG Z) k), some (rf (zG Z) p1), some (rf (zG Z) p2), some (.int x3), some (.int (I (k + 1) x3.toNatClampNeg)), some (.int a.1)]) (E := fun b6 => WM Z b6 64 [some (rf (zG Z) k), some (rf (zG Z) p1), some (rf (zG Z) p2), some (.int x3), none, none] []) (fun a => m_X6_translate_b35_ok C hR k p1 p2 x3 (I (k + 1) x3.toNatClampNeg) a.1 hk hp1 hp2 a.2 (fun _ h => h) (fun _ h => h)) ?_) ⟨rfl, rfl, rfl, rfl, rfl, rfl, trivial⟩
    intro b6
    refine w_hx ?_
    refine w_iinc (v := x3 + 1) C dX6_translate_64 rfl rfl (L' := [some (rf (zG Z) k), some (rf (zG Z) p1), some (rf (zG Z) p2), some (.int (x3 + 1)), none, none]) rfl (q := 67) rfl ?_
    refine w_goto (tgt := 10) C dX6_translate_67 (by decide) ?_
    exact w_jmp (fun h => WM.less (L' := [some (rf (zG Z) k), some (rf (zG Z) p1), some (rf (zG Z) p2), some (.int (x3 + 1)), none, none]) (hB _ h) ⟨rfl, rfl, rfl, rfl, trivial⟩)
def m_X6_translate (k : Nat) (p1 : Nat) (p2 : Nat) (I : Mem) : Option (Mem) :=
  Option.bind (m_X10_put p2 (I k 2) I) fun I1 => Option.bind (loopF (fun a => m_X6_translate_b10 k p1 p2 a.1 a.2) FU ((0 : Int32), I1)) (fun b7 => Option.bind (m_X10_put p2 ((39 : Int32)) b7) fun I8 => some I8)
set_option maxRecDepth 100000 in
set_option maxHeartbeats 4000000 in
theorem m_X6_translate_ok {Z : Zx} {K : Mem → Prop} (C : Cx Z cX6_translate 6 RX6) (hR : RM Z 2 44) (k : Nat) (p1 : Nat) (p2 : Nat) (hk : isO k 6) (hp1 : isO p1 9) (hp2 : isO p2 10) (I : Mem) (hK : ∀ y, K (y) → RetV Z cX6_translate y) : WF Z K (m_X6_translate k p1 p2 I) I 0 [some (rf (zG Z) k), some (rf (zG Z) p1), some (rf (zG Z) p2), none, none, none] [] := by
  unfold m_X6_translate
  refine w_aload_n (v := p2) C dX6_translate_0 rfl (q := 1) rfl ?_
  refine w_aload_n (v := k) C dX6_translate_1 rfl (q := 2) rfl ?_
  refine g_X6_2 C hk lk_X6_19 dX6_translate_2 (q := 5) rfl ?_
  refine w_callV (val := fun I1 => none) (mem := fun I1 => I1) (st1 := fun I1 => []) (As := [.int (I k 2)]) (st := []) (q := 8) C hR (fun x h => c_X10_put (zl Z) (zG Z) (I k 2) hp2 I h) hp2 mv_X10_put lk_X6_49 rfl (by decide) (fun _ => rfl) (Nat.le_of_ble_eq_true rfl) rfl rfl dX6_translate_5 rfl (fun I1 => ?_)
  refine w_iconst (v := (0)) C dX6_translate_8 (by decide) (q := 9) rfl ?_
  refine w_istore_n C dX6_translate_9 (Nat.le_of_ble_eq_true rfl) (L' := [some (rf (zG Z) k), some (rf (zG Z) p1), some (rf (zG Z) p2), some (.int 0), none, none]) rfl (q := 10) rfl ?_
  refine WF.less (L' := [some (rf (zG Z) k), some (rf (zG Z) p1), some (rf (zG Z) p2), some (.int 0), none, none]) (w_loopF (pc := 10) (a := ((0 : Int32), I1)) (mem := fun a => a.2) (lo := fun a => [some (rf (zG Z) k), some (rf (zG Z) p1), some (rf (zG Z) p2), some (.int a.1), none, none]) (E := fun b7 => WM Z b7 70 [none, none, some (rf (zG Z) p2), none, none, none] []) (fun a => m_X6_translate_b10_ok C hR k p1 p2 a.1 hk hp1 hp2 a.2 (fun _ h => h) (fun _ h => h)) ?_) ⟨rfl, rfl, rfl, rfl, trivial⟩
  intro b7
  refine w_hx ?_
  refine w_aload_n (v := p2) C dX6_translate_70 rfl (q := 71) rfl ?_
  refine w_bipush (v := (39)) C dX6_translate_71 (by decide) (q := 73) rfl ?_
  refine w_callV (val := fun I8 => none) (mem := fun I8 => I8) (st1 := fun I8 => []) (As := [.int 39]) (st := []) (q := 76) C hR (fun x h => c_X10_put (zl Z) (zG Z) ((39 : Int32)) hp2 b7 h) hp2 mv_X10_put lk_X6_49 rfl (by decide) (fun _ => rfl) (Nat.le_of_ble_eq_true rfl) rfl rfl dX6_translate_73 rfl (fun I8 => ?_)
  exact w_vret C (hK _) dX6_translate_76
theorem c_X6_translate (l : Launch) (G : Gx) {k : Nat} {p1 : Nat} {p2 : Nat} (hk : isO k 6) (hp1 : isO p1 9) (hp2 : isO p2 10) (I : Mem) {x : Mem} (h : m_X6_translate k p1 p2 I = some x) : Ct l G yX6_translate cX6_translate 6 none 2 44 [rf G k, rf G p1, rf G p2] I (none) x := Ct.of (by decide +kernel) rfl (Nat.le_of_ble_eq_true rfl) ret_v (fun Z hG hl C hR hret => by
  subst hG
  exact m_X6_translate_ok (K := fun y => y = x) C hR k p1 p2 hk hp1 hp2 I (fun y hy => by subst hy; exact hret) x h rfl)
def m_X7_putBody_j65 (k : Nat) (p1 : Nat) (p2 : Nat) (x3 : Int32) (x4 : Int32) (x5 : Nat) (x6 : Int32) (I : Mem) : Option ((Int32 × Int32 × Mem) ⊕ ((Int32 × Mem))) :=
  some (.inl (x3, x6 + 1, I))
set_option maxRecDepth 100000 in
set_option maxHeartbeats 4000000 in
theorem m_X7_putBody_j65_ok {Z : Zx} {K : ((Int32 × Int32 × Mem) ⊕ ((Int32 × Mem))) → Prop} (C : Cx Z cX7_putBody 7 RX7) (hR : RM Z 4 86) (k : Nat) (p1 : Nat) (p2 : Nat) (x3 : Int32) (x4 : Int32) (x5 : Nat) (x6 : Int32) (hk : isO k 7) (hp1 : isO p1 4) (hp2 : isO p2 10) (hx5 : isO x5 9) (I : Mem) (hB : ∀ a, K (.inl a) → WM Z a.2.2 25 [some (rf (zG Z) k), some (rf (zG Z) p1), some (rf (zG Z) p2), some (.int a.1), some (.int x4), some (rf (zG Z) x5), some (.int a.2.1)] []) (hX0 : ∀ b, K (.inr (b)) → WM Z b.2 71 [some (rf (zG Z) k), some (rf (zG Z) p1), some (rf (zG Z) p2), some (.int b.1), some (.int x4), none, none] []) : WF Z K (m_X7_putBody_j65 k p1 p2 x3 x4 x5 x6 I) I 65 [some (rf (zG Z) k), some (rf (zG Z) p1), some (rf (zG Z) p2), some (.int x3), some (.int x4), some (rf (zG Z) x5), some (.int x6)] [] := by
  unfold m_X7_putBody_j65
  refine w_iinc (v := x6 + 1) C dX7_putBody_65 rfl rfl (L' := [some (rf (zG Z) k), some (rf (zG Z) p1), some (rf (zG Z) p2), some (.int x3), some (.int x4), some (rf (zG Z) x5), some (.int (x6 + 1))]) rfl (q := 68) rfl ?_
  refine w_goto (tgt := 25) C dX7_putBody_68 (by decide) ?_
  exact w_jmp (fun h => WM.less (L' := [some (rf (zG Z) k), some (rf (zG Z) p1), some (rf (zG Z) p2), some (.int x3), some (.int x4), some (rf (zG Z) x5), some (.int (x6 + 1))]) (hB _ h) ⟨rfl, rfl, rfl, rfl, rfl, rfl, rfl, trivial⟩)
def m_X7_putBody_b25 (k : Nat) (p1 : Nat) (p2 : Nat) (x4 : Int32) (x5 : Nat) (x3 : Int32) (x6 : Int32) (I : Mem) : Option ((Int32 × Int32 × Mem) ⊕ ((Int32 × Mem))) :=
  if I k 2 ≤ x6 then (some (.inr ((x3, I)))) else (gd (inb x6 10) (Option.bind (m_X6_appliesTo ((k + 1) + (3 + 2 * x6.toNatClampNeg)) x5 I) fun r5 => if r5 = 0 then (m_X7_putBody_j65 k p1 p2 x3 x4 x5 x6 I) else (gd (inb x6 10) (Option.bind (m_X6_translate ((k + 1) + (3 + 2 * x6.toNatClampNeg)) x5 p2 I) fun I7 => m_X7_putBody_j65 k p1 p2 (x3 + 1) x4 x5 x6 I7))))
set_option maxRecDepth 100000 in
set_option maxHeartbeats 4000000 in
theorem m_X7_putBody_b25_ok {Z : Zx} {K : ((Int32 × Int32 × Mem) ⊕ ((Int32 × Mem))) → Prop} (C : Cx Z cX7_putBody 7 RX7) (hR : RM Z 4 86) (k : Nat) (p1 : Nat) (p2 : Nat) (x4 : Int32) (x5 : Nat) (x3 : Int32) (x6 : Int32) (hk : isO k 7) (hp1 : isO p1 4) (hp2 : isO p2 10) (hx5 : isO x5 9) (I : Mem) (hB : ∀ a, K (.inl a) → WM Z a.2.2 25 [some (rf (zG Z) k), some (rf (zG Z) p1), some (rf (zG Z) p2), some (.int a.1), some (.int x4), some (rf (zG Z) x5), some (.int a.2.1)] []) (hX0 : ∀ b, K (.inr (b)) → WM Z b.2 71 [some (rf (zG Z) k), some (rf (zG Z) p1), some (rf (zG Z) p2), some (.int b.1), some (.int x4), none, none] []) : WF Z K (m_X7_putBody_b25 k p1 p2 x4 x5 x3 x6 I) I 25 [some (rf (zG Z) k), some (rf (zG Z) p1), some (rf (zG Z) p2), some (.int x3), some (.int x4), some (rf (zG Z) x5), some (.int x6)] [] := by
  unfold m_X7_putBody_b25
  refine w_iload (v := x6) C dX7_putBody_25 rfl (q := 27) rfl ?_
  refine w_aload_n (v := k) C dX7_putBody_27 rfl (q := 28) rfl ?_
  refine g_X7_2 C hk lk_X7_22 dX7_putBody_28 (q := 31) rfl ?_
  refine w_icmp_ge (tgt := 71) (q := 34) C dX7_putBody_31 (by decide) rfl (fun _ => ?_) (fun _ => ?_)
  · exact w_jmp (fun h => WM.less (L' := [some (rf (zG Z) k), some (rf (zG Z) p1), some (rf (zG Z) p2), some (.int x3), some (.int x4), none, none]) (hX0 _ h) ⟨rfl, rfl, rfl, rfl, rfl, trivial⟩)
  · refine w_aload_n (v := k) C dX7_putBody_34 rfl (q := 35) rfl ?_
    refine g_X7_0 C hk lk_X7_11 dX7_putBody_35 (q := 38) rfl ?_
    refine w_iload (v := x6) C dX7_putBody_38 rfl (q := 40) rfl ?_
    refine w_aald (t := 2) C (st_X7_0 hk).2 rfl (el_Rule (st_X7_0 hk).2) dX7_putBody_40 (q := 41) rfl (fun _ h4 => ?_)
    refine w_aload (v := x5) C dX7_putBody_41 rfl (q := 43) rfl ?_
    refine w_callV (val := fun r5 => some (.int r5)) (mem := fun r5 => I) (st1 := fun r5 => [.int r5]) (As := [rf (zG Z) x5]) (st := []) (q := 46) C hR (fun x h => c_X6_appliesTo (zl Z) (zG Z)  h4 hx5 I h) h4 mv_X6_appliesTo lk_X7_69 rfl (by decide) (fun _ => rfl) (Nat.le_of_ble_eq_true rfl) rfl rfl dX7_putBody_43 rfl (fun r5 => ?_)
    refine w_if_eq (tgt := 65) (q := 49) C dX7_putBody_46 (by decide) rfl (fun _ => ?_) (fun _ => ?_)
    · exact WF.less (L' := [some (rf (zG Z) k), some (rf (zG Z) p1), some (rf (zG Z) p2), some (.int x3), some (.int x4), some (rf (zG Z) x5), some (.int x6)]) (m_X7_putBody_j65_ok C hR k p1 p2 x3 x4 x5 x6 hk hp1 hp2 hx5 I hB hX0) ⟨rfl, rfl, rfl, rfl, rfl, rfl, rfl, trivial⟩
    · refine w_aload_n (v := k) C dX7_putBody_49 rfl (q := 50) rfl ?_
      refine g_X7_0 C hk lk_X7_11 dX7_putBody_50 (q := 53) rfl ?_
      refine w_iload (v := x6) C dX7_putBody_53 rfl (q := 55) rfl ?_
      refine w_aald (t := 2) C (st_X7_0 hk).2 rfl (el_Rule (st_X7_0 hk).2) dX7_putBody_55 (q := 56) rfl (fun _ h6 => ?_)
      refine w_aload (v := x5) C dX7_putBody_56 rfl (q := 58) rfl ?_
      refine w_aload_n (v := p2) C dX7_putBody_58 rfl (q := 59) rfl ?_
      refine w_callV (val := fun I7 => none) (mem := fun I7 => I7) (st1 := fun I7 => []) (As := [rf (zG Z) x5, rf (zG Z) p2]) (st := []) (q := 62) C hR (fun x h => c_X6_translate (zl Z) (zG Z)  h6 hx5 hp2 I h) h6 mv_X6_translate lk_X7_73 rfl (by decide) (fun _ => rfl) (Nat.le_of_ble_eq_true rfl) rfl rfl dX7_putBody_59 rfl (fun I7 => ?_)
      refine w_iinc (v := x3 + 1) C dX7_putBody_62 rfl rfl (L' := [some (rf (zG Z) k), some (rf (zG Z) p1), some (rf (zG Z) p2), some (.int (x3 + 1)), some (.int x4), some (rf (zG Z) x5), some (.int x6)]) rfl (q := 65) rfl ?_
      exact WF.less (L' := [some (rf (zG Z) k), some (rf (zG Z) p1), some (rf (zG Z) p2), some (.int (x3 + 1)), some (.int x4), some (rf (zG Z) x5), some (.int x6)]) (m_X7_putBody_j65_ok C hR k p1 p2 (x3 + 1) x4 x5 x6 hk hp1 hp2 hx5 I7 hB hX0) ⟨rfl, rfl, rfl, rfl, rfl, rfl, rfl, trivial⟩
def m_X7_putBody_b5 (k : Nat) (p1 : Nat) (p2 : Nat) (x3 : Int32) (x4 : Int32) (I : Mem) : Option ((Int32 × Int32 × Mem) ⊕ ((Int32 × Mem))) :=
  Option.bind (m_X4_bodyCount p1 I) fun r1 => if r1 ≤ x4 then (some (.inr ((x3, I)))) else (Option.bind (m_X4_bodyAt p1 x4 I) fun r2 => gd (iO r2 9) (Option.bind (loopF (fun a => m_X7_putBody_b25 k p1 p2 x4 r2 a.1 a.2.1 a.2.2) FU (x3, (0 : Int32), I)) (fun b8 => some (.inl (b8.1, x4 + 1, b8.2)))))
set_option maxRecDepth 100000 in
set_option maxHeartbeats 4000000 in
theorem m_X7_putBody_b5_ok {Z : Zx} {K : ((Int32 × Int32 × Mem) ⊕ ((Int32 × Mem))) → Prop} (C : Cx Z cX7_putBody 7 RX7) (hR : RM Z 4 86) (k : Nat) (p1 : Nat) (p2 : Nat) (x3 : Int32) (x4 : Int32) (hk : isO k 7) (hp1 : isO p1 4) (hp2 : isO p2 10) (I : Mem) (hB : ∀ a, K (.inl a) → WM Z a.2.2 5 [some (rf (zG Z) k), some (rf (zG Z) p1), some (rf (zG Z) p2), some (.int a.1), some (.int a.2.1), none, none] []) (hX0 : ∀ b, K (.inr (b)) → WM Z b.2 77 [none, none, none, some (.int b.1), none, none, none] []) : WF Z K (m_X7_putBody_b5 k p1 p2 x3 x4 I) I 5 [some (rf (zG Z) k), some (rf (zG Z) p1), some (rf (zG Z) p2), some (.int x3), some (.int x4), none, none] [] := by
  unfold m_X7_putBody_b5
  refine w_iload (v := x4) C dX7_putBody_5 rfl (q := 7) rfl ?_
  refine w_aload_n (v := p1) C dX7_putBody_7 rfl (q := 8) rfl ?_
  refine w_callV (val := fun r1 => some (.int r1)) (mem := fun r1 => I) (st1 := fun r1 => [.int r1, .int x4]) (As := []) (st := [.int x4]) (q := 11) C hR (fun x h => c_X4_bodyCount (zl Z) (zG Z)  hp1 I h) hp1 mv_X4_bodyCount lk_X7_59 rfl (by decide) (fun _ => rfl) (Nat.le_of_ble_eq_true rfl) rfl rfl dX7_putBody_8 rfl (fun r1 => ?_)
  refine w_icmp_ge (tgt := 77) (q := 14) C dX7_putBody_11 (by decide) rfl (fun _ => ?_) (fun _ => ?_)
  · exact w_jmp (fun h => WM.less (L' := [none, none, none, some (.int x3), none, none, none]) (hX0 _ h) ⟨rfl, trivial⟩)
  · refine w_aload_n (v := p1) C dX7_putBody_14 rfl (q := 15) rfl ?_
    refine w_iload (v := x4) C dX7_putBody_15 rfl (q := 17) rfl ?_
    refine w_callV (val := fun r2 => some (rf (zG Z) r2)) (mem := fun r2 => I) (st1 := fun r2 => [rf (zG Z) r2]) (As := [.int x4]) (st := []) (q := 20) C hR (fun x h => c_X4_bodyAt (zl Z) (zG Z) x4 hp1 I h) hp1 mv_X4_bodyAt lk_X7_65 rfl (by decide) (fun _ => rfl) (Nat.le_of_ble_eq_true rfl) rfl rfl dX7_putBody_17 rfl (fun r2 => ?_)
    refine w_gd (fun h3 => ?_)
    refine w_astore C dX7_putBody_20 (Nat.le_of_ble_eq_true rfl) (L' := [some (rf (zG Z) k), some (rf (zG Z) p1), some (rf (zG Z) p2), some (.int x3), some (.int x4), some (rf (zG Z) r2), none]) rfl (q := 22) rfl ?_
    refine w_iconst (v := (0)) C dX7_putBody_22 (by decide) (q := 23) rfl ?_
    refine w_istore C dX7_putBody_23 (Nat.le_of_ble_eq_true rfl) (L' := [some (rf (zG Z) k), some (rf (zG Z) p1), some (rf (zG Z) p2), some (.int x3), some (.int x4), some (rf (zG Z) r2), some (.int 0)]) rfl (q := 25) rfl ?_
    refine WF.less (L' := [some (rf (zG Z) k), some (rf (zG Z) p1), some (rf (zG Z) p2), some (.int x3), some (.int x4), some (rf (zG Z) r2), some (.int 0)]) (w_loopF (pc := 25) (a := (x3, (0 : Int32), I)) (mem := fun a => a.2.2) (lo := fun a => [some (rf (zG Z) k), some (rf (zG Z) p1), some (rf (zG Z) p2), some (.int a.1), some (.int x4), some (rf (zG Z) r2), some (.int a.2.1)]) (E := fun b8 => WM Z b8.2 71 [some (rf (zG Z) k), some (rf (zG Z) p1), some (rf (zG Z) p2), some (.int b8.1), some (.int x4), none, none] []) (fun a => m_X7_putBody_b25_ok C hR k p1 p2 x4 r2 a.1 a.2.1 hk hp1 hp2 (iO_of h3) a.2.2 (fun _ h => h) (fun _ h => h)) ?_) ⟨rfl, rfl, rfl, rfl, rfl, rfl, rfl, trivial⟩
    intro b8
    refine w_hx ?_
    refine w_iinc (v := x4 + 1) C dX7_putBody_71 rfl rfl (L' := [some (rf (zG Z) k), some (rf (zG Z) p1), some (rf (zG Z) p2), some (.int b8.1), some (.int (x4 + 1)), none, none]) rfl (q := 74) rfl ?_
    refine w_goto (tgt := 5) C dX7_putBody_74 (by decide) ?_
    exact w_jmp (fun h => WM.less (L' := [some (rf (zG Z) k), some (rf (zG Z) p1), some (rf (zG Z) p2), some (.int b8.1), some (.int (x4 + 1)), none, none]) (hB _ h) ⟨rfl, rfl, rfl, rfl, rfl, trivial⟩)
def m_X7_putBody (k : Nat) (p1 : Nat) (p2 : Nat) (I : Mem) : Option (Int32 × Mem) :=
  Option.bind (loopF (fun a => m_X7_putBody_b5 k p1 p2 a.1 a.2.1 a.2.2) FU ((0 : Int32), (0 : Int32), I)) (fun b9 => some ((b9.1, b9.2)))
set_option maxRecDepth 100000 in
set_option maxHeartbeats 4000000 in
theorem m_X7_putBody_ok {Z : Zx} {K : (Int32 × Mem) → Prop} (C : Cx Z cX7_putBody 7 RX7) (hR : RM Z 4 86) (k : Nat) (p1 : Nat) (p2 : Nat) (hk : isO k 7) (hp1 : isO p1 4) (hp2 : isO p2 10) (I : Mem) (hK : ∀ y, K (y) → RetI Z cX7_putBody .int y.1 y.2) : WF Z K (m_X7_putBody k p1 p2 I) I 0 [some (rf (zG Z) k), some (rf (zG Z) p1), some (rf (zG Z) p2), none, none, none, none] [] := by
  unfold m_X7_putBody
  refine w_iconst (v := (0)) C dX7_putBody_0 (by decide) (q := 1) rfl ?_
  refine w_istore_n C dX7_putBody_1 (Nat.le_of_ble_eq_true rfl) (L' := [some (rf (zG Z) k), some (rf (zG Z) p1), some (rf (zG Z) p2), some (.int 0), none, none, none]) rfl (q := 2) rfl ?_
  refine w_iconst (v := (0)) C dX7_putBody_2 (by decide) (q := 3) rfl ?_
  refine w_istore C dX7_putBody_3 (Nat.le_of_ble_eq_true rfl) (L' := [some (rf (zG Z) k), some (rf (zG Z) p1), some (rf (zG Z) p2), some (.int 0), some (.int 0), none, none]) rfl (q := 5) rfl ?_
  refine WF.less (L' := [some (rf (zG Z) k), some (rf (zG Z) p1), some (rf (zG Z) p2), some (.int 0), some (.int 0), none, none]) (w_loopF (pc := 5) (a := ((0 : Int32), (0 : Int32), I)) (mem := fun a => a.2.2) (lo := fun a => [some (rf (zG Z) k), some (rf (zG Z) p1), some (rf (zG Z) p2), some (.int a.1), some (.int a.2.1), none, none]) (E := fun b9 => WM Z b9.2 77 [none, none, none, some (.int b9.1), none, none, none] []) (fun a => m_X7_putBody_b5_ok C hR k p1 p2 a.1 a.2.1 hk hp1 hp2 a.2.2 (fun _ h => h) (fun _ h => h)) ?_) ⟨rfl, rfl, rfl, rfl, rfl, trivial⟩
  intro b9
  refine w_hx ?_
  refine w_iload_n (v := b9.1) C dX7_putBody_77 rfl (q := 78) rfl ?_
  exact w_iret C (hK _) rfl dX7_putBody_78
theorem c_X7_putBody (l : Launch) (G : Gx) {k : Nat} {p1 : Nat} {p2 : Nat} (hk : isO k 7) (hp1 : isO p1 4) (hp2 : isO p2 10) (I : Mem) {x : Int32 × Mem} (h : m_X7_putBody k p1 p2 I = some x) : Ct l G yX7_putBody cX7_putBody 7 (some (.int)) 4 86 [rf G k, rf G p1, rf G p2] I (some (.int x.1)) x.2 := Ct.of (by decide +kernel) rfl (Nat.le_of_ble_eq_true rfl) ret_i (fun Z hG hl C hR hret => by
  subst hG
  exact m_X7_putBody_ok (K := fun y => y = x) C hR k p1 p2 hk hp1 hp2 I (fun y hy => by subst hy; exact hret) x h rfl)
def m_X10_putNumber_j32 (k : Nat) (p1 : Int32) (x2 : Int32) (I : Mem) : Option ((Int32 × Mem) ⊕ ((Mem))) :=
  some (.inl (x2 / 10, I))
set_option maxRecDepth 100000 in
set_option maxHeartbeats 4000000 in
theorem m_X10_putNumber_j32_ok {Z : Zx} {K : ((Int32 × Mem) ⊕ ((Mem))) → Prop} (C : Cx Z cX10_putNumber 3 RX10) (hR : RM Z 1 21) (k : Nat) (p1 : Int32) (x2 : Int32) (hk : isO k 10) (I : Mem) (hB : ∀ a, K (.inl a) → WM Z a.2 4 [some (rf (zG Z) k), some (.int p1), some (.int a.1)] []) (hX0 : ∀ b, K (.inr (b)) → WM Z b 40 [none, none, none] []) : WF Z K (m_X10_putNumber_j32 k p1 x2 I) I 32 [some (rf (zG Z) k), some (.int p1), some (.int x2)] [] := by
  unfold m_X10_putNumber_j32
  refine w_iload_n (v := x2) C dX10_putNumber_32 rfl (q := 33) rfl ?_
  refine w_bipush (v := (10)) C dX10_putNumber_33 (by decide) (q := 35) rfl ?_
  refine w_idivL C (by decide) dX10_putNumber_35 (q := 36) rfl ?_
  refine w_istore_n C dX10_putNumber_36 (Nat.le_of_ble_eq_true rfl) (L' := [some (rf (zG Z) k), some (.int p1), some (.int (x2 / 10))]) rfl (q := 37) rfl ?_
  refine w_goto (tgt := 4) C dX10_putNumber_37 (by decide) ?_
  exact w_jmp (fun h => WM.less (L' := [some (rf (zG Z) k), some (.int p1), some (.int (x2 / 10))]) (hB _ h) ⟨rfl, rfl, rfl, trivial⟩)
def m_X10_putNumber_j18 (k : Nat) (p1 : Int32) (x2 : Int32) (I : Mem) : Option ((Int32 × Mem) ⊕ ((Mem))) :=
  gd (decide (¬ x2 = 0)) (Option.bind (m_X10_put k (((((48 : Int32)) + ((p1 / x2) - (p1 / x2) / 10 * 10)).toUInt32 % 65536).toInt32) I) fun I1 => m_X10_putNumber_j32 k p1 x2 I1)
set_option maxRecDepth 100000 in
set_option maxHeartbeats 4000000 in
theorem m_X10_putNumber_j18_ok {Z : Zx} {K : ((Int32 × Mem) ⊕ ((Mem))) → Prop} (C : Cx Z cX10_putNumber 3 RX10) (hR : RM Z 1 21) (k : Nat) (p1 : Int32) (x2 : Int32) (hk : isO k 10) (I : Mem) (hB : ∀ a, K (.inl a) → WM Z a.2 4 [some (rf (zG Z) k), some (.int p1), some (.int a.1)] []) (hX0 : ∀ b, K (.inr (b)) → WM Z b 40 [none, none, none] []) : WF Z K (m_X10_putNumber_j18 k p1 x2 I) I 18 [some (rf (zG Z) k), some (.int p1), some (.int x2)] [] := by
  unfold m_X10_putNumber_j18
  refine w_aload_n (v := k) C dX10_putNumber_18 rfl (q := 19) rfl ?_
  refine w_bipush (v := (48)) C dX10_putNumber_19 (by decide) (q := 21) rfl ?_
  refine w_iload_n (v := p1) C dX10_putNumber_21 rfl (q := 22) rfl ?_
  refine w_iload_n (v := x2) C dX10_putNumber_22 rfl (q := 23) rfl ?_
  refine w_idiv C dX10_putNumber_23 (q := 24) rfl ?_
  refine w_bipush (v := (10)) C dX10_putNumber_24 (by decide) (q := 26) rfl ?_
  refine w_iremL C (by decide) dX10_putNumber_26 (q := 27) rfl ?_
  refine w_iadd C dX10_putNumber_27 (q := 28) rfl ?_
  refine w_i2c C dX10_putNumber_28 (q := 29) rfl ?_
  refine w_callV (val := fun I1 => none) (mem := fun I1 => I1) (st1 := fun I1 => []) (As := [.int (((((48 : Int32)) + ((p1 / x2) - (p1 / x2) / 10 * 10)).toUInt32 % 65536).toInt32)]) (st := []) (q := 32) C hR (fun x h => c_X10_put (zl Z) (zG Z) (((((48 : Int32)) + ((p1 / x2) - (p1 / x2) / 10 * 10)).toUInt32 % 65536).toInt32) hk I h) hk mv_X10_put lk_X10_27 rfl (by decide) (fun _ => rfl) (Nat.le_of_ble_eq_true rfl) rfl rfl dX10_putNumber_29 rfl (fun I1 => ?_)
  exact WF.less (L' := [some (rf (zG Z) k), some (.int p1), some (.int x2)]) (m_X10_putNumber_j32_ok C hR k p1 x2 hk I1 hB hX0) ⟨rfl, rfl, rfl, trivial⟩
def m_X10_putNumber_b4 (k : Nat) (p1 : Int32) (x2 : Int32) (I : Mem) : Option ((Int32 × Mem) ⊕ ((Mem))) :=
  if x2 ≤ 0 then (some (.inr (I))) else (if x2 ≤ p1 then (m_X10_putNumber_j18 k p1 x2 I) else (if x2 = 1 then (m_X10_putNumber_j18 k p1 x2 I) else (m_X10_putNumber_j32 k p1 x2 I)))
set_option maxRecDepth 100000 in
set_option maxHeartbeats 4000000 in
theorem m_X10_putNumber_b4_ok {Z : Zx} {K : ((Int32 × Mem) ⊕ ((Mem))) → Prop} (C : Cx Z cX10_putNumber 3 RX10) (hR : RM Z 1 21) (k : Nat) (p1 : Int32) (x2 : Int32) (hk : isO k 10) (I : Mem) (hB : ∀ a, K (.inl a) → WM Z a.2 4 [some (rf (zG Z) k), some (.int p1), some (.int a.1)] []) (hX0 : ∀ b, K (.inr (b)) → WM Z b 40 [none, none, none] []) : WF Z K (m_X10_putNumber_b4 k p1 x2 I) I 4 [some (rf (zG Z) k), some (.int p1), some (.int x2)] [] := by
  unfold m_X10_putNumber_b4
  refine w_iload_n (v := x2) C dX10_putNumber_4 rfl (q := 5) rfl ?_
  refine w_if_le (tgt := 40) (q := 8) C dX10_putNumber_5 (by decide) rfl (fun _ => ?_) (fun _ => ?_)
  · exact w_jmp (fun h => WM.less (L' := [none, none, none]) (hX0 _ h) trivial)
  · refine w_iload_n (v := p1) C dX10_putNumber_8 rfl (q := 9) rfl ?_
    refine w_iload_n (v := x2) C dX10_putNumber_9 rfl (q := 10) rfl ?_
    refine w_icmp_ge (tgt := 18) (q := 13) C dX10_putNumber_10 (by decide) rfl (fun _ => ?_) (fun _ => ?_)
    · exact WF.less (L' := [some (rf (zG Z) k), some (.int p1), some (.int x2)]) (m_X10_putNumber_j18_ok C hR k p1 x2 hk I hB hX0) ⟨rfl, rfl, rfl, trivial⟩
    · refine w_iload_n (v := x2) C dX10_putNumber_13 rfl (q := 14) rfl ?_
      refine w_iconst (v := (1)) C dX10_putNumber_14 (by decide) (q := 15) rfl ?_
      refine w_icmp_ne (tgt := 32) (q := 18) C dX10_putNumber_15 (by decide) rfl (fun _ => ?_) (fun _ => ?_)
      · exact WF.less (L' := [some (rf (zG Z) k), some (.int p1), some (.int x2)]) (m_X10_putNumber_j18_ok C hR k p1 x2 hk I hB hX0) ⟨rfl, rfl, rfl, trivial⟩
      · exact WF.less (L' := [some (rf (zG Z) k), some (.int p1), some (.int x2)]) (m_X10_putNumber_j32_ok C hR k p1 x2 hk I hB hX0) ⟨rfl, rfl, rfl, trivial⟩
def m_X10_putNumber (k : Nat) (p1 : Int32) (I : Mem) : Option (Mem) :=
  Option.bind (loopF (fun a => m_X10_putNumber_b4 k p1 a.1 a.2) FU ((1000 : Int32), I)) (fun b2 => some b2)
set_option maxRecDepth 100000 in
set_option maxHeartbeats 4000000 in
theorem m_X10_putNumber_ok {Z : Zx} {K : Mem → Prop} (C : Cx Z cX10_putNumber 3 RX10) (hR : RM Z 1 21) (k : Nat) (p1 : Int32) (hk : isO k 10) (I : Mem) (hK : ∀ y, K (y) → RetV Z cX10_putNumber y) : WF Z K (m_X10_putNumber k p1 I) I 0 [some (rf (zG Z) k), some (.int p1), none] [] := by
  unfold m_X10_putNumber
  refine w_sipush (v := (1000)) C dX10_putNumber_0 (by decide) (q := 3) rfl ?_
  refine w_istore_n C dX10_putNumber_3 (Nat.le_of_ble_eq_true rfl) (L' := [some (rf (zG Z) k), some (.int p1), some (.int 1000)]) rfl (q := 4) rfl ?_
  refine WF.less (L' := [some (rf (zG Z) k), some (.int p1), some (.int 1000)]) (w_loopF (pc := 4) (a := ((1000 : Int32), I)) (mem := fun a => a.2) (lo := fun a => [some (rf (zG Z) k), some (.int p1), some (.int a.1)]) (E := fun b2 => WM Z b2 40 [none, none, none] []) (fun a => m_X10_putNumber_b4_ok C hR k p1 a.1 hk a.2 (fun _ h => h) (fun _ h => h)) ?_) ⟨rfl, rfl, rfl, trivial⟩
  intro b2
  refine w_hx ?_
  exact w_vret C (hK _) dX10_putNumber_40
theorem c_X10_putNumber (l : Launch) (G : Gx) {k : Nat} (p1 : Int32) (hk : isO k 10) (I : Mem) {x : Mem} (h : m_X10_putNumber k p1 I = some x) : Ct l G yX10_putNumber cX10_putNumber 3 none 1 21 [rf G k, .int p1] I (none) x := Ct.of (by decide +kernel) rfl (Nat.le_of_ble_eq_true rfl) ret_v (fun Z hG hl C hR hret => by
  subst hG
  exact m_X10_putNumber_ok (K := fun y => y = x) C hR k p1 hk I (fun y hy => by subst hy; exact hret) x h rfl)
def m_X7_putHeader (p1 : Int32) (p2 : Nat) (I : Mem) : Option (Mem) :=
  Option.bind (m_X10_put p2 ((72 : Int32)) I) fun I1 => Option.bind (m_X10_put p2 ((43 : Int32)) I1) fun I2 => Option.bind (m_X10_putNumber p2 p1 I2) fun I3 => Option.bind (m_X10_put p2 ((39 : Int32)) I3) fun I4 => some I4
set_option maxRecDepth 100000 in
set_option maxHeartbeats 4000000 in
theorem m_X7_putHeader_ok {Z : Zx} {K : Mem → Prop} (C : Cx Z cX7_putHeader 2 RX7) (hR : RM Z 2 43) (p1 : Int32) (p2 : Nat) (hp2 : isO p2 10) (I : Mem) (hK : ∀ y, K (y) → RetV Z cX7_putHeader y) : WF Z K (m_X7_putHeader p1 p2 I) I 0 [some (.int p1), some (rf (zG Z) p2)] [] := by
  unfold m_X7_putHeader
  refine w_aload_n (v := p2) C dX7_putHeader_0 rfl (q := 1) rfl ?_
  refine w_bipush (v := (72)) C dX7_putHeader_1 (by decide) (q := 3) rfl ?_
  refine w_callV (val := fun I1 => none) (mem := fun I1 => I1) (st1 := fun I1 => []) (As := [.int 72]) (st := []) (q := 6) C hR (fun x h => c_X10_put (zl Z) (zG Z) ((72 : Int32)) hp2 I h) hp2 mv_X10_put lk_X7_51 rfl (by decide) (fun _ => rfl) (Nat.le_of_ble_eq_true rfl) rfl rfl dX7_putHeader_3 rfl (fun I1 => ?_)
  refine w_aload_n (v := p2) C dX7_putHeader_6 rfl (q := 7) rfl ?_
  refine w_bipush (v := (43)) C dX7_putHeader_7 (by decide) (q := 9) rfl ?_
  refine w_callV (val := fun I2 => none) (mem := fun I2 => I2) (st1 := fun I2 => []) (As := [.int 43]) (st := []) (q := 12) C hR (fun x h => c_X10_put (zl Z) (zG Z) ((43 : Int32)) hp2 I1 h) hp2 mv_X10_put lk_X7_51 rfl (by decide) (fun _ => rfl) (Nat.le_of_ble_eq_true rfl) rfl rfl dX7_putHeader_9 rfl (fun I2 => ?_)
  refine w_aload_n (v := p2) C dX7_putHeader_12 rfl (q := 13) rfl ?_
  refine w_iload_n (v := p1) C dX7_putHeader_13 rfl (q := 14) rfl ?_
  refine w_callV (val := fun I3 => none) (mem := fun I3 => I3) (st1 := fun I3 => []) (As := [.int p1]) (st := []) (q := 17) C hR (fun x h => c_X10_putNumber (zl Z) (zG Z) p1 hp2 I2 h) hp2 mv_X10_putNumber lk_X7_55 rfl (by decide) (fun _ => rfl) (Nat.le_of_ble_eq_true rfl) rfl rfl dX7_putHeader_14 rfl (fun I3 => ?_)
  refine w_aload_n (v := p2) C dX7_putHeader_17 rfl (q := 18) rfl ?_
  refine w_bipush (v := (39)) C dX7_putHeader_18 (by decide) (q := 20) rfl ?_
  refine w_callV (val := fun I4 => none) (mem := fun I4 => I4) (st1 := fun I4 => []) (As := [.int 39]) (st := []) (q := 23) C hR (fun x h => c_X10_put (zl Z) (zG Z) ((39 : Int32)) hp2 I3 h) hp2 mv_X10_put lk_X7_51 rfl (by decide) (fun _ => rfl) (Nat.le_of_ble_eq_true rfl) rfl rfl dX7_putHeader_20 rfl (fun I4 => ?_)
  exact w_vret C (hK _) dX7_putHeader_23
theorem c_X7_putHeader (l : Launch) (G : Gx) (p1 : Int32) {p2 : Nat} (hp2 : isO p2 10) (I : Mem) {x : Mem} (h : m_X7_putHeader p1 p2 I = some x) : Ct l G yX7_putHeader cX7_putHeader 2 none 2 43 [.int p1, rf G p2] I (none) x := Ct.of (by decide +kernel) rfl (Nat.le_of_ble_eq_true rfl) ret_v (fun Z hG hl C hR hret => by
  subst hG
  exact m_X7_putHeader_ok (K := fun y => y = x) C hR p1 p2 hp2 I (fun y hy => by subst hy; exact hret) x h rfl)
