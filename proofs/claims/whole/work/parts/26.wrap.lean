theorem cl_L_13 : Cond.classLink RL 13 (exN 0) ∈ LT := LT.mem (List.mem_of_getElem? (i := 397) (by decide +kernel)) (by decide +kernel)
theorem cl_L_15 : Cond.classLink RL 15 (exN 1) ∈ LT := LT.mem (List.mem_of_getElem? (i := 398) (by decide +kernel)) (by decide +kernel)
theorem cl_L_36 : Cond.classLink RL 36 (exN 2) ∈ LT := LT.mem (List.mem_of_getElem? (i := 797) (by decide +kernel)) (by decide +kernel)
theorem cl_L_44 : Cond.classLink RL 44 (exN 3) ∈ LT := LT.mem (List.mem_of_getElem? (i := 840) (by decide +kernel)) (by decide +kernel)
theorem cs_0 : Cond.castable (exN 0) (exN 0) ∈ LT := LT.mem (List.mem_of_getElem? (i := 414) (by decide +kernel)) (by decide +kernel)
theorem cs_1 : Cond.castable (exN 1) (exN 1) ∈ LT := LT.mem (List.mem_of_getElem? (i := 483) (by decide +kernel)) (by decide +kernel)
theorem cs_2 : Cond.castable (exN 2) (exN 2) ∈ LT := LT.mem (List.mem_of_getElem? (i := 808) (by decide +kernel)) (by decide +kernel)
theorem cs_3 : Cond.castable (exN 3) (exN 3) ∈ LT := LT.mem (List.mem_of_getElem? (i := 847) (by decide +kernel)) (by decide +kernel)
def hv_addItem (k : Nat) : Option Int32 := if k = 0 then some 1 else if k = 1 then some 2 else none
def m_L_addItem_j10 (y0 : Nat) (y1 : Int32) (y2 : Int32) (I : Mem) : Option (Int32 × Mem) :=
  gd (inb y1 1) (bnd (ms I y0 y1.toNatClampNeg y2) fun I3 => some ((0, I3)))
set_option maxRecDepth 100000 in
set_option maxHeartbeats 4000000 in
theorem m_L_addItem_j10_ok {Z : Zx} {K : (Int32 × Mem) → Prop} (C : Cx Z cL_addItem 6 RL) (hR : RM Z 7 113) (y0 : Nat) (y1 : Int32) (y2 : Int32) (hy0 : isA y0 3 1) (I : Mem) (hK : ∀ y, K (y) → RetI Z cL_addItem .int y.1 y.2) : WF Z K (m_L_addItem_j10 y0 y1 y2 I) I 10 [none, none, none, none, none, none] [.int y2, .int y1, rf (zG Z) y0] := by
  unfold m_L_addItem_j10
  refine w_i2l C dL_addItem_10 (q := 11) rfl ?_
  refine w_last C hy0 dL_addItem_11 (q := 12) rfl (fun _ I3 => ?_)
  refine w_goto (tgt := 23) C dL_addItem_12 (by decide) ?_
  refine w_iconst (v := (0)) C dL_addItem_23 (by decide) (q := 24) rfl ?_
  exact w_iret C (hK _) rfl dL_addItem_24
def m_L_addItem (p1 : Nat) (p2 : Int32) (p3 : Int32) (p4 : Int32) (p5 : Nat) (I : Mem) : Option (Int32 × Mem) :=
  obx (m_X11_addItem p1 p2 p3 p4 I) (fun k I9 => (hv_addItem k).map (fun c => (c, I9))) (fun r1 I2 => m_L_addItem_j10 p5 ((0 : Int32)) r1 I2)
set_option maxRecDepth 100000 in
set_option maxHeartbeats 4000000 in
theorem m_L_addItem_ok {Z : Zx} {K : (Int32 × Mem) → Prop} (C : Cx Z cL_addItem 6 RL) (hR : RM Z 7 113) (p1 : Nat) (p2 : Int32) (p3 : Int32) (p4 : Int32) (p5 : Nat) (hp1 : isO p1 11) (hp5 : isA p5 3 1) (I : Mem) (hst : (zl Z).stackTraces = false) (hNC : NCs (zs Z)) (htab : (zc Z).exceptionTable.toList = tableOf [(0, 12, 15, 13), (0, 12, 19, 15)]) (hc : Z.2.2.1 + 1 ≤ (zR Z).cells) (hs : Z.2.2.2.1 + 6 ≤ (zR Z).slots) (hK : ∀ y, K (y) → RetI Z cL_addItem .int y.1 y.2) : WF Z K (m_L_addItem p1 p2 p3 p4 p5 I) I 0 [some (rf (zG Z) p1), some (.int p2), some (.int p3), some (.int p4), some (rf (zG Z) p5), none] [] := by
  unfold m_L_addItem
  refine w_aload (v := p5) C dL_addItem_0 rfl (q := 2) rfl ?_
  refine w_iconst (v := (0)) C dL_addItem_2 (by decide) (q := 3) rfl ?_
  refine w_aload_n (v := p1) C dL_addItem_3 rfl (q := 4) rfl ?_
  refine w_iload_n (v := p2) C dL_addItem_4 rfl (q := 5) rfl ?_
  refine w_iload_n (v := p3) C dL_addItem_5 rfl (q := 6) rfl ?_
  refine w_iload_n (v := p4) C dL_addItem_6 rfl (q := 7) rfl ?_
  refine w_callVC (val := fun v => some (.int v)) (st1 := fun r1 => [.int r1, .int 0, rf (zG Z) p5]) (As := [.int p2, .int p3, .int p4]) (st := [.int 0, rf (zG Z) p5]) (q := 10) (hv := hv_addItem) (ex := fun c I' => (c, I')) C hR (okA hc (by decide)) (okA hs (by decide)) (fun x h => c_X11_addItem (zl Z) hst (zG Z) p2 p3 p4 hp1 I h) hp1 mv_X11_addItem lk_L_7 rfl (by decide) (fun _ => rfl) (Nat.le_of_ble_eq_true rfl) rfl rfl dL_addItem_7 rfl ?_ (fun r1 I2 => ?_)
  · intro k9 c9 I9 h1 h2
    by_cases q0 : k9 = 0
    · subst q0
      have h3 : (some 1 : Option Int32) = some c9 := h1
      cases h3
      exact x_caught C (k := 0) (i := 5) (c := 1) (okA hc (by decide)) (okA hs (by decide)) [] ⟨0, 12, 15, 13⟩ [⟨0, 12, 19, 15⟩] (htab.trans rfl) (by decide) (by decide) cl_L_13 cs_0 (fun z hz => nomatch hz) (Nat.le_of_ble_eq_true rfl) (Or.inl ⟨dL_addItem_15, rfl⟩) dL_addItem_17 (by decide) rfl dL_addItem_18 (hK _ h2)
    by_cases q1 : k9 = 1
    · subst q1
      have h3 : (some 2 : Option Int32) = some c9 := h1
      cases h3
      exact x_caught C (k := 1) (i := 5) (c := 2) (okA hc (by decide)) (okA hs (by decide)) [⟨0, 12, 15, 13⟩] ⟨0, 12, 19, 15⟩ [] (htab.trans rfl) (by decide) (by decide) cl_L_15 cs_1 (fun z hz => by rcases (by simpa using hz : z = (⟨0, 12, 15, 13⟩ : ExceptionTableEntry)) with rfl <;> exact Or.inr ⟨by decide, _, by first | exact C.ts _ cl_L_13, by first | exact hNC 1 0 (by decide) (by decide) (by decide)⟩) (Nat.le_of_ble_eq_true rfl) (Or.inl ⟨dL_addItem_19, rfl⟩) dL_addItem_21 (by decide) rfl dL_addItem_22 (hK _ h2)
    exact absurd h1 (by simp [hv_addItem, q0, q1])
  · exact WF.less (L' := [none, none, none, none, none, none]) (m_L_addItem_j10_ok (C.bump (okA hc (by decide)) (okA hs (by decide))) hR p5 ((0 : Int32)) r1 hp5 I2 hK) trivial
theorem c_L_addItem (l : Launch) (hst : l.stackTraces = false) (G : Gx) {p1 : Nat} (p2 : Int32) (p3 : Int32) (p4 : Int32) {p5 : Nat} (hp1 : isO p1 11) (hp5 : isA p5 3 1) (I : Mem) {x : Int32 × Mem} (h : m_L_addItem p1 p2 p3 p4 p5 I = some x) : CtL l G yL_addItem cL_addItem 6 [(0, 12, 15, 13), (0, 12, 19, 15)] 7 113 1 6 [rf G p1, .int p2, .int p3, .int p4, rf G p5] I x.1 x.2 := CtL.of (by decide +kernel) rfl (Nat.le_of_ble_eq_true rfl) (fun Z hG hl C hR hNC htab hc hs hret => by
  subst hG
  subst hl
  exact m_L_addItem_ok (K := fun y => y = x) C hR p1 p2 p3 p4 p5 hp1 hp5 I hst hNC htab hc hs (fun y hy => by subst hy; exact hret) x h rfl)
def hv_openLoop (k : Nat) : Option Int32 := if k = 0 then some 1 else if k = 1 then some 2 else none
def m_L_openLoop_j6  (I : Mem) : Option (Int32 × Mem) :=
  some ((0, I))
set_option maxRecDepth 100000 in
set_option maxHeartbeats 4000000 in
theorem m_L_openLoop_j6_ok {Z : Zx} {K : (Int32 × Mem) → Prop} (C : Cx Z cL_openLoop 4 RL) (hR : RM Z 7 112) (I : Mem) (hK : ∀ y, K (y) → RetI Z cL_openLoop .int y.1 y.2) : WF Z K (m_L_openLoop_j6  I) I 6 [none, none, none, none] [] := by
  unfold m_L_openLoop_j6
  refine w_goto (tgt := 15) C dL_openLoop_6 (by decide) ?_
  refine w_iconst (v := (0)) C dL_openLoop_15 (by decide) (q := 16) rfl ?_
  exact w_iret C (hK _) rfl dL_openLoop_16
def m_L_openLoop (p1 : Nat) (p2 : Int32) (p3 : Int32) (I : Mem) : Option (Int32 × Mem) :=
  obx (m_X11_openLoop p1 p2 p3 I) (fun k I9 => (hv_openLoop k).map (fun c => (c, I9))) (fun r1 I2 => m_L_openLoop_j6  I2)
set_option maxRecDepth 100000 in
set_option maxHeartbeats 4000000 in
theorem m_L_openLoop_ok {Z : Zx} {K : (Int32 × Mem) → Prop} (C : Cx Z cL_openLoop 4 RL) (hR : RM Z 7 112) (p1 : Nat) (p2 : Int32) (p3 : Int32) (hp1 : isO p1 11) (I : Mem) (hst : (zl Z).stackTraces = false) (hNC : NCs (zs Z)) (htab : (zc Z).exceptionTable.toList = tableOf [(0, 6, 9, 13), (0, 6, 12, 15)]) (hc : Z.2.2.1 + 1 ≤ (zR Z).cells) (hs : Z.2.2.2.1 + 6 ≤ (zR Z).slots) (hK : ∀ y, K (y) → RetI Z cL_openLoop .int y.1 y.2) : WF Z K (m_L_openLoop p1 p2 p3 I) I 0 [some (rf (zG Z) p1), some (.int p2), some (.int p3), none] [] := by
  unfold m_L_openLoop
  refine w_aload_n (v := p1) C dL_openLoop_0 rfl (q := 1) rfl ?_
  refine w_iload_n (v := p2) C dL_openLoop_1 rfl (q := 2) rfl ?_
  refine w_iload_n (v := p3) C dL_openLoop_2 rfl (q := 3) rfl ?_
  refine w_callVC (val := fun _ => none) (st1 := fun _ => []) (As := [.int p2, .int p3]) (st := []) (q := 6) (hv := hv_openLoop) (ex := fun c I' => (c, I')) C hR (okA hc (by decide)) (okA hs (by decide)) (fun x h => c_X11_openLoop (zl Z) hst (zG Z) p2 p3 hp1 I h) hp1 mv_X11_openLoop lk_L_17 rfl (by decide) (fun _ => rfl) (Nat.le_of_ble_eq_true rfl) rfl rfl dL_openLoop_3 rfl ?_ (fun r1 I2 => ?_)
  · intro k9 c9 I9 h1 h2
    by_cases q0 : k9 = 0
    · subst q0
      have h3 : (some 1 : Option Int32) = some c9 := h1
      cases h3
      exact x_caught C (k := 0) (i := 3) (c := 1) (okA hc (by decide)) (okA hs (by decide)) [] ⟨0, 6, 9, 13⟩ [⟨0, 6, 12, 15⟩] (htab.trans rfl) (by decide) (by decide) cl_L_13 cs_0 (fun z hz => nomatch hz) (Nat.le_of_ble_eq_true rfl) (Or.inr ⟨3, rfl, dL_openLoop_9, rfl⟩) dL_openLoop_10 (by decide) rfl dL_openLoop_11 (hK _ h2)
    by_cases q1 : k9 = 1
    · subst q1
      have h3 : (some 2 : Option Int32) = some c9 := h1
      cases h3
      exact x_caught C (k := 1) (i := 3) (c := 2) (okA hc (by decide)) (okA hs (by decide)) [⟨0, 6, 9, 13⟩] ⟨0, 6, 12, 15⟩ [] (htab.trans rfl) (by decide) (by decide) cl_L_15 cs_1 (fun z hz => by rcases (by simpa using hz : z = (⟨0, 6, 9, 13⟩ : ExceptionTableEntry)) with rfl <;> exact Or.inr ⟨by decide, _, by first | exact C.ts _ cl_L_13, by first | exact hNC 1 0 (by decide) (by decide) (by decide)⟩) (Nat.le_of_ble_eq_true rfl) (Or.inr ⟨3, rfl, dL_openLoop_12, rfl⟩) dL_openLoop_13 (by decide) rfl dL_openLoop_14 (hK _ h2)
    exact absurd h1 (by simp [hv_openLoop, q0, q1])
  · exact WF.less (L' := [none, none, none, none]) (m_L_openLoop_j6_ok (C.bump (okA hc (by decide)) (okA hs (by decide))) hR   I2 hK) trivial
theorem c_L_openLoop (l : Launch) (hst : l.stackTraces = false) (G : Gx) {p1 : Nat} (p2 : Int32) (p3 : Int32) (hp1 : isO p1 11) (I : Mem) {x : Int32 × Mem} (h : m_L_openLoop p1 p2 p3 I = some x) : CtL l G yL_openLoop cL_openLoop 4 [(0, 6, 9, 13), (0, 6, 12, 15)] 7 112 1 6 [rf G p1, .int p2, .int p3] I x.1 x.2 := CtL.of (by decide +kernel) rfl (Nat.le_of_ble_eq_true rfl) (fun Z hG hl C hR hNC htab hc hs hret => by
  subst hG
  subst hl
  exact m_L_openLoop_ok (K := fun y => y = x) C hR p1 p2 p3 hp1 I hst hNC htab hc hs (fun y hy => by subst hy; exact hret) x h rfl)
def hv_closeLoop (k : Nat) : Option Int32 := if k = 1 then some 1 else none
def m_L_closeLoop_j6 (y0 : Nat) (y1 : Int32) (y2 : Int32) (I : Mem) : Option (Int32 × Mem) :=
  gd (inb y1 1) (bnd (ms I y0 y1.toNatClampNeg y2) fun I3 => some ((0, I3)))
set_option maxRecDepth 100000 in
set_option maxHeartbeats 4000000 in
theorem m_L_closeLoop_j6_ok {Z : Zx} {K : (Int32 × Mem) → Prop} (C : Cx Z cL_closeLoop 3 RL) (hR : RM Z 7 110) (y0 : Nat) (y1 : Int32) (y2 : Int32) (hy0 : isA y0 3 1) (I : Mem) (hK : ∀ y, K (y) → RetI Z cL_closeLoop .int y.1 y.2) : WF Z K (m_L_closeLoop_j6 y0 y1 y2 I) I 6 [none, none, none] [.int y2, .int y1, rf (zG Z) y0] := by
  unfold m_L_closeLoop_j6
  refine w_i2l C dL_closeLoop_6 (q := 7) rfl ?_
  refine w_last C hy0 dL_closeLoop_7 (q := 8) rfl (fun _ I3 => ?_)
  refine w_goto (tgt := 14) C dL_closeLoop_8 (by decide) ?_
  refine w_iconst (v := (0)) C dL_closeLoop_14 (by decide) (q := 15) rfl ?_
  exact w_iret C (hK _) rfl dL_closeLoop_15
def m_L_closeLoop (p1 : Nat) (p2 : Nat) (I : Mem) : Option (Int32 × Mem) :=
  obx (m_X11_closeLoop p1 I) (fun k I9 => (hv_closeLoop k).map (fun c => (c, I9))) (fun r1 I2 => m_L_closeLoop_j6 p2 ((0 : Int32)) r1 I2)
set_option maxRecDepth 100000 in
set_option maxHeartbeats 4000000 in
theorem m_L_closeLoop_ok {Z : Zx} {K : (Int32 × Mem) → Prop} (C : Cx Z cL_closeLoop 3 RL) (hR : RM Z 7 110) (p1 : Nat) (p2 : Nat) (hp1 : isO p1 11) (hp2 : isA p2 3 1) (I : Mem) (hst : (zl Z).stackTraces = false) (hNC : NCs (zs Z)) (htab : (zc Z).exceptionTable.toList = tableOf [(0, 8, 11, 15)]) (hc : Z.2.2.1 + 1 ≤ (zR Z).cells) (hs : Z.2.2.2.1 + 6 ≤ (zR Z).slots) (hK : ∀ y, K (y) → RetI Z cL_closeLoop .int y.1 y.2) : WF Z K (m_L_closeLoop p1 p2 I) I 0 [some (rf (zG Z) p1), some (rf (zG Z) p2), none] [] := by
  unfold m_L_closeLoop
  refine w_aload_n (v := p2) C dL_closeLoop_0 rfl (q := 1) rfl ?_
  refine w_iconst (v := (0)) C dL_closeLoop_1 (by decide) (q := 2) rfl ?_
  refine w_aload_n (v := p1) C dL_closeLoop_2 rfl (q := 3) rfl ?_
  refine w_callVC (val := fun v => some (.int v)) (st1 := fun r1 => [.int r1, .int 0, rf (zG Z) p2]) (As := []) (st := [.int 0, rf (zG Z) p2]) (q := 6) (hv := hv_closeLoop) (ex := fun c I' => (c, I')) C hR (okA hc (by decide)) (okA hs (by decide)) (fun x h => c_X11_closeLoop (zl Z) hst (zG Z)  hp1 I h) hp1 mv_X11_closeLoop lk_L_21 rfl (by decide) (fun _ => rfl) (Nat.le_of_ble_eq_true rfl) rfl rfl dL_closeLoop_3 rfl ?_ (fun r1 I2 => ?_)
  · intro k9 c9 I9 h1 h2
    by_cases q0 : k9 = 1
    · subst q0
      have h3 : (some 1 : Option Int32) = some c9 := h1
      cases h3
      exact x_caught C (k := 1) (i := 2) (c := 1) (okA hc (by decide)) (okA hs (by decide)) [] ⟨0, 8, 11, 15⟩ [] (htab.trans rfl) (by decide) (by decide) cl_L_15 cs_1 (fun z hz => nomatch hz) (Nat.le_of_ble_eq_true rfl) (Or.inr ⟨2, rfl, dL_closeLoop_11, rfl⟩) dL_closeLoop_12 (by decide) rfl dL_closeLoop_13 (hK _ h2)
    exact absurd h1 (by simp [hv_closeLoop, q0])
  · exact WF.less (L' := [none, none, none]) (m_L_closeLoop_j6_ok (C.bump (okA hc (by decide)) (okA hs (by decide))) hR p2 ((0 : Int32)) r1 hp2 I2 hK) trivial
theorem c_L_closeLoop (l : Launch) (hst : l.stackTraces = false) (G : Gx) {p1 : Nat} {p2 : Nat} (hp1 : isO p1 11) (hp2 : isA p2 3 1) (I : Mem) {x : Int32 × Mem} (h : m_L_closeLoop p1 p2 I = some x) : CtL l G yL_closeLoop cL_closeLoop 3 [(0, 8, 11, 15)] 7 110 1 6 [rf G p1, rf G p2] I x.1 x.2 := CtL.of (by decide +kernel) rfl (Nat.le_of_ble_eq_true rfl) (fun Z hG hl C hR hNC htab hc hs hret => by
  subst hG
  subst hl
  exact m_L_closeLoop_ok (K := fun y => y = x) C hR p1 p2 hp1 hp2 I hst hNC htab hc hs (fun y hy => by subst hy; exact hret) x h rfl)
def hv_feed (k : Nat) : Option Int32 := if k = 0 then some 1 else if k = 1 then some 2 else none
def m_L_feed_j7 (y0 : Nat) (y1 : Int32) (y2 : Int32) (I : Mem) : Option (Int32 × Mem) :=
  gd (inb y1 1) (bnd (ms I y0 y1.toNatClampNeg y2) fun I3 => some ((0, I3)))
set_option maxRecDepth 100000 in
set_option maxHeartbeats 4000000 in
theorem m_L_feed_j7_ok {Z : Zx} {K : (Int32 × Mem) → Prop} (C : Cx Z cL_feed 4 RL) (hR : RM Z 7 111) (y0 : Nat) (y1 : Int32) (y2 : Int32) (hy0 : isA y0 3 1) (I : Mem) (hK : ∀ y, K (y) → RetI Z cL_feed .int y.1 y.2) : WF Z K (m_L_feed_j7 y0 y1 y2 I) I 7 [none, none, none, none] [.int y2, .int y1, rf (zG Z) y0] := by
  unfold m_L_feed_j7
  refine w_i2l C dL_feed_7 (q := 8) rfl ?_
  refine w_last C hy0 dL_feed_8 (q := 9) rfl (fun _ I3 => ?_)
  refine w_goto (tgt := 18) C dL_feed_9 (by decide) ?_
  refine w_iconst (v := (0)) C dL_feed_18 (by decide) (q := 19) rfl ?_
  exact w_iret C (hK _) rfl dL_feed_19
def m_L_feed (p1 : Nat) (p2 : Int32) (p3 : Nat) (I : Mem) : Option (Int32 × Mem) :=
  obx (m_X11_feed p1 p2 I) (fun k I9 => (hv_feed k).map (fun c => (c, I9))) (fun r1 I2 => m_L_feed_j7 p3 ((0 : Int32)) r1 I2)
set_option maxRecDepth 100000 in
set_option maxHeartbeats 4000000 in
theorem m_L_feed_ok {Z : Zx} {K : (Int32 × Mem) → Prop} (C : Cx Z cL_feed 4 RL) (hR : RM Z 7 111) (p1 : Nat) (p2 : Int32) (p3 : Nat) (hp1 : isO p1 11) (hp3 : isA p3 3 1) (I : Mem) (hst : (zl Z).stackTraces = false) (hNC : NCs (zs Z)) (htab : (zc Z).exceptionTable.toList = tableOf [(0, 9, 12, 13), (0, 9, 15, 15)]) (hc : Z.2.2.1 + 1 ≤ (zR Z).cells) (hs : Z.2.2.2.1 + 6 ≤ (zR Z).slots) (hK : ∀ y, K (y) → RetI Z cL_feed .int y.1 y.2) : WF Z K (m_L_feed p1 p2 p3 I) I 0 [some (rf (zG Z) p1), some (.int p2), some (rf (zG Z) p3), none] [] := by
  unfold m_L_feed
  refine w_aload_n (v := p3) C dL_feed_0 rfl (q := 1) rfl ?_
  refine w_iconst (v := (0)) C dL_feed_1 (by decide) (q := 2) rfl ?_
  refine w_aload_n (v := p1) C dL_feed_2 rfl (q := 3) rfl ?_
  refine w_iload_n (v := p2) C dL_feed_3 rfl (q := 4) rfl ?_
  refine w_callVC (val := fun v => some (.int v)) (st1 := fun r1 => [.int r1, .int 0, rf (zG Z) p3]) (As := [.int p2]) (st := [.int 0, rf (zG Z) p3]) (q := 7) (hv := hv_feed) (ex := fun c I' => (c, I')) C hR (okA hc (by decide)) (okA hs (by decide)) (fun x h => c_X11_feed (zl Z) hst (zG Z) p2 hp1 I h) hp1 mv_X11_feed lk_L_25 rfl (by decide) (fun _ => rfl) (Nat.le_of_ble_eq_true rfl) rfl rfl dL_feed_4 rfl ?_ (fun r1 I2 => ?_)
  · intro k9 c9 I9 h1 h2
    by_cases q0 : k9 = 0
    · subst q0
      have h3 : (some 1 : Option Int32) = some c9 := h1
      cases h3
      exact x_caught C (k := 0) (i := 3) (c := 1) (okA hc (by decide)) (okA hs (by decide)) [] ⟨0, 9, 12, 13⟩ [⟨0, 9, 15, 15⟩] (htab.trans rfl) (by decide) (by decide) cl_L_13 cs_0 (fun z hz => nomatch hz) (Nat.le_of_ble_eq_true rfl) (Or.inr ⟨3, rfl, dL_feed_12, rfl⟩) dL_feed_13 (by decide) rfl dL_feed_14 (hK _ h2)
    by_cases q1 : k9 = 1
    · subst q1
      have h3 : (some 2 : Option Int32) = some c9 := h1
      cases h3
      exact x_caught C (k := 1) (i := 3) (c := 2) (okA hc (by decide)) (okA hs (by decide)) [⟨0, 9, 12, 13⟩] ⟨0, 9, 15, 15⟩ [] (htab.trans rfl) (by decide) (by decide) cl_L_15 cs_1 (fun z hz => by rcases (by simpa using hz : z = (⟨0, 9, 12, 13⟩ : ExceptionTableEntry)) with rfl <;> exact Or.inr ⟨by decide, _, by first | exact C.ts _ cl_L_13, by first | exact hNC 1 0 (by decide) (by decide) (by decide)⟩) (Nat.le_of_ble_eq_true rfl) (Or.inr ⟨3, rfl, dL_feed_15, rfl⟩) dL_feed_16 (by decide) rfl dL_feed_17 (hK _ h2)
    exact absurd h1 (by simp [hv_feed, q0, q1])
  · exact WF.less (L' := [none, none, none, none]) (m_L_feed_j7_ok (C.bump (okA hc (by decide)) (okA hs (by decide))) hR p3 ((0 : Int32)) r1 hp3 I2 hK) trivial
theorem c_L_feed (l : Launch) (hst : l.stackTraces = false) (G : Gx) {p1 : Nat} (p2 : Int32) {p3 : Nat} (hp1 : isO p1 11) (hp3 : isA p3 3 1) (I : Mem) {x : Int32 × Mem} (h : m_L_feed p1 p2 p3 I = some x) : CtL l G yL_feed cL_feed 4 [(0, 9, 12, 13), (0, 9, 15, 15)] 7 111 1 6 [rf G p1, .int p2, rf G p3] I x.1 x.2 := CtL.of (by decide +kernel) rfl (Nat.le_of_ble_eq_true rfl) (fun Z hG hl C hR hNC htab hc hs hret => by
  subst hG
  subst hl
  exact m_L_feed_ok (K := fun y => y = x) C hR p1 p2 p3 hp1 hp3 I hst hNC htab hc hs (fun y hy => by subst hy; exact hret) x h rfl)
def hv_read (k : Nat) : Option Int32 := if k = 1 then some 1 else none
def m_L_read_j6 (y0 : Nat) (y1 : Int32) (y2 : Int32) (I : Mem) : Option (Int32 × Mem) :=
  gd (inb y1 1) (bnd (ms I y0 y1.toNatClampNeg y2) fun I3 => some ((0, I3)))
set_option maxRecDepth 100000 in
set_option maxHeartbeats 4000000 in
theorem m_L_read_j6_ok {Z : Zx} {K : (Int32 × Mem) → Prop} (C : Cx Z cL_read 3 RL) (hR : RM Z 7 169) (y0 : Nat) (y1 : Int32) (y2 : Int32) (hy0 : isA y0 3 1) (I : Mem) (hK : ∀ y, K (y) → RetI Z cL_read .int y.1 y.2) : WF Z K (m_L_read_j6 y0 y1 y2 I) I 6 [none, none, none] [.int y2, .int y1, rf (zG Z) y0] := by
  unfold m_L_read_j6
  refine w_i2l C dL_read_6 (q := 7) rfl ?_
  refine w_last C hy0 dL_read_7 (q := 8) rfl (fun _ I3 => ?_)
  refine w_goto (tgt := 14) C dL_read_8 (by decide) ?_
  refine w_iconst (v := (0)) C dL_read_14 (by decide) (q := 15) rfl ?_
  exact w_iret C (hK _) rfl dL_read_15
def m_L_read (p1 : Nat) (p2 : Nat) (I : Mem) : Option (Int32 × Mem) :=
  obx (m_X11_read p1 I) (fun k I9 => (hv_read k).map (fun c => (c, I9))) (fun r1 I2 => m_L_read_j6 p2 ((0 : Int32)) r1 I2)
set_option maxRecDepth 100000 in
set_option maxHeartbeats 4000000 in
theorem m_L_read_ok {Z : Zx} {K : (Int32 × Mem) → Prop} (C : Cx Z cL_read 3 RL) (hR : RM Z 7 169) (p1 : Nat) (p2 : Nat) (hp1 : isO p1 11) (hp2 : isA p2 3 1) (I : Mem) (hst : (zl Z).stackTraces = false) (hNC : NCs (zs Z)) (htab : (zc Z).exceptionTable.toList = tableOf [(0, 8, 11, 15)]) (hc : Z.2.2.1 + 1 ≤ (zR Z).cells) (hs : Z.2.2.2.1 + 6 ≤ (zR Z).slots) (hK : ∀ y, K (y) → RetI Z cL_read .int y.1 y.2) : WF Z K (m_L_read p1 p2 I) I 0 [some (rf (zG Z) p1), some (rf (zG Z) p2), none] [] := by
  unfold m_L_read
  refine w_aload_n (v := p2) C dL_read_0 rfl (q := 1) rfl ?_
  refine w_iconst (v := (0)) C dL_read_1 (by decide) (q := 2) rfl ?_
  refine w_aload_n (v := p1) C dL_read_2 rfl (q := 3) rfl ?_
  refine w_callVC (val := fun v => some (.int v)) (st1 := fun r1 => [.int r1, .int 0, rf (zG Z) p2]) (As := []) (st := [.int 0, rf (zG Z) p2]) (q := 6) (hv := hv_read) (ex := fun c I' => (c, I')) C hR (okA hc (by decide)) (okA hs (by decide)) (fun x h => c_X11_read (zl Z) hst (zG Z)  hp1 I h) hp1 mv_X11_read lk_L_29 rfl (by decide) (fun _ => rfl) (Nat.le_of_ble_eq_true rfl) rfl rfl dL_read_3 rfl ?_ (fun r1 I2 => ?_)
  · intro k9 c9 I9 h1 h2
    by_cases q0 : k9 = 1
    · subst q0
      have h3 : (some 1 : Option Int32) = some c9 := h1
      cases h3
      exact x_caught C (k := 1) (i := 2) (c := 1) (okA hc (by decide)) (okA hs (by decide)) [] ⟨0, 8, 11, 15⟩ [] (htab.trans rfl) (by decide) (by decide) cl_L_15 cs_1 (fun z hz => nomatch hz) (Nat.le_of_ble_eq_true rfl) (Or.inr ⟨2, rfl, dL_read_11, rfl⟩) dL_read_12 (by decide) rfl dL_read_13 (hK _ h2)
    exact absurd h1 (by simp [hv_read, q0])
  · exact WF.less (L' := [none, none, none]) (m_L_read_j6_ok (C.bump (okA hc (by decide)) (okA hs (by decide))) hR p2 ((0 : Int32)) r1 hp2 I2 hK) trivial
theorem c_L_read (l : Launch) (hst : l.stackTraces = false) (G : Gx) {p1 : Nat} {p2 : Nat} (hp1 : isO p1 11) (hp2 : isA p2 3 1) (I : Mem) {x : Int32 × Mem} (h : m_L_read p1 p2 I = some x) : CtL l G yL_read cL_read 3 [(0, 8, 11, 15)] 7 169 1 6 [rf G p1, rf G p2] I x.1 x.2 := CtL.of (by decide +kernel) rfl (Nat.le_of_ble_eq_true rfl) (fun Z hG hl C hR hNC htab hc hs hret => by
  subst hG
  subst hl
  exact m_L_read_ok (K := fun y => y = x) C hR p1 p2 hp1 hp2 I hst hNC htab hc hs (fun y hy => by subst hy; exact hret) x h rfl)
def hv_faultKind (k : Nat) : Option Int32 := if k = 2 then some 1 else none
def m_L_faultKind_j7 (y0 : Nat) (y1 : Int32) (y2 : Int32) (I : Mem) : Option (Int32 × Mem) :=
  gd (inb y1 1) (bnd (ms I y0 y1.toNatClampNeg y2) fun I3 => some ((0, I3)))
set_option maxRecDepth 100000 in
set_option maxHeartbeats 4000000 in
theorem m_L_faultKind_j7_ok {Z : Zx} {K : (Int32 × Mem) → Prop} (C : Cx Z cL_faultKind 4 RL) (hR : RM Z 8 132) (y0 : Nat) (y1 : Int32) (y2 : Int32) (hy0 : isA y0 3 1) (I : Mem) (hK : ∀ y, K (y) → RetI Z cL_faultKind .int y.1 y.2) : WF Z K (m_L_faultKind_j7 y0 y1 y2 I) I 7 [none, none, none, none] [.int y2, .int y1, rf (zG Z) y0] := by
  unfold m_L_faultKind_j7
  refine w_i2l C dL_faultKind_7 (q := 8) rfl ?_
  refine w_last C hy0 dL_faultKind_8 (q := 9) rfl (fun _ I3 => ?_)
  refine w_goto (tgt := 15) C dL_faultKind_9 (by decide) ?_
  refine w_iconst (v := (0)) C dL_faultKind_15 (by decide) (q := 16) rfl ?_
  exact w_iret C (hK _) rfl dL_faultKind_16
def m_L_faultKind (p1 : Nat) (p2 : Int32) (p3 : Nat) (I : Mem) : Option (Int32 × Mem) :=
  obx (m_X11_faultKind p1 p2 I) (fun k I9 => (hv_faultKind k).map (fun c => (c, I9))) (fun r1 I2 => m_L_faultKind_j7 p3 ((0 : Int32)) r1 I2)
set_option maxRecDepth 100000 in
set_option maxHeartbeats 4000000 in
theorem m_L_faultKind_ok {Z : Zx} {K : (Int32 × Mem) → Prop} (C : Cx Z cL_faultKind 4 RL) (hR : RM Z 8 132) (p1 : Nat) (p2 : Int32) (p3 : Nat) (hp1 : isO p1 11) (hp3 : isA p3 3 1) (I : Mem) (hst : (zl Z).stackTraces = false) (hNC : NCs (zs Z)) (htab : (zc Z).exceptionTable.toList = tableOf [(0, 9, 12, 36)]) (hc : Z.2.2.1 + 1 ≤ (zR Z).cells) (hs : Z.2.2.2.1 + 6 ≤ (zR Z).slots) (hK : ∀ y, K (y) → RetI Z cL_faultKind .int y.1 y.2) : WF Z K (m_L_faultKind p1 p2 p3 I) I 0 [some (rf (zG Z) p1), some (.int p2), some (rf (zG Z) p3), none] [] := by
  unfold m_L_faultKind
  refine w_aload_n (v := p3) C dL_faultKind_0 rfl (q := 1) rfl ?_
  refine w_iconst (v := (0)) C dL_faultKind_1 (by decide) (q := 2) rfl ?_
  refine w_aload_n (v := p1) C dL_faultKind_2 rfl (q := 3) rfl ?_
  refine w_iload_n (v := p2) C dL_faultKind_3 rfl (q := 4) rfl ?_
  refine w_callVC (val := fun v => some (.int v)) (st1 := fun r1 => [.int r1, .int 0, rf (zG Z) p3]) (As := [.int p2]) (st := [.int 0, rf (zG Z) p3]) (q := 7) (hv := hv_faultKind) (ex := fun c I' => (c, I')) C hR (okA hc (by decide)) (okA hs (by decide)) (fun x h => c_X11_faultKind (zl Z) hst (zG Z) p2 hp1 I h) hp1 mv_X11_faultKind lk_L_32 rfl (by decide) (fun _ => rfl) (Nat.le_of_ble_eq_true rfl) rfl rfl dL_faultKind_4 rfl ?_ (fun r1 I2 => ?_)
  · intro k9 c9 I9 h1 h2
    by_cases q0 : k9 = 2
    · subst q0
      have h3 : (some 1 : Option Int32) = some c9 := h1
      cases h3
      exact x_caught C (k := 2) (i := 3) (c := 1) (okA hc (by decide)) (okA hs (by decide)) [] ⟨0, 9, 12, 36⟩ [] (htab.trans rfl) (by decide) (by decide) cl_L_36 cs_2 (fun z hz => nomatch hz) (Nat.le_of_ble_eq_true rfl) (Or.inr ⟨3, rfl, dL_faultKind_12, rfl⟩) dL_faultKind_13 (by decide) rfl dL_faultKind_14 (hK _ h2)
    exact absurd h1 (by simp [hv_faultKind, q0])
  · exact WF.less (L' := [none, none, none, none]) (m_L_faultKind_j7_ok (C.bump (okA hc (by decide)) (okA hs (by decide))) hR p3 ((0 : Int32)) r1 hp3 I2 hK) trivial
theorem c_L_faultKind (l : Launch) (hst : l.stackTraces = false) (G : Gx) {p1 : Nat} (p2 : Int32) {p3 : Nat} (hp1 : isO p1 11) (hp3 : isA p3 3 1) (I : Mem) {x : Int32 × Mem} (h : m_L_faultKind p1 p2 p3 I = some x) : CtL l G yL_faultKind cL_faultKind 4 [(0, 9, 12, 36)] 8 132 1 6 [rf G p1, .int p2, rf G p3] I x.1 x.2 := CtL.of (by decide +kernel) rfl (Nat.le_of_ble_eq_true rfl) (fun Z hG hl C hR hNC htab hc hs hret => by
  subst hG
  subst hl
  exact m_L_faultKind_ok (K := fun y => y = x) C hR p1 p2 p3 hp1 hp3 I hst hNC htab hc hs (fun y hy => by subst hy; exact hret) x h rfl)
def hv_faultPlace (k : Nat) : Option Int32 := if k = 2 then some 1 else none
def m_L_faultPlace_j7 (y0 : Nat) (y1 : Int32) (y2 : Int32) (I : Mem) : Option (Int32 × Mem) :=
  gd (inb y1 1) (bnd (ms I y0 y1.toNatClampNeg y2) fun I3 => some ((0, I3)))
set_option maxRecDepth 100000 in
set_option maxHeartbeats 4000000 in
theorem m_L_faultPlace_j7_ok {Z : Zx} {K : (Int32 × Mem) → Prop} (C : Cx Z cL_faultPlace 4 RL) (hR : RM Z 8 132) (y0 : Nat) (y1 : Int32) (y2 : Int32) (hy0 : isA y0 3 1) (I : Mem) (hK : ∀ y, K (y) → RetI Z cL_faultPlace .int y.1 y.2) : WF Z K (m_L_faultPlace_j7 y0 y1 y2 I) I 7 [none, none, none, none] [.int y2, .int y1, rf (zG Z) y0] := by
  unfold m_L_faultPlace_j7
  refine w_i2l C dL_faultPlace_7 (q := 8) rfl ?_
  refine w_last C hy0 dL_faultPlace_8 (q := 9) rfl (fun _ I3 => ?_)
  refine w_goto (tgt := 15) C dL_faultPlace_9 (by decide) ?_
  refine w_iconst (v := (0)) C dL_faultPlace_15 (by decide) (q := 16) rfl ?_
  exact w_iret C (hK _) rfl dL_faultPlace_16
def m_L_faultPlace (p1 : Nat) (p2 : Int32) (p3 : Nat) (I : Mem) : Option (Int32 × Mem) :=
  obx (m_X11_faultPlace p1 p2 I) (fun k I9 => (hv_faultPlace k).map (fun c => (c, I9))) (fun r1 I2 => m_L_faultPlace_j7 p3 ((0 : Int32)) r1 I2)
set_option maxRecDepth 100000 in
set_option maxHeartbeats 4000000 in
theorem m_L_faultPlace_ok {Z : Zx} {K : (Int32 × Mem) → Prop} (C : Cx Z cL_faultPlace 4 RL) (hR : RM Z 8 132) (p1 : Nat) (p2 : Int32) (p3 : Nat) (hp1 : isO p1 11) (hp3 : isA p3 3 1) (I : Mem) (hst : (zl Z).stackTraces = false) (hNC : NCs (zs Z)) (htab : (zc Z).exceptionTable.toList = tableOf [(0, 9, 12, 36)]) (hc : Z.2.2.1 + 1 ≤ (zR Z).cells) (hs : Z.2.2.2.1 + 6 ≤ (zR Z).slots) (hK : ∀ y, K (y) → RetI Z cL_faultPlace .int y.1 y.2) : WF Z K (m_L_faultPlace p1 p2 p3 I) I 0 [some (rf (zG Z) p1), some (.int p2), some (rf (zG Z) p3), none] [] := by
  unfold m_L_faultPlace
  refine w_aload_n (v := p3) C dL_faultPlace_0 rfl (q := 1) rfl ?_
  refine w_iconst (v := (0)) C dL_faultPlace_1 (by decide) (q := 2) rfl ?_
  refine w_aload_n (v := p1) C dL_faultPlace_2 rfl (q := 3) rfl ?_
  refine w_iload_n (v := p2) C dL_faultPlace_3 rfl (q := 4) rfl ?_
  refine w_callVC (val := fun v => some (.int v)) (st1 := fun r1 => [.int r1, .int 0, rf (zG Z) p3]) (As := [.int p2]) (st := [.int 0, rf (zG Z) p3]) (q := 7) (hv := hv_faultPlace) (ex := fun c I' => (c, I')) C hR (okA hc (by decide)) (okA hs (by decide)) (fun x h => c_X11_faultPlace (zl Z) hst (zG Z) p2 hp1 I h) hp1 mv_X11_faultPlace lk_L_38 rfl (by decide) (fun _ => rfl) (Nat.le_of_ble_eq_true rfl) rfl rfl dL_faultPlace_4 rfl ?_ (fun r1 I2 => ?_)
  · intro k9 c9 I9 h1 h2
    by_cases q0 : k9 = 2
    · subst q0
      have h3 : (some 1 : Option Int32) = some c9 := h1
      cases h3
      exact x_caught C (k := 2) (i := 3) (c := 1) (okA hc (by decide)) (okA hs (by decide)) [] ⟨0, 9, 12, 36⟩ [] (htab.trans rfl) (by decide) (by decide) cl_L_36 cs_2 (fun z hz => nomatch hz) (Nat.le_of_ble_eq_true rfl) (Or.inr ⟨3, rfl, dL_faultPlace_12, rfl⟩) dL_faultPlace_13 (by decide) rfl dL_faultPlace_14 (hK _ h2)
    exact absurd h1 (by simp [hv_faultPlace, q0])
  · exact WF.less (L' := [none, none, none, none]) (m_L_faultPlace_j7_ok (C.bump (okA hc (by decide)) (okA hs (by decide))) hR p3 ((0 : Int32)) r1 hp3 I2 hK) trivial
theorem c_L_faultPlace (l : Launch) (hst : l.stackTraces = false) (G : Gx) {p1 : Nat} (p2 : Int32) {p3 : Nat} (hp1 : isO p1 11) (hp3 : isA p3 3 1) (I : Mem) {x : Int32 × Mem} (h : m_L_faultPlace p1 p2 p3 I = some x) : CtL l G yL_faultPlace cL_faultPlace 4 [(0, 9, 12, 36)] 8 132 1 6 [rf G p1, .int p2, rf G p3] I x.1 x.2 := CtL.of (by decide +kernel) rfl (Nat.le_of_ble_eq_true rfl) (fun Z hG hl C hR hNC htab hc hs hret => by
  subst hG
  subst hl
  exact m_L_faultPlace_ok (K := fun y => y = x) C hR p1 p2 p3 hp1 hp3 I hst hNC htab hc hs (fun y hy => by subst hy; exact hret) x h rfl)
def hv_control (k : Nat) : Option Int32 := if k = 3 then some 1 else none
def m_L_control_j6 (y0 : Nat) (y1 : Int32) (y2 : Int32) (I : Mem) : Option (Int32 × Mem) :=
  gd (inb y1 1) (bnd (ms I y0 y1.toNatClampNeg y2) fun I3 => some ((0, I3)))
set_option maxRecDepth 100000 in
set_option maxHeartbeats 4000000 in
theorem m_L_control_j6_ok {Z : Zx} {K : (Int32 × Mem) → Prop} (C : Cx Z cL_control 3 RL) (hR : RM Z 7 110) (y0 : Nat) (y1 : Int32) (y2 : Int32) (hy0 : isA y0 3 1) (I : Mem) (hK : ∀ y, K (y) → RetI Z cL_control .int y.1 y.2) : WF Z K (m_L_control_j6 y0 y1 y2 I) I 6 [none, none, none] [.int y2, .int y1, rf (zG Z) y0] := by
  unfold m_L_control_j6
  refine w_i2l C dL_control_6 (q := 7) rfl ?_
  refine w_last C hy0 dL_control_7 (q := 8) rfl (fun _ I3 => ?_)
  refine w_goto (tgt := 14) C dL_control_8 (by decide) ?_
  refine w_iconst (v := (0)) C dL_control_14 (by decide) (q := 15) rfl ?_
  exact w_iret C (hK _) rfl dL_control_15
def m_L_control (p1 : Nat) (p2 : Nat) (I : Mem) : Option (Int32 × Mem) :=
  obx (m_X11_control p1 I) (fun k I9 => (hv_control k).map (fun c => (c, I9))) (fun r1 I2 => m_L_control_j6 p2 ((0 : Int32)) r1 I2)
set_option maxRecDepth 100000 in
set_option maxHeartbeats 4000000 in
theorem m_L_control_ok {Z : Zx} {K : (Int32 × Mem) → Prop} (C : Cx Z cL_control 3 RL) (hR : RM Z 7 110) (p1 : Nat) (p2 : Nat) (hp1 : isO p1 11) (hp2 : isA p2 3 1) (I : Mem) (hst : (zl Z).stackTraces = false) (hNC : NCs (zs Z)) (htab : (zc Z).exceptionTable.toList = tableOf [(0, 8, 11, 44)]) (hc : Z.2.2.1 + 1 ≤ (zR Z).cells) (hs : Z.2.2.2.1 + 6 ≤ (zR Z).slots) (hK : ∀ y, K (y) → RetI Z cL_control .int y.1 y.2) : WF Z K (m_L_control p1 p2 I) I 0 [some (rf (zG Z) p1), some (rf (zG Z) p2), none] [] := by
  unfold m_L_control
  refine w_aload_n (v := p2) C dL_control_0 rfl (q := 1) rfl ?_
  refine w_iconst (v := (0)) C dL_control_1 (by decide) (q := 2) rfl ?_
  refine w_aload_n (v := p1) C dL_control_2 rfl (q := 3) rfl ?_
  refine w_callVC (val := fun v => some (.int v)) (st1 := fun r1 => [.int r1, .int 0, rf (zG Z) p2]) (As := []) (st := [.int 0, rf (zG Z) p2]) (q := 6) (hv := hv_control) (ex := fun c I' => (c, I')) C hR (okA hc (by decide)) (okA hs (by decide)) (fun x h => c_X11_control (zl Z) hst (zG Z)  hp1 I h) hp1 mv_X11_control lk_L_41 rfl (by decide) (fun _ => rfl) (Nat.le_of_ble_eq_true rfl) rfl rfl dL_control_3 rfl ?_ (fun r1 I2 => ?_)
  · intro k9 c9 I9 h1 h2
    by_cases q0 : k9 = 3
    · subst q0
      have h3 : (some 1 : Option Int32) = some c9 := h1
      cases h3
      exact x_caught C (k := 3) (i := 2) (c := 1) (okA hc (by decide)) (okA hs (by decide)) [] ⟨0, 8, 11, 44⟩ [] (htab.trans rfl) (by decide) (by decide) cl_L_44 cs_3 (fun z hz => nomatch hz) (Nat.le_of_ble_eq_true rfl) (Or.inr ⟨2, rfl, dL_control_11, rfl⟩) dL_control_12 (by decide) rfl dL_control_13 (hK _ h2)
    exact absurd h1 (by simp [hv_control, q0])
  · exact WF.less (L' := [none, none, none]) (m_L_control_j6_ok (C.bump (okA hc (by decide)) (okA hs (by decide))) hR p2 ((0 : Int32)) r1 hp2 I2 hK) trivial
theorem c_L_control (l : Launch) (hst : l.stackTraces = false) (G : Gx) {p1 : Nat} {p2 : Nat} (hp1 : isO p1 11) (hp2 : isA p2 3 1) (I : Mem) {x : Int32 × Mem} (h : m_L_control p1 p2 I = some x) : CtL l G yL_control cL_control 3 [(0, 8, 11, 44)] 7 110 1 6 [rf G p1, rf G p2] I x.1 x.2 := CtL.of (by decide +kernel) rfl (Nat.le_of_ble_eq_true rfl) (fun Z hG hl C hR hNC htab hc hs hret => by
  subst hG
  subst hl
  exact m_L_control_ok (K := fun y => y = x) C hR p1 p2 hp1 hp2 I hst hNC htab hc hs (fun y hy => by subst hy; exact hret) x h rfl)
def hv_segments (k : Nat) : Option Int32 := if k = 1 then some 1 else none
def m_L_segments_j6 (y0 : Nat) (y1 : Int32) (y2 : Int32) (I : Mem) : Option (Int32 × Mem) :=
  gd (inb y1 1) (bnd (ms I y0 y1.toNatClampNeg y2) fun I3 => some ((0, I3)))
set_option maxRecDepth 100000 in
set_option maxHeartbeats 4000000 in
theorem m_L_segments_j6_ok {Z : Zx} {K : (Int32 × Mem) → Prop} (C : Cx Z cL_segments 3 RL) (hR : RM Z 8 130) (y0 : Nat) (y1 : Int32) (y2 : Int32) (hy0 : isA y0 3 1) (I : Mem) (hK : ∀ y, K (y) → RetI Z cL_segments .int y.1 y.2) : WF Z K (m_L_segments_j6 y0 y1 y2 I) I 6 [none, none, none] [.int y2, .int y1, rf (zG Z) y0] := by
  unfold m_L_segments_j6
  refine w_i2l C dL_segments_6 (q := 7) rfl ?_
  refine w_last C hy0 dL_segments_7 (q := 8) rfl (fun _ I3 => ?_)
  refine w_goto (tgt := 14) C dL_segments_8 (by decide) ?_
  refine w_iconst (v := (0)) C dL_segments_14 (by decide) (q := 15) rfl ?_
  exact w_iret C (hK _) rfl dL_segments_15
def m_L_segments (p1 : Nat) (p2 : Nat) (I : Mem) : Option (Int32 × Mem) :=
  obx (m_X11_segments p1 I) (fun k I9 => (hv_segments k).map (fun c => (c, I9))) (fun r1 I2 => m_L_segments_j6 p2 ((0 : Int32)) r1 I2)
set_option maxRecDepth 100000 in
set_option maxHeartbeats 4000000 in
theorem m_L_segments_ok {Z : Zx} {K : (Int32 × Mem) → Prop} (C : Cx Z cL_segments 3 RL) (hR : RM Z 8 130) (p1 : Nat) (p2 : Nat) (hp1 : isO p1 11) (hp2 : isA p2 3 1) (I : Mem) (hst : (zl Z).stackTraces = false) (hNC : NCs (zs Z)) (htab : (zc Z).exceptionTable.toList = tableOf [(0, 8, 11, 15)]) (hc : Z.2.2.1 + 1 ≤ (zR Z).cells) (hs : Z.2.2.2.1 + 6 ≤ (zR Z).slots) (hK : ∀ y, K (y) → RetI Z cL_segments .int y.1 y.2) : WF Z K (m_L_segments p1 p2 I) I 0 [some (rf (zG Z) p1), some (rf (zG Z) p2), none] [] := by
  unfold m_L_segments
  refine w_aload_n (v := p2) C dL_segments_0 rfl (q := 1) rfl ?_
  refine w_iconst (v := (0)) C dL_segments_1 (by decide) (q := 2) rfl ?_
  refine w_aload_n (v := p1) C dL_segments_2 rfl (q := 3) rfl ?_
  refine w_callVC (val := fun v => some (.int v)) (st1 := fun r1 => [.int r1, .int 0, rf (zG Z) p2]) (As := []) (st := [.int 0, rf (zG Z) p2]) (q := 6) (hv := hv_segments) (ex := fun c I' => (c, I')) C hR (okA hc (by decide)) (okA hs (by decide)) (fun x h => c_X11_segments (zl Z) hst (zG Z)  hp1 I h) hp1 mv_X11_segments lk_L_46 rfl (by decide) (fun _ => rfl) (Nat.le_of_ble_eq_true rfl) rfl rfl dL_segments_3 rfl ?_ (fun r1 I2 => ?_)
  · intro k9 c9 I9 h1 h2
    by_cases q0 : k9 = 1
    · subst q0
      have h3 : (some 1 : Option Int32) = some c9 := h1
      cases h3
      exact x_caught C (k := 1) (i := 2) (c := 1) (okA hc (by decide)) (okA hs (by decide)) [] ⟨0, 8, 11, 15⟩ [] (htab.trans rfl) (by decide) (by decide) cl_L_15 cs_1 (fun z hz => nomatch hz) (Nat.le_of_ble_eq_true rfl) (Or.inr ⟨2, rfl, dL_segments_11, rfl⟩) dL_segments_12 (by decide) rfl dL_segments_13 (hK _ h2)
    exact absurd h1 (by simp [hv_segments, q0])
  · exact WF.less (L' := [none, none, none]) (m_L_segments_j6_ok (C.bump (okA hc (by decide)) (okA hs (by decide))) hR p2 ((0 : Int32)) r1 hp2 I2 hK) trivial
theorem c_L_segments (l : Launch) (hst : l.stackTraces = false) (G : Gx) {p1 : Nat} {p2 : Nat} (hp1 : isO p1 11) (hp2 : isA p2 3 1) (I : Mem) {x : Int32 × Mem} (h : m_L_segments p1 p2 I = some x) : CtL l G yL_segments cL_segments 3 [(0, 8, 11, 15)] 8 130 1 6 [rf G p1, rf G p2] I x.1 x.2 := CtL.of (by decide +kernel) rfl (Nat.le_of_ble_eq_true rfl) (fun Z hG hl C hR hNC htab hc hs hret => by
  subst hG
  subst hl
  exact m_L_segments_ok (K := fun y => y = x) C hR p1 p2 hp1 hp2 I hst hNC htab hc hs (fun y hy => by subst hy; exact hret) x h rfl)
def hv_tag (k : Nat) : Option Int32 := if k = 1 then some 1 else if k = 2 then some 2 else none
def m_L_tag_j7 (y0 : Nat) (y1 : Int32) (y2 : Int32) (I : Mem) : Option (Int32 × Mem) :=
  gd (inb y1 1) (bnd (ms I y0 y1.toNatClampNeg y2) fun I3 => some ((0, I3)))
set_option maxRecDepth 100000 in
set_option maxHeartbeats 4000000 in
theorem m_L_tag_j7_ok {Z : Zx} {K : (Int32 × Mem) → Prop} (C : Cx Z cL_tag 4 RL) (hR : RM Z 9 152) (y0 : Nat) (y1 : Int32) (y2 : Int32) (hy0 : isA y0 3 1) (I : Mem) (hK : ∀ y, K (y) → RetI Z cL_tag .int y.1 y.2) : WF Z K (m_L_tag_j7 y0 y1 y2 I) I 7 [none, none, none, none] [.int y2, .int y1, rf (zG Z) y0] := by
  unfold m_L_tag_j7
  refine w_i2l C dL_tag_7 (q := 8) rfl ?_
  refine w_last C hy0 dL_tag_8 (q := 9) rfl (fun _ I3 => ?_)
  refine w_goto (tgt := 18) C dL_tag_9 (by decide) ?_
  refine w_iconst (v := (0)) C dL_tag_18 (by decide) (q := 19) rfl ?_
  exact w_iret C (hK _) rfl dL_tag_19
def m_L_tag (p1 : Nat) (p2 : Int32) (p3 : Nat) (I : Mem) : Option (Int32 × Mem) :=
  obx (m_X11_tag p1 p2 I) (fun k I9 => (hv_tag k).map (fun c => (c, I9))) (fun r1 I2 => m_L_tag_j7 p3 ((0 : Int32)) r1 I2)
set_option maxRecDepth 100000 in
set_option maxHeartbeats 4000000 in
theorem m_L_tag_ok {Z : Zx} {K : (Int32 × Mem) → Prop} (C : Cx Z cL_tag 4 RL) (hR : RM Z 9 152) (p1 : Nat) (p2 : Int32) (p3 : Nat) (hp1 : isO p1 11) (hp3 : isA p3 3 1) (I : Mem) (hst : (zl Z).stackTraces = false) (hNC : NCs (zs Z)) (htab : (zc Z).exceptionTable.toList = tableOf [(0, 9, 12, 15), (0, 9, 15, 36)]) (hc : Z.2.2.1 + 2 ≤ (zR Z).cells) (hs : Z.2.2.2.1 + 12 ≤ (zR Z).slots) (hK : ∀ y, K (y) → RetI Z cL_tag .int y.1 y.2) : WF Z K (m_L_tag p1 p2 p3 I) I 0 [some (rf (zG Z) p1), some (.int p2), some (rf (zG Z) p3), none] [] := by
  unfold m_L_tag
  refine w_aload_n (v := p3) C dL_tag_0 rfl (q := 1) rfl ?_
  refine w_iconst (v := (0)) C dL_tag_1 (by decide) (q := 2) rfl ?_
  refine w_aload_n (v := p1) C dL_tag_2 rfl (q := 3) rfl ?_
  refine w_iload_n (v := p2) C dL_tag_3 rfl (q := 4) rfl ?_
  refine w_callVC (val := fun v => some (.int v)) (st1 := fun r1 => [.int r1, .int 0, rf (zG Z) p3]) (As := [.int p2]) (st := [.int 0, rf (zG Z) p3]) (q := 7) (hv := hv_tag) (ex := fun c I' => (c, I')) C hR (okA hc (by decide)) (okA hs (by decide)) (fun x h => c_X11_tag (zl Z) hst (zG Z) p2 hp1 I h) hp1 mv_X11_tag lk_L_49 rfl (by decide) (fun _ => rfl) (Nat.le_of_ble_eq_true rfl) rfl rfl dL_tag_4 rfl ?_ (fun r1 I2 => ?_)
  · intro k9 c9 I9 h1 h2
    by_cases q0 : k9 = 1
    · subst q0
      have h3 : (some 1 : Option Int32) = some c9 := h1
      cases h3
      exact x_caught C (k := 1) (i := 3) (c := 1) (okA hc (by decide)) (okA hs (by decide)) [] ⟨0, 9, 12, 15⟩ [⟨0, 9, 15, 36⟩] (htab.trans rfl) (by decide) (by decide) cl_L_15 cs_1 (fun z hz => nomatch hz) (Nat.le_of_ble_eq_true rfl) (Or.inr ⟨3, rfl, dL_tag_12, rfl⟩) dL_tag_13 (by decide) rfl dL_tag_14 (hK _ h2)
    by_cases q1 : k9 = 2
    · subst q1
      have h3 : (some 2 : Option Int32) = some c9 := h1
      cases h3
      exact x_caught C (k := 2) (i := 3) (c := 2) (okA hc (by decide)) (okA hs (by decide)) [⟨0, 9, 12, 15⟩] ⟨0, 9, 15, 36⟩ [] (htab.trans rfl) (by decide) (by decide) cl_L_36 cs_2 (fun z hz => by rcases (by simpa using hz : z = (⟨0, 9, 12, 15⟩ : ExceptionTableEntry)) with rfl <;> exact Or.inr ⟨by decide, _, by first | exact C.ts _ cl_L_15, by first | exact hNC 2 1 (by decide) (by decide) (by decide)⟩) (Nat.le_of_ble_eq_true rfl) (Or.inr ⟨3, rfl, dL_tag_15, rfl⟩) dL_tag_16 (by decide) rfl dL_tag_17 (hK _ h2)
    exact absurd h1 (by simp [hv_tag, q0, q1])
  · exact WF.less (L' := [none, none, none, none]) (m_L_tag_j7_ok (C.bump (okA hc (by decide)) (okA hs (by decide))) hR p3 ((0 : Int32)) r1 hp3 I2 hK) trivial
theorem c_L_tag (l : Launch) (hst : l.stackTraces = false) (G : Gx) {p1 : Nat} (p2 : Int32) {p3 : Nat} (hp1 : isO p1 11) (hp3 : isA p3 3 1) (I : Mem) {x : Int32 × Mem} (h : m_L_tag p1 p2 p3 I = some x) : CtL l G yL_tag cL_tag 4 [(0, 9, 12, 15), (0, 9, 15, 36)] 9 152 2 12 [rf G p1, .int p2, rf G p3] I x.1 x.2 := CtL.of (by decide +kernel) rfl (Nat.le_of_ble_eq_true rfl) (fun Z hG hl C hR hNC htab hc hs hret => by
  subst hG
  subst hl
  exact m_L_tag_ok (K := fun y => y = x) C hR p1 p2 p3 hp1 hp3 I hst hNC htab hc hs (fun y hy => by subst hy; exact hret) x h rfl)
def hv_elements (k : Nat) : Option Int32 := if k = 1 then some 1 else if k = 2 then some 2 else none
def m_L_elements_j7 (y0 : Nat) (y1 : Int32) (y2 : Int32) (I : Mem) : Option (Int32 × Mem) :=
  gd (inb y1 1) (bnd (ms I y0 y1.toNatClampNeg y2) fun I3 => some ((0, I3)))
set_option maxRecDepth 100000 in
set_option maxHeartbeats 4000000 in
theorem m_L_elements_j7_ok {Z : Zx} {K : (Int32 × Mem) → Prop} (C : Cx Z cL_elements 4 RL) (hR : RM Z 9 152) (y0 : Nat) (y1 : Int32) (y2 : Int32) (hy0 : isA y0 3 1) (I : Mem) (hK : ∀ y, K (y) → RetI Z cL_elements .int y.1 y.2) : WF Z K (m_L_elements_j7 y0 y1 y2 I) I 7 [none, none, none, none] [.int y2, .int y1, rf (zG Z) y0] := by
  unfold m_L_elements_j7
  refine w_i2l C dL_elements_7 (q := 8) rfl ?_
  refine w_last C hy0 dL_elements_8 (q := 9) rfl (fun _ I3 => ?_)
  refine w_goto (tgt := 18) C dL_elements_9 (by decide) ?_
  refine w_iconst (v := (0)) C dL_elements_18 (by decide) (q := 19) rfl ?_
  exact w_iret C (hK _) rfl dL_elements_19
def m_L_elements (p1 : Nat) (p2 : Int32) (p3 : Nat) (I : Mem) : Option (Int32 × Mem) :=
  obx (m_X11_elements p1 p2 I) (fun k I9 => (hv_elements k).map (fun c => (c, I9))) (fun r1 I2 => m_L_elements_j7 p3 ((0 : Int32)) r1 I2)
set_option maxRecDepth 100000 in
set_option maxHeartbeats 4000000 in
theorem m_L_elements_ok {Z : Zx} {K : (Int32 × Mem) → Prop} (C : Cx Z cL_elements 4 RL) (hR : RM Z 9 152) (p1 : Nat) (p2 : Int32) (p3 : Nat) (hp1 : isO p1 11) (hp3 : isA p3 3 1) (I : Mem) (hst : (zl Z).stackTraces = false) (hNC : NCs (zs Z)) (htab : (zc Z).exceptionTable.toList = tableOf [(0, 9, 12, 15), (0, 9, 15, 36)]) (hc : Z.2.2.1 + 2 ≤ (zR Z).cells) (hs : Z.2.2.2.1 + 12 ≤ (zR Z).slots) (hK : ∀ y, K (y) → RetI Z cL_elements .int y.1 y.2) : WF Z K (m_L_elements p1 p2 p3 I) I 0 [some (rf (zG Z) p1), some (.int p2), some (rf (zG Z) p3), none] [] := by
  unfold m_L_elements
  refine w_aload_n (v := p3) C dL_elements_0 rfl (q := 1) rfl ?_
  refine w_iconst (v := (0)) C dL_elements_1 (by decide) (q := 2) rfl ?_
  refine w_aload_n (v := p1) C dL_elements_2 rfl (q := 3) rfl ?_
  refine w_iload_n (v := p2) C dL_elements_3 rfl (q := 4) rfl ?_
  refine w_callVC (val := fun v => some (.int v)) (st1 := fun r1 => [.int r1, .int 0, rf (zG Z) p3]) (As := [.int p2]) (st := [.int 0, rf (zG Z) p3]) (q := 7) (hv := hv_elements) (ex := fun c I' => (c, I')) C hR (okA hc (by decide)) (okA hs (by decide)) (fun x h => c_X11_elements (zl Z) hst (zG Z) p2 hp1 I h) hp1 mv_X11_elements lk_L_53 rfl (by decide) (fun _ => rfl) (Nat.le_of_ble_eq_true rfl) rfl rfl dL_elements_4 rfl ?_ (fun r1 I2 => ?_)
  · intro k9 c9 I9 h1 h2
    by_cases q0 : k9 = 1
    · subst q0
      have h3 : (some 1 : Option Int32) = some c9 := h1
      cases h3
      exact x_caught C (k := 1) (i := 3) (c := 1) (okA hc (by decide)) (okA hs (by decide)) [] ⟨0, 9, 12, 15⟩ [⟨0, 9, 15, 36⟩] (htab.trans rfl) (by decide) (by decide) cl_L_15 cs_1 (fun z hz => nomatch hz) (Nat.le_of_ble_eq_true rfl) (Or.inr ⟨3, rfl, dL_elements_12, rfl⟩) dL_elements_13 (by decide) rfl dL_elements_14 (hK _ h2)
    by_cases q1 : k9 = 2
    · subst q1
      have h3 : (some 2 : Option Int32) = some c9 := h1
      cases h3
      exact x_caught C (k := 2) (i := 3) (c := 2) (okA hc (by decide)) (okA hs (by decide)) [⟨0, 9, 12, 15⟩] ⟨0, 9, 15, 36⟩ [] (htab.trans rfl) (by decide) (by decide) cl_L_36 cs_2 (fun z hz => by rcases (by simpa using hz : z = (⟨0, 9, 12, 15⟩ : ExceptionTableEntry)) with rfl <;> exact Or.inr ⟨by decide, _, by first | exact C.ts _ cl_L_15, by first | exact hNC 2 1 (by decide) (by decide) (by decide)⟩) (Nat.le_of_ble_eq_true rfl) (Or.inr ⟨3, rfl, dL_elements_15, rfl⟩) dL_elements_16 (by decide) rfl dL_elements_17 (hK _ h2)
    exact absurd h1 (by simp [hv_elements, q0, q1])
  · exact WF.less (L' := [none, none, none, none]) (m_L_elements_j7_ok (C.bump (okA hc (by decide)) (okA hs (by decide))) hR p3 ((0 : Int32)) r1 hp3 I2 hK) trivial
theorem c_L_elements (l : Launch) (hst : l.stackTraces = false) (G : Gx) {p1 : Nat} (p2 : Int32) {p3 : Nat} (hp1 : isO p1 11) (hp3 : isA p3 3 1) (I : Mem) {x : Int32 × Mem} (h : m_L_elements p1 p2 p3 I = some x) : CtL l G yL_elements cL_elements 4 [(0, 9, 12, 15), (0, 9, 15, 36)] 9 152 2 12 [rf G p1, .int p2, rf G p3] I x.1 x.2 := CtL.of (by decide +kernel) rfl (Nat.le_of_ble_eq_true rfl) (fun Z hG hl C hR hNC htab hc hs hret => by
  subst hG
  subst hl
  exact m_L_elements_ok (K := fun y => y = x) C hR p1 p2 p3 hp1 hp3 I hst hNC htab hc hs (fun y hy => by subst hy; exact hret) x h rfl)
def hv_contentLength (k : Nat) : Option Int32 := if k = 1 then some 1 else if k = 2 then some 2 else none
def m_L_contentLength_j8 (y0 : Nat) (y1 : Int32) (y2 : Int32) (I : Mem) : Option (Int32 × Mem) :=
  gd (inb y1 1) (bnd (ms I y0 y1.toNatClampNeg y2) fun I3 => some ((0, I3)))
set_option maxRecDepth 100000 in
set_option maxHeartbeats 4000000 in
theorem m_L_contentLength_j8_ok {Z : Zx} {K : (Int32 × Mem) → Prop} (C : Cx Z cL_contentLength 5 RL) (hR : RM Z 10 175) (y0 : Nat) (y1 : Int32) (y2 : Int32) (hy0 : isA y0 3 1) (I : Mem) (hK : ∀ y, K (y) → RetI Z cL_contentLength .int y.1 y.2) : WF Z K (m_L_contentLength_j8 y0 y1 y2 I) I 8 [none, none, none, none, none] [.int y2, .int y1, rf (zG Z) y0] := by
  unfold m_L_contentLength_j8
  refine w_i2l C dL_contentLength_8 (q := 9) rfl ?_
  refine w_last C hy0 dL_contentLength_9 (q := 10) rfl (fun _ I3 => ?_)
  refine w_goto (tgt := 21) C dL_contentLength_10 (by decide) ?_
  refine w_iconst (v := (0)) C dL_contentLength_21 (by decide) (q := 22) rfl ?_
  exact w_iret C (hK _) rfl dL_contentLength_22
def m_L_contentLength (p1 : Nat) (p2 : Int32) (p3 : Int32) (p4 : Nat) (I : Mem) : Option (Int32 × Mem) :=
  obx (m_X11_contentLength p1 p2 p3 I) (fun k I9 => (hv_contentLength k).map (fun c => (c, I9))) (fun r1 I2 => m_L_contentLength_j8 p4 ((0 : Int32)) r1 I2)
set_option maxRecDepth 100000 in
set_option maxHeartbeats 4000000 in
theorem m_L_contentLength_ok {Z : Zx} {K : (Int32 × Mem) → Prop} (C : Cx Z cL_contentLength 5 RL) (hR : RM Z 10 175) (p1 : Nat) (p2 : Int32) (p3 : Int32) (p4 : Nat) (hp1 : isO p1 11) (hp4 : isA p4 3 1) (I : Mem) (hst : (zl Z).stackTraces = false) (hNC : NCs (zs Z)) (htab : (zc Z).exceptionTable.toList = tableOf [(0, 10, 13, 15), (0, 10, 17, 36)]) (hc : Z.2.2.1 + 3 ≤ (zR Z).cells) (hs : Z.2.2.2.1 + 18 ≤ (zR Z).slots) (hK : ∀ y, K (y) → RetI Z cL_contentLength .int y.1 y.2) : WF Z K (m_L_contentLength p1 p2 p3 p4 I) I 0 [some (rf (zG Z) p1), some (.int p2), some (.int p3), some (rf (zG Z) p4), none] [] := by
  unfold m_L_contentLength
  refine w_aload_n (v := p4) C dL_contentLength_0 rfl (q := 1) rfl ?_
  refine w_iconst (v := (0)) C dL_contentLength_1 (by decide) (q := 2) rfl ?_
  refine w_aload_n (v := p1) C dL_contentLength_2 rfl (q := 3) rfl ?_
  refine w_iload_n (v := p2) C dL_contentLength_3 rfl (q := 4) rfl ?_
  refine w_iload_n (v := p3) C dL_contentLength_4 rfl (q := 5) rfl ?_
  refine w_callVC (val := fun v => some (.int v)) (st1 := fun r1 => [.int r1, .int 0, rf (zG Z) p4]) (As := [.int p2, .int p3]) (st := [.int 0, rf (zG Z) p4]) (q := 8) (hv := hv_contentLength) (ex := fun c I' => (c, I')) C hR (okA hc (by decide)) (okA hs (by decide)) (fun x h => c_X11_contentLength (zl Z) hst (zG Z) p2 p3 hp1 I h) hp1 mv_X11_contentLength lk_L_56 rfl (by decide) (fun _ => rfl) (Nat.le_of_ble_eq_true rfl) rfl rfl dL_contentLength_5 rfl ?_ (fun r1 I2 => ?_)
  · intro k9 c9 I9 h1 h2
    by_cases q0 : k9 = 1
    · subst q0
      have h3 : (some 1 : Option Int32) = some c9 := h1
      cases h3
      exact x_caught C (k := 1) (i := 4) (c := 1) (okA hc (by decide)) (okA hs (by decide)) [] ⟨0, 10, 13, 15⟩ [⟨0, 10, 17, 36⟩] (htab.trans rfl) (by decide) (by decide) cl_L_15 cs_1 (fun z hz => nomatch hz) (Nat.le_of_ble_eq_true rfl) (Or.inl ⟨dL_contentLength_13, rfl⟩) dL_contentLength_15 (by decide) rfl dL_contentLength_16 (hK _ h2)
    by_cases q1 : k9 = 2
    · subst q1
      have h3 : (some 2 : Option Int32) = some c9 := h1
      cases h3
      exact x_caught C (k := 2) (i := 4) (c := 2) (okA hc (by decide)) (okA hs (by decide)) [⟨0, 10, 13, 15⟩] ⟨0, 10, 17, 36⟩ [] (htab.trans rfl) (by decide) (by decide) cl_L_36 cs_2 (fun z hz => by rcases (by simpa using hz : z = (⟨0, 10, 13, 15⟩ : ExceptionTableEntry)) with rfl <;> exact Or.inr ⟨by decide, _, by first | exact C.ts _ cl_L_15, by first | exact hNC 2 1 (by decide) (by decide) (by decide)⟩) (Nat.le_of_ble_eq_true rfl) (Or.inl ⟨dL_contentLength_17, rfl⟩) dL_contentLength_19 (by decide) rfl dL_contentLength_20 (hK _ h2)
    exact absurd h1 (by simp [hv_contentLength, q0, q1])
  · exact WF.less (L' := [none, none, none, none, none]) (m_L_contentLength_j8_ok (C.bump (okA hc (by decide)) (okA hs (by decide))) hR p4 ((0 : Int32)) r1 hp4 I2 hK) trivial
theorem c_L_contentLength (l : Launch) (hst : l.stackTraces = false) (G : Gx) {p1 : Nat} (p2 : Int32) (p3 : Int32) {p4 : Nat} (hp1 : isO p1 11) (hp4 : isA p4 3 1) (I : Mem) {x : Int32 × Mem} (h : m_L_contentLength p1 p2 p3 p4 I = some x) : CtL l G yL_contentLength cL_contentLength 5 [(0, 10, 13, 15), (0, 10, 17, 36)] 10 175 3 18 [rf G p1, .int p2, .int p3, rf G p4] I x.1 x.2 := CtL.of (by decide +kernel) rfl (Nat.le_of_ble_eq_true rfl) (fun Z hG hl C hR hNC htab hc hs hret => by
  subst hG
  subst hl
  exact m_L_contentLength_ok (K := fun y => y = x) C hR p1 p2 p3 p4 hp1 hp4 I hst hNC htab hc hs (fun y hy => by subst hy; exact hret) x h rfl)
def hv_content (k : Nat) : Option Int32 := if k = 1 then some 1 else if k = 2 then some 2 else none
def m_L_content_j10 (y0 : Nat) (y1 : Int32) (y2 : Int32) (I : Mem) : Option (Int32 × Mem) :=
  gd (inb y1 1) (bnd (ms I y0 y1.toNatClampNeg y2) fun I3 => some ((0, I3)))
set_option maxRecDepth 100000 in
set_option maxHeartbeats 4000000 in
theorem m_L_content_j10_ok {Z : Zx} {K : (Int32 × Mem) → Prop} (C : Cx Z cL_content 6 RL) (hR : RM Z 10 176) (y0 : Nat) (y1 : Int32) (y2 : Int32) (hy0 : isA y0 3 1) (I : Mem) (hK : ∀ y, K (y) → RetI Z cL_content .int y.1 y.2) : WF Z K (m_L_content_j10 y0 y1 y2 I) I 10 [none, none, none, none, none, none] [.int y2, .int y1, rf (zG Z) y0] := by
  unfold m_L_content_j10
  refine w_i2l C dL_content_10 (q := 11) rfl ?_
  refine w_last C hy0 dL_content_11 (q := 12) rfl (fun _ I3 => ?_)
  refine w_goto (tgt := 23) C dL_content_12 (by decide) ?_
  refine w_iconst (v := (0)) C dL_content_23 (by decide) (q := 24) rfl ?_
  exact w_iret C (hK _) rfl dL_content_24
def m_L_content (p1 : Nat) (p2 : Int32) (p3 : Int32) (p4 : Int32) (p5 : Nat) (I : Mem) : Option (Int32 × Mem) :=
  obx (m_X11_content p1 p2 p3 p4 I) (fun k I9 => (hv_content k).map (fun c => (c, I9))) (fun r1 I2 => m_L_content_j10 p5 ((0 : Int32)) r1 I2)
set_option maxRecDepth 100000 in
set_option maxHeartbeats 4000000 in
theorem m_L_content_ok {Z : Zx} {K : (Int32 × Mem) → Prop} (C : Cx Z cL_content 6 RL) (hR : RM Z 10 176) (p1 : Nat) (p2 : Int32) (p3 : Int32) (p4 : Int32) (p5 : Nat) (hp1 : isO p1 11) (hp5 : isA p5 3 1) (I : Mem) (hst : (zl Z).stackTraces = false) (hNC : NCs (zs Z)) (htab : (zc Z).exceptionTable.toList = tableOf [(0, 12, 15, 15), (0, 12, 19, 36)]) (hc : Z.2.2.1 + 4 ≤ (zR Z).cells) (hs : Z.2.2.2.1 + 24 ≤ (zR Z).slots) (hK : ∀ y, K (y) → RetI Z cL_content .int y.1 y.2) : WF Z K (m_L_content p1 p2 p3 p4 p5 I) I 0 [some (rf (zG Z) p1), some (.int p2), some (.int p3), some (.int p4), some (rf (zG Z) p5), none] [] := by
  unfold m_L_content
  refine w_aload (v := p5) C dL_content_0 rfl (q := 2) rfl ?_
  refine w_iconst (v := (0)) C dL_content_2 (by decide) (q := 3) rfl ?_
  refine w_aload_n (v := p1) C dL_content_3 rfl (q := 4) rfl ?_
  refine w_iload_n (v := p2) C dL_content_4 rfl (q := 5) rfl ?_
  refine w_iload_n (v := p3) C dL_content_5 rfl (q := 6) rfl ?_
  refine w_iload_n (v := p4) C dL_content_6 rfl (q := 7) rfl ?_
  refine w_callVC (val := fun v => some (.int v)) (st1 := fun r1 => [.int r1, .int 0, rf (zG Z) p5]) (As := [.int p2, .int p3, .int p4]) (st := [.int 0, rf (zG Z) p5]) (q := 10) (hv := hv_content) (ex := fun c I' => (c, I')) C hR (okA hc (by decide)) (okA hs (by decide)) (fun x h => c_X11_content (zl Z) hst (zG Z) p2 p3 p4 hp1 I h) hp1 mv_X11_content lk_L_60 rfl (by decide) (fun _ => rfl) (Nat.le_of_ble_eq_true rfl) rfl rfl dL_content_7 rfl ?_ (fun r1 I2 => ?_)
  · intro k9 c9 I9 h1 h2
    by_cases q0 : k9 = 1
    · subst q0
      have h3 : (some 1 : Option Int32) = some c9 := h1
      cases h3
      exact x_caught C (k := 1) (i := 5) (c := 1) (okA hc (by decide)) (okA hs (by decide)) [] ⟨0, 12, 15, 15⟩ [⟨0, 12, 19, 36⟩] (htab.trans rfl) (by decide) (by decide) cl_L_15 cs_1 (fun z hz => nomatch hz) (Nat.le_of_ble_eq_true rfl) (Or.inl ⟨dL_content_15, rfl⟩) dL_content_17 (by decide) rfl dL_content_18 (hK _ h2)
    by_cases q1 : k9 = 2
    · subst q1
      have h3 : (some 2 : Option Int32) = some c9 := h1
      cases h3
      exact x_caught C (k := 2) (i := 5) (c := 2) (okA hc (by decide)) (okA hs (by decide)) [⟨0, 12, 15, 15⟩] ⟨0, 12, 19, 36⟩ [] (htab.trans rfl) (by decide) (by decide) cl_L_36 cs_2 (fun z hz => by rcases (by simpa using hz : z = (⟨0, 12, 15, 15⟩ : ExceptionTableEntry)) with rfl <;> exact Or.inr ⟨by decide, _, by first | exact C.ts _ cl_L_15, by first | exact hNC 2 1 (by decide) (by decide) (by decide)⟩) (Nat.le_of_ble_eq_true rfl) (Or.inl ⟨dL_content_19, rfl⟩) dL_content_21 (by decide) rfl dL_content_22 (hK _ h2)
    exact absurd h1 (by simp [hv_content, q0, q1])
  · exact WF.less (L' := [none, none, none, none, none, none]) (m_L_content_j10_ok (C.bump (okA hc (by decide)) (okA hs (by decide))) hR p5 ((0 : Int32)) r1 hp5 I2 hK) trivial
theorem c_L_content (l : Launch) (hst : l.stackTraces = false) (G : Gx) {p1 : Nat} (p2 : Int32) (p3 : Int32) (p4 : Int32) {p5 : Nat} (hp1 : isO p1 11) (hp5 : isA p5 3 1) (I : Mem) {x : Int32 × Mem} (h : m_L_content p1 p2 p3 p4 p5 I = some x) : CtL l G yL_content cL_content 6 [(0, 12, 15, 15), (0, 12, 19, 36)] 10 176 4 24 [rf G p1, .int p2, .int p3, .int p4, rf G p5] I x.1 x.2 := CtL.of (by decide +kernel) rfl (Nat.le_of_ble_eq_true rfl) (fun Z hG hl C hR hNC htab hc hs hret => by
  subst hG
  subst hl
  exact m_L_content_ok (K := fun y => y = x) C hR p1 p2 p3 p4 p5 hp1 hp5 I hst hNC htab hc hs (fun y hy => by subst hy; exact hret) x h rfl)
def hv_item (k : Nat) : Option Int32 := if k = 1 then some 1 else if k = 2 then some 2 else none
def m_L_item_j7 (y0 : Nat) (y1 : Int32) (y2 : Int32) (I : Mem) : Option (Int32 × Mem) :=
  gd (inb y1 1) (bnd (ms I y0 y1.toNatClampNeg y2) fun I3 => some ((0, I3)))
set_option maxRecDepth 100000 in
set_option maxHeartbeats 4000000 in
theorem m_L_item_j7_ok {Z : Zx} {K : (Int32 × Mem) → Prop} (C : Cx Z cL_item 4 RL) (hR : RM Z 9 152) (y0 : Nat) (y1 : Int32) (y2 : Int32) (hy0 : isA y0 3 1) (I : Mem) (hK : ∀ y, K (y) → RetI Z cL_item .int y.1 y.2) : WF Z K (m_L_item_j7 y0 y1 y2 I) I 7 [none, none, none, none] [.int y2, .int y1, rf (zG Z) y0] := by
  unfold m_L_item_j7
  refine w_i2l C dL_item_7 (q := 8) rfl ?_
  refine w_last C hy0 dL_item_8 (q := 9) rfl (fun _ I3 => ?_)
  refine w_goto (tgt := 18) C dL_item_9 (by decide) ?_
  refine w_iconst (v := (0)) C dL_item_18 (by decide) (q := 19) rfl ?_
  exact w_iret C (hK _) rfl dL_item_19
def m_L_item (p1 : Nat) (p2 : Int32) (p3 : Nat) (I : Mem) : Option (Int32 × Mem) :=
  obx (m_X11_item p1 p2 I) (fun k I9 => (hv_item k).map (fun c => (c, I9))) (fun r1 I2 => m_L_item_j7 p3 ((0 : Int32)) r1 I2)
set_option maxRecDepth 100000 in
set_option maxHeartbeats 4000000 in
theorem m_L_item_ok {Z : Zx} {K : (Int32 × Mem) → Prop} (C : Cx Z cL_item 4 RL) (hR : RM Z 9 152) (p1 : Nat) (p2 : Int32) (p3 : Nat) (hp1 : isO p1 11) (hp3 : isA p3 3 1) (I : Mem) (hst : (zl Z).stackTraces = false) (hNC : NCs (zs Z)) (htab : (zc Z).exceptionTable.toList = tableOf [(0, 9, 12, 15), (0, 9, 15, 36)]) (hc : Z.2.2.1 + 2 ≤ (zR Z).cells) (hs : Z.2.2.2.1 + 12 ≤ (zR Z).slots) (hK : ∀ y, K (y) → RetI Z cL_item .int y.1 y.2) : WF Z K (m_L_item p1 p2 p3 I) I 0 [some (rf (zG Z) p1), some (.int p2), some (rf (zG Z) p3), none] [] := by
  unfold m_L_item
  refine w_aload_n (v := p3) C dL_item_0 rfl (q := 1) rfl ?_
  refine w_iconst (v := (0)) C dL_item_1 (by decide) (q := 2) rfl ?_
  refine w_aload_n (v := p1) C dL_item_2 rfl (q := 3) rfl ?_
  refine w_iload_n (v := p2) C dL_item_3 rfl (q := 4) rfl ?_
  refine w_callVC (val := fun v => some (.int v)) (st1 := fun r1 => [.int r1, .int 0, rf (zG Z) p3]) (As := [.int p2]) (st := [.int 0, rf (zG Z) p3]) (q := 7) (hv := hv_item) (ex := fun c I' => (c, I')) C hR (okA hc (by decide)) (okA hs (by decide)) (fun x h => c_X11_item (zl Z) hst (zG Z) p2 hp1 I h) hp1 mv_X11_item lk_L_64 rfl (by decide) (fun _ => rfl) (Nat.le_of_ble_eq_true rfl) rfl rfl dL_item_4 rfl ?_ (fun r1 I2 => ?_)
  · intro k9 c9 I9 h1 h2
    by_cases q0 : k9 = 1
    · subst q0
      have h3 : (some 1 : Option Int32) = some c9 := h1
      cases h3
      exact x_caught C (k := 1) (i := 3) (c := 1) (okA hc (by decide)) (okA hs (by decide)) [] ⟨0, 9, 12, 15⟩ [⟨0, 9, 15, 36⟩] (htab.trans rfl) (by decide) (by decide) cl_L_15 cs_1 (fun z hz => nomatch hz) (Nat.le_of_ble_eq_true rfl) (Or.inr ⟨3, rfl, dL_item_12, rfl⟩) dL_item_13 (by decide) rfl dL_item_14 (hK _ h2)
    by_cases q1 : k9 = 2
    · subst q1
      have h3 : (some 2 : Option Int32) = some c9 := h1
      cases h3
      exact x_caught C (k := 2) (i := 3) (c := 2) (okA hc (by decide)) (okA hs (by decide)) [⟨0, 9, 12, 15⟩] ⟨0, 9, 15, 36⟩ [] (htab.trans rfl) (by decide) (by decide) cl_L_36 cs_2 (fun z hz => by rcases (by simpa using hz : z = (⟨0, 9, 12, 15⟩ : ExceptionTableEntry)) with rfl <;> exact Or.inr ⟨by decide, _, by first | exact C.ts _ cl_L_15, by first | exact hNC 2 1 (by decide) (by decide) (by decide)⟩) (Nat.le_of_ble_eq_true rfl) (Or.inr ⟨3, rfl, dL_item_15, rfl⟩) dL_item_16 (by decide) rfl dL_item_17 (hK _ h2)
    exact absurd h1 (by simp [hv_item, q0, q1])
  · exact WF.less (L' := [none, none, none, none]) (m_L_item_j7_ok (C.bump (okA hc (by decide)) (okA hs (by decide))) hR p3 ((0 : Int32)) r1 hp3 I2 hK) trivial
theorem c_L_item (l : Launch) (hst : l.stackTraces = false) (G : Gx) {p1 : Nat} (p2 : Int32) {p3 : Nat} (hp1 : isO p1 11) (hp3 : isA p3 3 1) (I : Mem) {x : Int32 × Mem} (h : m_L_item p1 p2 p3 I = some x) : CtL l G yL_item cL_item 4 [(0, 9, 12, 15), (0, 9, 15, 36)] 9 152 2 12 [rf G p1, .int p2, rf G p3] I x.1 x.2 := CtL.of (by decide +kernel) rfl (Nat.le_of_ble_eq_true rfl) (fun Z hG hl C hR hNC htab hc hs hret => by
  subst hG
  subst hl
  exact m_L_item_ok (K := fun y => y = x) C hR p1 p2 p3 hp1 hp3 I hst hNC htab hc hs (fun y hy => by subst hy; exact hret) x h rfl)
def hv_pass (k : Nat) : Option Int32 := if k = 1 then some 1 else if k = 2 then some 2 else none
def m_L_pass_j7 (y0 : Nat) (y1 : Int32) (y2 : Int32) (I : Mem) : Option (Int32 × Mem) :=
  gd (inb y1 1) (bnd (ms I y0 y1.toNatClampNeg y2) fun I3 => some ((0, I3)))
set_option maxRecDepth 100000 in
set_option maxHeartbeats 4000000 in
theorem m_L_pass_j7_ok {Z : Zx} {K : (Int32 × Mem) → Prop} (C : Cx Z cL_pass 4 RL) (hR : RM Z 9 152) (y0 : Nat) (y1 : Int32) (y2 : Int32) (hy0 : isA y0 3 1) (I : Mem) (hK : ∀ y, K (y) → RetI Z cL_pass .int y.1 y.2) : WF Z K (m_L_pass_j7 y0 y1 y2 I) I 7 [none, none, none, none] [.int y2, .int y1, rf (zG Z) y0] := by
  unfold m_L_pass_j7
  refine w_i2l C dL_pass_7 (q := 8) rfl ?_
  refine w_last C hy0 dL_pass_8 (q := 9) rfl (fun _ I3 => ?_)
  refine w_goto (tgt := 18) C dL_pass_9 (by decide) ?_
  refine w_iconst (v := (0)) C dL_pass_18 (by decide) (q := 19) rfl ?_
  exact w_iret C (hK _) rfl dL_pass_19
def m_L_pass (p1 : Nat) (p2 : Int32) (p3 : Nat) (I : Mem) : Option (Int32 × Mem) :=
  obx (m_X11_pass p1 p2 I) (fun k I9 => (hv_pass k).map (fun c => (c, I9))) (fun r1 I2 => m_L_pass_j7 p3 ((0 : Int32)) r1 I2)
set_option maxRecDepth 100000 in
set_option maxHeartbeats 4000000 in
theorem m_L_pass_ok {Z : Zx} {K : (Int32 × Mem) → Prop} (C : Cx Z cL_pass 4 RL) (hR : RM Z 9 152) (p1 : Nat) (p2 : Int32) (p3 : Nat) (hp1 : isO p1 11) (hp3 : isA p3 3 1) (I : Mem) (hst : (zl Z).stackTraces = false) (hNC : NCs (zs Z)) (htab : (zc Z).exceptionTable.toList = tableOf [(0, 9, 12, 15), (0, 9, 15, 36)]) (hc : Z.2.2.1 + 2 ≤ (zR Z).cells) (hs : Z.2.2.2.1 + 12 ≤ (zR Z).slots) (hK : ∀ y, K (y) → RetI Z cL_pass .int y.1 y.2) : WF Z K (m_L_pass p1 p2 p3 I) I 0 [some (rf (zG Z) p1), some (.int p2), some (rf (zG Z) p3), none] [] := by
  unfold m_L_pass
  refine w_aload_n (v := p3) C dL_pass_0 rfl (q := 1) rfl ?_
  refine w_iconst (v := (0)) C dL_pass_1 (by decide) (q := 2) rfl ?_
  refine w_aload_n (v := p1) C dL_pass_2 rfl (q := 3) rfl ?_
  refine w_iload_n (v := p2) C dL_pass_3 rfl (q := 4) rfl ?_
  refine w_callVC (val := fun v => some (.int v)) (st1 := fun r1 => [.int r1, .int 0, rf (zG Z) p3]) (As := [.int p2]) (st := [.int 0, rf (zG Z) p3]) (q := 7) (hv := hv_pass) (ex := fun c I' => (c, I')) C hR (okA hc (by decide)) (okA hs (by decide)) (fun x h => c_X11_pass (zl Z) hst (zG Z) p2 hp1 I h) hp1 mv_X11_pass lk_L_67 rfl (by decide) (fun _ => rfl) (Nat.le_of_ble_eq_true rfl) rfl rfl dL_pass_4 rfl ?_ (fun r1 I2 => ?_)
  · intro k9 c9 I9 h1 h2
    by_cases q0 : k9 = 1
    · subst q0
      have h3 : (some 1 : Option Int32) = some c9 := h1
      cases h3
      exact x_caught C (k := 1) (i := 3) (c := 1) (okA hc (by decide)) (okA hs (by decide)) [] ⟨0, 9, 12, 15⟩ [⟨0, 9, 15, 36⟩] (htab.trans rfl) (by decide) (by decide) cl_L_15 cs_1 (fun z hz => nomatch hz) (Nat.le_of_ble_eq_true rfl) (Or.inr ⟨3, rfl, dL_pass_12, rfl⟩) dL_pass_13 (by decide) rfl dL_pass_14 (hK _ h2)
    by_cases q1 : k9 = 2
    · subst q1
      have h3 : (some 2 : Option Int32) = some c9 := h1
      cases h3
      exact x_caught C (k := 2) (i := 3) (c := 2) (okA hc (by decide)) (okA hs (by decide)) [⟨0, 9, 12, 15⟩] ⟨0, 9, 15, 36⟩ [] (htab.trans rfl) (by decide) (by decide) cl_L_36 cs_2 (fun z hz => by rcases (by simpa using hz : z = (⟨0, 9, 12, 15⟩ : ExceptionTableEntry)) with rfl <;> exact Or.inr ⟨by decide, _, by first | exact C.ts _ cl_L_15, by first | exact hNC 2 1 (by decide) (by decide) (by decide)⟩) (Nat.le_of_ble_eq_true rfl) (Or.inr ⟨3, rfl, dL_pass_15, rfl⟩) dL_pass_16 (by decide) rfl dL_pass_17 (hK _ h2)
    exact absurd h1 (by simp [hv_pass, q0, q1])
  · exact WF.less (L' := [none, none, none, none]) (m_L_pass_j7_ok (C.bump (okA hc (by decide)) (okA hs (by decide))) hR p3 ((0 : Int32)) r1 hp3 I2 hK) trivial
theorem c_L_pass (l : Launch) (hst : l.stackTraces = false) (G : Gx) {p1 : Nat} (p2 : Int32) {p3 : Nat} (hp1 : isO p1 11) (hp3 : isA p3 3 1) (I : Mem) {x : Int32 × Mem} (h : m_L_pass p1 p2 p3 I = some x) : CtL l G yL_pass cL_pass 4 [(0, 9, 12, 15), (0, 9, 15, 36)] 9 152 2 12 [rf G p1, .int p2, rf G p3] I x.1 x.2 := CtL.of (by decide +kernel) rfl (Nat.le_of_ble_eq_true rfl) (fun Z hG hl C hR hNC htab hc hs hret => by
  subst hG
  subst hl
  exact m_L_pass_ok (K := fun y => y = x) C hR p1 p2 p3 hp1 hp3 I hst hNC htab hc hs (fun y hy => by subst hy; exact hret) x h rfl)
def hv_addRule (k : Nat) : Option Int32 := if k = 2 then some 1 else if k = 0 then some 2 else if k = 1 then some 3 else none
def m_L_addRule_j8 (y0 : Nat) (y1 : Int32) (y2 : Int32) (I : Mem) : Option (Int32 × Mem) :=
  gd (inb y1 1) (bnd (ms I y0 y1.toNatClampNeg y2) fun I3 => some ((0, I3)))
set_option maxRecDepth 100000 in
set_option maxHeartbeats 4000000 in
theorem m_L_addRule_j8_ok {Z : Zx} {K : (Int32 × Mem) → Prop} (C : Cx Z cL_addRule 5 RL) (hR : RM Z 7 112) (y0 : Nat) (y1 : Int32) (y2 : Int32) (hy0 : isA y0 3 1) (I : Mem) (hK : ∀ y, K (y) → RetI Z cL_addRule .int y.1 y.2) : WF Z K (m_L_addRule_j8 y0 y1 y2 I) I 8 [none, none, none, none, none] [.int y2, .int y1, rf (zG Z) y0] := by
  unfold m_L_addRule_j8
  refine w_i2l C dL_addRule_8 (q := 9) rfl ?_
  refine w_last C hy0 dL_addRule_9 (q := 10) rfl (fun _ I3 => ?_)
  refine w_goto (tgt := 25) C dL_addRule_10 (by decide) ?_
  refine w_iconst (v := (0)) C dL_addRule_25 (by decide) (q := 26) rfl ?_
  exact w_iret C (hK _) rfl dL_addRule_26
def m_L_addRule (p1 : Nat) (p2 : Int32) (p3 : Int32) (p4 : Nat) (I : Mem) : Option (Int32 × Mem) :=
  obx (m_X11_addRule p1 p2 p3 I) (fun k I9 => (hv_addRule k).map (fun c => (c, I9))) (fun r1 I2 => m_L_addRule_j8 p4 ((0 : Int32)) r1 I2)
set_option maxRecDepth 100000 in
set_option maxHeartbeats 4000000 in
theorem m_L_addRule_ok {Z : Zx} {K : (Int32 × Mem) → Prop} (C : Cx Z cL_addRule 5 RL) (hR : RM Z 7 112) (p1 : Nat) (p2 : Int32) (p3 : Int32) (p4 : Nat) (hp1 : isO p1 11) (hp4 : isA p4 3 1) (I : Mem) (hst : (zl Z).stackTraces = false) (hNC : NCs (zs Z)) (htab : (zc Z).exceptionTable.toList = tableOf [(0, 10, 13, 36), (0, 10, 17, 13), (0, 10, 21, 15)]) (hc : Z.2.2.1 + 1 ≤ (zR Z).cells) (hs : Z.2.2.2.1 + 6 ≤ (zR Z).slots) (hK : ∀ y, K (y) → RetI Z cL_addRule .int y.1 y.2) : WF Z K (m_L_addRule p1 p2 p3 p4 I) I 0 [some (rf (zG Z) p1), some (.int p2), some (.int p3), some (rf (zG Z) p4), none] [] := by
  unfold m_L_addRule
  refine w_aload_n (v := p4) C dL_addRule_0 rfl (q := 1) rfl ?_
  refine w_iconst (v := (0)) C dL_addRule_1 (by decide) (q := 2) rfl ?_
  refine w_aload_n (v := p1) C dL_addRule_2 rfl (q := 3) rfl ?_
  refine w_iload_n (v := p2) C dL_addRule_3 rfl (q := 4) rfl ?_
  refine w_iload_n (v := p3) C dL_addRule_4 rfl (q := 5) rfl ?_
  refine w_callVC (val := fun v => some (.int v)) (st1 := fun r1 => [.int r1, .int 0, rf (zG Z) p4]) (As := [.int p2, .int p3]) (st := [.int 0, rf (zG Z) p4]) (q := 8) (hv := hv_addRule) (ex := fun c I' => (c, I')) C hR (okA hc (by decide)) (okA hs (by decide)) (fun x h => c_X11_addRule (zl Z) hst (zG Z) p2 p3 hp1 I h) hp1 mv_X11_addRule lk_L_70 rfl (by decide) (fun _ => rfl) (Nat.le_of_ble_eq_true rfl) rfl rfl dL_addRule_5 rfl ?_ (fun r1 I2 => ?_)
  · intro k9 c9 I9 h1 h2
    by_cases q0 : k9 = 2
    · subst q0
      have h3 : (some 1 : Option Int32) = some c9 := h1
      cases h3
      exact x_caught C (k := 2) (i := 4) (c := 1) (okA hc (by decide)) (okA hs (by decide)) [] ⟨0, 10, 13, 36⟩ [⟨0, 10, 17, 13⟩, ⟨0, 10, 21, 15⟩] (htab.trans rfl) (by decide) (by decide) cl_L_36 cs_2 (fun z hz => nomatch hz) (Nat.le_of_ble_eq_true rfl) (Or.inl ⟨dL_addRule_13, rfl⟩) dL_addRule_15 (by decide) rfl dL_addRule_16 (hK _ h2)
    by_cases q1 : k9 = 0
    · subst q1
      have h3 : (some 2 : Option Int32) = some c9 := h1
      cases h3
      exact x_caught C (k := 0) (i := 4) (c := 2) (okA hc (by decide)) (okA hs (by decide)) [⟨0, 10, 13, 36⟩] ⟨0, 10, 17, 13⟩ [⟨0, 10, 21, 15⟩] (htab.trans rfl) (by decide) (by decide) cl_L_13 cs_0 (fun z hz => by rcases (by simpa using hz : z = (⟨0, 10, 13, 36⟩ : ExceptionTableEntry)) with rfl <;> exact Or.inr ⟨by decide, _, by first | exact C.ts _ cl_L_36, by first | exact hNC 0 2 (by decide) (by decide) (by decide)⟩) (Nat.le_of_ble_eq_true rfl) (Or.inl ⟨dL_addRule_17, rfl⟩) dL_addRule_19 (by decide) rfl dL_addRule_20 (hK _ h2)
    by_cases q2 : k9 = 1
    · subst q2
      have h3 : (some 3 : Option Int32) = some c9 := h1
      cases h3
      exact x_caught C (k := 1) (i := 4) (c := 3) (okA hc (by decide)) (okA hs (by decide)) [⟨0, 10, 13, 36⟩, ⟨0, 10, 17, 13⟩] ⟨0, 10, 21, 15⟩ [] (htab.trans rfl) (by decide) (by decide) cl_L_15 cs_1 (fun z hz => by rcases (by simpa using hz : z = (⟨0, 10, 13, 36⟩ : ExceptionTableEntry) ∨ z = (⟨0, 10, 17, 13⟩ : ExceptionTableEntry)) with rfl | rfl <;> exact Or.inr ⟨by decide, _, by first | exact C.ts _ cl_L_36 | exact C.ts _ cl_L_13, by first | exact hNC 1 2 (by decide) (by decide) (by decide) | exact hNC 1 0 (by decide) (by decide) (by decide)⟩) (Nat.le_of_ble_eq_true rfl) (Or.inl ⟨dL_addRule_21, rfl⟩) dL_addRule_23 (by decide) rfl dL_addRule_24 (hK _ h2)
    exact absurd h1 (by simp [hv_addRule, q0, q1, q2])
  · exact WF.less (L' := [none, none, none, none, none]) (m_L_addRule_j8_ok (C.bump (okA hc (by decide)) (okA hs (by decide))) hR p4 ((0 : Int32)) r1 hp4 I2 hK) trivial
theorem c_L_addRule (l : Launch) (hst : l.stackTraces = false) (G : Gx) {p1 : Nat} (p2 : Int32) (p3 : Int32) {p4 : Nat} (hp1 : isO p1 11) (hp4 : isA p4 3 1) (I : Mem) {x : Int32 × Mem} (h : m_L_addRule p1 p2 p3 p4 I = some x) : CtL l G yL_addRule cL_addRule 5 [(0, 10, 13, 36), (0, 10, 17, 13), (0, 10, 21, 15)] 7 112 1 6 [rf G p1, .int p2, .int p3, rf G p4] I x.1 x.2 := CtL.of (by decide +kernel) rfl (Nat.le_of_ble_eq_true rfl) (fun Z hG hl C hR hNC htab hc hs hret => by
  subst hG
  subst hl
  exact m_L_addRule_ok (K := fun y => y = x) C hR p1 p2 p3 p4 hp1 hp4 I hst hNC htab hc hs (fun y hy => by subst hy; exact hret) x h rfl)
def hv_addField (k : Nat) : Option Int32 := if k = 2 then some 1 else if k = 0 then some 2 else if k = 1 then some 3 else none
def m_L_addField_j8 (y0 : Nat) (y1 : Int32) (y2 : Int32) (I : Mem) : Option (Int32 × Mem) :=
  gd (inb y1 1) (bnd (ms I y0 y1.toNatClampNeg y2) fun I3 => some ((0, I3)))
set_option maxRecDepth 100000 in
set_option maxHeartbeats 4000000 in
theorem m_L_addField_j8_ok {Z : Zx} {K : (Int32 × Mem) → Prop} (C : Cx Z cL_addField 5 RL) (hR : RM Z 8 133) (y0 : Nat) (y1 : Int32) (y2 : Int32) (hy0 : isA y0 3 1) (I : Mem) (hK : ∀ y, K (y) → RetI Z cL_addField .int y.1 y.2) : WF Z K (m_L_addField_j8 y0 y1 y2 I) I 8 [none, none, none, none, none] [.int y2, .int y1, rf (zG Z) y0] := by
  unfold m_L_addField_j8
  refine w_i2l C dL_addField_8 (q := 9) rfl ?_
  refine w_last C hy0 dL_addField_9 (q := 10) rfl (fun _ I3 => ?_)
  refine w_goto (tgt := 25) C dL_addField_10 (by decide) ?_
  refine w_iconst (v := (0)) C dL_addField_25 (by decide) (q := 26) rfl ?_
  exact w_iret C (hK _) rfl dL_addField_26
def m_L_addField (p1 : Nat) (p2 : Int32) (p3 : Int32) (p4 : Nat) (I : Mem) : Option (Int32 × Mem) :=
  obx (m_X11_addField p1 p2 p3 I) (fun k I9 => (hv_addField k).map (fun c => (c, I9))) (fun r1 I2 => m_L_addField_j8 p4 ((0 : Int32)) r1 I2)
set_option maxRecDepth 100000 in
set_option maxHeartbeats 4000000 in
theorem m_L_addField_ok {Z : Zx} {K : (Int32 × Mem) → Prop} (C : Cx Z cL_addField 5 RL) (hR : RM Z 8 133) (p1 : Nat) (p2 : Int32) (p3 : Int32) (p4 : Nat) (hp1 : isO p1 11) (hp4 : isA p4 3 1) (I : Mem) (hst : (zl Z).stackTraces = false) (hNC : NCs (zs Z)) (htab : (zc Z).exceptionTable.toList = tableOf [(0, 10, 13, 36), (0, 10, 17, 13), (0, 10, 21, 15)]) (hc : Z.2.2.1 + 2 ≤ (zR Z).cells) (hs : Z.2.2.2.1 + 12 ≤ (zR Z).slots) (hK : ∀ y, K (y) → RetI Z cL_addField .int y.1 y.2) : WF Z K (m_L_addField p1 p2 p3 p4 I) I 0 [some (rf (zG Z) p1), some (.int p2), some (.int p3), some (rf (zG Z) p4), none] [] := by
  unfold m_L_addField
  refine w_aload_n (v := p4) C dL_addField_0 rfl (q := 1) rfl ?_
  refine w_iconst (v := (0)) C dL_addField_1 (by decide) (q := 2) rfl ?_
  refine w_aload_n (v := p1) C dL_addField_2 rfl (q := 3) rfl ?_
  refine w_iload_n (v := p2) C dL_addField_3 rfl (q := 4) rfl ?_
  refine w_iload_n (v := p3) C dL_addField_4 rfl (q := 5) rfl ?_
  refine w_callVC (val := fun v => some (.int v)) (st1 := fun r1 => [.int r1, .int 0, rf (zG Z) p4]) (As := [.int p2, .int p3]) (st := [.int 0, rf (zG Z) p4]) (q := 8) (hv := hv_addField) (ex := fun c I' => (c, I')) C hR (okA hc (by decide)) (okA hs (by decide)) (fun x h => c_X11_addField (zl Z) hst (zG Z) p2 p3 hp1 I h) hp1 mv_X11_addField lk_L_74 rfl (by decide) (fun _ => rfl) (Nat.le_of_ble_eq_true rfl) rfl rfl dL_addField_5 rfl ?_ (fun r1 I2 => ?_)
  · intro k9 c9 I9 h1 h2
    by_cases q0 : k9 = 2
    · subst q0
      have h3 : (some 1 : Option Int32) = some c9 := h1
      cases h3
      exact x_caught C (k := 2) (i := 4) (c := 1) (okA hc (by decide)) (okA hs (by decide)) [] ⟨0, 10, 13, 36⟩ [⟨0, 10, 17, 13⟩, ⟨0, 10, 21, 15⟩] (htab.trans rfl) (by decide) (by decide) cl_L_36 cs_2 (fun z hz => nomatch hz) (Nat.le_of_ble_eq_true rfl) (Or.inl ⟨dL_addField_13, rfl⟩) dL_addField_15 (by decide) rfl dL_addField_16 (hK _ h2)
    by_cases q1 : k9 = 0
    · subst q1
      have h3 : (some 2 : Option Int32) = some c9 := h1
      cases h3
      exact x_caught C (k := 0) (i := 4) (c := 2) (okA hc (by decide)) (okA hs (by decide)) [⟨0, 10, 13, 36⟩] ⟨0, 10, 17, 13⟩ [⟨0, 10, 21, 15⟩] (htab.trans rfl) (by decide) (by decide) cl_L_13 cs_0 (fun z hz => by rcases (by simpa using hz : z = (⟨0, 10, 13, 36⟩ : ExceptionTableEntry)) with rfl <;> exact Or.inr ⟨by decide, _, by first | exact C.ts _ cl_L_36, by first | exact hNC 0 2 (by decide) (by decide) (by decide)⟩) (Nat.le_of_ble_eq_true rfl) (Or.inl ⟨dL_addField_17, rfl⟩) dL_addField_19 (by decide) rfl dL_addField_20 (hK _ h2)
    by_cases q2 : k9 = 1
    · subst q2
      have h3 : (some 3 : Option Int32) = some c9 := h1
      cases h3
      exact x_caught C (k := 1) (i := 4) (c := 3) (okA hc (by decide)) (okA hs (by decide)) [⟨0, 10, 13, 36⟩, ⟨0, 10, 17, 13⟩] ⟨0, 10, 21, 15⟩ [] (htab.trans rfl) (by decide) (by decide) cl_L_15 cs_1 (fun z hz => by rcases (by simpa using hz : z = (⟨0, 10, 13, 36⟩ : ExceptionTableEntry) ∨ z = (⟨0, 10, 17, 13⟩ : ExceptionTableEntry)) with rfl | rfl <;> exact Or.inr ⟨by decide, _, by first | exact C.ts _ cl_L_36 | exact C.ts _ cl_L_13, by first | exact hNC 1 2 (by decide) (by decide) (by decide) | exact hNC 1 0 (by decide) (by decide) (by decide)⟩) (Nat.le_of_ble_eq_true rfl) (Or.inl ⟨dL_addField_21, rfl⟩) dL_addField_23 (by decide) rfl dL_addField_24 (hK _ h2)
    exact absurd h1 (by simp [hv_addField, q0, q1, q2])
  · exact WF.less (L' := [none, none, none, none, none]) (m_L_addField_j8_ok (C.bump (okA hc (by decide)) (okA hs (by decide))) hR p4 ((0 : Int32)) r1 hp4 I2 hK) trivial
theorem c_L_addField (l : Launch) (hst : l.stackTraces = false) (G : Gx) {p1 : Nat} (p2 : Int32) (p3 : Int32) {p4 : Nat} (hp1 : isO p1 11) (hp4 : isA p4 3 1) (I : Mem) {x : Int32 × Mem} (h : m_L_addField p1 p2 p3 p4 I = some x) : CtL l G yL_addField cL_addField 5 [(0, 10, 13, 36), (0, 10, 17, 13), (0, 10, 21, 15)] 8 133 2 12 [rf G p1, .int p2, .int p3, rf G p4] I x.1 x.2 := CtL.of (by decide +kernel) rfl (Nat.le_of_ble_eq_true rfl) (fun Z hG hl C hR hNC htab hc hs hret => by
  subst hG
  subst hl
  exact m_L_addField_ok (K := fun y => y = x) C hR p1 p2 p3 p4 hp1 hp4 I hst hNC htab hc hs (fun y hy => by subst hy; exact hret) x h rfl)
def hv_setCondition (k : Nat) : Option Int32 := if k = 2 then some 1 else if k = 0 then some 2 else none
def m_L_setCondition_j7  (I : Mem) : Option (Int32 × Mem) :=
  some ((0, I))
set_option maxRecDepth 100000 in
set_option maxHeartbeats 4000000 in
theorem m_L_setCondition_j7_ok {Z : Zx} {K : (Int32 × Mem) → Prop} (C : Cx Z cL_setCondition 5 RL) (hR : RM Z 8 134) (I : Mem) (hK : ∀ y, K (y) → RetI Z cL_setCondition .int y.1 y.2) : WF Z K (m_L_setCondition_j7  I) I 7 [none, none, none, none, none] [] := by
  unfold m_L_setCondition_j7
  refine w_goto (tgt := 18) C dL_setCondition_7 (by decide) ?_
  refine w_iconst (v := (0)) C dL_setCondition_18 (by decide) (q := 19) rfl ?_
  exact w_iret C (hK _) rfl dL_setCondition_19
def m_L_setCondition (p1 : Nat) (p2 : Int32) (p3 : Int32) (p4 : Int32) (I : Mem) : Option (Int32 × Mem) :=
  obx (m_X11_setCondition p1 p2 p3 p4 I) (fun k I9 => (hv_setCondition k).map (fun c => (c, I9))) (fun r1 I2 => m_L_setCondition_j7  I2)
set_option maxRecDepth 100000 in
set_option maxHeartbeats 4000000 in
theorem m_L_setCondition_ok {Z : Zx} {K : (Int32 × Mem) → Prop} (C : Cx Z cL_setCondition 5 RL) (hR : RM Z 8 134) (p1 : Nat) (p2 : Int32) (p3 : Int32) (p4 : Int32) (hp1 : isO p1 11) (I : Mem) (hst : (zl Z).stackTraces = false) (hNC : NCs (zs Z)) (htab : (zc Z).exceptionTable.toList = tableOf [(0, 7, 10, 36), (0, 7, 14, 13)]) (hc : Z.2.2.1 + 2 ≤ (zR Z).cells) (hs : Z.2.2.2.1 + 12 ≤ (zR Z).slots) (hK : ∀ y, K (y) → RetI Z cL_setCondition .int y.1 y.2) : WF Z K (m_L_setCondition p1 p2 p3 p4 I) I 0 [some (rf (zG Z) p1), some (.int p2), some (.int p3), some (.int p4), none] [] := by
  unfold m_L_setCondition
  refine w_aload_n (v := p1) C dL_setCondition_0 rfl (q := 1) rfl ?_
  refine w_iload_n (v := p2) C dL_setCondition_1 rfl (q := 2) rfl ?_
  refine w_iload_n (v := p3) C dL_setCondition_2 rfl (q := 3) rfl ?_
  refine w_iload_n (v := p4) C dL_setCondition_3 rfl (q := 4) rfl ?_
  refine w_callVC (val := fun _ => none) (st1 := fun _ => []) (As := [.int p2, .int p3, .int p4]) (st := []) (q := 7) (hv := hv_setCondition) (ex := fun c I' => (c, I')) C hR (okA hc (by decide)) (okA hs (by decide)) (fun x h => c_X11_setCondition (zl Z) hst (zG Z) p2 p3 p4 hp1 I h) hp1 mv_X11_setCondition lk_L_77 rfl (by decide) (fun _ => rfl) (Nat.le_of_ble_eq_true rfl) rfl rfl dL_setCondition_4 rfl ?_ (fun r1 I2 => ?_)
  · intro k9 c9 I9 h1 h2
    by_cases q0 : k9 = 2
    · subst q0
      have h3 : (some 1 : Option Int32) = some c9 := h1
      cases h3
      exact x_caught C (k := 2) (i := 4) (c := 1) (okA hc (by decide)) (okA hs (by decide)) [] ⟨0, 7, 10, 36⟩ [⟨0, 7, 14, 13⟩] (htab.trans rfl) (by decide) (by decide) cl_L_36 cs_2 (fun z hz => nomatch hz) (Nat.le_of_ble_eq_true rfl) (Or.inl ⟨dL_setCondition_10, rfl⟩) dL_setCondition_12 (by decide) rfl dL_setCondition_13 (hK _ h2)
    by_cases q1 : k9 = 0
    · subst q1
      have h3 : (some 2 : Option Int32) = some c9 := h1
      cases h3
      exact x_caught C (k := 0) (i := 4) (c := 2) (okA hc (by decide)) (okA hs (by decide)) [⟨0, 7, 10, 36⟩] ⟨0, 7, 14, 13⟩ [] (htab.trans rfl) (by decide) (by decide) cl_L_13 cs_0 (fun z hz => by rcases (by simpa using hz : z = (⟨0, 7, 10, 36⟩ : ExceptionTableEntry)) with rfl <;> exact Or.inr ⟨by decide, _, by first | exact C.ts _ cl_L_36, by first | exact hNC 0 2 (by decide) (by decide) (by decide)⟩) (Nat.le_of_ble_eq_true rfl) (Or.inl ⟨dL_setCondition_14, rfl⟩) dL_setCondition_16 (by decide) rfl dL_setCondition_17 (hK _ h2)
    exact absurd h1 (by simp [hv_setCondition, q0, q1])
  · exact WF.less (L' := [none, none, none, none, none]) (m_L_setCondition_j7_ok (C.bump (okA hc (by decide)) (okA hs (by decide))) hR   I2 hK) trivial
theorem c_L_setCondition (l : Launch) (hst : l.stackTraces = false) (G : Gx) {p1 : Nat} (p2 : Int32) (p3 : Int32) (p4 : Int32) (hp1 : isO p1 11) (I : Mem) {x : Int32 × Mem} (h : m_L_setCondition p1 p2 p3 p4 I = some x) : CtL l G yL_setCondition cL_setCondition 5 [(0, 7, 10, 36), (0, 7, 14, 13)] 8 134 2 12 [rf G p1, .int p2, .int p3, .int p4] I x.1 x.2 := CtL.of (by decide +kernel) rfl (Nat.le_of_ble_eq_true rfl) (fun Z hG hl C hR hNC htab hc hs hret => by
  subst hG
  subst hl
  exact m_L_setCondition_ok (K := fun y => y = x) C hR p1 p2 p3 p4 hp1 I hst hNC htab hc hs (fun y hy => by subst hy; exact hret) x h rfl)
def hv_write (k : Nat) : Option Int32 := if k = 1 then some 1 else none
def m_L_write_j6 (y0 : Nat) (y1 : Int32) (y2 : Int32) (I : Mem) : Option (Int32 × Mem) :=
  gd (inb y1 1) (bnd (ms I y0 y1.toNatClampNeg y2) fun I3 => some ((0, I3)))
set_option maxRecDepth 100000 in
set_option maxHeartbeats 4000000 in
theorem m_L_write_j6_ok {Z : Zx} {K : (Int32 × Mem) → Prop} (C : Cx Z cL_write 3 RL) (hR : RM Z 8 157) (y0 : Nat) (y1 : Int32) (y2 : Int32) (hy0 : isA y0 3 1) (I : Mem) (hK : ∀ y, K (y) → RetI Z cL_write .int y.1 y.2) : WF Z K (m_L_write_j6 y0 y1 y2 I) I 6 [none, none, none] [.int y2, .int y1, rf (zG Z) y0] := by
  unfold m_L_write_j6
  refine w_i2l C dL_write_6 (q := 7) rfl ?_
  refine w_last C hy0 dL_write_7 (q := 8) rfl (fun _ I3 => ?_)
  refine w_goto (tgt := 14) C dL_write_8 (by decide) ?_
  refine w_iconst (v := (0)) C dL_write_14 (by decide) (q := 15) rfl ?_
  exact w_iret C (hK _) rfl dL_write_15
def m_L_write (p1 : Nat) (p2 : Nat) (I : Mem) : Option (Int32 × Mem) :=
  obx (m_X11_write p1 I) (fun k I9 => (hv_write k).map (fun c => (c, I9))) (fun r1 I2 => m_L_write_j6 p2 ((0 : Int32)) r1 I2)
set_option maxRecDepth 100000 in
set_option maxHeartbeats 4000000 in
theorem m_L_write_ok {Z : Zx} {K : (Int32 × Mem) → Prop} (C : Cx Z cL_write 3 RL) (hR : RM Z 8 157) (p1 : Nat) (p2 : Nat) (hp1 : isO p1 11) (hp2 : isA p2 3 1) (I : Mem) (hst : (zl Z).stackTraces = false) (hNC : NCs (zs Z)) (htab : (zc Z).exceptionTable.toList = tableOf [(0, 8, 11, 15)]) (hc : Z.2.2.1 + 2 ≤ (zR Z).cells) (hs : Z.2.2.2.1 + 12 ≤ (zR Z).slots) (hK : ∀ y, K (y) → RetI Z cL_write .int y.1 y.2) : WF Z K (m_L_write p1 p2 I) I 0 [some (rf (zG Z) p1), some (rf (zG Z) p2), none] [] := by
  unfold m_L_write
  refine w_aload_n (v := p2) C dL_write_0 rfl (q := 1) rfl ?_
  refine w_iconst (v := (0)) C dL_write_1 (by decide) (q := 2) rfl ?_
  refine w_aload_n (v := p1) C dL_write_2 rfl (q := 3) rfl ?_
  refine w_callVC (val := fun v => some (.int v)) (st1 := fun r1 => [.int r1, .int 0, rf (zG Z) p2]) (As := []) (st := [.int 0, rf (zG Z) p2]) (q := 6) (hv := hv_write) (ex := fun c I' => (c, I')) C hR (okA hc (by decide)) (okA hs (by decide)) (fun x h => c_X11_write (zl Z) hst (zG Z)  hp1 I h) hp1 mv_X11_write lk_L_81 rfl (by decide) (fun _ => rfl) (Nat.le_of_ble_eq_true rfl) rfl rfl dL_write_3 rfl ?_ (fun r1 I2 => ?_)
  · intro k9 c9 I9 h1 h2
    by_cases q0 : k9 = 1
    · subst q0
      have h3 : (some 1 : Option Int32) = some c9 := h1
      cases h3
      exact x_caught C (k := 1) (i := 2) (c := 1) (okA hc (by decide)) (okA hs (by decide)) [] ⟨0, 8, 11, 15⟩ [] (htab.trans rfl) (by decide) (by decide) cl_L_15 cs_1 (fun z hz => nomatch hz) (Nat.le_of_ble_eq_true rfl) (Or.inr ⟨2, rfl, dL_write_11, rfl⟩) dL_write_12 (by decide) rfl dL_write_13 (hK _ h2)
    exact absurd h1 (by simp [hv_write, q0])
  · exact WF.less (L' := [none, none, none]) (m_L_write_j6_ok (C.bump (okA hc (by decide)) (okA hs (by decide))) hR p2 ((0 : Int32)) r1 hp2 I2 hK) trivial
theorem c_L_write (l : Launch) (hst : l.stackTraces = false) (G : Gx) {p1 : Nat} {p2 : Nat} (hp1 : isO p1 11) (hp2 : isA p2 3 1) (I : Mem) {x : Int32 × Mem} (h : m_L_write p1 p2 I = some x) : CtL l G yL_write cL_write 3 [(0, 8, 11, 15)] 8 157 2 12 [rf G p1, rf G p2] I x.1 x.2 := CtL.of (by decide +kernel) rfl (Nat.le_of_ble_eq_true rfl) (fun Z hG hl C hR hNC htab hc hs hret => by
  subst hG
  subst hl
  exact m_L_write_ok (K := fun y => y = x) C hR p1 p2 hp1 hp2 I hst hNC htab hc hs (fun y hy => by subst hy; exact hret) x h rfl)
def hv_letter (k : Nat) : Option Int32 := if k = 2 then some 1 else none
def m_L_letter_j7 (y0 : Nat) (y1 : Int32) (y2 : Int32) (I : Mem) : Option (Int32 × Mem) :=
  gd (inb y1 1) (bnd (ms I y0 y1.toNatClampNeg y2) fun I3 => some ((0, I3)))
set_option maxRecDepth 100000 in
set_option maxHeartbeats 4000000 in
theorem m_L_letter_j7_ok {Z : Zx} {K : (Int32 × Mem) → Prop} (C : Cx Z cL_letter 4 RL) (hR : RM Z 7 111) (y0 : Nat) (y1 : Int32) (y2 : Int32) (hy0 : isA y0 3 1) (I : Mem) (hK : ∀ y, K (y) → RetI Z cL_letter .int y.1 y.2) : WF Z K (m_L_letter_j7 y0 y1 y2 I) I 7 [none, none, none, none] [.int y2, .int y1, rf (zG Z) y0] := by
  unfold m_L_letter_j7
  refine w_i2l C dL_letter_7 (q := 8) rfl ?_
  refine w_last C hy0 dL_letter_8 (q := 9) rfl (fun _ I3 => ?_)
  refine w_goto (tgt := 15) C dL_letter_9 (by decide) ?_
  refine w_iconst (v := (0)) C dL_letter_15 (by decide) (q := 16) rfl ?_
  exact w_iret C (hK _) rfl dL_letter_16
def m_L_letter (p1 : Nat) (p2 : Int32) (p3 : Nat) (I : Mem) : Option (Int32 × Mem) :=
  obx (m_X11_letter p1 p2 I) (fun k I9 => (hv_letter k).map (fun c => (c, I9))) (fun r1 I2 => m_L_letter_j7 p3 ((0 : Int32)) r1 I2)
set_option maxRecDepth 100000 in
set_option maxHeartbeats 4000000 in
theorem m_L_letter_ok {Z : Zx} {K : (Int32 × Mem) → Prop} (C : Cx Z cL_letter 4 RL) (hR : RM Z 7 111) (p1 : Nat) (p2 : Int32) (p3 : Nat) (hp1 : isO p1 11) (hp3 : isA p3 3 1) (I : Mem) (hst : (zl Z).stackTraces = false) (hNC : NCs (zs Z)) (htab : (zc Z).exceptionTable.toList = tableOf [(0, 9, 12, 36)]) (hc : Z.2.2.1 + 1 ≤ (zR Z).cells) (hs : Z.2.2.2.1 + 6 ≤ (zR Z).slots) (hK : ∀ y, K (y) → RetI Z cL_letter .int y.1 y.2) : WF Z K (m_L_letter p1 p2 p3 I) I 0 [some (rf (zG Z) p1), some (.int p2), some (rf (zG Z) p3), none] [] := by
  unfold m_L_letter
  refine w_aload_n (v := p3) C dL_letter_0 rfl (q := 1) rfl ?_
  refine w_iconst (v := (0)) C dL_letter_1 (by decide) (q := 2) rfl ?_
  refine w_aload_n (v := p1) C dL_letter_2 rfl (q := 3) rfl ?_
  refine w_iload_n (v := p2) C dL_letter_3 rfl (q := 4) rfl ?_
  refine w_callVC (val := fun v => some (.int v)) (st1 := fun r1 => [.int r1, .int 0, rf (zG Z) p3]) (As := [.int p2]) (st := [.int 0, rf (zG Z) p3]) (q := 7) (hv := hv_letter) (ex := fun c I' => (c, I')) C hR (okA hc (by decide)) (okA hs (by decide)) (fun x h => c_X11_letter (zl Z) hst (zG Z) p2 hp1 I h) hp1 mv_X11_letter lk_L_84 rfl (by decide) (fun _ => rfl) (Nat.le_of_ble_eq_true rfl) rfl rfl dL_letter_4 rfl ?_ (fun r1 I2 => ?_)
  · intro k9 c9 I9 h1 h2
    by_cases q0 : k9 = 2
    · subst q0
      have h3 : (some 1 : Option Int32) = some c9 := h1
      cases h3
      exact x_caught C (k := 2) (i := 3) (c := 1) (okA hc (by decide)) (okA hs (by decide)) [] ⟨0, 9, 12, 36⟩ [] (htab.trans rfl) (by decide) (by decide) cl_L_36 cs_2 (fun z hz => nomatch hz) (Nat.le_of_ble_eq_true rfl) (Or.inr ⟨3, rfl, dL_letter_12, rfl⟩) dL_letter_13 (by decide) rfl dL_letter_14 (hK _ h2)
    exact absurd h1 (by simp [hv_letter, q0])
  · exact WF.less (L' := [none, none, none, none]) (m_L_letter_j7_ok (C.bump (okA hc (by decide)) (okA hs (by decide))) hR p3 ((0 : Int32)) r1 hp3 I2 hK) trivial
theorem c_L_letter (l : Launch) (hst : l.stackTraces = false) (G : Gx) {p1 : Nat} (p2 : Int32) {p3 : Nat} (hp1 : isO p1 11) (hp3 : isA p3 3 1) (I : Mem) {x : Int32 × Mem} (h : m_L_letter p1 p2 p3 I = some x) : CtL l G yL_letter cL_letter 4 [(0, 9, 12, 36)] 7 111 1 6 [rf G p1, .int p2, rf G p3] I x.1 x.2 := CtL.of (by decide +kernel) rfl (Nat.le_of_ble_eq_true rfl) (fun Z hG hl C hR hNC htab hc hs hret => by
  subst hG
  subst hl
  exact m_L_letter_ok (K := fun y => y = x) C hR p1 p2 p3 hp1 hp3 I hst hNC htab hc hs (fun y hy => by subst hy; exact hret) x h rfl)
def hv_feedWritten (k : Nat) : Option Int32 := if k = 1 then some 1 else none
def m_L_feedWritten_j6 (y0 : Nat) (y1 : Int32) (y2 : Int32) (I : Mem) : Option (Int32 × Mem) :=
  gd (inb y1 1) (bnd (ms I y0 y1.toNatClampNeg y2) fun I3 => some ((0, I3)))
set_option maxRecDepth 100000 in
set_option maxHeartbeats 4000000 in
theorem m_L_feedWritten_j6_ok {Z : Zx} {K : (Int32 × Mem) → Prop} (C : Cx Z cL_feedWritten 3 RL) (hR : RM Z 7 110) (y0 : Nat) (y1 : Int32) (y2 : Int32) (hy0 : isA y0 3 1) (I : Mem) (hK : ∀ y, K (y) → RetI Z cL_feedWritten .int y.1 y.2) : WF Z K (m_L_feedWritten_j6 y0 y1 y2 I) I 6 [none, none, none] [.int y2, .int y1, rf (zG Z) y0] := by
  unfold m_L_feedWritten_j6
  refine w_i2l C dL_feedWritten_6 (q := 7) rfl ?_
  refine w_last C hy0 dL_feedWritten_7 (q := 8) rfl (fun _ I3 => ?_)
  refine w_goto (tgt := 14) C dL_feedWritten_8 (by decide) ?_
  refine w_iconst (v := (0)) C dL_feedWritten_14 (by decide) (q := 15) rfl ?_
  exact w_iret C (hK _) rfl dL_feedWritten_15
def m_L_feedWritten (p1 : Nat) (p2 : Nat) (I : Mem) : Option (Int32 × Mem) :=
  obx (m_X11_feedWritten p1 I) (fun k I9 => (hv_feedWritten k).map (fun c => (c, I9))) (fun r1 I2 => m_L_feedWritten_j6 p2 ((0 : Int32)) r1 I2)
set_option maxRecDepth 100000 in
set_option maxHeartbeats 4000000 in
theorem m_L_feedWritten_ok {Z : Zx} {K : (Int32 × Mem) → Prop} (C : Cx Z cL_feedWritten 3 RL) (hR : RM Z 7 110) (p1 : Nat) (p2 : Nat) (hp1 : isO p1 11) (hp2 : isA p2 3 1) (I : Mem) (hst : (zl Z).stackTraces = false) (hNC : NCs (zs Z)) (htab : (zc Z).exceptionTable.toList = tableOf [(0, 8, 11, 15)]) (hc : Z.2.2.1 + 1 ≤ (zR Z).cells) (hs : Z.2.2.2.1 + 6 ≤ (zR Z).slots) (hK : ∀ y, K (y) → RetI Z cL_feedWritten .int y.1 y.2) : WF Z K (m_L_feedWritten p1 p2 I) I 0 [some (rf (zG Z) p1), some (rf (zG Z) p2), none] [] := by
  unfold m_L_feedWritten
  refine w_aload_n (v := p2) C dL_feedWritten_0 rfl (q := 1) rfl ?_
  refine w_iconst (v := (0)) C dL_feedWritten_1 (by decide) (q := 2) rfl ?_
  refine w_aload_n (v := p1) C dL_feedWritten_2 rfl (q := 3) rfl ?_
  refine w_callVC (val := fun v => some (.int v)) (st1 := fun r1 => [.int r1, .int 0, rf (zG Z) p2]) (As := []) (st := [.int 0, rf (zG Z) p2]) (q := 6) (hv := hv_feedWritten) (ex := fun c I' => (c, I')) C hR (okA hc (by decide)) (okA hs (by decide)) (fun x h => c_X11_feedWritten (zl Z) hst (zG Z)  hp1 I h) hp1 mv_X11_feedWritten lk_L_87 rfl (by decide) (fun _ => rfl) (Nat.le_of_ble_eq_true rfl) rfl rfl dL_feedWritten_3 rfl ?_ (fun r1 I2 => ?_)
  · intro k9 c9 I9 h1 h2
    by_cases q0 : k9 = 1
    · subst q0
      have h3 : (some 1 : Option Int32) = some c9 := h1
      cases h3
      exact x_caught C (k := 1) (i := 2) (c := 1) (okA hc (by decide)) (okA hs (by decide)) [] ⟨0, 8, 11, 15⟩ [] (htab.trans rfl) (by decide) (by decide) cl_L_15 cs_1 (fun z hz => nomatch hz) (Nat.le_of_ble_eq_true rfl) (Or.inr ⟨2, rfl, dL_feedWritten_11, rfl⟩) dL_feedWritten_12 (by decide) rfl dL_feedWritten_13 (hK _ h2)
    exact absurd h1 (by simp [hv_feedWritten, q0])
  · exact WF.less (L' := [none, none, none]) (m_L_feedWritten_j6_ok (C.bump (okA hc (by decide)) (okA hs (by decide))) hR p2 ((0 : Int32)) r1 hp2 I2 hK) trivial
theorem c_L_feedWritten (l : Launch) (hst : l.stackTraces = false) (G : Gx) {p1 : Nat} {p2 : Nat} (hp1 : isO p1 11) (hp2 : isA p2 3 1) (I : Mem) {x : Int32 × Mem} (h : m_L_feedWritten p1 p2 I = some x) : CtL l G yL_feedWritten cL_feedWritten 3 [(0, 8, 11, 15)] 7 110 1 6 [rf G p1, rf G p2] I x.1 x.2 := CtL.of (by decide +kernel) rfl (Nat.le_of_ble_eq_true rfl) (fun Z hG hl C hR hNC htab hc hs hret => by
  subst hG
  subst hl
  exact m_L_feedWritten_ok (K := fun y => y = x) C hR p1 p2 hp1 hp2 I hst hNC htab hc hs (fun y hy => by subst hy; exact hret) x h rfl)
