def m_X12_faultKind_j20 (k : Nat) (p1 : Int32) (y0 : Nat) (y1 : Int32) (I : Mem) : Option (Int32 × Mem) :=
  Option.bind (m_X12_isFine y0 y1 I) fun r2 => if r2.1 = 0 then (some ((0, r2.2))) else (gd (inb p1 160) (some ((r2.2 (k + 11) p1.toNatClampNeg, r2.2))))
set_option maxRecDepth 100000 in
set_option maxHeartbeats 4000000 in
theorem m_X12_faultKind_j20_ok {Z : Zx} {K : (Int32 × Mem) → Prop} (C : Cx Z cX12_faultKind 2 RX12) (hR : RM Z 1 22) (k : Nat) (p1 : Int32) (y0 : Nat) (y1 : Int32) (hk : isO k 12) (hy0 : isO y0 12) (I : Mem) (hK : ∀ y, K (y) → RetI Z cX12_faultKind .int y.1 y.2) : WF Z K (m_X12_faultKind_j20 k p1 y0 y1 I) I 20 [some (rf (zG Z) k), some (.int p1)] [.int y1, rf (zG Z) y0] := by
  unfold m_X12_faultKind_j20
  refine w_callV (val := fun r2 => some (.int r2.1)) (mem := fun r2 => r2.2) (st1 := fun r2 => [.int r2.1]) (As := [.int y1]) (st := []) (q := 23) C hR (fun x h => c_X12_isFine (zl Z) (zG Z) y1 hy0 I h) hy0 mv_X12_isFine lk_X12_126 rfl (by decide) (fun _ => rfl) (Nat.le_of_ble_eq_true rfl) rfl rfl dX12_faultKind_20 rfl (fun r2 => ?_)
  refine w_if_eq (tgt := 35) (q := 26) C dX12_faultKind_23 (by decide) rfl (fun _ => ?_) (fun _ => ?_)
  · refine w_iconst (v := (0)) C dX12_faultKind_35 (by decide) (q := 36) rfl ?_
    exact w_iret C (hK _) rfl dX12_faultKind_36
  · refine w_aload_n (v := k) C dX12_faultKind_26 rfl (q := 27) rfl ?_
    refine g_X12_14 C hk lk_X12_42 dX12_faultKind_27 (q := 30) rfl ?_
    refine w_iload_n (v := p1) C dX12_faultKind_30 rfl (q := 31) rfl ?_
    refine w_iald C (st_X12_14 hk).2 dX12_faultKind_31 (q := 32) rfl (fun _ => ?_)
    refine w_goto (tgt := 36) C dX12_faultKind_32 (by decide) ?_
    exact w_iret C (hK _) rfl dX12_faultKind_36
def m_X12_faultKind (k : Nat) (p1 : Int32) (I : Mem) : Option (Int32 × Mem) :=
  Option.bind (m_X12_in p1 ((0 : Int32)) ((I k 16) - 1) I) fun r1 => if r1 = 0 then (m_X12_faultKind_j20 k p1 k ((1 : Int32)) I) else (m_X12_faultKind_j20 k p1 k ((0 : Int32)) I)
set_option maxRecDepth 100000 in
set_option maxHeartbeats 4000000 in
theorem m_X12_faultKind_ok {Z : Zx} {K : (Int32 × Mem) → Prop} (C : Cx Z cX12_faultKind 2 RX12) (hR : RM Z 1 22) (k : Nat) (p1 : Int32) (hk : isO k 12) (I : Mem) (hK : ∀ y, K (y) → RetI Z cX12_faultKind .int y.1 y.2) : WF Z K (m_X12_faultKind k p1 I) I 0 [some (rf (zG Z) k), some (.int p1)] [] := by
  unfold m_X12_faultKind
  refine w_aload_n (v := k) C dX12_faultKind_0 rfl (q := 1) rfl ?_
  refine w_iload_n (v := p1) C dX12_faultKind_1 rfl (q := 2) rfl ?_
  refine w_iconst (v := (0)) C dX12_faultKind_2 (by decide) (q := 3) rfl ?_
  refine w_aload_n (v := k) C dX12_faultKind_3 rfl (q := 4) rfl ?_
  refine g_X12_16 C hk lk_X12_146 dX12_faultKind_4 (q := 7) rfl ?_
  refine w_iconst (v := (1)) C dX12_faultKind_7 (by decide) (q := 8) rfl ?_
  refine w_isub C dX12_faultKind_8 (q := 9) rfl ?_
  refine w_callS (val := fun r1 => some (.int r1)) (mem := fun r1 => I) (st1 := fun r1 => [.int r1, rf (zG Z) k]) (As := [.int p1, .int 0, .int ((I k 16) - 1)]) (st := [rf (zG Z) k]) (q := 12) C hR (fun x h => c_X12_in (zl Z) (zG Z) p1 ((0 : Int32)) ((I k 16) - 1)  I h) mv_X12_in lk_X12_115 rfl (by decide) (fun _ => rfl) (Nat.le_of_ble_eq_true rfl) rfl rfl dX12_faultKind_9 rfl (fun r1 => ?_)
  refine w_if_eq (tgt := 19) (q := 15) C dX12_faultKind_12 (by decide) rfl (fun _ => ?_) (fun _ => ?_)
  · refine w_iconst (v := (1)) C dX12_faultKind_19 (by decide) (q := 20) rfl ?_
    exact WF.less (L' := [some (rf (zG Z) k), some (.int p1)]) (m_X12_faultKind_j20_ok C hR k p1 k ((1 : Int32)) hk hk I hK) ⟨rfl, rfl, trivial⟩
  · refine w_iconst (v := (0)) C dX12_faultKind_15 (by decide) (q := 16) rfl ?_
    refine w_goto (tgt := 20) C dX12_faultKind_16 (by decide) ?_
    exact WF.less (L' := [some (rf (zG Z) k), some (.int p1)]) (m_X12_faultKind_j20_ok C hR k p1 k ((0 : Int32)) hk hk I hK) ⟨rfl, rfl, trivial⟩
theorem c_X12_faultKind (l : Launch) (G : Gx) {k : Nat} (p1 : Int32) (hk : isO k 12) (I : Mem) {x : Int32 × Mem} (h : m_X12_faultKind k p1 I = some x) : Ct l G yX12_faultKind cX12_faultKind 2 (some (.int)) 1 22 [rf G k, .int p1] I (some (.int x.1)) x.2 := Ct.of (by decide +kernel) rfl (Nat.le_of_ble_eq_true rfl) ret_i (fun Z hG hl C hR hret => by
  subst hG
  exact m_X12_faultKind_ok (K := fun y => y = x) C hR k p1 hk I (fun y hy => by subst hy; exact hret) x h rfl)
def m_X12_faultPlace_j20 (k : Nat) (p1 : Int32) (y0 : Nat) (y1 : Int32) (I : Mem) : Option (Int32 × Mem) :=
  Option.bind (m_X12_isFine y0 y1 I) fun r2 => if r2.1 = 0 then (some ((0, r2.2))) else (gd (inb p1 160) (some ((r2.2 (k + 12) p1.toNatClampNeg, r2.2))))
set_option maxRecDepth 100000 in
set_option maxHeartbeats 4000000 in
theorem m_X12_faultPlace_j20_ok {Z : Zx} {K : (Int32 × Mem) → Prop} (C : Cx Z cX12_faultPlace 2 RX12) (hR : RM Z 1 22) (k : Nat) (p1 : Int32) (y0 : Nat) (y1 : Int32) (hk : isO k 12) (hy0 : isO y0 12) (I : Mem) (hK : ∀ y, K (y) → RetI Z cX12_faultPlace .int y.1 y.2) : WF Z K (m_X12_faultPlace_j20 k p1 y0 y1 I) I 20 [some (rf (zG Z) k), some (.int p1)] [.int y1, rf (zG Z) y0] := by
  unfold m_X12_faultPlace_j20
  refine w_callV (val := fun r2 => some (.int r2.1)) (mem := fun r2 => r2.2) (st1 := fun r2 => [.int r2.1]) (As := [.int y1]) (st := []) (q := 23) C hR (fun x h => c_X12_isFine (zl Z) (zG Z) y1 hy0 I h) hy0 mv_X12_isFine lk_X12_126 rfl (by decide) (fun _ => rfl) (Nat.le_of_ble_eq_true rfl) rfl rfl dX12_faultPlace_20 rfl (fun r2 => ?_)
  refine w_if_eq (tgt := 35) (q := 26) C dX12_faultPlace_23 (by decide) rfl (fun _ => ?_) (fun _ => ?_)
  · refine w_iconst (v := (0)) C dX12_faultPlace_35 (by decide) (q := 36) rfl ?_
    exact w_iret C (hK _) rfl dX12_faultPlace_36
  · refine w_aload_n (v := k) C dX12_faultPlace_26 rfl (q := 27) rfl ?_
    refine g_X12_15 C hk lk_X12_45 dX12_faultPlace_27 (q := 30) rfl ?_
    refine w_iload_n (v := p1) C dX12_faultPlace_30 rfl (q := 31) rfl ?_
    refine w_iald C (st_X12_15 hk).2 dX12_faultPlace_31 (q := 32) rfl (fun _ => ?_)
    refine w_goto (tgt := 36) C dX12_faultPlace_32 (by decide) ?_
    exact w_iret C (hK _) rfl dX12_faultPlace_36
def m_X12_faultPlace (k : Nat) (p1 : Int32) (I : Mem) : Option (Int32 × Mem) :=
  Option.bind (m_X12_in p1 ((0 : Int32)) ((I k 16) - 1) I) fun r1 => if r1 = 0 then (m_X12_faultPlace_j20 k p1 k ((1 : Int32)) I) else (m_X12_faultPlace_j20 k p1 k ((0 : Int32)) I)
set_option maxRecDepth 100000 in
set_option maxHeartbeats 4000000 in
theorem m_X12_faultPlace_ok {Z : Zx} {K : (Int32 × Mem) → Prop} (C : Cx Z cX12_faultPlace 2 RX12) (hR : RM Z 1 22) (k : Nat) (p1 : Int32) (hk : isO k 12) (I : Mem) (hK : ∀ y, K (y) → RetI Z cX12_faultPlace .int y.1 y.2) : WF Z K (m_X12_faultPlace k p1 I) I 0 [some (rf (zG Z) k), some (.int p1)] [] := by
  unfold m_X12_faultPlace
  refine w_aload_n (v := k) C dX12_faultPlace_0 rfl (q := 1) rfl ?_
  refine w_iload_n (v := p1) C dX12_faultPlace_1 rfl (q := 2) rfl ?_
  refine w_iconst (v := (0)) C dX12_faultPlace_2 (by decide) (q := 3) rfl ?_
  refine w_aload_n (v := k) C dX12_faultPlace_3 rfl (q := 4) rfl ?_
  refine g_X12_16 C hk lk_X12_146 dX12_faultPlace_4 (q := 7) rfl ?_
  refine w_iconst (v := (1)) C dX12_faultPlace_7 (by decide) (q := 8) rfl ?_
  refine w_isub C dX12_faultPlace_8 (q := 9) rfl ?_
  refine w_callS (val := fun r1 => some (.int r1)) (mem := fun r1 => I) (st1 := fun r1 => [.int r1, rf (zG Z) k]) (As := [.int p1, .int 0, .int ((I k 16) - 1)]) (st := [rf (zG Z) k]) (q := 12) C hR (fun x h => c_X12_in (zl Z) (zG Z) p1 ((0 : Int32)) ((I k 16) - 1)  I h) mv_X12_in lk_X12_115 rfl (by decide) (fun _ => rfl) (Nat.le_of_ble_eq_true rfl) rfl rfl dX12_faultPlace_9 rfl (fun r1 => ?_)
  refine w_if_eq (tgt := 19) (q := 15) C dX12_faultPlace_12 (by decide) rfl (fun _ => ?_) (fun _ => ?_)
  · refine w_iconst (v := (1)) C dX12_faultPlace_19 (by decide) (q := 20) rfl ?_
    exact WF.less (L' := [some (rf (zG Z) k), some (.int p1)]) (m_X12_faultPlace_j20_ok C hR k p1 k ((1 : Int32)) hk hk I hK) ⟨rfl, rfl, trivial⟩
  · refine w_iconst (v := (0)) C dX12_faultPlace_15 (by decide) (q := 16) rfl ?_
    refine w_goto (tgt := 20) C dX12_faultPlace_16 (by decide) ?_
    exact WF.less (L' := [some (rf (zG Z) k), some (.int p1)]) (m_X12_faultPlace_j20_ok C hR k p1 k ((0 : Int32)) hk hk I hK) ⟨rfl, rfl, trivial⟩
theorem c_X12_faultPlace (l : Launch) (G : Gx) {k : Nat} (p1 : Int32) (hk : isO k 12) (I : Mem) {x : Int32 × Mem} (h : m_X12_faultPlace k p1 I = some x) : Ct l G yX12_faultPlace cX12_faultPlace 2 (some (.int)) 1 22 [rf G k, .int p1] I (some (.int x.1)) x.2 := Ct.of (by decide +kernel) rfl (Nat.le_of_ble_eq_true rfl) ret_i (fun Z hG hl C hR hret => by
  subst hG
  exact m_X12_faultPlace_ok (K := fun y => y = x) C hR k p1 hk I (fun y hy => by subst hy; exact hret) x h rfl)
def m_X12_control_j13 (k : Nat) (y0 : Nat) (y1 : Int32) (I : Mem) : Option (Int32 × Mem) :=
  Option.bind (m_X12_isFine y0 y1 I) fun r1 => if r1.1 = 0 then (some ((0, r1.2))) else (some ((r1.2 k 25, r1.2)))
set_option maxRecDepth 100000 in
set_option maxHeartbeats 4000000 in
theorem m_X12_control_j13_ok {Z : Zx} {K : (Int32 × Mem) → Prop} (C : Cx Z cX12_control 1 RX12) (hR : RM Z 1 21) (k : Nat) (y0 : Nat) (y1 : Int32) (hk : isO k 12) (hy0 : isO y0 12) (I : Mem) (hK : ∀ y, K (y) → RetI Z cX12_control .int y.1 y.2) : WF Z K (m_X12_control_j13 k y0 y1 I) I 13 [some (rf (zG Z) k)] [.int y1, rf (zG Z) y0] := by
  unfold m_X12_control_j13
  refine w_callV (val := fun r1 => some (.int r1.1)) (mem := fun r1 => r1.2) (st1 := fun r1 => [.int r1.1]) (As := [.int y1]) (st := []) (q := 16) C hR (fun x h => c_X12_isFine (zl Z) (zG Z) y1 hy0 I h) hy0 mv_X12_isFine lk_X12_126 rfl (by decide) (fun _ => rfl) (Nat.le_of_ble_eq_true rfl) rfl rfl dX12_control_13 rfl (fun r1 => ?_)
  refine w_if_eq (tgt := 26) (q := 19) C dX12_control_16 (by decide) rfl (fun _ => ?_) (fun _ => ?_)
  · refine w_iconst (v := (0)) C dX12_control_26 (by decide) (q := 27) rfl ?_
    exact w_iret C (hK _) rfl dX12_control_27
  · refine w_aload_n (v := k) C dX12_control_19 rfl (q := 20) rfl ?_
    refine g_X12_25 C hk lk_X12_170 dX12_control_20 (q := 23) rfl ?_
    refine w_goto (tgt := 27) C dX12_control_23 (by decide) ?_
    exact w_iret C (hK _) rfl dX12_control_27
def m_X12_control (k : Nat) (I : Mem) : Option (Int32 × Mem) :=
  if I k 24 = 0 then (m_X12_control_j13 k k ((1 : Int32)) I) else (m_X12_control_j13 k k ((0 : Int32)) I)
set_option maxRecDepth 100000 in
set_option maxHeartbeats 4000000 in
theorem m_X12_control_ok {Z : Zx} {K : (Int32 × Mem) → Prop} (C : Cx Z cX12_control 1 RX12) (hR : RM Z 1 21) (k : Nat) (hk : isO k 12) (I : Mem) (hK : ∀ y, K (y) → RetI Z cX12_control .int y.1 y.2) : WF Z K (m_X12_control k I) I 0 [some (rf (zG Z) k)] [] := by
  unfold m_X12_control
  refine w_aload_n (v := k) C dX12_control_0 rfl (q := 1) rfl ?_
  refine w_aload_n (v := k) C dX12_control_1 rfl (q := 2) rfl ?_
  refine g_X12_24 C hk lk_X12_167 dX12_control_2 (q := 5) rfl ?_
  refine w_if_eq (tgt := 12) (q := 8) C dX12_control_5 (by decide) rfl (fun _ => ?_) (fun _ => ?_)
  · refine w_iconst (v := (1)) C dX12_control_12 (by decide) (q := 13) rfl ?_
    exact WF.less (L' := [some (rf (zG Z) k)]) (m_X12_control_j13_ok C hR k k ((1 : Int32)) hk hk I hK) ⟨rfl, trivial⟩
  · refine w_iconst (v := (0)) C dX12_control_8 (by decide) (q := 9) rfl ?_
    refine w_goto (tgt := 13) C dX12_control_9 (by decide) ?_
    exact WF.less (L' := [some (rf (zG Z) k)]) (m_X12_control_j13_ok C hR k k ((0 : Int32)) hk hk I hK) ⟨rfl, trivial⟩
theorem c_X12_control (l : Launch) (G : Gx) {k : Nat} (hk : isO k 12) (I : Mem) {x : Int32 × Mem} (h : m_X12_control k I = some x) : Ct l G yX12_control cX12_control 1 (some (.int)) 1 21 [rf G k] I (some (.int x.1)) x.2 := Ct.of (by decide +kernel) rfl (Nat.le_of_ble_eq_true rfl) ret_i (fun Z hG hl C hR hret => by
  subst hG
  exact m_X12_control_ok (K := fun y => y = x) C hR k hk I (fun y hy => by subst hy; exact hret) x h rfl)
def m_X12_segments_j13 (k : Nat) (y0 : Nat) (y1 : Int32) (I : Mem) : Option (Int32 × Mem) :=
  Option.bind (m_X12_isFine y0 y1 I) fun r1 => if r1.1 = 0 then (some ((0, r1.2))) else (some ((r1.2 k 32, r1.2)))
set_option maxRecDepth 100000 in
set_option maxHeartbeats 4000000 in
theorem m_X12_segments_j13_ok {Z : Zx} {K : (Int32 × Mem) → Prop} (C : Cx Z cX12_segments 1 RX12) (hR : RM Z 1 21) (k : Nat) (y0 : Nat) (y1 : Int32) (hk : isO k 12) (hy0 : isO y0 12) (I : Mem) (hK : ∀ y, K (y) → RetI Z cX12_segments .int y.1 y.2) : WF Z K (m_X12_segments_j13 k y0 y1 I) I 13 [some (rf (zG Z) k)] [.int y1, rf (zG Z) y0] := by
  unfold m_X12_segments_j13
  refine w_callV (val := fun r1 => some (.int r1.1)) (mem := fun r1 => r1.2) (st1 := fun r1 => [.int r1.1]) (As := [.int y1]) (st := []) (q := 16) C hR (fun x h => c_X12_isFine (zl Z) (zG Z) y1 hy0 I h) hy0 mv_X12_isFine lk_X12_126 rfl (by decide) (fun _ => rfl) (Nat.le_of_ble_eq_true rfl) rfl rfl dX12_segments_13 rfl (fun r1 => ?_)
  refine w_if_eq (tgt := 26) (q := 19) C dX12_segments_16 (by decide) rfl (fun _ => ?_) (fun _ => ?_)
  · refine w_iconst (v := (0)) C dX12_segments_26 (by decide) (q := 27) rfl ?_
    exact w_iret C (hK _) rfl dX12_segments_27
  · refine w_aload_n (v := k) C dX12_segments_19 rfl (q := 20) rfl ?_
    refine g_X12_32 C hk lk_X12_200 dX12_segments_20 (q := 23) rfl ?_
    refine w_goto (tgt := 27) C dX12_segments_23 (by decide) ?_
    exact w_iret C (hK _) rfl dX12_segments_27
def m_X12_segments (k : Nat) (I : Mem) : Option (Int32 × Mem) :=
  if I k 23 = 0 then (m_X12_segments_j13 k k ((1 : Int32)) I) else (m_X12_segments_j13 k k ((0 : Int32)) I)
set_option maxRecDepth 100000 in
set_option maxHeartbeats 4000000 in
theorem m_X12_segments_ok {Z : Zx} {K : (Int32 × Mem) → Prop} (C : Cx Z cX12_segments 1 RX12) (hR : RM Z 1 21) (k : Nat) (hk : isO k 12) (I : Mem) (hK : ∀ y, K (y) → RetI Z cX12_segments .int y.1 y.2) : WF Z K (m_X12_segments k I) I 0 [some (rf (zG Z) k)] [] := by
  unfold m_X12_segments
  refine w_aload_n (v := k) C dX12_segments_0 rfl (q := 1) rfl ?_
  refine w_aload_n (v := k) C dX12_segments_1 rfl (q := 2) rfl ?_
  refine g_X12_23 C hk lk_X12_140 dX12_segments_2 (q := 5) rfl ?_
  refine w_if_eq (tgt := 12) (q := 8) C dX12_segments_5 (by decide) rfl (fun _ => ?_) (fun _ => ?_)
  · refine w_iconst (v := (1)) C dX12_segments_12 (by decide) (q := 13) rfl ?_
    exact WF.less (L' := [some (rf (zG Z) k)]) (m_X12_segments_j13_ok C hR k k ((1 : Int32)) hk hk I hK) ⟨rfl, trivial⟩
  · refine w_iconst (v := (0)) C dX12_segments_8 (by decide) (q := 9) rfl ?_
    refine w_goto (tgt := 13) C dX12_segments_9 (by decide) ?_
    exact WF.less (L' := [some (rf (zG Z) k)]) (m_X12_segments_j13_ok C hR k k ((0 : Int32)) hk hk I hK) ⟨rfl, trivial⟩
theorem c_X12_segments (l : Launch) (G : Gx) {k : Nat} (hk : isO k 12) (I : Mem) {x : Int32 × Mem} (h : m_X12_segments k I = some x) : Ct l G yX12_segments cX12_segments 1 (some (.int)) 1 21 [rf G k] I (some (.int x.1)) x.2 := Ct.of (by decide +kernel) rfl (Nat.le_of_ble_eq_true rfl) ret_i (fun Z hG hl C hR hret => by
  subst hG
  exact m_X12_segments_ok (K := fun y => y = x) C hR k hk I (fun y hy => by subst hy; exact hret) x h rfl)
def m_X12_wrong (k : Nat) (p1 : Int32) (I : Mem) : Option (Int32) :=
  if I k 23 = 0 then (some 1) else (Option.bind (m_X12_in p1 ((0 : Int32)) ((I k 32) - 1) I) fun r1 => if r1 = 0 then (some 2) else (some 0))
set_option maxRecDepth 100000 in
set_option maxHeartbeats 4000000 in
theorem m_X12_wrong_ok {Z : Zx} {K : Int32 → Prop} (C : Cx Z cX12_wrong 2 RX12) (hR : RM Z 1 22) (k : Nat) (p1 : Int32) (hk : isO k 12) (I : Mem) (hK : ∀ y, K (y) → RetI Z cX12_wrong .int y I) : WF Z K (m_X12_wrong k p1 I) I 0 [some (rf (zG Z) k), some (.int p1)] [] := by
  unfold m_X12_wrong
  refine w_aload_n (v := k) C dX12_wrong_0 rfl (q := 1) rfl ?_
  refine g_X12_23 C hk lk_X12_140 dX12_wrong_1 (q := 4) rfl ?_
  refine w_if_ne (tgt := 11) (q := 7) C dX12_wrong_4 (by decide) rfl (fun _ => ?_) (fun _ => ?_)
  · refine w_iconst (v := (1)) C dX12_wrong_7 (by decide) (q := 8) rfl ?_
    refine w_goto (tgt := 30) C dX12_wrong_8 (by decide) ?_
    exact w_iret C (hK _) rfl dX12_wrong_30
  · refine w_iload_n (v := p1) C dX12_wrong_11 rfl (q := 12) rfl ?_
    refine w_iconst (v := (0)) C dX12_wrong_12 (by decide) (q := 13) rfl ?_
    refine w_aload_n (v := k) C dX12_wrong_13 rfl (q := 14) rfl ?_
    refine g_X12_32 C hk lk_X12_200 dX12_wrong_14 (q := 17) rfl ?_
    refine w_iconst (v := (1)) C dX12_wrong_17 (by decide) (q := 18) rfl ?_
    refine w_isub C dX12_wrong_18 (q := 19) rfl ?_
    refine w_callS (val := fun r1 => some (.int r1)) (mem := fun r1 => I) (st1 := fun r1 => [.int r1]) (As := [.int p1, .int 0, .int ((I k 32) - 1)]) (st := []) (q := 22) C hR (fun x h => c_X12_in (zl Z) (zG Z) p1 ((0 : Int32)) ((I k 32) - 1)  I h) mv_X12_in lk_X12_115 rfl (by decide) (fun _ => rfl) (Nat.le_of_ble_eq_true rfl) rfl rfl dX12_wrong_19 rfl (fun r1 => ?_)
    refine w_if_ne (tgt := 29) (q := 25) C dX12_wrong_22 (by decide) rfl (fun _ => ?_) (fun _ => ?_)
    · refine w_iconst (v := (2)) C dX12_wrong_25 (by decide) (q := 26) rfl ?_
      refine w_goto (tgt := 30) C dX12_wrong_26 (by decide) ?_
      exact w_iret C (hK _) rfl dX12_wrong_30
    · refine w_iconst (v := (0)) C dX12_wrong_29 (by decide) (q := 30) rfl ?_
      exact w_iret C (hK _) rfl dX12_wrong_30
theorem c_X12_wrong (l : Launch) (G : Gx) {k : Nat} (p1 : Int32) (hk : isO k 12) (I : Mem) {x : Int32} (h : m_X12_wrong k p1 I = some x) : Ct l G yX12_wrong cX12_wrong 2 (some (.int)) 1 22 [rf G k, .int p1] I (some (.int x)) I := Ct.of (by decide +kernel) rfl (Nat.le_of_ble_eq_true rfl) ret_i (fun Z hG hl C hR hret => by
  subst hG
  exact m_X12_wrong_ok (K := fun y => y = x) C hR k p1 hk I (fun y hy => by subst hy; exact hret) x h rfl)
def m_X12_wrongElement (k : Nat) (p1 : Int32) (p2 : Int32) (I : Mem) : Option (Int32) :=
  Option.bind (m_X12_wrong k p1 I) fun r1 => if r1 = 0 then (gd (inb p1 20) (Option.bind (m_X12_in p2 ((0 : Int32)) ((I (k + 19) p1.toNatClampNeg) - 1) I) fun r2 => if r2 = 0 then (some 2) else (some r1))) else (some r1)
set_option maxRecDepth 100000 in
set_option maxHeartbeats 4000000 in
theorem m_X12_wrongElement_ok {Z : Zx} {K : Int32 → Prop} (C : Cx Z cX12_wrongElement 4 RX12) (hR : RM Z 2 43) (k : Nat) (p1 : Int32) (p2 : Int32) (hk : isO k 12) (I : Mem) (hK : ∀ y, K (y) → RetI Z cX12_wrongElement .int y I) : WF Z K (m_X12_wrongElement k p1 p2 I) I 0 [some (rf (zG Z) k), some (.int p1), some (.int p2), none] [] := by
  unfold m_X12_wrongElement
  refine w_aload_n (v := k) C dX12_wrongElement_0 rfl (q := 1) rfl ?_
  refine w_iload_n (v := p1) C dX12_wrongElement_1 rfl (q := 2) rfl ?_
  refine w_callV (val := fun r1 => some (.int r1)) (mem := fun r1 => I) (st1 := fun r1 => [.int r1]) (As := [.int p1]) (st := []) (q := 5) C hR (fun x h => c_X12_wrong (zl Z) (zG Z) p1 hk I h) hk mv_X12_wrong lk_X12_218 rfl (by decide) (fun _ => rfl) (Nat.le_of_ble_eq_true rfl) rfl rfl dX12_wrongElement_2 rfl (fun r1 => ?_)
  refine w_istore_n C dX12_wrongElement_5 (Nat.le_of_ble_eq_true rfl) (L' := [some (rf (zG Z) k), some (.int p1), some (.int p2), some (.int r1)]) rfl (q := 6) rfl ?_
  refine w_iload_n (v := r1) C dX12_wrongElement_6 rfl (q := 7) rfl ?_
  refine w_if_ne (tgt := 30) (q := 10) C dX12_wrongElement_7 (by decide) rfl (fun _ => ?_) (fun _ => ?_)
  · refine w_iload_n (v := p2) C dX12_wrongElement_10 rfl (q := 11) rfl ?_
    refine w_iconst (v := (0)) C dX12_wrongElement_11 (by decide) (q := 12) rfl ?_
    refine w_aload_n (v := k) C dX12_wrongElement_12 rfl (q := 13) rfl ?_
    refine g_X12_27 C hk lk_X12_66 dX12_wrongElement_13 (q := 16) rfl ?_
    refine w_iload_n (v := p1) C dX12_wrongElement_16 rfl (q := 17) rfl ?_
    refine w_iald C (st_X12_27 hk).2 dX12_wrongElement_17 (q := 18) rfl (fun _ => ?_)
    refine w_iconst (v := (1)) C dX12_wrongElement_18 (by decide) (q := 19) rfl ?_
    refine w_isub C dX12_wrongElement_19 (q := 20) rfl ?_
    refine w_callS (val := fun r2 => some (.int r2)) (mem := fun r2 => I) (st1 := fun r2 => [.int r2]) (As := [.int p2, .int 0, .int ((I (k + 19) p1.toNatClampNeg) - 1)]) (st := []) (q := 23) C hR (fun x h => c_X12_in (zl Z) (zG Z) p2 ((0 : Int32)) ((I (k + 19) p1.toNatClampNeg) - 1)  I h) mv_X12_in lk_X12_115 rfl (by decide) (fun _ => rfl) (Nat.le_of_ble_eq_true rfl) rfl rfl dX12_wrongElement_20 rfl (fun r2 => ?_)
    refine w_if_ne (tgt := 30) (q := 26) C dX12_wrongElement_23 (by decide) rfl (fun _ => ?_) (fun _ => ?_)
    · refine w_iconst (v := (2)) C dX12_wrongElement_26 (by decide) (q := 27) rfl ?_
      refine w_goto (tgt := 31) C dX12_wrongElement_27 (by decide) ?_
      exact w_iret C (hK _) rfl dX12_wrongElement_31
    · refine w_iload_n (v := r1) C dX12_wrongElement_30 rfl (q := 31) rfl ?_
      exact w_iret C (hK _) rfl dX12_wrongElement_31
  · refine w_iload_n (v := r1) C dX12_wrongElement_30 rfl (q := 31) rfl ?_
    exact w_iret C (hK _) rfl dX12_wrongElement_31
theorem c_X12_wrongElement (l : Launch) (G : Gx) {k : Nat} (p1 : Int32) (p2 : Int32) (hk : isO k 12) (I : Mem) {x : Int32} (h : m_X12_wrongElement k p1 p2 I = some x) : Ct l G yX12_wrongElement cX12_wrongElement 4 (some (.int)) 2 43 [rf G k, .int p1, .int p2] I (some (.int x)) I := Ct.of (by decide +kernel) rfl (Nat.le_of_ble_eq_true rfl) ret_i (fun Z hG hl C hR hret => by
  subst hG
  exact m_X12_wrongElement_ok (K := fun y => y = x) C hR k p1 p2 hk I (fun y hy => by subst hy; exact hret) x h rfl)
def m_X12_tag (k : Nat) (p1 : Int32) (I : Mem) : Option (Int32 × Mem) :=
  Option.bind (m_X12_wrong k p1 I) fun r1 => Option.bind (m_X12_isFine k r1 I) fun r2 => if r2.1 = 0 then (some ((0, r2.2))) else (gd (inb p1 20) (gd (okc (r2.2 (k + 18) p1.toNatClampNeg)) (some ((r2.2 (k + 18) p1.toNatClampNeg, r2.2)))))
set_option maxRecDepth 100000 in
set_option maxHeartbeats 4000000 in
theorem m_X12_tag_ok {Z : Zx} {K : (Int32 × Mem) → Prop} (C : Cx Z cX12_tag 2 RX12) (hR : RM Z 2 43) (k : Nat) (p1 : Int32) (hk : isO k 12) (I : Mem) (hK : ∀ y, K (y) → RetI Z cX12_tag .char y.1 y.2) : WF Z K (m_X12_tag k p1 I) I 0 [some (rf (zG Z) k), some (.int p1)] [] := by
  unfold m_X12_tag
  refine w_aload_n (v := k) C dX12_tag_0 rfl (q := 1) rfl ?_
  refine w_aload_n (v := k) C dX12_tag_1 rfl (q := 2) rfl ?_
  refine w_iload_n (v := p1) C dX12_tag_2 rfl (q := 3) rfl ?_
  refine w_callV (val := fun r1 => some (.int r1)) (mem := fun r1 => I) (st1 := fun r1 => [.int r1, rf (zG Z) k]) (As := [.int p1]) (st := [rf (zG Z) k]) (q := 6) C hR (fun x h => c_X12_wrong (zl Z) (zG Z) p1 hk I h) hk mv_X12_wrong lk_X12_218 rfl (by decide) (fun _ => rfl) (Nat.le_of_ble_eq_true rfl) rfl rfl dX12_tag_3 rfl (fun r1 => ?_)
  refine w_callV (val := fun r2 => some (.int r2.1)) (mem := fun r2 => r2.2) (st1 := fun r2 => [.int r2.1]) (As := [.int r1]) (st := []) (q := 9) C hR (fun x h => c_X12_isFine (zl Z) (zG Z) r1 hk I h) hk mv_X12_isFine lk_X12_126 rfl (by decide) (fun _ => rfl) (Nat.le_of_ble_eq_true rfl) rfl rfl dX12_tag_6 rfl (fun r2 => ?_)
  refine w_if_eq (tgt := 21) (q := 12) C dX12_tag_9 (by decide) rfl (fun _ => ?_) (fun _ => ?_)
  · refine w_iconst (v := (0)) C dX12_tag_21 (by decide) (q := 22) rfl ?_
    exact w_iret C (hK _) (by decide) dX12_tag_22
  · refine w_aload_n (v := k) C dX12_tag_12 rfl (q := 13) rfl ?_
    refine g_X12_26 C hk lk_X12_63 dX12_tag_13 (q := 16) rfl ?_
    refine w_iload_n (v := p1) C dX12_tag_16 rfl (q := 17) rfl ?_
    refine w_cald C (st_X12_26 hk).2 dX12_tag_17 (q := 18) rfl (fun _ => ?_)
    refine w_goto (tgt := 22) C dX12_tag_18 (by decide) ?_
    refine w_gd (fun h3 => ?_)
    exact w_iret C (hK _) (okc_n h3).1 dX12_tag_22
theorem c_X12_tag (l : Launch) (G : Gx) {k : Nat} (p1 : Int32) (hk : isO k 12) (I : Mem) {x : Int32 × Mem} (h : m_X12_tag k p1 I = some x) : Ct l G yX12_tag cX12_tag 2 (some (.char)) 2 43 [rf G k, .int p1] I (some (.int x.1)) x.2 := Ct.of (by decide +kernel) rfl (Nat.le_of_ble_eq_true rfl) ret_i (fun Z hG hl C hR hret => by
  subst hG
  exact m_X12_tag_ok (K := fun y => y = x) C hR k p1 hk I (fun y hy => by subst hy; exact hret) x h rfl)
def m_X12_elements (k : Nat) (p1 : Int32) (I : Mem) : Option (Int32 × Mem) :=
  Option.bind (m_X12_wrong k p1 I) fun r1 => Option.bind (m_X12_isFine k r1 I) fun r2 => if r2.1 = 0 then (some ((0, r2.2))) else (gd (inb p1 20) (some ((r2.2 (k + 19) p1.toNatClampNeg, r2.2))))
set_option maxRecDepth 100000 in
set_option maxHeartbeats 4000000 in
theorem m_X12_elements_ok {Z : Zx} {K : (Int32 × Mem) → Prop} (C : Cx Z cX12_elements 2 RX12) (hR : RM Z 2 43) (k : Nat) (p1 : Int32) (hk : isO k 12) (I : Mem) (hK : ∀ y, K (y) → RetI Z cX12_elements .int y.1 y.2) : WF Z K (m_X12_elements k p1 I) I 0 [some (rf (zG Z) k), some (.int p1)] [] := by
  unfold m_X12_elements
  refine w_aload_n (v := k) C dX12_elements_0 rfl (q := 1) rfl ?_
  refine w_aload_n (v := k) C dX12_elements_1 rfl (q := 2) rfl ?_
  refine w_iload_n (v := p1) C dX12_elements_2 rfl (q := 3) rfl ?_
  refine w_callV (val := fun r1 => some (.int r1)) (mem := fun r1 => I) (st1 := fun r1 => [.int r1, rf (zG Z) k]) (As := [.int p1]) (st := [rf (zG Z) k]) (q := 6) C hR (fun x h => c_X12_wrong (zl Z) (zG Z) p1 hk I h) hk mv_X12_wrong lk_X12_218 rfl (by decide) (fun _ => rfl) (Nat.le_of_ble_eq_true rfl) rfl rfl dX12_elements_3 rfl (fun r1 => ?_)
  refine w_callV (val := fun r2 => some (.int r2.1)) (mem := fun r2 => r2.2) (st1 := fun r2 => [.int r2.1]) (As := [.int r1]) (st := []) (q := 9) C hR (fun x h => c_X12_isFine (zl Z) (zG Z) r1 hk I h) hk mv_X12_isFine lk_X12_126 rfl (by decide) (fun _ => rfl) (Nat.le_of_ble_eq_true rfl) rfl rfl dX12_elements_6 rfl (fun r2 => ?_)
  refine w_if_eq (tgt := 21) (q := 12) C dX12_elements_9 (by decide) rfl (fun _ => ?_) (fun _ => ?_)
  · refine w_iconst (v := (0)) C dX12_elements_21 (by decide) (q := 22) rfl ?_
    exact w_iret C (hK _) rfl dX12_elements_22
  · refine w_aload_n (v := k) C dX12_elements_12 rfl (q := 13) rfl ?_
    refine g_X12_27 C hk lk_X12_66 dX12_elements_13 (q := 16) rfl ?_
    refine w_iload_n (v := p1) C dX12_elements_16 rfl (q := 17) rfl ?_
    refine w_iald C (st_X12_27 hk).2 dX12_elements_17 (q := 18) rfl (fun _ => ?_)
    refine w_goto (tgt := 22) C dX12_elements_18 (by decide) ?_
    exact w_iret C (hK _) rfl dX12_elements_22
theorem c_X12_elements (l : Launch) (G : Gx) {k : Nat} (p1 : Int32) (hk : isO k 12) (I : Mem) {x : Int32 × Mem} (h : m_X12_elements k p1 I = some x) : Ct l G yX12_elements cX12_elements 2 (some (.int)) 2 43 [rf G k, .int p1] I (some (.int x.1)) x.2 := Ct.of (by decide +kernel) rfl (Nat.le_of_ble_eq_true rfl) ret_i (fun Z hG hl C hR hret => by
  subst hG
  exact m_X12_elements_ok (K := fun y => y = x) C hR k p1 hk I (fun y hy => by subst hy; exact hret) x h rfl)
def m_X12_contentLength (k : Nat) (p1 : Int32) (p2 : Int32) (I : Mem) : Option (Int32 × Mem) :=
  Option.bind (m_X12_wrongElement k p1 p2 I) fun r1 => Option.bind (m_X12_isFine k r1 I) fun r2 => if r2.1 = 0 then (some ((0, r2.2))) else (gd (inb ((((5 : Int32)) * p1) + p2) 100) (some ((r2.2 (k + 20) ((((5 : Int32)) * p1) + p2).toNatClampNeg, r2.2))))
set_option maxRecDepth 100000 in
set_option maxHeartbeats 4000000 in
theorem m_X12_contentLength_ok {Z : Zx} {K : (Int32 × Mem) → Prop} (C : Cx Z cX12_contentLength 3 RX12) (hR : RM Z 3 66) (k : Nat) (p1 : Int32) (p2 : Int32) (hk : isO k 12) (I : Mem) (hK : ∀ y, K (y) → RetI Z cX12_contentLength .int y.1 y.2) : WF Z K (m_X12_contentLength k p1 p2 I) I 0 [some (rf (zG Z) k), some (.int p1), some (.int p2)] [] := by
  unfold m_X12_contentLength
  refine w_aload_n (v := k) C dX12_contentLength_0 rfl (q := 1) rfl ?_
  refine w_aload_n (v := k) C dX12_contentLength_1 rfl (q := 2) rfl ?_
  refine w_iload_n (v := p1) C dX12_contentLength_2 rfl (q := 3) rfl ?_
  refine w_iload_n (v := p2) C dX12_contentLength_3 rfl (q := 4) rfl ?_
  refine w_callV (val := fun r1 => some (.int r1)) (mem := fun r1 => I) (st1 := fun r1 => [.int r1, rf (zG Z) k]) (As := [.int p1, .int p2]) (st := [rf (zG Z) k]) (q := 7) C hR (fun x h => c_X12_wrongElement (zl Z) (zG Z) p1 p2 hk I h) hk mv_X12_wrongElement lk_X12_221 rfl (by decide) (fun _ => rfl) (Nat.le_of_ble_eq_true rfl) rfl rfl dX12_contentLength_4 rfl (fun r1 => ?_)
  refine w_callV (val := fun r2 => some (.int r2.1)) (mem := fun r2 => r2.2) (st1 := fun r2 => [.int r2.1]) (As := [.int r1]) (st := []) (q := 10) C hR (fun x h => c_X12_isFine (zl Z) (zG Z) r1 hk I h) hk mv_X12_isFine lk_X12_126 rfl (by decide) (fun _ => rfl) (Nat.le_of_ble_eq_true rfl) rfl rfl dX12_contentLength_7 rfl (fun r2 => ?_)
  refine w_if_eq (tgt := 26) (q := 13) C dX12_contentLength_10 (by decide) rfl (fun _ => ?_) (fun _ => ?_)
  · refine w_iconst (v := (0)) C dX12_contentLength_26 (by decide) (q := 27) rfl ?_
    exact w_iret C (hK _) rfl dX12_contentLength_27
  · refine w_aload_n (v := k) C dX12_contentLength_13 rfl (q := 14) rfl ?_
    refine g_X12_28 C hk lk_X12_69 dX12_contentLength_14 (q := 17) rfl ?_
    refine w_iconst (v := (5)) C dX12_contentLength_17 (by decide) (q := 18) rfl ?_
    refine w_iload_n (v := p1) C dX12_contentLength_18 rfl (q := 19) rfl ?_
    refine w_imul C dX12_contentLength_19 (q := 20) rfl ?_
    refine w_iload_n (v := p2) C dX12_contentLength_20 rfl (q := 21) rfl ?_
    refine w_iadd C dX12_contentLength_21 (q := 22) rfl ?_
    refine w_iald C (st_X12_28 hk).2 dX12_contentLength_22 (q := 23) rfl (fun _ => ?_)
    refine w_goto (tgt := 27) C dX12_contentLength_23 (by decide) ?_
    exact w_iret C (hK _) rfl dX12_contentLength_27
theorem c_X12_contentLength (l : Launch) (G : Gx) {k : Nat} (p1 : Int32) (p2 : Int32) (hk : isO k 12) (I : Mem) {x : Int32 × Mem} (h : m_X12_contentLength k p1 p2 I = some x) : Ct l G yX12_contentLength cX12_contentLength 3 (some (.int)) 3 66 [rf G k, .int p1, .int p2] I (some (.int x.1)) x.2 := Ct.of (by decide +kernel) rfl (Nat.le_of_ble_eq_true rfl) ret_i (fun Z hG hl C hR hret => by
  subst hG
  exact m_X12_contentLength_ok (K := fun y => y = x) C hR k p1 p2 hk I (fun y hy => by subst hy; exact hret) x h rfl)
def m_X12_content_j36 (k : Nat) (p1 : Int32) (p2 : Int32) (p3 : Int32) (x4 : Int32) (I : Mem) : Option (Int32 × Mem) :=
  Option.bind (m_X12_isFine k x4 I) fun r2 => if r2.1 = 0 then (some ((0, r2.2))) else (gd (inb ((((8 : Int32)) * ((((5 : Int32)) * p1) + p2)) + p3) 800) (gd (okc (r2.2 (k + 21) ((((8 : Int32)) * ((((5 : Int32)) * p1) + p2)) + p3).toNatClampNeg)) (some ((r2.2 (k + 21) ((((8 : Int32)) * ((((5 : Int32)) * p1) + p2)) + p3).toNatClampNeg, r2.2)))))
set_option maxRecDepth 100000 in
set_option maxHeartbeats 4000000 in
theorem m_X12_content_j36_ok {Z : Zx} {K : (Int32 × Mem) → Prop} (C : Cx Z cX12_content 5 RX12) (hR : RM Z 3 66) (k : Nat) (p1 : Int32) (p2 : Int32) (p3 : Int32) (x4 : Int32) (hk : isO k 12) (I : Mem) (hK : ∀ y, K (y) → RetI Z cX12_content .char y.1 y.2) : WF Z K (m_X12_content_j36 k p1 p2 p3 x4 I) I 36 [some (rf (zG Z) k), some (.int p1), some (.int p2), some (.int p3), some (.int x4)] [] := by
  unfold m_X12_content_j36
  refine w_aload_n (v := k) C dX12_content_36 rfl (q := 37) rfl ?_
  refine w_iload (v := x4) C dX12_content_37 rfl (q := 39) rfl ?_
  refine w_callV (val := fun r2 => some (.int r2.1)) (mem := fun r2 => r2.2) (st1 := fun r2 => [.int r2.1]) (As := [.int x4]) (st := []) (q := 42) C hR (fun x h => c_X12_isFine (zl Z) (zG Z) x4 hk I h) hk mv_X12_isFine lk_X12_126 rfl (by decide) (fun _ => rfl) (Nat.le_of_ble_eq_true rfl) rfl rfl dX12_content_39 rfl (fun r2 => ?_)
  refine w_if_eq (tgt := 63) (q := 45) C dX12_content_42 (by decide) rfl (fun _ => ?_) (fun _ => ?_)
  · refine w_iconst (v := (0)) C dX12_content_63 (by decide) (q := 64) rfl ?_
    exact w_iret C (hK _) (by decide) dX12_content_64
  · refine w_aload_n (v := k) C dX12_content_45 rfl (q := 46) rfl ?_
    refine g_X12_29 C hk lk_X12_72 dX12_content_46 (q := 49) rfl ?_
    refine w_bipush (v := (8)) C dX12_content_49 (by decide) (q := 51) rfl ?_
    refine w_iconst (v := (5)) C dX12_content_51 (by decide) (q := 52) rfl ?_
    refine w_iload_n (v := p1) C dX12_content_52 rfl (q := 53) rfl ?_
    refine w_imul C dX12_content_53 (q := 54) rfl ?_
    refine w_iload_n (v := p2) C dX12_content_54 rfl (q := 55) rfl ?_
    refine w_iadd C dX12_content_55 (q := 56) rfl ?_
    refine w_imul C dX12_content_56 (q := 57) rfl ?_
    refine w_iload_n (v := p3) C dX12_content_57 rfl (q := 58) rfl ?_
    refine w_iadd C dX12_content_58 (q := 59) rfl ?_
    refine w_cald C (st_X12_29 hk).2 dX12_content_59 (q := 60) rfl (fun _ => ?_)
    refine w_goto (tgt := 64) C dX12_content_60 (by decide) ?_
    refine w_gd (fun h3 => ?_)
    exact w_iret C (hK _) (okc_n h3).1 dX12_content_64
def m_X12_content (k : Nat) (p1 : Int32) (p2 : Int32) (p3 : Int32) (I : Mem) : Option (Int32 × Mem) :=
  Option.bind (m_X12_wrongElement k p1 p2 I) fun r1 => if r1 = 0 then (gd (inb ((((5 : Int32)) * p1) + p2) 100) (Option.bind (m_X12_in p3 ((0 : Int32)) ((I (k + 20) ((((5 : Int32)) * p1) + p2).toNatClampNeg) - 1) I) fun r4 => if r4 = 0 then (m_X12_content_j36 k p1 p2 p3 ((2 : Int32)) I) else (m_X12_content_j36 k p1 p2 p3 r1 I))) else (m_X12_content_j36 k p1 p2 p3 r1 I)
set_option maxRecDepth 100000 in
set_option maxHeartbeats 4000000 in
theorem m_X12_content_ok {Z : Zx} {K : (Int32 × Mem) → Prop} (C : Cx Z cX12_content 5 RX12) (hR : RM Z 3 66) (k : Nat) (p1 : Int32) (p2 : Int32) (p3 : Int32) (hk : isO k 12) (I : Mem) (hK : ∀ y, K (y) → RetI Z cX12_content .char y.1 y.2) : WF Z K (m_X12_content k p1 p2 p3 I) I 0 [some (rf (zG Z) k), some (.int p1), some (.int p2), some (.int p3), none] [] := by
  unfold m_X12_content
  refine w_aload_n (v := k) C dX12_content_0 rfl (q := 1) rfl ?_
  refine w_iload_n (v := p1) C dX12_content_1 rfl (q := 2) rfl ?_
  refine w_iload_n (v := p2) C dX12_content_2 rfl (q := 3) rfl ?_
  refine w_callV (val := fun r1 => some (.int r1)) (mem := fun r1 => I) (st1 := fun r1 => [.int r1]) (As := [.int p1, .int p2]) (st := []) (q := 6) C hR (fun x h => c_X12_wrongElement (zl Z) (zG Z) p1 p2 hk I h) hk mv_X12_wrongElement lk_X12_221 rfl (by decide) (fun _ => rfl) (Nat.le_of_ble_eq_true rfl) rfl rfl dX12_content_3 rfl (fun r1 => ?_)
  refine w_istore C dX12_content_6 (Nat.le_of_ble_eq_true rfl) (L' := [some (rf (zG Z) k), some (.int p1), some (.int p2), some (.int p3), some (.int r1)]) rfl (q := 8) rfl ?_
  refine w_iload (v := r1) C dX12_content_8 rfl (q := 10) rfl ?_
  refine w_if_ne (tgt := 36) (q := 13) C dX12_content_10 (by decide) rfl (fun _ => ?_) (fun _ => ?_)
  · refine w_iload_n (v := p3) C dX12_content_13 rfl (q := 14) rfl ?_
    refine w_iconst (v := (0)) C dX12_content_14 (by decide) (q := 15) rfl ?_
    refine w_aload_n (v := k) C dX12_content_15 rfl (q := 16) rfl ?_
    refine g_X12_28 C hk lk_X12_69 dX12_content_16 (q := 19) rfl ?_
    refine w_iconst (v := (5)) C dX12_content_19 (by decide) (q := 20) rfl ?_
    refine w_iload_n (v := p1) C dX12_content_20 rfl (q := 21) rfl ?_
    refine w_imul C dX12_content_21 (q := 22) rfl ?_
    refine w_iload_n (v := p2) C dX12_content_22 rfl (q := 23) rfl ?_
    refine w_iadd C dX12_content_23 (q := 24) rfl ?_
    refine w_iald C (st_X12_28 hk).2 dX12_content_24 (q := 25) rfl (fun _ => ?_)
    refine w_iconst (v := (1)) C dX12_content_25 (by decide) (q := 26) rfl ?_
    refine w_isub C dX12_content_26 (q := 27) rfl ?_
    refine w_callS (val := fun r4 => some (.int r4)) (mem := fun r4 => I) (st1 := fun r4 => [.int r4]) (As := [.int p3, .int 0, .int ((I (k + 20) ((((5 : Int32)) * p1) + p2).toNatClampNeg) - 1)]) (st := []) (q := 30) C hR (fun x h => c_X12_in (zl Z) (zG Z) p3 ((0 : Int32)) ((I (k + 20) ((((5 : Int32)) * p1) + p2).toNatClampNeg) - 1)  I h) mv_X12_in lk_X12_115 rfl (by decide) (fun _ => rfl) (Nat.le_of_ble_eq_true rfl) rfl rfl dX12_content_27 rfl (fun r4 => ?_)
    refine w_if_ne (tgt := 36) (q := 33) C dX12_content_30 (by decide) rfl (fun _ => ?_) (fun _ => ?_)
    · refine w_iconst (v := (2)) C dX12_content_33 (by decide) (q := 34) rfl ?_
      refine w_istore C dX12_content_34 (Nat.le_of_ble_eq_true rfl) (L' := [some (rf (zG Z) k), some (.int p1), some (.int p2), some (.int p3), some (.int 2)]) rfl (q := 36) rfl ?_
      exact WF.less (L' := [some (rf (zG Z) k), some (.int p1), some (.int p2), some (.int p3), some (.int 2)]) (m_X12_content_j36_ok C hR k p1 p2 p3 ((2 : Int32)) hk I hK) ⟨rfl, rfl, rfl, rfl, rfl, trivial⟩
    · exact WF.less (L' := [some (rf (zG Z) k), some (.int p1), some (.int p2), some (.int p3), some (.int r1)]) (m_X12_content_j36_ok C hR k p1 p2 p3 r1 hk I hK) ⟨rfl, rfl, rfl, rfl, rfl, trivial⟩
  · exact WF.less (L' := [some (rf (zG Z) k), some (.int p1), some (.int p2), some (.int p3), some (.int r1)]) (m_X12_content_j36_ok C hR k p1 p2 p3 r1 hk I hK) ⟨rfl, rfl, rfl, rfl, rfl, trivial⟩
theorem c_X12_content (l : Launch) (G : Gx) {k : Nat} (p1 : Int32) (p2 : Int32) (p3 : Int32) (hk : isO k 12) (I : Mem) {x : Int32 × Mem} (h : m_X12_content k p1 p2 p3 I = some x) : Ct l G yX12_content cX12_content 5 (some (.char)) 3 66 [rf G k, .int p1, .int p2, .int p3] I (some (.int x.1)) x.2 := Ct.of (by decide +kernel) rfl (Nat.le_of_ble_eq_true rfl) ret_i (fun Z hG hl C hR hret => by
  subst hG
  exact m_X12_content_ok (K := fun y => y = x) C hR k p1 p2 p3 hk I (fun y hy => by subst hy; exact hret) x h rfl)
def m_X12_item (k : Nat) (p1 : Int32) (I : Mem) : Option (Int32 × Mem) :=
  Option.bind (m_X12_wrong k p1 I) fun r1 => Option.bind (m_X12_isFine k r1 I) fun r2 => if r2.1 = 0 then (some ((0, r2.2))) else (gd (inb p1 20) (some ((r2.2 (k + 22) p1.toNatClampNeg, r2.2))))
set_option maxRecDepth 100000 in
set_option maxHeartbeats 4000000 in
theorem m_X12_item_ok {Z : Zx} {K : (Int32 × Mem) → Prop} (C : Cx Z cX12_item 2 RX12) (hR : RM Z 2 43) (k : Nat) (p1 : Int32) (hk : isO k 12) (I : Mem) (hK : ∀ y, K (y) → RetI Z cX12_item .int y.1 y.2) : WF Z K (m_X12_item k p1 I) I 0 [some (rf (zG Z) k), some (.int p1)] [] := by
  unfold m_X12_item
  refine w_aload_n (v := k) C dX12_item_0 rfl (q := 1) rfl ?_
  refine w_aload_n (v := k) C dX12_item_1 rfl (q := 2) rfl ?_
  refine w_iload_n (v := p1) C dX12_item_2 rfl (q := 3) rfl ?_
  refine w_callV (val := fun r1 => some (.int r1)) (mem := fun r1 => I) (st1 := fun r1 => [.int r1, rf (zG Z) k]) (As := [.int p1]) (st := [rf (zG Z) k]) (q := 6) C hR (fun x h => c_X12_wrong (zl Z) (zG Z) p1 hk I h) hk mv_X12_wrong lk_X12_218 rfl (by decide) (fun _ => rfl) (Nat.le_of_ble_eq_true rfl) rfl rfl dX12_item_3 rfl (fun r1 => ?_)
  refine w_callV (val := fun r2 => some (.int r2.1)) (mem := fun r2 => r2.2) (st1 := fun r2 => [.int r2.1]) (As := [.int r1]) (st := []) (q := 9) C hR (fun x h => c_X12_isFine (zl Z) (zG Z) r1 hk I h) hk mv_X12_isFine lk_X12_126 rfl (by decide) (fun _ => rfl) (Nat.le_of_ble_eq_true rfl) rfl rfl dX12_item_6 rfl (fun r2 => ?_)
  refine w_if_eq (tgt := 21) (q := 12) C dX12_item_9 (by decide) rfl (fun _ => ?_) (fun _ => ?_)
  · refine w_iconst (v := (0)) C dX12_item_21 (by decide) (q := 22) rfl ?_
    exact w_iret C (hK _) rfl dX12_item_22
  · refine w_aload_n (v := k) C dX12_item_12 rfl (q := 13) rfl ?_
    refine g_X12_30 C hk lk_X12_75 dX12_item_13 (q := 16) rfl ?_
    refine w_iload_n (v := p1) C dX12_item_16 rfl (q := 17) rfl ?_
    refine w_iald C (st_X12_30 hk).2 dX12_item_17 (q := 18) rfl (fun _ => ?_)
    refine w_goto (tgt := 22) C dX12_item_18 (by decide) ?_
    exact w_iret C (hK _) rfl dX12_item_22
theorem c_X12_item (l : Launch) (G : Gx) {k : Nat} (p1 : Int32) (hk : isO k 12) (I : Mem) {x : Int32 × Mem} (h : m_X12_item k p1 I = some x) : Ct l G yX12_item cX12_item 2 (some (.int)) 2 43 [rf G k, .int p1] I (some (.int x.1)) x.2 := Ct.of (by decide +kernel) rfl (Nat.le_of_ble_eq_true rfl) ret_i (fun Z hG hl C hR hret => by
  subst hG
  exact m_X12_item_ok (K := fun y => y = x) C hR k p1 hk I (fun y hy => by subst hy; exact hret) x h rfl)
def m_X12_pass (k : Nat) (p1 : Int32) (I : Mem) : Option (Int32 × Mem) :=
  Option.bind (m_X12_wrong k p1 I) fun r1 => Option.bind (m_X12_isFine k r1 I) fun r2 => if r2.1 = 0 then (some ((0, r2.2))) else (gd (inb p1 20) (some ((r2.2 (k + 23) p1.toNatClampNeg, r2.2))))
set_option maxRecDepth 100000 in
set_option maxHeartbeats 4000000 in
theorem m_X12_pass_ok {Z : Zx} {K : (Int32 × Mem) → Prop} (C : Cx Z cX12_pass 2 RX12) (hR : RM Z 2 43) (k : Nat) (p1 : Int32) (hk : isO k 12) (I : Mem) (hK : ∀ y, K (y) → RetI Z cX12_pass .int y.1 y.2) : WF Z K (m_X12_pass k p1 I) I 0 [some (rf (zG Z) k), some (.int p1)] [] := by
  unfold m_X12_pass
  refine w_aload_n (v := k) C dX12_pass_0 rfl (q := 1) rfl ?_
  refine w_aload_n (v := k) C dX12_pass_1 rfl (q := 2) rfl ?_
  refine w_iload_n (v := p1) C dX12_pass_2 rfl (q := 3) rfl ?_
  refine w_callV (val := fun r1 => some (.int r1)) (mem := fun r1 => I) (st1 := fun r1 => [.int r1, rf (zG Z) k]) (As := [.int p1]) (st := [rf (zG Z) k]) (q := 6) C hR (fun x h => c_X12_wrong (zl Z) (zG Z) p1 hk I h) hk mv_X12_wrong lk_X12_218 rfl (by decide) (fun _ => rfl) (Nat.le_of_ble_eq_true rfl) rfl rfl dX12_pass_3 rfl (fun r1 => ?_)
  refine w_callV (val := fun r2 => some (.int r2.1)) (mem := fun r2 => r2.2) (st1 := fun r2 => [.int r2.1]) (As := [.int r1]) (st := []) (q := 9) C hR (fun x h => c_X12_isFine (zl Z) (zG Z) r1 hk I h) hk mv_X12_isFine lk_X12_126 rfl (by decide) (fun _ => rfl) (Nat.le_of_ble_eq_true rfl) rfl rfl dX12_pass_6 rfl (fun r2 => ?_)
  refine w_if_eq (tgt := 21) (q := 12) C dX12_pass_9 (by decide) rfl (fun _ => ?_) (fun _ => ?_)
  · refine w_iconst (v := (0)) C dX12_pass_21 (by decide) (q := 22) rfl ?_
    exact w_iret C (hK _) rfl dX12_pass_22
  · refine w_aload_n (v := k) C dX12_pass_12 rfl (q := 13) rfl ?_
    refine g_X12_31 C hk lk_X12_78 dX12_pass_13 (q := 16) rfl ?_
    refine w_iload_n (v := p1) C dX12_pass_16 rfl (q := 17) rfl ?_
    refine w_iald C (st_X12_31 hk).2 dX12_pass_17 (q := 18) rfl (fun _ => ?_)
    refine w_goto (tgt := 22) C dX12_pass_18 (by decide) ?_
    exact w_iret C (hK _) rfl dX12_pass_22
theorem c_X12_pass (l : Launch) (G : Gx) {k : Nat} (p1 : Int32) (hk : isO k 12) (I : Mem) {x : Int32 × Mem} (h : m_X12_pass k p1 I = some x) : Ct l G yX12_pass cX12_pass 2 (some (.int)) 2 43 [rf G k, .int p1] I (some (.int x.1)) x.2 := Ct.of (by decide +kernel) rfl (Nat.le_of_ble_eq_true rfl) ret_i (fun Z hG hl C hR hret => by
  subst hG
  exact m_X12_pass_ok (K := fun y => y = x) C hR k p1 hk I (fun y hy => by subst hy; exact hret) x h rfl)
def m_X12_addRule_j44 (k : Nat) (p1 : Int32) (p2 : Int32) (y0 : Nat) (y1 : Int32) (I : Mem) : Option (Int32 × Mem) :=
  Option.bind (m_X12_isFine y0 y1 I) fun r3 => if r3.1 = 0 then (some ((0, r3.2))) else (gd (inb (r3.2 k 42) 10) (bnd (ms r3.2 (k + 26) (r3.2 k 42).toNatClampNeg p1) fun I4 => gd (inb (I4 k 42) 10) (gd (okc p2) (bnd (ms I4 (k + 27) (I4 k 42).toNatClampNeg p2) fun I5 => gd (inb (I5 k 42) 10) (bnd (ms I5 (k + 28) (I5 k 42).toNatClampNeg 0) fun I6 => gd (inb (I6 k 42) 10) (bnd (ms I6 (k + 30) (I6 k 42).toNatClampNeg (-1)) fun I7 => bnd (ms I7 k 42 ((I7 k 42) + 1)) fun I8 => some (((I8 k 42) - 1, I8))))))))
set_option maxRecDepth 100000 in
set_option maxHeartbeats 4000000 in
theorem m_X12_addRule_j44_ok {Z : Zx} {K : (Int32 × Mem) → Prop} (C : Cx Z cX12_addRule 3 RX12) (hR : RM Z 2 42) (k : Nat) (p1 : Int32) (p2 : Int32) (y0 : Nat) (y1 : Int32) (hk : isO k 12) (hy0 : isO y0 12) (I : Mem) (hK : ∀ y, K (y) → RetI Z cX12_addRule .int y.1 y.2) : WF Z K (m_X12_addRule_j44 k p1 p2 y0 y1 I) I 44 [some (rf (zG Z) k), some (.int p1), some (.int p2)] [.int y1, rf (zG Z) y0] := by
  unfold m_X12_addRule_j44
  refine w_callV (val := fun r3 => some (.int r3.1)) (mem := fun r3 => r3.2) (st1 := fun r3 => [.int r3.1]) (As := [.int y1]) (st := []) (q := 47) C hR (fun x h => c_X12_isFine (zl Z) (zG Z) y1 hy0 I h) hy0 mv_X12_isFine lk_X12_126 rfl (by decide) (fun _ => rfl) (Nat.le_of_ble_eq_true rfl) rfl rfl dX12_addRule_44 rfl (fun r3 => ?_)
  refine w_if_ne (tgt := 52) (q := 50) C dX12_addRule_47 (by decide) rfl (fun _ => ?_) (fun _ => ?_)
  · refine w_iconst (v := (0)) C dX12_addRule_50 (by decide) (q := 51) rfl ?_
    exact w_iret C (hK _) rfl dX12_addRule_51
  · refine w_aload_n (v := k) C dX12_addRule_52 rfl (q := 53) rfl ?_
    refine g_X12_36 C hk lk_X12_87 dX12_addRule_53 (q := 56) rfl ?_
    refine w_aload_n (v := k) C dX12_addRule_56 rfl (q := 57) rfl ?_
    refine g_X12_42 C hk lk_X12_137 dX12_addRule_57 (q := 60) rfl ?_
    refine w_iload_n (v := p1) C dX12_addRule_60 rfl (q := 61) rfl ?_
    refine w_iast C (st_X12_36 hk).2 dX12_addRule_61 (q := 62) rfl (fun _ I4 => ?_)
    refine w_aload_n (v := k) C dX12_addRule_62 rfl (q := 63) rfl ?_
    refine g_X12_37 C hk lk_X12_90 dX12_addRule_63 (q := 66) rfl ?_
    refine w_aload_n (v := k) C dX12_addRule_66 rfl (q := 67) rfl ?_
    refine g_X12_42 C hk lk_X12_137 dX12_addRule_67 (q := 70) rfl ?_
    refine w_iload_n (v := p2) C dX12_addRule_70 rfl (q := 71) rfl ?_
    refine w_cast C (st_X12_37 hk).2 dX12_addRule_71 (q := 72) rfl (fun _ I5 => ?_)
    refine w_aload_n (v := k) C dX12_addRule_72 rfl (q := 73) rfl ?_
    refine g_X12_38 C hk lk_X12_93 dX12_addRule_73 (q := 76) rfl ?_
    refine w_aload_n (v := k) C dX12_addRule_76 rfl (q := 77) rfl ?_
    refine g_X12_42 C hk lk_X12_137 dX12_addRule_77 (q := 80) rfl ?_
    refine w_iconst (v := (0)) C dX12_addRule_80 (by decide) (q := 81) rfl ?_
    refine w_iast C (st_X12_38 hk).2 dX12_addRule_81 (q := 82) rfl (fun _ I6 => ?_)
    refine w_aload_n (v := k) C dX12_addRule_82 rfl (q := 83) rfl ?_
    refine g_X12_40 C hk lk_X12_99 dX12_addRule_83 (q := 86) rfl ?_
    refine w_aload_n (v := k) C dX12_addRule_86 rfl (q := 87) rfl ?_
    refine g_X12_42 C hk lk_X12_137 dX12_addRule_87 (q := 90) rfl ?_
    refine w_iconst (v := (-1)) C dX12_addRule_90 (by decide) (q := 91) rfl ?_
    refine w_iast C (st_X12_40 hk).2 dX12_addRule_91 (q := 92) rfl (fun _ I7 => ?_)
    refine w_aload_n (v := k) C dX12_addRule_92 rfl (q := 93) rfl ?_
    refine w_dup C dX12_addRule_93 rfl (q := 94) rfl ?_
    refine g_X12_42 C hk lk_X12_137 dX12_addRule_94 (q := 97) rfl ?_
    refine w_iconst (v := (1)) C dX12_addRule_97 (by decide) (q := 98) rfl ?_
    refine w_iadd C dX12_addRule_98 (q := 99) rfl ?_
    refine p_X12_42 C hk  lk_X12_137 dX12_addRule_99 (q := 102) rfl (fun I8 => ?_)
    refine w_aload_n (v := k) C dX12_addRule_102 rfl (q := 103) rfl ?_
    refine g_X12_42 C hk lk_X12_137 dX12_addRule_103 (q := 106) rfl ?_
    refine w_iconst (v := (1)) C dX12_addRule_106 (by decide) (q := 107) rfl ?_
    refine w_isub C dX12_addRule_107 (q := 108) rfl ?_
    exact w_iret C (hK _) rfl dX12_addRule_108
def m_X12_addRule (k : Nat) (p1 : Int32) (p2 : Int32) (I : Mem) : Option (Int32 × Mem) :=
  Option.bind (m_X12_in p1 ((0 : Int32)) ((I k 4) - 1) I) fun r1 => if r1 = 0 then (m_X12_addRule_j44 k p1 p2 k ((1 : Int32)) I) else (Option.bind (m_X12_isTag p2 I) fun r2 => if r2 = 0 then (m_X12_addRule_j44 k p1 p2 k ((2 : Int32)) I) else (if I k 42 = 10 then (m_X12_addRule_j44 k p1 p2 k ((3 : Int32)) I) else (m_X12_addRule_j44 k p1 p2 k ((0 : Int32)) I)))
set_option maxRecDepth 100000 in
set_option maxHeartbeats 4000000 in
theorem m_X12_addRule_ok {Z : Zx} {K : (Int32 × Mem) → Prop} (C : Cx Z cX12_addRule 3 RX12) (hR : RM Z 2 42) (k : Nat) (p1 : Int32) (p2 : Int32) (hk : isO k 12) (I : Mem) (hK : ∀ y, K (y) → RetI Z cX12_addRule .int y.1 y.2) : WF Z K (m_X12_addRule k p1 p2 I) I 0 [some (rf (zG Z) k), some (.int p1), some (.int p2)] [] := by
  unfold m_X12_addRule
  refine w_aload_n (v := k) C dX12_addRule_0 rfl (q := 1) rfl ?_
  refine w_iload_n (v := p1) C dX12_addRule_1 rfl (q := 2) rfl ?_
  refine w_iconst (v := (0)) C dX12_addRule_2 (by decide) (q := 3) rfl ?_
  refine w_aload_n (v := k) C dX12_addRule_3 rfl (q := 4) rfl ?_
  refine g_X12_4 C hk lk_X12_123 dX12_addRule_4 (q := 7) rfl ?_
  refine w_iconst (v := (1)) C dX12_addRule_7 (by decide) (q := 8) rfl ?_
  refine w_isub C dX12_addRule_8 (q := 9) rfl ?_
  refine w_callS (val := fun r1 => some (.int r1)) (mem := fun r1 => I) (st1 := fun r1 => [.int r1, rf (zG Z) k]) (As := [.int p1, .int 0, .int ((I k 4) - 1)]) (st := [rf (zG Z) k]) (q := 12) C hR (fun x h => c_X12_in (zl Z) (zG Z) p1 ((0 : Int32)) ((I k 4) - 1)  I h) mv_X12_in lk_X12_115 rfl (by decide) (fun _ => rfl) (Nat.le_of_ble_eq_true rfl) rfl rfl dX12_addRule_9 rfl (fun r1 => ?_)
  refine w_if_ne (tgt := 19) (q := 15) C dX12_addRule_12 (by decide) rfl (fun _ => ?_) (fun _ => ?_)
  · refine w_iconst (v := (1)) C dX12_addRule_15 (by decide) (q := 16) rfl ?_
    refine w_goto (tgt := 44) C dX12_addRule_16 (by decide) ?_
    exact WF.less (L' := [some (rf (zG Z) k), some (.int p1), some (.int p2)]) (m_X12_addRule_j44_ok C hR k p1 p2 k ((1 : Int32)) hk hk I hK) ⟨rfl, rfl, rfl, trivial⟩
  · refine w_iload_n (v := p2) C dX12_addRule_19 rfl (q := 20) rfl ?_
    refine w_callS (val := fun r2 => some (.int r2)) (mem := fun r2 => I) (st1 := fun r2 => [.int r2, rf (zG Z) k]) (As := [.int p2]) (st := [rf (zG Z) k]) (q := 23) C hR (fun x h => c_X12_isTag (zl Z) (zG Z) p2  I h) mv_X12_isTag lk_X12_119 rfl (by decide) (fun _ => rfl) (Nat.le_of_ble_eq_true rfl) rfl rfl dX12_addRule_20 rfl (fun r2 => ?_)
    refine w_if_ne (tgt := 30) (q := 26) C dX12_addRule_23 (by decide) rfl (fun _ => ?_) (fun _ => ?_)
    · refine w_iconst (v := (2)) C dX12_addRule_26 (by decide) (q := 27) rfl ?_
      refine w_goto (tgt := 44) C dX12_addRule_27 (by decide) ?_
      exact WF.less (L' := [some (rf (zG Z) k), some (.int p1), some (.int p2)]) (m_X12_addRule_j44_ok C hR k p1 p2 k ((2 : Int32)) hk hk I hK) ⟨rfl, rfl, rfl, trivial⟩
    · refine w_aload_n (v := k) C dX12_addRule_30 rfl (q := 31) rfl ?_
      refine g_X12_42 C hk lk_X12_137 dX12_addRule_31 (q := 34) rfl ?_
      refine w_bipush (v := (10)) C dX12_addRule_34 (by decide) (q := 36) rfl ?_
      refine w_icmp_ne (tgt := 43) (q := 39) C dX12_addRule_36 (by decide) rfl (fun _ => ?_) (fun _ => ?_)
      · refine w_iconst (v := (3)) C dX12_addRule_39 (by decide) (q := 40) rfl ?_
        refine w_goto (tgt := 44) C dX12_addRule_40 (by decide) ?_
        exact WF.less (L' := [some (rf (zG Z) k), some (.int p1), some (.int p2)]) (m_X12_addRule_j44_ok C hR k p1 p2 k ((3 : Int32)) hk hk I hK) ⟨rfl, rfl, rfl, trivial⟩
      · refine w_iconst (v := (0)) C dX12_addRule_43 (by decide) (q := 44) rfl ?_
        exact WF.less (L' := [some (rf (zG Z) k), some (.int p1), some (.int p2)]) (m_X12_addRule_j44_ok C hR k p1 p2 k ((0 : Int32)) hk hk I hK) ⟨rfl, rfl, rfl, trivial⟩
theorem c_X12_addRule (l : Launch) (G : Gx) {k : Nat} (p1 : Int32) (p2 : Int32) (hk : isO k 12) (I : Mem) {x : Int32 × Mem} (h : m_X12_addRule k p1 p2 I = some x) : Ct l G yX12_addRule cX12_addRule 3 (some (.int)) 2 42 [rf G k, .int p1, .int p2] I (some (.int x.1)) x.2 := Ct.of (by decide +kernel) rfl (Nat.le_of_ble_eq_true rfl) ret_i (fun Z hG hl C hR hret => by
  subst hG
  exact m_X12_addRule_ok (K := fun y => y = x) C hR k p1 p2 hk I (fun y hy => by subst hy; exact hret) x h rfl)
def m_X12_addField_j47 (k : Nat) (p1 : Int32) (p2 : Int32) (y0 : Nat) (y1 : Int32) (I : Mem) : Option (Int32 × Mem) :=
  Option.bind (m_X12_isFine y0 y1 I) fun r3 => if r3.1 = 0 then (some ((0, r3.2))) else (gd (inb p1 10) (gd (inb ((((5 : Int32)) * p1) + (r3.2 (k + 28) p1.toNatClampNeg)) 50) (bnd (ms r3.2 (k + 29) ((((5 : Int32)) * p1) + (r3.2 (k + 28) p1.toNatClampNeg)).toNatClampNeg p2) fun I4 => gd (inb p1 10) (gd (inb p1 10) (bnd (ms I4 (k + 28) p1.toNatClampNeg ((I4 (k + 28) p1.toNatClampNeg) + 1)) fun I5 => gd (inb p1 10) (some ((I5 (k + 28) p1.toNatClampNeg, I5))))))))
set_option maxRecDepth 100000 in
set_option maxHeartbeats 4000000 in
theorem m_X12_addField_j47_ok {Z : Zx} {K : (Int32 × Mem) → Prop} (C : Cx Z cX12_addField 3 RX12) (hR : RM Z 1 22) (k : Nat) (p1 : Int32) (p2 : Int32) (y0 : Nat) (y1 : Int32) (hk : isO k 12) (hy0 : isO y0 12) (I : Mem) (hK : ∀ y, K (y) → RetI Z cX12_addField .int y.1 y.2) : WF Z K (m_X12_addField_j47 k p1 p2 y0 y1 I) I 47 [some (rf (zG Z) k), some (.int p1), some (.int p2)] [.int y1, rf (zG Z) y0] := by
  unfold m_X12_addField_j47
  refine w_callV (val := fun r3 => some (.int r3.1)) (mem := fun r3 => r3.2) (st1 := fun r3 => [.int r3.1]) (As := [.int y1]) (st := []) (q := 50) C hR (fun x h => c_X12_isFine (zl Z) (zG Z) y1 hy0 I h) hy0 mv_X12_isFine lk_X12_126 rfl (by decide) (fun _ => rfl) (Nat.le_of_ble_eq_true rfl) rfl rfl dX12_addField_47 rfl (fun r3 => ?_)
  refine w_if_ne (tgt := 55) (q := 53) C dX12_addField_50 (by decide) rfl (fun _ => ?_) (fun _ => ?_)
  · refine w_iconst (v := (0)) C dX12_addField_53 (by decide) (q := 54) rfl ?_
    exact w_iret C (hK _) rfl dX12_addField_54
  · refine w_aload_n (v := k) C dX12_addField_55 rfl (q := 56) rfl ?_
    refine g_X12_39 C hk lk_X12_96 dX12_addField_56 (q := 59) rfl ?_
    refine w_iconst (v := (5)) C dX12_addField_59 (by decide) (q := 60) rfl ?_
    refine w_iload_n (v := p1) C dX12_addField_60 rfl (q := 61) rfl ?_
    refine w_imul C dX12_addField_61 (q := 62) rfl ?_
    refine w_aload_n (v := k) C dX12_addField_62 rfl (q := 63) rfl ?_
    refine g_X12_38 C hk lk_X12_93 dX12_addField_63 (q := 66) rfl ?_
    refine w_iload_n (v := p1) C dX12_addField_66 rfl (q := 67) rfl ?_
    refine w_iald C (st_X12_38 hk).2 dX12_addField_67 (q := 68) rfl (fun _ => ?_)
    refine w_iadd C dX12_addField_68 (q := 69) rfl ?_
    refine w_iload_n (v := p2) C dX12_addField_69 rfl (q := 70) rfl ?_
    refine w_iast C (st_X12_39 hk).2 dX12_addField_70 (q := 71) rfl (fun _ I4 => ?_)
    refine w_aload_n (v := k) C dX12_addField_71 rfl (q := 72) rfl ?_
    refine g_X12_38 C hk lk_X12_93 dX12_addField_72 (q := 75) rfl ?_
    refine w_iload_n (v := p1) C dX12_addField_75 rfl (q := 76) rfl ?_
    refine w_dup2 C dX12_addField_76 rfl rfl (q := 77) rfl ?_
    refine w_iald C (st_X12_38 hk).2 dX12_addField_77 (q := 78) rfl (fun _ => ?_)
    refine w_iconst (v := (1)) C dX12_addField_78 (by decide) (q := 79) rfl ?_
    refine w_iadd C dX12_addField_79 (q := 80) rfl ?_
    refine w_iast C (st_X12_38 hk).2 dX12_addField_80 (q := 81) rfl (fun _ I5 => ?_)
    refine w_aload_n (v := k) C dX12_addField_81 rfl (q := 82) rfl ?_
    refine g_X12_38 C hk lk_X12_93 dX12_addField_82 (q := 85) rfl ?_
    refine w_iload_n (v := p1) C dX12_addField_85 rfl (q := 86) rfl ?_
    refine w_iald C (st_X12_38 hk).2 dX12_addField_86 (q := 87) rfl (fun _ => ?_)
    exact w_iret C (hK _) rfl dX12_addField_87
def m_X12_addField (k : Nat) (p1 : Int32) (p2 : Int32) (I : Mem) : Option (Int32 × Mem) :=
  Option.bind (m_X12_in p1 ((0 : Int32)) ((I k 42) - 1) I) fun r1 => if r1 = 0 then (m_X12_addField_j47 k p1 p2 k ((1 : Int32)) I) else (Option.bind (m_X12_in p2 ((0 : Int32)) ((4 : Int32)) I) fun r2 => if r2 = 0 then (m_X12_addField_j47 k p1 p2 k ((2 : Int32)) I) else (gd (inb p1 10) (if I (k + 28) p1.toNatClampNeg = 5 then (m_X12_addField_j47 k p1 p2 k ((3 : Int32)) I) else (m_X12_addField_j47 k p1 p2 k ((0 : Int32)) I))))
set_option maxRecDepth 100000 in
set_option maxHeartbeats 4000000 in
theorem m_X12_addField_ok {Z : Zx} {K : (Int32 × Mem) → Prop} (C : Cx Z cX12_addField 3 RX12) (hR : RM Z 1 22) (k : Nat) (p1 : Int32) (p2 : Int32) (hk : isO k 12) (I : Mem) (hK : ∀ y, K (y) → RetI Z cX12_addField .int y.1 y.2) : WF Z K (m_X12_addField k p1 p2 I) I 0 [some (rf (zG Z) k), some (.int p1), some (.int p2)] [] := by
  unfold m_X12_addField
  refine w_aload_n (v := k) C dX12_addField_0 rfl (q := 1) rfl ?_
  refine w_iload_n (v := p1) C dX12_addField_1 rfl (q := 2) rfl ?_
  refine w_iconst (v := (0)) C dX12_addField_2 (by decide) (q := 3) rfl ?_
  refine w_aload_n (v := k) C dX12_addField_3 rfl (q := 4) rfl ?_
  refine g_X12_42 C hk lk_X12_137 dX12_addField_4 (q := 7) rfl ?_
  refine w_iconst (v := (1)) C dX12_addField_7 (by decide) (q := 8) rfl ?_
  refine w_isub C dX12_addField_8 (q := 9) rfl ?_
  refine w_callS (val := fun r1 => some (.int r1)) (mem := fun r1 => I) (st1 := fun r1 => [.int r1, rf (zG Z) k]) (As := [.int p1, .int 0, .int ((I k 42) - 1)]) (st := [rf (zG Z) k]) (q := 12) C hR (fun x h => c_X12_in (zl Z) (zG Z) p1 ((0 : Int32)) ((I k 42) - 1)  I h) mv_X12_in lk_X12_115 rfl (by decide) (fun _ => rfl) (Nat.le_of_ble_eq_true rfl) rfl rfl dX12_addField_9 rfl (fun r1 => ?_)
  refine w_if_ne (tgt := 19) (q := 15) C dX12_addField_12 (by decide) rfl (fun _ => ?_) (fun _ => ?_)
  · refine w_iconst (v := (1)) C dX12_addField_15 (by decide) (q := 16) rfl ?_
    refine w_goto (tgt := 47) C dX12_addField_16 (by decide) ?_
    exact WF.less (L' := [some (rf (zG Z) k), some (.int p1), some (.int p2)]) (m_X12_addField_j47_ok C hR k p1 p2 k ((1 : Int32)) hk hk I hK) ⟨rfl, rfl, rfl, trivial⟩
  · refine w_iload_n (v := p2) C dX12_addField_19 rfl (q := 20) rfl ?_
    refine w_iconst (v := (0)) C dX12_addField_20 (by decide) (q := 21) rfl ?_
    refine w_iconst (v := (4)) C dX12_addField_21 (by decide) (q := 22) rfl ?_
    refine w_callS (val := fun r2 => some (.int r2)) (mem := fun r2 => I) (st1 := fun r2 => [.int r2, rf (zG Z) k]) (As := [.int p2, .int 0, .int 4]) (st := [rf (zG Z) k]) (q := 25) C hR (fun x h => c_X12_in (zl Z) (zG Z) p2 ((0 : Int32)) ((4 : Int32))  I h) mv_X12_in lk_X12_115 rfl (by decide) (fun _ => rfl) (Nat.le_of_ble_eq_true rfl) rfl rfl dX12_addField_22 rfl (fun r2 => ?_)
    refine w_if_ne (tgt := 32) (q := 28) C dX12_addField_25 (by decide) rfl (fun _ => ?_) (fun _ => ?_)
    · refine w_iconst (v := (2)) C dX12_addField_28 (by decide) (q := 29) rfl ?_
      refine w_goto (tgt := 47) C dX12_addField_29 (by decide) ?_
      exact WF.less (L' := [some (rf (zG Z) k), some (.int p1), some (.int p2)]) (m_X12_addField_j47_ok C hR k p1 p2 k ((2 : Int32)) hk hk I hK) ⟨rfl, rfl, rfl, trivial⟩
    · refine w_aload_n (v := k) C dX12_addField_32 rfl (q := 33) rfl ?_
      refine g_X12_38 C hk lk_X12_93 dX12_addField_33 (q := 36) rfl ?_
      refine w_iload_n (v := p1) C dX12_addField_36 rfl (q := 37) rfl ?_
      refine w_iald C (st_X12_38 hk).2 dX12_addField_37 (q := 38) rfl (fun _ => ?_)
      refine w_iconst (v := (5)) C dX12_addField_38 (by decide) (q := 39) rfl ?_
      refine w_icmp_ne (tgt := 46) (q := 42) C dX12_addField_39 (by decide) rfl (fun _ => ?_) (fun _ => ?_)
      · refine w_iconst (v := (3)) C dX12_addField_42 (by decide) (q := 43) rfl ?_
        refine w_goto (tgt := 47) C dX12_addField_43 (by decide) ?_
        exact WF.less (L' := [some (rf (zG Z) k), some (.int p1), some (.int p2)]) (m_X12_addField_j47_ok C hR k p1 p2 k ((3 : Int32)) hk hk I hK) ⟨rfl, rfl, rfl, trivial⟩
      · refine w_iconst (v := (0)) C dX12_addField_46 (by decide) (q := 47) rfl ?_
        exact WF.less (L' := [some (rf (zG Z) k), some (.int p1), some (.int p2)]) (m_X12_addField_j47_ok C hR k p1 p2 k ((0 : Int32)) hk hk I hK) ⟨rfl, rfl, rfl, trivial⟩
theorem c_X12_addField (l : Launch) (G : Gx) {k : Nat} (p1 : Int32) (p2 : Int32) (hk : isO k 12) (I : Mem) {x : Int32 × Mem} (h : m_X12_addField k p1 p2 I = some x) : Ct l G yX12_addField cX12_addField 3 (some (.int)) 1 22 [rf G k, .int p1, .int p2] I (some (.int x.1)) x.2 := Ct.of (by decide +kernel) rfl (Nat.le_of_ble_eq_true rfl) ret_i (fun Z hG hl C hR hret => by
  subst hG
  exact m_X12_addField_ok (K := fun y => y = x) C hR k p1 p2 hk I (fun y hy => by subst hy; exact hret) x h rfl)
def m_X12_setCondition_j56 (k : Nat) (p1 : Int32) (p2 : Int32) (p3 : Int32) (y0 : Nat) (y1 : Int32) (I : Mem) : Option (Mem) :=
  Option.bind (m_X12_isFine y0 y1 I) fun r3 => if r3.1 = 0 then (some r3.2) else (gd (inb p1 10) (bnd (ms r3.2 (k + 30) p1.toNatClampNeg p2) fun I4 => gd (inb p1 10) (gd (okc p3) (bnd (ms I4 (k + 31) p1.toNatClampNeg p3) fun I5 => some I5))))
set_option maxRecDepth 100000 in
set_option maxHeartbeats 4000000 in
theorem m_X12_setCondition_j56_ok {Z : Zx} {K : Mem → Prop} (C : Cx Z cX12_setCondition 5 RX12) (hR : RM Z 1 22) (k : Nat) (p1 : Int32) (p2 : Int32) (p3 : Int32) (y0 : Nat) (y1 : Int32) (hk : isO k 12) (hy0 : isO y0 12) (I : Mem) (hK : ∀ y, K (y) → RetV Z cX12_setCondition y) : WF Z K (m_X12_setCondition_j56 k p1 p2 p3 y0 y1 I) I 56 [some (rf (zG Z) k), some (.int p1), some (.int p2), some (.int p3), none] [.int y1, rf (zG Z) y0] := by
  unfold m_X12_setCondition_j56
  refine w_callV (val := fun r3 => some (.int r3.1)) (mem := fun r3 => r3.2) (st1 := fun r3 => [.int r3.1]) (As := [.int y1]) (st := []) (q := 59) C hR (fun x h => c_X12_isFine (zl Z) (zG Z) y1 hy0 I h) hy0 mv_X12_isFine lk_X12_126 rfl (by decide) (fun _ => rfl) (Nat.le_of_ble_eq_true rfl) rfl rfl dX12_setCondition_56 rfl (fun r3 => ?_)
  refine w_if_eq (tgt := 76) (q := 62) C dX12_setCondition_59 (by decide) rfl (fun _ => ?_) (fun _ => ?_)
  · exact w_vret C (hK _) dX12_setCondition_76
  · refine w_aload_n (v := k) C dX12_setCondition_62 rfl (q := 63) rfl ?_
    refine g_X12_40 C hk lk_X12_99 dX12_setCondition_63 (q := 66) rfl ?_
    refine w_iload_n (v := p1) C dX12_setCondition_66 rfl (q := 67) rfl ?_
    refine w_iload_n (v := p2) C dX12_setCondition_67 rfl (q := 68) rfl ?_
    refine w_iast C (st_X12_40 hk).2 dX12_setCondition_68 (q := 69) rfl (fun _ I4 => ?_)
    refine w_aload_n (v := k) C dX12_setCondition_69 rfl (q := 70) rfl ?_
    refine g_X12_41 C hk lk_X12_102 dX12_setCondition_70 (q := 73) rfl ?_
    refine w_iload_n (v := p1) C dX12_setCondition_73 rfl (q := 74) rfl ?_
    refine w_iload_n (v := p3) C dX12_setCondition_74 rfl (q := 75) rfl ?_
    refine w_cast C (st_X12_41 hk).2 dX12_setCondition_75 (q := 76) rfl (fun _ I5 => ?_)
    exact w_vret C (hK _) dX12_setCondition_76
def m_X12_setCondition_j25 (k : Nat) (p1 : Int32) (p2 : Int32) (p3 : Int32) (y0 : Int32) (I : Mem) : Option (Mem) :=
  Option.bind (m_X12_in p1 ((0 : Int32)) ((I k 42) - 1) I) fun r2 => if r2 = 0 then (m_X12_setCondition_j56 k p1 p2 p3 k ((1 : Int32)) I) else (if y0 = 0 then (m_X12_setCondition_j56 k p1 p2 p3 k ((2 : Int32)) I) else (m_X12_setCondition_j56 k p1 p2 p3 k ((0 : Int32)) I))
set_option maxRecDepth 100000 in
set_option maxHeartbeats 4000000 in
theorem m_X12_setCondition_j25_ok {Z : Zx} {K : Mem → Prop} (C : Cx Z cX12_setCondition 5 RX12) (hR : RM Z 1 22) (k : Nat) (p1 : Int32) (p2 : Int32) (p3 : Int32) (y0 : Int32) (hk : isO k 12) (I : Mem) (hK : ∀ y, K (y) → RetV Z cX12_setCondition y) : WF Z K (m_X12_setCondition_j25 k p1 p2 p3 y0 I) I 25 [some (rf (zG Z) k), some (.int p1), some (.int p2), some (.int p3), none] [.int y0] := by
  unfold m_X12_setCondition_j25
  refine w_istore C dX12_setCondition_25 (Nat.le_of_ble_eq_true rfl) (L' := [some (rf (zG Z) k), some (.int p1), some (.int p2), some (.int p3), some (.int y0)]) rfl (q := 27) rfl ?_
  refine w_aload_n (v := k) C dX12_setCondition_27 rfl (q := 28) rfl ?_
  refine w_iload_n (v := p1) C dX12_setCondition_28 rfl (q := 29) rfl ?_
  refine w_iconst (v := (0)) C dX12_setCondition_29 (by decide) (q := 30) rfl ?_
  refine w_aload_n (v := k) C dX12_setCondition_30 rfl (q := 31) rfl ?_
  refine g_X12_42 C hk lk_X12_137 dX12_setCondition_31 (q := 34) rfl ?_
  refine w_iconst (v := (1)) C dX12_setCondition_34 (by decide) (q := 35) rfl ?_
  refine w_isub C dX12_setCondition_35 (q := 36) rfl ?_
  refine w_callS (val := fun r2 => some (.int r2)) (mem := fun r2 => I) (st1 := fun r2 => [.int r2, rf (zG Z) k]) (As := [.int p1, .int 0, .int ((I k 42) - 1)]) (st := [rf (zG Z) k]) (q := 39) C hR (fun x h => c_X12_in (zl Z) (zG Z) p1 ((0 : Int32)) ((I k 42) - 1)  I h) mv_X12_in lk_X12_115 rfl (by decide) (fun _ => rfl) (Nat.le_of_ble_eq_true rfl) rfl rfl dX12_setCondition_36 rfl (fun r2 => ?_)
  refine w_if_ne (tgt := 46) (q := 42) C dX12_setCondition_39 (by decide) rfl (fun _ => ?_) (fun _ => ?_)
  · refine w_iconst (v := (1)) C dX12_setCondition_42 (by decide) (q := 43) rfl ?_
    refine w_goto (tgt := 56) C dX12_setCondition_43 (by decide) ?_
    exact WF.less (L' := [some (rf (zG Z) k), some (.int p1), some (.int p2), some (.int p3), none]) (m_X12_setCondition_j56_ok C hR k p1 p2 p3 k ((1 : Int32)) hk hk I hK) ⟨rfl, rfl, rfl, rfl, trivial⟩
  · refine w_iload (v := y0) C dX12_setCondition_46 rfl (q := 48) rfl ?_
    refine w_if_ne (tgt := 55) (q := 51) C dX12_setCondition_48 (by decide) rfl (fun _ => ?_) (fun _ => ?_)
    · refine w_iconst (v := (2)) C dX12_setCondition_51 (by decide) (q := 52) rfl ?_
      refine w_goto (tgt := 56) C dX12_setCondition_52 (by decide) ?_
      exact WF.less (L' := [some (rf (zG Z) k), some (.int p1), some (.int p2), some (.int p3), none]) (m_X12_setCondition_j56_ok C hR k p1 p2 p3 k ((2 : Int32)) hk hk I hK) ⟨rfl, rfl, rfl, rfl, trivial⟩
    · refine w_iconst (v := (0)) C dX12_setCondition_55 (by decide) (q := 56) rfl ?_
      exact WF.less (L' := [some (rf (zG Z) k), some (.int p1), some (.int p2), some (.int p3), none]) (m_X12_setCondition_j56_ok C hR k p1 p2 p3 k ((0 : Int32)) hk hk I hK) ⟨rfl, rfl, rfl, rfl, trivial⟩
def m_X12_setCondition_j24 (k : Nat) (p1 : Int32) (p2 : Int32) (p3 : Int32) (I : Mem) : Option (Mem) :=
  m_X12_setCondition_j25 k p1 p2 p3 ((0 : Int32)) I
set_option maxRecDepth 100000 in
set_option maxHeartbeats 4000000 in
theorem m_X12_setCondition_j24_ok {Z : Zx} {K : Mem → Prop} (C : Cx Z cX12_setCondition 5 RX12) (hR : RM Z 1 22) (k : Nat) (p1 : Int32) (p2 : Int32) (p3 : Int32) (hk : isO k 12) (I : Mem) (hK : ∀ y, K (y) → RetV Z cX12_setCondition y) : WF Z K (m_X12_setCondition_j24 k p1 p2 p3 I) I 24 [some (rf (zG Z) k), some (.int p1), some (.int p2), some (.int p3), none] [] := by
  unfold m_X12_setCondition_j24
  refine w_iconst (v := (0)) C dX12_setCondition_24 (by decide) (q := 25) rfl ?_
  exact WF.less (L' := [some (rf (zG Z) k), some (.int p1), some (.int p2), some (.int p3), none]) (m_X12_setCondition_j25_ok C hR k p1 p2 p3 ((0 : Int32)) hk I hK) ⟨rfl, rfl, rfl, rfl, trivial⟩
def m_X12_setCondition (k : Nat) (p1 : Int32) (p2 : Int32) (p3 : Int32) (I : Mem) : Option (Mem) :=
  Option.bind (m_X12_in p2 ((0 : Int32)) ((4 : Int32)) I) fun r1 => if r1 = 0 then (m_X12_setCondition_j24 k p1 p2 p3 I) else (Option.bind (m_X12_in p3 ((32 : Int32)) ((126 : Int32)) I) fun r6 => if r6 = 0 then (m_X12_setCondition_j24 k p1 p2 p3 I) else (m_X12_setCondition_j25 k p1 p2 p3 ((1 : Int32)) I))
set_option maxRecDepth 100000 in
set_option maxHeartbeats 4000000 in
theorem m_X12_setCondition_ok {Z : Zx} {K : Mem → Prop} (C : Cx Z cX12_setCondition 5 RX12) (hR : RM Z 1 22) (k : Nat) (p1 : Int32) (p2 : Int32) (p3 : Int32) (hk : isO k 12) (I : Mem) (hK : ∀ y, K (y) → RetV Z cX12_setCondition y) : WF Z K (m_X12_setCondition k p1 p2 p3 I) I 0 [some (rf (zG Z) k), some (.int p1), some (.int p2), some (.int p3), none] [] := by
  unfold m_X12_setCondition
  refine w_iload_n (v := p2) C dX12_setCondition_0 rfl (q := 1) rfl ?_
  refine w_iconst (v := (0)) C dX12_setCondition_1 (by decide) (q := 2) rfl ?_
  refine w_iconst (v := (4)) C dX12_setCondition_2 (by decide) (q := 3) rfl ?_
  refine w_callS (val := fun r1 => some (.int r1)) (mem := fun r1 => I) (st1 := fun r1 => [.int r1]) (As := [.int p2, .int 0, .int 4]) (st := []) (q := 6) C hR (fun x h => c_X12_in (zl Z) (zG Z) p2 ((0 : Int32)) ((4 : Int32))  I h) mv_X12_in lk_X12_115 rfl (by decide) (fun _ => rfl) (Nat.le_of_ble_eq_true rfl) rfl rfl dX12_setCondition_3 rfl (fun r1 => ?_)
  refine w_if_eq (tgt := 24) (q := 9) C dX12_setCondition_6 (by decide) rfl (fun _ => ?_) (fun _ => ?_)
  · exact WF.less (L' := [some (rf (zG Z) k), some (.int p1), some (.int p2), some (.int p3), none]) (m_X12_setCondition_j24_ok C hR k p1 p2 p3 hk I hK) ⟨rfl, rfl, rfl, rfl, trivial⟩
  · refine w_iload_n (v := p3) C dX12_setCondition_9 rfl (q := 10) rfl ?_
    refine w_bipush (v := (32)) C dX12_setCondition_10 (by decide) (q := 12) rfl ?_
    refine w_bipush (v := (126)) C dX12_setCondition_12 (by decide) (q := 14) rfl ?_
    refine w_callS (val := fun r6 => some (.int r6)) (mem := fun r6 => I) (st1 := fun r6 => [.int r6]) (As := [.int p3, .int 32, .int 126]) (st := []) (q := 17) C hR (fun x h => c_X12_in (zl Z) (zG Z) p3 ((32 : Int32)) ((126 : Int32))  I h) mv_X12_in lk_X12_115 rfl (by decide) (fun _ => rfl) (Nat.le_of_ble_eq_true rfl) rfl rfl dX12_setCondition_14 rfl (fun r6 => ?_)
    refine w_if_eq (tgt := 24) (q := 20) C dX12_setCondition_17 (by decide) rfl (fun _ => ?_) (fun _ => ?_)
    · exact WF.less (L' := [some (rf (zG Z) k), some (.int p1), some (.int p2), some (.int p3), none]) (m_X12_setCondition_j24_ok C hR k p1 p2 p3 hk I hK) ⟨rfl, rfl, rfl, rfl, trivial⟩
    · refine w_iconst (v := (1)) C dX12_setCondition_20 (by decide) (q := 21) rfl ?_
      refine w_goto (tgt := 25) C dX12_setCondition_21 (by decide) ?_
      exact WF.less (L' := [some (rf (zG Z) k), some (.int p1), some (.int p2), some (.int p3), none]) (m_X12_setCondition_j25_ok C hR k p1 p2 p3 ((1 : Int32)) hk I hK) ⟨rfl, rfl, rfl, rfl, trivial⟩
theorem c_X12_setCondition (l : Launch) (G : Gx) {k : Nat} (p1 : Int32) (p2 : Int32) (p3 : Int32) (hk : isO k 12) (I : Mem) {x : Mem} (h : m_X12_setCondition k p1 p2 p3 I = some x) : Ct l G yX12_setCondition cX12_setCondition 5 none 1 22 [rf G k, .int p1, .int p2, .int p3] I (none) x := Ct.of (by decide +kernel) rfl (Nat.le_of_ble_eq_true rfl) ret_v (fun Z hG hl C hR hret => by
  subst hG
  exact m_X12_setCondition_ok (K := fun y => y = x) C hR k p1 p2 p3 hk I (fun y hy => by subst hy; exact hret) x h rfl)
def m_X12_isWriting_j27 (k : Nat) (p1 : Int32) (p2 : Int32) (x3 : Int32) (y0 : Int32) (I : Mem) : Option (Int32) :=
  if y0 = 0 then (gd (okz y0) (some y0)) else (if x3 = -1 then (gd (okz y0) (some y0)) else (gd (inb p2 20) (if I (k + 19) p2.toNatClampNeg ≤ x3 then (some 0) else (gd (inb ((((5 : Int32)) * p2) + x3) 100) (if I (k + 20) ((((5 : Int32)) * p2) + x3).toNatClampNeg ≤ 0 then (some 0) else (gd (inb (((8 : Int32)) * ((((5 : Int32)) * p2) + x3)) 800) (gd (inb p1 10) (if I (k + 21) (((8 : Int32)) * ((((5 : Int32)) * p2) + x3)).toNatClampNeg = I (k + 31) p1.toNatClampNeg then (some 1) else (some 0)))))))))
set_option maxRecDepth 100000 in
set_option maxHeartbeats 4000000 in
theorem m_X12_isWriting_j27_ok {Z : Zx} {K : Int32 → Prop} (C : Cx Z cX12_isWriting 6 RX12) (hR : RM Z 0 0) (k : Nat) (p1 : Int32) (p2 : Int32) (x3 : Int32) (y0 : Int32) (hk : isO k 12) (I : Mem) (hK : ∀ y, K (y) → RetI Z cX12_isWriting .boolean y I) : WF Z K (m_X12_isWriting_j27 k p1 p2 x3 y0 I) I 27 [some (rf (zG Z) k), some (.int p1), some (.int p2), some (.int x3), none, none] [.int y0] := by
  unfold m_X12_isWriting_j27
  refine w_istore C dX12_isWriting_27 (Nat.le_of_ble_eq_true rfl) (L' := [some (rf (zG Z) k), some (.int p1), some (.int p2), some (.int x3), some (.int y0), none]) rfl (q := 29) rfl ?_
  refine w_iload (v := y0) C dX12_isWriting_29 rfl (q := 31) rfl ?_
  refine w_if_eq (tgt := 92) (q := 34) C dX12_isWriting_31 (by decide) rfl (fun _ => ?_) (fun _ => ?_)
  · refine w_iload (v := y0) C dX12_isWriting_92 rfl (q := 94) rfl ?_
    refine w_gd (fun h1 => ?_)
    exact w_iret C (hK _) (okz_n h1).1 dX12_isWriting_94
  · refine w_iload_n (v := x3) C dX12_isWriting_34 rfl (q := 35) rfl ?_
    refine w_iconst (v := (-1)) C dX12_isWriting_35 (by decide) (q := 36) rfl ?_
    refine w_icmp_eq (tgt := 92) (q := 39) C dX12_isWriting_36 (by decide) rfl (fun _ => ?_) (fun _ => ?_)
    · refine w_iload (v := y0) C dX12_isWriting_92 rfl (q := 94) rfl ?_
      refine w_gd (fun h2 => ?_)
      exact w_iret C (hK _) (okz_n h2).1 dX12_isWriting_94
    · refine w_iconst (v := (5)) C dX12_isWriting_39 (by decide) (q := 40) rfl ?_
      refine w_iload_n (v := p2) C dX12_isWriting_40 rfl (q := 41) rfl ?_
      refine w_imul C dX12_isWriting_41 (q := 42) rfl ?_
      refine w_iload_n (v := x3) C dX12_isWriting_42 rfl (q := 43) rfl ?_
      refine w_iadd C dX12_isWriting_43 (q := 44) rfl ?_
      refine w_istore C dX12_isWriting_44 (Nat.le_of_ble_eq_true rfl) (L' := [some (rf (zG Z) k), some (.int p1), some (.int p2), some (.int x3), some (.int y0), some (.int ((((5 : Int32)) * p2) + x3))]) rfl (q := 46) rfl ?_
      refine w_iload_n (v := x3) C dX12_isWriting_46 rfl (q := 47) rfl ?_
      refine w_aload_n (v := k) C dX12_isWriting_47 rfl (q := 48) rfl ?_
      refine g_X12_27 C hk lk_X12_66 dX12_isWriting_48 (q := 51) rfl ?_
      refine w_iload_n (v := p2) C dX12_isWriting_51 rfl (q := 52) rfl ?_
      refine w_iald C (st_X12_27 hk).2 dX12_isWriting_52 (q := 53) rfl (fun _ => ?_)
      refine w_icmp_ge (tgt := 89) (q := 56) C dX12_isWriting_53 (by decide) rfl (fun _ => ?_) (fun _ => ?_)
      · refine w_iconst (v := (0)) C dX12_isWriting_89 (by decide) (q := 90) rfl ?_
        refine w_istore C dX12_isWriting_90 (Nat.le_of_ble_eq_true rfl) (L' := [some (rf (zG Z) k), some (.int p1), some (.int p2), some (.int x3), some (.int 0), some (.int ((((5 : Int32)) * p2) + x3))]) rfl (q := 92) rfl ?_
        refine w_iload (v := 0) C dX12_isWriting_92 rfl (q := 94) rfl ?_
        exact w_iret C (hK _) (by decide) dX12_isWriting_94
      · refine w_aload_n (v := k) C dX12_isWriting_56 rfl (q := 57) rfl ?_
        refine g_X12_28 C hk lk_X12_69 dX12_isWriting_57 (q := 60) rfl ?_
        refine w_iload (v := (((5 : Int32)) * p2) + x3) C dX12_isWriting_60 rfl (q := 62) rfl ?_
        refine w_iald C (st_X12_28 hk).2 dX12_isWriting_62 (q := 63) rfl (fun _ => ?_)
        refine w_if_le (tgt := 89) (q := 66) C dX12_isWriting_63 (by decide) rfl (fun _ => ?_) (fun _ => ?_)
        · refine w_iconst (v := (0)) C dX12_isWriting_89 (by decide) (q := 90) rfl ?_
          refine w_istore C dX12_isWriting_90 (Nat.le_of_ble_eq_true rfl) (L' := [some (rf (zG Z) k), some (.int p1), some (.int p2), some (.int x3), some (.int 0), some (.int ((((5 : Int32)) * p2) + x3))]) rfl (q := 92) rfl ?_
          refine w_iload (v := 0) C dX12_isWriting_92 rfl (q := 94) rfl ?_
          exact w_iret C (hK _) (by decide) dX12_isWriting_94
        · refine w_aload_n (v := k) C dX12_isWriting_66 rfl (q := 67) rfl ?_
          refine g_X12_29 C hk lk_X12_72 dX12_isWriting_67 (q := 70) rfl ?_
          refine w_bipush (v := (8)) C dX12_isWriting_70 (by decide) (q := 72) rfl ?_
          refine w_iload (v := (((5 : Int32)) * p2) + x3) C dX12_isWriting_72 rfl (q := 74) rfl ?_
          refine w_imul C dX12_isWriting_74 (q := 75) rfl ?_
          refine w_cald C (st_X12_29 hk).2 dX12_isWriting_75 (q := 76) rfl (fun _ => ?_)
          refine w_aload_n (v := k) C dX12_isWriting_76 rfl (q := 77) rfl ?_
          refine g_X12_41 C hk lk_X12_102 dX12_isWriting_77 (q := 80) rfl ?_
          refine w_iload_n (v := p1) C dX12_isWriting_80 rfl (q := 81) rfl ?_
          refine w_cald C (st_X12_41 hk).2 dX12_isWriting_81 (q := 82) rfl (fun _ => ?_)
          refine w_icmp_ne (tgt := 89) (q := 85) C dX12_isWriting_82 (by decide) rfl (fun _ => ?_) (fun _ => ?_)
          · refine w_iconst (v := (1)) C dX12_isWriting_85 (by decide) (q := 86) rfl ?_
            refine w_goto (tgt := 90) C dX12_isWriting_86 (by decide) ?_
            refine w_istore C dX12_isWriting_90 (Nat.le_of_ble_eq_true rfl) (L' := [some (rf (zG Z) k), some (.int p1), some (.int p2), some (.int x3), some (.int 1), some (.int ((((5 : Int32)) * p2) + x3))]) rfl (q := 92) rfl ?_
            refine w_iload (v := 1) C dX12_isWriting_92 rfl (q := 94) rfl ?_
            exact w_iret C (hK _) (by decide) dX12_isWriting_94
          · refine w_iconst (v := (0)) C dX12_isWriting_89 (by decide) (q := 90) rfl ?_
            refine w_istore C dX12_isWriting_90 (Nat.le_of_ble_eq_true rfl) (L' := [some (rf (zG Z) k), some (.int p1), some (.int p2), some (.int x3), some (.int 0), some (.int ((((5 : Int32)) * p2) + x3))]) rfl (q := 92) rfl ?_
            refine w_iload (v := 0) C dX12_isWriting_92 rfl (q := 94) rfl ?_
            exact w_iret C (hK _) (by decide) dX12_isWriting_94
def m_X12_isWriting (k : Nat) (p1 : Int32) (p2 : Int32) (I : Mem) : Option (Int32) :=
  gd (inb p1 10) (gd (inb p1 10) (gd (inb p2 20) (if I (k + 26) p1.toNatClampNeg = I (k + 22) p2.toNatClampNeg then (m_X12_isWriting_j27 k p1 p2 (I (k + 30) p1.toNatClampNeg) ((1 : Int32)) I) else (m_X12_isWriting_j27 k p1 p2 (I (k + 30) p1.toNatClampNeg) ((0 : Int32)) I))))
set_option maxRecDepth 100000 in
set_option maxHeartbeats 4000000 in
theorem m_X12_isWriting_ok {Z : Zx} {K : Int32 → Prop} (C : Cx Z cX12_isWriting 6 RX12) (hR : RM Z 0 0) (k : Nat) (p1 : Int32) (p2 : Int32) (hk : isO k 12) (I : Mem) (hK : ∀ y, K (y) → RetI Z cX12_isWriting .boolean y I) : WF Z K (m_X12_isWriting k p1 p2 I) I 0 [some (rf (zG Z) k), some (.int p1), some (.int p2), none, none, none] [] := by
  unfold m_X12_isWriting
  refine w_aload_n (v := k) C dX12_isWriting_0 rfl (q := 1) rfl ?_
  refine g_X12_40 C hk lk_X12_99 dX12_isWriting_1 (q := 4) rfl ?_
  refine w_iload_n (v := p1) C dX12_isWriting_4 rfl (q := 5) rfl ?_
  refine w_iald C (st_X12_40 hk).2 dX12_isWriting_5 (q := 6) rfl (fun _ => ?_)
  refine w_istore_n C dX12_isWriting_6 (Nat.le_of_ble_eq_true rfl) (L' := [some (rf (zG Z) k), some (.int p1), some (.int p2), some (.int (I (k + 30) p1.toNatClampNeg)), none, none]) rfl (q := 7) rfl ?_
  refine w_aload_n (v := k) C dX12_isWriting_7 rfl (q := 8) rfl ?_
  refine g_X12_36 C hk lk_X12_87 dX12_isWriting_8 (q := 11) rfl ?_
  refine w_iload_n (v := p1) C dX12_isWriting_11 rfl (q := 12) rfl ?_
  refine w_iald C (st_X12_36 hk).2 dX12_isWriting_12 (q := 13) rfl (fun _ => ?_)
  refine w_aload_n (v := k) C dX12_isWriting_13 rfl (q := 14) rfl ?_
  refine g_X12_30 C hk lk_X12_75 dX12_isWriting_14 (q := 17) rfl ?_
  refine w_iload_n (v := p2) C dX12_isWriting_17 rfl (q := 18) rfl ?_
  refine w_iald C (st_X12_30 hk).2 dX12_isWriting_18 (q := 19) rfl (fun _ => ?_)
  refine w_icmp_ne (tgt := 26) (q := 22) C dX12_isWriting_19 (by decide) rfl (fun _ => ?_) (fun _ => ?_)
  · refine w_iconst (v := (1)) C dX12_isWriting_22 (by decide) (q := 23) rfl ?_
    refine w_goto (tgt := 27) C dX12_isWriting_23 (by decide) ?_
    exact WF.less (L' := [some (rf (zG Z) k), some (.int p1), some (.int p2), some (.int (I (k + 30) p1.toNatClampNeg)), none, none]) (m_X12_isWriting_j27_ok C hR k p1 p2 (I (k + 30) p1.toNatClampNeg) ((1 : Int32)) hk I hK) ⟨rfl, rfl, rfl, rfl, trivial⟩
  · refine w_iconst (v := (0)) C dX12_isWriting_26 (by decide) (q := 27) rfl ?_
    exact WF.less (L' := [some (rf (zG Z) k), some (.int p1), some (.int p2), some (.int (I (k + 30) p1.toNatClampNeg)), none, none]) (m_X12_isWriting_j27_ok C hR k p1 p2 (I (k + 30) p1.toNatClampNeg) ((0 : Int32)) hk I hK) ⟨rfl, rfl, rfl, rfl, trivial⟩
theorem c_X12_isWriting (l : Launch) (G : Gx) {k : Nat} (p1 : Int32) (p2 : Int32) (hk : isO k 12) (I : Mem) {x : Int32} (h : m_X12_isWriting k p1 p2 I = some x) : Ct l G yX12_isWriting cX12_isWriting 6 (some (.boolean)) 0 0 [rf G k, .int p1, .int p2] I (some (.int x)) I := Ct.of (by decide +kernel) rfl (Nat.le_of_ble_eq_true rfl) ret_i (fun Z hG hl C hR hret => by
  subst hG
  exact m_X12_isWriting_ok (K := fun y => y = x) C hR k p1 p2 hk I (fun y hy => by subst hy; exact hret) x h rfl)
def m_X12_puts_j20 (k : Nat) (I : Mem) : Option (Mem) :=
  bnd (ms I k 44 ((I k 44) + 1)) fun I1 => some I1
set_option maxRecDepth 100000 in
set_option maxHeartbeats 4000000 in
theorem m_X12_puts_j20_ok {Z : Zx} {K : Mem → Prop} (C : Cx Z cX12_puts 2 RX12) (hR : RM Z 0 0) (k : Nat) (hk : isO k 12) (I : Mem) (hK : ∀ y, K (y) → RetV Z cX12_puts y) : WF Z K (m_X12_puts_j20 k I) I 20 [some (rf (zG Z) k), none] [] := by
  unfold m_X12_puts_j20
  refine w_aload_n (v := k) C dX12_puts_20 rfl (q := 21) rfl ?_
  refine w_dup C dX12_puts_21 rfl (q := 22) rfl ?_
  refine g_X12_44 C hk lk_X12_224 dX12_puts_22 (q := 25) rfl ?_
  refine w_iconst (v := (1)) C dX12_puts_25 (by decide) (q := 26) rfl ?_
  refine w_iadd C dX12_puts_26 (q := 27) rfl ?_
  refine p_X12_44 C hk  lk_X12_224 dX12_puts_27 (q := 30) rfl (fun I1 => ?_)
  exact w_vret C (hK _) dX12_puts_30
def m_X12_puts (k : Nat) (p1 : Int32) (I : Mem) : Option (Mem) :=
  if 300 ≤ I k 44 then (m_X12_puts_j20 k I) else (gd (inb (I k 44) 300) (gd (okc p1) (bnd (ms I (k + 32) (I k 44).toNatClampNeg p1) fun I2 => m_X12_puts_j20 k I2)))
set_option maxRecDepth 100000 in
set_option maxHeartbeats 4000000 in
theorem m_X12_puts_ok {Z : Zx} {K : Mem → Prop} (C : Cx Z cX12_puts 2 RX12) (hR : RM Z 0 0) (k : Nat) (p1 : Int32) (hk : isO k 12) (I : Mem) (hK : ∀ y, K (y) → RetV Z cX12_puts y) : WF Z K (m_X12_puts k p1 I) I 0 [some (rf (zG Z) k), some (.int p1)] [] := by
  unfold m_X12_puts
  refine w_aload_n (v := k) C dX12_puts_0 rfl (q := 1) rfl ?_
  refine g_X12_44 C hk lk_X12_224 dX12_puts_1 (q := 4) rfl ?_
  refine w_sipush (v := (300)) C dX12_puts_4 (by decide) (q := 7) rfl ?_
  refine w_icmp_ge (tgt := 20) (q := 10) C dX12_puts_7 (by decide) rfl (fun _ => ?_) (fun _ => ?_)
  · exact WF.less (L' := [some (rf (zG Z) k), none]) (m_X12_puts_j20_ok C hR k hk I hK) ⟨rfl, trivial⟩
  · refine w_aload_n (v := k) C dX12_puts_10 rfl (q := 11) rfl ?_
    refine g_X12_43 C hk lk_X12_105 dX12_puts_11 (q := 14) rfl ?_
    refine w_aload_n (v := k) C dX12_puts_14 rfl (q := 15) rfl ?_
    refine g_X12_44 C hk lk_X12_224 dX12_puts_15 (q := 18) rfl ?_
    refine w_iload_n (v := p1) C dX12_puts_18 rfl (q := 19) rfl ?_
    refine w_cast C (st_X12_43 hk).2 dX12_puts_19 (q := 20) rfl (fun _ I2 => ?_)
    exact WF.less (L' := [some (rf (zG Z) k), none]) (m_X12_puts_j20_ok C hR k hk I2 hK) ⟨rfl, trivial⟩
theorem c_X12_puts (l : Launch) (G : Gx) {k : Nat} (p1 : Int32) (hk : isO k 12) (I : Mem) {x : Mem} (h : m_X12_puts k p1 I = some x) : Ct l G yX12_puts cX12_puts 2 none 0 0 [rf G k, .int p1] I (none) x := Ct.of (by decide +kernel) rfl (Nat.le_of_ble_eq_true rfl) ret_v (fun Z hG hl C hR hret => by
  subst hG
  exact m_X12_puts_ok (K := fun y => y = x) C hR k p1 hk I (fun y hy => by subst hy; exact hret) x h rfl)
def m_X12_putsNumber_b2 (k : Nat) (p1 : Int32) (x2 : Int32) (I : Mem) : Option ((Int32) ⊕ ((Int32))) :=
  gd (decide (¬ x2 = 0)) (if p1 / x2 ≤ 9 then (some (.inr (x2))) else (some (.inl (x2 * 10))))
set_option maxRecDepth 100000 in
set_option maxHeartbeats 4000000 in
theorem m_X12_putsNumber_b2_ok {Z : Zx} {K : ((Int32) ⊕ ((Int32))) → Prop} (C : Cx Z cX12_putsNumber 3 RX12) (hR : RM Z 1 21) (k : Nat) (p1 : Int32) (x2 : Int32) (hk : isO k 12) (I : Mem) (hB : ∀ a, K (.inl a) → WM Z I 2 [some (rf (zG Z) k), some (.int p1), some (.int a)] []) (hX0 : ∀ b, K (.inr (b)) → WM Z I 18 [some (rf (zG Z) k), some (.int p1), some (.int b)] []) : WF Z K (m_X12_putsNumber_b2 k p1 x2 I) I 2 [some (rf (zG Z) k), some (.int p1), some (.int x2)] [] := by
  unfold m_X12_putsNumber_b2
  refine w_iload_n (v := p1) C dX12_putsNumber_2 rfl (q := 3) rfl ?_
  refine w_iload_n (v := x2) C dX12_putsNumber_3 rfl (q := 4) rfl ?_
  refine w_idiv C dX12_putsNumber_4 (q := 5) rfl ?_
  refine w_bipush (v := (9)) C dX12_putsNumber_5 (by decide) (q := 7) rfl ?_
  refine w_icmp_le (tgt := 18) (q := 10) C dX12_putsNumber_7 (by decide) rfl (fun _ => ?_) (fun _ => ?_)
  · exact w_jmp (fun h => WM.less (L' := [some (rf (zG Z) k), some (.int p1), some (.int x2)]) (hX0 _ h) ⟨rfl, rfl, rfl, trivial⟩)
  · refine w_iload_n (v := x2) C dX12_putsNumber_10 rfl (q := 11) rfl ?_
    refine w_bipush (v := (10)) C dX12_putsNumber_11 (by decide) (q := 13) rfl ?_
    refine w_imul C dX12_putsNumber_13 (q := 14) rfl ?_
    refine w_istore_n C dX12_putsNumber_14 (Nat.le_of_ble_eq_true rfl) (L' := [some (rf (zG Z) k), some (.int p1), some (.int (x2 * 10))]) rfl (q := 15) rfl ?_
    refine w_goto (tgt := 2) C dX12_putsNumber_15 (by decide) ?_
    exact w_jmp (fun h => WM.less (L' := [some (rf (zG Z) k), some (.int p1), some (.int (x2 * 10))]) (hB _ h) ⟨rfl, rfl, rfl, trivial⟩)
def m_X12_putsNumber_b18 (k : Nat) (p1 : Int32) (x2 : Int32) (I : Mem) : Option ((Int32 × Mem) ⊕ ((Mem))) :=
  if x2 ≤ 0 then (some (.inr (I))) else (gd (decide (¬ x2 = 0)) (Option.bind (m_X12_puts k (((((48 : Int32)) + ((p1 / x2) - (p1 / x2) / 10 * 10)).toUInt32 % 65536).toInt32) I) fun I2 => some (.inl (x2 / 10, I2))))
set_option maxRecDepth 100000 in
set_option maxHeartbeats 4000000 in
theorem m_X12_putsNumber_b18_ok {Z : Zx} {K : ((Int32 × Mem) ⊕ ((Mem))) → Prop} (C : Cx Z cX12_putsNumber 3 RX12) (hR : RM Z 1 21) (k : Nat) (p1 : Int32) (x2 : Int32) (hk : isO k 12) (I : Mem) (hB : ∀ a, K (.inl a) → WM Z a.2 18 [some (rf (zG Z) k), some (.int p1), some (.int a.1)] []) (hX0 : ∀ b, K (.inr (b)) → WM Z b 44 [none, none, none] []) : WF Z K (m_X12_putsNumber_b18 k p1 x2 I) I 18 [some (rf (zG Z) k), some (.int p1), some (.int x2)] [] := by
  unfold m_X12_putsNumber_b18
  refine w_iload_n (v := x2) C dX12_putsNumber_18 rfl (q := 19) rfl ?_
  refine w_if_le (tgt := 44) (q := 22) C dX12_putsNumber_19 (by decide) rfl (fun _ => ?_) (fun _ => ?_)
  · exact w_jmp (fun h => WM.less (L' := [none, none, none]) (hX0 _ h) trivial)
  · refine w_aload_n (v := k) C dX12_putsNumber_22 rfl (q := 23) rfl ?_
    refine w_bipush (v := (48)) C dX12_putsNumber_23 (by decide) (q := 25) rfl ?_
    refine w_iload_n (v := p1) C dX12_putsNumber_25 rfl (q := 26) rfl ?_
    refine w_iload_n (v := x2) C dX12_putsNumber_26 rfl (q := 27) rfl ?_
    refine w_idiv C dX12_putsNumber_27 (q := 28) rfl ?_
    refine w_bipush (v := (10)) C dX12_putsNumber_28 (by decide) (q := 30) rfl ?_
    refine w_iremL C (by decide) dX12_putsNumber_30 (q := 31) rfl ?_
    refine w_iadd C dX12_putsNumber_31 (q := 32) rfl ?_
    refine w_i2c C dX12_putsNumber_32 (q := 33) rfl ?_
    refine w_callV (val := fun I2 => none) (mem := fun I2 => I2) (st1 := fun I2 => []) (As := [.int (((((48 : Int32)) + ((p1 / x2) - (p1 / x2) / 10 * 10)).toUInt32 % 65536).toInt32)]) (st := []) (q := 36) C hR (fun x h => c_X12_puts (zl Z) (zG Z) (((((48 : Int32)) + ((p1 / x2) - (p1 / x2) / 10 * 10)).toUInt32 % 65536).toInt32) hk I h) hk mv_X12_puts lk_X12_227 rfl (by decide) (fun _ => rfl) (Nat.le_of_ble_eq_true rfl) rfl rfl dX12_putsNumber_33 rfl (fun I2 => ?_)
    refine w_iload_n (v := x2) C dX12_putsNumber_36 rfl (q := 37) rfl ?_
    refine w_bipush (v := (10)) C dX12_putsNumber_37 (by decide) (q := 39) rfl ?_
    refine w_idivL C (by decide) dX12_putsNumber_39 (q := 40) rfl ?_
    refine w_istore_n C dX12_putsNumber_40 (Nat.le_of_ble_eq_true rfl) (L' := [some (rf (zG Z) k), some (.int p1), some (.int (x2 / 10))]) rfl (q := 41) rfl ?_
    refine w_goto (tgt := 18) C dX12_putsNumber_41 (by decide) ?_
    exact w_jmp (fun h => WM.less (L' := [some (rf (zG Z) k), some (.int p1), some (.int (x2 / 10))]) (hB _ h) ⟨rfl, rfl, rfl, trivial⟩)
def m_X12_putsNumber (k : Nat) (p1 : Int32) (I : Mem) : Option (Mem) :=
  Option.bind (loopF (fun a => m_X12_putsNumber_b2 k p1 a I) FU ((1 : Int32))) (fun b1 => Option.bind (loopF (fun a => m_X12_putsNumber_b18 k p1 a.1 a.2) FU (b1, I)) (fun b3 => some b3))
set_option maxRecDepth 100000 in
set_option maxHeartbeats 4000000 in
theorem m_X12_putsNumber_ok {Z : Zx} {K : Mem → Prop} (C : Cx Z cX12_putsNumber 3 RX12) (hR : RM Z 1 21) (k : Nat) (p1 : Int32) (hk : isO k 12) (I : Mem) (hK : ∀ y, K (y) → RetV Z cX12_putsNumber y) : WF Z K (m_X12_putsNumber k p1 I) I 0 [some (rf (zG Z) k), some (.int p1), none] [] := by
  unfold m_X12_putsNumber
  refine w_iconst (v := (1)) C dX12_putsNumber_0 (by decide) (q := 1) rfl ?_
  refine w_istore_n C dX12_putsNumber_1 (Nat.le_of_ble_eq_true rfl) (L' := [some (rf (zG Z) k), some (.int p1), some (.int 1)]) rfl (q := 2) rfl ?_
  refine WF.less (L' := [some (rf (zG Z) k), some (.int p1), some (.int 1)]) (w_loopF (pc := 2) (a := ((1 : Int32))) (mem := fun a => I) (lo := fun a => [some (rf (zG Z) k), some (.int p1), some (.int a)]) (E := fun b1 => WM Z I 18 [some (rf (zG Z) k), some (.int p1), some (.int b1)] []) (fun a => m_X12_putsNumber_b2_ok C hR k p1 a hk I (fun _ h => h) (fun _ h => h)) ?_) ⟨rfl, rfl, rfl, trivial⟩
  intro b1
  refine w_hx ?_
  refine WF.less (L' := [some (rf (zG Z) k), some (.int p1), some (.int b1)]) (w_loopF (pc := 18) (a := (b1, I)) (mem := fun a => a.2) (lo := fun a => [some (rf (zG Z) k), some (.int p1), some (.int a.1)]) (E := fun b3 => WM Z b3 44 [none, none, none] []) (fun a => m_X12_putsNumber_b18_ok C hR k p1 a.1 hk a.2 (fun _ h => h) (fun _ h => h)) ?_) ⟨rfl, rfl, rfl, trivial⟩
  intro b3
  refine w_hx ?_
  exact w_vret C (hK _) dX12_putsNumber_44
theorem c_X12_putsNumber (l : Launch) (G : Gx) {k : Nat} (p1 : Int32) (hk : isO k 12) (I : Mem) {x : Mem} (h : m_X12_putsNumber k p1 I = some x) : Ct l G yX12_putsNumber cX12_putsNumber 3 none 1 21 [rf G k, .int p1] I (none) x := Ct.of (by decide +kernel) rfl (Nat.le_of_ble_eq_true rfl) ret_v (fun Z hG hl C hR hret => by
  subst hG
  exact m_X12_putsNumber_ok (K := fun y => y = x) C hR k p1 hk I (fun y hy => by subst hy; exact hret) x h rfl)
def m_X12_putsContent_j71 (k : Nat) (p1 : Int32) (p2 : Int32) (x3 : Int32) (x4 : Int32) (x5 : Int32) (I : Mem) : Option ((Int32 × Mem) ⊕ ((Mem))) :=
  Option.bind (m_X12_puts k x5 I) fun I2 => some (.inl (x4 + 1, I2))
set_option maxRecDepth 100000 in
set_option maxHeartbeats 4000000 in
theorem m_X12_putsContent_j71_ok {Z : Zx} {K : ((Int32 × Mem) ⊕ ((Mem))) → Prop} (C : Cx Z cX12_putsContent 6 RX12) (hR : RM Z 1 21) (k : Nat) (p1 : Int32) (p2 : Int32) (x3 : Int32) (x4 : Int32) (x5 : Int32) (hk : isO k 12) (I : Mem) (hB : ∀ a, K (.inl a) → WM Z a.2 9 [some (rf (zG Z) k), some (.int p1), some (.int p2), some (.int x3), some (.int a.1), none] []) (hX0 : ∀ b, K (.inr (b)) → WM Z b 83 [none, none, none, none, none, none] []) : WF Z K (m_X12_putsContent_j71 k p1 p2 x3 x4 x5 I) I 71 [some (rf (zG Z) k), some (.int p1), some (.int p2), some (.int x3), some (.int x4), some (.int x5)] [] := by
  unfold m_X12_putsContent_j71
  refine w_aload_n (v := k) C dX12_putsContent_71 rfl (q := 72) rfl ?_
  refine w_iload (v := x5) C dX12_putsContent_72 rfl (q := 74) rfl ?_
  refine w_callV (val := fun I2 => none) (mem := fun I2 => I2) (st1 := fun I2 => []) (As := [.int x5]) (st := []) (q := 77) C hR (fun x h => c_X12_puts (zl Z) (zG Z) x5 hk I h) hk mv_X12_puts lk_X12_227 rfl (by decide) (fun _ => rfl) (Nat.le_of_ble_eq_true rfl) rfl rfl dX12_putsContent_74 rfl (fun I2 => ?_)
  refine w_iinc (v := x4 + 1) C dX12_putsContent_77 rfl rfl (L' := [some (rf (zG Z) k), some (.int p1), some (.int p2), some (.int x3), some (.int (x4 + 1)), some (.int x5)]) rfl (q := 80) rfl ?_
  refine w_goto (tgt := 9) C dX12_putsContent_80 (by decide) ?_
  exact w_jmp (fun h => WM.less (L' := [some (rf (zG Z) k), some (.int p1), some (.int p2), some (.int x3), some (.int (x4 + 1)), none]) (hB _ h) ⟨rfl, rfl, rfl, rfl, rfl, trivial⟩)
def m_X12_putsContent_j65 (k : Nat) (p1 : Int32) (p2 : Int32) (x3 : Int32) (x4 : Int32) (x5 : Int32) (I : Mem) : Option ((Int32 × Mem) ⊕ ((Mem))) :=
  Option.bind (m_X12_puts k ((63 : Int32)) I) fun I1 => m_X12_putsContent_j71 k p1 p2 x3 x4 x5 I1
set_option maxRecDepth 100000 in
set_option maxHeartbeats 4000000 in
theorem m_X12_putsContent_j65_ok {Z : Zx} {K : ((Int32 × Mem) ⊕ ((Mem))) → Prop} (C : Cx Z cX12_putsContent 6 RX12) (hR : RM Z 1 21) (k : Nat) (p1 : Int32) (p2 : Int32) (x3 : Int32) (x4 : Int32) (x5 : Int32) (hk : isO k 12) (I : Mem) (hB : ∀ a, K (.inl a) → WM Z a.2 9 [some (rf (zG Z) k), some (.int p1), some (.int p2), some (.int x3), some (.int a.1), none] []) (hX0 : ∀ b, K (.inr (b)) → WM Z b 83 [none, none, none, none, none, none] []) : WF Z K (m_X12_putsContent_j65 k p1 p2 x3 x4 x5 I) I 65 [some (rf (zG Z) k), some (.int p1), some (.int p2), some (.int x3), some (.int x4), some (.int x5)] [] := by
  unfold m_X12_putsContent_j65
  refine w_aload_n (v := k) C dX12_putsContent_65 rfl (q := 66) rfl ?_
  refine w_bipush (v := (63)) C dX12_putsContent_66 (by decide) (q := 68) rfl ?_
  refine w_callV (val := fun I1 => none) (mem := fun I1 => I1) (st1 := fun I1 => []) (As := [.int 63]) (st := []) (q := 71) C hR (fun x h => c_X12_puts (zl Z) (zG Z) ((63 : Int32)) hk I h) hk mv_X12_puts lk_X12_227 rfl (by decide) (fun _ => rfl) (Nat.le_of_ble_eq_true rfl) rfl rfl dX12_putsContent_68 rfl (fun I1 => ?_)
  exact WF.less (L' := [some (rf (zG Z) k), some (.int p1), some (.int p2), some (.int x3), some (.int x4), some (.int x5)]) (m_X12_putsContent_j71_ok C hR k p1 p2 x3 x4 x5 hk I1 hB hX0) ⟨rfl, rfl, rfl, rfl, rfl, rfl, trivial⟩
def m_X12_putsContent_b9 (k : Nat) (p1 : Int32) (p2 : Int32) (x3 : Int32) (x4 : Int32) (I : Mem) : Option ((Int32 × Mem) ⊕ ((Mem))) :=
  gd (inb p1 20) (if I (k + 19) p1.toNatClampNeg ≤ p2 then (some (.inr (I))) else (gd (inb x3 100) (if I (k + 20) x3.toNatClampNeg ≤ x4 then (some (.inr (I))) else (gd (inb ((((8 : Int32)) * x3) + x4) 800) (if I (k + 21) ((((8 : Int32)) * x3) + x4).toNatClampNeg = 43 then (m_X12_putsContent_j65 k p1 p2 x3 x4 (I (k + 21) ((((8 : Int32)) * x3) + x4).toNatClampNeg) I) else (if I (k + 21) ((((8 : Int32)) * x3) + x4).toNatClampNeg = 39 then (m_X12_putsContent_j65 k p1 p2 x3 x4 (I (k + 21) ((((8 : Int32)) * x3) + x4).toNatClampNeg) I) else (if I (k + 21) ((((8 : Int32)) * x3) + x4).toNatClampNeg = 63 then (m_X12_putsContent_j65 k p1 p2 x3 x4 (I (k + 21) ((((8 : Int32)) * x3) + x4).toNatClampNeg) I) else (m_X12_putsContent_j71 k p1 p2 x3 x4 (I (k + 21) ((((8 : Int32)) * x3) + x4).toNatClampNeg) I))))))))
set_option maxRecDepth 100000 in
set_option maxHeartbeats 4000000 in
theorem m_X12_putsContent_b9_ok {Z : Zx} {K : ((Int32 × Mem) ⊕ ((Mem))) → Prop} (C : Cx Z cX12_putsContent 6 RX12) (hR : RM Z 1 21) (k : Nat) (p1 : Int32) (p2 : Int32) (x3 : Int32) (x4 : Int32) (hk : isO k 12) (I : Mem) (hB : ∀ a, K (.inl a) → WM Z a.2 9 [some (rf (zG Z) k), some (.int p1), some (.int p2), some (.int x3), some (.int a.1), none] []) (hX0 : ∀ b, K (.inr (b)) → WM Z b 83 [none, none, none, none, none, none] []) : WF Z K (m_X12_putsContent_b9 k p1 p2 x3 x4 I) I 9 [some (rf (zG Z) k), some (.int p1), some (.int p2), some (.int x3), some (.int x4), none] [] := by
  unfold m_X12_putsContent_b9
  refine w_iload_n (v := p2) C dX12_putsContent_9 rfl (q := 10) rfl ?_
  refine w_aload_n (v := k) C dX12_putsContent_10 rfl (q := 11) rfl ?_
  refine g_X12_27 C hk lk_X12_66 dX12_putsContent_11 (q := 14) rfl ?_
  refine w_iload_n (v := p1) C dX12_putsContent_14 rfl (q := 15) rfl ?_
  refine w_iald C (st_X12_27 hk).2 dX12_putsContent_15 (q := 16) rfl (fun _ => ?_)
  refine w_icmp_ge (tgt := 83) (q := 19) C dX12_putsContent_16 (by decide) rfl (fun _ => ?_) (fun _ => ?_)
  · exact w_jmp (fun h => WM.less (L' := [none, none, none, none, none, none]) (hX0 _ h) trivial)
  · refine w_iload (v := x4) C dX12_putsContent_19 rfl (q := 21) rfl ?_
    refine w_aload_n (v := k) C dX12_putsContent_21 rfl (q := 22) rfl ?_
    refine g_X12_28 C hk lk_X12_69 dX12_putsContent_22 (q := 25) rfl ?_
    refine w_iload_n (v := x3) C dX12_putsContent_25 rfl (q := 26) rfl ?_
    refine w_iald C (st_X12_28 hk).2 dX12_putsContent_26 (q := 27) rfl (fun _ => ?_)
    refine w_icmp_ge (tgt := 83) (q := 30) C dX12_putsContent_27 (by decide) rfl (fun _ => ?_) (fun _ => ?_)
    · exact w_jmp (fun h => WM.less (L' := [none, none, none, none, none, none]) (hX0 _ h) trivial)
    · refine w_aload_n (v := k) C dX12_putsContent_30 rfl (q := 31) rfl ?_
      refine g_X12_29 C hk lk_X12_72 dX12_putsContent_31 (q := 34) rfl ?_
      refine w_bipush (v := (8)) C dX12_putsContent_34 (by decide) (q := 36) rfl ?_
      refine w_iload_n (v := x3) C dX12_putsContent_36 rfl (q := 37) rfl ?_
      refine w_imul C dX12_putsContent_37 (q := 38) rfl ?_
      refine w_iload (v := x4) C dX12_putsContent_38 rfl (q := 40) rfl ?_
      refine w_iadd C dX12_putsContent_40 (q := 41) rfl ?_
      refine w_cald C (st_X12_29 hk).2 dX12_putsContent_41 (q := 42) rfl (fun _ => ?_)
      refine w_istore C dX12_putsContent_42 (Nat.le_of_ble_eq_true rfl) (L' := [some (rf (zG Z) k), some (.int p1), some (.int p2), some (.int x3), some (.int x4), some (.int (I (k + 21) ((((8 : Int32)) * x3) + x4).toNatClampNeg))]) rfl (q := 44) rfl ?_
      refine w_iload (v := I (k + 21) ((((8 : Int32)) * x3) + x4).toNatClampNeg) C dX12_putsContent_44 rfl (q := 46) rfl ?_
      refine w_bipush (v := (43)) C dX12_putsContent_46 (by decide) (q := 48) rfl ?_
      refine w_icmp_eq (tgt := 65) (q := 51) C dX12_putsContent_48 (by decide) rfl (fun _ => ?_) (fun _ => ?_)
      · exact WF.less (L' := [some (rf (zG Z) k), some (.int p1), some (.int p2), some (.int x3), some (.int x4), some (.int (I (k + 21) ((((8 : Int32)) * x3) + x4).toNatClampNeg))]) (m_X12_putsContent_j65_ok C hR k p1 p2 x3 x4 (I (k + 21) ((((8 : Int32)) * x3) + x4).toNatClampNeg) hk I hB hX0) ⟨rfl, rfl, rfl, rfl, rfl, rfl, trivial⟩
      · refine w_iload (v := I (k + 21) ((((8 : Int32)) * x3) + x4).toNatClampNeg) C dX12_putsContent_51 rfl (q := 53) rfl ?_
        refine w_bipush (v := (39)) C dX12_putsContent_53 (by decide) (q := 55) rfl ?_
        refine w_icmp_eq (tgt := 65) (q := 58) C dX12_putsContent_55 (by decide) rfl (fun _ => ?_) (fun _ => ?_)
        · exact WF.less (L' := [some (rf (zG Z) k), some (.int p1), some (.int p2), some (.int x3), some (.int x4), some (.int (I (k + 21) ((((8 : Int32)) * x3) + x4).toNatClampNeg))]) (m_X12_putsContent_j65_ok C hR k p1 p2 x3 x4 (I (k + 21) ((((8 : Int32)) * x3) + x4).toNatClampNeg) hk I hB hX0) ⟨rfl, rfl, rfl, rfl, rfl, rfl, trivial⟩
        · refine w_iload (v := I (k + 21) ((((8 : Int32)) * x3) + x4).toNatClampNeg) C dX12_putsContent_58 rfl (q := 60) rfl ?_
          refine w_bipush (v := (63)) C dX12_putsContent_60 (by decide) (q := 62) rfl ?_
          refine w_icmp_ne (tgt := 71) (q := 65) C dX12_putsContent_62 (by decide) rfl (fun _ => ?_) (fun _ => ?_)
          · exact WF.less (L' := [some (rf (zG Z) k), some (.int p1), some (.int p2), some (.int x3), some (.int x4), some (.int (I (k + 21) ((((8 : Int32)) * x3) + x4).toNatClampNeg))]) (m_X12_putsContent_j65_ok C hR k p1 p2 x3 x4 (I (k + 21) ((((8 : Int32)) * x3) + x4).toNatClampNeg) hk I hB hX0) ⟨rfl, rfl, rfl, rfl, rfl, rfl, trivial⟩
          · exact WF.less (L' := [some (rf (zG Z) k), some (.int p1), some (.int p2), some (.int x3), some (.int x4), some (.int (I (k + 21) ((((8 : Int32)) * x3) + x4).toNatClampNeg))]) (m_X12_putsContent_j71_ok C hR k p1 p2 x3 x4 (I (k + 21) ((((8 : Int32)) * x3) + x4).toNatClampNeg) hk I hB hX0) ⟨rfl, rfl, rfl, rfl, rfl, rfl, trivial⟩
def m_X12_putsContent (k : Nat) (p1 : Int32) (p2 : Int32) (I : Mem) : Option (Mem) :=
  Option.bind (loopF (fun a => m_X12_putsContent_b9 k p1 p2 ((((5 : Int32)) * p1) + p2) a.1 a.2) FU ((0 : Int32), I)) (fun b3 => some b3)
set_option maxRecDepth 100000 in
set_option maxHeartbeats 4000000 in
theorem m_X12_putsContent_ok {Z : Zx} {K : Mem → Prop} (C : Cx Z cX12_putsContent 6 RX12) (hR : RM Z 1 21) (k : Nat) (p1 : Int32) (p2 : Int32) (hk : isO k 12) (I : Mem) (hK : ∀ y, K (y) → RetV Z cX12_putsContent y) : WF Z K (m_X12_putsContent k p1 p2 I) I 0 [some (rf (zG Z) k), some (.int p1), some (.int p2), none, none, none] [] := by
  unfold m_X12_putsContent
  refine w_iconst (v := (5)) C dX12_putsContent_0 (by decide) (q := 1) rfl ?_
  refine w_iload_n (v := p1) C dX12_putsContent_1 rfl (q := 2) rfl ?_
  refine w_imul C dX12_putsContent_2 (q := 3) rfl ?_
  refine w_iload_n (v := p2) C dX12_putsContent_3 rfl (q := 4) rfl ?_
  refine w_iadd C dX12_putsContent_4 (q := 5) rfl ?_
  refine w_istore_n C dX12_putsContent_5 (Nat.le_of_ble_eq_true rfl) (L' := [some (rf (zG Z) k), some (.int p1), some (.int p2), some (.int ((((5 : Int32)) * p1) + p2)), none, none]) rfl (q := 6) rfl ?_
  refine w_iconst (v := (0)) C dX12_putsContent_6 (by decide) (q := 7) rfl ?_
  refine w_istore C dX12_putsContent_7 (Nat.le_of_ble_eq_true rfl) (L' := [some (rf (zG Z) k), some (.int p1), some (.int p2), some (.int ((((5 : Int32)) * p1) + p2)), some (.int 0), none]) rfl (q := 9) rfl ?_
  refine WF.less (L' := [some (rf (zG Z) k), some (.int p1), some (.int p2), some (.int ((((5 : Int32)) * p1) + p2)), some (.int 0), none]) (w_loopF (pc := 9) (a := ((0 : Int32), I)) (mem := fun a => a.2) (lo := fun a => [some (rf (zG Z) k), some (.int p1), some (.int p2), some (.int ((((5 : Int32)) * p1) + p2)), some (.int a.1), none]) (E := fun b3 => WM Z b3 83 [none, none, none, none, none, none] []) (fun a => m_X12_putsContent_b9_ok C hR k p1 p2 ((((5 : Int32)) * p1) + p2) a.1 hk a.2 (fun _ h => h) (fun _ h => h)) ?_) ⟨rfl, rfl, rfl, rfl, rfl, trivial⟩
  intro b3
  refine w_hx ?_
  exact w_vret C (hK _) dX12_putsContent_83
theorem c_X12_putsContent (l : Launch) (G : Gx) {k : Nat} (p1 : Int32) (p2 : Int32) (hk : isO k 12) (I : Mem) {x : Mem} (h : m_X12_putsContent k p1 p2 I = some x) : Ct l G yX12_putsContent cX12_putsContent 6 none 1 21 [rf G k, .int p1, .int p2] I (none) x := Ct.of (by decide +kernel) rfl (Nat.le_of_ble_eq_true rfl) ret_v (fun Z hG hl C hR hret => by
  subst hG
  exact m_X12_putsContent_ok (K := fun y => y = x) C hR k p1 p2 hk I (fun y hy => by subst hy; exact hret) x h rfl)
