def m_X11_areTimes (p1 : Int32) (p2 : Int32) (I : Mem) : Option (Int32) :=
  if p1 < 0 then (some 0) else (if 9 < p1 then (some 0) else (if p2 < 1 then (some 0) else (if 9 < p2 then (some 0) else (if p2 < p1 then (some 0) else (some 1)))))
set_option maxRecDepth 100000 in
set_option maxHeartbeats 4000000 in
theorem m_X11_areTimes_ok {Z : Zx} {K : Int32 → Prop} (C : Cx Z cX11_areTimes 2 RX11) (hR : RM Z 0 0) (p1 : Int32) (p2 : Int32) (I : Mem) (hK : ∀ y, K (y) → RetI Z cX11_areTimes .boolean y I) : WF Z K (m_X11_areTimes p1 p2 I) I 0 [some (.int p1), some (.int p2)] [] := by
  unfold m_X11_areTimes
  refine w_iload_n (v := p1) C dX11_areTimes_0 rfl (q := 1) rfl ?_
  refine w_if_lt (tgt := 30) (q := 4) C dX11_areTimes_1 (by decide) rfl (fun _ => ?_) (fun _ => ?_)
  · refine w_iconst (v := (0)) C dX11_areTimes_30 (by decide) (q := 31) rfl ?_
    exact w_iret C (hK _) (by decide) dX11_areTimes_31
  · refine w_iload_n (v := p1) C dX11_areTimes_4 rfl (q := 5) rfl ?_
    refine w_bipush (v := (9)) C dX11_areTimes_5 (by decide) (q := 7) rfl ?_
    refine w_icmp_gt (tgt := 30) (q := 10) C dX11_areTimes_7 (by decide) rfl (fun _ => ?_) (fun _ => ?_)
    · refine w_iconst (v := (0)) C dX11_areTimes_30 (by decide) (q := 31) rfl ?_
      exact w_iret C (hK _) (by decide) dX11_areTimes_31
    · refine w_iload_n (v := p2) C dX11_areTimes_10 rfl (q := 11) rfl ?_
      refine w_iconst (v := (1)) C dX11_areTimes_11 (by decide) (q := 12) rfl ?_
      refine w_icmp_lt (tgt := 30) (q := 15) C dX11_areTimes_12 (by decide) rfl (fun _ => ?_) (fun _ => ?_)
      · refine w_iconst (v := (0)) C dX11_areTimes_30 (by decide) (q := 31) rfl ?_
        exact w_iret C (hK _) (by decide) dX11_areTimes_31
      · refine w_iload_n (v := p2) C dX11_areTimes_15 rfl (q := 16) rfl ?_
        refine w_bipush (v := (9)) C dX11_areTimes_16 (by decide) (q := 18) rfl ?_
        refine w_icmp_gt (tgt := 30) (q := 21) C dX11_areTimes_18 (by decide) rfl (fun _ => ?_) (fun _ => ?_)
        · refine w_iconst (v := (0)) C dX11_areTimes_30 (by decide) (q := 31) rfl ?_
          exact w_iret C (hK _) (by decide) dX11_areTimes_31
        · refine w_iload_n (v := p1) C dX11_areTimes_21 rfl (q := 22) rfl ?_
          refine w_iload_n (v := p2) C dX11_areTimes_22 rfl (q := 23) rfl ?_
          refine w_icmp_gt (tgt := 30) (q := 26) C dX11_areTimes_23 (by decide) rfl (fun _ => ?_) (fun _ => ?_)
          · refine w_iconst (v := (0)) C dX11_areTimes_30 (by decide) (q := 31) rfl ?_
            exact w_iret C (hK _) (by decide) dX11_areTimes_31
          · refine w_iconst (v := (1)) C dX11_areTimes_26 (by decide) (q := 27) rfl ?_
            refine w_goto (tgt := 31) C dX11_areTimes_27 (by decide) ?_
            exact w_iret C (hK _) (by decide) dX11_areTimes_31
theorem c_X11_areTimes (l : Launch) (G : Gx) (p1 : Int32) (p2 : Int32)  (I : Mem) {x : Int32} (h : m_X11_areTimes p1 p2 I = some x) : Ct l G yX11_areTimes cX11_areTimes 2 (some (.boolean)) 0 0 [.int p1, .int p2] I (some (.int x)) I := Ct.of (by decide +kernel) rfl (Nat.le_of_ble_eq_true rfl) ret_i (fun Z hG hl C hR hret => by
  subst hG
  exact m_X11_areTimes_ok (K := fun y => y = x) C hR p1 p2  I (fun y hy => by subst hy; exact hret) x h rfl)
def m_X11_isTag (p1 : Int32) (I : Mem) : Option (Int32) :=
  if p1 < 65 then (some 0) else (if 90 < p1 then (some 0) else (some 1))
set_option maxRecDepth 100000 in
set_option maxHeartbeats 4000000 in
theorem m_X11_isTag_ok {Z : Zx} {K : Int32 → Prop} (C : Cx Z cX11_isTag 1 RX11) (hR : RM Z 0 0) (p1 : Int32) (I : Mem) (hK : ∀ y, K (y) → RetI Z cX11_isTag .boolean y I) : WF Z K (m_X11_isTag p1 I) I 0 [some (.int p1)] [] := by
  unfold m_X11_isTag
  refine w_iload_n (v := p1) C dX11_isTag_0 rfl (q := 1) rfl ?_
  refine w_bipush (v := (65)) C dX11_isTag_1 (by decide) (q := 3) rfl ?_
  refine w_icmp_lt (tgt := 16) (q := 6) C dX11_isTag_3 (by decide) rfl (fun _ => ?_) (fun _ => ?_)
  · refine w_iconst (v := (0)) C dX11_isTag_16 (by decide) (q := 17) rfl ?_
    exact w_iret C (hK _) (by decide) dX11_isTag_17
  · refine w_iload_n (v := p1) C dX11_isTag_6 rfl (q := 7) rfl ?_
    refine w_bipush (v := (90)) C dX11_isTag_7 (by decide) (q := 9) rfl ?_
    refine w_icmp_gt (tgt := 16) (q := 12) C dX11_isTag_9 (by decide) rfl (fun _ => ?_) (fun _ => ?_)
    · refine w_iconst (v := (0)) C dX11_isTag_16 (by decide) (q := 17) rfl ?_
      exact w_iret C (hK _) (by decide) dX11_isTag_17
    · refine w_iconst (v := (1)) C dX11_isTag_12 (by decide) (q := 13) rfl ?_
      refine w_goto (tgt := 17) C dX11_isTag_13 (by decide) ?_
      exact w_iret C (hK _) (by decide) dX11_isTag_17
theorem c_X11_isTag (l : Launch) (G : Gx) (p1 : Int32)  (I : Mem) {x : Int32} (h : m_X11_isTag p1 I = some x) : Ct l G yX11_isTag cX11_isTag 1 (some (.boolean)) 0 0 [.int p1] I (some (.int x)) I := Ct.of (by decide +kernel) rfl (Nat.le_of_ble_eq_true rfl) ret_i (fun Z hG hl C hR hret => by
  subst hG
  exact m_X11_isTag_ok (K := fun y => y = x) C hR p1  I (fun y hy => by subst hy; exact hret) x h rfl)
def m_X11_isBodyTag (p1 : Int32) (I : Mem) : Option (Int32) :=
  Option.bind (m_X11_isTag p1 I) fun r1 => if r1 = 0 then (some 0) else (if p1 = 72 then (some 0) else (if p1 = 84 then (some 0) else (some 1)))
set_option maxRecDepth 100000 in
set_option maxHeartbeats 4000000 in
theorem m_X11_isBodyTag_ok {Z : Zx} {K : Int32 → Prop} (C : Cx Z cX11_isBodyTag 1 RX11) (hR : RM Z 1 20) (p1 : Int32) (I : Mem) (hK : ∀ y, K (y) → RetI Z cX11_isBodyTag .boolean y I) : WF Z K (m_X11_isBodyTag p1 I) I 0 [some (.int p1)] [] := by
  unfold m_X11_isBodyTag
  refine w_iload_n (v := p1) C dX11_isBodyTag_0 rfl (q := 1) rfl ?_
  refine w_callS (val := fun r1 => some (.int r1)) (mem := fun r1 => I) (st1 := fun r1 => [.int r1]) (As := [.int p1]) (st := []) (q := 4) C hR (fun x h => c_X11_isTag (zl Z) (zG Z) p1  I h) mv_X11_isTag lk_X11_276 rfl (by decide) (fun _ => rfl) (Nat.le_of_ble_eq_true rfl) rfl rfl dX11_isBodyTag_1 rfl (fun r1 => ?_)
  refine w_if_eq (tgt := 23) (q := 7) C dX11_isBodyTag_4 (by decide) rfl (fun _ => ?_) (fun _ => ?_)
  · refine w_iconst (v := (0)) C dX11_isBodyTag_23 (by decide) (q := 24) rfl ?_
    exact w_iret C (hK _) (by decide) dX11_isBodyTag_24
  · refine w_iload_n (v := p1) C dX11_isBodyTag_7 rfl (q := 8) rfl ?_
    refine w_bipush (v := (72)) C dX11_isBodyTag_8 (by decide) (q := 10) rfl ?_
    refine w_icmp_eq (tgt := 23) (q := 13) C dX11_isBodyTag_10 (by decide) rfl (fun _ => ?_) (fun _ => ?_)
    · refine w_iconst (v := (0)) C dX11_isBodyTag_23 (by decide) (q := 24) rfl ?_
      exact w_iret C (hK _) (by decide) dX11_isBodyTag_24
    · refine w_iload_n (v := p1) C dX11_isBodyTag_13 rfl (q := 14) rfl ?_
      refine w_bipush (v := (84)) C dX11_isBodyTag_14 (by decide) (q := 16) rfl ?_
      refine w_icmp_eq (tgt := 23) (q := 19) C dX11_isBodyTag_16 (by decide) rfl (fun _ => ?_) (fun _ => ?_)
      · refine w_iconst (v := (0)) C dX11_isBodyTag_23 (by decide) (q := 24) rfl ?_
        exact w_iret C (hK _) (by decide) dX11_isBodyTag_24
      · refine w_iconst (v := (1)) C dX11_isBodyTag_19 (by decide) (q := 20) rfl ?_
        refine w_goto (tgt := 24) C dX11_isBodyTag_20 (by decide) ?_
        exact w_iret C (hK _) (by decide) dX11_isBodyTag_24
theorem c_X11_isBodyTag (l : Launch) (G : Gx) (p1 : Int32)  (I : Mem) {x : Int32} (h : m_X11_isBodyTag p1 I = some x) : Ct l G yX11_isBodyTag cX11_isBodyTag 1 (some (.boolean)) 1 20 [.int p1] I (some (.int x)) I := Ct.of (by decide +kernel) rfl (Nat.le_of_ble_eq_true rfl) ret_i (fun Z hG hl C hR hret => by
  subst hG
  exact m_X11_isBodyTag_ok (K := fun y => y = x) C hR p1  I (fun y hy => by subst hy; exact hret) x h rfl)
def m_X0_extend (k : Nat) (I : Mem) : Option (Mem) :=
  bnd (ms I k 2 ((I k 2) + 1)) fun I1 => some I1
set_option maxRecDepth 100000 in
set_option maxHeartbeats 4000000 in
theorem m_X0_extend_ok {Z : Zx} {K : Mem → Prop} (C : Cx Z cX0_extend 1 RX0) (hR : RM Z 0 0) (k : Nat) (hk : isO k 0) (I : Mem) (hK : ∀ y, K (y) → RetV Z cX0_extend y) : WF Z K (m_X0_extend k I) I 0 [some (rf (zG Z) k)] [] := by
  unfold m_X0_extend
  refine w_aload_n (v := k) C dX0_extend_0 rfl (q := 1) rfl ?_
  refine w_dup C dX0_extend_1 rfl (q := 2) rfl ?_
  refine g_X0_2 C hk lk_X0_17 dX0_extend_2 (q := 5) rfl ?_
  refine w_iconst (v := (1)) C dX0_extend_5 (by decide) (q := 6) rfl ?_
  refine w_iadd C dX0_extend_6 (q := 7) rfl ?_
  refine p_X0_2 C hk  lk_X0_17 dX0_extend_7 (q := 10) rfl (fun I1 => ?_)
  exact w_vret C (hK _) dX0_extend_10
theorem c_X0_extend (l : Launch) (G : Gx) {k : Nat} (hk : isO k 0) (I : Mem) {x : Mem} (h : m_X0_extend k I = some x) : Ct l G yX0_extend cX0_extend 1 none 0 0 [rf G k] I (none) x := Ct.of (by decide +kernel) rfl (Nat.le_of_ble_eq_true rfl) ret_v (fun Z hG hl C hR hret => by
  subst hG
  exact m_X0_extend_ok (K := fun y => y = x) C hR k hk I (fun y hy => by subst hy; exact hret) x h rfl)
def m_X2_set (k : Nat) (p1 : Int32) (p2 : Int32) (p3 : Int32) (I : Mem) : Option (Mem) :=
  gd (okc p1) (bnd (ms I k 0 p1) fun I1 => bnd (ms I1 k 1 p2) fun I3 => bnd (ms I3 k 2 p3) fun I4 => some I4)
set_option maxRecDepth 100000 in
set_option maxHeartbeats 4000000 in
theorem m_X2_set_ok {Z : Zx} {K : Mem → Prop} (C : Cx Z cX2_set 4 RX2) (hR : RM Z 0 0) (k : Nat) (p1 : Int32) (p2 : Int32) (p3 : Int32) (hk : isO k 2) (I : Mem) (hK : ∀ y, K (y) → RetV Z cX2_set y) : WF Z K (m_X2_set k p1 p2 p3 I) I 0 [some (rf (zG Z) k), some (.int p1), some (.int p2), some (.int p3)] [] := by
  unfold m_X2_set
  refine w_aload_n (v := k) C dX2_set_0 rfl (q := 1) rfl ?_
  refine w_iload_n (v := p1) C dX2_set_1 rfl (q := 2) rfl ?_
  refine w_gd (fun h2 => ?_)
  refine p_X2_0 C hk h2 lk_X2_7 dX2_set_2 (q := 5) rfl (fun I1 => ?_)
  refine w_aload_n (v := k) C dX2_set_5 rfl (q := 6) rfl ?_
  refine w_iload_n (v := p2) C dX2_set_6 rfl (q := 7) rfl ?_
  refine p_X2_1 C hk  lk_X2_13 dX2_set_7 (q := 10) rfl (fun I3 => ?_)
  refine w_aload_n (v := k) C dX2_set_10 rfl (q := 11) rfl ?_
  refine w_iload_n (v := p3) C dX2_set_11 rfl (q := 12) rfl ?_
  refine p_X2_2 C hk  lk_X2_17 dX2_set_12 (q := 15) rfl (fun I4 => ?_)
  exact w_vret C (hK _) dX2_set_15
theorem c_X2_set (l : Launch) (G : Gx) {k : Nat} (p1 : Int32) (p2 : Int32) (p3 : Int32) (hk : isO k 2) (I : Mem) {x : Mem} (h : m_X2_set k p1 p2 p3 I = some x) : Ct l G yX2_set cX2_set 4 none 0 0 [rf G k, .int p1, .int p2, .int p3] I (none) x := Ct.of (by decide +kernel) rfl (Nat.le_of_ble_eq_true rfl) ret_v (fun Z hG hl C hR hret => by
  subst hG
  exact m_X2_set_ok (K := fun y => y = x) C hR k p1 p2 p3 hk I (fun y hy => by subst hy; exact hret) x h rfl)
def m_X0_begin (k : Nat) (p1 : Int32) (p2 : Int32) (p3 : Int32) (p4 : Int32) (I : Mem) : Option (Mem) :=
  gd (okz p1) (bnd (ms I k 0 p1) fun I1 => bnd (ms I1 k 1 p2) fun I3 => bnd (ms I3 k 2 p2) fun I4 => bnd (ms I4 k 3 p3) fun I5 => bnd (ms I5 k 4 p4) fun I6 => some I6)
set_option maxRecDepth 100000 in
set_option maxHeartbeats 4000000 in
theorem m_X0_begin_ok {Z : Zx} {K : Mem → Prop} (C : Cx Z cX0_begin 5 RX0) (hR : RM Z 0 0) (k : Nat) (p1 : Int32) (p2 : Int32) (p3 : Int32) (p4 : Int32) (hk : isO k 0) (I : Mem) (hK : ∀ y, K (y) → RetV Z cX0_begin y) : WF Z K (m_X0_begin k p1 p2 p3 p4 I) I 0 [some (rf (zG Z) k), some (.int p1), some (.int p2), some (.int p3), some (.int p4)] [] := by
  unfold m_X0_begin
  refine w_aload_n (v := k) C dX0_begin_0 rfl (q := 1) rfl ?_
  refine w_iload_n (v := p1) C dX0_begin_1 rfl (q := 2) rfl ?_
  refine w_gd (fun h2 => ?_)
  refine p_X0_0 C hk h2 lk_X0_7 dX0_begin_2 (q := 5) rfl (fun I1 => ?_)
  refine w_aload_n (v := k) C dX0_begin_5 rfl (q := 6) rfl ?_
  refine w_iload_n (v := p2) C dX0_begin_6 rfl (q := 7) rfl ?_
  refine p_X0_1 C hk  lk_X0_13 dX0_begin_7 (q := 10) rfl (fun I3 => ?_)
  refine w_aload_n (v := k) C dX0_begin_10 rfl (q := 11) rfl ?_
  refine w_iload_n (v := p2) C dX0_begin_11 rfl (q := 12) rfl ?_
  refine p_X0_2 C hk  lk_X0_17 dX0_begin_12 (q := 15) rfl (fun I4 => ?_)
  refine w_aload_n (v := k) C dX0_begin_15 rfl (q := 16) rfl ?_
  refine w_iload_n (v := p3) C dX0_begin_16 rfl (q := 17) rfl ?_
  refine p_X0_3 C hk  lk_X0_20 dX0_begin_17 (q := 20) rfl (fun I5 => ?_)
  refine w_aload_n (v := k) C dX0_begin_20 rfl (q := 21) rfl ?_
  refine w_iload (v := p4) C dX0_begin_21 rfl (q := 23) rfl ?_
  refine p_X0_4 C hk  lk_X0_23 dX0_begin_23 (q := 26) rfl (fun I6 => ?_)
  exact w_vret C (hK _) dX0_begin_26
theorem c_X0_begin (l : Launch) (G : Gx) {k : Nat} (p1 : Int32) (p2 : Int32) (p3 : Int32) (p4 : Int32) (hk : isO k 0) (I : Mem) {x : Mem} (h : m_X0_begin k p1 p2 p3 p4 I = some x) : Ct l G yX0_begin cX0_begin 5 none 0 0 [rf G k, .int p1, .int p2, .int p3, .int p4] I (none) x := Ct.of (by decide +kernel) rfl (Nat.le_of_ble_eq_true rfl) ret_v (fun Z hG hl C hR hret => by
  subst hG
  exact m_X0_begin_ok (K := fun y => y = x) C hR k p1 p2 p3 p4 hk I (fun y hy => by subst hy; exact hret) x h rfl)
def m_X8_appendEntry (k : Nat) (p1 : Int32) (p2 : Int32) (p3 : Int32) (I : Mem) : Option (Mem) :=
  if 11 ≤ I k 5 then (some I) else (gd (inb (I k 5) 11) (Option.bind (m_X0_begin ((k + 2) + (13 + 1 * (I k 5).toNatClampNeg)) p1 (I k 4) p2 p3 I) fun I2 => bnd (ms I2 k 5 ((I2 k 5) + 1)) fun I3 => some I3))
set_option maxRecDepth 100000 in
set_option maxHeartbeats 4000000 in
theorem m_X8_appendEntry_ok {Z : Zx} {K : Mem → Prop} (C : Cx Z cX8_appendEntry 4 RX8) (hR : RM Z 1 24) (k : Nat) (p1 : Int32) (p2 : Int32) (p3 : Int32) (hk : isO k 8) (I : Mem) (hK : ∀ y, K (y) → RetV Z cX8_appendEntry y) : WF Z K (m_X8_appendEntry k p1 p2 p3 I) I 0 [some (rf (zG Z) k), some (.int p1), some (.int p2), some (.int p3)] [] := by
  unfold m_X8_appendEntry
  refine w_aload_n (v := k) C dX8_appendEntry_0 rfl (q := 1) rfl ?_
  refine g_X8_5 C hk lk_X8_37 dX8_appendEntry_1 (q := 4) rfl ?_
  refine w_bipush (v := (11)) C dX8_appendEntry_4 (by decide) (q := 6) rfl ?_
  refine w_icmp_ge (tgt := 38) (q := 9) C dX8_appendEntry_6 (by decide) rfl (fun _ => ?_) (fun _ => ?_)
  · exact w_vret C (hK _) dX8_appendEntry_38
  · refine w_aload_n (v := k) C dX8_appendEntry_9 rfl (q := 10) rfl ?_
    refine g_X8_1 C hk lk_X8_19 dX8_appendEntry_10 (q := 13) rfl ?_
    refine w_aload_n (v := k) C dX8_appendEntry_13 rfl (q := 14) rfl ?_
    refine g_X8_5 C hk lk_X8_37 dX8_appendEntry_14 (q := 17) rfl ?_
    refine w_aald (t := 0) C (st_X8_1 hk).2 rfl (el_Entry (st_X8_1 hk).2) dX8_appendEntry_17 (q := 18) rfl (fun _ h1 => ?_)
    refine w_iload_n (v := p1) C dX8_appendEntry_18 rfl (q := 19) rfl ?_
    refine w_aload_n (v := k) C dX8_appendEntry_19 rfl (q := 20) rfl ?_
    refine g_X8_4 C hk lk_X8_33 dX8_appendEntry_20 (q := 23) rfl ?_
    refine w_iload_n (v := p2) C dX8_appendEntry_23 rfl (q := 24) rfl ?_
    refine w_iload_n (v := p3) C dX8_appendEntry_24 rfl (q := 25) rfl ?_
    refine w_callV (val := fun I2 => none) (mem := fun I2 => I2) (st1 := fun I2 => []) (As := [.int p1, .int (I k 4), .int p2, .int p3]) (st := []) (q := 28) C hR (fun x h => c_X0_begin (zl Z) (zG Z) p1 (I k 4) p2 p3 h1 I h) h1 mv_X0_begin lk_X8_75 rfl (by decide) (fun _ => rfl) (Nat.le_of_ble_eq_true rfl) rfl rfl dX8_appendEntry_25 rfl (fun I2 => ?_)
    refine w_aload_n (v := k) C dX8_appendEntry_28 rfl (q := 29) rfl ?_
    refine w_dup C dX8_appendEntry_29 rfl (q := 30) rfl ?_
    refine g_X8_5 C hk lk_X8_37 dX8_appendEntry_30 (q := 33) rfl ?_
    refine w_iconst (v := (1)) C dX8_appendEntry_33 (by decide) (q := 34) rfl ?_
    refine w_iadd C dX8_appendEntry_34 (q := 35) rfl ?_
    refine p_X8_5 C hk  lk_X8_37 dX8_appendEntry_35 (q := 38) rfl (fun I3 => ?_)
    exact w_vret C (hK _) dX8_appendEntry_38
theorem c_X8_appendEntry (l : Launch) (G : Gx) {k : Nat} (p1 : Int32) (p2 : Int32) (p3 : Int32) (hk : isO k 8) (I : Mem) {x : Mem} (h : m_X8_appendEntry k p1 p2 p3 I = some x) : Ct l G yX8_appendEntry cX8_appendEntry 4 none 1 24 [rf G k, .int p1, .int p2, .int p3] I (none) x := Ct.of (by decide +kernel) rfl (Nat.le_of_ble_eq_true rfl) ret_v (fun Z hG hl C hR hret => by
  subst hG
  exact m_X8_appendEntry_ok (K := fun y => y = x) C hR k p1 p2 p3 hk I (fun y hy => by subst hy; exact hret) x h rfl)
def m_X8_entryAt_j21 (k : Nat) (I : Mem) : Option (Nat) :=
  some (k + 4)
set_option maxRecDepth 100000 in
set_option maxHeartbeats 4000000 in
theorem m_X8_entryAt_j21_ok {Z : Zx} {K : Nat → Prop} (C : Cx Z cX8_entryAt 2 RX8) (hR : RM Z 0 0) (k : Nat) (hk : isO k 8) (I : Mem) (hK : ∀ y, K (y) → RetA Z cX8_entryAt y I) : WF Z K (m_X8_entryAt_j21 k I) I 21 [some (rf (zG Z) k), none] [] := by
  unfold m_X8_entryAt_j21
  refine w_aload_n (v := k) C dX8_entryAt_21 rfl (q := 22) rfl ?_
  refine g_X8_3 C hk lk_X8_29 dX8_entryAt_22 (q := 25) rfl ?_
  exact w_aret C (hK _) dX8_entryAt_25
def m_X8_entryAt (k : Nat) (p1 : Int32) (I : Mem) : Option (Nat) :=
  if p1 < 0 then (m_X8_entryAt_j21 k I) else (if I k 5 ≤ p1 then (m_X8_entryAt_j21 k I) else (gd (inb p1 11) (some ((k + 2) + (13 + 1 * p1.toNatClampNeg)))))
set_option maxRecDepth 100000 in
set_option maxHeartbeats 4000000 in
theorem m_X8_entryAt_ok {Z : Zx} {K : Nat → Prop} (C : Cx Z cX8_entryAt 2 RX8) (hR : RM Z 0 0) (k : Nat) (p1 : Int32) (hk : isO k 8) (I : Mem) (hK : ∀ y, K (y) → RetA Z cX8_entryAt y I) : WF Z K (m_X8_entryAt k p1 I) I 0 [some (rf (zG Z) k), some (.int p1)] [] := by
  unfold m_X8_entryAt
  refine w_iload_n (v := p1) C dX8_entryAt_0 rfl (q := 1) rfl ?_
  refine w_if_lt (tgt := 21) (q := 4) C dX8_entryAt_1 (by decide) rfl (fun _ => ?_) (fun _ => ?_)
  · exact WF.less (L' := [some (rf (zG Z) k), none]) (m_X8_entryAt_j21_ok C hR k hk I hK) ⟨rfl, trivial⟩
  · refine w_iload_n (v := p1) C dX8_entryAt_4 rfl (q := 5) rfl ?_
    refine w_aload_n (v := k) C dX8_entryAt_5 rfl (q := 6) rfl ?_
    refine g_X8_5 C hk lk_X8_37 dX8_entryAt_6 (q := 9) rfl ?_
    refine w_icmp_ge (tgt := 21) (q := 12) C dX8_entryAt_9 (by decide) rfl (fun _ => ?_) (fun _ => ?_)
    · exact WF.less (L' := [some (rf (zG Z) k), none]) (m_X8_entryAt_j21_ok C hR k hk I hK) ⟨rfl, trivial⟩
    · refine w_aload_n (v := k) C dX8_entryAt_12 rfl (q := 13) rfl ?_
      refine g_X8_1 C hk lk_X8_19 dX8_entryAt_13 (q := 16) rfl ?_
      refine w_iload_n (v := p1) C dX8_entryAt_16 rfl (q := 17) rfl ?_
      refine w_aald (t := 0) C (st_X8_1 hk).2 rfl (el_Entry (st_X8_1 hk).2) dX8_entryAt_17 (q := 18) rfl (fun _ h1 => ?_)
      refine w_goto (tgt := 25) C dX8_entryAt_18 (by decide) ?_
      exact w_aret C (hK _) dX8_entryAt_25
theorem c_X8_entryAt (l : Launch) (G : Gx) {k : Nat} (p1 : Int32) (hk : isO k 8) (I : Mem) {x : Nat} (h : m_X8_entryAt k p1 I = some x) : Ct l G yX8_entryAt cX8_entryAt 2 (some (.object "Segmentry$Entry")) 0 0 [rf G k, .int p1] I (some (rf G x)) I := Ct.of (by decide +kernel) rfl (Nat.le_of_ble_eq_true rfl) ret_a (fun Z hG hl C hR hret => by
  subst hG
  exact m_X8_entryAt_ok (K := fun y => y = x) C hR k p1 hk I (fun y hy => by subst hy; exact hret _ rfl) x h rfl)
def m_X8_appendItem_j32 (k : Nat) (p1 : Int32) (p2 : Int32) (p3 : Int32) (I : Mem) : Option (Int32 × Mem) :=
  Option.bind (m_X8_entryAt k ((I k 5) - 1) I) fun r1 => gd (iO r1 0) (Option.bind (m_X0_extend r1 I) fun I3 => gd (inb (I3 k 4) 10) (Option.bind (m_X2_set ((k + 1) + (4 + 1 * (I3 k 4).toNatClampNeg)) p1 p2 p3 I3) fun I5 => bnd (ms I5 k 4 ((I5 k 4) + 1)) fun I6 => some (((I6 k 4) - 1, I6))))
set_option maxRecDepth 100000 in
set_option maxHeartbeats 4000000 in
theorem m_X8_appendItem_j32_ok {Z : Zx} {K : (Int32 × Mem) → Prop} (C : Cx Z cX8_appendItem 4 RX8) (hR : RM Z 2 47) (k : Nat) (p1 : Int32) (p2 : Int32) (p3 : Int32) (hk : isO k 8) (I : Mem) (hK : ∀ y, K (y) → RetI Z cX8_appendItem .int y.1 y.2) : WF Z K (m_X8_appendItem_j32 k p1 p2 p3 I) I 32 [some (rf (zG Z) k), some (.int p1), some (.int p2), some (.int p3)] [] := by
  unfold m_X8_appendItem_j32
  refine w_aload_n (v := k) C dX8_appendItem_32 rfl (q := 33) rfl ?_
  refine w_aload_n (v := k) C dX8_appendItem_33 rfl (q := 34) rfl ?_
  refine g_X8_5 C hk lk_X8_37 dX8_appendItem_34 (q := 37) rfl ?_
  refine w_iconst (v := (1)) C dX8_appendItem_37 (by decide) (q := 38) rfl ?_
  refine w_isub C dX8_appendItem_38 (q := 39) rfl ?_
  refine w_callV (val := fun r1 => some (rf (zG Z) r1)) (mem := fun r1 => I) (st1 := fun r1 => [rf (zG Z) r1]) (As := [.int ((I k 5) - 1)]) (st := []) (q := 42) C hR (fun x h => c_X8_entryAt (zl Z) (zG Z) ((I k 5) - 1) hk I h) hk mv_X8_entryAt lk_X8_44 rfl (by decide) (fun _ => rfl) (Nat.le_of_ble_eq_true rfl) rfl rfl dX8_appendItem_39 rfl (fun r1 => ?_)
  refine w_gd (fun h2 => ?_)
  refine w_callV (val := fun I3 => none) (mem := fun I3 => I3) (st1 := fun I3 => []) (As := []) (st := []) (q := 45) C hR (fun x h => c_X0_extend (zl Z) (zG Z)  (iO_of h2) I h) (iO_of h2) mv_X0_extend lk_X8_64 rfl (by decide) (fun _ => rfl) (Nat.le_of_ble_eq_true rfl) rfl rfl dX8_appendItem_42 rfl (fun I3 => ?_)
  refine w_aload_n (v := k) C dX8_appendItem_45 rfl (q := 46) rfl ?_
  refine g_X8_0 C hk lk_X8_11 dX8_appendItem_46 (q := 49) rfl ?_
  refine w_aload_n (v := k) C dX8_appendItem_49 rfl (q := 50) rfl ?_
  refine g_X8_4 C hk lk_X8_33 dX8_appendItem_50 (q := 53) rfl ?_
  refine w_aald (t := 1) C (st_X8_0 hk).2 rfl (el_Item (st_X8_0 hk).2) dX8_appendItem_53 (q := 54) rfl (fun _ h4 => ?_)
  refine w_iload_n (v := p1) C dX8_appendItem_54 rfl (q := 55) rfl ?_
  refine w_iload_n (v := p2) C dX8_appendItem_55 rfl (q := 56) rfl ?_
  refine w_iload_n (v := p3) C dX8_appendItem_56 rfl (q := 57) rfl ?_
  refine w_callV (val := fun I5 => none) (mem := fun I5 => I5) (st1 := fun I5 => []) (As := [.int p1, .int p2, .int p3]) (st := []) (q := 60) C hR (fun x h => c_X2_set (zl Z) (zG Z) p1 p2 p3 h4 I3 h) h4 mv_X2_set lk_X8_67 rfl (by decide) (fun _ => rfl) (Nat.le_of_ble_eq_true rfl) rfl rfl dX8_appendItem_57 rfl (fun I5 => ?_)
  refine w_aload_n (v := k) C dX8_appendItem_60 rfl (q := 61) rfl ?_
  refine w_dup C dX8_appendItem_61 rfl (q := 62) rfl ?_
  refine g_X8_4 C hk lk_X8_33 dX8_appendItem_62 (q := 65) rfl ?_
  refine w_iconst (v := (1)) C dX8_appendItem_65 (by decide) (q := 66) rfl ?_
  refine w_iadd C dX8_appendItem_66 (q := 67) rfl ?_
  refine p_X8_4 C hk  lk_X8_33 dX8_appendItem_67 (q := 70) rfl (fun I6 => ?_)
  refine w_aload_n (v := k) C dX8_appendItem_70 rfl (q := 71) rfl ?_
  refine g_X8_4 C hk lk_X8_33 dX8_appendItem_71 (q := 74) rfl ?_
  refine w_iconst (v := (1)) C dX8_appendItem_74 (by decide) (q := 75) rfl ?_
  refine w_isub C dX8_appendItem_75 (q := 76) rfl ?_
  exact w_iret C (hK _) rfl dX8_appendItem_76
def m_X8_appendItem (k : Nat) (p1 : Int32) (p2 : Int32) (p3 : Int32) (I : Mem) : Option (Int32 × Mem) :=
  if I k 4 < 10 then (if I k 6 = 0 then (Option.bind (m_X8_appendEntry k ((0 : Int32)) (if 1 < p2 then 1 else p2) ((1 : Int32)) I) fun I7 => m_X8_appendItem_j32 k p1 p2 p3 I7) else (m_X8_appendItem_j32 k p1 p2 p3 I)) else (some ((I k 4, I)))
set_option maxRecDepth 100000 in
set_option maxHeartbeats 4000000 in
theorem m_X8_appendItem_ok {Z : Zx} {K : (Int32 × Mem) → Prop} (C : Cx Z cX8_appendItem 4 RX8) (hR : RM Z 2 47) (k : Nat) (p1 : Int32) (p2 : Int32) (p3 : Int32) (hk : isO k 8) (I : Mem) (hK : ∀ y, K (y) → RetI Z cX8_appendItem .int y.1 y.2) : WF Z K (m_X8_appendItem k p1 p2 p3 I) I 0 [some (rf (zG Z) k), some (.int p1), some (.int p2), some (.int p3)] [] := by
  unfold m_X8_appendItem
  refine w_aload_n (v := k) C dX8_appendItem_0 rfl (q := 1) rfl ?_
  refine g_X8_4 C hk lk_X8_33 dX8_appendItem_1 (q := 4) rfl ?_
  refine w_bipush (v := (10)) C dX8_appendItem_4 (by decide) (q := 6) rfl ?_
  refine w_icmp_lt (tgt := 14) (q := 9) C dX8_appendItem_6 (by decide) rfl (fun _ => ?_) (fun _ => ?_)
  · refine w_aload_n (v := k) C dX8_appendItem_14 rfl (q := 15) rfl ?_
    refine g_X8_6 C hk lk_X8_40 dX8_appendItem_15 (q := 18) rfl ?_
    refine w_if_ne (tgt := 32) (q := 21) C dX8_appendItem_18 (by decide) rfl (fun _ => ?_) (fun _ => ?_)
    · refine w_aload_n (v := k) C dX8_appendItem_21 rfl (q := 22) rfl ?_
      refine w_iconst (v := (0)) C dX8_appendItem_22 (by decide) (q := 23) rfl ?_
      refine w_iload_n (v := p2) C dX8_appendItem_23 rfl (q := 24) rfl ?_
      refine w_iconst (v := (1)) C dX8_appendItem_24 (by decide) (q := 25) rfl ?_
      refine w_mmin C hR lk_X8_54 mm_min_s mm_i mm_min_c (by decide) (Nat.le_of_ble_eq_true rfl) rfl dX8_appendItem_25 (q := 28) rfl ?_
      refine w_iconst (v := (1)) C dX8_appendItem_28 (by decide) (q := 29) rfl ?_
      refine w_callV (val := fun I7 => none) (mem := fun I7 => I7) (st1 := fun I7 => []) (As := [.int 0, .int (if 1 < p2 then 1 else p2), .int 1]) (st := []) (q := 32) C hR (fun x h => c_X8_appendEntry (zl Z) (zG Z) ((0 : Int32)) (if 1 < p2 then 1 else p2) ((1 : Int32)) hk I h) hk mv_X8_appendEntry lk_X8_60 rfl (by decide) (fun _ => rfl) (Nat.le_of_ble_eq_true rfl) rfl rfl dX8_appendItem_29 rfl (fun I7 => ?_)
      exact WF.less (L' := [some (rf (zG Z) k), some (.int p1), some (.int p2), some (.int p3)]) (m_X8_appendItem_j32_ok C hR k p1 p2 p3 hk I7 hK) ⟨rfl, rfl, rfl, rfl, trivial⟩
    · exact WF.less (L' := [some (rf (zG Z) k), some (.int p1), some (.int p2), some (.int p3)]) (m_X8_appendItem_j32_ok C hR k p1 p2 p3 hk I hK) ⟨rfl, rfl, rfl, rfl, trivial⟩
  · refine w_aload_n (v := k) C dX8_appendItem_9 rfl (q := 10) rfl ?_
    refine g_X8_4 C hk lk_X8_33 dX8_appendItem_10 (q := 13) rfl ?_
    exact w_iret C (hK _) rfl dX8_appendItem_13
theorem c_X8_appendItem (l : Launch) (G : Gx) {k : Nat} (p1 : Int32) (p2 : Int32) (p3 : Int32) (hk : isO k 8) (I : Mem) {x : Int32 × Mem} (h : m_X8_appendItem k p1 p2 p3 I = some x) : Ct l G yX8_appendItem cX8_appendItem 4 (some (.int)) 2 47 [rf G k, .int p1, .int p2, .int p3] I (some (.int x.1)) x.2 := Ct.of (by decide +kernel) rfl (Nat.le_of_ble_eq_true rfl) ret_i (fun Z hG hl C hR hret => by
  subst hG
  exact m_X8_appendItem_ok (K := fun y => y = x) C hR k p1 p2 p3 hk I (fun y hy => by subst hy; exact hret) x h rfl)
def m_X8_itemCount (k : Nat) (I : Mem) : Option (Int32) :=
  some (I k 4)
set_option maxRecDepth 100000 in
set_option maxHeartbeats 4000000 in
theorem m_X8_itemCount_ok {Z : Zx} {K : Int32 → Prop} (C : Cx Z cX8_itemCount 1 RX8) (hR : RM Z 0 0) (k : Nat) (hk : isO k 8) (I : Mem) (hK : ∀ y, K (y) → RetI Z cX8_itemCount .int y I) : WF Z K (m_X8_itemCount k I) I 0 [some (rf (zG Z) k)] [] := by
  unfold m_X8_itemCount
  refine w_aload_n (v := k) C dX8_itemCount_0 rfl (q := 1) rfl ?_
  refine g_X8_4 C hk lk_X8_33 dX8_itemCount_1 (q := 4) rfl ?_
  exact w_iret C (hK _) rfl dX8_itemCount_4
theorem c_X8_itemCount (l : Launch) (G : Gx) {k : Nat} (hk : isO k 8) (I : Mem) {x : Int32} (h : m_X8_itemCount k I = some x) : Ct l G yX8_itemCount cX8_itemCount 1 (some (.int)) 0 0 [rf G k] I (some (.int x)) I := Ct.of (by decide +kernel) rfl (Nat.le_of_ble_eq_true rfl) ret_i (fun Z hG hl C hR hret => by
  subst hG
  exact m_X8_itemCount_ok (K := fun y => y = x) C hR k hk I (fun y hy => by subst hy; exact hret) x h rfl)
def m_X11_addItem_j15  (I : Mem) : Option (Int32 × Mem) :=
  none
set_option maxRecDepth 100000 in
set_option maxHeartbeats 4000000 in
theorem m_X11_addItem_j15_ok {Z : Zx} {K : (Int32 × Mem) → Prop} (C : Cx Z cX11_addItem 4 RX11) (hR : RM Z 3 70) (I : Mem) (hK : ∀ y, K (y) → RetI Z cX11_addItem .int y.1 y.2) : WF Z K (m_X11_addItem_j15  I) I 15 [none, none, none, none] [] := by
  unfold m_X11_addItem_j15
  exact w_none
def m_X11_addItem (k : Nat) (p1 : Int32) (p2 : Int32) (p3 : Int32) (I : Mem) : Option (Int32 × Mem) :=
  Option.bind (m_X11_isBodyTag p1 I) fun r1 => if r1 = 0 then (m_X11_addItem_j15  I) else (Option.bind (m_X11_areTimes p2 p3 I) fun r2 => if r2 = 0 then (m_X11_addItem_j15  I) else (Option.bind (m_X8_itemCount (k + 1) I) fun r3 => if r3 < 10 then (Option.bind (m_X8_appendItem (k + 1) p1 p2 p3 I) fun r4 => some ((r4.1, r4.2))) else (none)))
set_option maxRecDepth 100000 in
set_option maxHeartbeats 4000000 in
theorem m_X11_addItem_ok {Z : Zx} {K : (Int32 × Mem) → Prop} (C : Cx Z cX11_addItem 4 RX11) (hR : RM Z 3 70) (k : Nat) (p1 : Int32) (p2 : Int32) (p3 : Int32) (hk : isO k 11) (I : Mem) (hK : ∀ y, K (y) → RetI Z cX11_addItem .int y.1 y.2) : WF Z K (m_X11_addItem k p1 p2 p3 I) I 0 [some (rf (zG Z) k), some (.int p1), some (.int p2), some (.int p3)] [] := by
  unfold m_X11_addItem
  refine w_iload_n (v := p1) C dX11_addItem_0 rfl (q := 1) rfl ?_
  refine w_callS (val := fun r1 => some (.int r1)) (mem := fun r1 => I) (st1 := fun r1 => [.int r1]) (As := [.int p1]) (st := []) (q := 4) C hR (fun x h => c_X11_isBodyTag (zl Z) (zG Z) p1  I h) mv_X11_isBodyTag lk_X11_62 rfl (by decide) (fun _ => rfl) (Nat.le_of_ble_eq_true rfl) rfl rfl dX11_addItem_1 rfl (fun r1 => ?_)
  refine w_if_eq (tgt := 15) (q := 7) C dX11_addItem_4 (by decide) rfl (fun _ => ?_) (fun _ => ?_)
  · exact WF.less (L' := [none, none, none, none]) (m_X11_addItem_j15_ok C hR   I hK) trivial
  · refine w_iload_n (v := p2) C dX11_addItem_7 rfl (q := 8) rfl ?_
    refine w_iload_n (v := p3) C dX11_addItem_8 rfl (q := 9) rfl ?_
    refine w_callS (val := fun r2 => some (.int r2)) (mem := fun r2 => I) (st1 := fun r2 => [.int r2]) (As := [.int p2, .int p3]) (st := []) (q := 12) C hR (fun x h => c_X11_areTimes (zl Z) (zG Z) p2 p3  I h) mv_X11_areTimes lk_X11_66 rfl (by decide) (fun _ => rfl) (Nat.le_of_ble_eq_true rfl) rfl rfl dX11_addItem_9 rfl (fun r2 => ?_)
    refine w_if_ne (tgt := 25) (q := 15) C dX11_addItem_12 (by decide) rfl (fun _ => ?_) (fun _ => ?_)
    · exact WF.less (L' := [none, none, none, none]) (m_X11_addItem_j15_ok C hR   I hK) trivial
    · refine w_aload_n (v := k) C dX11_addItem_25 rfl (q := 26) rfl ?_
      refine g_X11_0 C hk lk_X11_12 dX11_addItem_26 (q := 29) rfl ?_
      refine w_callV (val := fun r3 => some (.int r3)) (mem := fun r3 => I) (st1 := fun r3 => [.int r3]) (As := []) (st := []) (q := 32) C hR (fun x h => c_X8_itemCount (zl Z) (zG Z)  (st_X11_0 hk).2 I h) (st_X11_0 hk).2 mv_X8_itemCount lk_X11_77 rfl (by decide) (fun _ => rfl) (Nat.le_of_ble_eq_true rfl) rfl rfl dX11_addItem_29 rfl (fun r3 => ?_)
      refine w_bipush (v := (10)) C dX11_addItem_32 (by decide) (q := 34) rfl ?_
      refine w_icmp_lt (tgt := 47) (q := 37) C dX11_addItem_34 (by decide) rfl (fun _ => ?_) (fun _ => ?_)
      · refine w_aload_n (v := k) C dX11_addItem_47 rfl (q := 48) rfl ?_
        refine g_X11_0 C hk lk_X11_12 dX11_addItem_48 (q := 51) rfl ?_
        refine w_iload_n (v := p1) C dX11_addItem_51 rfl (q := 52) rfl ?_
        refine w_iload_n (v := p2) C dX11_addItem_52 rfl (q := 53) rfl ?_
        refine w_iload_n (v := p3) C dX11_addItem_53 rfl (q := 54) rfl ?_
        refine w_callV (val := fun r4 => some (.int r4.1)) (mem := fun r4 => r4.2) (st1 := fun r4 => [.int r4.1]) (As := [.int p1, .int p2, .int p3]) (st := []) (q := 57) C hR (fun x h => c_X8_appendItem (zl Z) (zG Z) p1 p2 p3 (st_X11_0 hk).2 I h) (st_X11_0 hk).2 mv_X8_appendItem lk_X11_86 rfl (by decide) (fun _ => rfl) (Nat.le_of_ble_eq_true rfl) rfl rfl dX11_addItem_54 rfl (fun r4 => ?_)
        exact w_iret C (hK _) rfl dX11_addItem_57
      · exact w_none
theorem c_X11_addItem (l : Launch) (G : Gx) {k : Nat} (p1 : Int32) (p2 : Int32) (p3 : Int32) (hk : isO k 11) (I : Mem) {x : Int32 × Mem} (h : m_X11_addItem k p1 p2 p3 I = some x) : Ct l G yX11_addItem cX11_addItem 4 (some (.int)) 3 70 [rf G k, .int p1, .int p2, .int p3] I (some (.int x.1)) x.2 := Ct.of (by decide +kernel) rfl (Nat.le_of_ble_eq_true rfl) ret_i (fun Z hG hl C hR hret => by
  subst hG
  exact m_X11_addItem_ok (K := fun y => y = x) C hR k p1 p2 p3 hk I (fun y hy => by subst hy; exact hret) x h rfl)
def m_X8_beginLoop (k : Nat) (p1 : Int32) (p2 : Int32) (I : Mem) : Option (Mem) :=
  Option.bind (m_X8_appendEntry k ((1 : Int32)) p1 p2 I) fun I1 => bnd (ms I1 k 6 1) fun I2 => some I2
set_option maxRecDepth 100000 in
set_option maxHeartbeats 4000000 in
theorem m_X8_beginLoop_ok {Z : Zx} {K : Mem → Prop} (C : Cx Z cX8_beginLoop 3 RX8) (hR : RM Z 2 47) (k : Nat) (p1 : Int32) (p2 : Int32) (hk : isO k 8) (I : Mem) (hK : ∀ y, K (y) → RetV Z cX8_beginLoop y) : WF Z K (m_X8_beginLoop k p1 p2 I) I 0 [some (rf (zG Z) k), some (.int p1), some (.int p2)] [] := by
  unfold m_X8_beginLoop
  refine w_aload_n (v := k) C dX8_beginLoop_0 rfl (q := 1) rfl ?_
  refine w_iconst (v := (1)) C dX8_beginLoop_1 (by decide) (q := 2) rfl ?_
  refine w_iload_n (v := p1) C dX8_beginLoop_2 rfl (q := 3) rfl ?_
  refine w_iload_n (v := p2) C dX8_beginLoop_3 rfl (q := 4) rfl ?_
  refine w_callV (val := fun I1 => none) (mem := fun I1 => I1) (st1 := fun I1 => []) (As := [.int 1, .int p1, .int p2]) (st := []) (q := 7) C hR (fun x h => c_X8_appendEntry (zl Z) (zG Z) ((1 : Int32)) p1 p2 hk I h) hk mv_X8_appendEntry lk_X8_60 rfl (by decide) (fun _ => rfl) (Nat.le_of_ble_eq_true rfl) rfl rfl dX8_beginLoop_4 rfl (fun I1 => ?_)
  refine w_aload_n (v := k) C dX8_beginLoop_7 rfl (q := 8) rfl ?_
  refine w_iconst (v := (1)) C dX8_beginLoop_8 (by decide) (q := 9) rfl ?_
  refine p_X8_6 C hk (by decide) lk_X8_40 dX8_beginLoop_9 (q := 12) rfl (fun I2 => ?_)
  exact w_vret C (hK _) dX8_beginLoop_12
theorem c_X8_beginLoop (l : Launch) (G : Gx) {k : Nat} (p1 : Int32) (p2 : Int32) (hk : isO k 8) (I : Mem) {x : Mem} (h : m_X8_beginLoop k p1 p2 I = some x) : Ct l G yX8_beginLoop cX8_beginLoop 3 none 2 47 [rf G k, .int p1, .int p2] I (none) x := Ct.of (by decide +kernel) rfl (Nat.le_of_ble_eq_true rfl) ret_v (fun Z hG hl C hR hret => by
  subst hG
  exact m_X8_beginLoop_ok (K := fun y => y = x) C hR k p1 p2 hk I (fun y hy => by subst hy; exact hret) x h rfl)
def m_X8_isLoopOpen (k : Nat) (I : Mem) : Option (Int32) :=
  gd (okz (I k 6)) (some (I k 6))
set_option maxRecDepth 100000 in
set_option maxHeartbeats 4000000 in
theorem m_X8_isLoopOpen_ok {Z : Zx} {K : Int32 → Prop} (C : Cx Z cX8_isLoopOpen 1 RX8) (hR : RM Z 0 0) (k : Nat) (hk : isO k 8) (I : Mem) (hK : ∀ y, K (y) → RetI Z cX8_isLoopOpen .boolean y I) : WF Z K (m_X8_isLoopOpen k I) I 0 [some (rf (zG Z) k)] [] := by
  unfold m_X8_isLoopOpen
  refine w_aload_n (v := k) C dX8_isLoopOpen_0 rfl (q := 1) rfl ?_
  refine g_X8_6 C hk lk_X8_40 dX8_isLoopOpen_1 (q := 4) rfl ?_
  refine w_gd (fun h1 => ?_)
  exact w_iret C (hK _) (okz_n h1).1 dX8_isLoopOpen_4
theorem c_X8_isLoopOpen (l : Launch) (G : Gx) {k : Nat} (hk : isO k 8) (I : Mem) {x : Int32} (h : m_X8_isLoopOpen k I = some x) : Ct l G yX8_isLoopOpen cX8_isLoopOpen 1 (some (.boolean)) 0 0 [rf G k] I (some (.int x)) I := Ct.of (by decide +kernel) rfl (Nat.le_of_ble_eq_true rfl) ret_i (fun Z hG hl C hR hret => by
  subst hG
  exact m_X8_isLoopOpen_ok (K := fun y => y = x) C hR k hk I (fun y hy => by subst hy; exact hret) x h rfl)
def m_X11_openLoop (k : Nat) (p1 : Int32) (p2 : Int32) (I : Mem) : Option (Mem) :=
  Option.bind (m_X11_areTimes p1 p2 I) fun r1 => if r1 = 0 then (none) else (Option.bind (m_X8_isLoopOpen (k + 1) I) fun r2 => if r2 = 0 then (Option.bind (m_X8_beginLoop (k + 1) p1 p2 I) fun I3 => some I3) else (none))
set_option maxRecDepth 100000 in
set_option maxHeartbeats 4000000 in
theorem m_X11_openLoop_ok {Z : Zx} {K : Mem → Prop} (C : Cx Z cX11_openLoop 3 RX11) (hR : RM Z 3 69) (k : Nat) (p1 : Int32) (p2 : Int32) (hk : isO k 11) (I : Mem) (hK : ∀ y, K (y) → RetV Z cX11_openLoop y) : WF Z K (m_X11_openLoop k p1 p2 I) I 0 [some (rf (zG Z) k), some (.int p1), some (.int p2)] [] := by
  unfold m_X11_openLoop
  refine w_iload_n (v := p1) C dX11_openLoop_0 rfl (q := 1) rfl ?_
  refine w_iload_n (v := p2) C dX11_openLoop_1 rfl (q := 2) rfl ?_
  refine w_callS (val := fun r1 => some (.int r1)) (mem := fun r1 => I) (st1 := fun r1 => [.int r1]) (As := [.int p1, .int p2]) (st := []) (q := 5) C hR (fun x h => c_X11_areTimes (zl Z) (zG Z) p1 p2  I h) mv_X11_areTimes lk_X11_66 rfl (by decide) (fun _ => rfl) (Nat.le_of_ble_eq_true rfl) rfl rfl dX11_openLoop_2 rfl (fun r1 => ?_)
  refine w_if_ne (tgt := 18) (q := 8) C dX11_openLoop_5 (by decide) rfl (fun _ => ?_) (fun _ => ?_)
  · exact w_none
  · refine w_aload_n (v := k) C dX11_openLoop_18 rfl (q := 19) rfl ?_
    refine g_X11_0 C hk lk_X11_12 dX11_openLoop_19 (q := 22) rfl ?_
    refine w_callV (val := fun r2 => some (.int r2)) (mem := fun r2 => I) (st1 := fun r2 => [.int r2]) (As := []) (st := []) (q := 25) C hR (fun x h => c_X8_isLoopOpen (zl Z) (zG Z)  (st_X11_0 hk).2 I h) (st_X11_0 hk).2 mv_X8_isLoopOpen lk_X11_92 rfl (by decide) (fun _ => rfl) (Nat.le_of_ble_eq_true rfl) rfl rfl dX11_openLoop_22 rfl (fun r2 => ?_)
    refine w_if_eq (tgt := 38) (q := 28) C dX11_openLoop_25 (by decide) rfl (fun _ => ?_) (fun _ => ?_)
    · refine w_aload_n (v := k) C dX11_openLoop_38 rfl (q := 39) rfl ?_
      refine g_X11_0 C hk lk_X11_12 dX11_openLoop_39 (q := 42) rfl ?_
      refine w_iload_n (v := p1) C dX11_openLoop_42 rfl (q := 43) rfl ?_
      refine w_iload_n (v := p2) C dX11_openLoop_43 rfl (q := 44) rfl ?_
      refine w_callV (val := fun I3 => none) (mem := fun I3 => I3) (st1 := fun I3 => []) (As := [.int p1, .int p2]) (st := []) (q := 47) C hR (fun x h => c_X8_beginLoop (zl Z) (zG Z) p1 p2 (st_X11_0 hk).2 I h) (st_X11_0 hk).2 mv_X8_beginLoop lk_X11_98 rfl (by decide) (fun _ => rfl) (Nat.le_of_ble_eq_true rfl) rfl rfl dX11_openLoop_44 rfl (fun I3 => ?_)
      exact w_vret C (hK _) dX11_openLoop_47
    · exact w_none
theorem c_X11_openLoop (l : Launch) (G : Gx) {k : Nat} (p1 : Int32) (p2 : Int32) (hk : isO k 11) (I : Mem) {x : Mem} (h : m_X11_openLoop k p1 p2 I = some x) : Ct l G yX11_openLoop cX11_openLoop 3 none 3 69 [rf G k, .int p1, .int p2] I (none) x := Ct.of (by decide +kernel) rfl (Nat.le_of_ble_eq_true rfl) ret_v (fun Z hG hl C hR hret => by
  subst hG
  exact m_X11_openLoop_ok (K := fun y => y = x) C hR k p1 p2 hk I (fun y hy => by subst hy; exact hret) x h rfl)
def m_X8_openLoopSize (k : Nat) (I : Mem) : Option (Int32) :=
  Option.bind (m_X8_entryAt k ((I k 5) - 1) I) fun r1 => gd (iO r1 0) (if I k 6 = 0 then (some 0) else (some ((I r1 2) - (I r1 1))))
set_option maxRecDepth 100000 in
set_option maxHeartbeats 4000000 in
theorem m_X8_openLoopSize_ok {Z : Zx} {K : Int32 → Prop} (C : Cx Z cX8_openLoopSize 2 RX8) (hR : RM Z 1 21) (k : Nat) (hk : isO k 8) (I : Mem) (hK : ∀ y, K (y) → RetI Z cX8_openLoopSize .int y I) : WF Z K (m_X8_openLoopSize k I) I 0 [some (rf (zG Z) k), none] [] := by
  unfold m_X8_openLoopSize
  refine w_aload_n (v := k) C dX8_openLoopSize_0 rfl (q := 1) rfl ?_
  refine w_aload_n (v := k) C dX8_openLoopSize_1 rfl (q := 2) rfl ?_
  refine g_X8_5 C hk lk_X8_37 dX8_openLoopSize_2 (q := 5) rfl ?_
  refine w_iconst (v := (1)) C dX8_openLoopSize_5 (by decide) (q := 6) rfl ?_
  refine w_isub C dX8_openLoopSize_6 (q := 7) rfl ?_
  refine w_callV (val := fun r1 => some (rf (zG Z) r1)) (mem := fun r1 => I) (st1 := fun r1 => [rf (zG Z) r1]) (As := [.int ((I k 5) - 1)]) (st := []) (q := 10) C hR (fun x h => c_X8_entryAt (zl Z) (zG Z) ((I k 5) - 1) hk I h) hk mv_X8_entryAt lk_X8_44 rfl (by decide) (fun _ => rfl) (Nat.le_of_ble_eq_true rfl) rfl rfl dX8_openLoopSize_7 rfl (fun r1 => ?_)
  refine w_gd (fun h2 => ?_)
  refine w_astore_n C dX8_openLoopSize_10 (Nat.le_of_ble_eq_true rfl) (L' := [some (rf (zG Z) k), some (rf (zG Z) r1)]) rfl (q := 11) rfl ?_
  refine w_aload_n (v := k) C dX8_openLoopSize_11 rfl (q := 12) rfl ?_
  refine g_X8_6 C hk lk_X8_40 dX8_openLoopSize_12 (q := 15) rfl ?_
  refine w_if_eq (tgt := 30) (q := 18) C dX8_openLoopSize_15 (by decide) rfl (fun _ => ?_) (fun _ => ?_)
  · refine w_iconst (v := (0)) C dX8_openLoopSize_30 (by decide) (q := 31) rfl ?_
    exact w_iret C (hK _) rfl dX8_openLoopSize_31
  · refine w_aload_n (v := r1) C dX8_openLoopSize_18 rfl (q := 19) rfl ?_
    refine gN_X0_2 C (iO_of h2) lk_X8_48 dX8_openLoopSize_19 (q := 22) rfl ?_
    refine w_aload_n (v := r1) C dX8_openLoopSize_22 rfl (q := 23) rfl ?_
    refine gN_X0_1 C (iO_of h2) lk_X8_51 dX8_openLoopSize_23 (q := 26) rfl ?_
    refine w_isub C dX8_openLoopSize_26 (q := 27) rfl ?_
    refine w_goto (tgt := 31) C dX8_openLoopSize_27 (by decide) ?_
    exact w_iret C (hK _) rfl dX8_openLoopSize_31
theorem c_X8_openLoopSize (l : Launch) (G : Gx) {k : Nat} (hk : isO k 8) (I : Mem) {x : Int32} (h : m_X8_openLoopSize k I = some x) : Ct l G yX8_openLoopSize cX8_openLoopSize 2 (some (.int)) 1 21 [rf G k] I (some (.int x)) I := Ct.of (by decide +kernel) rfl (Nat.le_of_ble_eq_true rfl) ret_i (fun Z hG hl C hR hret => by
  subst hG
  exact m_X8_openLoopSize_ok (K := fun y => y = x) C hR k hk I (fun y hy => by subst hy; exact hret) x h rfl)
def m_X8_endLoop (k : Nat) (I : Mem) : Option (Int32 × Mem) :=
  Option.bind (m_X8_openLoopSize k I) fun r1 => bnd (ms I k 6 0) fun I2 => some ((r1, I2))
set_option maxRecDepth 100000 in
set_option maxHeartbeats 4000000 in
theorem m_X8_endLoop_ok {Z : Zx} {K : (Int32 × Mem) → Prop} (C : Cx Z cX8_endLoop 2 RX8) (hR : RM Z 2 42) (k : Nat) (hk : isO k 8) (I : Mem) (hK : ∀ y, K (y) → RetI Z cX8_endLoop .int y.1 y.2) : WF Z K (m_X8_endLoop k I) I 0 [some (rf (zG Z) k), none] [] := by
  unfold m_X8_endLoop
  refine w_aload_n (v := k) C dX8_endLoop_0 rfl (q := 1) rfl ?_
  refine w_callV (val := fun r1 => some (.int r1)) (mem := fun r1 => I) (st1 := fun r1 => [.int r1]) (As := []) (st := []) (q := 4) C hR (fun x h => c_X8_openLoopSize (zl Z) (zG Z)  hk I h) hk mv_X8_openLoopSize lk_X8_71 rfl (by decide) (fun _ => rfl) (Nat.le_of_ble_eq_true rfl) rfl rfl dX8_endLoop_1 rfl (fun r1 => ?_)
  refine w_istore_n C dX8_endLoop_4 (Nat.le_of_ble_eq_true rfl) (L' := [some (rf (zG Z) k), some (.int r1)]) rfl (q := 5) rfl ?_
  refine w_aload_n (v := k) C dX8_endLoop_5 rfl (q := 6) rfl ?_
  refine w_iconst (v := (0)) C dX8_endLoop_6 (by decide) (q := 7) rfl ?_
  refine p_X8_6 C hk (by decide) lk_X8_40 dX8_endLoop_7 (q := 10) rfl (fun I2 => ?_)
  refine w_iload_n (v := r1) C dX8_endLoop_10 rfl (q := 11) rfl ?_
  exact w_iret C (hK _) rfl dX8_endLoop_11
theorem c_X8_endLoop (l : Launch) (G : Gx) {k : Nat} (hk : isO k 8) (I : Mem) {x : Int32 × Mem} (h : m_X8_endLoop k I = some x) : Ct l G yX8_endLoop cX8_endLoop 2 (some (.int)) 2 42 [rf G k] I (some (.int x.1)) x.2 := Ct.of (by decide +kernel) rfl (Nat.le_of_ble_eq_true rfl) ret_i (fun Z hG hl C hR hret => by
  subst hG
  exact m_X8_endLoop_ok (K := fun y => y = x) C hR k hk I (fun y hy => by subst hy; exact hret) x h rfl)
def m_X11_closeLoop_j20  (I : Mem) : Option (Int32 × Mem) :=
  none
set_option maxRecDepth 100000 in
set_option maxHeartbeats 4000000 in
theorem m_X11_closeLoop_j20_ok {Z : Zx} {K : (Int32 × Mem) → Prop} (C : Cx Z cX11_closeLoop 1 RX11) (hR : RM Z 3 63) (I : Mem) (hK : ∀ y, K (y) → RetI Z cX11_closeLoop .int y.1 y.2) : WF Z K (m_X11_closeLoop_j20  I) I 20 [none] [] := by
  unfold m_X11_closeLoop_j20
  exact w_none
def m_X11_closeLoop (k : Nat) (I : Mem) : Option (Int32 × Mem) :=
  Option.bind (m_X8_isLoopOpen (k + 1) I) fun r1 => if r1 = 0 then (m_X11_closeLoop_j20  I) else (Option.bind (m_X8_openLoopSize (k + 1) I) fun r2 => if r2 = 0 then (m_X11_closeLoop_j20  I) else (Option.bind (m_X8_endLoop (k + 1) I) fun r3 => some ((r3.1, r3.2))))
set_option maxRecDepth 100000 in
set_option maxHeartbeats 4000000 in
theorem m_X11_closeLoop_ok {Z : Zx} {K : (Int32 × Mem) → Prop} (C : Cx Z cX11_closeLoop 1 RX11) (hR : RM Z 3 63) (k : Nat) (hk : isO k 11) (I : Mem) (hK : ∀ y, K (y) → RetI Z cX11_closeLoop .int y.1 y.2) : WF Z K (m_X11_closeLoop k I) I 0 [some (rf (zG Z) k)] [] := by
  unfold m_X11_closeLoop
  refine w_aload_n (v := k) C dX11_closeLoop_0 rfl (q := 1) rfl ?_
  refine g_X11_0 C hk lk_X11_12 dX11_closeLoop_1 (q := 4) rfl ?_
  refine w_callV (val := fun r1 => some (.int r1)) (mem := fun r1 => I) (st1 := fun r1 => [.int r1]) (As := []) (st := []) (q := 7) C hR (fun x h => c_X8_isLoopOpen (zl Z) (zG Z)  (st_X11_0 hk).2 I h) (st_X11_0 hk).2 mv_X8_isLoopOpen lk_X11_92 rfl (by decide) (fun _ => rfl) (Nat.le_of_ble_eq_true rfl) rfl rfl dX11_closeLoop_4 rfl (fun r1 => ?_)
  refine w_if_eq (tgt := 20) (q := 10) C dX11_closeLoop_7 (by decide) rfl (fun _ => ?_) (fun _ => ?_)
  · exact WF.less (L' := [none]) (m_X11_closeLoop_j20_ok C hR   I hK) trivial
  · refine w_aload_n (v := k) C dX11_closeLoop_10 rfl (q := 11) rfl ?_
    refine g_X11_0 C hk lk_X11_12 dX11_closeLoop_11 (q := 14) rfl ?_
    refine w_callV (val := fun r2 => some (.int r2)) (mem := fun r2 => I) (st1 := fun r2 => [.int r2]) (As := []) (st := []) (q := 17) C hR (fun x h => c_X8_openLoopSize (zl Z) (zG Z)  (st_X11_0 hk).2 I h) (st_X11_0 hk).2 mv_X8_openLoopSize lk_X11_102 rfl (by decide) (fun _ => rfl) (Nat.le_of_ble_eq_true rfl) rfl rfl dX11_closeLoop_14 rfl (fun r2 => ?_)
    refine w_if_ne (tgt := 30) (q := 20) C dX11_closeLoop_17 (by decide) rfl (fun _ => ?_) (fun _ => ?_)
    · exact WF.less (L' := [none]) (m_X11_closeLoop_j20_ok C hR   I hK) trivial
    · refine w_aload_n (v := k) C dX11_closeLoop_30 rfl (q := 31) rfl ?_
      refine g_X11_0 C hk lk_X11_12 dX11_closeLoop_31 (q := 34) rfl ?_
      refine w_callV (val := fun r3 => some (.int r3.1)) (mem := fun r3 => r3.2) (st1 := fun r3 => [.int r3.1]) (As := []) (st := []) (q := 37) C hR (fun x h => c_X8_endLoop (zl Z) (zG Z)  (st_X11_0 hk).2 I h) (st_X11_0 hk).2 mv_X8_endLoop lk_X11_107 rfl (by decide) (fun _ => rfl) (Nat.le_of_ble_eq_true rfl) rfl rfl dX11_closeLoop_34 rfl (fun r3 => ?_)
      exact w_iret C (hK _) rfl dX11_closeLoop_37
theorem c_X11_closeLoop (l : Launch) (G : Gx) {k : Nat} (hk : isO k 11) (I : Mem) {x : Int32 × Mem} (h : m_X11_closeLoop k I = some x) : Ct l G yX11_closeLoop cX11_closeLoop 1 (some (.int)) 3 63 [rf G k] I (some (.int x.1)) x.2 := Ct.of (by decide +kernel) rfl (Nat.le_of_ble_eq_true rfl) ret_i (fun Z hG hl C hR hret => by
  subst hG
  exact m_X11_closeLoop_ok (K := fun y => y = x) C hR k hk I (fun y hy => by subst hy; exact hret) x h rfl)
def m_X11_isLetter (p1 : Int32) (I : Mem) : Option (Int32) :=
  if p1 < 32 then (some 0) else (if 126 < p1 then (some 0) else (some 1))
set_option maxRecDepth 100000 in
set_option maxHeartbeats 4000000 in
theorem m_X11_isLetter_ok {Z : Zx} {K : Int32 → Prop} (C : Cx Z cX11_isLetter 1 RX11) (hR : RM Z 0 0) (p1 : Int32) (I : Mem) (hK : ∀ y, K (y) → RetI Z cX11_isLetter .boolean y I) : WF Z K (m_X11_isLetter p1 I) I 0 [some (.int p1)] [] := by
  unfold m_X11_isLetter
  refine w_iload_n (v := p1) C dX11_isLetter_0 rfl (q := 1) rfl ?_
  refine w_bipush (v := (32)) C dX11_isLetter_1 (by decide) (q := 3) rfl ?_
  refine w_icmp_lt (tgt := 16) (q := 6) C dX11_isLetter_3 (by decide) rfl (fun _ => ?_) (fun _ => ?_)
  · refine w_iconst (v := (0)) C dX11_isLetter_16 (by decide) (q := 17) rfl ?_
    exact w_iret C (hK _) (by decide) dX11_isLetter_17
  · refine w_iload_n (v := p1) C dX11_isLetter_6 rfl (q := 7) rfl ?_
    refine w_bipush (v := (126)) C dX11_isLetter_7 (by decide) (q := 9) rfl ?_
    refine w_icmp_gt (tgt := 16) (q := 12) C dX11_isLetter_9 (by decide) rfl (fun _ => ?_) (fun _ => ?_)
    · refine w_iconst (v := (0)) C dX11_isLetter_16 (by decide) (q := 17) rfl ?_
      exact w_iret C (hK _) (by decide) dX11_isLetter_17
    · refine w_iconst (v := (1)) C dX11_isLetter_12 (by decide) (q := 13) rfl ?_
      refine w_goto (tgt := 17) C dX11_isLetter_13 (by decide) ?_
      exact w_iret C (hK _) (by decide) dX11_isLetter_17
theorem c_X11_isLetter (l : Launch) (G : Gx) (p1 : Int32)  (I : Mem) {x : Int32} (h : m_X11_isLetter p1 I = some x) : Ct l G yX11_isLetter cX11_isLetter 1 (some (.boolean)) 0 0 [.int p1] I (some (.int x)) I := Ct.of (by decide +kernel) rfl (Nat.le_of_ble_eq_true rfl) ret_i (fun Z hG hl C hR hret => by
  subst hG
  exact m_X11_isLetter_ok (K := fun y => y = x) C hR p1  I (fun y hy => by subst hy; exact hret) x h rfl)
def m_X10_count (k : Nat) (I : Mem) : Option (Int32) :=
  some (I k 1)
set_option maxRecDepth 100000 in
set_option maxHeartbeats 4000000 in
theorem m_X10_count_ok {Z : Zx} {K : Int32 → Prop} (C : Cx Z cX10_count 1 RX10) (hR : RM Z 0 0) (k : Nat) (hk : isO k 10) (I : Mem) (hK : ∀ y, K (y) → RetI Z cX10_count .int y I) : WF Z K (m_X10_count k I) I 0 [some (rf (zG Z) k)] [] := by
  unfold m_X10_count
  refine w_aload_n (v := k) C dX10_count_0 rfl (q := 1) rfl ?_
  refine g_X10_1 C hk lk_X10_15 dX10_count_1 (q := 4) rfl ?_
  exact w_iret C (hK _) rfl dX10_count_4
theorem c_X10_count (l : Launch) (G : Gx) {k : Nat} (hk : isO k 10) (I : Mem) {x : Int32} (h : m_X10_count k I = some x) : Ct l G yX10_count cX10_count 1 (some (.int)) 0 0 [rf G k] I (some (.int x)) I := Ct.of (by decide +kernel) rfl (Nat.le_of_ble_eq_true rfl) ret_i (fun Z hG hl C hR hret => by
  subst hG
  exact m_X10_count_ok (K := fun y => y = x) C hR k hk I (fun y hy => by subst hy; exact hret) x h rfl)
def m_X10_put (k : Nat) (p1 : Int32) (I : Mem) : Option (Mem) :=
  if I k 1 < 300 then (gd (inb (I k 1) 300) (gd (okc p1) (bnd (ms I (k + 1) (I k 1).toNatClampNeg p1) fun I1 => bnd (ms I1 k 1 ((I1 k 1) + 1)) fun I2 => some I2))) else (bnd (ms I k 2 1) fun I3 => some I3)
set_option maxRecDepth 100000 in
set_option maxHeartbeats 4000000 in
theorem m_X10_put_ok {Z : Zx} {K : Mem → Prop} (C : Cx Z cX10_put 2 RX10) (hR : RM Z 0 0) (k : Nat) (p1 : Int32) (hk : isO k 10) (I : Mem) (hK : ∀ y, K (y) → RetV Z cX10_put y) : WF Z K (m_X10_put k p1 I) I 0 [some (rf (zG Z) k), some (.int p1)] [] := by
  unfold m_X10_put
  refine w_aload_n (v := k) C dX10_put_0 rfl (q := 1) rfl ?_
  refine g_X10_1 C hk lk_X10_15 dX10_put_1 (q := 4) rfl ?_
  refine w_aload_n (v := k) C dX10_put_4 rfl (q := 5) rfl ?_
  refine g_X10_0 C hk lk_X10_9 dX10_put_5 (q := 8) rfl ?_
  refine w_alen (t := 1) (v := 300) C (st_X10_0 hk).2 rfl (by decide) (by decide) dX10_put_8 (q := 9) rfl ?_
  refine w_icmp_lt (tgt := 18) (q := 12) C dX10_put_9 (by decide) rfl (fun _ => ?_) (fun _ => ?_)
  · refine w_aload_n (v := k) C dX10_put_18 rfl (q := 19) rfl ?_
    refine g_X10_0 C hk lk_X10_9 dX10_put_19 (q := 22) rfl ?_
    refine w_aload_n (v := k) C dX10_put_22 rfl (q := 23) rfl ?_
    refine g_X10_1 C hk lk_X10_15 dX10_put_23 (q := 26) rfl ?_
    refine w_iload_n (v := p1) C dX10_put_26 rfl (q := 27) rfl ?_
    refine w_cast C (st_X10_0 hk).2 dX10_put_27 (q := 28) rfl (fun _ I1 => ?_)
    refine w_aload_n (v := k) C dX10_put_28 rfl (q := 29) rfl ?_
    refine w_dup C dX10_put_29 rfl (q := 30) rfl ?_
    refine g_X10_1 C hk lk_X10_15 dX10_put_30 (q := 33) rfl ?_
    refine w_iconst (v := (1)) C dX10_put_33 (by decide) (q := 34) rfl ?_
    refine w_iadd C dX10_put_34 (q := 35) rfl ?_
    refine p_X10_1 C hk  lk_X10_15 dX10_put_35 (q := 38) rfl (fun I2 => ?_)
    exact w_vret C (hK _) dX10_put_38
  · refine w_aload_n (v := k) C dX10_put_12 rfl (q := 13) rfl ?_
    refine w_iconst (v := (1)) C dX10_put_13 (by decide) (q := 14) rfl ?_
    refine p_X10_2 C hk (by decide) lk_X10_19 dX10_put_14 (q := 17) rfl (fun I3 => ?_)
    exact w_vret C (hK _) dX10_put_17
theorem c_X10_put (l : Launch) (G : Gx) {k : Nat} (p1 : Int32) (hk : isO k 10) (I : Mem) {x : Mem} (h : m_X10_put k p1 I = some x) : Ct l G yX10_put cX10_put 2 none 0 0 [rf G k, .int p1] I (none) x := Ct.of (by decide +kernel) rfl (Nat.le_of_ble_eq_true rfl) ret_v (fun Z hG hl C hR hret => by
  subst hG
  exact m_X10_put_ok (K := fun y => y = x) C hR k p1 hk I (fun y hy => by subst hy; exact hret) x h rfl)
def m_X11_feed (k : Nat) (p1 : Int32) (I : Mem) : Option (Int32 × Mem) :=
  Option.bind (m_X11_isLetter p1 I) fun r1 => if r1 = 0 then (none) else (Option.bind (m_X10_count (k + 27) I) fun r2 => if r2 < 300 then (Option.bind (m_X10_put (k + 27) p1 I) fun I3 => Option.bind (m_X10_count (k + 27) I3) fun r4 => some ((r4, I3))) else (none))
set_option maxRecDepth 100000 in
set_option maxHeartbeats 4000000 in
theorem m_X11_feed_ok {Z : Zx} {K : (Int32 × Mem) → Prop} (C : Cx Z cX11_feed 2 RX11) (hR : RM Z 1 21) (k : Nat) (p1 : Int32) (hk : isO k 11) (I : Mem) (hK : ∀ y, K (y) → RetI Z cX11_feed .int y.1 y.2) : WF Z K (m_X11_feed k p1 I) I 0 [some (rf (zG Z) k), some (.int p1)] [] := by
  unfold m_X11_feed
  refine w_iload_n (v := p1) C dX11_feed_0 rfl (q := 1) rfl ?_
  refine w_callS (val := fun r1 => some (.int r1)) (mem := fun r1 => I) (st1 := fun r1 => [.int r1]) (As := [.int p1]) (st := []) (q := 4) C hR (fun x h => c_X11_isLetter (zl Z) (zG Z) p1  I h) mv_X11_isLetter lk_X11_118 rfl (by decide) (fun _ => rfl) (Nat.le_of_ble_eq_true rfl) rfl rfl dX11_feed_1 rfl (fun r1 => ?_)
  refine w_if_ne (tgt := 17) (q := 7) C dX11_feed_4 (by decide) rfl (fun _ => ?_) (fun _ => ?_)
  · exact w_none
  · refine w_aload_n (v := k) C dX11_feed_17 rfl (q := 18) rfl ?_
    refine g_X11_1 C hk lk_X11_19 dX11_feed_18 (q := 21) rfl ?_
    refine w_callV (val := fun r2 => some (.int r2)) (mem := fun r2 => I) (st1 := fun r2 => [.int r2]) (As := []) (st := []) (q := 24) C hR (fun x h => c_X10_count (zl Z) (zG Z)  (st_X11_1 hk).2 I h) (st_X11_1 hk).2 mv_X10_count lk_X11_123 rfl (by decide) (fun _ => rfl) (Nat.le_of_ble_eq_true rfl) rfl rfl dX11_feed_21 rfl (fun r2 => ?_)
    refine w_sipush (v := (300)) C dX11_feed_24 (by decide) (q := 27) rfl ?_
    refine w_icmp_lt (tgt := 40) (q := 30) C dX11_feed_27 (by decide) rfl (fun _ => ?_) (fun _ => ?_)
    · refine w_aload_n (v := k) C dX11_feed_40 rfl (q := 41) rfl ?_
      refine g_X11_1 C hk lk_X11_19 dX11_feed_41 (q := 44) rfl ?_
      refine w_iload_n (v := p1) C dX11_feed_44 rfl (q := 45) rfl ?_
      refine w_callV (val := fun I3 => none) (mem := fun I3 => I3) (st1 := fun I3 => []) (As := [.int p1]) (st := []) (q := 48) C hR (fun x h => c_X10_put (zl Z) (zG Z) p1 (st_X11_1 hk).2 I h) (st_X11_1 hk).2 mv_X10_put lk_X11_128 rfl (by decide) (fun _ => rfl) (Nat.le_of_ble_eq_true rfl) rfl rfl dX11_feed_45 rfl (fun I3 => ?_)
      refine w_aload_n (v := k) C dX11_feed_48 rfl (q := 49) rfl ?_
      refine g_X11_1 C hk lk_X11_19 dX11_feed_49 (q := 52) rfl ?_
      refine w_callV (val := fun r4 => some (.int r4)) (mem := fun r4 => I3) (st1 := fun r4 => [.int r4]) (As := []) (st := []) (q := 55) C hR (fun x h => c_X10_count (zl Z) (zG Z)  (st_X11_1 hk).2 I3 h) (st_X11_1 hk).2 mv_X10_count lk_X11_123 rfl (by decide) (fun _ => rfl) (Nat.le_of_ble_eq_true rfl) rfl rfl dX11_feed_52 rfl (fun r4 => ?_)
      exact w_iret C (hK _) rfl dX11_feed_55
    · exact w_none
theorem c_X11_feed (l : Launch) (G : Gx) {k : Nat} (p1 : Int32) (hk : isO k 11) (I : Mem) {x : Int32 × Mem} (h : m_X11_feed k p1 I = some x) : Ct l G yX11_feed cX11_feed 2 (some (.int)) 1 21 [rf G k, .int p1] I (some (.int x.1)) x.2 := Ct.of (by decide +kernel) rfl (Nat.le_of_ble_eq_true rfl) ret_i (fun Z hG hl C hR hret => by
  subst hG
  exact m_X11_feed_ok (K := fun y => y = x) C hR k p1 hk I (fun y hy => by subst hy; exact hret) x h rfl)
def m_X11_length (k : Nat) (I : Mem) : Option (Int32) :=
  Option.bind (m_X10_count (k + 27) I) fun r1 => some r1
set_option maxRecDepth 100000 in
set_option maxHeartbeats 4000000 in
theorem m_X11_length_ok {Z : Zx} {K : Int32 → Prop} (C : Cx Z cX11_length 1 RX11) (hR : RM Z 1 20) (k : Nat) (hk : isO k 11) (I : Mem) (hK : ∀ y, K (y) → RetI Z cX11_length .int y I) : WF Z K (m_X11_length k I) I 0 [some (rf (zG Z) k)] [] := by
  unfold m_X11_length
  refine w_aload_n (v := k) C dX11_length_0 rfl (q := 1) rfl ?_
  refine g_X11_1 C hk lk_X11_19 dX11_length_1 (q := 4) rfl ?_
  refine w_callV (val := fun r1 => some (.int r1)) (mem := fun r1 => I) (st1 := fun r1 => [.int r1]) (As := []) (st := []) (q := 7) C hR (fun x h => c_X10_count (zl Z) (zG Z)  (st_X11_1 hk).2 I h) (st_X11_1 hk).2 mv_X10_count lk_X11_123 rfl (by decide) (fun _ => rfl) (Nat.le_of_ble_eq_true rfl) rfl rfl dX11_length_4 rfl (fun r1 => ?_)
  exact w_iret C (hK _) rfl dX11_length_7
theorem c_X11_length (l : Launch) (G : Gx) {k : Nat} (hk : isO k 11) (I : Mem) {x : Int32} (h : m_X11_length k I = some x) : Ct l G yX11_length cX11_length 1 (some (.int)) 1 20 [rf G k] I (some (.int x)) I := Ct.of (by decide +kernel) rfl (Nat.le_of_ble_eq_true rfl) ret_i (fun Z hG hl C hR hret => by
  subst hG
  exact m_X11_length_ok (K := fun y => y = x) C hR k hk I (fun y hy => by subst hy; exact hret) x h rfl)
def m_X4_at_j21 (k : Nat) (I : Mem) : Option (Nat) :=
  some (k + 2)
set_option maxRecDepth 100000 in
set_option maxHeartbeats 4000000 in
theorem m_X4_at_j21_ok {Z : Zx} {K : Nat → Prop} (C : Cx Z cX4_at 2 RX4) (hR : RM Z 0 0) (k : Nat) (hk : isO k 4) (I : Mem) (hK : ∀ y, K (y) → RetA Z cX4_at y I) : WF Z K (m_X4_at_j21 k I) I 21 [some (rf (zG Z) k), none] [] := by
  unfold m_X4_at_j21
  refine w_aload_n (v := k) C dX4_at_21 rfl (q := 22) rfl ?_
  refine g_X4_1 C hk lk_X4_18 dX4_at_22 (q := 25) rfl ?_
  exact w_aret C (hK _) dX4_at_25
def m_X4_at (k : Nat) (p1 : Int32) (I : Mem) : Option (Nat) :=
  if p1 < 0 then (m_X4_at_j21 k I) else (if I k 2 ≤ p1 then (m_X4_at_j21 k I) else (gd (inb p1 20) (some ((k + 1) + (4 + 3 * p1.toNatClampNeg)))))
set_option maxRecDepth 100000 in
set_option maxHeartbeats 4000000 in
theorem m_X4_at_ok {Z : Zx} {K : Nat → Prop} (C : Cx Z cX4_at 2 RX4) (hR : RM Z 0 0) (k : Nat) (p1 : Int32) (hk : isO k 4) (I : Mem) (hK : ∀ y, K (y) → RetA Z cX4_at y I) : WF Z K (m_X4_at k p1 I) I 0 [some (rf (zG Z) k), some (.int p1)] [] := by
  unfold m_X4_at
  refine w_iload_n (v := p1) C dX4_at_0 rfl (q := 1) rfl ?_
  refine w_if_lt (tgt := 21) (q := 4) C dX4_at_1 (by decide) rfl (fun _ => ?_) (fun _ => ?_)
  · exact WF.less (L' := [some (rf (zG Z) k), none]) (m_X4_at_j21_ok C hR k hk I hK) ⟨rfl, trivial⟩
  · refine w_iload_n (v := p1) C dX4_at_4 rfl (q := 5) rfl ?_
    refine w_aload_n (v := k) C dX4_at_5 rfl (q := 6) rfl ?_
    refine g_X4_2 C hk lk_X4_22 dX4_at_6 (q := 9) rfl ?_
    refine w_icmp_ge (tgt := 21) (q := 12) C dX4_at_9 (by decide) rfl (fun _ => ?_) (fun _ => ?_)
    · exact WF.less (L' := [some (rf (zG Z) k), none]) (m_X4_at_j21_ok C hR k hk I hK) ⟨rfl, trivial⟩
    · refine w_aload_n (v := k) C dX4_at_12 rfl (q := 13) rfl ?_
      refine g_X4_0 C hk lk_X4_11 dX4_at_13 (q := 16) rfl ?_
      refine w_iload_n (v := p1) C dX4_at_16 rfl (q := 17) rfl ?_
      refine w_aald (t := 3) C (st_X4_0 hk).2 rfl (el_Segment (st_X4_0 hk).2) dX4_at_17 (q := 18) rfl (fun _ h1 => ?_)
      refine w_goto (tgt := 25) C dX4_at_18 (by decide) ?_
      exact w_aret C (hK _) dX4_at_25
theorem c_X4_at (l : Launch) (G : Gx) {k : Nat} (p1 : Int32) (hk : isO k 4) (I : Mem) {x : Nat} (h : m_X4_at k p1 I = some x) : Ct l G yX4_at cX4_at 2 (some (.object "Segmentry$Segment")) 0 0 [rf G k, .int p1] I (some (rf G x)) I := Ct.of (by decide +kernel) rfl (Nat.le_of_ble_eq_true rfl) ret_a (fun Z hG hl C hR hret => by
  subst hG
  exact m_X4_at_ok (K := fun y => y = x) C hR k p1 hk I (fun y hy => by subst hy; exact hret _ rfl) x h rfl)
def m_X9_countIn (k : Nat) (p1 : Int32) (I : Mem) : Option (Int32) :=
  if p1 < 0 then (some 0) else (if I k 4 ≤ p1 then (some 0) else (gd (inb p1 5) (some (I (k + 2) p1.toNatClampNeg))))
set_option maxRecDepth 100000 in
set_option maxHeartbeats 4000000 in
theorem m_X9_countIn_ok {Z : Zx} {K : Int32 → Prop} (C : Cx Z cX9_countIn 2 RX9) (hR : RM Z 0 0) (k : Nat) (p1 : Int32) (hk : isO k 9) (I : Mem) (hK : ∀ y, K (y) → RetI Z cX9_countIn .int y I) : WF Z K (m_X9_countIn k p1 I) I 0 [some (rf (zG Z) k), some (.int p1)] [] := by
  unfold m_X9_countIn
  refine w_iload_n (v := p1) C dX9_countIn_0 rfl (q := 1) rfl ?_
  refine w_if_lt (tgt := 21) (q := 4) C dX9_countIn_1 (by decide) rfl (fun _ => ?_) (fun _ => ?_)
  · refine w_iconst (v := (0)) C dX9_countIn_21 (by decide) (q := 22) rfl ?_
    exact w_iret C (hK _) rfl dX9_countIn_22
  · refine w_iload_n (v := p1) C dX9_countIn_4 rfl (q := 5) rfl ?_
    refine w_aload_n (v := k) C dX9_countIn_5 rfl (q := 6) rfl ?_
    refine g_X9_4 C hk lk_X9_27 dX9_countIn_6 (q := 9) rfl ?_
    refine w_icmp_ge (tgt := 21) (q := 12) C dX9_countIn_9 (by decide) rfl (fun _ => ?_) (fun _ => ?_)
    · refine w_iconst (v := (0)) C dX9_countIn_21 (by decide) (q := 22) rfl ?_
      exact w_iret C (hK _) rfl dX9_countIn_22
    · refine w_aload_n (v := k) C dX9_countIn_12 rfl (q := 13) rfl ?_
      refine g_X9_1 C hk lk_X9_15 dX9_countIn_13 (q := 16) rfl ?_
      refine w_iload_n (v := p1) C dX9_countIn_16 rfl (q := 17) rfl ?_
      refine w_iald C (st_X9_1 hk).2 dX9_countIn_17 (q := 18) rfl (fun _ => ?_)
      refine w_goto (tgt := 22) C dX9_countIn_18 (by decide) ?_
      exact w_iret C (hK _) rfl dX9_countIn_22
theorem c_X9_countIn (l : Launch) (G : Gx) {k : Nat} (p1 : Int32) (hk : isO k 9) (I : Mem) {x : Int32} (h : m_X9_countIn k p1 I = some x) : Ct l G yX9_countIn cX9_countIn 2 (some (.int)) 0 0 [rf G k, .int p1] I (some (.int x)) I := Ct.of (by decide +kernel) rfl (Nat.le_of_ble_eq_true rfl) ret_i (fun Z hG hl C hR hret => by
  subst hG
  exact m_X9_countIn_ok (K := fun y => y = x) C hR k p1 hk I (fun y hy => by subst hy; exact hret) x h rfl)
def m_X9_letterIn_j24 (k : Nat) (p1 : Int32) (p2 : Int32) (y0 : Int32) (I : Mem) : Option (Int32) :=
  if y0 = 0 then (some 32) else (gd (inb ((p1 * 8) + p2) 40) (gd (okc (I (k + 1) ((p1 * 8) + p2).toNatClampNeg)) (some (I (k + 1) ((p1 * 8) + p2).toNatClampNeg))))
set_option maxRecDepth 100000 in
set_option maxHeartbeats 4000000 in
theorem m_X9_letterIn_j24_ok {Z : Zx} {K : Int32 → Prop} (C : Cx Z cX9_letterIn 4 RX9) (hR : RM Z 1 21) (k : Nat) (p1 : Int32) (p2 : Int32) (y0 : Int32) (hk : isO k 9) (I : Mem) (hK : ∀ y, K (y) → RetI Z cX9_letterIn .char y I) : WF Z K (m_X9_letterIn_j24 k p1 p2 y0 I) I 24 [some (rf (zG Z) k), some (.int p1), some (.int p2), none] [.int y0] := by
  unfold m_X9_letterIn_j24
  refine w_istore_n C dX9_letterIn_24 (Nat.le_of_ble_eq_true rfl) (L' := [some (rf (zG Z) k), some (.int p1), some (.int p2), some (.int y0)]) rfl (q := 25) rfl ?_
  refine w_iload_n (v := y0) C dX9_letterIn_25 rfl (q := 26) rfl ?_
  refine w_if_eq (tgt := 43) (q := 29) C dX9_letterIn_26 (by decide) rfl (fun _ => ?_) (fun _ => ?_)
  · refine w_bipush (v := (32)) C dX9_letterIn_43 (by decide) (q := 45) rfl ?_
    exact w_iret C (hK _) (by decide) dX9_letterIn_45
  · refine w_aload_n (v := k) C dX9_letterIn_29 rfl (q := 30) rfl ?_
    refine g_X9_0 C hk lk_X9_9 dX9_letterIn_30 (q := 33) rfl ?_
    refine w_iload_n (v := p1) C dX9_letterIn_33 rfl (q := 34) rfl ?_
    refine w_bipush (v := (8)) C dX9_letterIn_34 (by decide) (q := 36) rfl ?_
    refine w_imul C dX9_letterIn_36 (q := 37) rfl ?_
    refine w_iload_n (v := p2) C dX9_letterIn_37 rfl (q := 38) rfl ?_
    refine w_iadd C dX9_letterIn_38 (q := 39) rfl ?_
    refine w_cald C (st_X9_0 hk).2 dX9_letterIn_39 (q := 40) rfl (fun _ => ?_)
    refine w_goto (tgt := 45) C dX9_letterIn_40 (by decide) ?_
    refine w_gd (fun h1 => ?_)
    exact w_iret C (hK _) (okc_n h1).1 dX9_letterIn_45
def m_X9_letterIn_j23 (k : Nat) (p1 : Int32) (p2 : Int32) (I : Mem) : Option (Int32) :=
  m_X9_letterIn_j24 k p1 p2 ((0 : Int32)) I
set_option maxRecDepth 100000 in
set_option maxHeartbeats 4000000 in
theorem m_X9_letterIn_j23_ok {Z : Zx} {K : Int32 → Prop} (C : Cx Z cX9_letterIn 4 RX9) (hR : RM Z 1 21) (k : Nat) (p1 : Int32) (p2 : Int32) (hk : isO k 9) (I : Mem) (hK : ∀ y, K (y) → RetI Z cX9_letterIn .char y I) : WF Z K (m_X9_letterIn_j23 k p1 p2 I) I 23 [some (rf (zG Z) k), some (.int p1), some (.int p2), none] [] := by
  unfold m_X9_letterIn_j23
  refine w_iconst (v := (0)) C dX9_letterIn_23 (by decide) (q := 24) rfl ?_
  exact WF.less (L' := [some (rf (zG Z) k), some (.int p1), some (.int p2), none]) (m_X9_letterIn_j24_ok C hR k p1 p2 ((0 : Int32)) hk I hK) ⟨rfl, rfl, rfl, trivial⟩
def m_X9_letterIn (k : Nat) (p1 : Int32) (p2 : Int32) (I : Mem) : Option (Int32) :=
  if p2 < 0 then (m_X9_letterIn_j23 k p1 p2 I) else (Option.bind (m_X9_countIn k p1 I) fun r2 => if r2 ≤ p2 then (m_X9_letterIn_j23 k p1 p2 I) else (if 8 ≤ p2 then (m_X9_letterIn_j23 k p1 p2 I) else (m_X9_letterIn_j24 k p1 p2 ((1 : Int32)) I)))
set_option maxRecDepth 100000 in
set_option maxHeartbeats 4000000 in
theorem m_X9_letterIn_ok {Z : Zx} {K : Int32 → Prop} (C : Cx Z cX9_letterIn 4 RX9) (hR : RM Z 1 21) (k : Nat) (p1 : Int32) (p2 : Int32) (hk : isO k 9) (I : Mem) (hK : ∀ y, K (y) → RetI Z cX9_letterIn .char y I) : WF Z K (m_X9_letterIn k p1 p2 I) I 0 [some (rf (zG Z) k), some (.int p1), some (.int p2), none] [] := by
  unfold m_X9_letterIn
  refine w_iload_n (v := p2) C dX9_letterIn_0 rfl (q := 1) rfl ?_
  refine w_if_lt (tgt := 23) (q := 4) C dX9_letterIn_1 (by decide) rfl (fun _ => ?_) (fun _ => ?_)
  · exact WF.less (L' := [some (rf (zG Z) k), some (.int p1), some (.int p2), none]) (m_X9_letterIn_j23_ok C hR k p1 p2 hk I hK) ⟨rfl, rfl, rfl, trivial⟩
  · refine w_iload_n (v := p2) C dX9_letterIn_4 rfl (q := 5) rfl ?_
    refine w_aload_n (v := k) C dX9_letterIn_5 rfl (q := 6) rfl ?_
    refine w_iload_n (v := p1) C dX9_letterIn_6 rfl (q := 7) rfl ?_
    refine w_callV (val := fun r2 => some (.int r2)) (mem := fun r2 => I) (st1 := fun r2 => [.int r2, .int p2]) (As := [.int p1]) (st := [.int p2]) (q := 10) C hR (fun x h => c_X9_countIn (zl Z) (zG Z) p1 hk I h) hk mv_X9_countIn lk_X9_36 rfl (by decide) (fun _ => rfl) (Nat.le_of_ble_eq_true rfl) rfl rfl dX9_letterIn_7 rfl (fun r2 => ?_)
    refine w_icmp_ge (tgt := 23) (q := 13) C dX9_letterIn_10 (by decide) rfl (fun _ => ?_) (fun _ => ?_)
    · exact WF.less (L' := [some (rf (zG Z) k), some (.int p1), some (.int p2), none]) (m_X9_letterIn_j23_ok C hR k p1 p2 hk I hK) ⟨rfl, rfl, rfl, trivial⟩
    · refine w_iload_n (v := p2) C dX9_letterIn_13 rfl (q := 14) rfl ?_
      refine w_bipush (v := (8)) C dX9_letterIn_14 (by decide) (q := 16) rfl ?_
      refine w_icmp_ge (tgt := 23) (q := 19) C dX9_letterIn_16 (by decide) rfl (fun _ => ?_) (fun _ => ?_)
      · exact WF.less (L' := [some (rf (zG Z) k), some (.int p1), some (.int p2), none]) (m_X9_letterIn_j23_ok C hR k p1 p2 hk I hK) ⟨rfl, rfl, rfl, trivial⟩
      · refine w_iconst (v := (1)) C dX9_letterIn_19 (by decide) (q := 20) rfl ?_
        refine w_goto (tgt := 24) C dX9_letterIn_20 (by decide) ?_
        exact WF.less (L' := [some (rf (zG Z) k), some (.int p1), some (.int p2), none]) (m_X9_letterIn_j24_ok C hR k p1 p2 ((1 : Int32)) hk I hK) ⟨rfl, rfl, rfl, trivial⟩
theorem c_X9_letterIn (l : Launch) (G : Gx) {k : Nat} (p1 : Int32) (p2 : Int32) (hk : isO k 9) (I : Mem) {x : Int32} (h : m_X9_letterIn k p1 p2 I = some x) : Ct l G yX9_letterIn cX9_letterIn 4 (some (.char)) 1 21 [rf G k, .int p1, .int p2] I (some (.int x)) I := Ct.of (by decide +kernel) rfl (Nat.le_of_ble_eq_true rfl) ret_i (fun Z hG hl C hR hret => by
  subst hG
  exact m_X9_letterIn_ok (K := fun y => y = x) C hR k p1 p2 hk I (fun y hy => by subst hy; exact hret) x h rfl)
def m_X9_numberIn_b23 (k : Nat) (p1 : Int32) (x2 : Int32) (x3 : Int32) (x4 : Int32) (I : Mem) : Option ((Int32 × Int32) ⊕ ((Int32))) :=
  if x2 ≤ x4 then (some (.inr (x3))) else (Option.bind (m_X9_letterIn k p1 x4 I) fun r2 => if r2 < 48 then (some (.inr (-1))) else (if r2 ≤ 57 then (some (.inl ((x3 * 10) + (r2 - 48), x4 + 1))) else (some (.inr (-1)))))
set_option maxRecDepth 100000 in
set_option maxHeartbeats 4000000 in
theorem m_X9_numberIn_b23_ok {Z : Zx} {K : ((Int32 × Int32) ⊕ ((Int32))) → Prop} (C : Cx Z cX9_numberIn 6 RX9) (hR : RM Z 2 44) (k : Nat) (p1 : Int32) (x2 : Int32) (x3 : Int32) (x4 : Int32) (hk : isO k 9) (I : Mem) (hB : ∀ a, K (.inl a) → WM Z I 23 [some (rf (zG Z) k), some (.int p1), some (.int x2), some (.int a.1), some (.int a.2), none] []) (hK : ∀ y, K (.inr (y)) → RetI Z cX9_numberIn .int y I) : WF Z K (m_X9_numberIn_b23 k p1 x2 x3 x4 I) I 23 [some (rf (zG Z) k), some (.int p1), some (.int x2), some (.int x3), some (.int x4), none] [] := by
  unfold m_X9_numberIn_b23
  refine w_iload (v := x4) C dX9_numberIn_23 rfl (q := 25) rfl ?_
  refine w_iload_n (v := x2) C dX9_numberIn_25 rfl (q := 26) rfl ?_
  refine w_icmp_ge (tgt := 71) (q := 29) C dX9_numberIn_26 (by decide) rfl (fun _ => ?_) (fun _ => ?_)
  · refine w_iload_n (v := x3) C dX9_numberIn_71 rfl (q := 72) rfl ?_
    exact w_iret C (hK _) rfl dX9_numberIn_72
  · refine w_aload_n (v := k) C dX9_numberIn_29 rfl (q := 30) rfl ?_
    refine w_iload_n (v := p1) C dX9_numberIn_30 rfl (q := 31) rfl ?_
    refine w_iload (v := x4) C dX9_numberIn_31 rfl (q := 33) rfl ?_
    refine w_callV (val := fun r2 => some (.int r2)) (mem := fun r2 => I) (st1 := fun r2 => [.int r2]) (As := [.int p1, .int x4]) (st := []) (q := 36) C hR (fun x h => c_X9_letterIn (zl Z) (zG Z) p1 x4 hk I h) hk mv_X9_letterIn lk_X9_40 rfl (by decide) (fun _ => rfl) (Nat.le_of_ble_eq_true rfl) rfl rfl dX9_numberIn_33 rfl (fun r2 => ?_)
    refine w_istore C dX9_numberIn_36 (Nat.le_of_ble_eq_true rfl) (L' := [some (rf (zG Z) k), some (.int p1), some (.int x2), some (.int x3), some (.int x4), some (.int r2)]) rfl (q := 38) rfl ?_
    refine w_iload (v := r2) C dX9_numberIn_38 rfl (q := 40) rfl ?_
    refine w_bipush (v := (48)) C dX9_numberIn_40 (by decide) (q := 42) rfl ?_
    refine w_icmp_lt (tgt := 52) (q := 45) C dX9_numberIn_42 (by decide) rfl (fun _ => ?_) (fun _ => ?_)
    · refine w_iconst (v := (-1)) C dX9_numberIn_52 (by decide) (q := 53) rfl ?_
      exact w_iret C (hK _) rfl dX9_numberIn_53
    · refine w_iload (v := r2) C dX9_numberIn_45 rfl (q := 47) rfl ?_
      refine w_bipush (v := (57)) C dX9_numberIn_47 (by decide) (q := 49) rfl ?_
      refine w_icmp_le (tgt := 54) (q := 52) C dX9_numberIn_49 (by decide) rfl (fun _ => ?_) (fun _ => ?_)
      · refine w_iload_n (v := x3) C dX9_numberIn_54 rfl (q := 55) rfl ?_
        refine w_bipush (v := (10)) C dX9_numberIn_55 (by decide) (q := 57) rfl ?_
        refine w_imul C dX9_numberIn_57 (q := 58) rfl ?_
        refine w_iload (v := r2) C dX9_numberIn_58 rfl (q := 60) rfl ?_
        refine w_bipush (v := (48)) C dX9_numberIn_60 (by decide) (q := 62) rfl ?_
        refine w_isub C dX9_numberIn_62 (q := 63) rfl ?_
        refine w_iadd C dX9_numberIn_63 (q := 64) rfl ?_
        refine w_istore_n C dX9_numberIn_64 (Nat.le_of_ble_eq_true rfl) (L' := [some (rf (zG Z) k), some (.int p1), some (.int x2), some (.int ((x3 * 10) + (r2 - 48))), some (.int x4), some (.int r2)]) rfl (q := 65) rfl ?_
        refine w_iinc (v := x4 + 1) C dX9_numberIn_65 rfl rfl (L' := [some (rf (zG Z) k), some (.int p1), some (.int x2), some (.int ((x3 * 10) + (r2 - 48))), some (.int (x4 + 1)), some (.int r2)]) rfl (q := 68) rfl ?_
        refine w_goto (tgt := 23) C dX9_numberIn_68 (by decide) ?_
        exact w_jmp (fun h => WM.less (L' := [some (rf (zG Z) k), some (.int p1), some (.int x2), some (.int ((x3 * 10) + (r2 - 48))), some (.int (x4 + 1)), none]) (hB _ h) ⟨rfl, rfl, rfl, rfl, rfl, trivial⟩)
      · refine w_iconst (v := (-1)) C dX9_numberIn_52 (by decide) (q := 53) rfl ?_
        exact w_iret C (hK _) rfl dX9_numberIn_53
def m_X9_numberIn (k : Nat) (p1 : Int32) (I : Mem) : Option (Int32) :=
  Option.bind (m_X9_countIn k p1 I) fun r1 => if r1 < 1 then (some (-1)) else (if r1 ≤ 4 then (Option.bind (loopF (fun a => m_X9_numberIn_b23 k p1 r1 a.1 a.2 I) FU ((0 : Int32), (0 : Int32))) (fun b3 => some b3)) else (some (-1)))
set_option maxRecDepth 100000 in
set_option maxHeartbeats 4000000 in
theorem m_X9_numberIn_ok {Z : Zx} {K : Int32 → Prop} (C : Cx Z cX9_numberIn 6 RX9) (hR : RM Z 2 44) (k : Nat) (p1 : Int32) (hk : isO k 9) (I : Mem) (hK : ∀ y, K (y) → RetI Z cX9_numberIn .int y I) : WF Z K (m_X9_numberIn k p1 I) I 0 [some (rf (zG Z) k), some (.int p1), none, none, none, none] [] := by
  unfold m_X9_numberIn
  refine w_aload_n (v := k) C dX9_numberIn_0 rfl (q := 1) rfl ?_
  refine w_iload_n (v := p1) C dX9_numberIn_1 rfl (q := 2) rfl ?_
  refine w_callV (val := fun r1 => some (.int r1)) (mem := fun r1 => I) (st1 := fun r1 => [.int r1]) (As := [.int p1]) (st := []) (q := 5) C hR (fun x h => c_X9_countIn (zl Z) (zG Z) p1 hk I h) hk mv_X9_countIn lk_X9_36 rfl (by decide) (fun _ => rfl) (Nat.le_of_ble_eq_true rfl) rfl rfl dX9_numberIn_2 rfl (fun r1 => ?_)
  refine w_istore_n C dX9_numberIn_5 (Nat.le_of_ble_eq_true rfl) (L' := [some (rf (zG Z) k), some (.int p1), some (.int r1), none, none, none]) rfl (q := 6) rfl ?_
  refine w_iload_n (v := r1) C dX9_numberIn_6 rfl (q := 7) rfl ?_
  refine w_iconst (v := (1)) C dX9_numberIn_7 (by decide) (q := 8) rfl ?_
  refine w_icmp_lt (tgt := 16) (q := 11) C dX9_numberIn_8 (by decide) rfl (fun _ => ?_) (fun _ => ?_)
  · refine w_iconst (v := (-1)) C dX9_numberIn_16 (by decide) (q := 17) rfl ?_
    exact w_iret C (hK _) rfl dX9_numberIn_17
  · refine w_iload_n (v := r1) C dX9_numberIn_11 rfl (q := 12) rfl ?_
    refine w_iconst (v := (4)) C dX9_numberIn_12 (by decide) (q := 13) rfl ?_
    refine w_icmp_le (tgt := 18) (q := 16) C dX9_numberIn_13 (by decide) rfl (fun _ => ?_) (fun _ => ?_)
    · refine w_iconst (v := (0)) C dX9_numberIn_18 (by decide) (q := 19) rfl ?_
      refine w_istore_n C dX9_numberIn_19 (Nat.le_of_ble_eq_true rfl) (L' := [some (rf (zG Z) k), some (.int p1), some (.int r1), some (.int 0), none, none]) rfl (q := 20) rfl ?_
      refine w_iconst (v := (0)) C dX9_numberIn_20 (by decide) (q := 21) rfl ?_
      refine w_istore C dX9_numberIn_21 (Nat.le_of_ble_eq_true rfl) (L' := [some (rf (zG Z) k), some (.int p1), some (.int r1), some (.int 0), some (.int 0), none]) rfl (q := 23) rfl ?_
      refine WF.less (L' := [some (rf (zG Z) k), some (.int p1), some (.int r1), some (.int 0), some (.int 0), none]) (w_loopF (pc := 23) (a := ((0 : Int32), (0 : Int32))) (mem := fun a => I) (lo := fun a => [some (rf (zG Z) k), some (.int p1), some (.int r1), some (.int a.1), some (.int a.2), none]) (E := fun b3 => RetI Z cX9_numberIn .int b3 I) (fun a => m_X9_numberIn_b23_ok C hR k p1 r1 a.1 a.2 hk I (fun _ h => h) (fun _ h => h)) ?_) ⟨rfl, rfl, rfl, rfl, rfl, trivial⟩
      intro b3
      exact w_hr (hK _)
    · refine w_iconst (v := (-1)) C dX9_numberIn_16 (by decide) (q := 17) rfl ?_
      exact w_iret C (hK _) rfl dX9_numberIn_17
theorem c_X9_numberIn (l : Launch) (G : Gx) {k : Nat} (p1 : Int32) (hk : isO k 9) (I : Mem) {x : Int32} (h : m_X9_numberIn k p1 I = some x) : Ct l G yX9_numberIn cX9_numberIn 6 (some (.int)) 2 44 [rf G k, .int p1] I (some (.int x)) I := Ct.of (by decide +kernel) rfl (Nat.le_of_ble_eq_true rfl) ret_i (fun Z hG hl C hR hret => by
  subst hG
  exact m_X9_numberIn_ok (K := fun y => y = x) C hR k p1 hk I (fun y hy => by subst hy; exact hret) x h rfl)
def m_X4_headerControl (k : Nat) (I : Mem) : Option (Int32) :=
  Option.bind (m_X4_at k ((0 : Int32)) I) fun r1 => gd (iO r1 9) (Option.bind (m_X9_numberIn r1 ((0 : Int32)) I) fun r3 => some r3)
set_option maxRecDepth 100000 in
set_option maxHeartbeats 4000000 in
theorem m_X4_headerControl_ok {Z : Zx} {K : Int32 → Prop} (C : Cx Z cX4_headerControl 1 RX4) (hR : RM Z 3 69) (k : Nat) (hk : isO k 4) (I : Mem) (hK : ∀ y, K (y) → RetI Z cX4_headerControl .int y I) : WF Z K (m_X4_headerControl k I) I 0 [some (rf (zG Z) k)] [] := by
  unfold m_X4_headerControl
  refine w_aload_n (v := k) C dX4_headerControl_0 rfl (q := 1) rfl ?_
  refine w_iconst (v := (0)) C dX4_headerControl_1 (by decide) (q := 2) rfl ?_
  refine w_callV (val := fun r1 => some (rf (zG Z) r1)) (mem := fun r1 => I) (st1 := fun r1 => [rf (zG Z) r1]) (As := [.int 0]) (st := []) (q := 5) C hR (fun x h => c_X4_at (zl Z) (zG Z) ((0 : Int32)) hk I h) hk mv_X4_at lk_X4_26 rfl (by decide) (fun _ => rfl) (Nat.le_of_ble_eq_true rfl) rfl rfl dX4_headerControl_2 rfl (fun r1 => ?_)
  refine w_gd (fun h2 => ?_)
  refine w_iconst (v := (0)) C dX4_headerControl_5 (by decide) (q := 6) rfl ?_
  refine w_callV (val := fun r3 => some (.int r3)) (mem := fun r3 => I) (st1 := fun r3 => [.int r3]) (As := [.int 0]) (st := []) (q := 9) C hR (fun x h => c_X9_numberIn (zl Z) (zG Z) ((0 : Int32)) (iO_of h2) I h) (iO_of h2) mv_X9_numberIn lk_X4_34 rfl (by decide) (fun _ => rfl) (Nat.le_of_ble_eq_true rfl) rfl rfl dX4_headerControl_6 rfl (fun r3 => ?_)
  exact w_iret C (hK _) rfl dX4_headerControl_9
theorem c_X4_headerControl (l : Launch) (G : Gx) {k : Nat} (hk : isO k 4) (I : Mem) {x : Int32} (h : m_X4_headerControl k I = some x) : Ct l G yX4_headerControl cX4_headerControl 1 (some (.int)) 3 69 [rf G k] I (some (.int x)) I := Ct.of (by decide +kernel) rfl (Nat.le_of_ble_eq_true rfl) ret_i (fun Z hG hl C hR hret => by
  subst hG
  exact m_X4_headerControl_ok (K := fun y => y = x) C hR k hk I (fun y hy => by subst hy; exact hret) x h rfl)
def m_X11_acceptDraft (k : Nat) (I : Mem) : Option (Mem) :=
  gd (iO ((I k 5).toNatClampNeg) 4) (gd (iO ((I k 6).toNatClampNeg) 4) (bnd (ms I k 5 (nI ((I k 6).toNatClampNeg))) fun I3 => bnd (ms I3 k 6 (nI ((I k 5).toNatClampNeg))) fun I4 => bnd (ms I4 k 7 1) fun I5 => bnd (ms I5 k 8 1) fun I6 => gd (iO ((I6 k 5).toNatClampNeg) 4) (Option.bind (m_X4_headerControl ((I6 k 5).toNatClampNeg) I6) fun r8 => bnd (ms I6 k 9 r8) fun I9 => some I9)))
set_option maxRecDepth 100000 in
set_option maxHeartbeats 4000000 in
theorem m_X11_acceptDraft_ok {Z : Zx} {K : Mem → Prop} (C : Cx Z cX11_acceptDraft 2 RX11) (hR : RM Z 4 89) (k : Nat) (hk : isO k 11) (I : Mem) (hK : ∀ y, K (y) → RetV Z cX11_acceptDraft y) : WF Z K (m_X11_acceptDraft k I) I 0 [some (rf (zG Z) k), none] [] := by
  unfold m_X11_acceptDraft
  refine w_aload_n (v := k) C dX11_acceptDraft_0 rfl (q := 1) rfl ?_
  refine g_X11_5 C hk lk_X11_49 dX11_acceptDraft_1 (q := 4) rfl ?_
  refine w_gd (fun h1 => ?_)
  refine w_astore_n C dX11_acceptDraft_4 (Nat.le_of_ble_eq_true rfl) (L' := [some (rf (zG Z) k), some (rf (zG Z) ((I k 5).toNatClampNeg))]) rfl (q := 5) rfl ?_
  refine w_aload_n (v := k) C dX11_acceptDraft_5 rfl (q := 6) rfl ?_
  refine w_aload_n (v := k) C dX11_acceptDraft_6 rfl (q := 7) rfl ?_
  refine g_X11_6 C hk lk_X11_53 dX11_acceptDraft_7 (q := 10) rfl ?_
  refine w_gd (fun h2 => ?_)
  refine p_X11_5 C hk (iO_of h2).1 lk_X11_49 dX11_acceptDraft_10 (q := 13) rfl (fun I3 => ?_)
  refine w_aload_n (v := k) C dX11_acceptDraft_13 rfl (q := 14) rfl ?_
  refine w_aload_n (v := (I k 5).toNatClampNeg) C dX11_acceptDraft_14 rfl (q := 15) rfl ?_
  refine p_X11_6 C hk (iO_of h1).1 lk_X11_53 dX11_acceptDraft_15 (q := 18) rfl (fun I4 => ?_)
  refine w_aload_n (v := k) C dX11_acceptDraft_18 rfl (q := 19) rfl ?_
  refine w_iconst (v := (1)) C dX11_acceptDraft_19 (by decide) (q := 20) rfl ?_
  refine p_X11_7 C hk (by decide) lk_X11_114 dX11_acceptDraft_20 (q := 23) rfl (fun I5 => ?_)
  refine w_aload_n (v := k) C dX11_acceptDraft_23 rfl (q := 24) rfl ?_
  refine w_iconst (v := (1)) C dX11_acceptDraft_24 (by decide) (q := 25) rfl ?_
  refine p_X11_8 C hk (by decide) lk_X11_133 dX11_acceptDraft_25 (q := 28) rfl (fun I6 => ?_)
  refine w_aload_n (v := k) C dX11_acceptDraft_28 rfl (q := 29) rfl ?_
  refine w_aload_n (v := k) C dX11_acceptDraft_29 rfl (q := 30) rfl ?_
  refine g_X11_5 C hk lk_X11_49 dX11_acceptDraft_30 (q := 33) rfl ?_
  refine w_gd (fun h7 => ?_)
  refine w_callV (val := fun r8 => some (.int r8)) (mem := fun r8 => I6) (st1 := fun r8 => [.int r8, rf (zG Z) k]) (As := []) (st := [rf (zG Z) k]) (q := 36) C hR (fun x h => c_X4_headerControl (zl Z) (zG Z)  (iO_of h7) I6 h) (iO_of h7) mv_X4_headerControl lk_X11_263 rfl (by decide) (fun _ => rfl) (Nat.le_of_ble_eq_true rfl) rfl rfl dX11_acceptDraft_33 rfl (fun r8 => ?_)
  refine p_X11_9 C hk  lk_X11_136 dX11_acceptDraft_36 (q := 39) rfl (fun I9 => ?_)
  exact w_vret C (hK _) dX11_acceptDraft_39
theorem c_X11_acceptDraft (l : Launch) (G : Gx) {k : Nat} (hk : isO k 11) (I : Mem) {x : Mem} (h : m_X11_acceptDraft k I = some x) : Ct l G yX11_acceptDraft cX11_acceptDraft 2 none 4 89 [rf G k] I (none) x := Ct.of (by decide +kernel) rfl (Nat.le_of_ble_eq_true rfl) ret_v (fun Z hG hl C hR hret => by
  subst hG
  exact m_X11_acceptDraft_ok (K := fun y => y = x) C hR k hk I (fun y hy => by subst hy; exact hret) x h rfl)
def m_X1_count (k : Nat) (I : Mem) : Option (Int32) :=
  some (I k 2)
set_option maxRecDepth 100000 in
set_option maxHeartbeats 4000000 in
theorem m_X1_count_ok {Z : Zx} {K : Int32 → Prop} (C : Cx Z cX1_count 1 RX1) (hR : RM Z 0 0) (k : Nat) (hk : isO k 1) (I : Mem) (hK : ∀ y, K (y) → RetI Z cX1_count .int y I) : WF Z K (m_X1_count k I) I 0 [some (rf (zG Z) k)] [] := by
  unfold m_X1_count
  refine w_aload_n (v := k) C dX1_count_0 rfl (q := 1) rfl ?_
  refine g_X1_2 C hk lk_X1_18 dX1_count_1 (q := 4) rfl ?_
  exact w_iret C (hK _) rfl dX1_count_4
theorem c_X1_count (l : Launch) (G : Gx) {k : Nat} (hk : isO k 1) (I : Mem) {x : Int32} (h : m_X1_count k I = some x) : Ct l G yX1_count cX1_count 1 (some (.int)) 0 0 [rf G k] I (some (.int x)) I := Ct.of (by decide +kernel) rfl (Nat.le_of_ble_eq_true rfl) ret_i (fun Z hG hl C hR hret => by
  subst hG
  exact m_X1_count_ok (K := fun y => y = x) C hR k hk I (fun y hy => by subst hy; exact hret) x h rfl)
def m_X1_wipe (k : Nat) (I : Mem) : Option (Mem) :=
  bnd (ms I k 2 0) fun I1 => some I1
set_option maxRecDepth 100000 in
set_option maxHeartbeats 4000000 in
theorem m_X1_wipe_ok {Z : Zx} {K : Mem → Prop} (C : Cx Z cX1_wipe 1 RX1) (hR : RM Z 0 0) (k : Nat) (hk : isO k 1) (I : Mem) (hK : ∀ y, K (y) → RetV Z cX1_wipe y) : WF Z K (m_X1_wipe k I) I 0 [some (rf (zG Z) k)] [] := by
  unfold m_X1_wipe
  refine w_aload_n (v := k) C dX1_wipe_0 rfl (q := 1) rfl ?_
  refine w_iconst (v := (0)) C dX1_wipe_1 (by decide) (q := 2) rfl ?_
  refine p_X1_2 C hk  lk_X1_18 dX1_wipe_2 (q := 5) rfl (fun I1 => ?_)
  exact w_vret C (hK _) dX1_wipe_5
theorem c_X1_wipe (l : Launch) (G : Gx) {k : Nat} (hk : isO k 1) (I : Mem) {x : Mem} (h : m_X1_wipe k I = some x) : Ct l G yX1_wipe cX1_wipe 1 none 0 0 [rf G k] I (none) x := Ct.of (by decide +kernel) rfl (Nat.le_of_ble_eq_true rfl) ret_v (fun Z hG hl C hR hret => by
  subst hG
  exact m_X1_wipe_ok (K := fun y => y = x) C hR k hk I (fun y hy => by subst hy; exact hret) x h rfl)
def m_X1_add (k : Nat) (p1 : Int32) (p2 : Int32) (I : Mem) : Option (Mem) :=
  if 141 ≤ I k 2 then (some I) else (gd (inb (I k 2) 141) (bnd (ms I (k + 1) (I k 2).toNatClampNeg p1) fun I1 => gd (inb (I1 k 2) 141) (bnd (ms I1 (k + 2) (I1 k 2).toNatClampNeg p2) fun I2 => bnd (ms I2 k 2 ((I2 k 2) + 1)) fun I3 => some I3)))
set_option maxRecDepth 100000 in
set_option maxHeartbeats 4000000 in
theorem m_X1_add_ok {Z : Zx} {K : Mem → Prop} (C : Cx Z cX1_add 3 RX1) (hR : RM Z 0 0) (k : Nat) (p1 : Int32) (p2 : Int32) (hk : isO k 1) (I : Mem) (hK : ∀ y, K (y) → RetV Z cX1_add y) : WF Z K (m_X1_add k p1 p2 I) I 0 [some (rf (zG Z) k), some (.int p1), some (.int p2)] [] := by
  unfold m_X1_add
  refine w_aload_n (v := k) C dX1_add_0 rfl (q := 1) rfl ?_
  refine g_X1_2 C hk lk_X1_18 dX1_add_1 (q := 4) rfl ?_
  refine w_sipush (v := (141)) C dX1_add_4 (by decide) (q := 7) rfl ?_
  refine w_icmp_ge (tgt := 40) (q := 10) C dX1_add_7 (by decide) rfl (fun _ => ?_) (fun _ => ?_)
  · exact w_vret C (hK _) dX1_add_40
  · refine w_aload_n (v := k) C dX1_add_10 rfl (q := 11) rfl ?_
    refine g_X1_0 C hk lk_X1_9 dX1_add_11 (q := 14) rfl ?_
    refine w_aload_n (v := k) C dX1_add_14 rfl (q := 15) rfl ?_
    refine g_X1_2 C hk lk_X1_18 dX1_add_15 (q := 18) rfl ?_
    refine w_iload_n (v := p1) C dX1_add_18 rfl (q := 19) rfl ?_
    refine w_iast C (st_X1_0 hk).2 dX1_add_19 (q := 20) rfl (fun _ I1 => ?_)
    refine w_aload_n (v := k) C dX1_add_20 rfl (q := 21) rfl ?_
    refine g_X1_1 C hk lk_X1_15 dX1_add_21 (q := 24) rfl ?_
    refine w_aload_n (v := k) C dX1_add_24 rfl (q := 25) rfl ?_
    refine g_X1_2 C hk lk_X1_18 dX1_add_25 (q := 28) rfl ?_
    refine w_iload_n (v := p2) C dX1_add_28 rfl (q := 29) rfl ?_
    refine w_iast C (st_X1_1 hk).2 dX1_add_29 (q := 30) rfl (fun _ I2 => ?_)
    refine w_aload_n (v := k) C dX1_add_30 rfl (q := 31) rfl ?_
    refine w_dup C dX1_add_31 rfl (q := 32) rfl ?_
    refine g_X1_2 C hk lk_X1_18 dX1_add_32 (q := 35) rfl ?_
    refine w_iconst (v := (1)) C dX1_add_35 (by decide) (q := 36) rfl ?_
    refine w_iadd C dX1_add_36 (q := 37) rfl ?_
    refine p_X1_2 C hk  lk_X1_18 dX1_add_37 (q := 40) rfl (fun I3 => ?_)
    exact w_vret C (hK _) dX1_add_40
theorem c_X1_add (l : Launch) (G : Gx) {k : Nat} (p1 : Int32) (p2 : Int32) (hk : isO k 1) (I : Mem) {x : Mem} (h : m_X1_add k p1 p2 I = some x) : Ct l G yX1_add cX1_add 3 none 0 0 [rf G k, .int p1, .int p2] I (none) x := Ct.of (by decide +kernel) rfl (Nat.le_of_ble_eq_true rfl) ret_v (fun Z hG hl C hR hret => by
  subst hG
  exact m_X1_add_ok (K := fun y => y = x) C hR k p1 p2 hk I (fun y hy => by subst hy; exact hret) x h rfl)
def m_X3_at10 (p1 : Nat) (p2 : Int32) (I : Mem) : Option (Int32) :=
  if p2 < 0 then (some 0) else (if 10 ≤ p2 then (some 0) else (gd (inb p2 10) (some (I p1 p2.toNatClampNeg))))
set_option maxRecDepth 100000 in
set_option maxHeartbeats 4000000 in
theorem m_X3_at10_ok {Z : Zx} {K : Int32 → Prop} (C : Cx Z cX3_at 2 RX3) (hR : RM Z 0 0) (p1 : Nat) (p2 : Int32) (hp1 : isA p1 0 10) (I : Mem) (hK : ∀ y, K (y) → RetI Z cX3_at .int y I) : WF Z K (m_X3_at10 p1 p2 I) I 0 [some (rf (zG Z) p1), some (.int p2)] [] := by
  unfold m_X3_at10
  refine w_iload_n (v := p2) C dX3_at_0 rfl (q := 1) rfl ?_
  refine w_if_lt (tgt := 16) (q := 4) C dX3_at_1 (by decide) rfl (fun _ => ?_) (fun _ => ?_)
  · refine w_iconst (v := (0)) C dX3_at_16 (by decide) (q := 17) rfl ?_
    exact w_iret C (hK _) rfl dX3_at_17
  · refine w_iload_n (v := p2) C dX3_at_4 rfl (q := 5) rfl ?_
    refine w_aload_n (v := p1) C dX3_at_5 rfl (q := 6) rfl ?_
    refine w_alen (t := 0) (v := 10) C hp1 rfl (by decide) (by decide) dX3_at_6 (q := 7) rfl ?_
    refine w_icmp_ge (tgt := 16) (q := 10) C dX3_at_7 (by decide) rfl (fun _ => ?_) (fun _ => ?_)
    · refine w_iconst (v := (0)) C dX3_at_16 (by decide) (q := 17) rfl ?_
      exact w_iret C (hK _) rfl dX3_at_17
    · refine w_aload_n (v := p1) C dX3_at_10 rfl (q := 11) rfl ?_
      refine w_iload_n (v := p2) C dX3_at_11 rfl (q := 12) rfl ?_
      refine w_iald C hp1 dX3_at_12 (q := 13) rfl (fun _ => ?_)
      refine w_goto (tgt := 17) C dX3_at_13 (by decide) ?_
      exact w_iret C (hK _) rfl dX3_at_17
theorem c_X3_at10 (l : Launch) (G : Gx) {p1 : Nat} (p2 : Int32) (hp1 : isA p1 0 10) (I : Mem) {x : Int32} (h : m_X3_at10 p1 p2 I = some x) : Ct l G yX3_at cX3_at 2 (some (.int)) 0 0 [rf G p1, .int p2] I (some (.int x)) I := Ct.of (by decide +kernel) rfl (Nat.le_of_ble_eq_true rfl) ret_i (fun Z hG hl C hR hret => by
  subst hG
  exact m_X3_at10_ok (K := fun y => y = x) C hR p1 p2 hp1 I (fun y hy => by subst hy; exact hret) x h rfl)
def m_X3_at11 (p1 : Nat) (p2 : Int32) (I : Mem) : Option (Int32) :=
  if p2 < 0 then (some 0) else (if 11 ≤ p2 then (some 0) else (gd (inb p2 11) (some (I p1 p2.toNatClampNeg))))
set_option maxRecDepth 100000 in
set_option maxHeartbeats 4000000 in
theorem m_X3_at11_ok {Z : Zx} {K : Int32 → Prop} (C : Cx Z cX3_at 2 RX3) (hR : RM Z 0 0) (p1 : Nat) (p2 : Int32) (hp1 : isA p1 0 11) (I : Mem) (hK : ∀ y, K (y) → RetI Z cX3_at .int y I) : WF Z K (m_X3_at11 p1 p2 I) I 0 [some (rf (zG Z) p1), some (.int p2)] [] := by
  unfold m_X3_at11
  refine w_iload_n (v := p2) C dX3_at_0 rfl (q := 1) rfl ?_
  refine w_if_lt (tgt := 16) (q := 4) C dX3_at_1 (by decide) rfl (fun _ => ?_) (fun _ => ?_)
  · refine w_iconst (v := (0)) C dX3_at_16 (by decide) (q := 17) rfl ?_
    exact w_iret C (hK _) rfl dX3_at_17
  · refine w_iload_n (v := p2) C dX3_at_4 rfl (q := 5) rfl ?_
    refine w_aload_n (v := p1) C dX3_at_5 rfl (q := 6) rfl ?_
    refine w_alen (t := 0) (v := 11) C hp1 rfl (by decide) (by decide) dX3_at_6 (q := 7) rfl ?_
    refine w_icmp_ge (tgt := 16) (q := 10) C dX3_at_7 (by decide) rfl (fun _ => ?_) (fun _ => ?_)
    · refine w_iconst (v := (0)) C dX3_at_16 (by decide) (q := 17) rfl ?_
      exact w_iret C (hK _) rfl dX3_at_17
    · refine w_aload_n (v := p1) C dX3_at_10 rfl (q := 11) rfl ?_
      refine w_iload_n (v := p2) C dX3_at_11 rfl (q := 12) rfl ?_
      refine w_iald C hp1 dX3_at_12 (q := 13) rfl (fun _ => ?_)
      refine w_goto (tgt := 17) C dX3_at_13 (by decide) ?_
      exact w_iret C (hK _) rfl dX3_at_17
theorem c_X3_at11 (l : Launch) (G : Gx) {p1 : Nat} (p2 : Int32) (hp1 : isA p1 0 11) (I : Mem) {x : Int32} (h : m_X3_at11 p1 p2 I = some x) : Ct l G yX3_at cX3_at 2 (some (.int)) 0 0 [rf G p1, .int p2] I (some (.int x)) I := Ct.of (by decide +kernel) rfl (Nat.le_of_ble_eq_true rfl) ret_i (fun Z hG hl C hR hret => by
  subst hG
  exact m_X3_at11_ok (K := fun y => y = x) C hR p1 p2 hp1 I (fun y hy => by subst hy; exact hret) x h rfl)
def m_X3_at12 (p1 : Nat) (p2 : Int32) (I : Mem) : Option (Int32) :=
  if p2 < 0 then (some 0) else (if 12 ≤ p2 then (some 0) else (gd (inb p2 12) (some (I p1 p2.toNatClampNeg))))
set_option maxRecDepth 100000 in
set_option maxHeartbeats 4000000 in
theorem m_X3_at12_ok {Z : Zx} {K : Int32 → Prop} (C : Cx Z cX3_at 2 RX3) (hR : RM Z 0 0) (p1 : Nat) (p2 : Int32) (hp1 : isA p1 0 12) (I : Mem) (hK : ∀ y, K (y) → RetI Z cX3_at .int y I) : WF Z K (m_X3_at12 p1 p2 I) I 0 [some (rf (zG Z) p1), some (.int p2)] [] := by
  unfold m_X3_at12
  refine w_iload_n (v := p2) C dX3_at_0 rfl (q := 1) rfl ?_
  refine w_if_lt (tgt := 16) (q := 4) C dX3_at_1 (by decide) rfl (fun _ => ?_) (fun _ => ?_)
  · refine w_iconst (v := (0)) C dX3_at_16 (by decide) (q := 17) rfl ?_
    exact w_iret C (hK _) rfl dX3_at_17
  · refine w_iload_n (v := p2) C dX3_at_4 rfl (q := 5) rfl ?_
    refine w_aload_n (v := p1) C dX3_at_5 rfl (q := 6) rfl ?_
    refine w_alen (t := 0) (v := 12) C hp1 rfl (by decide) (by decide) dX3_at_6 (q := 7) rfl ?_
    refine w_icmp_ge (tgt := 16) (q := 10) C dX3_at_7 (by decide) rfl (fun _ => ?_) (fun _ => ?_)
    · refine w_iconst (v := (0)) C dX3_at_16 (by decide) (q := 17) rfl ?_
      exact w_iret C (hK _) rfl dX3_at_17
    · refine w_aload_n (v := p1) C dX3_at_10 rfl (q := 11) rfl ?_
      refine w_iload_n (v := p2) C dX3_at_11 rfl (q := 12) rfl ?_
      refine w_iald C hp1 dX3_at_12 (q := 13) rfl (fun _ => ?_)
      refine w_goto (tgt := 17) C dX3_at_13 (by decide) ?_
      exact w_iret C (hK _) rfl dX3_at_17
theorem c_X3_at12 (l : Launch) (G : Gx) {p1 : Nat} (p2 : Int32) (hp1 : isA p1 0 12) (I : Mem) {x : Int32} (h : m_X3_at12 p1 p2 I = some x) : Ct l G yX3_at cX3_at 2 (some (.int)) 0 0 [rf G p1, .int p2] I (some (.int x)) I := Ct.of (by decide +kernel) rfl (Nat.le_of_ble_eq_true rfl) ret_i (fun Z hG hl C hR hret => by
  subst hG
  exact m_X3_at12_ok (K := fun y => y = x) C hR p1 p2 hp1 I (fun y hy => by subst hy; exact hret) x h rfl)
def m_X3_contains (p1 : Int32) (p2 : Int32) (I : Mem) : Option (Int32) :=
  if (p1 >>> (p2 &&& 31)) &&& 1 = 1 then (some 1) else (some 0)
set_option maxRecDepth 100000 in
set_option maxHeartbeats 4000000 in
theorem m_X3_contains_ok {Z : Zx} {K : Int32 → Prop} (C : Cx Z cX3_contains 2 RX3) (hR : RM Z 0 0) (p1 : Int32) (p2 : Int32) (I : Mem) (hK : ∀ y, K (y) → RetI Z cX3_contains .boolean y I) : WF Z K (m_X3_contains p1 p2 I) I 0 [some (.int p1), some (.int p2)] [] := by
  unfold m_X3_contains
  refine w_iload_n (v := p1) C dX3_contains_0 rfl (q := 1) rfl ?_
  refine w_iload_n (v := p2) C dX3_contains_1 rfl (q := 2) rfl ?_
  refine w_ishr C dX3_contains_2 (q := 3) rfl ?_
  refine w_iconst (v := (1)) C dX3_contains_3 (by decide) (q := 4) rfl ?_
  refine w_iand C dX3_contains_4 (q := 5) rfl ?_
  refine w_iconst (v := (1)) C dX3_contains_5 (by decide) (q := 6) rfl ?_
  refine w_icmp_ne (tgt := 13) (q := 9) C dX3_contains_6 (by decide) rfl (fun _ => ?_) (fun _ => ?_)
  · refine w_iconst (v := (1)) C dX3_contains_9 (by decide) (q := 10) rfl ?_
    refine w_goto (tgt := 14) C dX3_contains_10 (by decide) ?_
    exact w_iret C (hK _) (by decide) dX3_contains_14
  · refine w_iconst (v := (0)) C dX3_contains_13 (by decide) (q := 14) rfl ?_
    exact w_iret C (hK _) (by decide) dX3_contains_14
theorem c_X3_contains (l : Launch) (G : Gx) (p1 : Int32) (p2 : Int32)  (I : Mem) {x : Int32} (h : m_X3_contains p1 p2 I = some x) : Ct l G yX3_contains cX3_contains 2 (some (.boolean)) 0 0 [.int p1, .int p2] I (some (.int x)) I := Ct.of (by decide +kernel) rfl (Nat.le_of_ble_eq_true rfl) ret_i (fun Z hG hl C hR hret => by
  subst hG
  exact m_X3_contains_ok (K := fun y => y = x) C hR p1 p2  I (fun y hy => by subst hy; exact hret) x h rfl)
def m_X3_placesBeforeItem_j33 (p1 : Int32) (p2 : Int32) (p3 : Int32) (x4 : Int32) (x5 : Int32) (x6 : Int32) (I : Mem) : Option ((Int32 × Int32 × Int32) ⊕ ((Int32))) :=
  some (.inl (x4, (x5 >>> (1 &&& 31)) &&& p1, x6 + 1))
set_option maxRecDepth 100000 in
set_option maxHeartbeats 4000000 in
theorem m_X3_placesBeforeItem_j33_ok {Z : Zx} {K : ((Int32 × Int32 × Int32) ⊕ ((Int32))) → Prop} (C : Cx Z cX3_placesBeforeItem 7 RX3) (hR : RM Z 0 0) (p1 : Int32) (p2 : Int32) (p3 : Int32) (x4 : Int32) (x5 : Int32) (x6 : Int32) (I : Mem) (hB : ∀ a, K (.inl a) → WM Z I 9 [some (.int p1), some (.int p2), some (.int p3), none, some (.int a.1), some (.int a.2.1), some (.int a.2.2)] []) (hX0 : ∀ b, K (.inr (b)) → WM Z I 47 [none, none, none, none, some (.int b), none, none] []) : WF Z K (m_X3_placesBeforeItem_j33 p1 p2 p3 x4 x5 x6 I) I 33 [some (.int p1), some (.int p2), some (.int p3), none, some (.int x4), some (.int x5), some (.int x6)] [] := by
  unfold m_X3_placesBeforeItem_j33
  refine w_iload (v := x5) C dX3_placesBeforeItem_33 rfl (q := 35) rfl ?_
  refine w_iconst (v := (1)) C dX3_placesBeforeItem_35 (by decide) (q := 36) rfl ?_
  refine w_ishr C dX3_placesBeforeItem_36 (q := 37) rfl ?_
  refine w_iload_n (v := p1) C dX3_placesBeforeItem_37 rfl (q := 38) rfl ?_
  refine w_iand C dX3_placesBeforeItem_38 (q := 39) rfl ?_
  refine w_istore C dX3_placesBeforeItem_39 (Nat.le_of_ble_eq_true rfl) (L' := [some (.int p1), some (.int p2), some (.int p3), none, some (.int x4), some (.int ((x5 >>> (1 &&& 31)) &&& p1)), some (.int x6)]) rfl (q := 41) rfl ?_
  refine w_iinc (v := x6 + 1) C dX3_placesBeforeItem_41 rfl rfl (L' := [some (.int p1), some (.int p2), some (.int p3), none, some (.int x4), some (.int ((x5 >>> (1 &&& 31)) &&& p1)), some (.int (x6 + 1))]) rfl (q := 44) rfl ?_
  refine w_goto (tgt := 9) C dX3_placesBeforeItem_44 (by decide) ?_
  exact w_jmp (fun h => WM.less (L' := [some (.int p1), some (.int p2), some (.int p3), none, some (.int x4), some (.int ((x5 >>> (1 &&& 31)) &&& p1)), some (.int (x6 + 1))]) (hB _ h) ⟨rfl, rfl, rfl, rfl, rfl, rfl, trivial⟩)
def m_X3_placesBeforeItem_b9 (p1 : Int32) (p2 : Int32) (p3 : Int32) (x4 : Int32) (x5 : Int32) (x6 : Int32) (I : Mem) : Option ((Int32 × Int32 × Int32) ⊕ ((Int32))) :=
  if p3 < x6 then (some (.inr (x4))) else (if x5 = 0 then (some (.inr (x4))) else (if x6 < p2 then (m_X3_placesBeforeItem_j33 p1 p2 p3 x4 x5 x6 I) else (m_X3_placesBeforeItem_j33 p1 p2 p3 (x4 ||| x5) x5 x6 I)))
set_option maxRecDepth 100000 in
set_option maxHeartbeats 4000000 in
theorem m_X3_placesBeforeItem_b9_ok {Z : Zx} {K : ((Int32 × Int32 × Int32) ⊕ ((Int32))) → Prop} (C : Cx Z cX3_placesBeforeItem 7 RX3) (hR : RM Z 0 0) (p1 : Int32) (p2 : Int32) (p3 : Int32) (x4 : Int32) (x5 : Int32) (x6 : Int32) (I : Mem) (hB : ∀ a, K (.inl a) → WM Z I 9 [some (.int p1), some (.int p2), some (.int p3), none, some (.int a.1), some (.int a.2.1), some (.int a.2.2)] []) (hX0 : ∀ b, K (.inr (b)) → WM Z I 47 [none, none, none, none, some (.int b), none, none] []) : WF Z K (m_X3_placesBeforeItem_b9 p1 p2 p3 x4 x5 x6 I) I 9 [some (.int p1), some (.int p2), some (.int p3), none, some (.int x4), some (.int x5), some (.int x6)] [] := by
  unfold m_X3_placesBeforeItem_b9
  refine w_iload (v := x6) C dX3_placesBeforeItem_9 rfl (q := 11) rfl ?_
  refine w_iload_n (v := p3) C dX3_placesBeforeItem_11 rfl (q := 12) rfl ?_
  refine w_icmp_gt (tgt := 47) (q := 15) C dX3_placesBeforeItem_12 (by decide) rfl (fun _ => ?_) (fun _ => ?_)
  · exact w_jmp (fun h => WM.less (L' := [none, none, none, none, some (.int x4), none, none]) (hX0 _ h) ⟨rfl, trivial⟩)
  · refine w_iload (v := x5) C dX3_placesBeforeItem_15 rfl (q := 17) rfl ?_
    refine w_if_eq (tgt := 47) (q := 20) C dX3_placesBeforeItem_17 (by decide) rfl (fun _ => ?_) (fun _ => ?_)
    · exact w_jmp (fun h => WM.less (L' := [none, none, none, none, some (.int x4), none, none]) (hX0 _ h) ⟨rfl, trivial⟩)
    · refine w_iload (v := x6) C dX3_placesBeforeItem_20 rfl (q := 22) rfl ?_
      refine w_iload_n (v := p2) C dX3_placesBeforeItem_22 rfl (q := 23) rfl ?_
      refine w_icmp_lt (tgt := 33) (q := 26) C dX3_placesBeforeItem_23 (by decide) rfl (fun _ => ?_) (fun _ => ?_)
      · exact WF.less (L' := [some (.int p1), some (.int p2), some (.int p3), none, some (.int x4), some (.int x5), some (.int x6)]) (m_X3_placesBeforeItem_j33_ok C hR p1 p2 p3 x4 x5 x6  I hB hX0) ⟨rfl, rfl, rfl, rfl, rfl, rfl, trivial⟩
      · refine w_iload (v := x4) C dX3_placesBeforeItem_26 rfl (q := 28) rfl ?_
        refine w_iload (v := x5) C dX3_placesBeforeItem_28 rfl (q := 30) rfl ?_
        refine w_ior C dX3_placesBeforeItem_30 (q := 31) rfl ?_
        refine w_istore C dX3_placesBeforeItem_31 (Nat.le_of_ble_eq_true rfl) (L' := [some (.int p1), some (.int p2), some (.int p3), none, some (.int (x4 ||| x5)), some (.int x5), some (.int x6)]) rfl (q := 33) rfl ?_
        exact WF.less (L' := [some (.int p1), some (.int p2), some (.int p3), none, some (.int (x4 ||| x5)), some (.int x5), some (.int x6)]) (m_X3_placesBeforeItem_j33_ok C hR p1 p2 p3 (x4 ||| x5) x5 x6  I hB hX0) ⟨rfl, rfl, rfl, rfl, rfl, rfl, trivial⟩
def m_X3_placesBeforeItem (p1 : Int32) (p2 : Int32) (p3 : Int32) (p4 : Int32) (I : Mem) : Option (Int32) :=
  Option.bind (loopF (fun a => m_X3_placesBeforeItem_b9 p1 p2 p3 a.1 a.2.1 a.2.2 I) FU ((0 : Int32), p4, (0 : Int32))) (fun b1 => some b1)
set_option maxRecDepth 100000 in
set_option maxHeartbeats 4000000 in
theorem m_X3_placesBeforeItem_ok {Z : Zx} {K : Int32 → Prop} (C : Cx Z cX3_placesBeforeItem 7 RX3) (hR : RM Z 0 0) (p1 : Int32) (p2 : Int32) (p3 : Int32) (p4 : Int32) (I : Mem) (hK : ∀ y, K (y) → RetI Z cX3_placesBeforeItem .int y I) : WF Z K (m_X3_placesBeforeItem p1 p2 p3 p4 I) I 0 [some (.int p1), some (.int p2), some (.int p3), some (.int p4), none, none, none] [] := by
  unfold m_X3_placesBeforeItem
  refine w_iconst (v := (0)) C dX3_placesBeforeItem_0 (by decide) (q := 1) rfl ?_
  refine w_istore C dX3_placesBeforeItem_1 (Nat.le_of_ble_eq_true rfl) (L' := [some (.int p1), some (.int p2), some (.int p3), some (.int p4), some (.int 0), none, none]) rfl (q := 3) rfl ?_
  refine w_iload_n (v := p4) C dX3_placesBeforeItem_3 rfl (q := 4) rfl ?_
  refine w_istore C dX3_placesBeforeItem_4 (Nat.le_of_ble_eq_true rfl) (L' := [some (.int p1), some (.int p2), some (.int p3), some (.int p4), some (.int 0), some (.int p4), none]) rfl (q := 6) rfl ?_
  refine w_iconst (v := (0)) C dX3_placesBeforeItem_6 (by decide) (q := 7) rfl ?_
  refine w_istore C dX3_placesBeforeItem_7 (Nat.le_of_ble_eq_true rfl) (L' := [some (.int p1), some (.int p2), some (.int p3), some (.int p4), some (.int 0), some (.int p4), some (.int 0)]) rfl (q := 9) rfl ?_
  refine WF.less (L' := [some (.int p1), some (.int p2), some (.int p3), none, some (.int 0), some (.int p4), some (.int 0)]) (w_loopF (pc := 9) (a := ((0 : Int32), p4, (0 : Int32))) (mem := fun a => I) (lo := fun a => [some (.int p1), some (.int p2), some (.int p3), none, some (.int a.1), some (.int a.2.1), some (.int a.2.2)]) (E := fun b1 => WM Z I 47 [none, none, none, none, some (.int b1), none, none] []) (fun a => m_X3_placesBeforeItem_b9_ok C hR p1 p2 p3 a.1 a.2.1 a.2.2  I (fun _ h => h) (fun _ h => h)) ?_) ⟨rfl, rfl, rfl, rfl, rfl, rfl, trivial⟩
  intro b1
  refine w_hx ?_
  refine w_iload (v := b1) C dX3_placesBeforeItem_47 rfl (q := 49) rfl ?_
  exact w_iret C (hK _) rfl dX3_placesBeforeItem_49
theorem c_X3_placesBeforeItem (l : Launch) (G : Gx) (p1 : Int32) (p2 : Int32) (p3 : Int32) (p4 : Int32)  (I : Mem) {x : Int32} (h : m_X3_placesBeforeItem p1 p2 p3 p4 I = some x) : Ct l G yX3_placesBeforeItem cX3_placesBeforeItem 7 (some (.int)) 0 0 [.int p1, .int p2, .int p3, .int p4] I (some (.int x)) I := Ct.of (by decide +kernel) rfl (Nat.le_of_ble_eq_true rfl) ret_i (fun Z hG hl C hR hret => by
  subst hG
  exact m_X3_placesBeforeItem_ok (K := fun y => y = x) C hR p1 p2 p3 p4  I (fun y hy => by subst hy; exact hret) x h rfl)
def m_X3_put10 (p1 : Nat) (p2 : Int32) (p3 : Int32) (I : Mem) : Option (Mem) :=
  if p2 < 0 then (some I) else (if 10 ≤ p2 then (some I) else (gd (inb p2 10) (bnd (ms I p1 p2.toNatClampNeg p3) fun I1 => some I1)))
set_option maxRecDepth 100000 in
set_option maxHeartbeats 4000000 in
theorem m_X3_put10_ok {Z : Zx} {K : Mem → Prop} (C : Cx Z cX3_put 3 RX3) (hR : RM Z 0 0) (p1 : Nat) (p2 : Int32) (p3 : Int32) (hp1 : isA p1 0 10) (I : Mem) (hK : ∀ y, K (y) → RetV Z cX3_put y) : WF Z K (m_X3_put10 p1 p2 p3 I) I 0 [some (rf (zG Z) p1), some (.int p2), some (.int p3)] [] := by
  unfold m_X3_put10
  refine w_iload_n (v := p2) C dX3_put_0 rfl (q := 1) rfl ?_
  refine w_if_lt (tgt := 14) (q := 4) C dX3_put_1 (by decide) rfl (fun _ => ?_) (fun _ => ?_)
  · exact w_vret C (hK _) dX3_put_14
  · refine w_iload_n (v := p2) C dX3_put_4 rfl (q := 5) rfl ?_
    refine w_aload_n (v := p1) C dX3_put_5 rfl (q := 6) rfl ?_
    refine w_alen (t := 0) (v := 10) C hp1 rfl (by decide) (by decide) dX3_put_6 (q := 7) rfl ?_
    refine w_icmp_ge (tgt := 14) (q := 10) C dX3_put_7 (by decide) rfl (fun _ => ?_) (fun _ => ?_)
    · exact w_vret C (hK _) dX3_put_14
    · refine w_aload_n (v := p1) C dX3_put_10 rfl (q := 11) rfl ?_
      refine w_iload_n (v := p2) C dX3_put_11 rfl (q := 12) rfl ?_
      refine w_iload_n (v := p3) C dX3_put_12 rfl (q := 13) rfl ?_
      refine w_iast C hp1 dX3_put_13 (q := 14) rfl (fun _ I1 => ?_)
      exact w_vret C (hK _) dX3_put_14
theorem c_X3_put10 (l : Launch) (G : Gx) {p1 : Nat} (p2 : Int32) (p3 : Int32) (hp1 : isA p1 0 10) (I : Mem) {x : Mem} (h : m_X3_put10 p1 p2 p3 I = some x) : Ct l G yX3_put cX3_put 3 none 0 0 [rf G p1, .int p2, .int p3] I (none) x := Ct.of (by decide +kernel) rfl (Nat.le_of_ble_eq_true rfl) ret_v (fun Z hG hl C hR hret => by
  subst hG
  exact m_X3_put10_ok (K := fun y => y = x) C hR p1 p2 p3 hp1 I (fun y hy => by subst hy; exact hret) x h rfl)
def m_X3_put11 (p1 : Nat) (p2 : Int32) (p3 : Int32) (I : Mem) : Option (Mem) :=
  if p2 < 0 then (some I) else (if 11 ≤ p2 then (some I) else (gd (inb p2 11) (bnd (ms I p1 p2.toNatClampNeg p3) fun I1 => some I1)))
set_option maxRecDepth 100000 in
set_option maxHeartbeats 4000000 in
theorem m_X3_put11_ok {Z : Zx} {K : Mem → Prop} (C : Cx Z cX3_put 3 RX3) (hR : RM Z 0 0) (p1 : Nat) (p2 : Int32) (p3 : Int32) (hp1 : isA p1 0 11) (I : Mem) (hK : ∀ y, K (y) → RetV Z cX3_put y) : WF Z K (m_X3_put11 p1 p2 p3 I) I 0 [some (rf (zG Z) p1), some (.int p2), some (.int p3)] [] := by
  unfold m_X3_put11
  refine w_iload_n (v := p2) C dX3_put_0 rfl (q := 1) rfl ?_
  refine w_if_lt (tgt := 14) (q := 4) C dX3_put_1 (by decide) rfl (fun _ => ?_) (fun _ => ?_)
  · exact w_vret C (hK _) dX3_put_14
  · refine w_iload_n (v := p2) C dX3_put_4 rfl (q := 5) rfl ?_
    refine w_aload_n (v := p1) C dX3_put_5 rfl (q := 6) rfl ?_
    refine w_alen (t := 0) (v := 11) C hp1 rfl (by decide) (by decide) dX3_put_6 (q := 7) rfl ?_
    refine w_icmp_ge (tgt := 14) (q := 10) C dX3_put_7 (by decide) rfl (fun _ => ?_) (fun _ => ?_)
    · exact w_vret C (hK _) dX3_put_14
    · refine w_aload_n (v := p1) C dX3_put_10 rfl (q := 11) rfl ?_
      refine w_iload_n (v := p2) C dX3_put_11 rfl (q := 12) rfl ?_
      refine w_iload_n (v := p3) C dX3_put_12 rfl (q := 13) rfl ?_
      refine w_iast C hp1 dX3_put_13 (q := 14) rfl (fun _ I1 => ?_)
      exact w_vret C (hK _) dX3_put_14
theorem c_X3_put11 (l : Launch) (G : Gx) {p1 : Nat} (p2 : Int32) (p3 : Int32) (hp1 : isA p1 0 11) (I : Mem) {x : Mem} (h : m_X3_put11 p1 p2 p3 I = some x) : Ct l G yX3_put cX3_put 3 none 0 0 [rf G p1, .int p2, .int p3] I (none) x := Ct.of (by decide +kernel) rfl (Nat.le_of_ble_eq_true rfl) ret_v (fun Z hG hl C hR hret => by
  subst hG
  exact m_X3_put11_ok (K := fun y => y = x) C hR p1 p2 p3 hp1 I (fun y hy => by subst hy; exact hret) x h rfl)
def m_X3_put12 (p1 : Nat) (p2 : Int32) (p3 : Int32) (I : Mem) : Option (Mem) :=
  if p2 < 0 then (some I) else (if 12 ≤ p2 then (some I) else (gd (inb p2 12) (bnd (ms I p1 p2.toNatClampNeg p3) fun I1 => some I1)))
set_option maxRecDepth 100000 in
set_option maxHeartbeats 4000000 in
theorem m_X3_put12_ok {Z : Zx} {K : Mem → Prop} (C : Cx Z cX3_put 3 RX3) (hR : RM Z 0 0) (p1 : Nat) (p2 : Int32) (p3 : Int32) (hp1 : isA p1 0 12) (I : Mem) (hK : ∀ y, K (y) → RetV Z cX3_put y) : WF Z K (m_X3_put12 p1 p2 p3 I) I 0 [some (rf (zG Z) p1), some (.int p2), some (.int p3)] [] := by
  unfold m_X3_put12
  refine w_iload_n (v := p2) C dX3_put_0 rfl (q := 1) rfl ?_
  refine w_if_lt (tgt := 14) (q := 4) C dX3_put_1 (by decide) rfl (fun _ => ?_) (fun _ => ?_)
  · exact w_vret C (hK _) dX3_put_14
  · refine w_iload_n (v := p2) C dX3_put_4 rfl (q := 5) rfl ?_
    refine w_aload_n (v := p1) C dX3_put_5 rfl (q := 6) rfl ?_
    refine w_alen (t := 0) (v := 12) C hp1 rfl (by decide) (by decide) dX3_put_6 (q := 7) rfl ?_
    refine w_icmp_ge (tgt := 14) (q := 10) C dX3_put_7 (by decide) rfl (fun _ => ?_) (fun _ => ?_)
    · exact w_vret C (hK _) dX3_put_14
    · refine w_aload_n (v := p1) C dX3_put_10 rfl (q := 11) rfl ?_
      refine w_iload_n (v := p2) C dX3_put_11 rfl (q := 12) rfl ?_
      refine w_iload_n (v := p3) C dX3_put_12 rfl (q := 13) rfl ?_
      refine w_iast C hp1 dX3_put_13 (q := 14) rfl (fun _ I1 => ?_)
      exact w_vret C (hK _) dX3_put_14
theorem c_X3_put12 (l : Launch) (G : Gx) {p1 : Nat} (p2 : Int32) (p3 : Int32) (hp1 : isA p1 0 12) (I : Mem) {x : Mem} (h : m_X3_put12 p1 p2 p3 I = some x) : Ct l G yX3_put cX3_put 3 none 0 0 [rf G p1, .int p2, .int p3] I (none) x := Ct.of (by decide +kernel) rfl (Nat.le_of_ble_eq_true rfl) ret_v (fun Z hG hl C hR hret => by
  subst hG
  exact m_X3_put12_ok (K := fun y => y = x) C hR p1 p2 p3 hp1 I (fun y hy => by subst hy; exact hret) x h rfl)
def m_X8_itemAt_j21 (k : Nat) (I : Mem) : Option (Nat) :=
  some (k + 3)
set_option maxRecDepth 100000 in
set_option maxHeartbeats 4000000 in
theorem m_X8_itemAt_j21_ok {Z : Zx} {K : Nat → Prop} (C : Cx Z cX8_itemAt 2 RX8) (hR : RM Z 0 0) (k : Nat) (hk : isO k 8) (I : Mem) (hK : ∀ y, K (y) → RetA Z cX8_itemAt y I) : WF Z K (m_X8_itemAt_j21 k I) I 21 [some (rf (zG Z) k), none] [] := by
  unfold m_X8_itemAt_j21
  refine w_aload_n (v := k) C dX8_itemAt_21 rfl (q := 22) rfl ?_
  refine g_X8_2 C hk lk_X8_24 dX8_itemAt_22 (q := 25) rfl ?_
  exact w_aret C (hK _) dX8_itemAt_25
def m_X8_itemAt (k : Nat) (p1 : Int32) (I : Mem) : Option (Nat) :=
  if p1 < 0 then (m_X8_itemAt_j21 k I) else (if I k 4 ≤ p1 then (m_X8_itemAt_j21 k I) else (gd (inb p1 10) (some ((k + 1) + (4 + 1 * p1.toNatClampNeg)))))
set_option maxRecDepth 100000 in
set_option maxHeartbeats 4000000 in
theorem m_X8_itemAt_ok {Z : Zx} {K : Nat → Prop} (C : Cx Z cX8_itemAt 2 RX8) (hR : RM Z 0 0) (k : Nat) (p1 : Int32) (hk : isO k 8) (I : Mem) (hK : ∀ y, K (y) → RetA Z cX8_itemAt y I) : WF Z K (m_X8_itemAt k p1 I) I 0 [some (rf (zG Z) k), some (.int p1)] [] := by
  unfold m_X8_itemAt
  refine w_iload_n (v := p1) C dX8_itemAt_0 rfl (q := 1) rfl ?_
  refine w_if_lt (tgt := 21) (q := 4) C dX8_itemAt_1 (by decide) rfl (fun _ => ?_) (fun _ => ?_)
  · exact WF.less (L' := [some (rf (zG Z) k), none]) (m_X8_itemAt_j21_ok C hR k hk I hK) ⟨rfl, trivial⟩
  · refine w_iload_n (v := p1) C dX8_itemAt_4 rfl (q := 5) rfl ?_
    refine w_aload_n (v := k) C dX8_itemAt_5 rfl (q := 6) rfl ?_
    refine g_X8_4 C hk lk_X8_33 dX8_itemAt_6 (q := 9) rfl ?_
    refine w_icmp_ge (tgt := 21) (q := 12) C dX8_itemAt_9 (by decide) rfl (fun _ => ?_) (fun _ => ?_)
    · exact WF.less (L' := [some (rf (zG Z) k), none]) (m_X8_itemAt_j21_ok C hR k hk I hK) ⟨rfl, trivial⟩
    · refine w_aload_n (v := k) C dX8_itemAt_12 rfl (q := 13) rfl ?_
      refine g_X8_0 C hk lk_X8_11 dX8_itemAt_13 (q := 16) rfl ?_
      refine w_iload_n (v := p1) C dX8_itemAt_16 rfl (q := 17) rfl ?_
      refine w_aald (t := 1) C (st_X8_0 hk).2 rfl (el_Item (st_X8_0 hk).2) dX8_itemAt_17 (q := 18) rfl (fun _ h1 => ?_)
      refine w_goto (tgt := 25) C dX8_itemAt_18 (by decide) ?_
      exact w_aret C (hK _) dX8_itemAt_25
theorem c_X8_itemAt (l : Launch) (G : Gx) {k : Nat} (p1 : Int32) (hk : isO k 8) (I : Mem) {x : Nat} (h : m_X8_itemAt k p1 I = some x) : Ct l G yX8_itemAt cX8_itemAt 2 (some (.object "Segmentry$Item")) 0 0 [rf G k, .int p1] I (some (rf G x)) I := Ct.of (by decide +kernel) rfl (Nat.le_of_ble_eq_true rfl) ret_a (fun Z hG hl C hR hret => by
  subst hG
  exact m_X8_itemAt_ok (K := fun y => y = x) C hR k p1 hk I (fun y hy => by subst hy; exact hret _ rfl) x h rfl)
