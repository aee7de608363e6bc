def m_X10_wipe (k : Nat) (I : Mem) : Option (Mem) :=
  bnd (ms I k 1 0) fun I1 => bnd (ms I1 k 2 0) fun I2 => some I2
set_option maxRecDepth 100000 in
set_option maxHeartbeats 4000000 in
theorem m_X10_wipe_ok {Z : Zx} {K : Mem → Prop} (C : Cx Z cX10_wipe 1 RX10) (hR : RM Z 0 0) (k : Nat) (hk : isO k 10) (I : Mem) (hK : ∀ y, K (y) → RetV Z cX10_wipe y) : WF Z K (m_X10_wipe k I) I 0 [some (rf (zG Z) k)] [] := by
  unfold m_X10_wipe
  refine w_aload_n (v := k) C dX10_wipe_0 rfl (q := 1) rfl ?_
  refine w_iconst (v := (0)) C dX10_wipe_1 (by decide) (q := 2) rfl ?_
  refine p_X10_1 C hk  lk_X10_15 dX10_wipe_2 (q := 5) rfl (fun I1 => ?_)
  refine w_aload_n (v := k) C dX10_wipe_5 rfl (q := 6) rfl ?_
  refine w_iconst (v := (0)) C dX10_wipe_6 (by decide) (q := 7) rfl ?_
  refine p_X10_2 C hk (by decide) lk_X10_19 dX10_wipe_7 (q := 10) rfl (fun I2 => ?_)
  exact w_vret (hK _) dX10_wipe_10
theorem c_X10_wipe (l : Launch) (G : Gx) {k : Nat} (hk : isO k 10) (I : Mem) {x : Mem} (h : m_X10_wipe k I = some x) : Ct l G yX10_wipe cX10_wipe 1 none 0 0 [rf G k] I (none) x := Ct.of (by decide +kernel) rfl (Nat.le_of_ble_eq_true rfl) ret_v (fun Z hG hl C hR hret => by
  subst hG
  exact m_X10_wipe_ok (K := fun y => y = x) C hR k hk I (fun y hy => by subst hy; exact hret) x h rfl)
def m_X10_count (k : Nat) (I : Mem) : Option (Int32) :=
  some (I k 1)
set_option maxRecDepth 100000 in
set_option maxHeartbeats 4000000 in
theorem m_X10_count_ok {Z : Zx} {K : Int32 → Prop} (C : Cx Z cX10_count 1 RX10) (hR : RM Z 0 0) (k : Nat) (hk : isO k 10) (I : Mem) (hK : ∀ y, K (y) → RetI Z cX10_count .int y I) : WF Z K (m_X10_count k I) I 0 [some (rf (zG Z) k)] [] := by
  unfold m_X10_count
  refine w_aload_n (v := k) C dX10_count_0 rfl (q := 1) rfl ?_
  refine g_X10_1 C hk lk_X10_15 dX10_count_1 (q := 4) rfl ?_
  exact w_iret (hK _) rfl dX10_count_4
theorem c_X10_count (l : Launch) (G : Gx) {k : Nat} (hk : isO k 10) (I : Mem) {x : Int32} (h : m_X10_count k I = some x) : Ct l G yX10_count cX10_count 1 (some (.int)) 0 0 [rf G k] I (some (.int x)) I := Ct.of (by decide +kernel) rfl (Nat.le_of_ble_eq_true rfl) ret_i (fun Z hG hl C hR hret => by
  subst hG
  exact m_X10_count_ok (K := fun y => y = x) C hR k hk I (fun y hy => by subst hy; exact hret) x h rfl)
def m_X10_at (k : Nat) (p1 : Int32) (I : Mem) : Option (Int32) :=
  if p1 < 0 then (some 32) else (if I k 1 ≤ p1 then (some 32) else (gd (inb p1 300) (gd (okc (I (k + 1) p1.toNatClampNeg)) (some (I (k + 1) p1.toNatClampNeg)))))
set_option maxRecDepth 100000 in
set_option maxHeartbeats 4000000 in
theorem m_X10_at_ok {Z : Zx} {K : Int32 → Prop} (C : Cx Z cX10_at 2 RX10) (hR : RM Z 0 0) (k : Nat) (p1 : Int32) (hk : isO k 10) (I : Mem) (hK : ∀ y, K (y) → RetI Z cX10_at .char y I) : WF Z K (m_X10_at k p1 I) I 0 [some (rf (zG Z) k), some (.int p1)] [] := by
  unfold m_X10_at
  refine w_iload_n (v := p1) C dX10_at_0 rfl (q := 1) rfl ?_
  refine w_if_lt (tgt := 21) (q := 4) C dX10_at_1 (by decide) rfl (fun _ => ?_) (fun _ => ?_)
  · refine w_bipush (v := (32)) C dX10_at_21 (by decide) (q := 23) rfl ?_
    exact w_iret (hK _) (by decide) dX10_at_23
  · refine w_iload_n (v := p1) C dX10_at_4 rfl (q := 5) rfl ?_
    refine w_aload_n (v := k) C dX10_at_5 rfl (q := 6) rfl ?_
    refine g_X10_1 C hk lk_X10_15 dX10_at_6 (q := 9) rfl ?_
    refine w_icmp_ge (tgt := 21) (q := 12) C dX10_at_9 (by decide) rfl (fun _ => ?_) (fun _ => ?_)
    · refine w_bipush (v := (32)) C dX10_at_21 (by decide) (q := 23) rfl ?_
      exact w_iret (hK _) (by decide) dX10_at_23
    · refine w_aload_n (v := k) C dX10_at_12 rfl (q := 13) rfl ?_
      refine g_X10_0 C hk lk_X10_9 dX10_at_13 (q := 16) rfl ?_
      refine w_iload_n (v := p1) C dX10_at_16 rfl (q := 17) rfl ?_
      refine w_cald C (st_X10_0 hk).2 dX10_at_17 (q := 18) rfl (fun _ => ?_)
      refine w_goto (tgt := 23) C dX10_at_18 (by decide) ?_
      refine w_gd (fun h1 => ?_)
      exact w_iret (hK _) (okc_n h1).1 dX10_at_23
theorem c_X10_at (l : Launch) (G : Gx) {k : Nat} (p1 : Int32) (hk : isO k 10) (I : Mem) {x : Int32} (h : m_X10_at k p1 I = some x) : Ct l G yX10_at cX10_at 2 (some (.char)) 0 0 [rf G k, .int p1] I (some (.int x)) I := Ct.of (by decide +kernel) rfl (Nat.le_of_ble_eq_true rfl) ret_i (fun Z hG hl C hR hret => by
  subst hG
  exact m_X10_at_ok (K := fun y => y = x) C hR k p1 hk I (fun y hy => by subst hy; exact hret) x h rfl)
def m_X10_put (k : Nat) (p1 : Int32) (I : Mem) : Option (Mem) :=
  if I k 1 < 300 then (gd (inb (I k 1) 300) (gd (okc p1) (bnd (ms I (k + 1) (I k 1).toNatClampNeg p1) fun I1 => bnd (ms I1 k 1 ((I1 k 1) + 1)) fun I2 => some I2))) else (bnd (ms I k 2 1) fun I3 => some I3)
set_option maxRecDepth 100000 in
set_option maxHeartbeats 4000000 in
theorem m_X10_put_ok {Z : Zx} {K : Mem → Prop} (C : Cx Z cX10_put 2 RX10) (hR : RM Z 0 0) (k : Nat) (p1 : Int32) (hk : isO k 10) (I : Mem) (hK : ∀ y, K (y) → RetV Z cX10_put y) : WF Z K (m_X10_put k p1 I) I 0 [some (rf (zG Z) k), some (.int p1)] [] := by
  unfold m_X10_put
  refine w_aload_n (v := k) C dX10_put_0 rfl (q := 1) rfl ?_
  refine g_X10_1 C hk lk_X10_15 dX10_put_1 (q := 4) rfl ?_
  refine w_aload_n (v := k) C dX10_put_4 rfl (q := 5) rfl ?_
  refine g_X10_0 C hk lk_X10_9 dX10_put_5 (q := 8) rfl ?_
  refine w_alen (t := 1) (v := 300) C (st_X10_0 hk).2 rfl (by decide) (by decide) dX10_put_8 (q := 9) rfl ?_
  refine w_icmp_lt (tgt := 18) (q := 12) C dX10_put_9 (by decide) rfl (fun _ => ?_) (fun _ => ?_)
  · refine w_aload_n (v := k) C dX10_put_18 rfl (q := 19) rfl ?_
    refine g_X10_0 C hk lk_X10_9 dX10_put_19 (q := 22) rfl ?_
    refine w_aload_n (v := k) C dX10_put_22 rfl (q := 23) rfl ?_
    refine g_X10_1 C hk lk_X10_15 dX10_put_23 (q := 26) rfl ?_
    refine w_iload_n (v := p1) C dX10_put_26 rfl (q := 27) rfl ?_
    refine w_cast C (st_X10_0 hk).2 dX10_put_27 (q := 28) rfl (fun _ I1 => ?_)
    refine w_aload_n (v := k) C dX10_put_28 rfl (q := 29) rfl ?_
    refine w_dup C dX10_put_29 rfl (q := 30) rfl ?_
    refine g_X10_1 C hk lk_X10_15 dX10_put_30 (q := 33) rfl ?_
    refine w_iconst (v := (1)) C dX10_put_33 (by decide) (q := 34) rfl ?_
    refine w_iadd C dX10_put_34 (q := 35) rfl ?_
    refine p_X10_1 C hk  lk_X10_15 dX10_put_35 (q := 38) rfl (fun I2 => ?_)
    exact w_vret (hK _) dX10_put_38
  · refine w_aload_n (v := k) C dX10_put_12 rfl (q := 13) rfl ?_
    refine w_iconst (v := (1)) C dX10_put_13 (by decide) (q := 14) rfl ?_
    refine p_X10_2 C hk (by decide) lk_X10_19 dX10_put_14 (q := 17) rfl (fun I3 => ?_)
    exact w_vret (hK _) dX10_put_17
theorem c_X10_put (l : Launch) (G : Gx) {k : Nat} (p1 : Int32) (hk : isO k 10) (I : Mem) {x : Mem} (h : m_X10_put k p1 I = some x) : Ct l G yX10_put cX10_put 2 none 0 0 [rf G k, .int p1] I (none) x := Ct.of (by decide +kernel) rfl (Nat.le_of_ble_eq_true rfl) ret_v (fun Z hG hl C hR hret => by
  subst hG
  exact m_X10_put_ok (K := fun y => y = x) C hR k p1 hk I (fun y hy => by subst hy; exact hret) x h rfl)
def m_X10_putAll_b2 (k : Nat) (p1 : Nat) (x2 : Int32) (I : Mem) : Option ((Int32 × Mem) ⊕ ((Mem))) :=
  if I p1 1 ≤ x2 then (some (.inr (I))) else (Option.bind (m_X10_at p1 x2 I) fun r1 => Option.bind (m_X10_put k r1 I) fun I2 => some (.inl (x2 + 1, I2)))
set_option maxRecDepth 100000 in
set_option maxHeartbeats 4000000 in
theorem m_X10_putAll_b2_ok {Z : Zx} {K : ((Int32 × Mem) ⊕ ((Mem))) → Prop} (C : Cx Z cX10_putAll 3 RX10) (hR : RM Z 1 21) (k : Nat) (p1 : Nat) (x2 : Int32) (hk : isO k 10) (hp1 : isO p1 10) (I : Mem) (hB : ∀ a, K (.inl a) → WM Z a.2 2 [some (rf (zG Z) k), some (rf (zG Z) p1), some (.int a.1)] []) (hX0 : ∀ b, K (.inr (b)) → WM Z b 25 [none, none, none] []) : WF Z K (m_X10_putAll_b2 k p1 x2 I) I 2 [some (rf (zG Z) k), some (rf (zG Z) p1), some (.int x2)] [] := by
  unfold m_X10_putAll_b2
  refine w_iload_n (v := x2) C dX10_putAll_2 rfl (q := 3) rfl ?_
  refine w_aload_n (v := p1) C dX10_putAll_3 rfl (q := 4) rfl ?_
  refine g_X10_1 C hp1 lk_X10_15 dX10_putAll_4 (q := 7) rfl ?_
  refine w_icmp_ge (tgt := 25) (q := 10) C dX10_putAll_7 (by decide) rfl (fun _ => ?_) (fun _ => ?_)
  · exact w_jmp (fun h => WM.less (L' := [none, none, none]) (hX0 _ h) trivial)
  · refine w_aload_n (v := k) C dX10_putAll_10 rfl (q := 11) rfl ?_
    refine w_aload_n (v := p1) C dX10_putAll_11 rfl (q := 12) rfl ?_
    refine w_iload_n (v := x2) C dX10_putAll_12 rfl (q := 13) rfl ?_
    refine w_callV (val := fun r1 => some (.int r1)) (mem := fun r1 => I) (st1 := fun r1 => [.int r1, rf (zG Z) k]) (As := [.int x2]) (st := [rf (zG Z) k]) (q := 16) C hR (fun x h => c_X10_at (zl Z) (zG Z) x2 hp1 I h) hp1 mv_X10_at lk_X10_23 rfl (by decide) (fun _ => rfl) (Nat.le_of_ble_eq_true rfl) rfl rfl dX10_putAll_13 rfl (fun r1 => ?_)
    refine w_callV (val := fun I2 => none) (mem := fun I2 => I2) (st1 := fun I2 => []) (As := [.int r1]) (st := []) (q := 19) C hR (fun x h => c_X10_put (zl Z) (zG Z) r1 hk I h) hk mv_X10_put lk_X10_27 rfl (by decide) (fun _ => rfl) (Nat.le_of_ble_eq_true rfl) rfl rfl dX10_putAll_16 rfl (fun I2 => ?_)
    refine w_iinc (v := x2 + 1) C dX10_putAll_19 rfl rfl (L' := [some (rf (zG Z) k), some (rf (zG Z) p1), some (.int (x2 + 1))]) rfl (q := 22) rfl ?_
    refine w_goto (tgt := 2) C dX10_putAll_22 (by decide) ?_
    exact w_jmp (fun h => WM.less (L' := [some (rf (zG Z) k), some (rf (zG Z) p1), some (.int (x2 + 1))]) (hB _ h) ⟨rfl, rfl, rfl, trivial⟩)
def m_X10_putAll (k : Nat) (p1 : Nat) (I : Mem) : Option (Mem) :=
  Option.bind (loopF (fun a => m_X10_putAll_b2 k p1 a.1 a.2) FU ((0 : Int32), I)) (fun b3 => some b3)
set_option maxRecDepth 100000 in
set_option maxHeartbeats 4000000 in
theorem m_X10_putAll_ok {Z : Zx} {K : Mem → Prop} (C : Cx Z cX10_putAll 3 RX10) (hR : RM Z 1 21) (k : Nat) (p1 : Nat) (hk : isO k 10) (hp1 : isO p1 10) (I : Mem) (hK : ∀ y, K (y) → RetV Z cX10_putAll y) : WF Z K (m_X10_putAll k p1 I) I 0 [some (rf (zG Z) k), some (rf (zG Z) p1), none] [] := by
  unfold m_X10_putAll
  refine w_iconst (v := (0)) C dX10_putAll_0 (by decide) (q := 1) rfl ?_
  refine w_istore_n C dX10_putAll_1 (Nat.le_of_ble_eq_true rfl) (L' := [some (rf (zG Z) k), some (rf (zG Z) p1), some (.int 0)]) rfl (q := 2) rfl ?_
  refine WF.less (L' := [some (rf (zG Z) k), some (rf (zG Z) p1), some (.int 0)]) (w_loopF (pc := 2) (a := ((0 : Int32), I)) (mem := fun a => a.2) (lo := fun a => [some (rf (zG Z) k), some (rf (zG Z) p1), some (.int a.1)]) (E := fun b3 => WM Z b3 25 [none, none, none] []) (fun a => m_X10_putAll_b2_ok C hR k p1 a.1 hk hp1 a.2 (fun _ h => h) (fun _ h => h)) ?_) ⟨rfl, rfl, rfl, trivial⟩
  intro b3
  refine w_hx ?_
  exact w_vret (hK _) dX10_putAll_25
theorem c_X10_putAll (l : Launch) (G : Gx) {k : Nat} {p1 : Nat} (hk : isO k 10) (hp1 : isO p1 10) (I : Mem) {x : Mem} (h : m_X10_putAll k p1 I = some x) : Ct l G yX10_putAll cX10_putAll 3 none 1 21 [rf G k, rf G p1] I (none) x := Ct.of (by decide +kernel) rfl (Nat.le_of_ble_eq_true rfl) ret_v (fun Z hG hl C hR hret => by
  subst hG
  exact m_X10_putAll_ok (K := fun y => y = x) C hR k p1 hk hp1 I (fun y hy => by subst hy; exact hret) x h rfl)
def m_X10_putReleased_j24 (k : Nat) (p1 : Int32) (I : Mem) : Option (Mem) :=
  Option.bind (m_X10_put k p1 I) fun I2 => some I2
set_option maxRecDepth 100000 in
set_option maxHeartbeats 4000000 in
theorem m_X10_putReleased_j24_ok {Z : Zx} {K : Mem → Prop} (C : Cx Z cX10_putReleased 2 RX10) (hR : RM Z 1 21) (k : Nat) (p1 : Int32) (hk : isO k 10) (I : Mem) (hK : ∀ y, K (y) → RetV Z cX10_putReleased y) : WF Z K (m_X10_putReleased_j24 k p1 I) I 24 [some (rf (zG Z) k), some (.int p1)] [] := by
  unfold m_X10_putReleased_j24
  refine w_aload_n (v := k) C dX10_putReleased_24 rfl (q := 25) rfl ?_
  refine w_iload_n (v := p1) C dX10_putReleased_25 rfl (q := 26) rfl ?_
  refine w_callV (val := fun I2 => none) (mem := fun I2 => I2) (st1 := fun I2 => []) (As := [.int p1]) (st := []) (q := 29) C hR (fun x h => c_X10_put (zl Z) (zG Z) p1 hk I h) hk mv_X10_put lk_X10_27 rfl (by decide) (fun _ => rfl) (Nat.le_of_ble_eq_true rfl) rfl rfl dX10_putReleased_26 rfl (fun I2 => ?_)
  exact w_vret (hK _) dX10_putReleased_29
def m_X10_putReleased_j18 (k : Nat) (p1 : Int32) (I : Mem) : Option (Mem) :=
  Option.bind (m_X10_put k ((63 : Int32)) I) fun I1 => m_X10_putReleased_j24 k p1 I1
set_option maxRecDepth 100000 in
set_option maxHeartbeats 4000000 in
theorem m_X10_putReleased_j18_ok {Z : Zx} {K : Mem → Prop} (C : Cx Z cX10_putReleased 2 RX10) (hR : RM Z 1 21) (k : Nat) (p1 : Int32) (hk : isO k 10) (I : Mem) (hK : ∀ y, K (y) → RetV Z cX10_putReleased y) : WF Z K (m_X10_putReleased_j18 k p1 I) I 18 [some (rf (zG Z) k), some (.int p1)] [] := by
  unfold m_X10_putReleased_j18
  refine w_aload_n (v := k) C dX10_putReleased_18 rfl (q := 19) rfl ?_
  refine w_bipush (v := (63)) C dX10_putReleased_19 (by decide) (q := 21) rfl ?_
  refine w_callV (val := fun I1 => none) (mem := fun I1 => I1) (st1 := fun I1 => []) (As := [.int 63]) (st := []) (q := 24) C hR (fun x h => c_X10_put (zl Z) (zG Z) ((63 : Int32)) hk I h) hk mv_X10_put lk_X10_27 rfl (by decide) (fun _ => rfl) (Nat.le_of_ble_eq_true rfl) rfl rfl dX10_putReleased_21 rfl (fun I1 => ?_)
  exact WF.less (L' := [some (rf (zG Z) k), some (.int p1)]) (m_X10_putReleased_j24_ok C hR k p1 hk I1 hK) ⟨rfl, rfl, trivial⟩
def m_X10_putReleased (k : Nat) (p1 : Int32) (I : Mem) : Option (Mem) :=
  if p1 = 43 then (m_X10_putReleased_j18 k p1 I) else (if p1 = 39 then (m_X10_putReleased_j18 k p1 I) else (if p1 = 63 then (m_X10_putReleased_j18 k p1 I) else (m_X10_putReleased_j24 k p1 I)))
set_option maxRecDepth 100000 in
set_option maxHeartbeats 4000000 in
theorem m_X10_putReleased_ok {Z : Zx} {K : Mem → Prop} (C : Cx Z cX10_putReleased 2 RX10) (hR : RM Z 1 21) (k : Nat) (p1 : Int32) (hk : isO k 10) (I : Mem) (hK : ∀ y, K (y) → RetV Z cX10_putReleased y) : WF Z K (m_X10_putReleased k p1 I) I 0 [some (rf (zG Z) k), some (.int p1)] [] := by
  unfold m_X10_putReleased
  refine w_iload_n (v := p1) C dX10_putReleased_0 rfl (q := 1) rfl ?_
  refine w_bipush (v := (43)) C dX10_putReleased_1 (by decide) (q := 3) rfl ?_
  refine w_icmp_eq (tgt := 18) (q := 6) C dX10_putReleased_3 (by decide) rfl (fun _ => ?_) (fun _ => ?_)
  · exact WF.less (L' := [some (rf (zG Z) k), some (.int p1)]) (m_X10_putReleased_j18_ok C hR k p1 hk I hK) ⟨rfl, rfl, trivial⟩
  · refine w_iload_n (v := p1) C dX10_putReleased_6 rfl (q := 7) rfl ?_
    refine w_bipush (v := (39)) C dX10_putReleased_7 (by decide) (q := 9) rfl ?_
    refine w_icmp_eq (tgt := 18) (q := 12) C dX10_putReleased_9 (by decide) rfl (fun _ => ?_) (fun _ => ?_)
    · exact WF.less (L' := [some (rf (zG Z) k), some (.int p1)]) (m_X10_putReleased_j18_ok C hR k p1 hk I hK) ⟨rfl, rfl, trivial⟩
    · refine w_iload_n (v := p1) C dX10_putReleased_12 rfl (q := 13) rfl ?_
      refine w_bipush (v := (63)) C dX10_putReleased_13 (by decide) (q := 15) rfl ?_
      refine w_icmp_ne (tgt := 24) (q := 18) C dX10_putReleased_15 (by decide) rfl (fun _ => ?_) (fun _ => ?_)
      · exact WF.less (L' := [some (rf (zG Z) k), some (.int p1)]) (m_X10_putReleased_j18_ok C hR k p1 hk I hK) ⟨rfl, rfl, trivial⟩
      · exact WF.less (L' := [some (rf (zG Z) k), some (.int p1)]) (m_X10_putReleased_j24_ok C hR k p1 hk I hK) ⟨rfl, rfl, trivial⟩
theorem c_X10_putReleased (l : Launch) (G : Gx) {k : Nat} (p1 : Int32) (hk : isO k 10) (I : Mem) {x : Mem} (h : m_X10_putReleased k p1 I = some x) : Ct l G yX10_putReleased cX10_putReleased 2 none 1 21 [rf G k, .int p1] I (none) x := Ct.of (by decide +kernel) rfl (Nat.le_of_ble_eq_true rfl) ret_v (fun Z hG hl C hR hret => by
  subst hG
  exact m_X10_putReleased_ok (K := fun y => y = x) C hR k p1 hk I (fun y hy => by subst hy; exact hret) x h rfl)
def m_X10_putNumber_j32 (k : Nat) (p1 : Int32) (x2 : Int32) (I : Mem) : Option ((Int32 × Mem) ⊕ ((Mem))) :=
  some (.inl (x2 / 10, I))
set_option maxRecDepth 100000 in
set_option maxHeartbeats 4000000 in
theorem m_X10_putNumber_j32_ok {Z : Zx} {K : ((Int32 × Mem) ⊕ ((Mem))) → Prop} (C : Cx Z cX10_putNumber 3 RX10) (hR : RM Z 1 21) (k : Nat) (p1 : Int32) (x2 : Int32) (hk : isO k 10) (I : Mem) (hB : ∀ a, K (.inl a) → WM Z a.2 4 [some (rf (zG Z) k), some (.int p1), some (.int a.1)] []) (hX0 : ∀ b, K (.inr (b)) → WM Z b 40 [none, none, none] []) : WF Z K (m_X10_putNumber_j32 k p1 x2 I) I 32 [some (rf (zG Z) k), some (.int p1), some (.int x2)] [] := by
  unfold m_X10_putNumber_j32
  refine w_iload_n (v := x2) C dX10_putNumber_32 rfl (q := 33) rfl ?_
  refine w_bipush (v := (10)) C dX10_putNumber_33 (by decide) (q := 35) rfl ?_
  refine w_idivL C (by decide) dX10_putNumber_35 (q := 36) rfl ?_
  refine w_istore_n C dX10_putNumber_36 (Nat.le_of_ble_eq_true rfl) (L' := [some (rf (zG Z) k), some (.int p1), some (.int (x2 / 10))]) rfl (q := 37) rfl ?_
  refine w_goto (tgt := 4) C dX10_putNumber_37 (by decide) ?_
  exact w_jmp (fun h => WM.less (L' := [some (rf (zG Z) k), some (.int p1), some (.int (x2 / 10))]) (hB _ h) ⟨rfl, rfl, rfl, trivial⟩)
def m_X10_putNumber_j18 (k : Nat) (p1 : Int32) (x2 : Int32) (I : Mem) : Option ((Int32 × Mem) ⊕ ((Mem))) :=
  gd (decide (¬ x2 = 0)) (Option.bind (m_X10_put k (((((48 : Int32)) + ((p1 / x2) - (p1 / x2) / 10 * 10)).toUInt32 % 65536).toInt32) I) fun I1 => m_X10_putNumber_j32 k p1 x2 I1)
set_option maxRecDepth 100000 in
set_option maxHeartbeats 4000000 in
theorem m_X10_putNumber_j18_ok {Z : Zx} {K : ((Int32 × Mem) ⊕ ((Mem))) → Prop} (C : Cx Z cX10_putNumber 3 RX10) (hR : RM Z 1 21) (k : Nat) (p1 : Int32) (x2 : Int32) (hk : isO k 10) (I : Mem) (hB : ∀ a, K (.inl a) → WM Z a.2 4 [some (rf (zG Z) k), some (.int p1), some (.int a.1)] []) (hX0 : ∀ b, K (.inr (b)) → WM Z b 40 [none, none, none] []) : WF Z K (m_X10_putNumber_j18 k p1 x2 I) I 18 [some (rf (zG Z) k), some (.int p1), some (.int x2)] [] := by
  unfold m_X10_putNumber_j18
  refine w_aload_n (v := k) C dX10_putNumber_18 rfl (q := 19) rfl ?_
  refine w_bipush (v := (48)) C dX10_putNumber_19 (by decide) (q := 21) rfl ?_
  refine w_iload_n (v := p1) C dX10_putNumber_21 rfl (q := 22) rfl ?_
  refine w_iload_n (v := x2) C dX10_putNumber_22 rfl (q := 23) rfl ?_
  refine w_idiv C dX10_putNumber_23 (q := 24) rfl ?_
  refine w_bipush (v := (10)) C dX10_putNumber_24 (by decide) (q := 26) rfl ?_
  refine w_iremL C (by decide) dX10_putNumber_26 (q := 27) rfl ?_
  refine w_iadd C dX10_putNumber_27 (q := 28) rfl ?_
  refine w_i2c C dX10_putNumber_28 (q := 29) rfl ?_
  refine w_callV (val := fun I1 => none) (mem := fun I1 => I1) (st1 := fun I1 => []) (As := [.int (((((48 : Int32)) + ((p1 / x2) - (p1 / x2) / 10 * 10)).toUInt32 % 65536).toInt32)]) (st := []) (q := 32) C hR (fun x h => c_X10_put (zl Z) (zG Z) (((((48 : Int32)) + ((p1 / x2) - (p1 / x2) / 10 * 10)).toUInt32 % 65536).toInt32) hk I h) hk mv_X10_put lk_X10_27 rfl (by decide) (fun _ => rfl) (Nat.le_of_ble_eq_true rfl) rfl rfl dX10_putNumber_29 rfl (fun I1 => ?_)
  exact WF.less (L' := [some (rf (zG Z) k), some (.int p1), some (.int x2)]) (m_X10_putNumber_j32_ok C hR k p1 x2 hk I1 hB hX0) ⟨rfl, rfl, rfl, trivial⟩
def m_X10_putNumber_b4 (k : Nat) (p1 : Int32) (x2 : Int32) (I : Mem) : Option ((Int32 × Mem) ⊕ ((Mem))) :=
  if x2 ≤ 0 then (some (.inr (I))) else (if x2 ≤ p1 then (m_X10_putNumber_j18 k p1 x2 I) else (if x2 = 1 then (m_X10_putNumber_j18 k p1 x2 I) else (m_X10_putNumber_j32 k p1 x2 I)))
set_option maxRecDepth 100000 in
set_option maxHeartbeats 4000000 in
theorem m_X10_putNumber_b4_ok {Z : Zx} {K : ((Int32 × Mem) ⊕ ((Mem))) → Prop} (C : Cx Z cX10_putNumber 3 RX10) (hR : RM Z 1 21) (k : Nat) (p1 : Int32) (x2 : Int32) (hk : isO k 10) (I : Mem) (hB : ∀ a, K (.inl a) → WM Z a.2 4 [some (rf (zG Z) k), some (.int p1), some (.int a.1)] []) (hX0 : ∀ b, K (.inr (b)) → WM Z b 40 [none, none, none] []) : WF Z K (m_X10_putNumber_b4 k p1 x2 I) I 4 [some (rf (zG Z) k), some (.int p1), some (.int x2)] [] := by
  unfold m_X10_putNumber_b4
  refine w_iload_n (v := x2) C dX10_putNumber_4 rfl (q := 5) rfl ?_
  refine w_if_le (tgt := 40) (q := 8) C dX10_putNumber_5 (by decide) rfl (fun _ => ?_) (fun _ => ?_)
  · exact w_jmp (fun h => WM.less (L' := [none, none, none]) (hX0 _ h) trivial)
  · refine w_iload_n (v := p1) C dX10_putNumber_8 rfl (q := 9) rfl ?_
    refine w_iload_n (v := x2) C dX10_putNumber_9 rfl (q := 10) rfl ?_
    refine w_icmp_ge (tgt := 18) (q := 13) C dX10_putNumber_10 (by decide) rfl (fun _ => ?_) (fun _ => ?_)
    · exact WF.less (L' := [some (rf (zG Z) k), some (.int p1), some (.int x2)]) (m_X10_putNumber_j18_ok C hR k p1 x2 hk I hB hX0) ⟨rfl, rfl, rfl, trivial⟩
    · refine w_iload_n (v := x2) C dX10_putNumber_13 rfl (q := 14) rfl ?_
      refine w_iconst (v := (1)) C dX10_putNumber_14 (by decide) (q := 15) rfl ?_
      refine w_icmp_ne (tgt := 32) (q := 18) C dX10_putNumber_15 (by decide) rfl (fun _ => ?_) (fun _ => ?_)
      · exact WF.less (L' := [some (rf (zG Z) k), some (.int p1), some (.int x2)]) (m_X10_putNumber_j18_ok C hR k p1 x2 hk I hB hX0) ⟨rfl, rfl, rfl, trivial⟩
      · exact WF.less (L' := [some (rf (zG Z) k), some (.int p1), some (.int x2)]) (m_X10_putNumber_j32_ok C hR k p1 x2 hk I hB hX0) ⟨rfl, rfl, rfl, trivial⟩
def m_X10_putNumber (k : Nat) (p1 : Int32) (I : Mem) : Option (Mem) :=
  Option.bind (loopF (fun a => m_X10_putNumber_b4 k p1 a.1 a.2) FU ((1000 : Int32), I)) (fun b2 => some b2)
set_option maxRecDepth 100000 in
set_option maxHeartbeats 4000000 in
theorem m_X10_putNumber_ok {Z : Zx} {K : Mem → Prop} (C : Cx Z cX10_putNumber 3 RX10) (hR : RM Z 1 21) (k : Nat) (p1 : Int32) (hk : isO k 10) (I : Mem) (hK : ∀ y, K (y) → RetV Z cX10_putNumber y) : WF Z K (m_X10_putNumber k p1 I) I 0 [some (rf (zG Z) k), some (.int p1), none] [] := by
  unfold m_X10_putNumber
  refine w_sipush (v := (1000)) C dX10_putNumber_0 (by decide) (q := 3) rfl ?_
  refine w_istore_n C dX10_putNumber_3 (Nat.le_of_ble_eq_true rfl) (L' := [some (rf (zG Z) k), some (.int p1), some (.int 1000)]) rfl (q := 4) rfl ?_
  refine WF.less (L' := [some (rf (zG Z) k), some (.int p1), some (.int 1000)]) (w_loopF (pc := 4) (a := ((1000 : Int32), I)) (mem := fun a => a.2) (lo := fun a => [some (rf (zG Z) k), some (.int p1), some (.int a.1)]) (E := fun b2 => WM Z b2 40 [none, none, none] []) (fun a => m_X10_putNumber_b4_ok C hR k p1 a.1 hk a.2 (fun _ h => h) (fun _ h => h)) ?_) ⟨rfl, rfl, rfl, trivial⟩
  intro b2
  refine w_hx ?_
  exact w_vret (hK _) dX10_putNumber_40
theorem c_X10_putNumber (l : Launch) (G : Gx) {k : Nat} (p1 : Int32) (hk : isO k 10) (I : Mem) {x : Mem} (h : m_X10_putNumber k p1 I = some x) : Ct l G yX10_putNumber cX10_putNumber 3 none 1 21 [rf G k, .int p1] I (none) x := Ct.of (by decide +kernel) rfl (Nat.le_of_ble_eq_true rfl) ret_v (fun Z hG hl C hR hret => by
  subst hG
  exact m_X10_putNumber_ok (K := fun y => y = x) C hR k p1 hk I (fun y hy => by subst hy; exact hret) x h rfl)
