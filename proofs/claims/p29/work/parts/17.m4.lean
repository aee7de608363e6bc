def m_X5_takeElement_j28 (k : Nat) (p1 : Nat) (p2 : Int32) (p3 : Int32) (p4 : Nat) (x5 : Int32) (I : Mem) : Option ((Int32 × Mem) ⊕ ((Mem))) :=
  Option.bind (m_X10_at p1 x5 I) fun r3 => Option.bind (m_X9_append p4 r3 I) fun I4 => some (.inl (x5 + 1, I4))
set_option maxRecDepth 100000 in
set_option maxHeartbeats 4000000 in
theorem m_X5_takeElement_j28_ok {Z : Zx} {K : ((Int32 × Mem) ⊕ ((Mem))) → Prop} (C : Cx Z cX5_takeElement 6 RX5) (hR : RM Z 1 22) (k : Nat) (p1 : Nat) (p2 : Int32) (p3 : Int32) (p4 : Nat) (x5 : Int32) (hk : isO k 5) (hp1 : isO p1 10) (hp4 : isO p4 9) (I : Mem) (hB : ∀ a, K (.inl a) → WM Z a.2 8 [some (rf (zG Z) k), some (rf (zG Z) p1), some (.int p2), some (.int p3), some (rf (zG Z) p4), some (.int a.1)] []) (hX0 : ∀ b, K (.inr (b)) → WM Z b 45 [some (rf (zG Z) k), none, some (.int p2), none, some (rf (zG Z) p4), none] []) : WF Z K (m_X5_takeElement_j28 k p1 p2 p3 p4 x5 I) I 28 [some (rf (zG Z) k), some (rf (zG Z) p1), some (.int p2), some (.int p3), some (rf (zG Z) p4), some (.int x5)] [] := by
  unfold m_X5_takeElement_j28
  refine w_aload (v := p4) C dX5_takeElement_28 rfl (q := 30) rfl ?_
  refine w_aload_n (v := p1) C dX5_takeElement_30 rfl (q := 31) rfl ?_
  refine w_iload (v := x5) C dX5_takeElement_31 rfl (q := 33) rfl ?_
  refine w_callV (val := fun r3 => some (.int r3)) (mem := fun r3 => I) (st1 := fun r3 => [.int r3, rf (zG Z) p4]) (As := [.int x5]) (st := [rf (zG Z) p4]) (q := 36) C hR (fun x h => c_X10_at (zl Z) (zG Z) x5 hp1 I h) hp1 mv_X10_at lk_X5_98 rfl (by decide) (fun _ => rfl) (Nat.le_of_ble_eq_true rfl) rfl rfl dX5_takeElement_33 rfl (fun r3 => ?_)
  refine w_callV (val := fun I4 => none) (mem := fun I4 => I4) (st1 := fun I4 => []) (As := [.int r3]) (st := []) (q := 39) C hR (fun x h => c_X9_append (zl Z) (zG Z) r3 hp4 I h) hp4 mv_X9_append lk_X5_102 rfl (by decide) (fun _ => rfl) (Nat.le_of_ble_eq_true rfl) rfl rfl dX5_takeElement_36 rfl (fun I4 => ?_)
  refine w_iinc (v := x5 + 1) C dX5_takeElement_39 rfl rfl (L' := [some (rf (zG Z) k), some (rf (zG Z) p1), some (.int p2), some (.int p3), some (rf (zG Z) p4), some (.int (x5 + 1))]) rfl (q := 42) rfl ?_
  refine w_goto (tgt := 8) C dX5_takeElement_42 (by decide) ?_
  exact w_jmp (fun h => WM.less (L' := [some (rf (zG Z) k), some (rf (zG Z) p1), some (.int p2), some (.int p3), some (rf (zG Z) p4), some (.int (x5 + 1))]) (hB _ h) ⟨rfl, rfl, rfl, rfl, rfl, rfl, trivial⟩)
def m_X5_takeElement_b8 (k : Nat) (p1 : Nat) (p2 : Int32) (p3 : Int32) (p4 : Nat) (x5 : Int32) (I : Mem) : Option ((Int32 × Mem) ⊕ ((Mem))) :=
  if p3 ≤ x5 then (some (.inr (I))) else (Option.bind (m_X10_at p1 x5 I) fun r2 => if r2 = 63 then (m_X5_takeElement_j28 k p1 p2 p3 p4 (x5 + 1) I) else (m_X5_takeElement_j28 k p1 p2 p3 p4 x5 I))
set_option maxRecDepth 100000 in
set_option maxHeartbeats 4000000 in
theorem m_X5_takeElement_b8_ok {Z : Zx} {K : ((Int32 × Mem) ⊕ ((Mem))) → Prop} (C : Cx Z cX5_takeElement 6 RX5) (hR : RM Z 1 22) (k : Nat) (p1 : Nat) (p2 : Int32) (p3 : Int32) (p4 : Nat) (x5 : Int32) (hk : isO k 5) (hp1 : isO p1 10) (hp4 : isO p4 9) (I : Mem) (hB : ∀ a, K (.inl a) → WM Z a.2 8 [some (rf (zG Z) k), some (rf (zG Z) p1), some (.int p2), some (.int p3), some (rf (zG Z) p4), some (.int a.1)] []) (hX0 : ∀ b, K (.inr (b)) → WM Z b 45 [some (rf (zG Z) k), none, some (.int p2), none, some (rf (zG Z) p4), none] []) : WF Z K (m_X5_takeElement_b8 k p1 p2 p3 p4 x5 I) I 8 [some (rf (zG Z) k), some (rf (zG Z) p1), some (.int p2), some (.int p3), some (rf (zG Z) p4), some (.int x5)] [] := by
  unfold m_X5_takeElement_b8
  refine w_iload (v := x5) C dX5_takeElement_8 rfl (q := 10) rfl ?_
  refine w_iload_n (v := p3) C dX5_takeElement_10 rfl (q := 11) rfl ?_
  refine w_icmp_ge (tgt := 45) (q := 14) C dX5_takeElement_11 (by decide) rfl (fun _ => ?_) (fun _ => ?_)
  · exact w_jmp (fun h => WM.less (L' := [some (rf (zG Z) k), none, some (.int p2), none, some (rf (zG Z) p4), none]) (hX0 _ h) ⟨rfl, rfl, rfl, trivial⟩)
  · refine w_aload_n (v := p1) C dX5_takeElement_14 rfl (q := 15) rfl ?_
    refine w_iload (v := x5) C dX5_takeElement_15 rfl (q := 17) rfl ?_
    refine w_callV (val := fun r2 => some (.int r2)) (mem := fun r2 => I) (st1 := fun r2 => [.int r2]) (As := [.int x5]) (st := []) (q := 20) C hR (fun x h => c_X10_at (zl Z) (zG Z) x5 hp1 I h) hp1 mv_X10_at lk_X5_98 rfl (by decide) (fun _ => rfl) (Nat.le_of_ble_eq_true rfl) rfl rfl dX5_takeElement_17 rfl (fun r2 => ?_)
    refine w_bipush (v := (63)) C dX5_takeElement_20 (by decide) (q := 22) rfl ?_
    refine w_icmp_ne (tgt := 28) (q := 25) C dX5_takeElement_22 (by decide) rfl (fun _ => ?_) (fun _ => ?_)
    · refine w_iinc (v := x5 + 1) C dX5_takeElement_25 rfl rfl (L' := [some (rf (zG Z) k), some (rf (zG Z) p1), some (.int p2), some (.int p3), some (rf (zG Z) p4), some (.int (x5 + 1))]) rfl (q := 28) rfl ?_
      exact WF.less (L' := [some (rf (zG Z) k), some (rf (zG Z) p1), some (.int p2), some (.int p3), some (rf (zG Z) p4), some (.int (x5 + 1))]) (m_X5_takeElement_j28_ok C hR k p1 p2 p3 p4 (x5 + 1) hk hp1 hp4 I hB hX0) ⟨rfl, rfl, rfl, rfl, rfl, rfl, trivial⟩
    · exact WF.less (L' := [some (rf (zG Z) k), some (rf (zG Z) p1), some (.int p2), some (.int p3), some (rf (zG Z) p4), some (.int x5)]) (m_X5_takeElement_j28_ok C hR k p1 p2 p3 p4 x5 hk hp1 hp4 I hB hX0) ⟨rfl, rfl, rfl, rfl, rfl, rfl, trivial⟩
def m_X5_takeElement (k : Nat) (p1 : Nat) (p2 : Int32) (p3 : Int32) (p4 : Nat) (I : Mem) : Option (Mem) :=
  Option.bind (m_X9_beginElement p4 I) fun I1 => Option.bind (loopF (fun a => m_X5_takeElement_b8 k p1 p2 p3 p4 a.1 a.2) FU (p2, I1)) (fun b5 => Option.bind (m_X9_elementCount p4 b5) fun r6 => Option.bind (m_X9_countIn p4 (r6 - 1) b5) fun r7 => if r7 ≤ 8 then (some b5) else (Option.bind (m_X1_add (k - 3) ((4 : Int32)) p2 b5) fun I8 => some I8))
set_option maxRecDepth 100000 in
set_option maxHeartbeats 4000000 in
theorem m_X5_takeElement_ok {Z : Zx} {K : Mem → Prop} (C : Cx Z cX5_takeElement 6 RX5) (hR : RM Z 1 22) (k : Nat) (p1 : Nat) (p2 : Int32) (p3 : Int32) (p4 : Nat) (hk : isO k 5) (hp1 : isO p1 10) (hp4 : isO p4 9) (I : Mem) (hK : ∀ y, K (y) → RetV Z cX5_takeElement y) : WF Z K (m_X5_takeElement k p1 p2 p3 p4 I) I 0 [some (rf (zG Z) k), some (rf (zG Z) p1), some (.int p2), some (.int p3), some (rf (zG Z) p4), none] [] := by
  unfold m_X5_takeElement
  refine w_aload (v := p4) C dX5_takeElement_0 rfl (q := 2) rfl ?_
  refine w_callV (val := fun I1 => none) (mem := fun I1 => I1) (st1 := fun I1 => []) (As := []) (st := []) (q := 5) C hR (fun x h => c_X9_beginElement (zl Z) (zG Z)  hp4 I h) hp4 mv_X9_beginElement lk_X5_95 rfl (by decide) (fun _ => rfl) (Nat.le_of_ble_eq_true rfl) rfl rfl dX5_takeElement_2 rfl (fun I1 => ?_)
  refine w_iload_n (v := p2) C dX5_takeElement_5 rfl (q := 6) rfl ?_
  refine w_istore C dX5_takeElement_6 (Nat.le_of_ble_eq_true rfl) (L' := [some (rf (zG Z) k), some (rf (zG Z) p1), some (.int p2), some (.int p3), some (rf (zG Z) p4), some (.int p2)]) rfl (q := 8) rfl ?_
  refine WF.less (L' := [some (rf (zG Z) k), some (rf (zG Z) p1), some (.int p2), some (.int p3), some (rf (zG Z) p4), some (.int p2)]) (w_loopF (pc := 8) (a := (p2, I1)) (mem := fun a => a.2) (lo := fun a => [some (rf (zG Z) k), some (rf (zG Z) p1), some (.int p2), some (.int p3), some (rf (zG Z) p4), some (.int a.1)]) (E := fun b5 => WM Z b5 45 [some (rf (zG Z) k), none, some (.int p2), none, some (rf (zG Z) p4), none] []) (fun a => m_X5_takeElement_b8_ok C hR k p1 p2 p3 p4 a.1 hk hp1 hp4 a.2 (fun _ h => h) (fun _ h => h)) ?_) ⟨rfl, rfl, rfl, rfl, rfl, rfl, trivial⟩
  intro b5
  refine w_hx ?_
  refine w_aload (v := p4) C dX5_takeElement_45 rfl (q := 47) rfl ?_
  refine w_aload (v := p4) C dX5_takeElement_47 rfl (q := 49) rfl ?_
  refine w_callV (val := fun r6 => some (.int r6)) (mem := fun r6 => b5) (st1 := fun r6 => [.int r6, rf (zG Z) p4]) (As := []) (st := [rf (zG Z) p4]) (q := 52) C hR (fun x h => c_X9_elementCount (zl Z) (zG Z)  hp4 b5 h) hp4 mv_X9_elementCount lk_X5_105 rfl (by decide) (fun _ => rfl) (Nat.le_of_ble_eq_true rfl) rfl rfl dX5_takeElement_49 rfl (fun r6 => ?_)
  refine w_iconst (v := (1)) C dX5_takeElement_52 (by decide) (q := 53) rfl ?_
  refine w_isub C dX5_takeElement_53 (q := 54) rfl ?_
  refine w_callV (val := fun r7 => some (.int r7)) (mem := fun r7 => b5) (st1 := fun r7 => [.int r7]) (As := [.int (r6 - 1)]) (st := []) (q := 57) C hR (fun x h => c_X9_countIn (zl Z) (zG Z) (r6 - 1) hp4 b5 h) hp4 mv_X9_countIn lk_X5_108 rfl (by decide) (fun _ => rfl) (Nat.le_of_ble_eq_true rfl) rfl rfl dX5_takeElement_54 rfl (fun r7 => ?_)
  refine w_bipush (v := (8)) C dX5_takeElement_57 (by decide) (q := 59) rfl ?_
  refine w_icmp_le (tgt := 71) (q := 62) C dX5_takeElement_59 (by decide) rfl (fun _ => ?_) (fun _ => ?_)
  · exact w_vret C (hK _) dX5_takeElement_71
  · refine w_aload_n (v := k) C dX5_takeElement_62 rfl (q := 63) rfl ?_
    refine g_X5_0 C hk lk_X5_9 dX5_takeElement_63 (q := 66) rfl ?_
    refine w_iconst (v := (4)) C dX5_takeElement_66 (by decide) (q := 67) rfl ?_
    refine w_iload_n (v := p2) C dX5_takeElement_67 rfl (q := 68) rfl ?_
    refine w_callV (val := fun I8 => none) (mem := fun I8 => I8) (st1 := fun I8 => []) (As := [.int 4, .int p2]) (st := []) (q := 71) C hR (fun x h => c_X1_add (zl Z) (zG Z) ((4 : Int32)) p2 (st_X5_0 hk).2 b5 h) (st_X5_0 hk).2 mv_X1_add lk_X5_58 rfl (by decide) (fun _ => rfl) (Nat.le_of_ble_eq_true rfl) rfl rfl dX5_takeElement_68 rfl (fun I8 => ?_)
    exact w_vret C (hK _) dX5_takeElement_71
theorem c_X5_takeElement (l : Launch) (G : Gx) {k : Nat} {p1 : Nat} (p2 : Int32) (p3 : Int32) {p4 : Nat} (hk : isO k 5) (hp1 : isO p1 10) (hp4 : isO p4 9) (I : Mem) {x : Mem} (h : m_X5_takeElement k p1 p2 p3 p4 I = some x) : Ct l G yX5_takeElement cX5_takeElement 6 none 1 22 [rf G k, rf G p1, .int p2, .int p3, rf G p4] I (none) x := Ct.of (by decide +kernel) rfl (Nat.le_of_ble_eq_true rfl) ret_v (fun Z hG hl C hR hret => by
  subst hG
  exact m_X5_takeElement_ok (K := fun y => y = x) C hR k p1 p2 p3 p4 hk hp1 hp4 I (fun y hy => by subst hy; exact hret) x h rfl)
def m_X9_begin (k : Nat) (p1 : Int32) (p2 : Int32) (I : Mem) : Option (Mem) :=
  bnd (ms I k 2 p1) fun I1 => gd (okc p2) (bnd (ms I1 k 3 p2) fun I2 => bnd (ms I2 k 4 0) fun I4 => some I4)
set_option maxRecDepth 100000 in
set_option maxHeartbeats 4000000 in
theorem m_X9_begin_ok {Z : Zx} {K : Mem → Prop} (C : Cx Z cX9_begin 3 RX9) (hR : RM Z 0 0) (k : Nat) (p1 : Int32) (p2 : Int32) (hk : isO k 9) (I : Mem) (hK : ∀ y, K (y) → RetV Z cX9_begin y) : WF Z K (m_X9_begin k p1 p2 I) I 0 [some (rf (zG Z) k), some (.int p1), some (.int p2)] [] := by
  unfold m_X9_begin
  refine w_aload_n (v := k) C dX9_begin_0 rfl (q := 1) rfl ?_
  refine w_iload_n (v := p1) C dX9_begin_1 rfl (q := 2) rfl ?_
  refine p_X9_2 C hk  lk_X9_23 dX9_begin_2 (q := 5) rfl (fun I1 => ?_)
  refine w_aload_n (v := k) C dX9_begin_5 rfl (q := 6) rfl ?_
  refine w_iload_n (v := p2) C dX9_begin_6 rfl (q := 7) rfl ?_
  refine w_gd (fun h3 => ?_)
  refine p_X9_3 C hk h3 lk_X9_19 dX9_begin_7 (q := 10) rfl (fun I2 => ?_)
  refine w_aload_n (v := k) C dX9_begin_10 rfl (q := 11) rfl ?_
  refine w_iconst (v := (0)) C dX9_begin_11 (by decide) (q := 12) rfl ?_
  refine p_X9_4 C hk  lk_X9_27 dX9_begin_12 (q := 15) rfl (fun I4 => ?_)
  exact w_vret C (hK _) dX9_begin_15
theorem c_X9_begin (l : Launch) (G : Gx) {k : Nat} (p1 : Int32) (p2 : Int32) (hk : isO k 9) (I : Mem) {x : Mem} (h : m_X9_begin k p1 p2 I = some x) : Ct l G yX9_begin cX9_begin 3 none 0 0 [rf G k, .int p1, .int p2] I (none) x := Ct.of (by decide +kernel) rfl (Nat.le_of_ble_eq_true rfl) ret_v (fun Z hG hl C hR hret => by
  subst hG
  exact m_X9_begin_ok (K := fun y => y = x) C hR k p1 p2 hk I (fun y hy => by subst hy; exact hret) x h rfl)
def m_X5_takeSegment_b44 (k : Nat) (p1 : Nat) (p3 : Int32) (p4 : Nat) (x5 : Int32) (x6 : Int32) (I : Mem) : Option ((Int32 × Int32 × Mem) ⊕ ((Int32 × Mem))) :=
  if 5 ≤ x6 then (some (.inr ((x5, I)))) else (if p3 ≤ x5 then (some (.inr ((x5, I)))) else (Option.bind (m_X5_partEnd p1 (x5 + 1) p3 I) fun r6 => Option.bind (m_X5_takeElement k p1 (x5 + 1) r6 p4 I) fun I7 => some (.inl (r6, x6 + 1, I7))))
set_option maxRecDepth 100000 in
set_option maxHeartbeats 4000000 in
theorem m_X5_takeSegment_b44_ok {Z : Zx} {K : ((Int32 × Int32 × Mem) ⊕ ((Int32 × Mem))) → Prop} (C : Cx Z cX5_takeSegment 8 RX5) (hR : RM Z 2 47) (k : Nat) (p1 : Nat) (p3 : Int32) (p4 : Nat) (x5 : Int32) (x6 : Int32) (hk : isO k 5) (hp1 : isO p1 10) (hp4 : isO p4 9) (I : Mem) (hB : ∀ a, K (.inl a) → WM Z a.2.2 44 [some (rf (zG Z) k), some (rf (zG Z) p1), none, some (.int p3), some (rf (zG Z) p4), some (.int a.1), some (.int a.2.1), none] []) (hX0 : ∀ b, K (.inr (b)) → WM Z b.2 88 [some (rf (zG Z) k), none, none, some (.int p3), none, some (.int b.1), none, none] []) : WF Z K (m_X5_takeSegment_b44 k p1 p3 p4 x5 x6 I) I 44 [some (rf (zG Z) k), some (rf (zG Z) p1), none, some (.int p3), some (rf (zG Z) p4), some (.int x5), some (.int x6), none] [] := by
  unfold m_X5_takeSegment_b44
  refine w_iload (v := x6) C dX5_takeSegment_44 rfl (q := 46) rfl ?_
  refine w_iconst (v := (5)) C dX5_takeSegment_46 (by decide) (q := 47) rfl ?_
  refine w_icmp_ge (tgt := 88) (q := 50) C dX5_takeSegment_47 (by decide) rfl (fun _ => ?_) (fun _ => ?_)
  · exact w_jmp (fun h => WM.less (L' := [some (rf (zG Z) k), none, none, some (.int p3), none, some (.int x5), none, none]) (hX0 _ h) ⟨rfl, rfl, rfl, trivial⟩)
  · refine w_iload (v := x5) C dX5_takeSegment_50 rfl (q := 52) rfl ?_
    refine w_iload_n (v := p3) C dX5_takeSegment_52 rfl (q := 53) rfl ?_
    refine w_icmp_ge (tgt := 88) (q := 56) C dX5_takeSegment_53 (by decide) rfl (fun _ => ?_) (fun _ => ?_)
    · exact w_jmp (fun h => WM.less (L' := [some (rf (zG Z) k), none, none, some (.int p3), none, some (.int x5), none, none]) (hX0 _ h) ⟨rfl, rfl, rfl, trivial⟩)
    · refine w_iload (v := x5) C dX5_takeSegment_56 rfl (q := 58) rfl ?_
      refine w_iconst (v := (1)) C dX5_takeSegment_58 (by decide) (q := 59) rfl ?_
      refine w_iadd C dX5_takeSegment_59 (q := 60) rfl ?_
      refine w_istore C dX5_takeSegment_60 (Nat.le_of_ble_eq_true rfl) (L' := [some (rf (zG Z) k), some (rf (zG Z) p1), none, some (.int p3), some (rf (zG Z) p4), some (.int x5), some (.int x6), some (.int (x5 + 1))]) rfl (q := 62) rfl ?_
      refine w_aload_n (v := p1) C dX5_takeSegment_62 rfl (q := 63) rfl ?_
      refine w_iload (v := x5 + 1) C dX5_takeSegment_63 rfl (q := 65) rfl ?_
      refine w_iload_n (v := p3) C dX5_takeSegment_65 rfl (q := 66) rfl ?_
      refine w_callS (val := fun r6 => some (.int r6)) (mem := fun r6 => I) (st1 := fun r6 => [.int r6]) (As := [rf (zG Z) p1, .int (x5 + 1), .int p3]) (st := []) (q := 69) C hR (fun x h => c_X5_partEnd (zl Z) (zG Z) (x5 + 1) p3 hp1 I h) mv_X5_partEnd lk_X5_70 rfl (by decide) (fun _ => rfl) (Nat.le_of_ble_eq_true rfl) rfl rfl dX5_takeSegment_66 rfl (fun r6 => ?_)
      refine w_istore C dX5_takeSegment_69 (Nat.le_of_ble_eq_true rfl) (L' := [some (rf (zG Z) k), some (rf (zG Z) p1), none, some (.int p3), some (rf (zG Z) p4), some (.int r6), some (.int x6), some (.int (x5 + 1))]) rfl (q := 71) rfl ?_
      refine w_aload_n (v := k) C dX5_takeSegment_71 rfl (q := 72) rfl ?_
      refine w_aload_n (v := p1) C dX5_takeSegment_72 rfl (q := 73) rfl ?_
      refine w_iload (v := x5 + 1) C dX5_takeSegment_73 rfl (q := 75) rfl ?_
      refine w_iload (v := r6) C dX5_takeSegment_75 rfl (q := 77) rfl ?_
      refine w_aload (v := p4) C dX5_takeSegment_77 rfl (q := 79) rfl ?_
      refine w_callV (val := fun I7 => none) (mem := fun I7 => I7) (st1 := fun I7 => []) (As := [rf (zG Z) p1, .int (x5 + 1), .int r6, rf (zG Z) p4]) (st := []) (q := 82) C hR (fun x h => c_X5_takeElement (zl Z) (zG Z) (x5 + 1) r6 hk hp1 hp4 I h) hk mv_X5_takeElement lk_X5_92 rfl (by decide) (fun _ => rfl) (Nat.le_of_ble_eq_true rfl) rfl rfl dX5_takeSegment_79 rfl (fun I7 => ?_)
      refine w_iinc (v := x6 + 1) C dX5_takeSegment_82 rfl rfl (L' := [some (rf (zG Z) k), some (rf (zG Z) p1), none, some (.int p3), some (rf (zG Z) p4), some (.int r6), some (.int (x6 + 1)), some (.int (x5 + 1))]) rfl (q := 85) rfl ?_
      refine w_goto (tgt := 44) C dX5_takeSegment_85 (by decide) ?_
      exact w_jmp (fun h => WM.less (L' := [some (rf (zG Z) k), some (rf (zG Z) p1), none, some (.int p3), some (rf (zG Z) p4), some (.int r6), some (.int (x6 + 1)), none]) (hB _ h) ⟨rfl, rfl, rfl, rfl, rfl, rfl, trivial⟩)
def m_X5_takeSegment_j41 (k : Nat) (p1 : Nat) (p3 : Int32) (p4 : Nat) (x5 : Int32) (I : Mem) : Option (Mem) :=
  Option.bind (loopF (fun a => m_X5_takeSegment_b44 k p1 p3 p4 a.1 a.2.1 a.2.2) FU (x5, (0 : Int32), I)) (fun b8 => if p3 ≤ b8.1 then (some b8.2) else (Option.bind (m_X1_add (k - 3) ((3 : Int32)) (b8.1 + 1) b8.2) fun I9 => some I9))
set_option maxRecDepth 100000 in
set_option maxHeartbeats 4000000 in
theorem m_X5_takeSegment_j41_ok {Z : Zx} {K : Mem → Prop} (C : Cx Z cX5_takeSegment 8 RX5) (hR : RM Z 2 47) (k : Nat) (p1 : Nat) (p3 : Int32) (p4 : Nat) (x5 : Int32) (hk : isO k 5) (hp1 : isO p1 10) (hp4 : isO p4 9) (I : Mem) (hK : ∀ y, K (y) → RetV Z cX5_takeSegment y) : WF Z K (m_X5_takeSegment_j41 k p1 p3 p4 x5 I) I 41 [some (rf (zG Z) k), some (rf (zG Z) p1), none, some (.int p3), some (rf (zG Z) p4), some (.int x5), none, none] [] := by
  unfold m_X5_takeSegment_j41
  refine w_iconst (v := (0)) C dX5_takeSegment_41 (by decide) (q := 42) rfl ?_
  refine w_istore C dX5_takeSegment_42 (Nat.le_of_ble_eq_true rfl) (L' := [some (rf (zG Z) k), some (rf (zG Z) p1), none, some (.int p3), some (rf (zG Z) p4), some (.int x5), some (.int 0), none]) rfl (q := 44) rfl ?_
  refine WF.less (L' := [some (rf (zG Z) k), some (rf (zG Z) p1), none, some (.int p3), some (rf (zG Z) p4), some (.int x5), some (.int 0), none]) (w_loopF (pc := 44) (a := (x5, (0 : Int32), I)) (mem := fun a => a.2.2) (lo := fun a => [some (rf (zG Z) k), some (rf (zG Z) p1), none, some (.int p3), some (rf (zG Z) p4), some (.int a.1), some (.int a.2.1), none]) (E := fun b8 => WM Z b8.2 88 [some (rf (zG Z) k), none, none, some (.int p3), none, some (.int b8.1), none, none] []) (fun a => m_X5_takeSegment_b44_ok C hR k p1 p3 p4 a.1 a.2.1 hk hp1 hp4 a.2.2 (fun _ h => h) (fun _ h => h)) ?_) ⟨rfl, rfl, rfl, rfl, rfl, rfl, trivial⟩
  intro b8
  refine w_hx ?_
  refine w_iload (v := b8.1) C dX5_takeSegment_88 rfl (q := 90) rfl ?_
  refine w_iload_n (v := p3) C dX5_takeSegment_90 rfl (q := 91) rfl ?_
  refine w_icmp_ge (tgt := 106) (q := 94) C dX5_takeSegment_91 (by decide) rfl (fun _ => ?_) (fun _ => ?_)
  · exact w_vret C (hK _) dX5_takeSegment_106
  · refine w_aload_n (v := k) C dX5_takeSegment_94 rfl (q := 95) rfl ?_
    refine g_X5_0 C hk lk_X5_9 dX5_takeSegment_95 (q := 98) rfl ?_
    refine w_iconst (v := (3)) C dX5_takeSegment_98 (by decide) (q := 99) rfl ?_
    refine w_iload (v := b8.1) C dX5_takeSegment_99 rfl (q := 101) rfl ?_
    refine w_iconst (v := (1)) C dX5_takeSegment_101 (by decide) (q := 102) rfl ?_
    refine w_iadd C dX5_takeSegment_102 (q := 103) rfl ?_
    refine w_callV (val := fun I9 => none) (mem := fun I9 => I9) (st1 := fun I9 => []) (As := [.int 3, .int (b8.1 + 1)]) (st := []) (q := 106) C hR (fun x h => c_X1_add (zl Z) (zG Z) ((3 : Int32)) (b8.1 + 1) (st_X5_0 hk).2 b8.2 h) (st_X5_0 hk).2 mv_X1_add lk_X5_58 rfl (by decide) (fun _ => rfl) (Nat.le_of_ble_eq_true rfl) rfl rfl dX5_takeSegment_103 rfl (fun I9 => ?_)
    exact w_vret C (hK _) dX5_takeSegment_106
def m_X5_takeSegment (k : Nat) (p1 : Nat) (p2 : Int32) (p3 : Int32) (p4 : Nat) (I : Mem) : Option (Mem) :=
  Option.bind (m_X5_partEnd p1 p2 p3 I) fun r1 => Option.bind (m_X5_tagBetween p1 p2 r1 I) fun r2 => Option.bind (m_X9_begin p4 p2 r2 I) fun I3 => Option.bind (m_X9_mark p4 I3) fun r4 => Option.bind (m_X11_isTag r4 I3) fun r5 => if r5 = 0 then (Option.bind (m_X1_add (k - 3) ((2 : Int32)) p2 I3) fun I10 => m_X5_takeSegment_j41 k p1 p3 p4 r1 I10) else (m_X5_takeSegment_j41 k p1 p3 p4 r1 I3)
set_option maxRecDepth 100000 in
set_option maxHeartbeats 4000000 in
theorem m_X5_takeSegment_ok {Z : Zx} {K : Mem → Prop} (C : Cx Z cX5_takeSegment 8 RX5) (hR : RM Z 2 47) (k : Nat) (p1 : Nat) (p2 : Int32) (p3 : Int32) (p4 : Nat) (hk : isO k 5) (hp1 : isO p1 10) (hp4 : isO p4 9) (I : Mem) (hK : ∀ y, K (y) → RetV Z cX5_takeSegment y) : WF Z K (m_X5_takeSegment k p1 p2 p3 p4 I) I 0 [some (rf (zG Z) k), some (rf (zG Z) p1), some (.int p2), some (.int p3), some (rf (zG Z) p4), none, none, none] [] := by
  unfold m_X5_takeSegment
  refine w_aload_n (v := p1) C dX5_takeSegment_0 rfl (q := 1) rfl ?_
  refine w_iload_n (v := p2) C dX5_takeSegment_1 rfl (q := 2) rfl ?_
  refine w_iload_n (v := p3) C dX5_takeSegment_2 rfl (q := 3) rfl ?_
  refine w_callS (val := fun r1 => some (.int r1)) (mem := fun r1 => I) (st1 := fun r1 => [.int r1]) (As := [rf (zG Z) p1, .int p2, .int p3]) (st := []) (q := 6) C hR (fun x h => c_X5_partEnd (zl Z) (zG Z) p2 p3 hp1 I h) mv_X5_partEnd lk_X5_70 rfl (by decide) (fun _ => rfl) (Nat.le_of_ble_eq_true rfl) rfl rfl dX5_takeSegment_3 rfl (fun r1 => ?_)
  refine w_istore C dX5_takeSegment_6 (Nat.le_of_ble_eq_true rfl) (L' := [some (rf (zG Z) k), some (rf (zG Z) p1), some (.int p2), some (.int p3), some (rf (zG Z) p4), some (.int r1), none, none]) rfl (q := 8) rfl ?_
  refine w_aload (v := p4) C dX5_takeSegment_8 rfl (q := 10) rfl ?_
  refine w_iload_n (v := p2) C dX5_takeSegment_10 rfl (q := 11) rfl ?_
  refine w_aload_n (v := p1) C dX5_takeSegment_11 rfl (q := 12) rfl ?_
  refine w_iload_n (v := p2) C dX5_takeSegment_12 rfl (q := 13) rfl ?_
  refine w_iload (v := r1) C dX5_takeSegment_13 rfl (q := 15) rfl ?_
  refine w_callS (val := fun r2 => some (.int r2)) (mem := fun r2 => I) (st1 := fun r2 => [.int r2, .int p2, rf (zG Z) p4]) (As := [rf (zG Z) p1, .int p2, .int r1]) (st := [.int p2, rf (zG Z) p4]) (q := 18) C hR (fun x h => c_X5_tagBetween (zl Z) (zG Z) p2 r1 hp1 I h) mv_X5_tagBetween lk_X5_74 rfl (by decide) (fun _ => rfl) (Nat.le_of_ble_eq_true rfl) rfl rfl dX5_takeSegment_15 rfl (fun r2 => ?_)
  refine w_callV (val := fun I3 => none) (mem := fun I3 => I3) (st1 := fun I3 => []) (As := [.int p2, .int r2]) (st := []) (q := 21) C hR (fun x h => c_X9_begin (zl Z) (zG Z) p2 r2 hp4 I h) hp4 mv_X9_begin lk_X5_78 rfl (by decide) (fun _ => rfl) (Nat.le_of_ble_eq_true rfl) rfl rfl dX5_takeSegment_18 rfl (fun I3 => ?_)
  refine w_aload (v := p4) C dX5_takeSegment_21 rfl (q := 23) rfl ?_
  refine w_callV (val := fun r4 => some (.int r4)) (mem := fun r4 => I3) (st1 := fun r4 => [.int r4]) (As := []) (st := []) (q := 26) C hR (fun x h => c_X9_mark (zl Z) (zG Z)  hp4 I3 h) hp4 mv_X9_mark lk_X5_84 rfl (by decide) (fun _ => rfl) (Nat.le_of_ble_eq_true rfl) rfl rfl dX5_takeSegment_23 rfl (fun r4 => ?_)
  refine w_callSN (val := fun r5 => some (.int r5)) (mem := fun r5 => I3) (st1 := fun r5 => [.int r5]) (As := [.int r4]) (st := []) (q := 29) C hR (fun x h => c_X11_isTag (zl Z) (zG Z) r4  I3 h) mv_X11_isTag lk_X5_88 rfl (by decide) (fun _ => rfl) (Nat.le_of_ble_eq_true rfl) rfl rfl dX5_takeSegment_26 rfl (fun r5 => ?_)
  refine w_if_ne (tgt := 41) (q := 32) C dX5_takeSegment_29 (by decide) rfl (fun _ => ?_) (fun _ => ?_)
  · refine w_aload_n (v := k) C dX5_takeSegment_32 rfl (q := 33) rfl ?_
    refine g_X5_0 C hk lk_X5_9 dX5_takeSegment_33 (q := 36) rfl ?_
    refine w_iconst (v := (2)) C dX5_takeSegment_36 (by decide) (q := 37) rfl ?_
    refine w_iload_n (v := p2) C dX5_takeSegment_37 rfl (q := 38) rfl ?_
    refine w_callV (val := fun I10 => none) (mem := fun I10 => I10) (st1 := fun I10 => []) (As := [.int 2, .int p2]) (st := []) (q := 41) C hR (fun x h => c_X1_add (zl Z) (zG Z) ((2 : Int32)) p2 (st_X5_0 hk).2 I3 h) (st_X5_0 hk).2 mv_X1_add lk_X5_58 rfl (by decide) (fun _ => rfl) (Nat.le_of_ble_eq_true rfl) rfl rfl dX5_takeSegment_38 rfl (fun I10 => ?_)
    exact WF.less (L' := [some (rf (zG Z) k), some (rf (zG Z) p1), none, some (.int p3), some (rf (zG Z) p4), some (.int r1), none, none]) (m_X5_takeSegment_j41_ok C hR k p1 p3 p4 r1 hk hp1 hp4 I10 hK) ⟨rfl, rfl, rfl, rfl, rfl, trivial⟩
  · exact WF.less (L' := [some (rf (zG Z) k), some (rf (zG Z) p1), none, some (.int p3), some (rf (zG Z) p4), some (.int r1), none, none]) (m_X5_takeSegment_j41_ok C hR k p1 p3 p4 r1 hk hp1 hp4 I3 hK) ⟨rfl, rfl, rfl, rfl, rfl, trivial⟩
theorem c_X5_takeSegment (l : Launch) (G : Gx) {k : Nat} {p1 : Nat} (p2 : Int32) (p3 : Int32) {p4 : Nat} (hk : isO k 5) (hp1 : isO p1 10) (hp4 : isO p4 9) (I : Mem) {x : Mem} (h : m_X5_takeSegment k p1 p2 p3 p4 I = some x) : Ct l G yX5_takeSegment cX5_takeSegment 8 none 2 47 [rf G k, rf G p1, .int p2, .int p3, rf G p4] I (none) x := Ct.of (by decide +kernel) rfl (Nat.le_of_ble_eq_true rfl) ret_v (fun Z hG hl C hR hret => by
  subst hG
  exact m_X5_takeSegment_ok (K := fun y => y = x) C hR k p1 p2 p3 p4 hk hp1 hp4 I (fun y hy => by subst hy; exact hret) x h rfl)
def m_X5_split_b9 (k : Nat) (p1 : Nat) (p2 : Nat) (x3 : Int32) (x4 : Int32) (I : Mem) : Option ((Int32 × Int32 × Mem) ⊕ ((Int32 × Mem) ⊕ (Int32 × Mem))) :=
  if 20 ≤ x4 then (some (.inr (.inl (x3, I)))) else (Option.bind (m_X10_count p1 I) fun r2 => if r2 ≤ x3 then (some (.inr (.inl (x3, I)))) else (Option.bind (m_X5_segmentEnd p1 x3 I) fun r3 => Option.bind (m_X10_count p1 I) fun r4 => if r3 < r4 then (Option.bind (m_X4_append p2 I) fun r5 => gd (iO r5.1 9) (Option.bind (m_X5_takeSegment k p1 x3 r3 r5.1 r5.2) fun I7 => some (.inl (r3 + 1, x4 + 1, I7)))) else (some (.inr (.inr (x3, I))))))
set_option maxRecDepth 100000 in
set_option maxHeartbeats 4000000 in
theorem m_X5_split_b9_ok {Z : Zx} {K : ((Int32 × Int32 × Mem) ⊕ ((Int32 × Mem) ⊕ (Int32 × Mem))) → Prop} (C : Cx Z cX5_split 6 RX5) (hR : RM Z 3 74) (k : Nat) (p1 : Nat) (p2 : Nat) (x3 : Int32) (x4 : Int32) (hk : isO k 5) (hp1 : isO p1 10) (hp2 : isO p2 4) (I : Mem) (hB : ∀ a, K (.inl a) → WM Z a.2.2 9 [some (rf (zG Z) k), some (rf (zG Z) p1), some (rf (zG Z) p2), some (.int a.1), some (.int a.2.1), none] []) (hX0 : ∀ b, K (.inr (.inl b)) → WM Z b.2 73 [some (rf (zG Z) k), some (rf (zG Z) p1), none, some (.int b.1), none, none] []) (hX1 : ∀ b, K (.inr (.inr (b))) → WM Z b.2 40 [some (rf (zG Z) k), none, none, some (.int b.1), none, none] []) : WF Z K (m_X5_split_b9 k p1 p2 x3 x4 I) I 9 [some (rf (zG Z) k), some (rf (zG Z) p1), some (rf (zG Z) p2), some (.int x3), some (.int x4), none] [] := by
  unfold m_X5_split_b9
  refine w_iload (v := x4) C dX5_split_9 rfl (q := 11) rfl ?_
  refine w_bipush (v := (20)) C dX5_split_11 (by decide) (q := 13) rfl ?_
  refine w_icmp_ge (tgt := 73) (q := 16) C dX5_split_13 (by decide) rfl (fun _ => ?_) (fun _ => ?_)
  · exact w_jmp (fun h => WM.less (L' := [some (rf (zG Z) k), some (rf (zG Z) p1), none, some (.int x3), none, none]) (hX0 _ h) ⟨rfl, rfl, rfl, trivial⟩)
  · refine w_iload_n (v := x3) C dX5_split_16 rfl (q := 17) rfl ?_
    refine w_aload_n (v := p1) C dX5_split_17 rfl (q := 18) rfl ?_
    refine w_callV (val := fun r2 => some (.int r2)) (mem := fun r2 => I) (st1 := fun r2 => [.int r2, .int x3]) (As := []) (st := [.int x3]) (q := 21) C hR (fun x h => c_X10_count (zl Z) (zG Z)  hp1 I h) hp1 mv_X10_count lk_X5_51 rfl (by decide) (fun _ => rfl) (Nat.le_of_ble_eq_true rfl) rfl rfl dX5_split_18 rfl (fun r2 => ?_)
    refine w_icmp_ge (tgt := 73) (q := 24) C dX5_split_21 (by decide) rfl (fun _ => ?_) (fun _ => ?_)
    · exact w_jmp (fun h => WM.less (L' := [some (rf (zG Z) k), some (rf (zG Z) p1), none, some (.int x3), none, none]) (hX0 _ h) ⟨rfl, rfl, rfl, trivial⟩)
    · refine w_aload_n (v := p1) C dX5_split_24 rfl (q := 25) rfl ?_
      refine w_iload_n (v := x3) C dX5_split_25 rfl (q := 26) rfl ?_
      refine w_callS (val := fun r3 => some (.int r3)) (mem := fun r3 => I) (st1 := fun r3 => [.int r3]) (As := [rf (zG Z) p1, .int x3]) (st := []) (q := 29) C hR (fun x h => c_X5_segmentEnd (zl Z) (zG Z) x3 hp1 I h) mv_X5_segmentEnd lk_X5_54 rfl (by decide) (fun _ => rfl) (Nat.le_of_ble_eq_true rfl) rfl rfl dX5_split_26 rfl (fun r3 => ?_)
      refine w_istore C dX5_split_29 (Nat.le_of_ble_eq_true rfl) (L' := [some (rf (zG Z) k), some (rf (zG Z) p1), some (rf (zG Z) p2), some (.int x3), some (.int x4), some (.int r3)]) rfl (q := 31) rfl ?_
      refine w_iload (v := r3) C dX5_split_31 rfl (q := 33) rfl ?_
      refine w_aload_n (v := p1) C dX5_split_33 rfl (q := 34) rfl ?_
      refine w_callV (val := fun r4 => some (.int r4)) (mem := fun r4 => I) (st1 := fun r4 => [.int r4, .int r3]) (As := []) (st := [.int r3]) (q := 37) C hR (fun x h => c_X10_count (zl Z) (zG Z)  hp1 I h) hp1 mv_X10_count lk_X5_51 rfl (by decide) (fun _ => rfl) (Nat.le_of_ble_eq_true rfl) rfl rfl dX5_split_34 rfl (fun r4 => ?_)
      refine w_icmp_lt (tgt := 50) (q := 40) C dX5_split_37 (by decide) rfl (fun _ => ?_) (fun _ => ?_)
      · refine w_aload_n (v := k) C dX5_split_50 rfl (q := 51) rfl ?_
        refine w_aload_n (v := p1) C dX5_split_51 rfl (q := 52) rfl ?_
        refine w_iload_n (v := x3) C dX5_split_52 rfl (q := 53) rfl ?_
        refine w_iload (v := r3) C dX5_split_53 rfl (q := 55) rfl ?_
        refine w_aload_n (v := p2) C dX5_split_55 rfl (q := 56) rfl ?_
        refine w_callV (val := fun r5 => some (rf (zG Z) r5.1)) (mem := fun r5 => r5.2) (st1 := fun r5 => [rf (zG Z) r5.1, .int r3, .int x3, rf (zG Z) p1, rf (zG Z) k]) (As := []) (st := [.int r3, .int x3, rf (zG Z) p1, rf (zG Z) k]) (q := 59) C hR (fun x h => c_X4_append (zl Z) (zG Z)  hp2 I h) hp2 mv_X4_append lk_X5_62 rfl (by decide) (fun _ => rfl) (Nat.le_of_ble_eq_true rfl) rfl rfl dX5_split_56 rfl (fun r5 => ?_)
        refine w_gd (fun h6 => ?_)
        refine w_callV (val := fun I7 => none) (mem := fun I7 => I7) (st1 := fun I7 => []) (As := [rf (zG Z) p1, .int x3, .int r3, rf (zG Z) r5.1]) (st := []) (q := 62) C hR (fun x h => c_X5_takeSegment (zl Z) (zG Z) x3 r3 hk hp1 (iO_of h6) r5.2 h) hk mv_X5_takeSegment lk_X5_66 rfl (by decide) (fun _ => rfl) (Nat.le_of_ble_eq_true rfl) rfl rfl dX5_split_59 rfl (fun I7 => ?_)
        refine w_iload (v := r3) C dX5_split_62 rfl (q := 64) rfl ?_
        refine w_iconst (v := (1)) C dX5_split_64 (by decide) (q := 65) rfl ?_
        refine w_iadd C dX5_split_65 (q := 66) rfl ?_
        refine w_istore_n C dX5_split_66 (Nat.le_of_ble_eq_true rfl) (L' := [some (rf (zG Z) k), some (rf (zG Z) p1), some (rf (zG Z) p2), some (.int (r3 + 1)), some (.int x4), some (.int r3)]) rfl (q := 67) rfl ?_
        refine w_iinc (v := x4 + 1) C dX5_split_67 rfl rfl (L' := [some (rf (zG Z) k), some (rf (zG Z) p1), some (rf (zG Z) p2), some (.int (r3 + 1)), some (.int (x4 + 1)), some (.int r3)]) rfl (q := 70) rfl ?_
        refine w_goto (tgt := 9) C dX5_split_70 (by decide) ?_
        exact w_jmp (fun h => WM.less (L' := [some (rf (zG Z) k), some (rf (zG Z) p1), some (rf (zG Z) p2), some (.int (r3 + 1)), some (.int (x4 + 1)), none]) (hB _ h) ⟨rfl, rfl, rfl, rfl, rfl, trivial⟩)
      · exact w_jmp (fun h => WM.less (L' := [some (rf (zG Z) k), none, none, some (.int x3), none, none]) (hX1 _ h) ⟨rfl, rfl, trivial⟩)
def m_X5_split (k : Nat) (p1 : Nat) (p2 : Nat) (I : Mem) : Option (Mem) :=
  Option.bind (m_X4_wipe p2 I) fun I1 => Option.bind (loopF (fun a => m_X5_split_b9 k p1 p2 a.1 a.2.1 a.2.2) FU ((0 : Int32), (0 : Int32), I1)) (sm (fun b9 => Option.bind (m_X10_count p1 b9.2) fun r10 => if r10 ≤ b9.1 then (some b9.2) else (Option.bind (m_X1_add (k - 3) ((5 : Int32)) b9.1 b9.2) fun I11 => some I11)) (fun b12 => Option.bind (m_X1_add (k - 3) ((1 : Int32)) b12.1 b12.2) fun I13 => some I13))
set_option maxRecDepth 100000 in
set_option maxHeartbeats 4000000 in
theorem m_X5_split_ok {Z : Zx} {K : Mem → Prop} (C : Cx Z cX5_split 6 RX5) (hR : RM Z 3 74) (k : Nat) (p1 : Nat) (p2 : Nat) (hk : isO k 5) (hp1 : isO p1 10) (hp2 : isO p2 4) (I : Mem) (hK : ∀ y, K (y) → RetV Z cX5_split y) : WF Z K (m_X5_split k p1 p2 I) I 0 [some (rf (zG Z) k), some (rf (zG Z) p1), some (rf (zG Z) p2), none, none, none] [] := by
  unfold m_X5_split
  refine w_aload_n (v := p2) C dX5_split_0 rfl (q := 1) rfl ?_
  refine w_callV (val := fun I1 => none) (mem := fun I1 => I1) (st1 := fun I1 => []) (As := []) (st := []) (q := 4) C hR (fun x h => c_X4_wipe (zl Z) (zG Z)  hp2 I h) hp2 mv_X4_wipe lk_X5_48 rfl (by decide) (fun _ => rfl) (Nat.le_of_ble_eq_true rfl) rfl rfl dX5_split_1 rfl (fun I1 => ?_)
  refine w_iconst (v := (0)) C dX5_split_4 (by decide) (q := 5) rfl ?_
  refine w_istore_n C dX5_split_5 (Nat.le_of_ble_eq_true rfl) (L' := [some (rf (zG Z) k), some (rf (zG Z) p1), some (rf (zG Z) p2), some (.int 0), none, none]) rfl (q := 6) rfl ?_
  refine w_iconst (v := (0)) C dX5_split_6 (by decide) (q := 7) rfl ?_
  refine w_istore C dX5_split_7 (Nat.le_of_ble_eq_true rfl) (L' := [some (rf (zG Z) k), some (rf (zG Z) p1), some (rf (zG Z) p2), some (.int 0), some (.int 0), none]) rfl (q := 9) rfl ?_
  refine WF.less (L' := [some (rf (zG Z) k), some (rf (zG Z) p1), some (rf (zG Z) p2), some (.int 0), some (.int 0), none]) (w_loopF (pc := 9) (a := ((0 : Int32), (0 : Int32), I1)) (mem := fun a => a.2.2) (lo := fun a => [some (rf (zG Z) k), some (rf (zG Z) p1), some (rf (zG Z) p2), some (.int a.1), some (.int a.2.1), none]) (E := smP (fun b9 => WM Z b9.2 73 [some (rf (zG Z) k), some (rf (zG Z) p1), none, some (.int b9.1), none, none] []) (fun b12 => WM Z b12.2 40 [some (rf (zG Z) k), none, none, some (.int b12.1), none, none] [])) (fun a => m_X5_split_b9_ok C hR k p1 p2 a.1 a.2.1 hk hp1 hp2 a.2.2 (fun _ h => h) (fun _ h => h) (fun _ h => h)) ?_) ⟨rfl, rfl, rfl, rfl, rfl, trivial⟩
  refine w_sm ?_ ?_
  · intro b9
    refine w_hx ?_
    refine w_iload_n (v := b9.1) C dX5_split_73 rfl (q := 74) rfl ?_
    refine w_aload_n (v := p1) C dX5_split_74 rfl (q := 75) rfl ?_
    refine w_callV (val := fun r10 => some (.int r10)) (mem := fun r10 => b9.2) (st1 := fun r10 => [.int r10, .int b9.1]) (As := []) (st := [.int b9.1]) (q := 78) C hR (fun x h => c_X10_count (zl Z) (zG Z)  hp1 b9.2 h) hp1 mv_X10_count lk_X5_51 rfl (by decide) (fun _ => rfl) (Nat.le_of_ble_eq_true rfl) rfl rfl dX5_split_75 rfl (fun r10 => ?_)
    refine w_icmp_ge (tgt := 90) (q := 81) C dX5_split_78 (by decide) rfl (fun _ => ?_) (fun _ => ?_)
    · exact w_vret C (hK _) dX5_split_90
    · refine w_aload_n (v := k) C dX5_split_81 rfl (q := 82) rfl ?_
      refine g_X5_0 C hk lk_X5_9 dX5_split_82 (q := 85) rfl ?_
      refine w_iconst (v := (5)) C dX5_split_85 (by decide) (q := 86) rfl ?_
      refine w_iload_n (v := b9.1) C dX5_split_86 rfl (q := 87) rfl ?_
      refine w_callV (val := fun I11 => none) (mem := fun I11 => I11) (st1 := fun I11 => []) (As := [.int 5, .int b9.1]) (st := []) (q := 90) C hR (fun x h => c_X1_add (zl Z) (zG Z) ((5 : Int32)) b9.1 (st_X5_0 hk).2 b9.2 h) (st_X5_0 hk).2 mv_X1_add lk_X5_58 rfl (by decide) (fun _ => rfl) (Nat.le_of_ble_eq_true rfl) rfl rfl dX5_split_87 rfl (fun I11 => ?_)
      exact w_vret C (hK _) dX5_split_90
  · intro b12
    refine w_hx ?_
    refine w_aload_n (v := k) C dX5_split_40 rfl (q := 41) rfl ?_
    refine g_X5_0 C hk lk_X5_9 dX5_split_41 (q := 44) rfl ?_
    refine w_iconst (v := (1)) C dX5_split_44 (by decide) (q := 45) rfl ?_
    refine w_iload_n (v := b12.1) C dX5_split_45 rfl (q := 46) rfl ?_
    refine w_callV (val := fun I13 => none) (mem := fun I13 => I13) (st1 := fun I13 => []) (As := [.int 1, .int b12.1]) (st := []) (q := 49) C hR (fun x h => c_X1_add (zl Z) (zG Z) ((1 : Int32)) b12.1 (st_X5_0 hk).2 b12.2 h) (st_X5_0 hk).2 mv_X1_add lk_X5_58 rfl (by decide) (fun _ => rfl) (Nat.le_of_ble_eq_true rfl) rfl rfl dX5_split_46 rfl (fun I13 => ?_)
    exact w_vret C (hK _) dX5_split_49
theorem c_X5_split (l : Launch) (G : Gx) {k : Nat} {p1 : Nat} {p2 : Nat} (hk : isO k 5) (hp1 : isO p1 10) (hp2 : isO p2 4) (I : Mem) {x : Mem} (h : m_X5_split k p1 p2 I = some x) : Ct l G yX5_split cX5_split 6 none 3 74 [rf G k, rf G p1, rf G p2] I (none) x := Ct.of (by decide +kernel) rfl (Nat.le_of_ble_eq_true rfl) ret_v (fun Z hG hl C hR hret => by
  subst hG
  exact m_X5_split_ok (K := fun y => y = x) C hR k p1 p2 hk hp1 hp2 I (fun y hy => by subst hy; exact hret) x h rfl)
def m_X5_accepts_j61 (k : Nat) (I : Mem) : Option (Int32 × Mem) :=
  Option.bind (m_X1_count (k - 3) I) fun r6 => if r6 = 0 then (some ((1, I))) else (some ((0, I)))
set_option maxRecDepth 100000 in
set_option maxHeartbeats 4000000 in
theorem m_X5_accepts_j61_ok {Z : Zx} {K : (Int32 × Mem) → Prop} (C : Cx Z cX5_accepts 5 RX5) (hR : RM Z 5 125) (k : Nat) (hk : isO k 5) (I : Mem) (hK : ∀ y, K (y) → RetI Z cX5_accepts .boolean y.1 y.2) : WF Z K (m_X5_accepts_j61 k I) I 61 [some (rf (zG Z) k), none, none, none, none] [] := by
  unfold m_X5_accepts_j61
  refine w_aload_n (v := k) C dX5_accepts_61 rfl (q := 62) rfl ?_
  refine g_X5_0 C hk lk_X5_9 dX5_accepts_62 (q := 65) rfl ?_
  refine w_callV (val := fun r6 => some (.int r6)) (mem := fun r6 => I) (st1 := fun r6 => [.int r6]) (As := []) (st := []) (q := 68) C hR (fun x h => c_X1_count (zl Z) (zG Z)  (st_X5_0 hk).2 I h) (st_X5_0 hk).2 mv_X1_count lk_X5_33 rfl (by decide) (fun _ => rfl) (Nat.le_of_ble_eq_true rfl) rfl rfl dX5_accepts_65 rfl (fun r6 => ?_)
  refine w_if_ne (tgt := 75) (q := 71) C dX5_accepts_68 (by decide) rfl (fun _ => ?_) (fun _ => ?_)
  · refine w_iconst (v := (1)) C dX5_accepts_71 (by decide) (q := 72) rfl ?_
    refine w_goto (tgt := 76) C dX5_accepts_72 (by decide) ?_
    exact w_iret C (hK _) (by decide) dX5_accepts_76
  · refine w_iconst (v := (0)) C dX5_accepts_75 (by decide) (q := 76) rfl ?_
    exact w_iret C (hK _) (by decide) dX5_accepts_76
def m_X5_accepts_j46 (k : Nat) (p2 : Nat) (I : Mem) : Option (Int32 × Mem) :=
  Option.bind (m_X1_count (k - 3) I) fun r5 => if r5 = 0 then (Option.bind (m_X5_checkBody k p2 I) fun I7 => m_X5_accepts_j61 k I7) else (m_X5_accepts_j61 k I)
set_option maxRecDepth 100000 in
set_option maxHeartbeats 4000000 in
theorem m_X5_accepts_j46_ok {Z : Zx} {K : (Int32 × Mem) → Prop} (C : Cx Z cX5_accepts 5 RX5) (hR : RM Z 5 125) (k : Nat) (p2 : Nat) (hk : isO k 5) (hp2 : isO p2 4) (I : Mem) (hK : ∀ y, K (y) → RetI Z cX5_accepts .boolean y.1 y.2) : WF Z K (m_X5_accepts_j46 k p2 I) I 46 [some (rf (zG Z) k), none, some (rf (zG Z) p2), none, none] [] := by
  unfold m_X5_accepts_j46
  refine w_aload_n (v := k) C dX5_accepts_46 rfl (q := 47) rfl ?_
  refine g_X5_0 C hk lk_X5_9 dX5_accepts_47 (q := 50) rfl ?_
  refine w_callV (val := fun r5 => some (.int r5)) (mem := fun r5 => I) (st1 := fun r5 => [.int r5]) (As := []) (st := []) (q := 53) C hR (fun x h => c_X1_count (zl Z) (zG Z)  (st_X5_0 hk).2 I h) (st_X5_0 hk).2 mv_X1_count lk_X5_33 rfl (by decide) (fun _ => rfl) (Nat.le_of_ble_eq_true rfl) rfl rfl dX5_accepts_50 rfl (fun r5 => ?_)
  refine w_if_ne (tgt := 61) (q := 56) C dX5_accepts_53 (by decide) rfl (fun _ => ?_) (fun _ => ?_)
  · refine w_aload_n (v := k) C dX5_accepts_56 rfl (q := 57) rfl ?_
    refine w_aload_n (v := p2) C dX5_accepts_57 rfl (q := 58) rfl ?_
    refine w_callV (val := fun I7 => none) (mem := fun I7 => I7) (st1 := fun I7 => []) (As := [rf (zG Z) p2]) (st := []) (q := 61) C hR (fun x h => c_X5_checkBody (zl Z) (zG Z)  hk hp2 I h) hk mv_X5_checkBody lk_X5_45 rfl (by decide) (fun _ => rfl) (Nat.le_of_ble_eq_true rfl) rfl rfl dX5_accepts_58 rfl (fun I7 => ?_)
    exact WF.less (L' := [some (rf (zG Z) k), none, none, none, none]) (m_X5_accepts_j61_ok C hR k hk I7 hK) ⟨rfl, trivial⟩
  · exact WF.less (L' := [some (rf (zG Z) k), none, none, none, none]) (m_X5_accepts_j61_ok C hR k hk I hK) ⟨rfl, trivial⟩
def m_X5_accepts_j28 (k : Nat) (p2 : Nat) (p3 : Int32) (p4 : Int32) (I : Mem) : Option (Int32 × Mem) :=
  Option.bind (m_X1_count (k - 3) I) fun r4 => if r4 = 0 then (Option.bind (m_X5_checkNumbers k p2 p3 p4 I) fun I8 => m_X5_accepts_j46 k p2 I8) else (m_X5_accepts_j46 k p2 I)
set_option maxRecDepth 100000 in
set_option maxHeartbeats 4000000 in
theorem m_X5_accepts_j28_ok {Z : Zx} {K : (Int32 × Mem) → Prop} (C : Cx Z cX5_accepts 5 RX5) (hR : RM Z 5 125) (k : Nat) (p2 : Nat) (p3 : Int32) (p4 : Int32) (hk : isO k 5) (hp2 : isO p2 4) (I : Mem) (hK : ∀ y, K (y) → RetI Z cX5_accepts .boolean y.1 y.2) : WF Z K (m_X5_accepts_j28 k p2 p3 p4 I) I 28 [some (rf (zG Z) k), none, some (rf (zG Z) p2), some (.int p3), some (.int p4)] [] := by
  unfold m_X5_accepts_j28
  refine w_aload_n (v := k) C dX5_accepts_28 rfl (q := 29) rfl ?_
  refine g_X5_0 C hk lk_X5_9 dX5_accepts_29 (q := 32) rfl ?_
  refine w_callV (val := fun r4 => some (.int r4)) (mem := fun r4 => I) (st1 := fun r4 => [.int r4]) (As := []) (st := []) (q := 35) C hR (fun x h => c_X1_count (zl Z) (zG Z)  (st_X5_0 hk).2 I h) (st_X5_0 hk).2 mv_X1_count lk_X5_33 rfl (by decide) (fun _ => rfl) (Nat.le_of_ble_eq_true rfl) rfl rfl dX5_accepts_32 rfl (fun r4 => ?_)
  refine w_if_ne (tgt := 46) (q := 38) C dX5_accepts_35 (by decide) rfl (fun _ => ?_) (fun _ => ?_)
  · refine w_aload_n (v := k) C dX5_accepts_38 rfl (q := 39) rfl ?_
    refine w_aload_n (v := p2) C dX5_accepts_39 rfl (q := 40) rfl ?_
    refine w_iload_n (v := p3) C dX5_accepts_40 rfl (q := 41) rfl ?_
    refine w_iload (v := p4) C dX5_accepts_41 rfl (q := 43) rfl ?_
    refine w_callV (val := fun I8 => none) (mem := fun I8 => I8) (st1 := fun I8 => []) (As := [rf (zG Z) p2, .int p3, .int p4]) (st := []) (q := 46) C hR (fun x h => c_X5_checkNumbers (zl Z) (zG Z) p3 p4 hk hp2 I h) hk mv_X5_checkNumbers lk_X5_41 rfl (by decide) (fun _ => rfl) (Nat.le_of_ble_eq_true rfl) rfl rfl dX5_accepts_43 rfl (fun I8 => ?_)
    exact WF.less (L' := [some (rf (zG Z) k), none, some (rf (zG Z) p2), none, none]) (m_X5_accepts_j46_ok C hR k p2 hk hp2 I8 hK) ⟨rfl, rfl, trivial⟩
  · exact WF.less (L' := [some (rf (zG Z) k), none, some (rf (zG Z) p2), none, none]) (m_X5_accepts_j46_ok C hR k p2 hk hp2 I hK) ⟨rfl, rfl, trivial⟩
def m_X5_accepts (k : Nat) (p1 : Nat) (p2 : Nat) (p3 : Int32) (p4 : Int32) (I : Mem) : Option (Int32 × Mem) :=
  Option.bind (m_X1_wipe (k - 3) I) fun I1 => Option.bind (m_X5_split k p1 p2 I1) fun I2 => Option.bind (m_X1_count (k - 3) I2) fun r3 => if r3 = 0 then (Option.bind (m_X5_checkEnvelope k p2 I2) fun I9 => m_X5_accepts_j28 k p2 p3 p4 I9) else (m_X5_accepts_j28 k p2 p3 p4 I2)
set_option maxRecDepth 100000 in
set_option maxHeartbeats 4000000 in
theorem m_X5_accepts_ok {Z : Zx} {K : (Int32 × Mem) → Prop} (C : Cx Z cX5_accepts 5 RX5) (hR : RM Z 5 125) (k : Nat) (p1 : Nat) (p2 : Nat) (p3 : Int32) (p4 : Int32) (hk : isO k 5) (hp1 : isO p1 10) (hp2 : isO p2 4) (I : Mem) (hK : ∀ y, K (y) → RetI Z cX5_accepts .boolean y.1 y.2) : WF Z K (m_X5_accepts k p1 p2 p3 p4 I) I 0 [some (rf (zG Z) k), some (rf (zG Z) p1), some (rf (zG Z) p2), some (.int p3), some (.int p4)] [] := by
  unfold m_X5_accepts
  refine w_aload_n (v := k) C dX5_accepts_0 rfl (q := 1) rfl ?_
  refine g_X5_0 C hk lk_X5_9 dX5_accepts_1 (q := 4) rfl ?_
  refine w_callV (val := fun I1 => none) (mem := fun I1 => I1) (st1 := fun I1 => []) (As := []) (st := []) (q := 7) C hR (fun x h => c_X1_wipe (zl Z) (zG Z)  (st_X5_0 hk).2 I h) (st_X5_0 hk).2 mv_X1_wipe lk_X5_24 rfl (by decide) (fun _ => rfl) (Nat.le_of_ble_eq_true rfl) rfl rfl dX5_accepts_4 rfl (fun I1 => ?_)
  refine w_aload_n (v := k) C dX5_accepts_7 rfl (q := 8) rfl ?_
  refine w_aload_n (v := p1) C dX5_accepts_8 rfl (q := 9) rfl ?_
  refine w_aload_n (v := p2) C dX5_accepts_9 rfl (q := 10) rfl ?_
  refine w_callV (val := fun I2 => none) (mem := fun I2 => I2) (st1 := fun I2 => []) (As := [rf (zG Z) p1, rf (zG Z) p2]) (st := []) (q := 13) C hR (fun x h => c_X5_split (zl Z) (zG Z)  hk hp1 hp2 I1 h) hk mv_X5_split lk_X5_29 rfl (by decide) (fun _ => rfl) (Nat.le_of_ble_eq_true rfl) rfl rfl dX5_accepts_10 rfl (fun I2 => ?_)
  refine w_aload_n (v := k) C dX5_accepts_13 rfl (q := 14) rfl ?_
  refine g_X5_0 C hk lk_X5_9 dX5_accepts_14 (q := 17) rfl ?_
  refine w_callV (val := fun r3 => some (.int r3)) (mem := fun r3 => I2) (st1 := fun r3 => [.int r3]) (As := []) (st := []) (q := 20) C hR (fun x h => c_X1_count (zl Z) (zG Z)  (st_X5_0 hk).2 I2 h) (st_X5_0 hk).2 mv_X1_count lk_X5_33 rfl (by decide) (fun _ => rfl) (Nat.le_of_ble_eq_true rfl) rfl rfl dX5_accepts_17 rfl (fun r3 => ?_)
  refine w_if_ne (tgt := 28) (q := 23) C dX5_accepts_20 (by decide) rfl (fun _ => ?_) (fun _ => ?_)
  · refine w_aload_n (v := k) C dX5_accepts_23 rfl (q := 24) rfl ?_
    refine w_aload_n (v := p2) C dX5_accepts_24 rfl (q := 25) rfl ?_
    refine w_callV (val := fun I9 => none) (mem := fun I9 => I9) (st1 := fun I9 => []) (As := [rf (zG Z) p2]) (st := []) (q := 28) C hR (fun x h => c_X5_checkEnvelope (zl Z) (zG Z)  hk hp2 I2 h) hk mv_X5_checkEnvelope lk_X5_37 rfl (by decide) (fun _ => rfl) (Nat.le_of_ble_eq_true rfl) rfl rfl dX5_accepts_25 rfl (fun I9 => ?_)
    exact WF.less (L' := [some (rf (zG Z) k), none, some (rf (zG Z) p2), some (.int p3), some (.int p4)]) (m_X5_accepts_j28_ok C hR k p2 p3 p4 hk hp2 I9 hK) ⟨rfl, rfl, rfl, rfl, trivial⟩
  · exact WF.less (L' := [some (rf (zG Z) k), none, some (rf (zG Z) p2), some (.int p3), some (.int p4)]) (m_X5_accepts_j28_ok C hR k p2 p3 p4 hk hp2 I2 hK) ⟨rfl, rfl, rfl, rfl, trivial⟩
theorem c_X5_accepts (l : Launch) (G : Gx) {k : Nat} {p1 : Nat} {p2 : Nat} (p3 : Int32) (p4 : Int32) (hk : isO k 5) (hp1 : isO p1 10) (hp2 : isO p2 4) (I : Mem) {x : Int32 × Mem} (h : m_X5_accepts k p1 p2 p3 p4 I = some x) : Ct l G yX5_accepts cX5_accepts 5 (some (.boolean)) 5 125 [rf G k, rf G p1, rf G p2, .int p3, .int p4] I (some (.int x.1)) x.2 := Ct.of (by decide +kernel) rfl (Nat.le_of_ble_eq_true rfl) ret_i (fun Z hG hl C hR hret => by
  subst hG
  exact m_X5_accepts_ok (K := fun y => y = x) C hR k p1 p2 p3 p4 hk hp1 hp2 I (fun y hy => by subst hy; exact hret) x h rfl)
def m_X10_wipe (k : Nat) (I : Mem) : Option (Mem) :=
  bnd (ms I k 1 0) fun I1 => bnd (ms I1 k 2 0) fun I2 => some I2
set_option maxRecDepth 100000 in
set_option maxHeartbeats 4000000 in
theorem m_X10_wipe_ok {Z : Zx} {K : Mem → Prop} (C : Cx Z cX10_wipe 1 RX10) (hR : RM Z 0 0) (k : Nat) (hk : isO k 10) (I : Mem) (hK : ∀ y, K (y) → RetV Z cX10_wipe y) : WF Z K (m_X10_wipe k I) I 0 [some (rf (zG Z) k)] [] := by
  unfold m_X10_wipe
  refine w_aload_n (v := k) C dX10_wipe_0 rfl (q := 1) rfl ?_
  refine w_iconst (v := (0)) C dX10_wipe_1 (by decide) (q := 2) rfl ?_
  refine p_X10_1 C hk  lk_X10_15 dX10_wipe_2 (q := 5) rfl (fun I1 => ?_)
  refine w_aload_n (v := k) C dX10_wipe_5 rfl (q := 6) rfl ?_
  refine w_iconst (v := (0)) C dX10_wipe_6 (by decide) (q := 7) rfl ?_
  refine p_X10_2 C hk (by decide) lk_X10_19 dX10_wipe_7 (q := 10) rfl (fun I2 => ?_)
  exact w_vret C (hK _) dX10_wipe_10
theorem c_X10_wipe (l : Launch) (G : Gx) {k : Nat} (hk : isO k 10) (I : Mem) {x : Mem} (h : m_X10_wipe k I = some x) : Ct l G yX10_wipe cX10_wipe 1 none 0 0 [rf G k] I (none) x := Ct.of (by decide +kernel) rfl (Nat.le_of_ble_eq_true rfl) ret_v (fun Z hG hl C hR hret => by
  subst hG
  exact m_X10_wipe_ok (K := fun y => y = x) C hR k hk I (fun y hy => by subst hy; exact hret) x h rfl)
def m_X11_read_j50 (k : Nat) (I : Mem) : Option (Int32 × Mem) :=
  Option.bind (m_X10_wipe (k + 27) I) fun I4 => Option.bind (m_X1_count (k + 29) I4) fun r5 => some ((r5, I4))
set_option maxRecDepth 100000 in
set_option maxHeartbeats 4000000 in
theorem m_X11_read_j50_ok {Z : Zx} {K : (Int32 × Mem) → Prop} (C : Cx Z cX11_read 1 RX11) (hR : RM Z 6 149) (k : Nat) (hk : isO k 11) (I : Mem) (hK : ∀ y, K (y) → RetI Z cX11_read .int y.1 y.2) : WF Z K (m_X11_read_j50 k I) I 50 [some (rf (zG Z) k)] [] := by
  unfold m_X11_read_j50
  refine w_aload_n (v := k) C dX11_read_50 rfl (q := 51) rfl ?_
  refine g_X11_1 C hk lk_X11_19 dX11_read_51 (q := 54) rfl ?_
  refine w_callV (val := fun I4 => none) (mem := fun I4 => I4) (st1 := fun I4 => []) (As := []) (st := []) (q := 57) C hR (fun x h => c_X10_wipe (zl Z) (zG Z)  (st_X11_1 hk).2 I h) (st_X11_1 hk).2 mv_X10_wipe lk_X11_132 rfl (by decide) (fun _ => rfl) (Nat.le_of_ble_eq_true rfl) rfl rfl dX11_read_54 rfl (fun I4 => ?_)
  refine w_aload_n (v := k) C dX11_read_57 rfl (q := 58) rfl ?_
  refine g_X11_2 C hk lk_X11_26 dX11_read_58 (q := 61) rfl ?_
  refine w_callV (val := fun r5 => some (.int r5)) (mem := fun r5 => I4) (st1 := fun r5 => [.int r5]) (As := []) (st := []) (q := 64) C hR (fun x h => c_X1_count (zl Z) (zG Z)  (st_X11_2 hk).2 I4 h) (st_X11_2 hk).2 mv_X1_count lk_X11_147 rfl (by decide) (fun _ => rfl) (Nat.le_of_ble_eq_true rfl) rfl rfl dX11_read_61 rfl (fun r5 => ?_)
  exact w_iret C (hK _) rfl dX11_read_64
def m_X11_read (k : Nat) (I : Mem) : Option (Int32 × Mem) :=
  Option.bind (m_X8_isLoopOpen (k + 1) I) fun r1 => if r1 = 0 then (gd (iO ((I k 6).toNatClampNeg) 4) (Option.bind (m_X5_accepts (k + 32) (k + 27) ((I k 6).toNatClampNeg) (I k 8) (I k 9) I) fun r3 => if r3.1 = 0 then (m_X11_read_j50 k r3.2) else (Option.bind (m_X11_acceptDraft k r3.2) fun I6 => m_X11_read_j50 k I6))) else (none)
set_option maxRecDepth 100000 in
set_option maxHeartbeats 4000000 in
theorem m_X11_read_ok {Z : Zx} {K : (Int32 × Mem) → Prop} (C : Cx Z cX11_read 1 RX11) (hR : RM Z 6 149) (k : Nat) (hk : isO k 11) (I : Mem) (hK : ∀ y, K (y) → RetI Z cX11_read .int y.1 y.2) : WF Z K (m_X11_read k I) I 0 [some (rf (zG Z) k)] [] := by
  unfold m_X11_read
  refine w_aload_n (v := k) C dX11_read_0 rfl (q := 1) rfl ?_
  refine g_X11_0 C hk lk_X11_12 dX11_read_1 (q := 4) rfl ?_
  refine w_callV (val := fun r1 => some (.int r1)) (mem := fun r1 => I) (st1 := fun r1 => [.int r1]) (As := []) (st := []) (q := 7) C hR (fun x h => c_X8_isLoopOpen (zl Z) (zG Z)  (st_X11_0 hk).2 I h) (st_X11_0 hk).2 mv_X8_isLoopOpen lk_X11_92 rfl (by decide) (fun _ => rfl) (Nat.le_of_ble_eq_true rfl) rfl rfl dX11_read_4 rfl (fun r1 => ?_)
  refine w_if_eq (tgt := 20) (q := 10) C dX11_read_7 (by decide) rfl (fun _ => ?_) (fun _ => ?_)
  · refine w_aload_n (v := k) C dX11_read_20 rfl (q := 21) rfl ?_
    refine g_X11_3 C hk lk_X11_35 dX11_read_21 (q := 24) rfl ?_
    refine w_aload_n (v := k) C dX11_read_24 rfl (q := 25) rfl ?_
    refine g_X11_1 C hk lk_X11_19 dX11_read_25 (q := 28) rfl ?_
    refine w_aload_n (v := k) C dX11_read_28 rfl (q := 29) rfl ?_
    refine g_X11_6 C hk lk_X11_53 dX11_read_29 (q := 32) rfl ?_
    refine w_gd (fun h2 => ?_)
    refine w_aload_n (v := k) C dX11_read_32 rfl (q := 33) rfl ?_
    refine g_X11_8 C hk lk_X11_133 dX11_read_33 (q := 36) rfl ?_
    refine w_aload_n (v := k) C dX11_read_36 rfl (q := 37) rfl ?_
    refine g_X11_9 C hk lk_X11_136 dX11_read_37 (q := 40) rfl ?_
    refine w_callV (val := fun r3 => some (.int r3.1)) (mem := fun r3 => r3.2) (st1 := fun r3 => [.int r3.1]) (As := [rf (zG Z) (k + 27), rf (zG Z) ((I k 6).toNatClampNeg), .int (I k 8), .int (I k 9)]) (st := []) (q := 43) C hR (fun x h => c_X5_accepts (zl Z) (zG Z) (I k 8) (I k 9) (st_X11_3 hk).2 (st_X11_1 hk).2 (iO_of h2) I h) (st_X11_3 hk).2 mv_X5_accepts lk_X11_140 rfl (by decide) (fun _ => rfl) (Nat.le_of_ble_eq_true rfl) rfl rfl dX11_read_40 rfl (fun r3 => ?_)
    refine w_if_eq (tgt := 50) (q := 46) C dX11_read_43 (by decide) rfl (fun _ => ?_) (fun _ => ?_)
    · exact WF.less (L' := [some (rf (zG Z) k)]) (m_X11_read_j50_ok C hR k hk r3.2 hK) ⟨rfl, trivial⟩
    · refine w_aload_n (v := k) C dX11_read_46 rfl (q := 47) rfl ?_
      refine w_callV (val := fun I6 => none) (mem := fun I6 => I6) (st1 := fun I6 => []) (As := []) (st := []) (q := 50) C hR (fun x h => c_X11_acceptDraft (zl Z) (zG Z)  hk r3.2 h) hk mv_X11_acceptDraft lk_X11_144 rfl (by decide) (fun _ => rfl) (Nat.le_of_ble_eq_true rfl) rfl rfl dX11_read_47 rfl (fun I6 => ?_)
      exact WF.less (L' := [some (rf (zG Z) k)]) (m_X11_read_j50_ok C hR k hk I6 hK) ⟨rfl, trivial⟩
  · exact w_none
theorem c_X11_read (l : Launch) (G : Gx) {k : Nat} (hk : isO k 11) (I : Mem) {x : Int32 × Mem} (h : m_X11_read k I = some x) : Ct l G yX11_read cX11_read 1 (some (.int)) 6 149 [rf G k] I (some (.int x.1)) x.2 := Ct.of (by decide +kernel) rfl (Nat.le_of_ble_eq_true rfl) ret_i (fun Z hG hl C hR hret => by
  subst hG
  exact m_X11_read_ok (K := fun y => y = x) C hR k hk I (fun y hy => by subst hy; exact hret) x h rfl)
def m_X11_control (k : Nat) (I : Mem) : Option (Int32) :=
  if I k 8 = 0 then (none) else (some (I k 9))
set_option maxRecDepth 100000 in
set_option maxHeartbeats 4000000 in
theorem m_X11_control_ok {Z : Zx} {K : Int32 → Prop} (C : Cx Z cX11_control 1 RX11) (hR : RM Z 0 0) (k : Nat) (hk : isO k 11) (I : Mem) (hK : ∀ y, K (y) → RetI Z cX11_control .int y I) : WF Z K (m_X11_control k I) I 0 [some (rf (zG Z) k)] [] := by
  unfold m_X11_control
  refine w_aload_n (v := k) C dX11_control_0 rfl (q := 1) rfl ?_
  refine g_X11_8 C hk lk_X11_133 dX11_control_1 (q := 4) rfl ?_
  refine w_if_ne (tgt := 17) (q := 7) C dX11_control_4 (by decide) rfl (fun _ => ?_) (fun _ => ?_)
  · exact w_none
  · refine w_aload_n (v := k) C dX11_control_17 rfl (q := 18) rfl ?_
    refine g_X11_9 C hk lk_X11_136 dX11_control_18 (q := 21) rfl ?_
    exact w_iret C (hK _) rfl dX11_control_21
theorem c_X11_control (l : Launch) (G : Gx) {k : Nat} (hk : isO k 11) (I : Mem) {x : Int32} (h : m_X11_control k I = some x) : Ct l G yX11_control cX11_control 1 (some (.int)) 0 0 [rf G k] I (some (.int x)) I := Ct.of (by decide +kernel) rfl (Nat.le_of_ble_eq_true rfl) ret_i (fun Z hG hl C hR hret => by
  subst hG
  exact m_X11_control_ok (K := fun y => y = x) C hR k hk I (fun y hy => by subst hy; exact hret) x h rfl)
def m_X11_needMessage (k : Nat) (I : Mem) : Option (Unit) :=
  if I k 7 = 0 then (none) else (some (()))
set_option maxRecDepth 100000 in
set_option maxHeartbeats 4000000 in
theorem m_X11_needMessage_ok {Z : Zx} {K : Unit → Prop} (C : Cx Z cX11_needMessage 1 RX11) (hR : RM Z 0 0) (k : Nat) (hk : isO k 11) (I : Mem) (hK : ∀ y, K (y) → RetV Z cX11_needMessage I) : WF Z K (m_X11_needMessage k I) I 0 [some (rf (zG Z) k)] [] := by
  unfold m_X11_needMessage
  refine w_aload_n (v := k) C dX11_needMessage_0 rfl (q := 1) rfl ?_
  refine g_X11_7 C hk lk_X11_114 dX11_needMessage_1 (q := 4) rfl ?_
  refine w_if_ne (tgt := 18) (q := 7) C dX11_needMessage_4 (by decide) rfl (fun _ => ?_) (fun _ => ?_)
  · exact w_none
  · exact w_vret C (hK _) dX11_needMessage_18
theorem c_X11_needMessage (l : Launch) (G : Gx) {k : Nat} (hk : isO k 11) (I : Mem) {x : Unit} (h : m_X11_needMessage k I = some x) : Ct l G yX11_needMessage cX11_needMessage 1 none 0 0 [rf G k] I (none) I := Ct.of (by decide +kernel) rfl (Nat.le_of_ble_eq_true rfl) ret_v (fun Z hG hl C hR hret => by
  subst hG
  exact m_X11_needMessage_ok (K := fun y => y = x) C hR k hk I (fun y hy => by subst hy; exact hret) x h rfl)
def m_X11_segments (k : Nat) (I : Mem) : Option (Int32) :=
  Option.bind (m_X11_needMessage k I) fun I1 => gd (iO ((I k 5).toNatClampNeg) 4) (Option.bind (m_X4_bodyCount ((I k 5).toNatClampNeg) I) fun r3 => some r3)
set_option maxRecDepth 100000 in
set_option maxHeartbeats 4000000 in
theorem m_X11_segments_ok {Z : Zx} {K : Int32 → Prop} (C : Cx Z cX11_segments 1 RX11) (hR : RM Z 1 20) (k : Nat) (hk : isO k 11) (I : Mem) (hK : ∀ y, K (y) → RetI Z cX11_segments .int y I) : WF Z K (m_X11_segments k I) I 0 [some (rf (zG Z) k)] [] := by
  unfold m_X11_segments
  refine w_aload_n (v := k) C dX11_segments_0 rfl (q := 1) rfl ?_
  refine w_callV (val := fun I1 => none) (mem := fun I1 => I) (st1 := fun I1 => []) (As := []) (st := []) (q := 4) C hR (fun x h => c_X11_needMessage (zl Z) (zG Z)  hk I h) hk mv_X11_needMessage lk_X11_164 rfl (by decide) (fun _ => rfl) (Nat.le_of_ble_eq_true rfl) rfl rfl dX11_segments_1 rfl (fun I1 => ?_)
  refine w_aload_n (v := k) C dX11_segments_4 rfl (q := 5) rfl ?_
  refine g_X11_5 C hk lk_X11_49 dX11_segments_5 (q := 8) rfl ?_
  refine w_gd (fun h2 => ?_)
  refine w_callV (val := fun r3 => some (.int r3)) (mem := fun r3 => I) (st1 := fun r3 => [.int r3]) (As := []) (st := []) (q := 11) C hR (fun x h => c_X4_bodyCount (zl Z) (zG Z)  (iO_of h2) I h) (iO_of h2) mv_X4_bodyCount lk_X11_167 rfl (by decide) (fun _ => rfl) (Nat.le_of_ble_eq_true rfl) rfl rfl dX11_segments_8 rfl (fun r3 => ?_)
  exact w_iret C (hK _) rfl dX11_segments_11
theorem c_X11_segments (l : Launch) (G : Gx) {k : Nat} (hk : isO k 11) (I : Mem) {x : Int32} (h : m_X11_segments k I = some x) : Ct l G yX11_segments cX11_segments 1 (some (.int)) 1 20 [rf G k] I (some (.int x)) I := Ct.of (by decide +kernel) rfl (Nat.le_of_ble_eq_true rfl) ret_i (fun Z hG hl C hR hret => by
  subst hG
  exact m_X11_segments_ok (K := fun y => y = x) C hR k hk I (fun y hy => by subst hy; exact hret) x h rfl)
def m_X11_needSegment_j19  (I : Mem) : Option (Unit) :=
  none
set_option maxRecDepth 100000 in
set_option maxHeartbeats 4000000 in
theorem m_X11_needSegment_j19_ok {Z : Zx} {K : Unit → Prop} (C : Cx Z cX11_needSegment 2 RX11) (hR : RM Z 1 20) (I : Mem) (hK : ∀ y, K (y) → RetV Z cX11_needSegment I) : WF Z K (m_X11_needSegment_j19  I) I 19 [none, none] [] := by
  unfold m_X11_needSegment_j19
  exact w_none
def m_X11_needSegment (k : Nat) (p1 : Int32) (I : Mem) : Option (Unit) :=
  Option.bind (m_X11_needMessage k I) fun I1 => if p1 < 0 then (m_X11_needSegment_j19  I) else (gd (iO ((I k 5).toNatClampNeg) 4) (Option.bind (m_X4_bodyCount ((I k 5).toNatClampNeg) I) fun r3 => if p1 < r3 then (some (())) else (m_X11_needSegment_j19  I)))
set_option maxRecDepth 100000 in
set_option maxHeartbeats 4000000 in
theorem m_X11_needSegment_ok {Z : Zx} {K : Unit → Prop} (C : Cx Z cX11_needSegment 2 RX11) (hR : RM Z 1 20) (k : Nat) (p1 : Int32) (hk : isO k 11) (I : Mem) (hK : ∀ y, K (y) → RetV Z cX11_needSegment I) : WF Z K (m_X11_needSegment k p1 I) I 0 [some (rf (zG Z) k), some (.int p1)] [] := by
  unfold m_X11_needSegment
  refine w_aload_n (v := k) C dX11_needSegment_0 rfl (q := 1) rfl ?_
  refine w_callV (val := fun I1 => none) (mem := fun I1 => I) (st1 := fun I1 => []) (As := []) (st := []) (q := 4) C hR (fun x h => c_X11_needMessage (zl Z) (zG Z)  hk I h) hk mv_X11_needMessage lk_X11_164 rfl (by decide) (fun _ => rfl) (Nat.le_of_ble_eq_true rfl) rfl rfl dX11_needSegment_1 rfl (fun I1 => ?_)
  refine w_iload_n (v := p1) C dX11_needSegment_4 rfl (q := 5) rfl ?_
  refine w_if_lt (tgt := 19) (q := 8) C dX11_needSegment_5 (by decide) rfl (fun _ => ?_) (fun _ => ?_)
  · exact WF.less (L' := [none, none]) (m_X11_needSegment_j19_ok C hR   I hK) trivial
  · refine w_iload_n (v := p1) C dX11_needSegment_8 rfl (q := 9) rfl ?_
    refine w_aload_n (v := k) C dX11_needSegment_9 rfl (q := 10) rfl ?_
    refine g_X11_5 C hk lk_X11_49 dX11_needSegment_10 (q := 13) rfl ?_
    refine w_gd (fun h2 => ?_)
    refine w_callV (val := fun r3 => some (.int r3)) (mem := fun r3 => I) (st1 := fun r3 => [.int r3, .int p1]) (As := []) (st := [.int p1]) (q := 16) C hR (fun x h => c_X4_bodyCount (zl Z) (zG Z)  (iO_of h2) I h) (iO_of h2) mv_X4_bodyCount lk_X11_167 rfl (by decide) (fun _ => rfl) (Nat.le_of_ble_eq_true rfl) rfl rfl dX11_needSegment_13 rfl (fun r3 => ?_)
    refine w_icmp_lt (tgt := 30) (q := 19) C dX11_needSegment_16 (by decide) rfl (fun _ => ?_) (fun _ => ?_)
    · exact w_vret C (hK _) dX11_needSegment_30
    · exact WF.less (L' := [none, none]) (m_X11_needSegment_j19_ok C hR   I hK) trivial
theorem c_X11_needSegment (l : Launch) (G : Gx) {k : Nat} (p1 : Int32) (hk : isO k 11) (I : Mem) {x : Unit} (h : m_X11_needSegment k p1 I = some x) : Ct l G yX11_needSegment cX11_needSegment 2 none 1 20 [rf G k, .int p1] I (none) I := Ct.of (by decide +kernel) rfl (Nat.le_of_ble_eq_true rfl) ret_v (fun Z hG hl C hR hret => by
  subst hG
  exact m_X11_needSegment_ok (K := fun y => y = x) C hR k p1 hk I (fun y hy => by subst hy; exact hret) x h rfl)
def m_X11_tag (k : Nat) (p1 : Int32) (I : Mem) : Option (Int32) :=
  Option.bind (m_X11_needSegment k p1 I) fun I1 => gd (iO ((I k 5).toNatClampNeg) 4) (Option.bind (m_X4_bodyAt ((I k 5).toNatClampNeg) p1 I) fun r3 => gd (iO r3 9) (Option.bind (m_X9_mark r3 I) fun r5 => gd (okc r5) (some r5)))
set_option maxRecDepth 100000 in
set_option maxHeartbeats 4000000 in
theorem m_X11_tag_ok {Z : Zx} {K : Int32 → Prop} (C : Cx Z cX11_tag 2 RX11) (hR : RM Z 2 42) (k : Nat) (p1 : Int32) (hk : isO k 11) (I : Mem) (hK : ∀ y, K (y) → RetI Z cX11_tag .char y I) : WF Z K (m_X11_tag k p1 I) I 0 [some (rf (zG Z) k), some (.int p1)] [] := by
  unfold m_X11_tag
  refine w_aload_n (v := k) C dX11_tag_0 rfl (q := 1) rfl ?_
  refine w_iload_n (v := p1) C dX11_tag_1 rfl (q := 2) rfl ?_
  refine w_callV (val := fun I1 => none) (mem := fun I1 => I) (st1 := fun I1 => []) (As := [.int p1]) (st := []) (q := 5) C hR (fun x h => c_X11_needSegment (zl Z) (zG Z) p1 hk I h) hk mv_X11_needSegment lk_X11_170 rfl (by decide) (fun _ => rfl) (Nat.le_of_ble_eq_true rfl) rfl rfl dX11_tag_2 rfl (fun I1 => ?_)
  refine w_aload_n (v := k) C dX11_tag_5 rfl (q := 6) rfl ?_
  refine g_X11_5 C hk lk_X11_49 dX11_tag_6 (q := 9) rfl ?_
  refine w_gd (fun h2 => ?_)
  refine w_iload_n (v := p1) C dX11_tag_9 rfl (q := 10) rfl ?_
  refine w_callV (val := fun r3 => some (rf (zG Z) r3)) (mem := fun r3 => I) (st1 := fun r3 => [rf (zG Z) r3]) (As := [.int p1]) (st := []) (q := 13) C hR (fun x h => c_X4_bodyAt (zl Z) (zG Z) p1 (iO_of h2) I h) (iO_of h2) mv_X4_bodyAt lk_X11_173 rfl (by decide) (fun _ => rfl) (Nat.le_of_ble_eq_true rfl) rfl rfl dX11_tag_10 rfl (fun r3 => ?_)
  refine w_gd (fun h4 => ?_)
  refine w_callV (val := fun r5 => some (.int r5)) (mem := fun r5 => I) (st1 := fun r5 => [.int r5]) (As := []) (st := []) (q := 16) C hR (fun x h => c_X9_mark (zl Z) (zG Z)  (iO_of h4) I h) (iO_of h4) mv_X9_mark lk_X11_177 rfl (by decide) (fun _ => rfl) (Nat.le_of_ble_eq_true rfl) rfl rfl dX11_tag_13 rfl (fun r5 => ?_)
  refine w_gd (fun h6 => ?_)
  exact w_iret C (hK _) (okc_n h6).1 dX11_tag_16
theorem c_X11_tag (l : Launch) (G : Gx) {k : Nat} (p1 : Int32) (hk : isO k 11) (I : Mem) {x : Int32} (h : m_X11_tag k p1 I = some x) : Ct l G yX11_tag cX11_tag 2 (some (.char)) 2 42 [rf G k, .int p1] I (some (.int x)) I := Ct.of (by decide +kernel) rfl (Nat.le_of_ble_eq_true rfl) ret_i (fun Z hG hl C hR hret => by
  subst hG
  exact m_X11_tag_ok (K := fun y => y = x) C hR k p1 hk I (fun y hy => by subst hy; exact hret) x h rfl)
def m_X11_elements (k : Nat) (p1 : Int32) (I : Mem) : Option (Int32) :=
  Option.bind (m_X11_needSegment k p1 I) fun I1 => gd (iO ((I k 5).toNatClampNeg) 4) (Option.bind (m_X4_bodyAt ((I k 5).toNatClampNeg) p1 I) fun r3 => gd (iO r3 9) (Option.bind (m_X9_elementCount r3 I) fun r5 => some r5))
set_option maxRecDepth 100000 in
set_option maxHeartbeats 4000000 in
theorem m_X11_elements_ok {Z : Zx} {K : Int32 → Prop} (C : Cx Z cX11_elements 2 RX11) (hR : RM Z 2 42) (k : Nat) (p1 : Int32) (hk : isO k 11) (I : Mem) (hK : ∀ y, K (y) → RetI Z cX11_elements .int y I) : WF Z K (m_X11_elements k p1 I) I 0 [some (rf (zG Z) k), some (.int p1)] [] := by
  unfold m_X11_elements
  refine w_aload_n (v := k) C dX11_elements_0 rfl (q := 1) rfl ?_
  refine w_iload_n (v := p1) C dX11_elements_1 rfl (q := 2) rfl ?_
  refine w_callV (val := fun I1 => none) (mem := fun I1 => I) (st1 := fun I1 => []) (As := [.int p1]) (st := []) (q := 5) C hR (fun x h => c_X11_needSegment (zl Z) (zG Z) p1 hk I h) hk mv_X11_needSegment lk_X11_170 rfl (by decide) (fun _ => rfl) (Nat.le_of_ble_eq_true rfl) rfl rfl dX11_elements_2 rfl (fun I1 => ?_)
  refine w_aload_n (v := k) C dX11_elements_5 rfl (q := 6) rfl ?_
  refine g_X11_5 C hk lk_X11_49 dX11_elements_6 (q := 9) rfl ?_
  refine w_gd (fun h2 => ?_)
  refine w_iload_n (v := p1) C dX11_elements_9 rfl (q := 10) rfl ?_
  refine w_callV (val := fun r3 => some (rf (zG Z) r3)) (mem := fun r3 => I) (st1 := fun r3 => [rf (zG Z) r3]) (As := [.int p1]) (st := []) (q := 13) C hR (fun x h => c_X4_bodyAt (zl Z) (zG Z) p1 (iO_of h2) I h) (iO_of h2) mv_X4_bodyAt lk_X11_173 rfl (by decide) (fun _ => rfl) (Nat.le_of_ble_eq_true rfl) rfl rfl dX11_elements_10 rfl (fun r3 => ?_)
  refine w_gd (fun h4 => ?_)
  refine w_callV (val := fun r5 => some (.int r5)) (mem := fun r5 => I) (st1 := fun r5 => [.int r5]) (As := []) (st := []) (q := 16) C hR (fun x h => c_X9_elementCount (zl Z) (zG Z)  (iO_of h4) I h) (iO_of h4) mv_X9_elementCount lk_X11_183 rfl (by decide) (fun _ => rfl) (Nat.le_of_ble_eq_true rfl) rfl rfl dX11_elements_13 rfl (fun r5 => ?_)
  exact w_iret C (hK _) rfl dX11_elements_16
theorem c_X11_elements (l : Launch) (G : Gx) {k : Nat} (p1 : Int32) (hk : isO k 11) (I : Mem) {x : Int32} (h : m_X11_elements k p1 I = some x) : Ct l G yX11_elements cX11_elements 2 (some (.int)) 2 42 [rf G k, .int p1] I (some (.int x)) I := Ct.of (by decide +kernel) rfl (Nat.le_of_ble_eq_true rfl) ret_i (fun Z hG hl C hR hret => by
  subst hG
  exact m_X11_elements_ok (K := fun y => y = x) C hR k p1 hk I (fun y hy => by subst hy; exact hret) x h rfl)
def m_X11_needElement_j24  (I : Mem) : Option (Unit) :=
  none
set_option maxRecDepth 100000 in
set_option maxHeartbeats 4000000 in
theorem m_X11_needElement_j24_ok {Z : Zx} {K : Unit → Prop} (C : Cx Z cX11_needElement 3 RX11) (hR : RM Z 2 42) (I : Mem) (hK : ∀ y, K (y) → RetV Z cX11_needElement I) : WF Z K (m_X11_needElement_j24  I) I 24 [none, none, none] [] := by
  unfold m_X11_needElement_j24
  exact w_none
def m_X11_needElement (k : Nat) (p1 : Int32) (p2 : Int32) (I : Mem) : Option (Unit) :=
  Option.bind (m_X11_needSegment k p1 I) fun I1 => if p2 < 0 then (m_X11_needElement_j24  I) else (gd (iO ((I k 5).toNatClampNeg) 4) (Option.bind (m_X4_bodyAt ((I k 5).toNatClampNeg) p1 I) fun r3 => gd (iO r3 9) (Option.bind (m_X9_elementCount r3 I) fun r5 => if p2 < r5 then (some (())) else (m_X11_needElement_j24  I))))
set_option maxRecDepth 100000 in
set_option maxHeartbeats 4000000 in
theorem m_X11_needElement_ok {Z : Zx} {K : Unit → Prop} (C : Cx Z cX11_needElement 3 RX11) (hR : RM Z 2 42) (k : Nat) (p1 : Int32) (p2 : Int32) (hk : isO k 11) (I : Mem) (hK : ∀ y, K (y) → RetV Z cX11_needElement I) : WF Z K (m_X11_needElement k p1 p2 I) I 0 [some (rf (zG Z) k), some (.int p1), some (.int p2)] [] := by
  unfold m_X11_needElement
  refine w_aload_n (v := k) C dX11_needElement_0 rfl (q := 1) rfl ?_
  refine w_iload_n (v := p1) C dX11_needElement_1 rfl (q := 2) rfl ?_
  refine w_callV (val := fun I1 => none) (mem := fun I1 => I) (st1 := fun I1 => []) (As := [.int p1]) (st := []) (q := 5) C hR (fun x h => c_X11_needSegment (zl Z) (zG Z) p1 hk I h) hk mv_X11_needSegment lk_X11_170 rfl (by decide) (fun _ => rfl) (Nat.le_of_ble_eq_true rfl) rfl rfl dX11_needElement_2 rfl (fun I1 => ?_)
  refine w_iload_n (v := p2) C dX11_needElement_5 rfl (q := 6) rfl ?_
  refine w_if_lt (tgt := 24) (q := 9) C dX11_needElement_6 (by decide) rfl (fun _ => ?_) (fun _ => ?_)
  · exact WF.less (L' := [none, none, none]) (m_X11_needElement_j24_ok C hR   I hK) trivial
  · refine w_iload_n (v := p2) C dX11_needElement_9 rfl (q := 10) rfl ?_
    refine w_aload_n (v := k) C dX11_needElement_10 rfl (q := 11) rfl ?_
    refine g_X11_5 C hk lk_X11_49 dX11_needElement_11 (q := 14) rfl ?_
    refine w_gd (fun h2 => ?_)
    refine w_iload_n (v := p1) C dX11_needElement_14 rfl (q := 15) rfl ?_
    refine w_callV (val := fun r3 => some (rf (zG Z) r3)) (mem := fun r3 => I) (st1 := fun r3 => [rf (zG Z) r3, .int p2]) (As := [.int p1]) (st := [.int p2]) (q := 18) C hR (fun x h => c_X4_bodyAt (zl Z) (zG Z) p1 (iO_of h2) I h) (iO_of h2) mv_X4_bodyAt lk_X11_173 rfl (by decide) (fun _ => rfl) (Nat.le_of_ble_eq_true rfl) rfl rfl dX11_needElement_15 rfl (fun r3 => ?_)
    refine w_gd (fun h4 => ?_)
    refine w_callV (val := fun r5 => some (.int r5)) (mem := fun r5 => I) (st1 := fun r5 => [.int r5, .int p2]) (As := []) (st := [.int p2]) (q := 21) C hR (fun x h => c_X9_elementCount (zl Z) (zG Z)  (iO_of h4) I h) (iO_of h4) mv_X9_elementCount lk_X11_183 rfl (by decide) (fun _ => rfl) (Nat.le_of_ble_eq_true rfl) rfl rfl dX11_needElement_18 rfl (fun r5 => ?_)
    refine w_icmp_lt (tgt := 35) (q := 24) C dX11_needElement_21 (by decide) rfl (fun _ => ?_) (fun _ => ?_)
    · exact w_vret C (hK _) dX11_needElement_35
    · exact WF.less (L' := [none, none, none]) (m_X11_needElement_j24_ok C hR   I hK) trivial
theorem c_X11_needElement (l : Launch) (G : Gx) {k : Nat} (p1 : Int32) (p2 : Int32) (hk : isO k 11) (I : Mem) {x : Unit} (h : m_X11_needElement k p1 p2 I = some x) : Ct l G yX11_needElement cX11_needElement 3 none 2 42 [rf G k, .int p1, .int p2] I (none) I := Ct.of (by decide +kernel) rfl (Nat.le_of_ble_eq_true rfl) ret_v (fun Z hG hl C hR hret => by
  subst hG
  exact m_X11_needElement_ok (K := fun y => y = x) C hR k p1 p2 hk I (fun y hy => by subst hy; exact hret) x h rfl)
def m_X11_contentLength (k : Nat) (p1 : Int32) (p2 : Int32) (I : Mem) : Option (Int32) :=
  Option.bind (m_X11_needElement k p1 p2 I) fun I1 => gd (iO ((I k 5).toNatClampNeg) 4) (Option.bind (m_X4_bodyAt ((I k 5).toNatClampNeg) p1 I) fun r3 => gd (iO r3 9) (Option.bind (m_X9_countIn r3 p2 I) fun r5 => some r5))
set_option maxRecDepth 100000 in
set_option maxHeartbeats 4000000 in
theorem m_X11_contentLength_ok {Z : Zx} {K : Int32 → Prop} (C : Cx Z cX11_contentLength 3 RX11) (hR : RM Z 3 64) (k : Nat) (p1 : Int32) (p2 : Int32) (hk : isO k 11) (I : Mem) (hK : ∀ y, K (y) → RetI Z cX11_contentLength .int y I) : WF Z K (m_X11_contentLength k p1 p2 I) I 0 [some (rf (zG Z) k), some (.int p1), some (.int p2)] [] := by
  unfold m_X11_contentLength
  refine w_aload_n (v := k) C dX11_contentLength_0 rfl (q := 1) rfl ?_
  refine w_iload_n (v := p1) C dX11_contentLength_1 rfl (q := 2) rfl ?_
  refine w_iload_n (v := p2) C dX11_contentLength_2 rfl (q := 3) rfl ?_
  refine w_callV (val := fun I1 => none) (mem := fun I1 => I) (st1 := fun I1 => []) (As := [.int p1, .int p2]) (st := []) (q := 6) C hR (fun x h => c_X11_needElement (zl Z) (zG Z) p1 p2 hk I h) hk mv_X11_needElement lk_X11_186 rfl (by decide) (fun _ => rfl) (Nat.le_of_ble_eq_true rfl) rfl rfl dX11_contentLength_3 rfl (fun I1 => ?_)
  refine w_aload_n (v := k) C dX11_contentLength_6 rfl (q := 7) rfl ?_
  refine g_X11_5 C hk lk_X11_49 dX11_contentLength_7 (q := 10) rfl ?_
  refine w_gd (fun h2 => ?_)
  refine w_iload_n (v := p1) C dX11_contentLength_10 rfl (q := 11) rfl ?_
  refine w_callV (val := fun r3 => some (rf (zG Z) r3)) (mem := fun r3 => I) (st1 := fun r3 => [rf (zG Z) r3]) (As := [.int p1]) (st := []) (q := 14) C hR (fun x h => c_X4_bodyAt (zl Z) (zG Z) p1 (iO_of h2) I h) (iO_of h2) mv_X4_bodyAt lk_X11_173 rfl (by decide) (fun _ => rfl) (Nat.le_of_ble_eq_true rfl) rfl rfl dX11_contentLength_11 rfl (fun r3 => ?_)
  refine w_gd (fun h4 => ?_)
  refine w_iload_n (v := p2) C dX11_contentLength_14 rfl (q := 15) rfl ?_
  refine w_callV (val := fun r5 => some (.int r5)) (mem := fun r5 => I) (st1 := fun r5 => [.int r5]) (As := [.int p2]) (st := []) (q := 18) C hR (fun x h => c_X9_countIn (zl Z) (zG Z) p2 (iO_of h4) I h) (iO_of h4) mv_X9_countIn lk_X11_189 rfl (by decide) (fun _ => rfl) (Nat.le_of_ble_eq_true rfl) rfl rfl dX11_contentLength_15 rfl (fun r5 => ?_)
  exact w_iret C (hK _) rfl dX11_contentLength_18
theorem c_X11_contentLength (l : Launch) (G : Gx) {k : Nat} (p1 : Int32) (p2 : Int32) (hk : isO k 11) (I : Mem) {x : Int32} (h : m_X11_contentLength k p1 p2 I = some x) : Ct l G yX11_contentLength cX11_contentLength 3 (some (.int)) 3 64 [rf G k, .int p1, .int p2] I (some (.int x)) I := Ct.of (by decide +kernel) rfl (Nat.le_of_ble_eq_true rfl) ret_i (fun Z hG hl C hR hret => by
  subst hG
  exact m_X11_contentLength_ok (K := fun y => y = x) C hR k p1 p2 hk I (fun y hy => by subst hy; exact hret) x h rfl)
def m_X11_content_j26  (I : Mem) : Option (Int32) :=
  none
set_option maxRecDepth 100000 in
set_option maxHeartbeats 4000000 in
theorem m_X11_content_j26_ok {Z : Zx} {K : Int32 → Prop} (C : Cx Z cX11_content 4 RX11) (hR : RM Z 3 64) (I : Mem) (hK : ∀ y, K (y) → RetI Z cX11_content .char y I) : WF Z K (m_X11_content_j26  I) I 26 [none, none, none, none] [] := by
  unfold m_X11_content_j26
  exact w_none
def m_X11_content (k : Nat) (p1 : Int32) (p2 : Int32) (p3 : Int32) (I : Mem) : Option (Int32) :=
  Option.bind (m_X11_needElement k p1 p2 I) fun I1 => if p3 < 0 then (m_X11_content_j26  I) else (gd (iO ((I k 5).toNatClampNeg) 4) (Option.bind (m_X4_bodyAt ((I k 5).toNatClampNeg) p1 I) fun r3 => gd (iO r3 9) (Option.bind (m_X9_countIn r3 p2 I) fun r5 => if p3 < r5 then (gd (iO ((I k 5).toNatClampNeg) 4) (Option.bind (m_X4_bodyAt ((I k 5).toNatClampNeg) p1 I) fun r7 => gd (iO r7 9) (Option.bind (m_X9_letterIn r7 p2 p3 I) fun r9 => gd (okc r9) (some r9)))) else (m_X11_content_j26  I))))
set_option maxRecDepth 100000 in
set_option maxHeartbeats 4000000 in
theorem m_X11_content_ok {Z : Zx} {K : Int32 → Prop} (C : Cx Z cX11_content 4 RX11) (hR : RM Z 3 64) (k : Nat) (p1 : Int32) (p2 : Int32) (p3 : Int32) (hk : isO k 11) (I : Mem) (hK : ∀ y, K (y) → RetI Z cX11_content .char y I) : WF Z K (m_X11_content k p1 p2 p3 I) I 0 [some (rf (zG Z) k), some (.int p1), some (.int p2), some (.int p3)] [] := by
  unfold m_X11_content
  refine w_aload_n (v := k) C dX11_content_0 rfl (q := 1) rfl ?_
  refine w_iload_n (v := p1) C dX11_content_1 rfl (q := 2) rfl ?_
  refine w_iload_n (v := p2) C dX11_content_2 rfl (q := 3) rfl ?_
  refine w_callV (val := fun I1 => none) (mem := fun I1 => I) (st1 := fun I1 => []) (As := [.int p1, .int p2]) (st := []) (q := 6) C hR (fun x h => c_X11_needElement (zl Z) (zG Z) p1 p2 hk I h) hk mv_X11_needElement lk_X11_186 rfl (by decide) (fun _ => rfl) (Nat.le_of_ble_eq_true rfl) rfl rfl dX11_content_3 rfl (fun I1 => ?_)
  refine w_iload_n (v := p3) C dX11_content_6 rfl (q := 7) rfl ?_
  refine w_if_lt (tgt := 26) (q := 10) C dX11_content_7 (by decide) rfl (fun _ => ?_) (fun _ => ?_)
  · exact WF.less (L' := [none, none, none, none]) (m_X11_content_j26_ok C hR   I hK) trivial
  · refine w_iload_n (v := p3) C dX11_content_10 rfl (q := 11) rfl ?_
    refine w_aload_n (v := k) C dX11_content_11 rfl (q := 12) rfl ?_
    refine g_X11_5 C hk lk_X11_49 dX11_content_12 (q := 15) rfl ?_
    refine w_gd (fun h2 => ?_)
    refine w_iload_n (v := p1) C dX11_content_15 rfl (q := 16) rfl ?_
    refine w_callV (val := fun r3 => some (rf (zG Z) r3)) (mem := fun r3 => I) (st1 := fun r3 => [rf (zG Z) r3, .int p3]) (As := [.int p1]) (st := [.int p3]) (q := 19) C hR (fun x h => c_X4_bodyAt (zl Z) (zG Z) p1 (iO_of h2) I h) (iO_of h2) mv_X4_bodyAt lk_X11_173 rfl (by decide) (fun _ => rfl) (Nat.le_of_ble_eq_true rfl) rfl rfl dX11_content_16 rfl (fun r3 => ?_)
    refine w_gd (fun h4 => ?_)
    refine w_iload_n (v := p2) C dX11_content_19 rfl (q := 20) rfl ?_
    refine w_callV (val := fun r5 => some (.int r5)) (mem := fun r5 => I) (st1 := fun r5 => [.int r5, .int p3]) (As := [.int p2]) (st := [.int p3]) (q := 23) C hR (fun x h => c_X9_countIn (zl Z) (zG Z) p2 (iO_of h4) I h) (iO_of h4) mv_X9_countIn lk_X11_189 rfl (by decide) (fun _ => rfl) (Nat.le_of_ble_eq_true rfl) rfl rfl dX11_content_20 rfl (fun r5 => ?_)
    refine w_icmp_lt (tgt := 36) (q := 26) C dX11_content_23 (by decide) rfl (fun _ => ?_) (fun _ => ?_)
    · refine w_aload_n (v := k) C dX11_content_36 rfl (q := 37) rfl ?_
      refine g_X11_5 C hk lk_X11_49 dX11_content_37 (q := 40) rfl ?_
      refine w_gd (fun h6 => ?_)
      refine w_iload_n (v := p1) C dX11_content_40 rfl (q := 41) rfl ?_
      refine w_callV (val := fun r7 => some (rf (zG Z) r7)) (mem := fun r7 => I) (st1 := fun r7 => [rf (zG Z) r7]) (As := [.int p1]) (st := []) (q := 44) C hR (fun x h => c_X4_bodyAt (zl Z) (zG Z) p1 (iO_of h6) I h) (iO_of h6) mv_X4_bodyAt lk_X11_173 rfl (by decide) (fun _ => rfl) (Nat.le_of_ble_eq_true rfl) rfl rfl dX11_content_41 rfl (fun r7 => ?_)
      refine w_gd (fun h8 => ?_)
      refine w_iload_n (v := p2) C dX11_content_44 rfl (q := 45) rfl ?_
      refine w_iload_n (v := p3) C dX11_content_45 rfl (q := 46) rfl ?_
      refine w_callV (val := fun r9 => some (.int r9)) (mem := fun r9 => I) (st1 := fun r9 => [.int r9]) (As := [.int p2, .int p3]) (st := []) (q := 49) C hR (fun x h => c_X9_letterIn (zl Z) (zG Z) p2 p3 (iO_of h8) I h) (iO_of h8) mv_X9_letterIn lk_X11_197 rfl (by decide) (fun _ => rfl) (Nat.le_of_ble_eq_true rfl) rfl rfl dX11_content_46 rfl (fun r9 => ?_)
      refine w_gd (fun h10 => ?_)
      exact w_iret C (hK _) (okc_n h10).1 dX11_content_49
    · exact WF.less (L' := [none, none, none, none]) (m_X11_content_j26_ok C hR   I hK) trivial
theorem c_X11_content (l : Launch) (G : Gx) {k : Nat} (p1 : Int32) (p2 : Int32) (p3 : Int32) (hk : isO k 11) (I : Mem) {x : Int32} (h : m_X11_content k p1 p2 p3 I = some x) : Ct l G yX11_content cX11_content 4 (some (.char)) 3 64 [rf G k, .int p1, .int p2, .int p3] I (some (.int x)) I := Ct.of (by decide +kernel) rfl (Nat.le_of_ble_eq_true rfl) ret_i (fun Z hG hl C hR hret => by
  subst hG
  exact m_X11_content_ok (K := fun y => y = x) C hR k p1 p2 p3 hk I (fun y hy => by subst hy; exact hret) x h rfl)
def m_X9_itemNumber (k : Nat) (I : Mem) : Option (Int32) :=
  some (I k 5)
set_option maxRecDepth 100000 in
set_option maxHeartbeats 4000000 in
theorem m_X9_itemNumber_ok {Z : Zx} {K : Int32 → Prop} (C : Cx Z cX9_itemNumber 1 RX9) (hR : RM Z 0 0) (k : Nat) (hk : isO k 9) (I : Mem) (hK : ∀ y, K (y) → RetI Z cX9_itemNumber .int y I) : WF Z K (m_X9_itemNumber k I) I 0 [some (rf (zG Z) k)] [] := by
  unfold m_X9_itemNumber
  refine w_aload_n (v := k) C dX9_itemNumber_0 rfl (q := 1) rfl ?_
  refine g_X9_5 C hk lk_X9_30 dX9_itemNumber_1 (q := 4) rfl ?_
  exact w_iret C (hK _) rfl dX9_itemNumber_4
theorem c_X9_itemNumber (l : Launch) (G : Gx) {k : Nat} (hk : isO k 9) (I : Mem) {x : Int32} (h : m_X9_itemNumber k I = some x) : Ct l G yX9_itemNumber cX9_itemNumber 1 (some (.int)) 0 0 [rf G k] I (some (.int x)) I := Ct.of (by decide +kernel) rfl (Nat.le_of_ble_eq_true rfl) ret_i (fun Z hG hl C hR hret => by
  subst hG
  exact m_X9_itemNumber_ok (K := fun y => y = x) C hR k hk I (fun y hy => by subst hy; exact hret) x h rfl)
def m_X11_item (k : Nat) (p1 : Int32) (I : Mem) : Option (Int32) :=
  Option.bind (m_X11_needSegment k p1 I) fun I1 => gd (iO ((I k 5).toNatClampNeg) 4) (Option.bind (m_X4_bodyAt ((I k 5).toNatClampNeg) p1 I) fun r3 => gd (iO r3 9) (Option.bind (m_X9_itemNumber r3 I) fun r5 => some r5))
set_option maxRecDepth 100000 in
set_option maxHeartbeats 4000000 in
theorem m_X11_item_ok {Z : Zx} {K : Int32 → Prop} (C : Cx Z cX11_item 2 RX11) (hR : RM Z 2 42) (k : Nat) (p1 : Int32) (hk : isO k 11) (I : Mem) (hK : ∀ y, K (y) → RetI Z cX11_item .int y I) : WF Z K (m_X11_item k p1 I) I 0 [some (rf (zG Z) k), some (.int p1)] [] := by
  unfold m_X11_item
  refine w_aload_n (v := k) C dX11_item_0 rfl (q := 1) rfl ?_
  refine w_iload_n (v := p1) C dX11_item_1 rfl (q := 2) rfl ?_
  refine w_callV (val := fun I1 => none) (mem := fun I1 => I) (st1 := fun I1 => []) (As := [.int p1]) (st := []) (q := 5) C hR (fun x h => c_X11_needSegment (zl Z) (zG Z) p1 hk I h) hk mv_X11_needSegment lk_X11_170 rfl (by decide) (fun _ => rfl) (Nat.le_of_ble_eq_true rfl) rfl rfl dX11_item_2 rfl (fun I1 => ?_)
  refine w_aload_n (v := k) C dX11_item_5 rfl (q := 6) rfl ?_
  refine g_X11_5 C hk lk_X11_49 dX11_item_6 (q := 9) rfl ?_
  refine w_gd (fun h2 => ?_)
  refine w_iload_n (v := p1) C dX11_item_9 rfl (q := 10) rfl ?_
  refine w_callV (val := fun r3 => some (rf (zG Z) r3)) (mem := fun r3 => I) (st1 := fun r3 => [rf (zG Z) r3]) (As := [.int p1]) (st := []) (q := 13) C hR (fun x h => c_X4_bodyAt (zl Z) (zG Z) p1 (iO_of h2) I h) (iO_of h2) mv_X4_bodyAt lk_X11_173 rfl (by decide) (fun _ => rfl) (Nat.le_of_ble_eq_true rfl) rfl rfl dX11_item_10 rfl (fun r3 => ?_)
  refine w_gd (fun h4 => ?_)
  refine w_callV (val := fun r5 => some (.int r5)) (mem := fun r5 => I) (st1 := fun r5 => [.int r5]) (As := []) (st := []) (q := 16) C hR (fun x h => c_X9_itemNumber (zl Z) (zG Z)  (iO_of h4) I h) (iO_of h4) mv_X9_itemNumber lk_X11_201 rfl (by decide) (fun _ => rfl) (Nat.le_of_ble_eq_true rfl) rfl rfl dX11_item_13 rfl (fun r5 => ?_)
  exact w_iret C (hK _) rfl dX11_item_16
theorem c_X11_item (l : Launch) (G : Gx) {k : Nat} (p1 : Int32) (hk : isO k 11) (I : Mem) {x : Int32} (h : m_X11_item k p1 I = some x) : Ct l G yX11_item cX11_item 2 (some (.int)) 2 42 [rf G k, .int p1] I (some (.int x)) I := Ct.of (by decide +kernel) rfl (Nat.le_of_ble_eq_true rfl) ret_i (fun Z hG hl C hR hret => by
  subst hG
  exact m_X11_item_ok (K := fun y => y = x) C hR k p1 hk I (fun y hy => by subst hy; exact hret) x h rfl)
def m_X9_passNumber (k : Nat) (I : Mem) : Option (Int32) :=
  some (I k 6)
set_option maxRecDepth 100000 in
set_option maxHeartbeats 4000000 in
theorem m_X9_passNumber_ok {Z : Zx} {K : Int32 → Prop} (C : Cx Z cX9_passNumber 1 RX9) (hR : RM Z 0 0) (k : Nat) (hk : isO k 9) (I : Mem) (hK : ∀ y, K (y) → RetI Z cX9_passNumber .int y I) : WF Z K (m_X9_passNumber k I) I 0 [some (rf (zG Z) k)] [] := by
  unfold m_X9_passNumber
  refine w_aload_n (v := k) C dX9_passNumber_0 rfl (q := 1) rfl ?_
  refine g_X9_6 C hk lk_X9_33 dX9_passNumber_1 (q := 4) rfl ?_
  exact w_iret C (hK _) rfl dX9_passNumber_4
theorem c_X9_passNumber (l : Launch) (G : Gx) {k : Nat} (hk : isO k 9) (I : Mem) {x : Int32} (h : m_X9_passNumber k I = some x) : Ct l G yX9_passNumber cX9_passNumber 1 (some (.int)) 0 0 [rf G k] I (some (.int x)) I := Ct.of (by decide +kernel) rfl (Nat.le_of_ble_eq_true rfl) ret_i (fun Z hG hl C hR hret => by
  subst hG
  exact m_X9_passNumber_ok (K := fun y => y = x) C hR k hk I (fun y hy => by subst hy; exact hret) x h rfl)
def m_X11_pass (k : Nat) (p1 : Int32) (I : Mem) : Option (Int32) :=
  Option.bind (m_X11_needSegment k p1 I) fun I1 => gd (iO ((I k 5).toNatClampNeg) 4) (Option.bind (m_X4_bodyAt ((I k 5).toNatClampNeg) p1 I) fun r3 => gd (iO r3 9) (Option.bind (m_X9_passNumber r3 I) fun r5 => some r5))
set_option maxRecDepth 100000 in
set_option maxHeartbeats 4000000 in
theorem m_X11_pass_ok {Z : Zx} {K : Int32 → Prop} (C : Cx Z cX11_pass 2 RX11) (hR : RM Z 2 42) (k : Nat) (p1 : Int32) (hk : isO k 11) (I : Mem) (hK : ∀ y, K (y) → RetI Z cX11_pass .int y I) : WF Z K (m_X11_pass k p1 I) I 0 [some (rf (zG Z) k), some (.int p1)] [] := by
  unfold m_X11_pass
  refine w_aload_n (v := k) C dX11_pass_0 rfl (q := 1) rfl ?_
  refine w_iload_n (v := p1) C dX11_pass_1 rfl (q := 2) rfl ?_
  refine w_callV (val := fun I1 => none) (mem := fun I1 => I) (st1 := fun I1 => []) (As := [.int p1]) (st := []) (q := 5) C hR (fun x h => c_X11_needSegment (zl Z) (zG Z) p1 hk I h) hk mv_X11_needSegment lk_X11_170 rfl (by decide) (fun _ => rfl) (Nat.le_of_ble_eq_true rfl) rfl rfl dX11_pass_2 rfl (fun I1 => ?_)
  refine w_aload_n (v := k) C dX11_pass_5 rfl (q := 6) rfl ?_
  refine g_X11_5 C hk lk_X11_49 dX11_pass_6 (q := 9) rfl ?_
  refine w_gd (fun h2 => ?_)
  refine w_iload_n (v := p1) C dX11_pass_9 rfl (q := 10) rfl ?_
  refine w_callV (val := fun r3 => some (rf (zG Z) r3)) (mem := fun r3 => I) (st1 := fun r3 => [rf (zG Z) r3]) (As := [.int p1]) (st := []) (q := 13) C hR (fun x h => c_X4_bodyAt (zl Z) (zG Z) p1 (iO_of h2) I h) (iO_of h2) mv_X4_bodyAt lk_X11_173 rfl (by decide) (fun _ => rfl) (Nat.le_of_ble_eq_true rfl) rfl rfl dX11_pass_10 rfl (fun r3 => ?_)
  refine w_gd (fun h4 => ?_)
  refine w_callV (val := fun r5 => some (.int r5)) (mem := fun r5 => I) (st1 := fun r5 => [.int r5]) (As := []) (st := []) (q := 16) C hR (fun x h => c_X9_passNumber (zl Z) (zG Z)  (iO_of h4) I h) (iO_of h4) mv_X9_passNumber lk_X11_204 rfl (by decide) (fun _ => rfl) (Nat.le_of_ble_eq_true rfl) rfl rfl dX11_pass_13 rfl (fun r5 => ?_)
  exact w_iret C (hK _) rfl dX11_pass_16
theorem c_X11_pass (l : Launch) (G : Gx) {k : Nat} (p1 : Int32) (hk : isO k 11) (I : Mem) {x : Int32} (h : m_X11_pass k p1 I = some x) : Ct l G yX11_pass cX11_pass 2 (some (.int)) 2 42 [rf G k, .int p1] I (some (.int x)) I := Ct.of (by decide +kernel) rfl (Nat.le_of_ble_eq_true rfl) ret_i (fun Z hG hl C hR hret => by
  subst hG
  exact m_X11_pass_ok (K := fun y => y = x) C hR k p1 hk I (fun y hy => by subst hy; exact hret) x h rfl)
def m_X6_begin (k : Nat) (p1 : Int32) (p2 : Int32) (I : Mem) : Option (Mem) :=
  bnd (ms I k 1 p1) fun I1 => gd (okc p2) (bnd (ms I1 k 2 p2) fun I2 => bnd (ms I2 k 3 0) fun I4 => bnd (ms I4 k 4 (-1)) fun I5 => some I5)
set_option maxRecDepth 100000 in
set_option maxHeartbeats 4000000 in
theorem m_X6_begin_ok {Z : Zx} {K : Mem → Prop} (C : Cx Z cX6_begin 3 RX6) (hR : RM Z 0 0) (k : Nat) (p1 : Int32) (p2 : Int32) (hk : isO k 6) (I : Mem) (hK : ∀ y, K (y) → RetV Z cX6_begin y) : WF Z K (m_X6_begin k p1 p2 I) I 0 [some (rf (zG Z) k), some (.int p1), some (.int p2)] [] := by
  unfold m_X6_begin
  refine w_aload_n (v := k) C dX6_begin_0 rfl (q := 1) rfl ?_
  refine w_iload_n (v := p1) C dX6_begin_1 rfl (q := 2) rfl ?_
  refine p_X6_1 C hk  lk_X6_15 dX6_begin_2 (q := 5) rfl (fun I1 => ?_)
  refine w_aload_n (v := k) C dX6_begin_5 rfl (q := 6) rfl ?_
  refine w_iload_n (v := p2) C dX6_begin_6 rfl (q := 7) rfl ?_
  refine w_gd (fun h3 => ?_)
  refine p_X6_2 C hk h3 lk_X6_19 dX6_begin_7 (q := 10) rfl (fun I2 => ?_)
  refine w_aload_n (v := k) C dX6_begin_10 rfl (q := 11) rfl ?_
  refine w_iconst (v := (0)) C dX6_begin_11 (by decide) (q := 12) rfl ?_
  refine p_X6_3 C hk  lk_X6_23 dX6_begin_12 (q := 15) rfl (fun I4 => ?_)
  refine w_aload_n (v := k) C dX6_begin_15 rfl (q := 16) rfl ?_
  refine w_iconst (v := (-1)) C dX6_begin_16 (by decide) (q := 17) rfl ?_
  refine p_X6_4 C hk  lk_X6_26 dX6_begin_17 (q := 20) rfl (fun I5 => ?_)
  exact w_vret C (hK _) dX6_begin_20
theorem c_X6_begin (l : Launch) (G : Gx) {k : Nat} (p1 : Int32) (p2 : Int32) (hk : isO k 6) (I : Mem) {x : Mem} (h : m_X6_begin k p1 p2 I = some x) : Ct l G yX6_begin cX6_begin 3 none 0 0 [rf G k, .int p1, .int p2] I (none) x := Ct.of (by decide +kernel) rfl (Nat.le_of_ble_eq_true rfl) ret_v (fun Z hG hl C hR hret => by
  subst hG
  exact m_X6_begin_ok (K := fun y => y = x) C hR k p1 p2 hk I (fun y hy => by subst hy; exact hret) x h rfl)
def m_X7_append (k : Nat) (p1 : Int32) (p2 : Int32) (I : Mem) : Option (Int32 × Mem) :=
  if I k 2 < 10 then (gd (inb (I k 2) 10) (Option.bind (m_X6_begin ((k + 1) + (3 + 2 * (I k 2).toNatClampNeg)) p1 p2 I) fun I2 => bnd (ms I2 k 2 ((I2 k 2) + 1)) fun I3 => some (((I3 k 2) - 1, I3)))) else (some ((I k 2, I)))
set_option maxRecDepth 100000 in
set_option maxHeartbeats 4000000 in
theorem m_X7_append_ok {Z : Zx} {K : (Int32 × Mem) → Prop} (C : Cx Z cX7_append 3 RX7) (hR : RM Z 1 22) (k : Nat) (p1 : Int32) (p2 : Int32) (hk : isO k 7) (I : Mem) (hK : ∀ y, K (y) → RetI Z cX7_append .int y.1 y.2) : WF Z K (m_X7_append k p1 p2 I) I 0 [some (rf (zG Z) k), some (.int p1), some (.int p2)] [] := by
  unfold m_X7_append
  refine w_aload_n (v := k) C dX7_append_0 rfl (q := 1) rfl ?_
  refine g_X7_2 C hk lk_X7_22 dX7_append_1 (q := 4) rfl ?_
  refine w_bipush (v := (10)) C dX7_append_4 (by decide) (q := 6) rfl ?_
  refine w_icmp_lt (tgt := 14) (q := 9) C dX7_append_6 (by decide) rfl (fun _ => ?_) (fun _ => ?_)
  · refine w_aload_n (v := k) C dX7_append_14 rfl (q := 15) rfl ?_
    refine g_X7_0 C hk lk_X7_11 dX7_append_15 (q := 18) rfl ?_
    refine w_aload_n (v := k) C dX7_append_18 rfl (q := 19) rfl ?_
    refine g_X7_2 C hk lk_X7_22 dX7_append_19 (q := 22) rfl ?_
    refine w_aald (t := 2) C (st_X7_0 hk).2 rfl (el_Rule (st_X7_0 hk).2) dX7_append_22 (q := 23) rfl (fun _ h1 => ?_)
    refine w_iload_n (v := p1) C dX7_append_23 rfl (q := 24) rfl ?_
    refine w_iload_n (v := p2) C dX7_append_24 rfl (q := 25) rfl ?_
    refine w_callV (val := fun I2 => none) (mem := fun I2 => I2) (st1 := fun I2 => []) (As := [.int p1, .int p2]) (st := []) (q := 28) C hR (fun x h => c_X6_begin (zl Z) (zG Z) p1 p2 h1 I h) h1 mv_X6_begin lk_X7_26 rfl (by decide) (fun _ => rfl) (Nat.le_of_ble_eq_true rfl) rfl rfl dX7_append_25 rfl (fun I2 => ?_)
    refine w_aload_n (v := k) C dX7_append_28 rfl (q := 29) rfl ?_
    refine w_dup C dX7_append_29 rfl (q := 30) rfl ?_
    refine g_X7_2 C hk lk_X7_22 dX7_append_30 (q := 33) rfl ?_
    refine w_iconst (v := (1)) C dX7_append_33 (by decide) (q := 34) rfl ?_
    refine w_iadd C dX7_append_34 (q := 35) rfl ?_
    refine p_X7_2 C hk  lk_X7_22 dX7_append_35 (q := 38) rfl (fun I3 => ?_)
    refine w_aload_n (v := k) C dX7_append_38 rfl (q := 39) rfl ?_
    refine g_X7_2 C hk lk_X7_22 dX7_append_39 (q := 42) rfl ?_
    refine w_iconst (v := (1)) C dX7_append_42 (by decide) (q := 43) rfl ?_
    refine w_isub C dX7_append_43 (q := 44) rfl ?_
    exact w_iret C (hK _) rfl dX7_append_44
  · refine w_aload_n (v := k) C dX7_append_9 rfl (q := 10) rfl ?_
    refine g_X7_2 C hk lk_X7_22 dX7_append_10 (q := 13) rfl ?_
    exact w_iret C (hK _) rfl dX7_append_13
theorem c_X7_append (l : Launch) (G : Gx) {k : Nat} (p1 : Int32) (p2 : Int32) (hk : isO k 7) (I : Mem) {x : Int32 × Mem} (h : m_X7_append k p1 p2 I = some x) : Ct l G yX7_append cX7_append 3 (some (.int)) 1 22 [rf G k, .int p1, .int p2] I (some (.int x.1)) x.2 := Ct.of (by decide +kernel) rfl (Nat.le_of_ble_eq_true rfl) ret_i (fun Z hG hl C hR hret => by
  subst hG
  exact m_X7_append_ok (K := fun y => y = x) C hR k p1 p2 hk I (fun y hy => by subst hy; exact hret) x h rfl)
def m_X7_count (k : Nat) (I : Mem) : Option (Int32) :=
  some (I k 2)
set_option maxRecDepth 100000 in
set_option maxHeartbeats 4000000 in
theorem m_X7_count_ok {Z : Zx} {K : Int32 → Prop} (C : Cx Z cX7_count 1 RX7) (hR : RM Z 0 0) (k : Nat) (hk : isO k 7) (I : Mem) (hK : ∀ y, K (y) → RetI Z cX7_count .int y I) : WF Z K (m_X7_count k I) I 0 [some (rf (zG Z) k)] [] := by
  unfold m_X7_count
  refine w_aload_n (v := k) C dX7_count_0 rfl (q := 1) rfl ?_
  refine g_X7_2 C hk lk_X7_22 dX7_count_1 (q := 4) rfl ?_
  exact w_iret C (hK _) rfl dX7_count_4
theorem c_X7_count (l : Launch) (G : Gx) {k : Nat} (hk : isO k 7) (I : Mem) {x : Int32} (h : m_X7_count k I = some x) : Ct l G yX7_count cX7_count 1 (some (.int)) 0 0 [rf G k] I (some (.int x)) I := Ct.of (by decide +kernel) rfl (Nat.le_of_ble_eq_true rfl) ret_i (fun Z hG hl C hR hret => by
  subst hG
  exact m_X7_count_ok (K := fun y => y = x) C hR k hk I (fun y hy => by subst hy; exact hret) x h rfl)
def m_X11_addRule_j15  (I : Mem) : Option (Int32 × Mem) :=
  none
set_option maxRecDepth 100000 in
set_option maxHeartbeats 4000000 in
theorem m_X11_addRule_j15_ok {Z : Zx} {K : (Int32 × Mem) → Prop} (C : Cx Z cX11_addRule 3 RX11) (hR : RM Z 2 44) (I : Mem) (hK : ∀ y, K (y) → RetI Z cX11_addRule .int y.1 y.2) : WF Z K (m_X11_addRule_j15  I) I 15 [none, none, none] [] := by
  unfold m_X11_addRule_j15
  exact w_none
def m_X11_addRule (k : Nat) (p1 : Int32) (p2 : Int32) (I : Mem) : Option (Int32 × Mem) :=
  if p1 < 0 then (m_X11_addRule_j15  I) else (Option.bind (m_X8_itemCount (k + 1) I) fun r1 => if p1 < r1 then (Option.bind (m_X11_isBodyTag p2 I) fun r2 => if r2 = 0 then (none) else (Option.bind (m_X7_count (k + 38) I) fun r3 => if r3 < 10 then (Option.bind (m_X7_append (k + 38) p1 p2 I) fun r4 => some ((r4.1, r4.2))) else (none))) else (m_X11_addRule_j15  I))
set_option maxRecDepth 100000 in
set_option maxHeartbeats 4000000 in
theorem m_X11_addRule_ok {Z : Zx} {K : (Int32 × Mem) → Prop} (C : Cx Z cX11_addRule 3 RX11) (hR : RM Z 2 44) (k : Nat) (p1 : Int32) (p2 : Int32) (hk : isO k 11) (I : Mem) (hK : ∀ y, K (y) → RetI Z cX11_addRule .int y.1 y.2) : WF Z K (m_X11_addRule k p1 p2 I) I 0 [some (rf (zG Z) k), some (.int p1), some (.int p2)] [] := by
  unfold m_X11_addRule
  refine w_iload_n (v := p1) C dX11_addRule_0 rfl (q := 1) rfl ?_
  refine w_if_lt (tgt := 15) (q := 4) C dX11_addRule_1 (by decide) rfl (fun _ => ?_) (fun _ => ?_)
  · exact WF.less (L' := [none, none, none]) (m_X11_addRule_j15_ok C hR   I hK) trivial
  · refine w_iload_n (v := p1) C dX11_addRule_4 rfl (q := 5) rfl ?_
    refine w_aload_n (v := k) C dX11_addRule_5 rfl (q := 6) rfl ?_
    refine g_X11_0 C hk lk_X11_12 dX11_addRule_6 (q := 9) rfl ?_
    refine w_callV (val := fun r1 => some (.int r1)) (mem := fun r1 => I) (st1 := fun r1 => [.int r1, .int p1]) (As := []) (st := [.int p1]) (q := 12) C hR (fun x h => c_X8_itemCount (zl Z) (zG Z)  (st_X11_0 hk).2 I h) (st_X11_0 hk).2 mv_X8_itemCount lk_X11_77 rfl (by decide) (fun _ => rfl) (Nat.le_of_ble_eq_true rfl) rfl rfl dX11_addRule_9 rfl (fun r1 => ?_)
    refine w_icmp_lt (tgt := 25) (q := 15) C dX11_addRule_12 (by decide) rfl (fun _ => ?_) (fun _ => ?_)
    · refine w_iload_n (v := p2) C dX11_addRule_25 rfl (q := 26) rfl ?_
      refine w_callS (val := fun r2 => some (.int r2)) (mem := fun r2 => I) (st1 := fun r2 => [.int r2]) (As := [.int p2]) (st := []) (q := 29) C hR (fun x h => c_X11_isBodyTag (zl Z) (zG Z) p2  I h) mv_X11_isBodyTag lk_X11_62 rfl (by decide) (fun _ => rfl) (Nat.le_of_ble_eq_true rfl) rfl rfl dX11_addRule_26 rfl (fun r2 => ?_)
      refine w_if_ne (tgt := 42) (q := 32) C dX11_addRule_29 (by decide) rfl (fun _ => ?_) (fun _ => ?_)
      · exact w_none
      · refine w_aload_n (v := k) C dX11_addRule_42 rfl (q := 43) rfl ?_
        refine g_X11_4 C hk lk_X11_42 dX11_addRule_43 (q := 46) rfl ?_
        refine w_callV (val := fun r3 => some (.int r3)) (mem := fun r3 => I) (st1 := fun r3 => [.int r3]) (As := []) (st := []) (q := 49) C hR (fun x h => c_X7_count (zl Z) (zG Z)  (st_X11_4 hk).2 I h) (st_X11_4 hk).2 mv_X7_count lk_X11_211 rfl (by decide) (fun _ => rfl) (Nat.le_of_ble_eq_true rfl) rfl rfl dX11_addRule_46 rfl (fun r3 => ?_)
        refine w_bipush (v := (10)) C dX11_addRule_49 (by decide) (q := 51) rfl ?_
        refine w_icmp_lt (tgt := 64) (q := 54) C dX11_addRule_51 (by decide) rfl (fun _ => ?_) (fun _ => ?_)
        · refine w_aload_n (v := k) C dX11_addRule_64 rfl (q := 65) rfl ?_
          refine g_X11_4 C hk lk_X11_42 dX11_addRule_65 (q := 68) rfl ?_
          refine w_iload_n (v := p1) C dX11_addRule_68 rfl (q := 69) rfl ?_
          refine w_iload_n (v := p2) C dX11_addRule_69 rfl (q := 70) rfl ?_
          refine w_callV (val := fun r4 => some (.int r4.1)) (mem := fun r4 => r4.2) (st1 := fun r4 => [.int r4.1]) (As := [.int p1, .int p2]) (st := []) (q := 73) C hR (fun x h => c_X7_append (zl Z) (zG Z) p1 p2 (st_X11_4 hk).2 I h) (st_X11_4 hk).2 mv_X7_append lk_X11_214 rfl (by decide) (fun _ => rfl) (Nat.le_of_ble_eq_true rfl) rfl rfl dX11_addRule_70 rfl (fun r4 => ?_)
          exact w_iret C (hK _) rfl dX11_addRule_73
        · exact w_none
    · exact WF.less (L' := [none, none, none]) (m_X11_addRule_j15_ok C hR   I hK) trivial
theorem c_X11_addRule (l : Launch) (G : Gx) {k : Nat} (p1 : Int32) (p2 : Int32) (hk : isO k 11) (I : Mem) {x : Int32 × Mem} (h : m_X11_addRule k p1 p2 I = some x) : Ct l G yX11_addRule cX11_addRule 3 (some (.int)) 2 44 [rf G k, .int p1, .int p2] I (some (.int x.1)) x.2 := Ct.of (by decide +kernel) rfl (Nat.le_of_ble_eq_true rfl) ret_i (fun Z hG hl C hR hret => by
  subst hG
  exact m_X11_addRule_ok (K := fun y => y = x) C hR k p1 p2 hk I (fun y hy => by subst hy; exact hret) x h rfl)
def m_X11_needRule_j15  (I : Mem) : Option (Unit) :=
  none
set_option maxRecDepth 100000 in
set_option maxHeartbeats 4000000 in
theorem m_X11_needRule_j15_ok {Z : Zx} {K : Unit → Prop} (C : Cx Z cX11_needRule 2 RX11) (hR : RM Z 1 20) (I : Mem) (hK : ∀ y, K (y) → RetV Z cX11_needRule I) : WF Z K (m_X11_needRule_j15  I) I 15 [none, none] [] := by
  unfold m_X11_needRule_j15
  exact w_none
def m_X11_needRule (k : Nat) (p1 : Int32) (I : Mem) : Option (Unit) :=
  if p1 < 0 then (m_X11_needRule_j15  I) else (Option.bind (m_X7_count (k + 38) I) fun r1 => if p1 < r1 then (some (())) else (m_X11_needRule_j15  I))
set_option maxRecDepth 100000 in
set_option maxHeartbeats 4000000 in
theorem m_X11_needRule_ok {Z : Zx} {K : Unit → Prop} (C : Cx Z cX11_needRule 2 RX11) (hR : RM Z 1 20) (k : Nat) (p1 : Int32) (hk : isO k 11) (I : Mem) (hK : ∀ y, K (y) → RetV Z cX11_needRule I) : WF Z K (m_X11_needRule k p1 I) I 0 [some (rf (zG Z) k), some (.int p1)] [] := by
  unfold m_X11_needRule
  refine w_iload_n (v := p1) C dX11_needRule_0 rfl (q := 1) rfl ?_
  refine w_if_lt (tgt := 15) (q := 4) C dX11_needRule_1 (by decide) rfl (fun _ => ?_) (fun _ => ?_)
  · exact WF.less (L' := [none, none]) (m_X11_needRule_j15_ok C hR   I hK) trivial
  · refine w_iload_n (v := p1) C dX11_needRule_4 rfl (q := 5) rfl ?_
    refine w_aload_n (v := k) C dX11_needRule_5 rfl (q := 6) rfl ?_
    refine g_X11_4 C hk lk_X11_42 dX11_needRule_6 (q := 9) rfl ?_
    refine w_callV (val := fun r1 => some (.int r1)) (mem := fun r1 => I) (st1 := fun r1 => [.int r1, .int p1]) (As := []) (st := [.int p1]) (q := 12) C hR (fun x h => c_X7_count (zl Z) (zG Z)  (st_X11_4 hk).2 I h) (st_X11_4 hk).2 mv_X7_count lk_X11_211 rfl (by decide) (fun _ => rfl) (Nat.le_of_ble_eq_true rfl) rfl rfl dX11_needRule_9 rfl (fun r1 => ?_)
    refine w_icmp_lt (tgt := 26) (q := 15) C dX11_needRule_12 (by decide) rfl (fun _ => ?_) (fun _ => ?_)
    · exact w_vret C (hK _) dX11_needRule_26
    · exact WF.less (L' := [none, none]) (m_X11_needRule_j15_ok C hR   I hK) trivial
theorem c_X11_needRule (l : Launch) (G : Gx) {k : Nat} (p1 : Int32) (hk : isO k 11) (I : Mem) {x : Unit} (h : m_X11_needRule k p1 I = some x) : Ct l G yX11_needRule cX11_needRule 2 none 1 20 [rf G k, .int p1] I (none) I := Ct.of (by decide +kernel) rfl (Nat.le_of_ble_eq_true rfl) ret_v (fun Z hG hl C hR hret => by
  subst hG
  exact m_X11_needRule_ok (K := fun y => y = x) C hR k p1 hk I (fun y hy => by subst hy; exact hret) x h rfl)
def m_X6_appendField_j28 (k : Nat) (I : Mem) : Option (Int32 × Mem) :=
  some ((I k 3, I))
set_option maxRecDepth 100000 in
set_option maxHeartbeats 4000000 in
theorem m_X6_appendField_j28_ok {Z : Zx} {K : (Int32 × Mem) → Prop} (C : Cx Z cX6_appendField 2 RX6) (hR : RM Z 0 0) (k : Nat) (hk : isO k 6) (I : Mem) (hK : ∀ y, K (y) → RetI Z cX6_appendField .int y.1 y.2) : WF Z K (m_X6_appendField_j28 k I) I 28 [some (rf (zG Z) k), none] [] := by
  unfold m_X6_appendField_j28
  refine w_aload_n (v := k) C dX6_appendField_28 rfl (q := 29) rfl ?_
  refine g_X6_3 C hk lk_X6_23 dX6_appendField_29 (q := 32) rfl ?_
  exact w_iret C (hK _) rfl dX6_appendField_32
def m_X6_appendField (k : Nat) (p1 : Int32) (I : Mem) : Option (Int32 × Mem) :=
  if 5 ≤ I k 3 then (m_X6_appendField_j28 k I) else (gd (inb (I k 3) 5) (bnd (ms I (k + 1) (I k 3).toNatClampNeg p1) fun I1 => bnd (ms I1 k 3 ((I1 k 3) + 1)) fun I2 => m_X6_appendField_j28 k I2))
set_option maxRecDepth 100000 in
set_option maxHeartbeats 4000000 in
theorem m_X6_appendField_ok {Z : Zx} {K : (Int32 × Mem) → Prop} (C : Cx Z cX6_appendField 2 RX6) (hR : RM Z 0 0) (k : Nat) (p1 : Int32) (hk : isO k 6) (I : Mem) (hK : ∀ y, K (y) → RetI Z cX6_appendField .int y.1 y.2) : WF Z K (m_X6_appendField k p1 I) I 0 [some (rf (zG Z) k), some (.int p1)] [] := by
  unfold m_X6_appendField
  refine w_aload_n (v := k) C dX6_appendField_0 rfl (q := 1) rfl ?_
  refine g_X6_3 C hk lk_X6_23 dX6_appendField_1 (q := 4) rfl ?_
  refine w_iconst (v := (5)) C dX6_appendField_4 (by decide) (q := 5) rfl ?_
  refine w_icmp_ge (tgt := 28) (q := 8) C dX6_appendField_5 (by decide) rfl (fun _ => ?_) (fun _ => ?_)
  · exact WF.less (L' := [some (rf (zG Z) k), none]) (m_X6_appendField_j28_ok C hR k hk I hK) ⟨rfl, trivial⟩
  · refine w_aload_n (v := k) C dX6_appendField_8 rfl (q := 9) rfl ?_
    refine g_X6_0 C hk lk_X6_9 dX6_appendField_9 (q := 12) rfl ?_
    refine w_aload_n (v := k) C dX6_appendField_12 rfl (q := 13) rfl ?_
    refine g_X6_3 C hk lk_X6_23 dX6_appendField_13 (q := 16) rfl ?_
    refine w_iload_n (v := p1) C dX6_appendField_16 rfl (q := 17) rfl ?_
    refine w_iast C (st_X6_0 hk).2 dX6_appendField_17 (q := 18) rfl (fun _ I1 => ?_)
    refine w_aload_n (v := k) C dX6_appendField_18 rfl (q := 19) rfl ?_
    refine w_dup C dX6_appendField_19 rfl (q := 20) rfl ?_
    refine g_X6_3 C hk lk_X6_23 dX6_appendField_20 (q := 23) rfl ?_
    refine w_iconst (v := (1)) C dX6_appendField_23 (by decide) (q := 24) rfl ?_
    refine w_iadd C dX6_appendField_24 (q := 25) rfl ?_
    refine p_X6_3 C hk  lk_X6_23 dX6_appendField_25 (q := 28) rfl (fun I2 => ?_)
    exact WF.less (L' := [some (rf (zG Z) k), none]) (m_X6_appendField_j28_ok C hR k hk I2 hK) ⟨rfl, trivial⟩
theorem c_X6_appendField (l : Launch) (G : Gx) {k : Nat} (p1 : Int32) (hk : isO k 6) (I : Mem) {x : Int32 × Mem} (h : m_X6_appendField k p1 I = some x) : Ct l G yX6_appendField cX6_appendField 2 (some (.int)) 0 0 [rf G k, .int p1] I (some (.int x.1)) x.2 := Ct.of (by decide +kernel) rfl (Nat.le_of_ble_eq_true rfl) ret_i (fun Z hG hl C hR hret => by
  subst hG
  exact m_X6_appendField_ok (K := fun y => y = x) C hR k p1 hk I (fun y hy => by subst hy; exact hret) x h rfl)
def m_X6_fieldCount (k : Nat) (I : Mem) : Option (Int32) :=
  some (I k 3)
set_option maxRecDepth 100000 in
set_option maxHeartbeats 4000000 in
theorem m_X6_fieldCount_ok {Z : Zx} {K : Int32 → Prop} (C : Cx Z cX6_fieldCount 1 RX6) (hR : RM Z 0 0) (k : Nat) (hk : isO k 6) (I : Mem) (hK : ∀ y, K (y) → RetI Z cX6_fieldCount .int y I) : WF Z K (m_X6_fieldCount k I) I 0 [some (rf (zG Z) k)] [] := by
  unfold m_X6_fieldCount
  refine w_aload_n (v := k) C dX6_fieldCount_0 rfl (q := 1) rfl ?_
  refine g_X6_3 C hk lk_X6_23 dX6_fieldCount_1 (q := 4) rfl ?_
  exact w_iret C (hK _) rfl dX6_fieldCount_4
theorem c_X6_fieldCount (l : Launch) (G : Gx) {k : Nat} (hk : isO k 6) (I : Mem) {x : Int32} (h : m_X6_fieldCount k I = some x) : Ct l G yX6_fieldCount cX6_fieldCount 1 (some (.int)) 0 0 [rf G k] I (some (.int x)) I := Ct.of (by decide +kernel) rfl (Nat.le_of_ble_eq_true rfl) ret_i (fun Z hG hl C hR hret => by
  subst hG
  exact m_X6_fieldCount_ok (K := fun y => y = x) C hR k hk I (fun y hy => by subst hy; exact hret) x h rfl)
def m_X7_at_j21 (k : Nat) (I : Mem) : Option (Nat) :=
  some (k + 2)
set_option maxRecDepth 100000 in
set_option maxHeartbeats 4000000 in
theorem m_X7_at_j21_ok {Z : Zx} {K : Nat → Prop} (C : Cx Z cX7_at 2 RX7) (hR : RM Z 0 0) (k : Nat) (hk : isO k 7) (I : Mem) (hK : ∀ y, K (y) → RetA Z cX7_at y I) : WF Z K (m_X7_at_j21 k I) I 21 [some (rf (zG Z) k), none] [] := by
  unfold m_X7_at_j21
  refine w_aload_n (v := k) C dX7_at_21 rfl (q := 22) rfl ?_
  refine g_X7_1 C hk lk_X7_18 dX7_at_22 (q := 25) rfl ?_
  exact w_aret C (hK _) dX7_at_25
def m_X7_at (k : Nat) (p1 : Int32) (I : Mem) : Option (Nat) :=
  if p1 < 0 then (m_X7_at_j21 k I) else (if I k 2 ≤ p1 then (m_X7_at_j21 k I) else (gd (inb p1 10) (some ((k + 1) + (3 + 2 * p1.toNatClampNeg)))))
set_option maxRecDepth 100000 in
set_option maxHeartbeats 4000000 in
theorem m_X7_at_ok {Z : Zx} {K : Nat → Prop} (C : Cx Z cX7_at 2 RX7) (hR : RM Z 0 0) (k : Nat) (p1 : Int32) (hk : isO k 7) (I : Mem) (hK : ∀ y, K (y) → RetA Z cX7_at y I) : WF Z K (m_X7_at k p1 I) I 0 [some (rf (zG Z) k), some (.int p1)] [] := by
  unfold m_X7_at
  refine w_iload_n (v := p1) C dX7_at_0 rfl (q := 1) rfl ?_
  refine w_if_lt (tgt := 21) (q := 4) C dX7_at_1 (by decide) rfl (fun _ => ?_) (fun _ => ?_)
  · exact WF.less (L' := [some (rf (zG Z) k), none]) (m_X7_at_j21_ok C hR k hk I hK) ⟨rfl, trivial⟩
  · refine w_iload_n (v := p1) C dX7_at_4 rfl (q := 5) rfl ?_
    refine w_aload_n (v := k) C dX7_at_5 rfl (q := 6) rfl ?_
    refine g_X7_2 C hk lk_X7_22 dX7_at_6 (q := 9) rfl ?_
    refine w_icmp_ge (tgt := 21) (q := 12) C dX7_at_9 (by decide) rfl (fun _ => ?_) (fun _ => ?_)
    · exact WF.less (L' := [some (rf (zG Z) k), none]) (m_X7_at_j21_ok C hR k hk I hK) ⟨rfl, trivial⟩
    · refine w_aload_n (v := k) C dX7_at_12 rfl (q := 13) rfl ?_
      refine g_X7_0 C hk lk_X7_11 dX7_at_13 (q := 16) rfl ?_
      refine w_iload_n (v := p1) C dX7_at_16 rfl (q := 17) rfl ?_
      refine w_aald (t := 2) C (st_X7_0 hk).2 rfl (el_Rule (st_X7_0 hk).2) dX7_at_17 (q := 18) rfl (fun _ h1 => ?_)
      refine w_goto (tgt := 25) C dX7_at_18 (by decide) ?_
      exact w_aret C (hK _) dX7_at_25
theorem c_X7_at (l : Launch) (G : Gx) {k : Nat} (p1 : Int32) (hk : isO k 7) (I : Mem) {x : Nat} (h : m_X7_at k p1 I = some x) : Ct l G yX7_at cX7_at 2 (some (.object "Segmentry$Rule")) 0 0 [rf G k, .int p1] I (some (rf G x)) I := Ct.of (by decide +kernel) rfl (Nat.le_of_ble_eq_true rfl) ret_a (fun Z hG hl C hR hret => by
  subst hG
  exact m_X7_at_ok (K := fun y => y = x) C hR k p1 hk I (fun y hy => by subst hy; exact hret _ rfl) x h rfl)
def m_X11_addField_j14  (I : Mem) : Option (Int32 × Mem) :=
  none
set_option maxRecDepth 100000 in
set_option maxHeartbeats 4000000 in
theorem m_X11_addField_j14_ok {Z : Zx} {K : (Int32 × Mem) → Prop} (C : Cx Z cX11_addField 3 RX11) (hR : RM Z 2 41) (I : Mem) (hK : ∀ y, K (y) → RetI Z cX11_addField .int y.1 y.2) : WF Z K (m_X11_addField_j14  I) I 14 [none, none, none] [] := by
  unfold m_X11_addField_j14
  exact w_none
def m_X11_addField (k : Nat) (p1 : Int32) (p2 : Int32) (I : Mem) : Option (Int32 × Mem) :=
  Option.bind (m_X11_needRule k p1 I) fun I1 => if p2 < 0 then (m_X11_addField_j14  I) else (if p2 < 5 then (Option.bind (m_X7_at (k + 38) p1 I) fun r2 => gd (iO r2 6) (Option.bind (m_X6_fieldCount r2 I) fun r4 => if r4 < 5 then (Option.bind (m_X7_at (k + 38) p1 I) fun r5 => gd (iO r5 6) (Option.bind (m_X6_appendField r5 p2 I) fun r7 => some ((r7.1, r7.2)))) else (none))) else (m_X11_addField_j14  I))
set_option maxRecDepth 100000 in
set_option maxHeartbeats 4000000 in
theorem m_X11_addField_ok {Z : Zx} {K : (Int32 × Mem) → Prop} (C : Cx Z cX11_addField 3 RX11) (hR : RM Z 2 41) (k : Nat) (p1 : Int32) (p2 : Int32) (hk : isO k 11) (I : Mem) (hK : ∀ y, K (y) → RetI Z cX11_addField .int y.1 y.2) : WF Z K (m_X11_addField k p1 p2 I) I 0 [some (rf (zG Z) k), some (.int p1), some (.int p2)] [] := by
  unfold m_X11_addField
  refine w_aload_n (v := k) C dX11_addField_0 rfl (q := 1) rfl ?_
  refine w_iload_n (v := p1) C dX11_addField_1 rfl (q := 2) rfl ?_
  refine w_callV (val := fun I1 => none) (mem := fun I1 => I) (st1 := fun I1 => []) (As := [.int p1]) (st := []) (q := 5) C hR (fun x h => c_X11_needRule (zl Z) (zG Z) p1 hk I h) hk mv_X11_needRule lk_X11_218 rfl (by decide) (fun _ => rfl) (Nat.le_of_ble_eq_true rfl) rfl rfl dX11_addField_2 rfl (fun I1 => ?_)
  refine w_iload_n (v := p2) C dX11_addField_5 rfl (q := 6) rfl ?_
  refine w_if_lt (tgt := 14) (q := 9) C dX11_addField_6 (by decide) rfl (fun _ => ?_) (fun _ => ?_)
  · exact WF.less (L' := [none, none, none]) (m_X11_addField_j14_ok C hR   I hK) trivial
  · refine w_iload_n (v := p2) C dX11_addField_9 rfl (q := 10) rfl ?_
    refine w_iconst (v := (5)) C dX11_addField_10 (by decide) (q := 11) rfl ?_
    refine w_icmp_lt (tgt := 24) (q := 14) C dX11_addField_11 (by decide) rfl (fun _ => ?_) (fun _ => ?_)
    · refine w_aload_n (v := k) C dX11_addField_24 rfl (q := 25) rfl ?_
      refine g_X11_4 C hk lk_X11_42 dX11_addField_25 (q := 28) rfl ?_
      refine w_iload_n (v := p1) C dX11_addField_28 rfl (q := 29) rfl ?_
      refine w_callV (val := fun r2 => some (rf (zG Z) r2)) (mem := fun r2 => I) (st1 := fun r2 => [rf (zG Z) r2]) (As := [.int p1]) (st := []) (q := 32) C hR (fun x h => c_X7_at (zl Z) (zG Z) p1 (st_X11_4 hk).2 I h) (st_X11_4 hk).2 mv_X7_at lk_X11_223 rfl (by decide) (fun _ => rfl) (Nat.le_of_ble_eq_true rfl) rfl rfl dX11_addField_29 rfl (fun r2 => ?_)
      refine w_gd (fun h3 => ?_)
      refine w_callV (val := fun r4 => some (.int r4)) (mem := fun r4 => I) (st1 := fun r4 => [.int r4]) (As := []) (st := []) (q := 35) C hR (fun x h => c_X6_fieldCount (zl Z) (zG Z)  (iO_of h3) I h) (iO_of h3) mv_X6_fieldCount lk_X11_227 rfl (by decide) (fun _ => rfl) (Nat.le_of_ble_eq_true rfl) rfl rfl dX11_addField_32 rfl (fun r4 => ?_)
      refine w_iconst (v := (5)) C dX11_addField_35 (by decide) (q := 36) rfl ?_
      refine w_icmp_lt (tgt := 49) (q := 39) C dX11_addField_36 (by decide) rfl (fun _ => ?_) (fun _ => ?_)
      · refine w_aload_n (v := k) C dX11_addField_49 rfl (q := 50) rfl ?_
        refine g_X11_4 C hk lk_X11_42 dX11_addField_50 (q := 53) rfl ?_
        refine w_iload_n (v := p1) C dX11_addField_53 rfl (q := 54) rfl ?_
        refine w_callV (val := fun r5 => some (rf (zG Z) r5)) (mem := fun r5 => I) (st1 := fun r5 => [rf (zG Z) r5]) (As := [.int p1]) (st := []) (q := 57) C hR (fun x h => c_X7_at (zl Z) (zG Z) p1 (st_X11_4 hk).2 I h) (st_X11_4 hk).2 mv_X7_at lk_X11_223 rfl (by decide) (fun _ => rfl) (Nat.le_of_ble_eq_true rfl) rfl rfl dX11_addField_54 rfl (fun r5 => ?_)
        refine w_gd (fun h6 => ?_)
        refine w_iload_n (v := p2) C dX11_addField_57 rfl (q := 58) rfl ?_
        refine w_callV (val := fun r7 => some (.int r7.1)) (mem := fun r7 => r7.2) (st1 := fun r7 => [.int r7.1]) (As := [.int p2]) (st := []) (q := 61) C hR (fun x h => c_X6_appendField (zl Z) (zG Z) p2 (iO_of h6) I h) (iO_of h6) mv_X6_appendField lk_X11_234 rfl (by decide) (fun _ => rfl) (Nat.le_of_ble_eq_true rfl) rfl rfl dX11_addField_58 rfl (fun r7 => ?_)
        exact w_iret C (hK _) rfl dX11_addField_61
      · exact w_none
    · exact WF.less (L' := [none, none, none]) (m_X11_addField_j14_ok C hR   I hK) trivial
theorem c_X11_addField (l : Launch) (G : Gx) {k : Nat} (p1 : Int32) (p2 : Int32) (hk : isO k 11) (I : Mem) {x : Int32 × Mem} (h : m_X11_addField k p1 p2 I = some x) : Ct l G yX11_addField cX11_addField 3 (some (.int)) 2 41 [rf G k, .int p1, .int p2] I (some (.int x.1)) x.2 := Ct.of (by decide +kernel) rfl (Nat.le_of_ble_eq_true rfl) ret_i (fun Z hG hl C hR hret => by
  subst hG
  exact m_X11_addField_ok (K := fun y => y = x) C hR k p1 p2 hk I (fun y hy => by subst hy; exact hret) x h rfl)
