def m_X6_holdsFor (k : Nat) (p1 : Nat) (I : Mem) : Option (Int32) :=
  Option.bind (m_X9_countIn p1 (I k 4) I) fun r1 => if r1 ≤ 0 then (some 0) else (Option.bind (m_X9_letterIn p1 (I k 4) ((0 : Int32)) I) fun r2 => if r2 = I k 5 then (some 1) else (some 0))
set_option maxRecDepth 100000 in
set_option maxHeartbeats 4000000 in
theorem m_X6_holdsFor_ok {Z : Zx} {K : Int32 → Prop} (C : Cx Z cX6_holdsFor 2 RX6) (hR : RM Z 2 44) (k : Nat) (p1 : Nat) (hk : isO k 6) (hp1 : isO p1 9) (I : Mem) (hK : ∀ y, K (y) → RetI Z cX6_holdsFor .boolean y I) : WF Z K (m_X6_holdsFor k p1 I) I 0 [some (rf (zG Z) k), some (rf (zG Z) p1)] [] := by
  unfold m_X6_holdsFor
  refine w_aload_n (v := p1) C dX6_holdsFor_0 rfl (q := 1) rfl ?_
  refine w_aload_n (v := k) C dX6_holdsFor_1 rfl (q := 2) rfl ?_
  refine g_X6_4 C hk lk_X6_26 dX6_holdsFor_2 (q := 5) rfl ?_
  refine w_callV (val := fun r1 => some (.int r1)) (mem := fun r1 => I) (st1 := fun r1 => [.int r1]) (As := [.int (I k 4)]) (st := []) (q := 8) C hR (fun x h => c_X9_countIn (zl Z) (zG Z) (I k 4) hp1 I h) hp1 mv_X9_countIn lk_X6_41 rfl (by decide) (fun _ => rfl) (Nat.le_of_ble_eq_true rfl) rfl rfl dX6_holdsFor_5 rfl (fun r1 => ?_)
  refine w_if_le (tgt := 31) (q := 11) C dX6_holdsFor_8 (by decide) rfl (fun _ => ?_) (fun _ => ?_)
  · refine w_iconst (v := (0)) C dX6_holdsFor_31 (by decide) (q := 32) rfl ?_
    exact w_iret C (hK _) (by decide) dX6_holdsFor_32
  · refine w_aload_n (v := p1) C dX6_holdsFor_11 rfl (q := 12) rfl ?_
    refine w_aload_n (v := k) C dX6_holdsFor_12 rfl (q := 13) rfl ?_
    refine g_X6_4 C hk lk_X6_26 dX6_holdsFor_13 (q := 16) rfl ?_
    refine w_iconst (v := (0)) C dX6_holdsFor_16 (by decide) (q := 17) rfl ?_
    refine w_callV (val := fun r2 => some (.int r2)) (mem := fun r2 => I) (st1 := fun r2 => [.int r2]) (As := [.int (I k 4), .int 0]) (st := []) (q := 20) C hR (fun x h => c_X9_letterIn (zl Z) (zG Z) (I k 4) ((0 : Int32)) hp1 I h) hp1 mv_X9_letterIn lk_X6_45 rfl (by decide) (fun _ => rfl) (Nat.le_of_ble_eq_true rfl) rfl rfl dX6_holdsFor_17 rfl (fun r2 => ?_)
    refine w_aload_n (v := k) C dX6_holdsFor_20 rfl (q := 21) rfl ?_
    refine g_X6_5 C hk lk_X6_29 dX6_holdsFor_21 (q := 24) rfl ?_
    refine w_icmp_ne (tgt := 31) (q := 27) C dX6_holdsFor_24 (by decide) rfl (fun _ => ?_) (fun _ => ?_)
    · refine w_iconst (v := (1)) C dX6_holdsFor_27 (by decide) (q := 28) rfl ?_
      refine w_goto (tgt := 32) C dX6_holdsFor_28 (by decide) ?_
      exact w_iret C (hK _) (by decide) dX6_holdsFor_32
    · refine w_iconst (v := (0)) C dX6_holdsFor_31 (by decide) (q := 32) rfl ?_
      exact w_iret C (hK _) (by decide) dX6_holdsFor_32
theorem c_X6_holdsFor (l : Launch) (G : Gx) {k : Nat} {p1 : Nat} (hk : isO k 6) (hp1 : isO p1 9) (I : Mem) {x : Int32} (h : m_X6_holdsFor k p1 I = some x) : Ct l G yX6_holdsFor cX6_holdsFor 2 (some (.boolean)) 2 44 [rf G k, rf G p1] I (some (.int x)) I := Ct.of (by decide +kernel) rfl (Nat.le_of_ble_eq_true rfl) ret_i (fun Z hG hl C hR hret => by
  subst hG
  exact m_X6_holdsFor_ok (K := fun y => y = x) C hR k p1 hk hp1 I (fun y hy => by subst hy; exact hret) x h rfl)
def m_X6_appliesTo_j27  (I : Mem) : Option (Int32) :=
  some 1
set_option maxRecDepth 100000 in
set_option maxHeartbeats 4000000 in
theorem m_X6_appliesTo_j27_ok {Z : Zx} {K : Int32 → Prop} (C : Cx Z cX6_appliesTo 2 RX6) (hR : RM Z 3 65) (I : Mem) (hK : ∀ y, K (y) → RetI Z cX6_appliesTo .boolean y I) : WF Z K (m_X6_appliesTo_j27  I) I 27 [none, none] [] := by
  unfold m_X6_appliesTo_j27
  refine w_iconst (v := (1)) C dX6_appliesTo_27 (by decide) (q := 28) rfl ?_
  refine w_goto (tgt := 32) C dX6_appliesTo_28 (by decide) ?_
  exact w_iret C (hK _) (by decide) dX6_appliesTo_32
def m_X6_appliesTo (k : Nat) (p1 : Nat) (I : Mem) : Option (Int32) :=
  Option.bind (m_X9_itemNumber p1 I) fun r1 => if r1 = I k 1 then (if I k 4 = -1 then (m_X6_appliesTo_j27  I) else (Option.bind (m_X6_holdsFor k p1 I) fun r2 => if r2 = 0 then (some 0) else (m_X6_appliesTo_j27  I))) else (some 0)
set_option maxRecDepth 100000 in
set_option maxHeartbeats 4000000 in
theorem m_X6_appliesTo_ok {Z : Zx} {K : Int32 → Prop} (C : Cx Z cX6_appliesTo 2 RX6) (hR : RM Z 3 65) (k : Nat) (p1 : Nat) (hk : isO k 6) (hp1 : isO p1 9) (I : Mem) (hK : ∀ y, K (y) → RetI Z cX6_appliesTo .boolean y I) : WF Z K (m_X6_appliesTo k p1 I) I 0 [some (rf (zG Z) k), some (rf (zG Z) p1)] [] := by
  unfold m_X6_appliesTo
  refine w_aload_n (v := p1) C dX6_appliesTo_0 rfl (q := 1) rfl ?_
  refine w_callV (val := fun r1 => some (.int r1)) (mem := fun r1 => I) (st1 := fun r1 => [.int r1]) (As := []) (st := []) (q := 4) C hR (fun x h => c_X9_itemNumber (zl Z) (zG Z)  hp1 I h) hp1 mv_X9_itemNumber lk_X6_32 rfl (by decide) (fun _ => rfl) (Nat.le_of_ble_eq_true rfl) rfl rfl dX6_appliesTo_1 rfl (fun r1 => ?_)
  refine w_aload_n (v := k) C dX6_appliesTo_4 rfl (q := 5) rfl ?_
  refine g_X6_1 C hk lk_X6_15 dX6_appliesTo_5 (q := 8) rfl ?_
  refine w_icmp_ne (tgt := 31) (q := 11) C dX6_appliesTo_8 (by decide) rfl (fun _ => ?_) (fun _ => ?_)
  · refine w_aload_n (v := k) C dX6_appliesTo_11 rfl (q := 12) rfl ?_
    refine g_X6_4 C hk lk_X6_26 dX6_appliesTo_12 (q := 15) rfl ?_
    refine w_iconst (v := (-1)) C dX6_appliesTo_15 (by decide) (q := 16) rfl ?_
    refine w_icmp_eq (tgt := 27) (q := 19) C dX6_appliesTo_16 (by decide) rfl (fun _ => ?_) (fun _ => ?_)
    · exact WF.less (L' := [none, none]) (m_X6_appliesTo_j27_ok C hR   I hK) trivial
    · refine w_aload_n (v := k) C dX6_appliesTo_19 rfl (q := 20) rfl ?_
      refine w_aload_n (v := p1) C dX6_appliesTo_20 rfl (q := 21) rfl ?_
      refine w_callV (val := fun r2 => some (.int r2)) (mem := fun r2 => I) (st1 := fun r2 => [.int r2]) (As := [rf (zG Z) p1]) (st := []) (q := 24) C hR (fun x h => c_X6_holdsFor (zl Z) (zG Z)  hk hp1 I h) hk mv_X6_holdsFor lk_X6_37 rfl (by decide) (fun _ => rfl) (Nat.le_of_ble_eq_true rfl) rfl rfl dX6_appliesTo_21 rfl (fun r2 => ?_)
      refine w_if_eq (tgt := 31) (q := 27) C dX6_appliesTo_24 (by decide) rfl (fun _ => ?_) (fun _ => ?_)
      · refine w_iconst (v := (0)) C dX6_appliesTo_31 (by decide) (q := 32) rfl ?_
        exact w_iret C (hK _) (by decide) dX6_appliesTo_32
      · exact WF.less (L' := [none, none]) (m_X6_appliesTo_j27_ok C hR   I hK) trivial
  · refine w_iconst (v := (0)) C dX6_appliesTo_31 (by decide) (q := 32) rfl ?_
    exact w_iret C (hK _) (by decide) dX6_appliesTo_32
theorem c_X6_appliesTo (l : Launch) (G : Gx) {k : Nat} {p1 : Nat} (hk : isO k 6) (hp1 : isO p1 9) (I : Mem) {x : Int32} (h : m_X6_appliesTo k p1 I = some x) : Ct l G yX6_appliesTo cX6_appliesTo 2 (some (.boolean)) 3 65 [rf G k, rf G p1] I (some (.int x)) I := Ct.of (by decide +kernel) rfl (Nat.le_of_ble_eq_true rfl) ret_i (fun Z hG hl C hR hret => by
  subst hG
  exact m_X6_appliesTo_ok (K := fun y => y = x) C hR k p1 hk hp1 I (fun y hy => by subst hy; exact hret) x h rfl)
def m_X10_putReleased_j24 (k : Nat) (p1 : Int32) (I : Mem) : Option (Mem) :=
  Option.bind (m_X10_put k p1 I) fun I2 => some I2
set_option maxRecDepth 100000 in
set_option maxHeartbeats 4000000 in
theorem m_X10_putReleased_j24_ok {Z : Zx} {K : Mem → Prop} (C : Cx Z cX10_putReleased 2 RX10) (hR : RM Z 1 21) (k : Nat) (p1 : Int32) (hk : isO k 10) (I : Mem) (hK : ∀ y, K (y) → RetV Z cX10_putReleased y) : WF Z K (m_X10_putReleased_j24 k p1 I) I 24 [some (rf (zG Z) k), some (.int p1)] [] := by
  unfold m_X10_putReleased_j24
  refine w_aload_n (v := k) C dX10_putReleased_24 rfl (q := 25) rfl ?_
  refine w_iload_n (v := p1) C dX10_putReleased_25 rfl (q := 26) rfl ?_
  refine w_callV (val := fun I2 => none) (mem := fun I2 => I2) (st1 := fun I2 => []) (As := [.int p1]) (st := []) (q := 29) C hR (fun x h => c_X10_put (zl Z) (zG Z) p1 hk I h) hk mv_X10_put lk_X10_27 rfl (by decide) (fun _ => rfl) (Nat.le_of_ble_eq_true rfl) rfl rfl dX10_putReleased_26 rfl (fun I2 => ?_)
  exact w_vret C (hK _) dX10_putReleased_29
def m_X10_putReleased_j18 (k : Nat) (p1 : Int32) (I : Mem) : Option (Mem) :=
  Option.bind (m_X10_put k ((63 : Int32)) I) fun I1 => m_X10_putReleased_j24 k p1 I1
set_option maxRecDepth 100000 in
set_option maxHeartbeats 4000000 in
theorem m_X10_putReleased_j18_ok {Z : Zx} {K : Mem → Prop} (C : Cx Z cX10_putReleased 2 RX10) (hR : RM Z 1 21) (k : Nat) (p1 : Int32) (hk : isO k 10) (I : Mem) (hK : ∀ y, K (y) → RetV Z cX10_putReleased y) : WF Z K (m_X10_putReleased_j18 k p1 I) I 18 [some (rf (zG Z) k), some (.int p1)] [] := by
  unfold m_X10_putReleased_j18
  refine w_aload_n (v := k) C dX10_putReleased_18 rfl (q := 19) rfl ?_
  refine w_bipush (v := (63)) C dX10_putReleased_19 (by decide) (q := 21) rfl ?_
  refine w_callV (val := fun I1 => none) (mem := fun I1 => I1) (st1 := fun I1 => []) (As := [.int 63]) (st := []) (q := 24) C hR (fun x h => c_X10_put (zl Z) (zG Z) ((63 : Int32)) hk I h) hk mv_X10_put lk_X10_27 rfl (by decide) (fun _ => rfl) (Nat.le_of_ble_eq_true rfl) rfl rfl dX10_putReleased_21 rfl (fun I1 => ?_)
  exact WF.less (L' := [some (rf (zG Z) k), some (.int p1)]) (m_X10_putReleased_j24_ok C hR k p1 hk I1 hK) ⟨rfl, rfl, trivial⟩
def m_X10_putReleased (k : Nat) (p1 : Int32) (I : Mem) : Option (Mem) :=
  if p1 = 43 then (m_X10_putReleased_j18 k p1 I) else (if p1 = 39 then (m_X10_putReleased_j18 k p1 I) else (if p1 = 63 then (m_X10_putReleased_j18 k p1 I) else (m_X10_putReleased_j24 k p1 I)))
set_option maxRecDepth 100000 in
set_option maxHeartbeats 4000000 in
theorem m_X10_putReleased_ok {Z : Zx} {K : Mem → Prop} (C : Cx Z cX10_putReleased 2 RX10) (hR : RM Z 1 21) (k : Nat) (p1 : Int32) (hk : isO k 10) (I : Mem) (hK : ∀ y, K (y) → RetV Z cX10_putReleased y) : WF Z K (m_X10_putReleased k p1 I) I 0 [some (rf (zG Z) k), some (.int p1)] [] := by
  unfold m_X10_putReleased
  refine w_iload_n (v := p1) C dX10_putReleased_0 rfl (q := 1) rfl ?_
  refine w_bipush (v := (43)) C dX10_putReleased_1 (by decide) (q := 3) rfl ?_
  refine w_icmp_eq (tgt := 18) (q := 6) C dX10_putReleased_3 (by decide) rfl (fun _ => ?_) (fun _ => ?_)
  · exact WF.less (L' := [some (rf (zG Z) k), some (.int p1)]) (m_X10_putReleased_j18_ok C hR k p1 hk I hK) ⟨rfl, rfl, trivial⟩
  · refine w_iload_n (v := p1) C dX10_putReleased_6 rfl (q := 7) rfl ?_
    refine w_bipush (v := (39)) C dX10_putReleased_7 (by decide) (q := 9) rfl ?_
    refine w_icmp_eq (tgt := 18) (q := 12) C dX10_putReleased_9 (by decide) rfl (fun _ => ?_) (fun _ => ?_)
    · exact WF.less (L' := [some (rf (zG Z) k), some (.int p1)]) (m_X10_putReleased_j18_ok C hR k p1 hk I hK) ⟨rfl, rfl, trivial⟩
    · refine w_iload_n (v := p1) C dX10_putReleased_12 rfl (q := 13) rfl ?_
      refine w_bipush (v := (63)) C dX10_putReleased_13 (by decide) (q := 15) rfl ?_
      refine w_icmp_ne (tgt := 24) (q := 18) C dX10_putReleased_15 (by decide) rfl (fun _ => ?_) (fun _ => ?_)
      · exact WF.less (L' := [some (rf (zG Z) k), some (.int p1)]) (m_X10_putReleased_j18_ok C hR k p1 hk I hK) ⟨rfl, rfl, trivial⟩
      · exact WF.less (L' := [some (rf (zG Z) k), some (.int p1)]) (m_X10_putReleased_j24_ok C hR k p1 hk I hK) ⟨rfl, rfl, trivial⟩
theorem c_X10_putReleased (l : Launch) (G : Gx) {k : Nat} (p1 : Int32) (hk : isO k 10) (I : Mem) {x : Mem} (h : m_X10_putReleased k p1 I = some x) : Ct l G yX10_putReleased cX10_putReleased 2 none 1 21 [rf G k, .int p1] I (none) x := Ct.of (by decide +kernel) rfl (Nat.le_of_ble_eq_true rfl) ret_v (fun Z hG hl C hR hret => by
  subst hG
  exact m_X10_putReleased_ok (K := fun y => y = x) C hR k p1 hk I (fun y hy => by subst hy; exact hret) x h rfl)
def m_X6_translate_b35 (k : Nat) (p1 : Nat) (p2 : Nat) (x3 : Int32) (x4 : Int32) (x5 : Int32) (I : Mem) : Option ((Int32 × Mem) ⊕ ((Mem))) :=
  Option.bind (m_X9_countIn p1 x4 I) fun r3 => if r3 ≤ x5 then (some (.inr (I))) else (Option.bind (m_X9_letterIn p1 x4 x5 I) fun r4 => Option.bind (m_X10_putReleased p2 r4 I) fun I5 => some (.inl (x5 + 1, I5)))
set_option maxRecDepth 100000 in
set_option maxHeartbeats 4000000 in
theorem m_X6_translate_b35_ok {Z : Zx} {K : ((Int32 × Mem) ⊕ ((Mem))) → Prop} (C : Cx Z cX6_translate 6 RX6) (hR : RM Z 2 44) (k : Nat) (p1 : Nat) (p2 : Nat) (x3 : Int32) (x4 : Int32) (x5 : Int32) (hk : isO k 6) (hp1 : isO p1 9) (hp2 : isO p2 10) (I : Mem) (hB : ∀ a, K (.inl a) → WM Z a.2 35 [some (rf (zG Z) k), some (rf (zG Z) p1), some (rf (zG Z) p2), some (.int x3), some (.int x4), some (.int a.1)] []) (hX0 : ∀ b, K (.inr (b)) → WM Z b 64 [some (rf (zG Z) k), some (rf (zG Z) p1), some (rf (zG Z) p2), some (.int x3), none, none] []) : WF Z K (m_X6_translate_b35 k p1 p2 x3 x4 x5 I) I 35 [some (rf (zG Z) k), some (rf (zG Z) p1), some (rf (zG Z) p2), some (.int x3), some (.int x4), some (.int x5)] [] := by
  unfold m_X6_translate_b35
  refine w_iload (v := x5) C dX6_translate_35 rfl (q := 37) rfl ?_
  refine w_aload_n (v := p1) C dX6_translate_37 rfl (q := 38) rfl ?_
  refine w_iload (v := x4) C dX6_translate_38 rfl (q := 40) rfl ?_
  refine w_callV (val := fun r3 => some (.int r3)) (mem := fun r3 => I) (st1 := fun r3 => [.int r3, .int x5]) (As := [.int x4]) (st := [.int x5]) (q := 43) C hR (fun x h => c_X9_countIn (zl Z) (zG Z) x4 hp1 I h) hp1 mv_X9_countIn lk_X6_41 rfl (by decide) (fun _ => rfl) (Nat.le_of_ble_eq_true rfl) rfl rfl dX6_translate_40 rfl (fun r3 => ?_)
  refine w_icmp_ge (tgt := 64) (q := 46) C dX6_translate_43 (by decide) rfl (fun _ => ?_) (fun _ => ?_)
  · exact w_jmp (fun h => WM.less (L' := [some (rf (zG Z) k), some (rf (zG Z) p1), some (rf (zG Z) p2), some (.int x3), none, none]) (hX0 _ h) ⟨rfl, rfl, rfl, rfl, trivial⟩)
  · refine w_aload_n (v := p2) C dX6_translate_46 rfl (q := 47) rfl ?_
    refine w_aload_n (v := p1) C dX6_translate_47 rfl (q := 48) rfl ?_
    refine w_iload (v := x4) C dX6_translate_48 rfl (q := 50) rfl ?_
    refine w_iload (v := x5) C dX6_translate_50 rfl (q := 52) rfl ?_
    refine w_callV (val := fun r4 => some (.int r4)) (mem := fun r4 => I) (st1 := fun r4 => [.int r4, rf (zG Z) p2]) (As := [.int x4, .int x5]) (st := [rf (zG Z) p2]) (q := 55) C hR (fun x h => c_X9_letterIn (zl Z) (zG Z) x4 x5 hp1 I h) hp1 mv_X9_letterIn lk_X6_45 rfl (by decide) (fun _ => rfl) (Nat.le_of_ble_eq_true rfl) rfl rfl dX6_translate_52 rfl (fun r4 => ?_)
    refine w_callV (val := fun I5 => none) (mem := fun I5 => I5) (st1 := fun I5 => []) (As := [.int r4]) (st := []) (q := 58) C hR (fun x h => c_X10_putReleased (zl Z) (zG Z) r4 hp2 I h) hp2 mv_X10_putReleased lk_X6_55 rfl (by decide) (fun _ => rfl) (Nat.le_of_ble_eq_true rfl) rfl rfl dX6_translate_55 rfl (fun I5 => ?_)
    refine w_iinc (v := x5 + 1) C dX6_translate_58 rfl rfl (L' := [some (rf (zG Z) k), some (rf (zG Z) p1), some (rf (zG Z) p2), some (.int x3), some (.int x4), some (.int (x5 + 1))]) rfl (q := 61) rfl ?_
    refine w_goto (tgt := 35) C dX6_translate_61 (by decide) ?_
    exact w_jmp (fun h => WM.less (L' := [some (rf (zG Z) k), some (rf (zG Z) p1), some (rf (zG Z) p2), some (.int x3), some (.int x4), some (.int (x5 + 1))]) (hB _ h) ⟨rfl, rfl, rfl, rfl, rfl, rfl, trivial⟩)
def m_X6_translate_b10 (k : Nat) (p1 : Nat) (p2 : Nat) (x3 : Int32) (I : Mem) : Option ((Int32 × Mem) ⊕ ((Mem))) :=
  if I k 3 ≤ x3 then (some (.inr (I))) else (gd (inb x3 5) (Option.bind (m_X10_put p2 ((43 : Int32)) I) fun I2 => Option.bind (loopF (fun a => m_X6_translate_b35 k p1 p2 x3 (I (k + 1) x3.toNatClampNeg) a.1 a.2) FU ((0 : Int32), I2)) (fun b6 => some (.inl (x3 + 1, b6)))))
set_option maxRecDepth 100000 in
set_option maxHeartbeats 4000000 in
theorem m_X6_translate_b10_ok {Z : Zx} {K : ((Int32 × Mem) ⊕ ((Mem))) → Prop} (C : Cx Z cX6_translate 6 RX6) (hR : RM Z 2 44) (k : Nat) (p1 : Nat) (p2 : Nat) (x3 : Int32) (hk : isO k 6) (hp1 : isO p1 9) (hp2 : isO p2 10) (I : Mem) (hB : ∀ a, K (.inl a) → WM Z a.2 10 [some (rf (zG Z) k), some (rf (zG Z) p1), some (rf (zG Z) p2), some (.int a.1), none, none] []) (hX0 : ∀ b, K (.inr (b)) → WM Z b 70 [none, none, some (rf (zG Z) p2), none, none, none] []) : WF Z K (m_X6_translate_b10 k p1 p2 x3 I) I 10 [some (rf (zG Z) k), some (rf (zG Z) p1), some (rf (zG Z) p2), some (.int x3), none, none] [] := by
  unfold m_X6_translate_b10
  refine w_iload_n (v := x3) C dX6_translate_10 rfl (q := 11) rfl ?_
  refine w_aload_n (v := k) C dX6_translate_11 rfl (q := 12) rfl ?_
  refine g_X6_3 C hk lk_X6_23 dX6_translate_12 (q := 15) rfl ?_
  refine w_icmp_ge (tgt := 70) (q := 18) C dX6_translate_15 (by decide) rfl (fun _ => ?_) (fun _ => ?_)
  · exact w_jmp (fun h => WM.less (L' := [none, none, some (rf (zG Z) p2), none, none, none]) (hX0 _ h) ⟨rfl, trivial⟩)
  · refine w_aload_n (v := k) C dX6_translate_18 rfl (q := 19) rfl ?_
    refine g_X6_0 C hk lk_X6_9 dX6_translate_19 (q := 22) rfl ?_
    refine w_iload_n (v := x3) C dX6_translate_22 rfl (q := 23) rfl ?_
    refine w_iald C (st_X6_0 hk).2 dX6_translate_23 (q := 24) rfl (fun _ => ?_)
    refine w_istore C dX6_translate_24 (Nat.le_of_ble_eq_true rfl) (L' := [some (rf (zG Z) k), some (rf (zG Z) p1), some (rf (zG Z) p2), some (.int x3), some (.int (I (k + 1) x3.toNatClampNeg)), none]) rfl (q := 26) rfl ?_
    refine w_aload_n (v := p2) C dX6_translate_26 rfl (q := 27) rfl ?_
    refine w_bipush (v := (43)) C dX6_translate_27 (by decide) (q := 29) rfl ?_
    refine w_callV (val := fun I2 => none) (mem := fun I2 => I2) (st1 := fun I2 => []) (As := [.int 43]) (st := []) (q := 32) C hR (fun x h => c_X10_put (zl Z) (zG Z) ((43 : Int32)) hp2 I h) hp2 mv_X10_put lk_X6_49 rfl (by decide) (fun _ => rfl) (Nat.le_of_ble_eq_true rfl) rfl rfl dX6_translate_29 rfl (fun I2 => ?_)
    refine w_iconst (v := (0)) C dX6_translate_32 (by decide) (q := 33) rfl ?_
    refine w_istore C dX6_translate_33 (Nat.le_of_ble_eq_true rfl) (L' := [some (rf (zG Z) k), some (rf (zG Z) p1), some (rf (zG Z) p2), some (.int x3), some (.int (I (k + 1) x3.toNatClampNeg)), some (.int 0)]) rfl (q := 35) rfl ?_
    refine WF.less (L' := [some (rf (zG Z) k), some (rf (zG Z) p1), some (rf (zG Z) p2), some (.int x3), some (.int (I (k + 1) x3.toNatClampNeg)), some (.int 0)]) (w_loopF (pc := 35) (a := ((0 : Int32), I2)) (mem := fun a => a.2) (lo := fun a => [some (rf (zG Z) k), some (rf (zG Z) p1), some (rf (zG Z) p2), some (.int x3), some (.int (I (k + 1) x3.toNatClampNeg)), some (.int a.1)]) (E := fun b6 => WM Z b6 64 [some (rf (zG Z) k), some (rf (zG Z) p1), some (rf (zG Z) p2), some (.int x3), none, none] []) (fun a => m_X6_translate_b35_ok C hR k p1 p2 x3 (I (k + 1) x3.toNatClampNeg) a.1 hk hp1 hp2 a.2 (fun _ h => h) (fun _ h => h)) ?_) ⟨rfl, rfl, rfl, rfl, rfl, rfl, trivial⟩
    intro b6
    refine w_hx ?_
    refine w_iinc (v := x3 + 1) C dX6_translate_64 rfl rfl (L' := [some (rf (zG Z) k), some (rf (zG Z) p1), some (rf (zG Z) p2), some (.int (x3 + 1)), none, none]) rfl (q := 67) rfl ?_
    refine w_goto (tgt := 10) C dX6_translate_67 (by decide) ?_
    exact w_jmp (fun h => WM.less (L' := [some (rf (zG Z) k), some (rf (zG Z) p1), some (rf (zG Z) p2), some (.int (x3 + 1)), none, none]) (hB _ h) ⟨rfl, rfl, rfl, rfl, trivial⟩)
def m_X6_translate (k : Nat) (p1 : Nat) (p2 : Nat) (I : Mem) : Option (Mem) :=
  Option.bind (m_X10_put p2 (I k 2) I) fun I1 => Option.bind (loopF (fun a => m_X6_translate_b10 k p1 p2 a.1 a.2) FU ((0 : Int32), I1)) (fun b7 => Option.bind (m_X10_put p2 ((39 : Int32)) b7) fun I8 => some I8)
set_option maxRecDepth 100000 in
set_option maxHeartbeats 4000000 in
theorem m_X6_translate_ok {Z : Zx} {K : Mem → Prop} (C : Cx Z cX6_translate 6 RX6) (hR : RM Z 2 44) (k : Nat) (p1 : Nat) (p2 : Nat) (hk : isO k 6) (hp1 : isO p1 9) (hp2 : isO p2 10) (I : Mem) (hK : ∀ y, K (y) → RetV Z cX6_translate y) : WF Z K (m_X6_translate k p1 p2 I) I 0 [some (rf (zG Z) k), some (rf (zG Z) p1), some (rf (zG Z) p2), none, none, none] [] := by
  unfold m_X6_translate
  refine w_aload_n (v := p2) C dX6_translate_0 rfl (q := 1) rfl ?_
  refine w_aload_n (v := k) C dX6_translate_1 rfl (q := 2) rfl ?_
  refine g_X6_2 C hk lk_X6_19 dX6_translate_2 (q := 5) rfl ?_
  refine w_callV (val := fun I1 => none) (mem := fun I1 => I1) (st1 := fun I1 => []) (As := [.int (I k 2)]) (st := []) (q := 8) C hR (fun x h => c_X10_put (zl Z) (zG Z) (I k 2) hp2 I h) hp2 mv_X10_put lk_X6_49 rfl (by decide) (fun _ => rfl) (Nat.le_of_ble_eq_true rfl) rfl rfl dX6_translate_5 rfl (fun I1 => ?_)
  refine w_iconst (v := (0)) C dX6_translate_8 (by decide) (q := 9) rfl ?_
  refine w_istore_n C dX6_translate_9 (Nat.le_of_ble_eq_true rfl) (L' := [some (rf (zG Z) k), some (rf (zG Z) p1), some (rf (zG Z) p2), some (.int 0), none, none]) rfl (q := 10) rfl ?_
  refine WF.less (L' := [some (rf (zG Z) k), some (rf (zG Z) p1), some (rf (zG Z) p2), some (.int 0), none, none]) (w_loopF (pc := 10) (a := ((0 : Int32), I1)) (mem := fun a => a.2) (lo := fun a => [some (rf (zG Z) k), some (rf (zG Z) p1), some (rf (zG Z) p2), some (.int a.1), none, none]) (E := fun b7 => WM Z b7 70 [none, none, some (rf (zG Z) p2), none, none, none] []) (fun a => m_X6_translate_b10_ok C hR k p1 p2 a.1 hk hp1 hp2 a.2 (fun _ h => h) (fun _ h => h)) ?_) ⟨rfl, rfl, rfl, rfl, trivial⟩
  intro b7
  refine w_hx ?_
  refine w_aload_n (v := p2) C dX6_translate_70 rfl (q := 71) rfl ?_
  refine w_bipush (v := (39)) C dX6_translate_71 (by decide) (q := 73) rfl ?_
  refine w_callV (val := fun I8 => none) (mem := fun I8 => I8) (st1 := fun I8 => []) (As := [.int 39]) (st := []) (q := 76) C hR (fun x h => c_X10_put (zl Z) (zG Z) ((39 : Int32)) hp2 b7 h) hp2 mv_X10_put lk_X6_49 rfl (by decide) (fun _ => rfl) (Nat.le_of_ble_eq_true rfl) rfl rfl dX6_translate_73 rfl (fun I8 => ?_)
  exact w_vret C (hK _) dX6_translate_76
theorem c_X6_translate (l : Launch) (G : Gx) {k : Nat} {p1 : Nat} {p2 : Nat} (hk : isO k 6) (hp1 : isO p1 9) (hp2 : isO p2 10) (I : Mem) {x : Mem} (h : m_X6_translate k p1 p2 I = some x) : Ct l G yX6_translate cX6_translate 6 none 2 44 [rf G k, rf G p1, rf G p2] I (none) x := Ct.of (by decide +kernel) rfl (Nat.le_of_ble_eq_true rfl) ret_v (fun Z hG hl C hR hret => by
  subst hG
  exact m_X6_translate_ok (K := fun y => y = x) C hR k p1 p2 hk hp1 hp2 I (fun y hy => by subst hy; exact hret) x h rfl)
def m_X7_putBody_j65 (k : Nat) (p1 : Nat) (p2 : Nat) (x3 : Int32) (x4 : Int32) (x5 : Nat) (x6 : Int32) (I : Mem) : Option ((Int32 × Int32 × Mem) ⊕ ((Int32 × Mem))) :=
  some (.inl (x3, x6 + 1, I))
set_option maxRecDepth 100000 in
set_option maxHeartbeats 4000000 in
theorem m_X7_putBody_j65_ok {Z : Zx} {K : ((Int32 × Int32 × Mem) ⊕ ((Int32 × Mem))) → Prop} (C : Cx Z cX7_putBody 7 RX7) (hR : RM Z 4 86) (k : Nat) (p1 : Nat) (p2 : Nat) (x3 : Int32) (x4 : Int32) (x5 : Nat) (x6 : Int32) (hk : isO k 7) (hp1 : isO p1 4) (hp2 : isO p2 10) (hx5 : isO x5 9) (I : Mem) (hB : ∀ a, K (.inl a) → WM Z a.2.2 25 [some (rf (zG Z) k), some (rf (zG Z) p1), some (rf (zG Z) p2), some (.int a.1), some (.int x4), some (rf (zG Z) x5), some (.int a.2.1)] []) (hX0 : ∀ b, K (.inr (b)) → WM Z b.2 71 [some (rf (zG Z) k), some (rf (zG Z) p1), some (rf (zG Z) p2), some (.int b.1), some (.int x4), none, none] []) : WF Z K (m_X7_putBody_j65 k p1 p2 x3 x4 x5 x6 I) I 65 [some (rf (zG Z) k), some (rf (zG Z) p1), some (rf (zG Z) p2), some (.int x3), some (.int x4), some (rf (zG Z) x5), some (.int x6)] [] := by
  unfold m_X7_putBody_j65
  refine w_iinc (v := x6 + 1) C dX7_putBody_65 rfl rfl (L' := [some (rf (zG Z) k), some (rf (zG Z) p1), some (rf (zG Z) p2), some (.int x3), some (.int x4), some (rf (zG Z) x5), some (.int (x6 + 1))]) rfl (q := 68) rfl ?_
  refine w_goto (tgt := 25) C dX7_putBody_68 (by decide) ?_
  exact w_jmp (fun h => WM.less (L' := [some (rf (zG Z) k), some (rf (zG Z) p1), some (rf (zG Z) p2), some (.int x3), some (.int x4), some (rf (zG Z) x5), some (.int (x6 + 1))]) (hB _ h) ⟨rfl, rfl, rfl, rfl, rfl, rfl, rfl, trivial⟩)
def m_X7_putBody_b25 (k : Nat) (p1 : Nat) (p2 : Nat) (x4 : Int32) (x5 : Nat) (x3 : Int32) (x6 : Int32) (I : Mem) : Option ((Int32 × Int32 × Mem) ⊕ ((Int32 × Mem))) :=
  if I k 2 ≤ x6 then (some (.inr ((x3, I)))) else (gd (inb x6 10) (Option.bind (m_X6_appliesTo ((k + 1) + (3 + 2 * x6.toNatClampNeg)) x5 I) fun r5 => if r5 = 0 then (m_X7_putBody_j65 k p1 p2 x3 x4 x5 x6 I) else (gd (inb x6 10) (Option.bind (m_X6_translate ((k + 1) + (3 + 2 * x6.toNatClampNeg)) x5 p2 I) fun I7 => m_X7_putBody_j65 k p1 p2 (x3 + 1) x4 x5 x6 I7))))
set_option maxRecDepth 100000 in
set_option maxHeartbeats 4000000 in
theorem m_X7_putBody_b25_ok {Z : Zx} {K : ((Int32 × Int32 × Mem) ⊕ ((Int32 × Mem))) → Prop} (C : Cx Z cX7_putBody 7 RX7) (hR : RM Z 4 86) (k : Nat) (p1 : Nat) (p2 : Nat) (x4 : Int32) (x5 : Nat) (x3 : Int32) (x6 : Int32) (hk : isO k 7) (hp1 : isO p1 4) (hp2 : isO p2 10) (hx5 : isO x5 9) (I : Mem) (hB : ∀ a, K (.inl a) → WM Z a.2.2 25 [some (rf (zG Z) k), some (rf (zG Z) p1), some (rf (zG Z) p2), some (.int a.1), some (.int x4), some (rf (zG Z) x5), some (.int a.2.1)] []) (hX0 : ∀ b, K (.inr (b)) → WM Z b.2 71 [some (rf (zG Z) k), some (rf (zG Z) p1), some (rf (zG Z) p2), some (.int b.1), some (.int x4), none, none] []) : WF Z K (m_X7_putBody_b25 k p1 p2 x4 x5 x3 x6 I) I 25 [some (rf (zG Z) k), some (rf (zG Z) p1), some (rf (zG Z) p2), some (.int x3), some (.int x4), some (rf (zG Z) x5), some (.int x6)] [] := by
  unfold m_X7_putBody_b25
  refine w_iload (v := x6) C dX7_putBody_25 rfl (q := 27) rfl ?_
  refine w_aload_n (v := k) C dX7_putBody_27 rfl (q := 28) rfl ?_
  refine g_X7_2 C hk lk_X7_22 dX7_putBody_28 (q := 31) rfl ?_
  refine w_icmp_ge (tgt := 71) (q := 34) C dX7_putBody_31 (by decide) rfl (fun _ => ?_) (fun _ => ?_)
  · exact w_jmp (fun h => WM.less (L' := [some (rf (zG Z) k), some (rf (zG Z) p1), some (rf (zG Z) p2), some (.int x3), some (.int x4), none, none]) (hX0 _ h) ⟨rfl, rfl, rfl, rfl, rfl, trivial⟩)
  · refine w_aload_n (v := k) C dX7_putBody_34 rfl (q := 35) rfl ?_
    refine g_X7_0 C hk lk_X7_11 dX7_putBody_35 (q := 38) rfl ?_
    refine w_iload (v := x6) C dX7_putBody_38 rfl (q := 40) rfl ?_
    refine w_aald (t := 2) C (st_X7_0 hk).2 rfl (el_Rule (st_X7_0 hk).2) dX7_putBody_40 (q := 41) rfl (fun _ h4 => ?_)
    refine w_aload (v := x5) C dX7_putBody_41 rfl (q := 43) rfl ?_
    refine w_callV (val := fun r5 => some (.int r5)) (mem := fun r5 => I) (st1 := fun r5 => [.int r5]) (As := [rf (zG Z) x5]) (st := []) (q := 46) C hR (fun x h => c_X6_appliesTo (zl Z) (zG Z)  h4 hx5 I h) h4 mv_X6_appliesTo lk_X7_69 rfl (by decide) (fun _ => rfl) (Nat.le_of_ble_eq_true rfl) rfl rfl dX7_putBody_43 rfl (fun r5 => ?_)
    refine w_if_eq (tgt := 65) (q := 49) C dX7_putBody_46 (by decide) rfl (fun _ => ?_) (fun _ => ?_)
    · exact WF.less (L' := [some (rf (zG Z) k), some (rf (zG Z) p1), some (rf (zG Z) p2), some (.int x3), some (.int x4), some (rf (zG Z) x5), some (.int x6)]) (m_X7_putBody_j65_ok C hR k p1 p2 x3 x4 x5 x6 hk hp1 hp2 hx5 I hB hX0) ⟨rfl, rfl, rfl, rfl, rfl, rfl, rfl, trivial⟩
    · refine w_aload_n (v := k) C dX7_putBody_49 rfl (q := 50) rfl ?_
      refine g_X7_0 C hk lk_X7_11 dX7_putBody_50 (q := 53) rfl ?_
      refine w_iload (v := x6) C dX7_putBody_53 rfl (q := 55) rfl ?_
      refine w_aald (t := 2) C (st_X7_0 hk).2 rfl (el_Rule (st_X7_0 hk).2) dX7_putBody_55 (q := 56) rfl (fun _ h6 => ?_)
      refine w_aload (v := x5) C dX7_putBody_56 rfl (q := 58) rfl ?_
      refine w_aload_n (v := p2) C dX7_putBody_58 rfl (q := 59) rfl ?_
      refine w_callV (val := fun I7 => none) (mem := fun I7 => I7) (st1 := fun I7 => []) (As := [rf (zG Z) x5, rf (zG Z) p2]) (st := []) (q := 62) C hR (fun x h => c_X6_translate (zl Z) (zG Z)  h6 hx5 hp2 I h) h6 mv_X6_translate lk_X7_73 rfl (by decide) (fun _ => rfl) (Nat.le_of_ble_eq_true rfl) rfl rfl dX7_putBody_59 rfl (fun I7 => ?_)
      refine w_iinc (v := x3 + 1) C dX7_putBody_62 rfl rfl (L' := [some (rf (zG Z) k), some (rf (zG Z) p1), some (rf (zG Z) p2), some (.int (x3 + 1)), some (.int x4), some (rf (zG Z) x5), some (.int x6)]) rfl (q := 65) rfl ?_
      exact WF.less (L' := [some (rf (zG Z) k), some (rf (zG Z) p1), some (rf (zG Z) p2), some (.int (x3 + 1)), some (.int x4), some (rf (zG Z) x5), some (.int x6)]) (m_X7_putBody_j65_ok C hR k p1 p2 (x3 + 1) x4 x5 x6 hk hp1 hp2 hx5 I7 hB hX0) ⟨rfl, rfl, rfl, rfl, rfl, rfl, rfl, trivial⟩
def m_X7_putBody_b5 (k : Nat) (p1 : Nat) (p2 : Nat) (x3 : Int32) (x4 : Int32) (I : Mem) : Option ((Int32 × Int32 × Mem) ⊕ ((Int32 × Mem))) :=
  Option.bind (m_X4_bodyCount p1 I) fun r1 => if r1 ≤ x4 then (some (.inr ((x3, I)))) else (Option.bind (m_X4_bodyAt p1 x4 I) fun r2 => gd (iO r2 9) (Option.bind (loopF (fun a => m_X7_putBody_b25 k p1 p2 x4 r2 a.1 a.2.1 a.2.2) FU (x3, (0 : Int32), I)) (fun b8 => some (.inl (b8.1, x4 + 1, b8.2)))))
set_option maxRecDepth 100000 in
set_option maxHeartbeats 4000000 in
theorem m_X7_putBody_b5_ok {Z : Zx} {K : ((Int32 × Int32 × Mem) ⊕ ((Int32 × Mem))) → Prop} (C : Cx Z cX7_putBody 7 RX7) (hR : RM Z 4 86) (k : Nat) (p1 : Nat) (p2 : Nat) (x3 : Int32) (x4 : Int32) (hk : isO k 7) (hp1 : isO p1 4) (hp2 : isO p2 10) (I : Mem) (hB : ∀ a, K (.inl a) → WM Z a.2.2 5 [some (rf (zG Z) k), some (rf (zG Z) p1), some (rf (zG Z) p2), some (.int a.1), some (.int a.2.1), none, none] []) (hX0 : ∀ b, K (.inr (b)) → WM Z b.2 77 [none, none, none, some (.int b.1), none, none, none] []) : WF Z K (m_X7_putBody_b5 k p1 p2 x3 x4 I) I 5 [some (rf (zG Z) k), some (rf (zG Z) p1), some (rf (zG Z) p2), some (.int x3), some (.int x4), none, none] [] := by
  unfold m_X7_putBody_b5
  refine w_iload (v := x4) C dX7_putBody_5 rfl (q := 7) rfl ?_
  refine w_aload_n (v := p1) C dX7_putBody_7 rfl (q := 8) rfl ?_
  refine w_callV (val := fun r1 => some (.int r1)) (mem := fun r1 => I) (st1 := fun r1 => [.int r1, .int x4]) (As := []) (st := [.int x4]) (q := 11) C hR (fun x h => c_X4_bodyCount (zl Z) (zG Z)  hp1 I h) hp1 mv_X4_bodyCount lk_X7_59 rfl (by decide) (fun _ => rfl) (Nat.le_of_ble_eq_true rfl) rfl rfl dX7_putBody_8 rfl (fun r1 => ?_)
  refine w_icmp_ge (tgt := 77) (q := 14) C dX7_putBody_11 (by decide) rfl (fun _ => ?_) (fun _ => ?_)
  · exact w_jmp (fun h => WM.less (L' := [none, none, none, some (.int x3), none, none, none]) (hX0 _ h) ⟨rfl, trivial⟩)
  · refine w_aload_n (v := p1) C dX7_putBody_14 rfl (q := 15) rfl ?_
    refine w_iload (v := x4) C dX7_putBody_15 rfl (q := 17) rfl ?_
    refine w_callV (val := fun r2 => some (rf (zG Z) r2)) (mem := fun r2 => I) (st1 := fun r2 => [rf (zG Z) r2]) (As := [.int x4]) (st := []) (q := 20) C hR (fun x h => c_X4_bodyAt (zl Z) (zG Z) x4 hp1 I h) hp1 mv_X4_bodyAt lk_X7_65 rfl (by decide) (fun _ => rfl) (Nat.le_of_ble_eq_true rfl) rfl rfl dX7_putBody_17 rfl (fun r2 => ?_)
    refine w_gd (fun h3 => ?_)
    refine w_astore C dX7_putBody_20 (Nat.le_of_ble_eq_true rfl) (L' := [some (rf (zG Z) k), some (rf (zG Z) p1), some (rf (zG Z) p2), some (.int x3), some (.int x4), some (rf (zG Z) r2), none]) rfl (q := 22) rfl ?_
    refine w_iconst (v := (0)) C dX7_putBody_22 (by decide) (q := 23) rfl ?_
    refine w_istore C dX7_putBody_23 (Nat.le_of_ble_eq_true rfl) (L' := [some (rf (zG Z) k), some (rf (zG Z) p1), some (rf (zG Z) p2), some (.int x3), some (.int x4), some (rf (zG Z) r2), some (.int 0)]) rfl (q := 25) rfl ?_
    refine WF.less (L' := [some (rf (zG Z) k), some (rf (zG Z) p1), some (rf (zG Z) p2), some (.int x3), some (.int x4), some (rf (zG Z) r2), some (.int 0)]) (w_loopF (pc := 25) (a := (x3, (0 : Int32), I)) (mem := fun a => a.2.2) (lo := fun a => [some (rf (zG Z) k), some (rf (zG Z) p1), some (rf (zG Z) p2), some (.int a.1), some (.int x4), some (rf (zG Z) r2), some (.int a.2.1)]) (E := fun b8 => WM Z b8.2 71 [some (rf (zG Z) k), some (rf (zG Z) p1), some (rf (zG Z) p2), some (.int b8.1), some (.int x4), none, none] []) (fun a => m_X7_putBody_b25_ok C hR k p1 p2 x4 r2 a.1 a.2.1 hk hp1 hp2 (iO_of h3) a.2.2 (fun _ h => h) (fun _ h => h)) ?_) ⟨rfl, rfl, rfl, rfl, rfl, rfl, rfl, trivial⟩
    intro b8
    refine w_hx ?_
    refine w_iinc (v := x4 + 1) C dX7_putBody_71 rfl rfl (L' := [some (rf (zG Z) k), some (rf (zG Z) p1), some (rf (zG Z) p2), some (.int b8.1), some (.int (x4 + 1)), none, none]) rfl (q := 74) rfl ?_
    refine w_goto (tgt := 5) C dX7_putBody_74 (by decide) ?_
    exact w_jmp (fun h => WM.less (L' := [some (rf (zG Z) k), some (rf (zG Z) p1), some (rf (zG Z) p2), some (.int b8.1), some (.int (x4 + 1)), none, none]) (hB _ h) ⟨rfl, rfl, rfl, rfl, rfl, trivial⟩)
def m_X7_putBody (k : Nat) (p1 : Nat) (p2 : Nat) (I : Mem) : Option (Int32 × Mem) :=
  Option.bind (loopF (fun a => m_X7_putBody_b5 k p1 p2 a.1 a.2.1 a.2.2) FU ((0 : Int32), (0 : Int32), I)) (fun b9 => some ((b9.1, b9.2)))
set_option maxRecDepth 100000 in
set_option maxHeartbeats 4000000 in
theorem m_X7_putBody_ok {Z : Zx} {K : (Int32 × Mem) → Prop} (C : Cx Z cX7_putBody 7 RX7) (hR : RM Z 4 86) (k : Nat) (p1 : Nat) (p2 : Nat) (hk : isO k 7) (hp1 : isO p1 4) (hp2 : isO p2 10) (I : Mem) (hK : ∀ y, K (y) → RetI Z cX7_putBody .int y.1 y.2) : WF Z K (m_X7_putBody k p1 p2 I) I 0 [some (rf (zG Z) k), some (rf (zG Z) p1), some (rf (zG Z) p2), none, none, none, none] [] := by
  unfold m_X7_putBody
  refine w_iconst (v := (0)) C dX7_putBody_0 (by decide) (q := 1) rfl ?_
  refine w_istore_n C dX7_putBody_1 (Nat.le_of_ble_eq_true rfl) (L' := [some (rf (zG Z) k), some (rf (zG Z) p1), some (rf (zG Z) p2), some (.int 0), none, none, none]) rfl (q := 2) rfl ?_
  refine w_iconst (v := (0)) C dX7_putBody_2 (by decide) (q := 3) rfl ?_
  refine w_istore C dX7_putBody_3 (Nat.le_of_ble_eq_true rfl) (L' := [some (rf (zG Z) k), some (rf (zG Z) p1), some (rf (zG Z) p2), some (.int 0), some (.int 0), none, none]) rfl (q := 5) rfl ?_
  refine WF.less (L' := [some (rf (zG Z) k), some (rf (zG Z) p1), some (rf (zG Z) p2), some (.int 0), some (.int 0), none, none]) (w_loopF (pc := 5) (a := ((0 : Int32), (0 : Int32), I)) (mem := fun a => a.2.2) (lo := fun a => [some (rf (zG Z) k), some (rf (zG Z) p1), some (rf (zG Z) p2), some (.int a.1), some (.int a.2.1), none, none]) (E := fun b9 => WM Z b9.2 77 [none, none, none, some (.int b9.1), none, none, none] []) (fun a => m_X7_putBody_b5_ok C hR k p1 p2 a.1 a.2.1 hk hp1 hp2 a.2.2 (fun _ h => h) (fun _ h => h)) ?_) ⟨rfl, rfl, rfl, rfl, rfl, trivial⟩
  intro b9
  refine w_hx ?_
  refine w_iload_n (v := b9.1) C dX7_putBody_77 rfl (q := 78) rfl ?_
  exact w_iret C (hK _) rfl dX7_putBody_78
theorem c_X7_putBody (l : Launch) (G : Gx) {k : Nat} {p1 : Nat} {p2 : Nat} (hk : isO k 7) (hp1 : isO p1 4) (hp2 : isO p2 10) (I : Mem) {x : Int32 × Mem} (h : m_X7_putBody k p1 p2 I = some x) : Ct l G yX7_putBody cX7_putBody 7 (some (.int)) 4 86 [rf G k, rf G p1, rf G p2] I (some (.int x.1)) x.2 := Ct.of (by decide +kernel) rfl (Nat.le_of_ble_eq_true rfl) ret_i (fun Z hG hl C hR hret => by
  subst hG
  exact m_X7_putBody_ok (K := fun y => y = x) C hR k p1 p2 hk hp1 hp2 I (fun y hy => by subst hy; exact hret) x h rfl)
def m_X10_putNumber_j32 (k : Nat) (p1 : Int32) (x2 : Int32) (I : Mem) : Option ((Int32 × Mem) ⊕ ((Mem))) :=
  some (.inl (x2 / 10, I))
set_option maxRecDepth 100000 in
set_option maxHeartbeats 4000000 in
theorem m_X10_putNumber_j32_ok {Z : Zx} {K : ((Int32 × Mem) ⊕ ((Mem))) → Prop} (C : Cx Z cX10_putNumber 3 RX10) (hR : RM Z 1 21) (k : Nat) (p1 : Int32) (x2 : Int32) (hk : isO k 10) (I : Mem) (hB : ∀ a, K (.inl a) → WM Z a.2 4 [some (rf (zG Z) k), some (.int p1), some (.int a.1)] []) (hX0 : ∀ b, K (.inr (b)) → WM Z b 40 [none, none, none] []) : WF Z K (m_X10_putNumber_j32 k p1 x2 I) I 32 [some (rf (zG Z) k), some (.int p1), some (.int x2)] [] := by
  unfold m_X10_putNumber_j32
  refine w_iload_n (v := x2) C dX10_putNumber_32 rfl (q := 33) rfl ?_
  refine w_bipush (v := (10)) C dX10_putNumber_33 (by decide) (q := 35) rfl ?_
  refine w_idivL C (by decide) dX10_putNumber_35 (q := 36) rfl ?_
  refine w_istore_n C dX10_putNumber_36 (Nat.le_of_ble_eq_true rfl) (L' := [some (rf (zG Z) k), some (.int p1), some (.int (x2 / 10))]) rfl (q := 37) rfl ?_
  refine w_goto (tgt := 4) C dX10_putNumber_37 (by decide) ?_
  exact w_jmp (fun h => WM.less (L' := [some (rf (zG Z) k), some (.int p1), some (.int (x2 / 10))]) (hB _ h) ⟨rfl, rfl, rfl, trivial⟩)
def m_X10_putNumber_j18 (k : Nat) (p1 : Int32) (x2 : Int32) (I : Mem) : Option ((Int32 × Mem) ⊕ ((Mem))) :=
  gd (decide (¬ x2 = 0)) (Option.bind (m_X10_put k (((((48 : Int32)) + ((p1 / x2) - (p1 / x2) / 10 * 10)).toUInt32 % 65536).toInt32) I) fun I1 => m_X10_putNumber_j32 k p1 x2 I1)
set_option maxRecDepth 100000 in
set_option maxHeartbeats 4000000 in
theorem m_X10_putNumber_j18_ok {Z : Zx} {K : ((Int32 × Mem) ⊕ ((Mem))) → Prop} (C : Cx Z cX10_putNumber 3 RX10) (hR : RM Z 1 21) (k : Nat) (p1 : Int32) (x2 : Int32) (hk : isO k 10) (I : Mem) (hB : ∀ a, K (.inl a) → WM Z a.2 4 [some (rf (zG Z) k), some (.int p1), some (.int a.1)] []) (hX0 : ∀ b, K (.inr (b)) → WM Z b 40 [none, none, none] []) : WF Z K (m_X10_putNumber_j18 k p1 x2 I) I 18 [some (rf (zG Z) k), some (.int p1), some (.int x2)] [] := by
  unfold m_X10_putNumber_j18
  refine w_aload_n (v := k) C dX10_putNumber_18 rfl (q := 19) rfl ?_
  refine w_bipush (v := (48)) C dX10_putNumber_19 (by decide) (q := 21) rfl ?_
  refine w_iload_n (v := p1) C dX10_putNumber_21 rfl (q := 22) rfl ?_
  refine w_iload_n (v := x2) C dX10_putNumber_22 rfl (q := 23) rfl ?_
  refine w_idiv C dX10_putNumber_23 (q := 24) rfl ?_
  refine w_bipush (v := (10)) C dX10_putNumber_24 (by decide) (q := 26) rfl ?_
  refine w_iremL C (by decide) dX10_putNumber_26 (q := 27) rfl ?_
  refine w_iadd C dX10_putNumber_27 (q := 28) rfl ?_
  refine w_i2c C dX10_putNumber_28 (q := 29) rfl ?_
  refine w_callV (val := fun I1 => none) (mem := fun I1 => I1) (st1 := fun I1 => []) (As := [.int (((((48 : Int32)) + ((p1 / x2) - (p1 / x2) / 10 * 10)).toUInt32 % 65536).toInt32)]) (st := []) (q := 32) C hR (fun x h => c_X10_put (zl Z) (zG Z) (((((48 : Int32)) + ((p1 / x2) - (p1 / x2) / 10 * 10)).toUInt32 % 65536).toInt32) hk I h) hk mv_X10_put lk_X10_27 rfl (by decide) (fun _ => rfl) (Nat.le_of_ble_eq_true rfl) rfl rfl dX10_putNumber_29 rfl (fun I1 => ?_)
  exact WF.less (L' := [some (rf (zG Z) k), some (.int p1), some (.int x2)]) (m_X10_putNumber_j32_ok C hR k p1 x2 hk I1 hB hX0) ⟨rfl, rfl, rfl, trivial⟩
def m_X10_putNumber_b4 (k : Nat) (p1 : Int32) (x2 : Int32) (I : Mem) : Option ((Int32 × Mem) ⊕ ((Mem))) :=
  if x2 ≤ 0 then (some (.inr (I))) else (if x2 ≤ p1 then (m_X10_putNumber_j18 k p1 x2 I) else (if x2 = 1 then (m_X10_putNumber_j18 k p1 x2 I) else (m_X10_putNumber_j32 k p1 x2 I)))
set_option maxRecDepth 100000 in
set_option maxHeartbeats 4000000 in
theorem m_X10_putNumber_b4_ok {Z : Zx} {K : ((Int32 × Mem) ⊕ ((Mem))) → Prop} (C : Cx Z cX10_putNumber 3 RX10) (hR : RM Z 1 21) (k : Nat) (p1 : Int32) (x2 : Int32) (hk : isO k 10) (I : Mem) (hB : ∀ a, K (.inl a) → WM Z a.2 4 [some (rf (zG Z) k), some (.int p1), some (.int a.1)] []) (hX0 : ∀ b, K (.inr (b)) → WM Z b 40 [none, none, none] []) : WF Z K (m_X10_putNumber_b4 k p1 x2 I) I 4 [some (rf (zG Z) k), some (.int p1), some (.int x2)] [] := by
  unfold m_X10_putNumber_b4
  refine w_iload_n (v := x2) C dX10_putNumber_4 rfl (q := 5) rfl ?_
  refine w_if_le (tgt := 40) (q := 8) C dX10_putNumber_5 (by decide) rfl (fun _ => ?_) (fun _ => ?_)
  · exact w_jmp (fun h => WM.less (L' := [none, none, none]) (hX0 _ h) trivial)
  · refine w_iload_n (v := p1) C dX10_putNumber_8 rfl (q := 9) rfl ?_
    refine w_iload_n (v := x2) C dX10_putNumber_9 rfl (q := 10) rfl ?_
    refine w_icmp_ge (tgt := 18) (q := 13) C dX10_putNumber_10 (by decide) rfl (fun _ => ?_) (fun _ => ?_)
    · exact WF.less (L' := [some (rf (zG Z) k), some (.int p1), some (.int x2)]) (m_X10_putNumber_j18_ok C hR k p1 x2 hk I hB hX0) ⟨rfl, rfl, rfl, trivial⟩
    · refine w_iload_n (v := x2) C dX10_putNumber_13 rfl (q := 14) rfl ?_
      refine w_iconst (v := (1)) C dX10_putNumber_14 (by decide) (q := 15) rfl ?_
      refine w_icmp_ne (tgt := 32) (q := 18) C dX10_putNumber_15 (by decide) rfl (fun _ => ?_) (fun _ => ?_)
      · exact WF.less (L' := [some (rf (zG Z) k), some (.int p1), some (.int x2)]) (m_X10_putNumber_j18_ok C hR k p1 x2 hk I hB hX0) ⟨rfl, rfl, rfl, trivial⟩
      · exact WF.less (L' := [some (rf (zG Z) k), some (.int p1), some (.int x2)]) (m_X10_putNumber_j32_ok C hR k p1 x2 hk I hB hX0) ⟨rfl, rfl, rfl, trivial⟩
def m_X10_putNumber (k : Nat) (p1 : Int32) (I : Mem) : Option (Mem) :=
  Option.bind (loopF (fun a => m_X10_putNumber_b4 k p1 a.1 a.2) FU ((1000 : Int32), I)) (fun b2 => some b2)
set_option maxRecDepth 100000 in
set_option maxHeartbeats 4000000 in
theorem m_X10_putNumber_ok {Z : Zx} {K : Mem → Prop} (C : Cx Z cX10_putNumber 3 RX10) (hR : RM Z 1 21) (k : Nat) (p1 : Int32) (hk : isO k 10) (I : Mem) (hK : ∀ y, K (y) → RetV Z cX10_putNumber y) : WF Z K (m_X10_putNumber k p1 I) I 0 [some (rf (zG Z) k), some (.int p1), none] [] := by
  unfold m_X10_putNumber
  refine w_sipush (v := (1000)) C dX10_putNumber_0 (by decide) (q := 3) rfl ?_
  refine w_istore_n C dX10_putNumber_3 (Nat.le_of_ble_eq_true rfl) (L' := [some (rf (zG Z) k), some (.int p1), some (.int 1000)]) rfl (q := 4) rfl ?_
  refine WF.less (L' := [some (rf (zG Z) k), some (.int p1), some (.int 1000)]) (w_loopF (pc := 4) (a := ((1000 : Int32), I)) (mem := fun a => a.2) (lo := fun a => [some (rf (zG Z) k), some (.int p1), some (.int a.1)]) (E := fun b2 => WM Z b2 40 [none, none, none] []) (fun a => m_X10_putNumber_b4_ok C hR k p1 a.1 hk a.2 (fun _ h => h) (fun _ h => h)) ?_) ⟨rfl, rfl, rfl, trivial⟩
  intro b2
  refine w_hx ?_
  exact w_vret C (hK _) dX10_putNumber_40
theorem c_X10_putNumber (l : Launch) (G : Gx) {k : Nat} (p1 : Int32) (hk : isO k 10) (I : Mem) {x : Mem} (h : m_X10_putNumber k p1 I = some x) : Ct l G yX10_putNumber cX10_putNumber 3 none 1 21 [rf G k, .int p1] I (none) x := Ct.of (by decide +kernel) rfl (Nat.le_of_ble_eq_true rfl) ret_v (fun Z hG hl C hR hret => by
  subst hG
  exact m_X10_putNumber_ok (K := fun y => y = x) C hR k p1 hk I (fun y hy => by subst hy; exact hret) x h rfl)
def m_X7_putHeader (p1 : Int32) (p2 : Nat) (I : Mem) : Option (Mem) :=
  Option.bind (m_X10_put p2 ((72 : Int32)) I) fun I1 => Option.bind (m_X10_put p2 ((43 : Int32)) I1) fun I2 => Option.bind (m_X10_putNumber p2 p1 I2) fun I3 => Option.bind (m_X10_put p2 ((39 : Int32)) I3) fun I4 => some I4
set_option maxRecDepth 100000 in
set_option maxHeartbeats 4000000 in
theorem m_X7_putHeader_ok {Z : Zx} {K : Mem → Prop} (C : Cx Z cX7_putHeader 2 RX7) (hR : RM Z 2 43) (p1 : Int32) (p2 : Nat) (hp2 : isO p2 10) (I : Mem) (hK : ∀ y, K (y) → RetV Z cX7_putHeader y) : WF Z K (m_X7_putHeader p1 p2 I) I 0 [some (.int p1), some (rf (zG Z) p2)] [] := by
  unfold m_X7_putHeader
  refine w_aload_n (v := p2) C dX7_putHeader_0 rfl (q := 1) rfl ?_
  refine w_bipush (v := (72)) C dX7_putHeader_1 (by decide) (q := 3) rfl ?_
  refine w_callV (val := fun I1 => none) (mem := fun I1 => I1) (st1 := fun I1 => []) (As := [.int 72]) (st := []) (q := 6) C hR (fun x h => c_X10_put (zl Z) (zG Z) ((72 : Int32)) hp2 I h) hp2 mv_X10_put lk_X7_51 rfl (by decide) (fun _ => rfl) (Nat.le_of_ble_eq_true rfl) rfl rfl dX7_putHeader_3 rfl (fun I1 => ?_)
  refine w_aload_n (v := p2) C dX7_putHeader_6 rfl (q := 7) rfl ?_
  refine w_bipush (v := (43)) C dX7_putHeader_7 (by decide) (q := 9) rfl ?_
  refine w_callV (val := fun I2 => none) (mem := fun I2 => I2) (st1 := fun I2 => []) (As := [.int 43]) (st := []) (q := 12) C hR (fun x h => c_X10_put (zl Z) (zG Z) ((43 : Int32)) hp2 I1 h) hp2 mv_X10_put lk_X7_51 rfl (by decide) (fun _ => rfl) (Nat.le_of_ble_eq_true rfl) rfl rfl dX7_putHeader_9 rfl (fun I2 => ?_)
  refine w_aload_n (v := p2) C dX7_putHeader_12 rfl (q := 13) rfl ?_
  refine w_iload_n (v := p1) C dX7_putHeader_13 rfl (q := 14) rfl ?_
  refine w_callV (val := fun I3 => none) (mem := fun I3 => I3) (st1 := fun I3 => []) (As := [.int p1]) (st := []) (q := 17) C hR (fun x h => c_X10_putNumber (zl Z) (zG Z) p1 hp2 I2 h) hp2 mv_X10_putNumber lk_X7_55 rfl (by decide) (fun _ => rfl) (Nat.le_of_ble_eq_true rfl) rfl rfl dX7_putHeader_14 rfl (fun I3 => ?_)
  refine w_aload_n (v := p2) C dX7_putHeader_17 rfl (q := 18) rfl ?_
  refine w_bipush (v := (39)) C dX7_putHeader_18 (by decide) (q := 20) rfl ?_
  refine w_callV (val := fun I4 => none) (mem := fun I4 => I4) (st1 := fun I4 => []) (As := [.int 39]) (st := []) (q := 23) C hR (fun x h => c_X10_put (zl Z) (zG Z) ((39 : Int32)) hp2 I3 h) hp2 mv_X10_put lk_X7_51 rfl (by decide) (fun _ => rfl) (Nat.le_of_ble_eq_true rfl) rfl rfl dX7_putHeader_20 rfl (fun I4 => ?_)
  exact w_vret C (hK _) dX7_putHeader_23
theorem c_X7_putHeader (l : Launch) (G : Gx) (p1 : Int32) {p2 : Nat} (hp2 : isO p2 10) (I : Mem) {x : Mem} (h : m_X7_putHeader p1 p2 I = some x) : Ct l G yX7_putHeader cX7_putHeader 2 none 2 43 [.int p1, rf G p2] I (none) x := Ct.of (by decide +kernel) rfl (Nat.le_of_ble_eq_true rfl) ret_v (fun Z hG hl C hR hret => by
  subst hG
  exact m_X7_putHeader_ok (K := fun y => y = x) C hR p1 p2 hp2 I (fun y hy => by subst hy; exact hret) x h rfl)
def m_X7_putTrailer (p1 : Int32) (p2 : Int32) (p3 : Nat) (I : Mem) : Option (Mem) :=
  Option.bind (m_X10_put p3 ((84 : Int32)) I) fun I1 => Option.bind (m_X10_put p3 ((43 : Int32)) I1) fun I2 => Option.bind (m_X10_putNumber p3 p1 I2) fun I3 => Option.bind (m_X10_put p3 ((43 : Int32)) I3) fun I4 => Option.bind (m_X10_putNumber p3 p2 I4) fun I5 => Option.bind (m_X10_put p3 ((39 : Int32)) I5) fun I6 => some I6
set_option maxRecDepth 100000 in
set_option maxHeartbeats 4000000 in
theorem m_X7_putTrailer_ok {Z : Zx} {K : Mem → Prop} (C : Cx Z cX7_putTrailer 3 RX7) (hR : RM Z 2 43) (p1 : Int32) (p2 : Int32) (p3 : Nat) (hp3 : isO p3 10) (I : Mem) (hK : ∀ y, K (y) → RetV Z cX7_putTrailer y) : WF Z K (m_X7_putTrailer p1 p2 p3 I) I 0 [some (.int p1), some (.int p2), some (rf (zG Z) p3)] [] := by
  unfold m_X7_putTrailer
  refine w_aload_n (v := p3) C dX7_putTrailer_0 rfl (q := 1) rfl ?_
  refine w_bipush (v := (84)) C dX7_putTrailer_1 (by decide) (q := 3) rfl ?_
  refine w_callV (val := fun I1 => none) (mem := fun I1 => I1) (st1 := fun I1 => []) (As := [.int 84]) (st := []) (q := 6) C hR (fun x h => c_X10_put (zl Z) (zG Z) ((84 : Int32)) hp3 I h) hp3 mv_X10_put lk_X7_51 rfl (by decide) (fun _ => rfl) (Nat.le_of_ble_eq_true rfl) rfl rfl dX7_putTrailer_3 rfl (fun I1 => ?_)
  refine w_aload_n (v := p3) C dX7_putTrailer_6 rfl (q := 7) rfl ?_
  refine w_bipush (v := (43)) C dX7_putTrailer_7 (by decide) (q := 9) rfl ?_
  refine w_callV (val := fun I2 => none) (mem := fun I2 => I2) (st1 := fun I2 => []) (As := [.int 43]) (st := []) (q := 12) C hR (fun x h => c_X10_put (zl Z) (zG Z) ((43 : Int32)) hp3 I1 h) hp3 mv_X10_put lk_X7_51 rfl (by decide) (fun _ => rfl) (Nat.le_of_ble_eq_true rfl) rfl rfl dX7_putTrailer_9 rfl (fun I2 => ?_)
  refine w_aload_n (v := p3) C dX7_putTrailer_12 rfl (q := 13) rfl ?_
  refine w_iload_n (v := p1) C dX7_putTrailer_13 rfl (q := 14) rfl ?_
  refine w_callV (val := fun I3 => none) (mem := fun I3 => I3) (st1 := fun I3 => []) (As := [.int p1]) (st := []) (q := 17) C hR (fun x h => c_X10_putNumber (zl Z) (zG Z) p1 hp3 I2 h) hp3 mv_X10_putNumber lk_X7_55 rfl (by decide) (fun _ => rfl) (Nat.le_of_ble_eq_true rfl) rfl rfl dX7_putTrailer_14 rfl (fun I3 => ?_)
  refine w_aload_n (v := p3) C dX7_putTrailer_17 rfl (q := 18) rfl ?_
  refine w_bipush (v := (43)) C dX7_putTrailer_18 (by decide) (q := 20) rfl ?_
  refine w_callV (val := fun I4 => none) (mem := fun I4 => I4) (st1 := fun I4 => []) (As := [.int 43]) (st := []) (q := 23) C hR (fun x h => c_X10_put (zl Z) (zG Z) ((43 : Int32)) hp3 I3 h) hp3 mv_X10_put lk_X7_51 rfl (by decide) (fun _ => rfl) (Nat.le_of_ble_eq_true rfl) rfl rfl dX7_putTrailer_20 rfl (fun I4 => ?_)
  refine w_aload_n (v := p3) C dX7_putTrailer_23 rfl (q := 24) rfl ?_
  refine w_iload_n (v := p2) C dX7_putTrailer_24 rfl (q := 25) rfl ?_
  refine w_callV (val := fun I5 => none) (mem := fun I5 => I5) (st1 := fun I5 => []) (As := [.int p2]) (st := []) (q := 28) C hR (fun x h => c_X10_putNumber (zl Z) (zG Z) p2 hp3 I4 h) hp3 mv_X10_putNumber lk_X7_55 rfl (by decide) (fun _ => rfl) (Nat.le_of_ble_eq_true rfl) rfl rfl dX7_putTrailer_25 rfl (fun I5 => ?_)
  refine w_aload_n (v := p3) C dX7_putTrailer_28 rfl (q := 29) rfl ?_
  refine w_bipush (v := (39)) C dX7_putTrailer_29 (by decide) (q := 31) rfl ?_
  refine w_callV (val := fun I6 => none) (mem := fun I6 => I6) (st1 := fun I6 => []) (As := [.int 39]) (st := []) (q := 34) C hR (fun x h => c_X10_put (zl Z) (zG Z) ((39 : Int32)) hp3 I5 h) hp3 mv_X10_put lk_X7_51 rfl (by decide) (fun _ => rfl) (Nat.le_of_ble_eq_true rfl) rfl rfl dX7_putTrailer_31 rfl (fun I6 => ?_)
  exact w_vret C (hK _) dX7_putTrailer_34
theorem c_X7_putTrailer (l : Launch) (G : Gx) (p1 : Int32) (p2 : Int32) {p3 : Nat} (hp3 : isO p3 10) (I : Mem) {x : Mem} (h : m_X7_putTrailer p1 p2 p3 I = some x) : Ct l G yX7_putTrailer cX7_putTrailer 3 none 2 43 [.int p1, .int p2, rf G p3] I (none) x := Ct.of (by decide +kernel) rfl (Nat.le_of_ble_eq_true rfl) ret_v (fun Z hG hl C hR hret => by
  subst hG
  exact m_X7_putTrailer_ok (K := fun y => y = x) C hR p1 p2 p3 hp3 I (fun y hy => by subst hy; exact hret) x h rfl)
def m_X10_isOverfull (k : Nat) (I : Mem) : Option (Int32) :=
  gd (okz (I k 2)) (some (I k 2))
set_option maxRecDepth 100000 in
set_option maxHeartbeats 4000000 in
theorem m_X10_isOverfull_ok {Z : Zx} {K : Int32 → Prop} (C : Cx Z cX10_isOverfull 1 RX10) (hR : RM Z 0 0) (k : Nat) (hk : isO k 10) (I : Mem) (hK : ∀ y, K (y) → RetI Z cX10_isOverfull .boolean y I) : WF Z K (m_X10_isOverfull k I) I 0 [some (rf (zG Z) k)] [] := by
  unfold m_X10_isOverfull
  refine w_aload_n (v := k) C dX10_isOverfull_0 rfl (q := 1) rfl ?_
  refine g_X10_2 C hk lk_X10_19 dX10_isOverfull_1 (q := 4) rfl ?_
  refine w_gd (fun h1 => ?_)
  exact w_iret C (hK _) (okz_n h1).1 dX10_isOverfull_4
theorem c_X10_isOverfull (l : Launch) (G : Gx) {k : Nat} (hk : isO k 10) (I : Mem) {x : Int32} (h : m_X10_isOverfull k I = some x) : Ct l G yX10_isOverfull cX10_isOverfull 1 (some (.boolean)) 0 0 [rf G k] I (some (.int x)) I := Ct.of (by decide +kernel) rfl (Nat.le_of_ble_eq_true rfl) ret_i (fun Z hG hl C hR hret => by
  subst hG
  exact m_X10_isOverfull_ok (K := fun y => y = x) C hR k hk I (fun y hy => by subst hy; exact hret) x h rfl)
def m_X7_translate (k : Nat) (p1 : Nat) (p2 : Int32) (p3 : Nat) (I : Mem) : Option (Int32 × Mem) :=
  Option.bind (m_X10_wipe p3 I) fun I1 => Option.bind (m_X7_putHeader p2 p3 I1) fun I2 => Option.bind (m_X7_putBody k p1 p3 I2) fun r3 => Option.bind (m_X7_putTrailer (((2 : Int32)) + r3.1) p2 p3 r3.2) fun I4 => if 20 < ((2 : Int32)) + r3.1 then (some ((0, I4))) else (Option.bind (m_X10_isOverfull p3 I4) fun r5 => if r5 = 0 then (some ((1, I4))) else (some ((0, I4))))
set_option maxRecDepth 100000 in
set_option maxHeartbeats 4000000 in
theorem m_X7_translate_ok {Z : Zx} {K : (Int32 × Mem) → Prop} (C : Cx Z cX7_translate 5 RX7) (hR : RM Z 5 112) (k : Nat) (p1 : Nat) (p2 : Int32) (p3 : Nat) (hk : isO k 7) (hp1 : isO p1 4) (hp3 : isO p3 10) (I : Mem) (hK : ∀ y, K (y) → RetI Z cX7_translate .boolean y.1 y.2) : WF Z K (m_X7_translate k p1 p2 p3 I) I 0 [some (rf (zG Z) k), some (rf (zG Z) p1), some (.int p2), some (rf (zG Z) p3), none] [] := by
  unfold m_X7_translate
  refine w_aload_n (v := p3) C dX7_translate_0 rfl (q := 1) rfl ?_
  refine w_callV (val := fun I1 => none) (mem := fun I1 => I1) (st1 := fun I1 => []) (As := []) (st := []) (q := 4) C hR (fun x h => c_X10_wipe (zl Z) (zG Z)  hp3 I h) hp3 mv_X10_wipe lk_X7_30 rfl (by decide) (fun _ => rfl) (Nat.le_of_ble_eq_true rfl) rfl rfl dX7_translate_1 rfl (fun I1 => ?_)
  refine w_iload_n (v := p2) C dX7_translate_4 rfl (q := 5) rfl ?_
  refine w_aload_n (v := p3) C dX7_translate_5 rfl (q := 6) rfl ?_
  refine w_callS (val := fun I2 => none) (mem := fun I2 => I2) (st1 := fun I2 => []) (As := [.int p2, rf (zG Z) p3]) (st := []) (q := 9) C hR (fun x h => c_X7_putHeader (zl Z) (zG Z) p2 hp3 I1 h) mv_X7_putHeader lk_X7_35 rfl (by decide) (fun _ => rfl) (Nat.le_of_ble_eq_true rfl) rfl rfl dX7_translate_6 rfl (fun I2 => ?_)
  refine w_iconst (v := (2)) C dX7_translate_9 (by decide) (q := 10) rfl ?_
  refine w_aload_n (v := k) C dX7_translate_10 rfl (q := 11) rfl ?_
  refine w_aload_n (v := p1) C dX7_translate_11 rfl (q := 12) rfl ?_
  refine w_aload_n (v := p3) C dX7_translate_12 rfl (q := 13) rfl ?_
  refine w_callV (val := fun r3 => some (.int r3.1)) (mem := fun r3 => r3.2) (st1 := fun r3 => [.int r3.1, .int 2]) (As := [rf (zG Z) p1, rf (zG Z) p3]) (st := [.int 2]) (q := 16) C hR (fun x h => c_X7_putBody (zl Z) (zG Z)  hk hp1 hp3 I2 h) hk mv_X7_putBody lk_X7_39 rfl (by decide) (fun _ => rfl) (Nat.le_of_ble_eq_true rfl) rfl rfl dX7_translate_13 rfl (fun r3 => ?_)
  refine w_iadd C dX7_translate_16 (q := 17) rfl ?_
  refine w_istore C dX7_translate_17 (Nat.le_of_ble_eq_true rfl) (L' := [some (rf (zG Z) k), some (rf (zG Z) p1), some (.int p2), some (rf (zG Z) p3), some (.int (((2 : Int32)) + r3.1))]) rfl (q := 19) rfl ?_
  refine w_iload (v := ((2 : Int32)) + r3.1) C dX7_translate_19 rfl (q := 21) rfl ?_
  refine w_iload_n (v := p2) C dX7_translate_21 rfl (q := 22) rfl ?_
  refine w_aload_n (v := p3) C dX7_translate_22 rfl (q := 23) rfl ?_
  refine w_callS (val := fun I4 => none) (mem := fun I4 => I4) (st1 := fun I4 => []) (As := [.int (((2 : Int32)) + r3.1), .int p2, rf (zG Z) p3]) (st := []) (q := 26) C hR (fun x h => c_X7_putTrailer (zl Z) (zG Z) (((2 : Int32)) + r3.1) p2 hp3 r3.2 h) mv_X7_putTrailer lk_X7_43 rfl (by decide) (fun _ => rfl) (Nat.le_of_ble_eq_true rfl) rfl rfl dX7_translate_23 rfl (fun I4 => ?_)
  refine w_iload (v := ((2 : Int32)) + r3.1) C dX7_translate_26 rfl (q := 28) rfl ?_
  refine w_bipush (v := (20)) C dX7_translate_28 (by decide) (q := 30) rfl ?_
  refine w_icmp_gt (tgt := 44) (q := 33) C dX7_translate_30 (by decide) rfl (fun _ => ?_) (fun _ => ?_)
  · refine w_iconst (v := (0)) C dX7_translate_44 (by decide) (q := 45) rfl ?_
    exact w_iret C (hK _) (by decide) dX7_translate_45
  · refine w_aload_n (v := p3) C dX7_translate_33 rfl (q := 34) rfl ?_
    refine w_callV (val := fun r5 => some (.int r5)) (mem := fun r5 => I4) (st1 := fun r5 => [.int r5]) (As := []) (st := []) (q := 37) C hR (fun x h => c_X10_isOverfull (zl Z) (zG Z)  hp3 I4 h) hp3 mv_X10_isOverfull lk_X7_47 rfl (by decide) (fun _ => rfl) (Nat.le_of_ble_eq_true rfl) rfl rfl dX7_translate_34 rfl (fun r5 => ?_)
    refine w_if_ne (tgt := 44) (q := 40) C dX7_translate_37 (by decide) rfl (fun _ => ?_) (fun _ => ?_)
    · refine w_iconst (v := (1)) C dX7_translate_40 (by decide) (q := 41) rfl ?_
      refine w_goto (tgt := 45) C dX7_translate_41 (by decide) ?_
      exact w_iret C (hK _) (by decide) dX7_translate_45
    · refine w_iconst (v := (0)) C dX7_translate_44 (by decide) (q := 45) rfl ?_
      exact w_iret C (hK _) (by decide) dX7_translate_45
theorem c_X7_translate (l : Launch) (G : Gx) {k : Nat} {p1 : Nat} (p2 : Int32) {p3 : Nat} (hk : isO k 7) (hp1 : isO p1 4) (hp3 : isO p3 10) (I : Mem) {x : Int32 × Mem} (h : m_X7_translate k p1 p2 p3 I = some x) : Ct l G yX7_translate cX7_translate 5 (some (.boolean)) 5 112 [rf G k, rf G p1, .int p2, rf G p3] I (some (.int x.1)) x.2 := Ct.of (by decide +kernel) rfl (Nat.le_of_ble_eq_true rfl) ret_i (fun Z hG hl C hR hret => by
  subst hG
  exact m_X7_translate_ok (K := fun y => y = x) C hR k p1 p2 p3 hk hp1 hp3 I (fun y hy => by subst hy; exact hret) x h rfl)
def m_X11_write (k : Nat) (I : Mem) : Option (Int32 × Mem) :=
  Option.bind (m_X11_needMessage k I) fun I1 => if I k 12 < 9999 then (gd (iO ((I k 5).toNatClampNeg) 4) (gd (iO ((I k 11).toNatClampNeg) 10) (Option.bind (m_X7_translate (k + 38) ((I k 5).toNatClampNeg) ((I k 12) + 1) ((I k 11).toNatClampNeg) I) fun r4 => if r4.1 = 0 then (none) else (bnd (ms r4.2 k 12 ((r4.2 k 12) + 1)) fun I5 => gd (iO ((I5 k 10).toNatClampNeg) 10) (gd (iO ((I5 k 11).toNatClampNeg) 10) (bnd (ms I5 k 10 (nI ((I5 k 11).toNatClampNeg))) fun I8 => bnd (ms I8 k 11 (nI ((I5 k 10).toNatClampNeg))) fun I9 => gd (iO ((I9 k 10).toNatClampNeg) 10) (Option.bind (m_X10_count ((I9 k 10).toNatClampNeg) I9) fun r11 => some ((r11, I9))))))))) else (none)
set_option maxRecDepth 100000 in
set_option maxHeartbeats 4000000 in
theorem m_X11_write_ok {Z : Zx} {K : (Int32 × Mem) → Prop} (C : Cx Z cX11_write 2 RX11) (hR : RM Z 6 136) (k : Nat) (hk : isO k 11) (I : Mem) (hK : ∀ y, K (y) → RetI Z cX11_write .int y.1 y.2) : WF Z K (m_X11_write k I) I 0 [some (rf (zG Z) k), none] [] := by
  unfold m_X11_write
  refine w_aload_n (v := k) C dX11_write_0 rfl (q := 1) rfl ?_
  refine w_callV (val := fun I1 => none) (mem := fun I1 => I) (st1 := fun I1 => []) (As := []) (st := []) (q := 4) C hR (fun x h => c_X11_needMessage (zl Z) (zG Z)  hk I h) hk mv_X11_needMessage lk_X11_164 rfl (by decide) (fun _ => rfl) (Nat.le_of_ble_eq_true rfl) rfl rfl dX11_write_1 rfl (fun I1 => ?_)
  refine w_aload_n (v := k) C dX11_write_4 rfl (q := 5) rfl ?_
  refine g_X11_12 C hk lk_X11_243 dX11_write_5 (q := 8) rfl ?_
  refine w_sipush (v := (9999)) C dX11_write_8 (by decide) (q := 11) rfl ?_
  refine w_icmp_lt (tgt := 24) (q := 14) C dX11_write_11 (by decide) rfl (fun _ => ?_) (fun _ => ?_)
  · refine w_aload_n (v := k) C dX11_write_24 rfl (q := 25) rfl ?_
    refine g_X11_4 C hk lk_X11_42 dX11_write_25 (q := 28) rfl ?_
    refine w_aload_n (v := k) C dX11_write_28 rfl (q := 29) rfl ?_
    refine g_X11_5 C hk lk_X11_49 dX11_write_29 (q := 32) rfl ?_
    refine w_gd (fun h2 => ?_)
    refine w_aload_n (v := k) C dX11_write_32 rfl (q := 33) rfl ?_
    refine g_X11_12 C hk lk_X11_243 dX11_write_33 (q := 36) rfl ?_
    refine w_iconst (v := (1)) C dX11_write_36 (by decide) (q := 37) rfl ?_
    refine w_iadd C dX11_write_37 (q := 38) rfl ?_
    refine w_aload_n (v := k) C dX11_write_38 rfl (q := 39) rfl ?_
    refine g_X11_11 C hk lk_X11_59 dX11_write_39 (q := 42) rfl ?_
    refine w_gd (fun h3 => ?_)
    refine w_callV (val := fun r4 => some (.int r4.1)) (mem := fun r4 => r4.2) (st1 := fun r4 => [.int r4.1]) (As := [rf (zG Z) ((I k 5).toNatClampNeg), .int ((I k 12) + 1), rf (zG Z) ((I k 11).toNatClampNeg)]) (st := []) (q := 45) C hR (fun x h => c_X7_translate (zl Z) (zG Z) ((I k 12) + 1) (st_X11_4 hk).2 (iO_of h2) (iO_of h3) I h) (st_X11_4 hk).2 mv_X7_translate lk_X11_248 rfl (by decide) (fun _ => rfl) (Nat.le_of_ble_eq_true rfl) rfl rfl dX11_write_42 rfl (fun r4 => ?_)
    refine w_if_ne (tgt := 58) (q := 48) C dX11_write_45 (by decide) rfl (fun _ => ?_) (fun _ => ?_)
    · exact w_none
    · refine w_aload_n (v := k) C dX11_write_58 rfl (q := 59) rfl ?_
      refine w_dup C dX11_write_59 rfl (q := 60) rfl ?_
      refine g_X11_12 C hk lk_X11_243 dX11_write_60 (q := 63) rfl ?_
      refine w_iconst (v := (1)) C dX11_write_63 (by decide) (q := 64) rfl ?_
      refine w_iadd C dX11_write_64 (q := 65) rfl ?_
      refine p_X11_12 C hk  lk_X11_243 dX11_write_65 (q := 68) rfl (fun I5 => ?_)
      refine w_aload_n (v := k) C dX11_write_68 rfl (q := 69) rfl ?_
      refine g_X11_10 C hk lk_X11_56 dX11_write_69 (q := 72) rfl ?_
      refine w_gd (fun h6 => ?_)
      refine w_astore_n C dX11_write_72 (Nat.le_of_ble_eq_true rfl) (L' := [some (rf (zG Z) k), some (rf (zG Z) ((I5 k 10).toNatClampNeg))]) rfl (q := 73) rfl ?_
      refine w_aload_n (v := k) C dX11_write_73 rfl (q := 74) rfl ?_
      refine w_aload_n (v := k) C dX11_write_74 rfl (q := 75) rfl ?_
      refine g_X11_11 C hk lk_X11_59 dX11_write_75 (q := 78) rfl ?_
      refine w_gd (fun h7 => ?_)
      refine p_X11_10 C hk (iO_of h7).1 lk_X11_56 dX11_write_78 (q := 81) rfl (fun I8 => ?_)
      refine w_aload_n (v := k) C dX11_write_81 rfl (q := 82) rfl ?_
      refine w_aload_n (v := (I5 k 10).toNatClampNeg) C dX11_write_82 rfl (q := 83) rfl ?_
      refine p_X11_11 C hk (iO_of h6).1 lk_X11_59 dX11_write_83 (q := 86) rfl (fun I9 => ?_)
      refine w_aload_n (v := k) C dX11_write_86 rfl (q := 87) rfl ?_
      refine g_X11_10 C hk lk_X11_56 dX11_write_87 (q := 90) rfl ?_
      refine w_gd (fun h10 => ?_)
      refine w_callV (val := fun r11 => some (.int r11)) (mem := fun r11 => I9) (st1 := fun r11 => [.int r11]) (As := []) (st := []) (q := 93) C hR (fun x h => c_X10_count (zl Z) (zG Z)  (iO_of h10) I9 h) (iO_of h10) mv_X10_count lk_X11_123 rfl (by decide) (fun _ => rfl) (Nat.le_of_ble_eq_true rfl) rfl rfl dX11_write_90 rfl (fun r11 => ?_)
      exact w_iret C (hK _) rfl dX11_write_93
  · exact w_none
theorem c_X11_write (l : Launch) (G : Gx) {k : Nat} (hk : isO k 11) (I : Mem) {x : Int32 × Mem} (h : m_X11_write k I = some x) : Ct l G yX11_write cX11_write 2 (some (.int)) 6 136 [rf G k] I (some (.int x.1)) x.2 := Ct.of (by decide +kernel) rfl (Nat.le_of_ble_eq_true rfl) ret_i (fun Z hG hl C hR hret => by
  subst hG
  exact m_X11_write_ok (K := fun y => y = x) C hR k hk I (fun y hy => by subst hy; exact hret) x h rfl)
def m_X11_written (k : Nat) (I : Mem) : Option (Int32) :=
  gd (iO ((I k 10).toNatClampNeg) 10) (Option.bind (m_X10_count ((I k 10).toNatClampNeg) I) fun r2 => some r2)
set_option maxRecDepth 100000 in
set_option maxHeartbeats 4000000 in
theorem m_X11_written_ok {Z : Zx} {K : Int32 → Prop} (C : Cx Z cX11_written 1 RX11) (hR : RM Z 1 20) (k : Nat) (hk : isO k 11) (I : Mem) (hK : ∀ y, K (y) → RetI Z cX11_written .int y I) : WF Z K (m_X11_written k I) I 0 [some (rf (zG Z) k)] [] := by
  unfold m_X11_written
  refine w_aload_n (v := k) C dX11_written_0 rfl (q := 1) rfl ?_
  refine g_X11_10 C hk lk_X11_56 dX11_written_1 (q := 4) rfl ?_
  refine w_gd (fun h1 => ?_)
  refine w_callV (val := fun r2 => some (.int r2)) (mem := fun r2 => I) (st1 := fun r2 => [.int r2]) (As := []) (st := []) (q := 7) C hR (fun x h => c_X10_count (zl Z) (zG Z)  (iO_of h1) I h) (iO_of h1) mv_X10_count lk_X11_123 rfl (by decide) (fun _ => rfl) (Nat.le_of_ble_eq_true rfl) rfl rfl dX11_written_4 rfl (fun r2 => ?_)
  exact w_iret C (hK _) rfl dX11_written_7
theorem c_X11_written (l : Launch) (G : Gx) {k : Nat} (hk : isO k 11) (I : Mem) {x : Int32} (h : m_X11_written k I = some x) : Ct l G yX11_written cX11_written 1 (some (.int)) 1 20 [rf G k] I (some (.int x)) I := Ct.of (by decide +kernel) rfl (Nat.le_of_ble_eq_true rfl) ret_i (fun Z hG hl C hR hret => by
  subst hG
  exact m_X11_written_ok (K := fun y => y = x) C hR k hk I (fun y hy => by subst hy; exact hret) x h rfl)
def m_X11_letter_j15  (I : Mem) : Option (Int32) :=
  none
set_option maxRecDepth 100000 in
set_option maxHeartbeats 4000000 in
theorem m_X11_letter_j15_ok {Z : Zx} {K : Int32 → Prop} (C : Cx Z cX11_letter 2 RX11) (hR : RM Z 1 21) (I : Mem) (hK : ∀ y, K (y) → RetI Z cX11_letter .char y I) : WF Z K (m_X11_letter_j15  I) I 15 [none, none] [] := by
  unfold m_X11_letter_j15
  exact w_none
def m_X11_letter (k : Nat) (p1 : Int32) (I : Mem) : Option (Int32) :=
  if p1 < 0 then (m_X11_letter_j15  I) else (gd (iO ((I k 10).toNatClampNeg) 10) (Option.bind (m_X10_count ((I k 10).toNatClampNeg) I) fun r2 => if p1 < r2 then (gd (iO ((I k 10).toNatClampNeg) 10) (Option.bind (m_X10_at ((I k 10).toNatClampNeg) p1 I) fun r4 => gd (okc r4) (some r4))) else (m_X11_letter_j15  I)))
set_option maxRecDepth 100000 in
set_option maxHeartbeats 4000000 in
theorem m_X11_letter_ok {Z : Zx} {K : Int32 → Prop} (C : Cx Z cX11_letter 2 RX11) (hR : RM Z 1 21) (k : Nat) (p1 : Int32) (hk : isO k 11) (I : Mem) (hK : ∀ y, K (y) → RetI Z cX11_letter .char y I) : WF Z K (m_X11_letter k p1 I) I 0 [some (rf (zG Z) k), some (.int p1)] [] := by
  unfold m_X11_letter
  refine w_iload_n (v := p1) C dX11_letter_0 rfl (q := 1) rfl ?_
  refine w_if_lt (tgt := 15) (q := 4) C dX11_letter_1 (by decide) rfl (fun _ => ?_) (fun _ => ?_)
  · exact WF.less (L' := [none, none]) (m_X11_letter_j15_ok C hR   I hK) trivial
  · refine w_iload_n (v := p1) C dX11_letter_4 rfl (q := 5) rfl ?_
    refine w_aload_n (v := k) C dX11_letter_5 rfl (q := 6) rfl ?_
    refine g_X11_10 C hk lk_X11_56 dX11_letter_6 (q := 9) rfl ?_
    refine w_gd (fun h1 => ?_)
    refine w_callV (val := fun r2 => some (.int r2)) (mem := fun r2 => I) (st1 := fun r2 => [.int r2, .int p1]) (As := []) (st := [.int p1]) (q := 12) C hR (fun x h => c_X10_count (zl Z) (zG Z)  (iO_of h1) I h) (iO_of h1) mv_X10_count lk_X11_123 rfl (by decide) (fun _ => rfl) (Nat.le_of_ble_eq_true rfl) rfl rfl dX11_letter_9 rfl (fun r2 => ?_)
    refine w_icmp_lt (tgt := 25) (q := 15) C dX11_letter_12 (by decide) rfl (fun _ => ?_) (fun _ => ?_)
    · refine w_aload_n (v := k) C dX11_letter_25 rfl (q := 26) rfl ?_
      refine g_X11_10 C hk lk_X11_56 dX11_letter_26 (q := 29) rfl ?_
      refine w_gd (fun h3 => ?_)
      refine w_iload_n (v := p1) C dX11_letter_29 rfl (q := 30) rfl ?_
      refine w_callV (val := fun r4 => some (.int r4)) (mem := fun r4 => I) (st1 := fun r4 => [.int r4]) (As := [.int p1]) (st := []) (q := 33) C hR (fun x h => c_X10_at (zl Z) (zG Z) p1 (iO_of h3) I h) (iO_of h3) mv_X10_at lk_X11_254 rfl (by decide) (fun _ => rfl) (Nat.le_of_ble_eq_true rfl) rfl rfl dX11_letter_30 rfl (fun r4 => ?_)
      refine w_gd (fun h5 => ?_)
      exact w_iret C (hK _) (okc_n h5).1 dX11_letter_33
    · exact WF.less (L' := [none, none]) (m_X11_letter_j15_ok C hR   I hK) trivial
theorem c_X11_letter (l : Launch) (G : Gx) {k : Nat} (p1 : Int32) (hk : isO k 11) (I : Mem) {x : Int32} (h : m_X11_letter k p1 I = some x) : Ct l G yX11_letter cX11_letter 2 (some (.char)) 1 21 [rf G k, .int p1] I (some (.int x)) I := Ct.of (by decide +kernel) rfl (Nat.le_of_ble_eq_true rfl) ret_i (fun Z hG hl C hR hret => by
  subst hG
  exact m_X11_letter_ok (K := fun y => y = x) C hR k p1 hk I (fun y hy => by subst hy; exact hret) x h rfl)
