def m_X7_putTrailer (p1 : Int32) (p2 : Int32) (p3 : Nat) (I : Mem) : Option (Mem) :=
  Option.bind (m_X10_put p3 ((84 : Int32)) I) fun I1 => Option.bind (m_X10_put p3 ((43 : Int32)) I1) fun I2 => Option.bind (m_X10_putNumber p3 p1 I2) fun I3 => Option.bind (m_X10_put p3 ((43 : Int32)) I3) fun I4 => Option.bind (m_X10_putNumber p3 p2 I4) fun I5 => Option.bind (m_X10_put p3 ((39 : Int32)) I5) fun I6 => some I6
set_option maxRecDepth 100000 in
set_option maxHeartbeats 4000000 in
theorem m_X7_putTrailer_ok {Z : Zx} {K : Mem → Prop} (C : Cx Z cX7_putTrailer 3 RX7) (hR : RM Z 2 43) (p1 : Int32) (p2 : Int32) (p3 : Nat) (hp3 : isO p3 10) (I : Mem) (hK : ∀ y, K (y) → RetV Z cX7_putTrailer y) : WF Z K (m_X7_putTrailer p1 p2 p3 I) I 0 [some (.int p1), some (.int p2), some (rf (zG Z) p3)] [] := by
  unfold m_X7_putTrailer
  refine w_aload_n (v := p3) C dX7_putTrailer_0 rfl (q := 1) rfl ?_
  refine w_bipush (v := (84)) C dX7_putTrailer_1 (by decide) (q := 3) rfl ?_
  refine w_callV (val := fun I1 => none) (mem := fun I1 => I1) (st1 := fun I1 => []) (As := [.int 84]) (st := []) (q := 6) C hR (fun x h => c_X10_put (zl Z) (zG Z) ((84 : Int32)) hp3 I h) hp3 mv_X10_put lk_X7_51 rfl (by decide) (fun _ => rfl) (Nat.le_of_ble_eq_true rfl) rfl rfl dX7_putTrailer_3 rfl (fun I1 => ?_)
  refine w_aload_n (v := p3) C dX7_putTrailer_6 rfl (q := 7) rfl ?_
  refine w_bipush (v := (43)) C dX7_putTrailer_7 (by decide) (q := 9) rfl ?_
  refine w_callV (val := fun I2 => none) (mem := fun I2 => I2) (st1 := fun I2 => []) (As := [.int 43]) (st := []) (q := 12) C hR (fun x h => c_X10_put (zl Z) (zG Z) ((43 : Int32)) hp3 I1 h) hp3 mv_X10_put lk_X7_51 rfl (by decide) (fun _ => rfl) (Nat.le_of_ble_eq_true rfl) rfl rfl dX7_putTrailer_9 rfl (fun I2 => ?_)
  refine w_aload_n (v := p3) C dX7_putTrailer_12 rfl (q := 13) rfl ?_
  refine w_iload_n (v := p1) C dX7_putTrailer_13 rfl (q := 14) rfl ?_
  refine w_callV (val := fun I3 => none) (mem := fun I3 => I3) (st1 := fun I3 => []) (As := [.int p1]) (st := []) (q := 17) C hR (fun x h => c_X10_putNumber (zl Z) (zG Z) p1 hp3 I2 h) hp3 mv_X10_putNumber lk_X7_55 rfl (by decide) (fun _ => rfl) (Nat.le_of_ble_eq_true rfl) rfl rfl dX7_putTrailer_14 rfl (fun I3 => ?_)
  refine w_aload_n (v := p3) C dX7_putTrailer_17 rfl (q := 18) rfl ?_
  refine w_bipush (v := (43)) C dX7_putTrailer_18 (by decide) (q := 20) rfl ?_
  refine w_callV (val := fun I4 => none) (mem := fun I4 => I4) (st1 := fun I4 => []) (As := [.int 43]) (st := []) (q := 23) C hR (fun x h => c_X10_put (zl Z) (zG Z) ((43 : Int32)) hp3 I3 h) hp3 mv_X10_put lk_X7_51 rfl (by decide) (fun _ => rfl) (Nat.le_of_ble_eq_true rfl) rfl rfl dX7_putTrailer_20 rfl (fun I4 => ?_)
  refine w_aload_n (v := p3) C dX7_putTrailer_23 rfl (q := 24) rfl ?_
  refine w_iload_n (v := p2) C dX7_putTrailer_24 rfl (q := 25) rfl ?_
  refine w_callV (val := fun I5 => none) (mem := fun I5 => I5) (st1 := fun I5 => []) (As := [.int p2]) (st := []) (q := 28) C hR (fun x h => c_X10_putNumber (zl Z) (zG Z) p2 hp3 I4 h) hp3 mv_X10_putNumber lk_X7_55 rfl (by decide) (fun _ => rfl) (Nat.le_of_ble_eq_true rfl) rfl rfl dX7_putTrailer_25 rfl (fun I5 => ?_)
  refine w_aload_n (v := p3) C dX7_putTrailer_28 rfl (q := 29) rfl ?_
  refine w_bipush (v := (39)) C dX7_putTrailer_29 (by decide) (q := 31) rfl ?_
  refine w_callV (val := fun I6 => none) (mem := fun I6 => I6) (st1 := fun I6 => []) (As := [.int 39]) (st := []) (q := 34) C hR (fun x h => c_X10_put (zl Z) (zG Z) ((39 : Int32)) hp3 I5 h) hp3 mv_X10_put lk_X7_51 rfl (by decide) (fun _ => rfl) (Nat.le_of_ble_eq_true rfl) rfl rfl dX7_putTrailer_31 rfl (fun I6 => ?_)
  exact w_vret C (hK _) dX7_putTrailer_34
theorem c_X7_putTrailer (l : Launch) (G : Gx) (p1 : Int32) (p2 : Int32) {p3 : Nat} (hp3 : isO p3 10) (I : Mem) {x : Mem} (h : m_X7_putTrailer p1 p2 p3 I = some x) : Ct l G yX7_putTrailer cX7_putTrailer 3 none 2 43 [.int p1, .int p2, rf G p3] I (none) x := Ct.of (by decide +kernel) rfl (Nat.le_of_ble_eq_true rfl) ret_v (fun Z hG hl C hR hret => by
  subst hG
  exact m_X7_putTrailer_ok (K := fun y => y = x) C hR p1 p2 p3 hp3 I (fun y hy => by subst hy; exact hret) x h rfl)
def m_X10_isOverfull (k : Nat) (I : Mem) : Option (Int32) :=
  gd (okz (I k 2)) (some (I k 2))
set_option maxRecDepth 100000 in
set_option maxHeartbeats 4000000 in
theorem m_X10_isOverfull_ok {Z : Zx} {K : Int32 → Prop} (C : Cx Z cX10_isOverfull 1 RX10) (hR : RM Z 0 0) (k : Nat) (hk : isO k 10) (I : Mem) (hK : ∀ y, K (y) → RetI Z cX10_isOverfull .boolean y I) : WF Z K (m_X10_isOverfull k I) I 0 [some (rf (zG Z) k)] [] := by
  unfold m_X10_isOverfull
  refine w_aload_n (v := k) C dX10_isOverfull_0 rfl (q := 1) rfl ?_
  refine g_X10_2 C hk lk_X10_19 dX10_isOverfull_1 (q := 4) rfl ?_
  refine w_gd (fun h1 => ?_)
  exact w_iret C (hK _) (okz_n h1).1 dX10_isOverfull_4
theorem c_X10_isOverfull (l : Launch) (G : Gx) {k : Nat} (hk : isO k 10) (I : Mem) {x : Int32} (h : m_X10_isOverfull k I = some x) : Ct l G yX10_isOverfull cX10_isOverfull 1 (some (.boolean)) 0 0 [rf G k] I (some (.int x)) I := Ct.of (by decide +kernel) rfl (Nat.le_of_ble_eq_true rfl) ret_i (fun Z hG hl C hR hret => by
  subst hG
  exact m_X10_isOverfull_ok (K := fun y => y = x) C hR k hk I (fun y hy => by subst hy; exact hret) x h rfl)
def m_X7_translate (k : Nat) (p1 : Nat) (p2 : Int32) (p3 : Nat) (I : Mem) : Option (Int32 × Mem) :=
  Option.bind (m_X10_wipe p3 I) fun I1 => Option.bind (m_X7_putHeader p2 p3 I1) fun I2 => Option.bind (m_X7_putBody k p1 p3 I2) fun r3 => Option.bind (m_X7_putTrailer (((2 : Int32)) + r3.1) p2 p3 r3.2) fun I4 => if 20 < ((2 : Int32)) + r3.1 then (some ((0, I4))) else (Option.bind (m_X10_isOverfull p3 I4) fun r5 => if r5 = 0 then (some ((1, I4))) else (some ((0, I4))))
set_option maxRecDepth 100000 in
set_option maxHeartbeats 4000000 in
theorem m_X7_translate_ok {Z : Zx} {K : (Int32 × Mem) → Prop} (C : Cx Z cX7_translate 5 RX7) (hR : RM Z 5 112) (k : Nat) (p1 : Nat) (p2 : Int32) (p3 : Nat) (hk : isO k 7) (hp1 : isO p1 4) (hp3 : isO p3 10) (I : Mem) (hK : ∀ y, K (y) → RetI Z cX7_translate .boolean y.1 y.2) : WF Z K (m_X7_translate k p1 p2 p3 I) I 0 [some (rf (zG Z) k), some (rf (zG Z) p1), some (.int p2), some (rf (zG Z) p3), none] [] := by
  unfold m_X7_translate
  refine w_aload_n (v := p3) C dX7_translate_0 rfl (q := 1) rfl ?_
  refine w_callV (val := fun I1 => none) (mem := fun I1 => I1) (st1 := fun I1 => []) (As := []) (st := []) (q := 4) C hR (fun x h => c_X10_wipe (zl Z) (zG Z)  hp3 I h) hp3 mv_X10_wipe lk_X7_30 rfl (by decide) (fun _ => rfl) (Nat.le_of_ble_eq_true rfl) rfl rfl dX7_translate_1 rfl (fun I1 => ?_)
  refine w_iload_n (v := p2) C dX7_translate_4 rfl (q := 5) rfl ?_
  refine w_aload_n (v := p3) C dX7_translate_5 rfl (q := 6) rfl ?_
  refine w_callS (val := fun I2 => none) (mem := fun I2 => I2) (st1 := fun I2 => []) (As := [.int p2, rf (zG Z) p3]) (st := []) (q := 9) C hR (fun x h => c_X7_putHeader (zl Z) (zG Z) p2 hp3 I1 h) mv_X7_putHeader lk_X7_35 rfl (by decide) (fun _ => rfl) (Nat.le_of_ble_eq_true rfl) rfl rfl dX7_translate_6 rfl (fun I2 => ?_)
  refine w_iconst (v := (2)) C dX7_translate_9 (by decide) (q := 10) rfl ?_
  refine w_aload_n (v := k) C dX7_translate_10 rfl (q := 11) rfl ?_
  refine w_aload_n (v := p1) C dX7_translate_11 rfl (q := 12) rfl ?_
  refine w_aload_n (v := p3) C dX7_translate_12 rfl (q := 13) rfl ?_
  refine w_callV (val := fun r3 => some (.int r3.1)) (mem := fun r3 => r3.2) (st1 := fun r3 => [.int r3.1, .int 2]) (As := [rf (zG Z) p1, rf (zG Z) p3]) (st := [.int 2]) (q := 16) C hR (fun x h => c_X7_putBody (zl Z) (zG Z)  hk hp1 hp3 I2 h) hk mv_X7_putBody lk_X7_39 rfl (by decide) (fun _ => rfl) (Nat.le_of_ble_eq_true rfl) rfl rfl dX7_translate_13 rfl (fun r3 => ?_)
  refine w_iadd C dX7_translate_16 (q := 17) rfl ?_
  refine w_istore C dX7_translate_17 (Nat.le_of_ble_eq_true rfl) (L' := [some (rf (zG Z) k), some (rf (zG Z) p1), some (.int p2), some (rf (zG Z) p3), some (.int (((2 : Int32)) + r3.1))]) rfl (q := 19) rfl ?_
  refine w_iload (v := ((2 : Int32)) + r3.1) C dX7_translate_19 rfl (q := 21) rfl ?_
  refine w_iload_n (v := p2) C dX7_translate_21 rfl (q := 22) rfl ?_
  refine w_aload_n (v := p3) C dX7_translate_22 rfl (q := 23) rfl ?_
  refine w_callS (val := fun I4 => none) (mem := fun I4 => I4) (st1 := fun I4 => []) (As := [.int (((2 : Int32)) + r3.1), .int p2, rf (zG Z) p3]) (st := []) (q := 26) C hR (fun x h => c_X7_putTrailer (zl Z) (zG Z) (((2 : Int32)) + r3.1) p2 hp3 r3.2 h) mv_X7_putTrailer lk_X7_43 rfl (by decide) (fun _ => rfl) (Nat.le_of_ble_eq_true rfl) rfl rfl dX7_translate_23 rfl (fun I4 => ?_)
  refine w_iload (v := ((2 : Int32)) + r3.1) C dX7_translate_26 rfl (q := 28) rfl ?_
  refine w_bipush (v := (20)) C dX7_translate_28 (by decide) (q := 30) rfl ?_
  refine w_icmp_gt (tgt := 44) (q := 33) C dX7_translate_30 (by decide) rfl (fun _ => ?_) (fun _ => ?_)
  · refine w_iconst (v := (0)) C dX7_translate_44 (by decide) (q := 45) rfl ?_
    exact w_iret C (hK _) (by decide) dX7_translate_45
  · refine w_aload_n (v := p3) C dX7_translate_33 rfl (q := 34) rfl ?_
    refine w_callV (val := fun r5 => some (.int r5)) (mem := fun r5 => I4) (st1 := fun r5 => [.int r5]) (As := []) (st := []) (q := 37) C hR (fun x h => c_X10_isOverfull (zl Z) (zG Z)  hp3 I4 h) hp3 mv_X10_isOverfull lk_X7_47 rfl (by decide) (fun _ => rfl) (Nat.le_of_ble_eq_true rfl) rfl rfl dX7_translate_34 rfl (fun r5 => ?_)
    refine w_if_ne (tgt := 44) (q := 40) C dX7_translate_37 (by decide) rfl (fun _ => ?_) (fun _ => ?_)
    · refine w_iconst (v := (1)) C dX7_translate_40 (by decide) (q := 41) rfl ?_
      refine w_goto (tgt := 45) C dX7_translate_41 (by decide) ?_
      exact w_iret C (hK _) (by decide) dX7_translate_45
    · refine w_iconst (v := (0)) C dX7_translate_44 (by decide) (q := 45) rfl ?_
      exact w_iret C (hK _) (by decide) dX7_translate_45
theorem c_X7_translate (l : Launch) (G : Gx) {k : Nat} {p1 : Nat} (p2 : Int32) {p3 : Nat} (hk : isO k 7) (hp1 : isO p1 4) (hp3 : isO p3 10) (I : Mem) {x : Int32 × Mem} (h : m_X7_translate k p1 p2 p3 I = some x) : Ct l G yX7_translate cX7_translate 5 (some (.boolean)) 5 112 [rf G k, rf G p1, .int p2, rf G p3] I (some (.int x.1)) x.2 := Ct.of (by decide +kernel) rfl (Nat.le_of_ble_eq_true rfl) ret_i (fun Z hG hl C hR hret => by
  subst hG
  exact m_X7_translate_ok (K := fun y => y = x) C hR k p1 p2 p3 hk hp1 hp3 I (fun y hy => by subst hy; exact hret) x h rfl)
def m_X11_write_j4 (k : Nat) (I : Mem) : Option ((Int32 ⊕ Nat) × Mem) :=
  if I k 12 < 9999 then (gd (iO ((I k 5).toNatClampNeg) 4) (gd (iO ((I k 11).toNatClampNeg) 10) (Option.bind (m_X7_translate (k + 38) ((I k 5).toNatClampNeg) ((I k 12) + 1) ((I k 11).toNatClampNeg) I) fun r5 => if r5.1 = 0 then (some (.inr 1, r5.2)) else (bnd (ms r5.2 k 12 ((r5.2 k 12) + 1)) fun I6 => gd (iO ((I6 k 10).toNatClampNeg) 10) (gd (iO ((I6 k 11).toNatClampNeg) 10) (bnd (ms I6 k 10 (nI ((I6 k 11).toNatClampNeg))) fun I9 => bnd (ms I9 k 11 (nI ((I6 k 10).toNatClampNeg))) fun I10 => gd (iO ((I10 k 10).toNatClampNeg) 10) (Option.bind (m_X10_count ((I10 k 10).toNatClampNeg) I10) fun r12 => some ((.inl r12, I10))))))))) else (some (.inr 1, I))
set_option maxRecDepth 100000 in
set_option maxHeartbeats 4000000 in
theorem m_X11_write_j4_ok {Z : Zx} {K : ((Int32 ⊕ Nat) × Mem) → Prop} (C : Cx Z cX11_write 2 RX11) (hR : RM Z 7 136) (k : Nat) (hk : isO k 11) (I : Mem) (hst : (zl Z).stackTraces = false) (hc : Z.2.2.1 + 1 ≤ (zR Z).cells) (hs : Z.2.2.2.1 + 6 ≤ (zR Z).slots) (hK : ∀ v I', K (.inl v, I') → RetI Z cX11_write .int v I') (hE : ∀ k I', K (.inr k, I') → RetX Z k I') : WF Z K (m_X11_write_j4 k I) I 4 [some (rf (zG Z) k), none] [] := by
  unfold m_X11_write_j4
  refine w_aload_n (v := k) C dX11_write_4 rfl (q := 5) rfl ?_
  refine g_X11_12 C hk lk_X11_243 dX11_write_5 (q := 8) rfl ?_
  refine w_sipush (v := (9999)) C dX11_write_8 (by decide) (q := 11) rfl ?_
  refine w_icmp_lt (tgt := 24) (q := 14) C dX11_write_11 (by decide) rfl (fun _ => ?_) (fun _ => ?_)
  · refine w_aload_n (v := k) C dX11_write_24 rfl (q := 25) rfl ?_
    refine g_X11_4 C hk lk_X11_42 dX11_write_25 (q := 28) rfl ?_
    refine w_aload_n (v := k) C dX11_write_28 rfl (q := 29) rfl ?_
    refine g_X11_5 C hk lk_X11_49 dX11_write_29 (q := 32) rfl ?_
    refine w_gd (fun h3 => ?_)
    refine w_aload_n (v := k) C dX11_write_32 rfl (q := 33) rfl ?_
    refine g_X11_12 C hk lk_X11_243 dX11_write_33 (q := 36) rfl ?_
    refine w_iconst (v := (1)) C dX11_write_36 (by decide) (q := 37) rfl ?_
    refine w_iadd C dX11_write_37 (q := 38) rfl ?_
    refine w_aload_n (v := k) C dX11_write_38 rfl (q := 39) rfl ?_
    refine g_X11_11 C hk lk_X11_59 dX11_write_39 (q := 42) rfl ?_
    refine w_gd (fun h4 => ?_)
    refine w_callV (val := fun r5 => some (.int r5.1)) (mem := fun r5 => r5.2) (st1 := fun r5 => [.int r5.1]) (As := [rf (zG Z) ((I k 5).toNatClampNeg), .int ((I k 12) + 1), rf (zG Z) ((I k 11).toNatClampNeg)]) (st := []) (q := 45) C hR (fun x h => c_X7_translate (zl Z) (zG Z) ((I k 12) + 1) (st_X11_4 hk).2 (iO_of h3) (iO_of h4) I h) (st_X11_4 hk).2 mv_X7_translate lk_X11_248 rfl (by decide) (fun _ => rfl) (Nat.le_of_ble_eq_true rfl) rfl rfl dX11_write_42 rfl (fun r5 => ?_)
    refine w_if_ne (tgt := 58) (q := 48) C dX11_write_45 (by decide) rfl (fun _ => ?_) (fun _ => ?_)
    · exact w_throw C hR (okA hc (by decide)) (okA hs (by decide)) (k := 1) (ik := 81) (is := 252) (ic := 85) (text := "the message would have too many segments or letters") (hE _ _) tw_X11_81_85 (by decide +kernel) (by decide) (Nat.le_of_ble_eq_true rfl) rfl dX11_write_48 dX11_write_51 dX11_write_52 dX11_write_54 dX11_write_57
    · refine w_aload_n (v := k) C dX11_write_58 rfl (q := 59) rfl ?_
      refine w_dup C dX11_write_59 rfl (q := 60) rfl ?_
      refine g_X11_12 C hk lk_X11_243 dX11_write_60 (q := 63) rfl ?_
      refine w_iconst (v := (1)) C dX11_write_63 (by decide) (q := 64) rfl ?_
      refine w_iadd C dX11_write_64 (q := 65) rfl ?_
      refine p_X11_12 C hk  lk_X11_243 dX11_write_65 (q := 68) rfl (fun I6 => ?_)
      refine w_aload_n (v := k) C dX11_write_68 rfl (q := 69) rfl ?_
      refine g_X11_10 C hk lk_X11_56 dX11_write_69 (q := 72) rfl ?_
      refine w_gd (fun h7 => ?_)
      refine w_astore_n C dX11_write_72 (Nat.le_of_ble_eq_true rfl) (L' := [some (rf (zG Z) k), some (rf (zG Z) ((I6 k 10).toNatClampNeg))]) rfl (q := 73) rfl ?_
      refine w_aload_n (v := k) C dX11_write_73 rfl (q := 74) rfl ?_
      refine w_aload_n (v := k) C dX11_write_74 rfl (q := 75) rfl ?_
      refine g_X11_11 C hk lk_X11_59 dX11_write_75 (q := 78) rfl ?_
      refine w_gd (fun h8 => ?_)
      refine p_X11_10 C hk (iO_of h8).1 lk_X11_56 dX11_write_78 (q := 81) rfl (fun I9 => ?_)
      refine w_aload_n (v := k) C dX11_write_81 rfl (q := 82) rfl ?_
      refine w_aload_n (v := (I6 k 10).toNatClampNeg) C dX11_write_82 rfl (q := 83) rfl ?_
      refine p_X11_11 C hk (iO_of h7).1 lk_X11_59 dX11_write_83 (q := 86) rfl (fun I10 => ?_)
      refine w_aload_n (v := k) C dX11_write_86 rfl (q := 87) rfl ?_
      refine g_X11_10 C hk lk_X11_56 dX11_write_87 (q := 90) rfl ?_
      refine w_gd (fun h11 => ?_)
      refine w_callV (val := fun r12 => some (.int r12)) (mem := fun r12 => I10) (st1 := fun r12 => [.int r12]) (As := []) (st := []) (q := 93) C hR (fun x h => c_X10_count (zl Z) (zG Z)  (iO_of h11) I10 h) (iO_of h11) mv_X10_count lk_X11_123 rfl (by decide) (fun _ => rfl) (Nat.le_of_ble_eq_true rfl) rfl rfl dX11_write_90 rfl (fun r12 => ?_)
      exact w_iret C (hK _ _) rfl dX11_write_93
  · exact w_throw C hR (okA hc (by decide)) (okA hs (by decide)) (k := 1) (ik := 81) (is := 246) (ic := 85) (text := "9999 messages were written") (hE _ _) tw_X11_81_85 (by decide +kernel) (by decide) (Nat.le_of_ble_eq_true rfl) rfl dX11_write_14 dX11_write_17 dX11_write_18 dX11_write_20 dX11_write_23
def m_X11_write (k : Nat) (I : Mem) : Option ((Int32 ⊕ Nat) × Mem) :=
  obx (m_X11_needMessage k I) (fun k I9 => some (.inr k, I9)) (fun r1 I2 => m_X11_write_j4 k I2)
set_option maxRecDepth 100000 in
set_option maxHeartbeats 4000000 in
theorem m_X11_write_ok {Z : Zx} {K : ((Int32 ⊕ Nat) × Mem) → Prop} (C : Cx Z cX11_write 2 RX11) (hR : RM Z 7 136) (k : Nat) (hk : isO k 11) (I : Mem) (hst : (zl Z).stackTraces = false) (hc : Z.2.2.1 + 2 ≤ (zR Z).cells) (hs : Z.2.2.2.1 + 12 ≤ (zR Z).slots) (hK : ∀ v I', K (.inl v, I') → RetI Z cX11_write .int v I') (hE : ∀ k I', K (.inr k, I') → RetX Z k I') : WF Z K (m_X11_write k I) I 0 [some (rf (zG Z) k), none] [] := by
  unfold m_X11_write
  refine w_aload_n (v := k) C dX11_write_0 rfl (q := 1) rfl ?_
  refine w_callVX (val := fun _ => none) (st1 := fun _ => []) (As := []) (st := []) (q := 4) C hR (okA hc (by decide)) (okA hs (by decide)) (fun x h => c_X11_needMessage (zl Z) hst (zG Z)  hk I h) hk mv_X11_needMessage lk_X11_164 rfl (by decide) (fun _ => rfl) (Nat.le_of_ble_eq_true rfl) rfl rfl dX11_write_1 rfl (hE) (fun r1 I2 => ?_)
  exact WF.less (L' := [some (rf (zG Z) k), none]) (m_X11_write_j4_ok (C.bump (okA hc (by decide)) (okA hs (by decide))) hR k hk I2 hst (by have := hc; show Z.2.2.1 + 1 + 1 ≤ _; omega) (by have := hs; show Z.2.2.2.1 + 6 + 6 ≤ _; omega) hK hE) ⟨rfl, trivial⟩
theorem c_X11_write (l : Launch) (hst : l.stackTraces = false) (G : Gx) {k : Nat} (hk : isO k 11) (I : Mem) {x : (Int32 ⊕ Nat) × Mem} (h : m_X11_write k I = some x) : CtX l G yX11_write cX11_write 2 (some (.int)) 7 136 2 12 [rf G k] I (rsX (fun v => some (.int v)) x.1) x.2 := CtX.of hst (by decide +kernel) rfl (Nat.le_of_ble_eq_true rfl) retx_i (fun Z hG hl C hR hc hs hret hexc => by
  subst hG
  subst hl
  exact m_X11_write_ok (K := fun y => y = x) C hR k hk I hst hc hs (fun v I' hy => by subst hy; exact hret _ rfl) (fun k I' hy => by subst hy; exact hexc _ rfl) x h rfl)
def m_X11_written (k : Nat) (I : Mem) : Option (Int32) :=
  gd (iO ((I k 10).toNatClampNeg) 10) (Option.bind (m_X10_count ((I k 10).toNatClampNeg) I) fun r2 => some r2)
set_option maxRecDepth 100000 in
set_option maxHeartbeats 4000000 in
theorem m_X11_written_ok {Z : Zx} {K : Int32 → Prop} (C : Cx Z cX11_written 1 RX11) (hR : RM Z 1 20) (k : Nat) (hk : isO k 11) (I : Mem) (hK : ∀ y, K (y) → RetI Z cX11_written .int y I) : WF Z K (m_X11_written k I) I 0 [some (rf (zG Z) k)] [] := by
  unfold m_X11_written
  refine w_aload_n (v := k) C dX11_written_0 rfl (q := 1) rfl ?_
  refine g_X11_10 C hk lk_X11_56 dX11_written_1 (q := 4) rfl ?_
  refine w_gd (fun h1 => ?_)
  refine w_callV (val := fun r2 => some (.int r2)) (mem := fun r2 => I) (st1 := fun r2 => [.int r2]) (As := []) (st := []) (q := 7) C hR (fun x h => c_X10_count (zl Z) (zG Z)  (iO_of h1) I h) (iO_of h1) mv_X10_count lk_X11_123 rfl (by decide) (fun _ => rfl) (Nat.le_of_ble_eq_true rfl) rfl rfl dX11_written_4 rfl (fun r2 => ?_)
  exact w_iret C (hK _) rfl dX11_written_7
theorem c_X11_written (l : Launch) (G : Gx) {k : Nat} (hk : isO k 11) (I : Mem) {x : Int32} (h : m_X11_written k I = some x) : Ct l G yX11_written cX11_written 1 (some (.int)) 1 20 [rf G k] I (some (.int x)) I := Ct.of (by decide +kernel) rfl (Nat.le_of_ble_eq_true rfl) ret_i (fun Z hG hl C hR hret => by
  subst hG
  exact m_X11_written_ok (K := fun y => y = x) C hR k hk I (fun y hy => by subst hy; exact hret) x h rfl)
def m_X11_letter_j15  (I : Mem) : Option ((Int32 ⊕ Nat) × Mem) :=
  some (.inr 2, I)
set_option maxRecDepth 100000 in
set_option maxHeartbeats 4000000 in
theorem m_X11_letter_j15_ok {Z : Zx} {K : ((Int32 ⊕ Nat) × Mem) → Prop} (C : Cx Z cX11_letter 2 RX11) (hR : RM Z 6 90) (I : Mem) (hst : (zl Z).stackTraces = false) (hc : Z.2.2.1 + 1 ≤ (zR Z).cells) (hs : Z.2.2.2.1 + 6 ≤ (zR Z).slots) (hK : ∀ v I', K (.inl v, I') → RetI Z cX11_letter .char v I') (hE : ∀ k I', K (.inr k, I') → RetX Z k I') : WF Z K (m_X11_letter_j15  I) I 15 [none, none] [] := by
  unfold m_X11_letter_j15
  exact w_throw C hR (okA hc (by decide)) (okA hs (by decide)) (k := 2) (ik := 192) (is := 194) (ic := 196) (text := "no such letter") (hE _ _) tw_X11_192_196 (by decide +kernel) (by decide) (Nat.le_of_ble_eq_true rfl) rfl dX11_letter_15 dX11_letter_18 dX11_letter_19 dX11_letter_21 dX11_letter_24
def m_X11_letter (k : Nat) (p1 : Int32) (I : Mem) : Option ((Int32 ⊕ Nat) × Mem) :=
  if p1 < 0 then (m_X11_letter_j15  I) else (gd (iO ((I k 10).toNatClampNeg) 10) (Option.bind (m_X10_count ((I k 10).toNatClampNeg) I) fun r2 => if p1 < r2 then (gd (iO ((I k 10).toNatClampNeg) 10) (Option.bind (m_X10_at ((I k 10).toNatClampNeg) p1 I) fun r4 => gd (okc r4) (some ((.inl r4, I))))) else (m_X11_letter_j15  I)))
set_option maxRecDepth 100000 in
set_option maxHeartbeats 4000000 in
theorem m_X11_letter_ok {Z : Zx} {K : ((Int32 ⊕ Nat) × Mem) → Prop} (C : Cx Z cX11_letter 2 RX11) (hR : RM Z 6 90) (k : Nat) (p1 : Int32) (hk : isO k 11) (I : Mem) (hst : (zl Z).stackTraces = false) (hc : Z.2.2.1 + 1 ≤ (zR Z).cells) (hs : Z.2.2.2.1 + 6 ≤ (zR Z).slots) (hK : ∀ v I', K (.inl v, I') → RetI Z cX11_letter .char v I') (hE : ∀ k I', K (.inr k, I') → RetX Z k I') : WF Z K (m_X11_letter k p1 I) I 0 [some (rf (zG Z) k), some (.int p1)] [] := by
  unfold m_X11_letter
  refine w_iload_n (v := p1) C dX11_letter_0 rfl (q := 1) rfl ?_
  refine w_if_lt (tgt := 15) (q := 4) C dX11_letter_1 (by decide) rfl (fun _ => ?_) (fun _ => ?_)
  · exact WF.less (L' := [none, none]) (m_X11_letter_j15_ok C hR   I hst hc hs hK hE) trivial
  · refine w_iload_n (v := p1) C dX11_letter_4 rfl (q := 5) rfl ?_
    refine w_aload_n (v := k) C dX11_letter_5 rfl (q := 6) rfl ?_
    refine g_X11_10 C hk lk_X11_56 dX11_letter_6 (q := 9) rfl ?_
    refine w_gd (fun h1 => ?_)
    refine w_callV (val := fun r2 => some (.int r2)) (mem := fun r2 => I) (st1 := fun r2 => [.int r2, .int p1]) (As := []) (st := [.int p1]) (q := 12) C hR (fun x h => c_X10_count (zl Z) (zG Z)  (iO_of h1) I h) (iO_of h1) mv_X10_count lk_X11_123 rfl (by decide) (fun _ => rfl) (Nat.le_of_ble_eq_true rfl) rfl rfl dX11_letter_9 rfl (fun r2 => ?_)
    refine w_icmp_lt (tgt := 25) (q := 15) C dX11_letter_12 (by decide) rfl (fun _ => ?_) (fun _ => ?_)
    · refine w_aload_n (v := k) C dX11_letter_25 rfl (q := 26) rfl ?_
      refine g_X11_10 C hk lk_X11_56 dX11_letter_26 (q := 29) rfl ?_
      refine w_gd (fun h3 => ?_)
      refine w_iload_n (v := p1) C dX11_letter_29 rfl (q := 30) rfl ?_
      refine w_callV (val := fun r4 => some (.int r4)) (mem := fun r4 => I) (st1 := fun r4 => [.int r4]) (As := [.int p1]) (st := []) (q := 33) C hR (fun x h => c_X10_at (zl Z) (zG Z) p1 (iO_of h3) I h) (iO_of h3) mv_X10_at lk_X11_254 rfl (by decide) (fun _ => rfl) (Nat.le_of_ble_eq_true rfl) rfl rfl dX11_letter_30 rfl (fun r4 => ?_)
      refine w_gd (fun h5 => ?_)
      exact w_iret C (hK _ _) (okc_n h5).1 dX11_letter_33
    · exact WF.less (L' := [none, none]) (m_X11_letter_j15_ok C hR   I hst hc hs hK hE) trivial
theorem c_X11_letter (l : Launch) (hst : l.stackTraces = false) (G : Gx) {k : Nat} (p1 : Int32) (hk : isO k 11) (I : Mem) {x : (Int32 ⊕ Nat) × Mem} (h : m_X11_letter k p1 I = some x) : CtX l G yX11_letter cX11_letter 2 (some (.char)) 6 90 1 6 [rf G k, .int p1] I (rsX (fun v => some (.int v)) x.1) x.2 := CtX.of hst (by decide +kernel) rfl (Nat.le_of_ble_eq_true rfl) retx_i (fun Z hG hl C hR hc hs hret hexc => by
  subst hG
  subst hl
  exact m_X11_letter_ok (K := fun y => y = x) C hR k p1 hk I hst hc hs (fun v I' hy => by subst hy; exact hret _ rfl) (fun k I' hy => by subst hy; exact hexc _ rfl) x h rfl)
def m_X10_putAll_b2 (k : Nat) (p1 : Nat) (x2 : Int32) (I : Mem) : Option ((Int32 × Mem) ⊕ ((Mem))) :=
  if I p1 1 ≤ x2 then (some (.inr (I))) else (Option.bind (m_X10_at p1 x2 I) fun r1 => Option.bind (m_X10_put k r1 I) fun I2 => some (.inl (x2 + 1, I2)))
set_option maxRecDepth 100000 in
set_option maxHeartbeats 4000000 in
theorem m_X10_putAll_b2_ok {Z : Zx} {K : ((Int32 × Mem) ⊕ ((Mem))) → Prop} (C : Cx Z cX10_putAll 3 RX10) (hR : RM Z 1 21) (k : Nat) (p1 : Nat) (x2 : Int32) (hk : isO k 10) (hp1 : isO p1 10) (I : Mem) (hB : ∀ a, K (.inl a) → WM Z a.2 2 [some (rf (zG Z) k), some (rf (zG Z) p1), some (.int a.1)] []) (hX0 : ∀ b, K (.inr (b)) → WM Z b 25 [none, none, none] []) : WF Z K (m_X10_putAll_b2 k p1 x2 I) I 2 [some (rf (zG Z) k), some (rf (zG Z) p1), some (.int x2)] [] := by
  unfold m_X10_putAll_b2
  refine w_iload_n (v := x2) C dX10_putAll_2 rfl (q := 3) rfl ?_
  refine w_aload_n (v := p1) C dX10_putAll_3 rfl (q := 4) rfl ?_
  refine g_X10_1 C hp1 lk_X10_15 dX10_putAll_4 (q := 7) rfl ?_
  refine w_icmp_ge (tgt := 25) (q := 10) C dX10_putAll_7 (by decide) rfl (fun _ => ?_) (fun _ => ?_)
  · exact w_jmp (fun h => WM.less (L' := [none, none, none]) (hX0 _ h) trivial)
  · refine w_aload_n (v := k) C dX10_putAll_10 rfl (q := 11) rfl ?_
    refine w_aload_n (v := p1) C dX10_putAll_11 rfl (q := 12) rfl ?_
    refine w_iload_n (v := x2) C dX10_putAll_12 rfl (q := 13) rfl ?_
    refine w_callV (val := fun r1 => some (.int r1)) (mem := fun r1 => I) (st1 := fun r1 => [.int r1, rf (zG Z) k]) (As := [.int x2]) (st := [rf (zG Z) k]) (q := 16) C hR (fun x h => c_X10_at (zl Z) (zG Z) x2 hp1 I h) hp1 mv_X10_at lk_X10_23 rfl (by decide) (fun _ => rfl) (Nat.le_of_ble_eq_true rfl) rfl rfl dX10_putAll_13 rfl (fun r1 => ?_)
    refine w_callV (val := fun I2 => none) (mem := fun I2 => I2) (st1 := fun I2 => []) (As := [.int r1]) (st := []) (q := 19) C hR (fun x h => c_X10_put (zl Z) (zG Z) r1 hk I h) hk mv_X10_put lk_X10_27 rfl (by decide) (fun _ => rfl) (Nat.le_of_ble_eq_true rfl) rfl rfl dX10_putAll_16 rfl (fun I2 => ?_)
    refine w_iinc (v := x2 + 1) C dX10_putAll_19 rfl rfl (L' := [some (rf (zG Z) k), some (rf (zG Z) p1), some (.int (x2 + 1))]) rfl (q := 22) rfl ?_
    refine w_goto (tgt := 2) C dX10_putAll_22 (by decide) ?_
    exact w_jmp (fun h => WM.less (L' := [some (rf (zG Z) k), some (rf (zG Z) p1), some (.int (x2 + 1))]) (hB _ h) ⟨rfl, rfl, rfl, trivial⟩)
def m_X10_putAll (k : Nat) (p1 : Nat) (I : Mem) : Option (Mem) :=
  Option.bind (loopF (fun a => m_X10_putAll_b2 k p1 a.1 a.2) FU ((0 : Int32), I)) (fun b3 => some b3)
set_option maxRecDepth 100000 in
set_option maxHeartbeats 4000000 in
theorem m_X10_putAll_ok {Z : Zx} {K : Mem → Prop} (C : Cx Z cX10_putAll 3 RX10) (hR : RM Z 1 21) (k : Nat) (p1 : Nat) (hk : isO k 10) (hp1 : isO p1 10) (I : Mem) (hK : ∀ y, K (y) → RetV Z cX10_putAll y) : WF Z K (m_X10_putAll k p1 I) I 0 [some (rf (zG Z) k), some (rf (zG Z) p1), none] [] := by
  unfold m_X10_putAll
  refine w_iconst (v := (0)) C dX10_putAll_0 (by decide) (q := 1) rfl ?_
  refine w_istore_n C dX10_putAll_1 (Nat.le_of_ble_eq_true rfl) (L' := [some (rf (zG Z) k), some (rf (zG Z) p1), some (.int 0)]) rfl (q := 2) rfl ?_
  refine WF.less (L' := [some (rf (zG Z) k), some (rf (zG Z) p1), some (.int 0)]) (w_loopF (pc := 2) (a := ((0 : Int32), I)) (mem := fun a => a.2) (lo := fun a => [some (rf (zG Z) k), some (rf (zG Z) p1), some (.int a.1)]) (E := fun b3 => WM Z b3 25 [none, none, none] []) (fun a => m_X10_putAll_b2_ok C hR k p1 a.1 hk hp1 a.2 (fun _ h => h) (fun _ h => h)) ?_) ⟨rfl, rfl, rfl, trivial⟩
  intro b3
  refine w_hx ?_
  exact w_vret C (hK _) dX10_putAll_25
theorem c_X10_putAll (l : Launch) (G : Gx) {k : Nat} {p1 : Nat} (hk : isO k 10) (hp1 : isO p1 10) (I : Mem) {x : Mem} (h : m_X10_putAll k p1 I = some x) : Ct l G yX10_putAll cX10_putAll 3 none 1 21 [rf G k, rf G p1] I (none) x := Ct.of (by decide +kernel) rfl (Nat.le_of_ble_eq_true rfl) ret_v (fun Z hG hl C hR hret => by
  subst hG
  exact m_X10_putAll_ok (K := fun y => y = x) C hR k p1 hk hp1 I (fun y hy => by subst hy; exact hret) x h rfl)
def m_X11_feedWritten (k : Nat) (I : Mem) : Option ((Int32 ⊕ Nat) × Mem) :=
  Option.bind (m_X10_count (k + 27) I) fun r1 => gd (iO ((I k 10).toNatClampNeg) 10) (Option.bind (m_X10_count ((I k 10).toNatClampNeg) I) fun r3 => if r1 + r3 ≤ 300 then (gd (iO ((I k 10).toNatClampNeg) 10) (Option.bind (m_X10_putAll (k + 27) ((I k 10).toNatClampNeg) I) fun I5 => Option.bind (m_X10_count (k + 27) I5) fun r6 => some ((.inl r6, I5)))) else (some (.inr 1, I)))
set_option maxRecDepth 100000 in
set_option maxHeartbeats 4000000 in
theorem m_X11_feedWritten_ok {Z : Zx} {K : ((Int32 ⊕ Nat) × Mem) → Prop} (C : Cx Z cX11_feedWritten 1 RX11) (hR : RM Z 6 90) (k : Nat) (hk : isO k 11) (I : Mem) (hst : (zl Z).stackTraces = false) (hc : Z.2.2.1 + 1 ≤ (zR Z).cells) (hs : Z.2.2.2.1 + 6 ≤ (zR Z).slots) (hK : ∀ v I', K (.inl v, I') → RetI Z cX11_feedWritten .int v I') (hE : ∀ k I', K (.inr k, I') → RetX Z k I') : WF Z K (m_X11_feedWritten k I) I 0 [some (rf (zG Z) k)] [] := by
  unfold m_X11_feedWritten
  refine w_aload_n (v := k) C dX11_feedWritten_0 rfl (q := 1) rfl ?_
  refine g_X11_1 C hk lk_X11_19 dX11_feedWritten_1 (q := 4) rfl ?_
  refine w_callV (val := fun r1 => some (.int r1)) (mem := fun r1 => I) (st1 := fun r1 => [.int r1]) (As := []) (st := []) (q := 7) C hR (fun x h => c_X10_count (zl Z) (zG Z)  (st_X11_1 hk).2 I h) (st_X11_1 hk).2 mv_X10_count lk_X11_123 rfl (by decide) (fun _ => rfl) (Nat.le_of_ble_eq_true rfl) rfl rfl dX11_feedWritten_4 rfl (fun r1 => ?_)
  refine w_aload_n (v := k) C dX11_feedWritten_7 rfl (q := 8) rfl ?_
  refine g_X11_10 C hk lk_X11_56 dX11_feedWritten_8 (q := 11) rfl ?_
  refine w_gd (fun h2 => ?_)
  refine w_callV (val := fun r3 => some (.int r3)) (mem := fun r3 => I) (st1 := fun r3 => [.int r3, .int r1]) (As := []) (st := [.int r1]) (q := 14) C hR (fun x h => c_X10_count (zl Z) (zG Z)  (iO_of h2) I h) (iO_of h2) mv_X10_count lk_X11_123 rfl (by decide) (fun _ => rfl) (Nat.le_of_ble_eq_true rfl) rfl rfl dX11_feedWritten_11 rfl (fun r3 => ?_)
  refine w_iadd C dX11_feedWritten_14 (q := 15) rfl ?_
  refine w_sipush (v := (300)) C dX11_feedWritten_15 (by decide) (q := 18) rfl ?_
  refine w_icmp_le (tgt := 32) (q := 21) C dX11_feedWritten_18 (by decide) rfl (fun _ => ?_) (fun _ => ?_)
  · refine w_aload_n (v := k) C dX11_feedWritten_32 rfl (q := 33) rfl ?_
    refine g_X11_1 C hk lk_X11_19 dX11_feedWritten_33 (q := 36) rfl ?_
    refine w_aload_n (v := k) C dX11_feedWritten_36 rfl (q := 37) rfl ?_
    refine g_X11_10 C hk lk_X11_56 dX11_feedWritten_37 (q := 40) rfl ?_
    refine w_gd (fun h4 => ?_)
    refine w_callV (val := fun I5 => none) (mem := fun I5 => I5) (st1 := fun I5 => []) (As := [rf (zG Z) ((I k 10).toNatClampNeg)]) (st := []) (q := 43) C hR (fun x h => c_X10_putAll (zl Z) (zG Z)  (st_X11_1 hk).2 (iO_of h4) I h) (st_X11_1 hk).2 mv_X10_putAll lk_X11_259 rfl (by decide) (fun _ => rfl) (Nat.le_of_ble_eq_true rfl) rfl rfl dX11_feedWritten_40 rfl (fun I5 => ?_)
    refine w_aload_n (v := k) C dX11_feedWritten_43 rfl (q := 44) rfl ?_
    refine g_X11_1 C hk lk_X11_19 dX11_feedWritten_44 (q := 47) rfl ?_
    refine w_callV (val := fun r6 => some (.int r6)) (mem := fun r6 => I5) (st1 := fun r6 => [.int r6]) (As := []) (st := []) (q := 50) C hR (fun x h => c_X10_count (zl Z) (zG Z)  (st_X11_1 hk).2 I5 h) (st_X11_1 hk).2 mv_X10_count lk_X11_123 rfl (by decide) (fun _ => rfl) (Nat.le_of_ble_eq_true rfl) rfl rfl dX11_feedWritten_47 rfl (fun r6 => ?_)
    exact w_iret C (hK _ _) rfl dX11_feedWritten_50
  · exact w_throwW C hR (okA hc (by decide)) (okA hs (by decide)) (k := 1) (ik := 81) (is := 257) (ic := 85) (text := "the text would have more than 300 letters") (hE _ _) tw_X11_81_85 (by decide +kernel) (by decide) (Nat.le_of_ble_eq_true rfl) rfl dX11_feedWritten_21 dX11_feedWritten_24 dX11_feedWritten_25 dX11_feedWritten_28 dX11_feedWritten_31
theorem c_X11_feedWritten (l : Launch) (hst : l.stackTraces = false) (G : Gx) {k : Nat} (hk : isO k 11) (I : Mem) {x : (Int32 ⊕ Nat) × Mem} (h : m_X11_feedWritten k I = some x) : CtX l G yX11_feedWritten cX11_feedWritten 1 (some (.int)) 6 90 1 6 [rf G k] I (rsX (fun v => some (.int v)) x.1) x.2 := CtX.of hst (by decide +kernel) rfl (Nat.le_of_ble_eq_true rfl) retx_i (fun Z hG hl C hR hc hs hret hexc => by
  subst hG
  subst hl
  exact m_X11_feedWritten_ok (K := fun y => y = x) C hR k hk I hst hc hs (fun v I' hy => by subst hy; exact hret _ rfl) (fun k I' hy => by subst hy; exact hexc _ rfl) x h rfl)
