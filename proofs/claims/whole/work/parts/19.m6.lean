def m_X10_putAll_b2 (k : Nat) (p1 : Nat) (x2 : Int32) (I : Mem) : Option ((Int32 × Mem) ⊕ ((Mem))) :=
  if I p1 1 ≤ x2 then (some (.inr (I))) else (Option.bind (m_X10_at p1 x2 I) fun r1 => Option.bind (m_X10_put k r1 I) fun I2 => some (.inl (x2 + 1, I2)))
set_option maxRecDepth 100000 in
set_option maxHeartbeats 4000000 in
theorem m_X10_putAll_b2_ok {Z : Zx} {K : ((Int32 × Mem) ⊕ ((Mem))) → Prop} (C : Cx Z cX10_putAll 3 RX10) (hR : RM Z 1 21) (k : Nat) (p1 : Nat) (x2 : Int32) (hk : isO k 10) (hp1 : isO p1 10) (I : Mem) (hB : ∀ a, K (.inl a) → WM Z a.2 2 [some (rf (zG Z) k), some (rf (zG Z) p1), some (.int a.1)] []) (hX0 : ∀ b, K (.inr (b)) → WM Z b 25 [none, none, none] []) : WF Z K (m_X10_putAll_b2 k p1 x2 I) I 2 [some (rf (zG Z) k), some (rf (zG Z) p1), some (.int x2)] [] := by
  unfold m_X10_putAll_b2
  refine w_iload_n (v := x2) C dX10_putAll_2 rfl (q := 3) rfl ?_
  refine w_aload_n (v := p1) C dX10_putAll_3 rfl (q := 4) rfl ?_
  refine g_X10_1 C hp1 lk_X10_15 dX10_putAll_4 (q := 7) rfl ?_
  refine w_icmp_ge (tgt := 25) (q := 10) C dX10_putAll_7 (by decide) rfl (fun _ => ?_) (fun _ => ?_)
  · exact w_jmp (fun h => WM.less (L' := [none, none, none]) (hX0 _ h) trivial)
  · refine w_aload_n (v := k) C dX10_putAll_10 rfl (q := 11) rfl ?_
    refine w_aload_n (v := p1) C dX10_putAll_11 rfl (q := 12) rfl ?_
    refine w_iload_n (v := x2) C dX10_putAll_12 rfl (q := 13) rfl ?_
    refine w_callV (val := fun r1 => some (.int r1)) (mem := fun r1 => I) (st1 := fun r1 => [.int r1, rf (zG Z) k]) (As := [.int x2]) (st := [rf (zG Z) k]) (q := 16) C hR (fun x h => c_X10_at (zl Z) (zG Z) x2 hp1 I h) hp1 mv_X10_at lk_X10_23 rfl (by decide) (fun _ => rfl) (Nat.le_of_ble_eq_true rfl) rfl rfl dX10_putAll_13 rfl (fun r1 => ?_)
    refine w_callV (val := fun I2 => none) (mem := fun I2 => I2) (st1 := fun I2 => []) (As := [.int r1]) (st := []) (q := 19) C hR (fun x h => c_X10_put (zl Z) (zG Z) r1 hk I h) hk mv_X10_put lk_X10_27 rfl (by decide) (fun _ => rfl) (Nat.le_of_ble_eq_true rfl) rfl rfl dX10_putAll_16 rfl (fun I2 => ?_)
    refine w_iinc (v := x2 + 1) C dX10_putAll_19 rfl rfl (L' := [some (rf (zG Z) k), some (rf (zG Z) p1), some (.int (x2 + 1))]) rfl (q := 22) rfl ?_
    refine w_goto (tgt := 2) C dX10_putAll_22 (by decide) ?_
    exact w_jmp (fun h => WM.less (L' := [some (rf (zG Z) k), some (rf (zG Z) p1), some (.int (x2 + 1))]) (hB _ h) ⟨rfl, rfl, rfl, trivial⟩)
def m_X10_putAll (k : Nat) (p1 : Nat) (I : Mem) : Option (Mem) :=
  Option.bind (loopF (fun a => m_X10_putAll_b2 k p1 a.1 a.2) FU ((0 : Int32), I)) (fun b3 => some b3)
set_option maxRecDepth 100000 in
set_option maxHeartbeats 4000000 in
theorem m_X10_putAll_ok {Z : Zx} {K : Mem → Prop} (C : Cx Z cX10_putAll 3 RX10) (hR : RM Z 1 21) (k : Nat) (p1 : Nat) (hk : isO k 10) (hp1 : isO p1 10) (I : Mem) (hK : ∀ y, K (y) → RetV Z cX10_putAll y) : WF Z K (m_X10_putAll k p1 I) I 0 [some (rf (zG Z) k), some (rf (zG Z) p1), none] [] := by
  unfold m_X10_putAll
  refine w_iconst (v := (0)) C dX10_putAll_0 (by decide) (q := 1) rfl ?_
  refine w_istore_n C dX10_putAll_1 (Nat.le_of_ble_eq_true rfl) (L' := [some (rf (zG Z) k), some (rf (zG Z) p1), some (.int 0)]) rfl (q := 2) rfl ?_
  refine WF.less (L' := [some (rf (zG Z) k), some (rf (zG Z) p1), some (.int 0)]) (w_loopF (pc := 2) (a := ((0 : Int32), I)) (mem := fun a => a.2) (lo := fun a => [some (rf (zG Z) k), some (rf (zG Z) p1), some (.int a.1)]) (E := fun b3 => WM Z b3 25 [none, none, none] []) (fun a => m_X10_putAll_b2_ok C hR k p1 a.1 hk hp1 a.2 (fun _ h => h) (fun _ h => h)) ?_) ⟨rfl, rfl, rfl, trivial⟩
  intro b3
  refine w_hx ?_
  exact w_vret C (hK _) dX10_putAll_25
theorem c_X10_putAll (l : Launch) (G : Gx) {k : Nat} {p1 : Nat} (hk : isO k 10) (hp1 : isO p1 10) (I : Mem) {x : Mem} (h : m_X10_putAll k p1 I = some x) : Ct l G yX10_putAll cX10_putAll 3 none 1 21 [rf G k, rf G p1] I (none) x := Ct.of (by decide +kernel) rfl (Nat.le_of_ble_eq_true rfl) ret_v (fun Z hG hl C hR hret => by
  subst hG
  exact m_X10_putAll_ok (K := fun y => y = x) C hR k p1 hk hp1 I (fun y hy => by subst hy; exact hret) x h rfl)
def m_X11_feedWritten (k : Nat) (I : Mem) : Option ((Int32 ⊕ Nat) × Mem) :=
  Option.bind (m_X10_count (k + 27) I) fun r1 => gd (iO ((I k 10).toNatClampNeg) 10) (Option.bind (m_X10_count ((I k 10).toNatClampNeg) I) fun r3 => if r1 + r3 ≤ 300 then (gd (iO ((I k 10).toNatClampNeg) 10) (Option.bind (m_X10_putAll (k + 27) ((I k 10).toNatClampNeg) I) fun I5 => Option.bind (m_X10_count (k + 27) I5) fun r6 => some ((.inl r6, I5)))) else (some (.inr 1, I)))
set_option maxRecDepth 100000 in
set_option maxHeartbeats 4000000 in
theorem m_X11_feedWritten_ok {Z : Zx} {K : ((Int32 ⊕ Nat) × Mem) → Prop} (C : Cx Z cX11_feedWritten 1 RX11) (hR : RM Z 6 90) (k : Nat) (hk : isO k 11) (I : Mem) (hst : (zl Z).stackTraces = false) (hc : Z.2.2.1 + 1 ≤ (zR Z).cells) (hs : Z.2.2.2.1 + 6 ≤ (zR Z).slots) (hK : ∀ v I', K (.inl v, I') → RetI Z cX11_feedWritten .int v I') (hE : ∀ k I', K (.inr k, I') → RetX Z k I') : WF Z K (m_X11_feedWritten k I) I 0 [some (rf (zG Z) k)] [] := by
  unfold m_X11_feedWritten
  refine w_aload_n (v := k) C dX11_feedWritten_0 rfl (q := 1) rfl ?_
  refine g_X11_1 C hk lk_X11_19 dX11_feedWritten_1 (q := 4) rfl ?_
  refine w_callV (val := fun r1 => some (.int r1)) (mem := fun r1 => I) (st1 := fun r1 => [.int r1]) (As := []) (st := []) (q := 7) C hR (fun x h => c_X10_count (zl Z) (zG Z)  (st_X11_1 hk).2 I h) (st_X11_1 hk).2 mv_X10_count lk_X11_123 rfl (by decide) (fun _ => rfl) (Nat.le_of_ble_eq_true rfl) rfl rfl dX11_feedWritten_4 rfl (fun r1 => ?_)
  refine w_aload_n (v := k) C dX11_feedWritten_7 rfl (q := 8) rfl ?_
  refine g_X11_10 C hk lk_X11_56 dX11_feedWritten_8 (q := 11) rfl ?_
  refine w_gd (fun h2 => ?_)
  refine w_callV (val := fun r3 => some (.int r3)) (mem := fun r3 => I) (st1 := fun r3 => [.int r3, .int r1]) (As := []) (st := [.int r1]) (q := 14) C hR (fun x h => c_X10_count (zl Z) (zG Z)  (iO_of h2) I h) (iO_of h2) mv_X10_count lk_X11_123 rfl (by decide) (fun _ => rfl) (Nat.le_of_ble_eq_true rfl) rfl rfl dX11_feedWritten_11 rfl (fun r3 => ?_)
  refine w_iadd C dX11_feedWritten_14 (q := 15) rfl ?_
  refine w_sipush (v := (300)) C dX11_feedWritten_15 (by decide) (q := 18) rfl ?_
  refine w_icmp_le (tgt := 32) (q := 21) C dX11_feedWritten_18 (by decide) rfl (fun _ => ?_) (fun _ => ?_)
  · refine w_aload_n (v := k) C dX11_feedWritten_32 rfl (q := 33) rfl ?_
    refine g_X11_1 C hk lk_X11_19 dX11_feedWritten_33 (q := 36) rfl ?_
    refine w_aload_n (v := k) C dX11_feedWritten_36 rfl (q := 37) rfl ?_
    refine g_X11_10 C hk lk_X11_56 dX11_feedWritten_37 (q := 40) rfl ?_
    refine w_gd (fun h4 => ?_)
    refine w_callV (val := fun I5 => none) (mem := fun I5 => I5) (st1 := fun I5 => []) (As := [rf (zG Z) ((I k 10).toNatClampNeg)]) (st := []) (q := 43) C hR (fun x h => c_X10_putAll (zl Z) (zG Z)  (st_X11_1 hk).2 (iO_of h4) I h) (st_X11_1 hk).2 mv_X10_putAll lk_X11_259 rfl (by decide) (fun _ => rfl) (Nat.le_of_ble_eq_true rfl) rfl rfl dX11_feedWritten_40 rfl (fun I5 => ?_)
    refine w_aload_n (v := k) C dX11_feedWritten_43 rfl (q := 44) rfl ?_
    refine g_X11_1 C hk lk_X11_19 dX11_feedWritten_44 (q := 47) rfl ?_
    refine w_callV (val := fun r6 => some (.int r6)) (mem := fun r6 => I5) (st1 := fun r6 => [.int r6]) (As := []) (st := []) (q := 50) C hR (fun x h => c_X10_count (zl Z) (zG Z)  (st_X11_1 hk).2 I5 h) (st_X11_1 hk).2 mv_X10_count lk_X11_123 rfl (by decide) (fun _ => rfl) (Nat.le_of_ble_eq_true rfl) rfl rfl dX11_feedWritten_47 rfl (fun r6 => ?_)
    exact w_iret C (hK _ _) rfl dX11_feedWritten_50
  · exact w_throwW C hR (okA hc (by decide)) (okA hs (by decide)) (k := 1) (ik := 81) (is := 257) (ic := 85) (text := "the text would have more than 300 letters") (hE _ _) tw_X11_81_85 (by decide +kernel) (by decide) (Nat.le_of_ble_eq_true rfl) rfl dX11_feedWritten_21 dX11_feedWritten_24 dX11_feedWritten_25 dX11_feedWritten_28 dX11_feedWritten_31
theorem c_X11_feedWritten (l : Launch) (hst : l.stackTraces = false) (G : Gx) {k : Nat} (hk : isO k 11) (I : Mem) {x : (Int32 ⊕ Nat) × Mem} (h : m_X11_feedWritten k I = some x) : CtX l G yX11_feedWritten cX11_feedWritten 1 (some (.int)) 6 90 1 6 [rf G k] I (rsX (fun v => some (.int v)) x.1) x.2 := CtX.of hst (by decide +kernel) rfl (Nat.le_of_ble_eq_true rfl) retx_i (fun Z hG hl C hR hc hs hret hexc => by
  subst hG
  subst hl
  exact m_X11_feedWritten_ok (K := fun y => y = x) C hR k hk I hst hc hs (fun v I' hy => by subst hy; exact hret _ rfl) (fun k I' hy => by subst hy; exact hexc _ rfl) x h rfl)
