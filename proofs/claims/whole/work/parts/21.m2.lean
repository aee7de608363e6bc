def m_X12_splits_j73 (k : Nat) (x1 : Int32) (x2 : Int32) (I : Mem) : Option ((Int32 × Int32 × Mem) ⊕ ((Int32 × Int32 × Mem))) :=
  some (.inl (x1, x2, I))
set_option maxRecDepth 100000 in
set_option maxHeartbeats 4000000 in
theorem m_X12_splits_j73_ok {Z : Zx} {K : ((Int32 × Int32 × Mem) ⊕ ((Int32 × Int32 × Mem))) → Prop} (C : Cx Z cX12_splits 4 RX12) (hR : RM Z 2 50) (k : Nat) (x1 : Int32) (x2 : Int32) (hk : isO k 12) (I : Mem) (hB : ∀ a, K (.inl a) → WM Z a.2.2 9 [some (rf (zG Z) k), some (.int a.1), some (.int a.2.1), none] []) (hX0 : ∀ b, K (.inr (b)) → WM Z b.2.2 76 [some (rf (zG Z) k), some (.int b.1), some (.int b.2.1), none] []) : WF Z K (m_X12_splits_j73 k x1 x2 I) I 73 [some (rf (zG Z) k), some (.int x1), some (.int x2), none] [] := by
  unfold m_X12_splits_j73
  refine w_goto (tgt := 9) C dX12_splits_73 (by decide) ?_
  exact w_jmp (fun h => WM.less (L' := [some (rf (zG Z) k), some (.int x1), some (.int x2), none]) (hB _ h) ⟨rfl, rfl, rfl, trivial⟩)
def m_X12_splits_j49 (k : Nat) (x1 : Int32) (x3 : Int32) (y0 : Int32) (I : Mem) : Option ((Int32 × Int32 × Mem) ⊕ ((Int32 × Int32 × Mem))) :=
  if y0 = 0 then (Option.bind (m_X12_fault k ((1 : Int32)) x1 I) fun I3 => m_X12_splits_j73 k x1 y0 I3) else (Option.bind (m_X12_parts k x1 x3 I) fun I4 => m_X12_splits_j73 k (x3 + 1) y0 I4)
set_option maxRecDepth 100000 in
set_option maxHeartbeats 4000000 in
theorem m_X12_splits_j49_ok {Z : Zx} {K : ((Int32 × Int32 × Mem) ⊕ ((Int32 × Int32 × Mem))) → Prop} (C : Cx Z cX12_splits 4 RX12) (hR : RM Z 2 50) (k : Nat) (x1 : Int32) (x3 : Int32) (y0 : Int32) (hk : isO k 12) (I : Mem) (hB : ∀ a, K (.inl a) → WM Z a.2.2 9 [some (rf (zG Z) k), some (.int a.1), some (.int a.2.1), none] []) (hX0 : ∀ b, K (.inr (b)) → WM Z b.2.2 76 [some (rf (zG Z) k), some (.int b.1), some (.int b.2.1), none] []) : WF Z K (m_X12_splits_j49 k x1 x3 y0 I) I 49 [some (rf (zG Z) k), some (.int x1), none, some (.int x3)] [.int y0] := by
  unfold m_X12_splits_j49
  refine w_istore_n C dX12_splits_49 (Nat.le_of_ble_eq_true rfl) (L' := [some (rf (zG Z) k), some (.int x1), some (.int y0), some (.int x3)]) rfl (q := 50) rfl ?_
  refine w_iload_n (v := y0) C dX12_splits_50 rfl (q := 51) rfl ?_
  refine w_if_eq (tgt := 67) (q := 54) C dX12_splits_51 (by decide) rfl (fun _ => ?_) (fun _ => ?_)
  · refine w_aload_n (v := k) C dX12_splits_67 rfl (q := 68) rfl ?_
    refine w_iconst (v := (1)) C dX12_splits_68 (by decide) (q := 69) rfl ?_
    refine w_iload_n (v := x1) C dX12_splits_69 rfl (q := 70) rfl ?_
    refine w_callV (val := fun I3 => none) (mem := fun I3 => I3) (st1 := fun I3 => []) (As := [.int 1, .int x1]) (st := []) (q := 73) C hR (fun x h => c_X12_fault (zl Z) (zG Z) ((1 : Int32)) x1 hk I h) hk mv_X12_fault lk_X12_152 rfl (by decide) (fun _ => rfl) (Nat.le_of_ble_eq_true rfl) rfl rfl dX12_splits_70 rfl (fun I3 => ?_)
    exact WF.less (L' := [some (rf (zG Z) k), some (.int x1), some (.int y0), none]) (m_X12_splits_j73_ok C hR k x1 y0 hk I3 hB hX0) ⟨rfl, rfl, rfl, trivial⟩
  · refine w_aload_n (v := k) C dX12_splits_54 rfl (q := 55) rfl ?_
    refine w_iload_n (v := x1) C dX12_splits_55 rfl (q := 56) rfl ?_
    refine w_iload_n (v := x3) C dX12_splits_56 rfl (q := 57) rfl ?_
    refine w_callV (val := fun I4 => none) (mem := fun I4 => I4) (st1 := fun I4 => []) (As := [.int x1, .int x3]) (st := []) (q := 60) C hR (fun x h => c_X12_parts (zl Z) (zG Z) x1 x3 hk I h) hk mv_X12_parts lk_X12_160 rfl (by decide) (fun _ => rfl) (Nat.le_of_ble_eq_true rfl) rfl rfl dX12_splits_57 rfl (fun I4 => ?_)
    refine w_iload_n (v := x3) C dX12_splits_60 rfl (q := 61) rfl ?_
    refine w_iconst (v := (1)) C dX12_splits_61 (by decide) (q := 62) rfl ?_
    refine w_iadd C dX12_splits_62 (q := 63) rfl ?_
    refine w_istore_n C dX12_splits_63 (Nat.le_of_ble_eq_true rfl) (L' := [some (rf (zG Z) k), some (.int (x3 + 1)), some (.int y0), some (.int x3)]) rfl (q := 64) rfl ?_
    refine w_goto (tgt := 73) C dX12_splits_64 (by decide) ?_
    exact WF.less (L' := [some (rf (zG Z) k), some (.int (x3 + 1)), some (.int y0), none]) (m_X12_splits_j73_ok C hR k (x3 + 1) y0 hk I4 hB hX0) ⟨rfl, rfl, rfl, trivial⟩
def m_X12_splits_b9 (k : Nat) (x1 : Int32) (x2 : Int32) (I : Mem) : Option ((Int32 × Int32 × Mem) ⊕ ((Int32 × Int32 × Mem))) :=
  if I k 13 ≤ x1 then (some (.inr ((x1, x2, I)))) else (if 20 ≤ I k 22 then (some (.inr ((x1, x2, I)))) else (if x2 = 0 then (some (.inr ((x1, x2, I)))) else (Option.bind (m_X12_endOf k x1 I) fun r2 => if I k 13 ≤ r2 then (m_X12_splits_j49 k x1 r2 ((0 : Int32)) I) else (m_X12_splits_j49 k x1 r2 ((1 : Int32)) I))))
set_option maxRecDepth 100000 in
set_option maxHeartbeats 4000000 in
theorem m_X12_splits_b9_ok {Z : Zx} {K : ((Int32 × Int32 × Mem) ⊕ ((Int32 × Int32 × Mem))) → Prop} (C : Cx Z cX12_splits 4 RX12) (hR : RM Z 2 50) (k : Nat) (x1 : Int32) (x2 : Int32) (hk : isO k 12) (I : Mem) (hB : ∀ a, K (.inl a) → WM Z a.2.2 9 [some (rf (zG Z) k), some (.int a.1), some (.int a.2.1), none] []) (hX0 : ∀ b, K (.inr (b)) → WM Z b.2.2 76 [some (rf (zG Z) k), some (.int b.1), some (.int b.2.1), none] []) : WF Z K (m_X12_splits_b9 k x1 x2 I) I 9 [some (rf (zG Z) k), some (.int x1), some (.int x2), none] [] := by
  unfold m_X12_splits_b9
  refine w_iload_n (v := x1) C dX12_splits_9 rfl (q := 10) rfl ?_
  refine w_aload_n (v := k) C dX12_splits_10 rfl (q := 11) rfl ?_
  refine g_X12_13 C hk lk_X12_143 dX12_splits_11 (q := 14) rfl ?_
  refine w_icmp_ge (tgt := 76) (q := 17) C dX12_splits_14 (by decide) rfl (fun _ => ?_) (fun _ => ?_)
  · exact w_jmp (fun h => WM.less (L' := [some (rf (zG Z) k), some (.int x1), some (.int x2), none]) (hX0 _ h) ⟨rfl, rfl, rfl, trivial⟩)
  · refine w_aload_n (v := k) C dX12_splits_17 rfl (q := 18) rfl ?_
    refine g_X12_22 C hk lk_X12_149 dX12_splits_18 (q := 21) rfl ?_
    refine w_bipush (v := (20)) C dX12_splits_21 (by decide) (q := 23) rfl ?_
    refine w_icmp_ge (tgt := 76) (q := 26) C dX12_splits_23 (by decide) rfl (fun _ => ?_) (fun _ => ?_)
    · exact w_jmp (fun h => WM.less (L' := [some (rf (zG Z) k), some (.int x1), some (.int x2), none]) (hX0 _ h) ⟨rfl, rfl, rfl, trivial⟩)
    · refine w_iload_n (v := x2) C dX12_splits_26 rfl (q := 27) rfl ?_
      refine w_if_eq (tgt := 76) (q := 30) C dX12_splits_27 (by decide) rfl (fun _ => ?_) (fun _ => ?_)
      · exact w_jmp (fun h => WM.less (L' := [some (rf (zG Z) k), some (.int x1), some (.int x2), none]) (hX0 _ h) ⟨rfl, rfl, rfl, trivial⟩)
      · refine w_aload_n (v := k) C dX12_splits_30 rfl (q := 31) rfl ?_
        refine w_iload_n (v := x1) C dX12_splits_31 rfl (q := 32) rfl ?_
        refine w_callV (val := fun r2 => some (.int r2)) (mem := fun r2 => I) (st1 := fun r2 => [.int r2]) (As := [.int x1]) (st := []) (q := 35) C hR (fun x h => c_X12_endOf (zl Z) (zG Z) x1 hk I h) hk mv_X12_endOf lk_X12_156 rfl (by decide) (fun _ => rfl) (Nat.le_of_ble_eq_true rfl) rfl rfl dX12_splits_32 rfl (fun r2 => ?_)
        refine w_istore_n C dX12_splits_35 (Nat.le_of_ble_eq_true rfl) (L' := [some (rf (zG Z) k), some (.int x1), some (.int x2), some (.int r2)]) rfl (q := 36) rfl ?_
        refine w_iload_n (v := r2) C dX12_splits_36 rfl (q := 37) rfl ?_
        refine w_aload_n (v := k) C dX12_splits_37 rfl (q := 38) rfl ?_
        refine g_X12_13 C hk lk_X12_143 dX12_splits_38 (q := 41) rfl ?_
        refine w_icmp_ge (tgt := 48) (q := 44) C dX12_splits_41 (by decide) rfl (fun _ => ?_) (fun _ => ?_)
        · refine w_iconst (v := (0)) C dX12_splits_48 (by decide) (q := 49) rfl ?_
          exact WF.less (L' := [some (rf (zG Z) k), some (.int x1), none, some (.int r2)]) (m_X12_splits_j49_ok C hR k x1 r2 ((0 : Int32)) hk I hB hX0) ⟨rfl, rfl, rfl, trivial⟩
        · refine w_iconst (v := (1)) C dX12_splits_44 (by decide) (q := 45) rfl ?_
          refine w_goto (tgt := 49) C dX12_splits_45 (by decide) ?_
          exact WF.less (L' := [some (rf (zG Z) k), some (.int x1), none, some (.int r2)]) (m_X12_splits_j49_ok C hR k x1 r2 ((1 : Int32)) hk I hB hX0) ⟨rfl, rfl, rfl, trivial⟩
def m_X12_splits (k : Nat) (I : Mem) : Option (Mem) :=
  bnd (ms I k 22 0) fun I1 => Option.bind (loopF (fun a => m_X12_splits_b9 k a.1 a.2.1 a.2.2) FU ((0 : Int32), (1 : Int32), I1)) (fun b5 => if b5.2.2 k 13 ≤ b5.1 then (some b5.2.2) else (if b5.2.1 = 0 then (some b5.2.2) else (Option.bind (m_X12_fault k ((5 : Int32)) b5.1 b5.2.2) fun I6 => some I6)))
set_option maxRecDepth 100000 in
set_option maxHeartbeats 4000000 in
theorem m_X12_splits_ok {Z : Zx} {K : Mem → Prop} (C : Cx Z cX12_splits 4 RX12) (hR : RM Z 2 50) (k : Nat) (hk : isO k 12) (I : Mem) (hK : ∀ y, K (y) → RetV Z cX12_splits y) : WF Z K (m_X12_splits k I) I 0 [some (rf (zG Z) k), none, none, none] [] := by
  unfold m_X12_splits
  refine w_aload_n (v := k) C dX12_splits_0 rfl (q := 1) rfl ?_
  refine w_iconst (v := (0)) C dX12_splits_1 (by decide) (q := 2) rfl ?_
  refine p_X12_22 C hk  lk_X12_149 dX12_splits_2 (q := 5) rfl (fun I1 => ?_)
  refine w_iconst (v := (0)) C dX12_splits_5 (by decide) (q := 6) rfl ?_
  refine w_istore_n C dX12_splits_6 (Nat.le_of_ble_eq_true rfl) (L' := [some (rf (zG Z) k), some (.int 0), none, none]) rfl (q := 7) rfl ?_
  refine w_iconst (v := (1)) C dX12_splits_7 (by decide) (q := 8) rfl ?_
  refine w_istore_n C dX12_splits_8 (Nat.le_of_ble_eq_true rfl) (L' := [some (rf (zG Z) k), some (.int 0), some (.int 1), none]) rfl (q := 9) rfl ?_
  refine WF.less (L' := [some (rf (zG Z) k), some (.int 0), some (.int 1), none]) (w_loopF (pc := 9) (a := ((0 : Int32), (1 : Int32), I1)) (mem := fun a => a.2.2) (lo := fun a => [some (rf (zG Z) k), some (.int a.1), some (.int a.2.1), none]) (E := fun b5 => WM Z b5.2.2 76 [some (rf (zG Z) k), some (.int b5.1), some (.int b5.2.1), none] []) (fun a => m_X12_splits_b9_ok C hR k a.1 a.2.1 hk a.2.2 (fun _ h => h) (fun _ h => h)) ?_) ⟨rfl, rfl, rfl, trivial⟩
  intro b5
  refine w_hx ?_
  refine w_iload_n (v := b5.1) C dX12_splits_76 rfl (q := 77) rfl ?_
  refine w_aload_n (v := k) C dX12_splits_77 rfl (q := 78) rfl ?_
  refine g_X12_13 C hk lk_X12_143 dX12_splits_78 (q := 81) rfl ?_
  refine w_icmp_ge (tgt := 94) (q := 84) C dX12_splits_81 (by decide) rfl (fun _ => ?_) (fun _ => ?_)
  · exact w_vret C (hK _) dX12_splits_94
  · refine w_iload_n (v := b5.2.1) C dX12_splits_84 rfl (q := 85) rfl ?_
    refine w_if_eq (tgt := 94) (q := 88) C dX12_splits_85 (by decide) rfl (fun _ => ?_) (fun _ => ?_)
    · exact w_vret C (hK _) dX12_splits_94
    · refine w_aload_n (v := k) C dX12_splits_88 rfl (q := 89) rfl ?_
      refine w_iconst (v := (5)) C dX12_splits_89 (by decide) (q := 90) rfl ?_
      refine w_iload_n (v := b5.1) C dX12_splits_90 rfl (q := 91) rfl ?_
      refine w_callV (val := fun I6 => none) (mem := fun I6 => I6) (st1 := fun I6 => []) (As := [.int 5, .int b5.1]) (st := []) (q := 94) C hR (fun x h => c_X12_fault (zl Z) (zG Z) ((5 : Int32)) b5.1 hk b5.2.2 h) hk mv_X12_fault lk_X12_152 rfl (by decide) (fun _ => rfl) (Nat.le_of_ble_eq_true rfl) rfl rfl dX12_splits_91 rfl (fun I6 => ?_)
      exact w_vret C (hK _) dX12_splits_94
theorem c_X12_splits (l : Launch) (G : Gx) {k : Nat} (hk : isO k 12) (I : Mem) {x : Mem} (h : m_X12_splits k I = some x) : Ct l G yX12_splits cX12_splits 4 none 2 50 [rf G k] I (none) x := Ct.of (by decide +kernel) rfl (Nat.le_of_ble_eq_true rfl) ret_v (fun Z hG hl C hR hret => by
  subst hG
  exact m_X12_splits_ok (K := fun y => y = x) C hR k hk I (fun y hy => by subst hy; exact hret) x h rfl)
def m_X12_numberIn_j94 (k : Nat) (x3 : Int32) (x5 : Int32) (y0 : Int32) (I : Mem) : Option ((Int32 × Int32) ⊕ ((Int32))) :=
  some (.inl (y0, x5 + 1))
set_option maxRecDepth 100000 in
set_option maxHeartbeats 4000000 in
theorem m_X12_numberIn_j94_ok {Z : Zx} {K : ((Int32 × Int32) ⊕ ((Int32))) → Prop} (C : Cx Z cX12_numberIn 7 RX12) (hR : RM Z 1 22) (k : Nat) (x3 : Int32) (x5 : Int32) (y0 : Int32) (hk : isO k 12) (I : Mem) (hB : ∀ a, K (.inl a) → WM Z I 36 [some (rf (zG Z) k), none, none, some (.int x3), some (.int a.1), some (.int a.2), none] []) (hX0 : ∀ b, K (.inr (b)) → WM Z I 102 [none, none, none, none, some (.int b), none, none] []) : WF Z K (m_X12_numberIn_j94 k x3 x5 y0 I) I 94 [some (rf (zG Z) k), none, none, some (.int x3), none, some (.int x5), none] [.int y0] := by
  unfold m_X12_numberIn_j94
  refine w_istore C dX12_numberIn_94 (Nat.le_of_ble_eq_true rfl) (L' := [some (rf (zG Z) k), none, none, some (.int x3), some (.int y0), some (.int x5), none]) rfl (q := 96) rfl ?_
  refine w_iinc (v := x5 + 1) C dX12_numberIn_96 rfl rfl (L' := [some (rf (zG Z) k), none, none, some (.int x3), some (.int y0), some (.int (x5 + 1)), none]) rfl (q := 99) rfl ?_
  refine w_goto (tgt := 36) C dX12_numberIn_99 (by decide) ?_
  exact w_jmp (fun h => WM.less (L' := [some (rf (zG Z) k), none, none, some (.int x3), some (.int y0), some (.int (x5 + 1)), none]) (hB _ h) ⟨rfl, rfl, rfl, rfl, trivial⟩)
def m_X12_numberIn_b36 (k : Nat) (x3 : Int32) (x4 : Int32) (x5 : Int32) (I : Mem) : Option ((Int32 × Int32) ⊕ ((Int32))) :=
  if x4 = -1 then (some (.inr (x4))) else (gd (inb x3 100) (if I (k + 16) x3.toNatClampNeg ≤ x5 then (some (.inr (x4))) else (gd (inb ((((8 : Int32)) * x3) + x5) 800) (Option.bind (m_X12_in (I (k + 17) ((((8 : Int32)) * x3) + x5).toNatClampNeg) ((48 : Int32)) ((57 : Int32)) I) fun r1 => if r1 = 0 then (m_X12_numberIn_j94 k x3 x5 ((-1 : Int32)) I) else (m_X12_numberIn_j94 k x3 x5 (((((10 : Int32)) * x4) + (I (k + 17) ((((8 : Int32)) * x3) + x5).toNatClampNeg)) - 48) I)))))
set_option maxRecDepth 100000 in
set_option maxHeartbeats 4000000 in
theorem m_X12_numberIn_b36_ok {Z : Zx} {K : ((Int32 × Int32) ⊕ ((Int32))) → Prop} (C : Cx Z cX12_numberIn 7 RX12) (hR : RM Z 1 22) (k : Nat) (x3 : Int32) (x4 : Int32) (x5 : Int32) (hk : isO k 12) (I : Mem) (hB : ∀ a, K (.inl a) → WM Z I 36 [some (rf (zG Z) k), none, none, some (.int x3), some (.int a.1), some (.int a.2), none] []) (hX0 : ∀ b, K (.inr (b)) → WM Z I 102 [none, none, none, none, some (.int b), none, none] []) : WF Z K (m_X12_numberIn_b36 k x3 x4 x5 I) I 36 [some (rf (zG Z) k), none, none, some (.int x3), some (.int x4), some (.int x5), none] [] := by
  unfold m_X12_numberIn_b36
  refine w_iload (v := x4) C dX12_numberIn_36 rfl (q := 38) rfl ?_
  refine w_iconst (v := (-1)) C dX12_numberIn_38 (by decide) (q := 39) rfl ?_
  refine w_icmp_eq (tgt := 102) (q := 42) C dX12_numberIn_39 (by decide) rfl (fun _ => ?_) (fun _ => ?_)
  · exact w_jmp (fun h => WM.less (L' := [none, none, none, none, some (.int x4), none, none]) (hX0 _ h) ⟨rfl, trivial⟩)
  · refine w_iload (v := x5) C dX12_numberIn_42 rfl (q := 44) rfl ?_
    refine w_aload_n (v := k) C dX12_numberIn_44 rfl (q := 45) rfl ?_
    refine g_X12_20 C hk lk_X12_57 dX12_numberIn_45 (q := 48) rfl ?_
    refine w_iload_n (v := x3) C dX12_numberIn_48 rfl (q := 49) rfl ?_
    refine w_iald C (st_X12_20 hk).2 dX12_numberIn_49 (q := 50) rfl (fun _ => ?_)
    refine w_icmp_ge (tgt := 102) (q := 53) C dX12_numberIn_50 (by decide) rfl (fun _ => ?_) (fun _ => ?_)
    · exact w_jmp (fun h => WM.less (L' := [none, none, none, none, some (.int x4), none, none]) (hX0 _ h) ⟨rfl, trivial⟩)
    · refine w_aload_n (v := k) C dX12_numberIn_53 rfl (q := 54) rfl ?_
      refine g_X12_21 C hk lk_X12_60 dX12_numberIn_54 (q := 57) rfl ?_
      refine w_bipush (v := (8)) C dX12_numberIn_57 (by decide) (q := 59) rfl ?_
      refine w_iload_n (v := x3) C dX12_numberIn_59 rfl (q := 60) rfl ?_
      refine w_imul C dX12_numberIn_60 (q := 61) rfl ?_
      refine w_iload (v := x5) C dX12_numberIn_61 rfl (q := 63) rfl ?_
      refine w_iadd C dX12_numberIn_63 (q := 64) rfl ?_
      refine w_cald C (st_X12_21 hk).2 dX12_numberIn_64 (q := 65) rfl (fun _ => ?_)
      refine w_istore C dX12_numberIn_65 (Nat.le_of_ble_eq_true rfl) (L' := [some (rf (zG Z) k), none, none, some (.int x3), some (.int x4), some (.int x5), some (.int (I (k + 17) ((((8 : Int32)) * x3) + x5).toNatClampNeg))]) rfl (q := 67) rfl ?_
      refine w_iload (v := I (k + 17) ((((8 : Int32)) * x3) + x5).toNatClampNeg) C dX12_numberIn_67 rfl (q := 69) rfl ?_
      refine w_bipush (v := (48)) C dX12_numberIn_69 (by decide) (q := 71) rfl ?_
      refine w_bipush (v := (57)) C dX12_numberIn_71 (by decide) (q := 73) rfl ?_
      refine w_callS (val := fun r1 => some (.int r1)) (mem := fun r1 => I) (st1 := fun r1 => [.int r1]) (As := [.int (I (k + 17) ((((8 : Int32)) * x3) + x5).toNatClampNeg), .int 48, .int 57]) (st := []) (q := 76) C hR (fun x h => c_X12_in (zl Z) (zG Z) (I (k + 17) ((((8 : Int32)) * x3) + x5).toNatClampNeg) ((48 : Int32)) ((57 : Int32))  I h) mv_X12_in lk_X12_115 rfl (by decide) (fun _ => rfl) (Nat.le_of_ble_eq_true rfl) rfl rfl dX12_numberIn_73 rfl (fun r1 => ?_)
      refine w_if_eq (tgt := 93) (q := 79) C dX12_numberIn_76 (by decide) rfl (fun _ => ?_) (fun _ => ?_)
      · refine w_iconst (v := (-1)) C dX12_numberIn_93 (by decide) (q := 94) rfl ?_
        exact WF.less (L' := [some (rf (zG Z) k), none, none, some (.int x3), none, some (.int x5), none]) (m_X12_numberIn_j94_ok C hR k x3 x5 ((-1 : Int32)) hk I hB hX0) ⟨rfl, rfl, rfl, trivial⟩
      · refine w_bipush (v := (10)) C dX12_numberIn_79 (by decide) (q := 81) rfl ?_
        refine w_iload (v := x4) C dX12_numberIn_81 rfl (q := 83) rfl ?_
        refine w_imul C dX12_numberIn_83 (q := 84) rfl ?_
        refine w_iload (v := I (k + 17) ((((8 : Int32)) * x3) + x5).toNatClampNeg) C dX12_numberIn_84 rfl (q := 86) rfl ?_
        refine w_iadd C dX12_numberIn_86 (q := 87) rfl ?_
        refine w_bipush (v := (48)) C dX12_numberIn_87 (by decide) (q := 89) rfl ?_
        refine w_isub C dX12_numberIn_89 (q := 90) rfl ?_
        refine w_goto (tgt := 94) C dX12_numberIn_90 (by decide) ?_
        exact WF.less (L' := [some (rf (zG Z) k), none, none, some (.int x3), none, some (.int x5), none]) (m_X12_numberIn_j94_ok C hR k x3 x5 (((((10 : Int32)) * x4) + (I (k + 17) ((((8 : Int32)) * x3) + x5).toNatClampNeg)) - 48) hk I hB hX0) ⟨rfl, rfl, rfl, trivial⟩
def m_X12_numberIn_j31 (k : Nat) (x3 : Int32) (y0 : Int32) (I : Mem) : Option (Int32) :=
  Option.bind (loopF (fun a => m_X12_numberIn_b36 k x3 a.1 a.2 I) FU (y0, (0 : Int32))) (fun b2 => some b2)
set_option maxRecDepth 100000 in
set_option maxHeartbeats 4000000 in
theorem m_X12_numberIn_j31_ok {Z : Zx} {K : Int32 → Prop} (C : Cx Z cX12_numberIn 7 RX12) (hR : RM Z 1 22) (k : Nat) (x3 : Int32) (y0 : Int32) (hk : isO k 12) (I : Mem) (hK : ∀ y, K (y) → RetI Z cX12_numberIn .int y I) : WF Z K (m_X12_numberIn_j31 k x3 y0 I) I 31 [some (rf (zG Z) k), none, none, some (.int x3), none, none, none] [.int y0] := by
  unfold m_X12_numberIn_j31
  refine w_istore C dX12_numberIn_31 (Nat.le_of_ble_eq_true rfl) (L' := [some (rf (zG Z) k), none, none, some (.int x3), some (.int y0), none, none]) rfl (q := 33) rfl ?_
  refine w_iconst (v := (0)) C dX12_numberIn_33 (by decide) (q := 34) rfl ?_
  refine w_istore C dX12_numberIn_34 (Nat.le_of_ble_eq_true rfl) (L' := [some (rf (zG Z) k), none, none, some (.int x3), some (.int y0), some (.int 0), none]) rfl (q := 36) rfl ?_
  refine WF.less (L' := [some (rf (zG Z) k), none, none, some (.int x3), some (.int y0), some (.int 0), none]) (w_loopF (pc := 36) (a := (y0, (0 : Int32))) (mem := fun a => I) (lo := fun a => [some (rf (zG Z) k), none, none, some (.int x3), some (.int a.1), some (.int a.2), none]) (E := fun b2 => WM Z I 102 [none, none, none, none, some (.int b2), none, none] []) (fun a => m_X12_numberIn_b36_ok C hR k x3 a.1 a.2 hk I (fun _ h => h) (fun _ h => h)) ?_) ⟨rfl, rfl, rfl, rfl, trivial⟩
  intro b2
  refine w_hx ?_
  refine w_iload (v := b2) C dX12_numberIn_102 rfl (q := 104) rfl ?_
  exact w_iret C (hK _) rfl dX12_numberIn_104
def m_X12_numberIn_j30 (k : Nat) (x3 : Int32) (I : Mem) : Option (Int32) :=
  m_X12_numberIn_j31 k x3 ((-1 : Int32)) I
set_option maxRecDepth 100000 in
set_option maxHeartbeats 4000000 in
theorem m_X12_numberIn_j30_ok {Z : Zx} {K : Int32 → Prop} (C : Cx Z cX12_numberIn 7 RX12) (hR : RM Z 1 22) (k : Nat) (x3 : Int32) (hk : isO k 12) (I : Mem) (hK : ∀ y, K (y) → RetI Z cX12_numberIn .int y I) : WF Z K (m_X12_numberIn_j30 k x3 I) I 30 [some (rf (zG Z) k), none, none, some (.int x3), none, none, none] [] := by
  unfold m_X12_numberIn_j30
  refine w_iconst (v := (-1)) C dX12_numberIn_30 (by decide) (q := 31) rfl ?_
  exact WF.less (L' := [some (rf (zG Z) k), none, none, some (.int x3), none, none, none]) (m_X12_numberIn_j31_ok C hR k x3 ((-1 : Int32)) hk I hK) ⟨rfl, rfl, trivial⟩
def m_X12_numberIn (k : Nat) (p1 : Int32) (p2 : Int32) (I : Mem) : Option (Int32) :=
  gd (inb ((((5 : Int32)) * p1) + p2) 100) (if I (k + 16) ((((5 : Int32)) * p1) + p2).toNatClampNeg < 1 then (m_X12_numberIn_j30 k ((((5 : Int32)) * p1) + p2) I) else (gd (inb ((((5 : Int32)) * p1) + p2) 100) (if 4 < I (k + 16) ((((5 : Int32)) * p1) + p2).toNatClampNeg then (m_X12_numberIn_j30 k ((((5 : Int32)) * p1) + p2) I) else (m_X12_numberIn_j31 k ((((5 : Int32)) * p1) + p2) ((0 : Int32)) I))))
set_option maxRecDepth 100000 in
set_option maxHeartbeats 4000000 in
theorem m_X12_numberIn_ok {Z : Zx} {K : Int32 → Prop} (C : Cx Z cX12_numberIn 7 RX12) (hR : RM Z 1 22) (k : Nat) (p1 : Int32) (p2 : Int32) (hk : isO k 12) (I : Mem) (hK : ∀ y, K (y) → RetI Z cX12_numberIn .int y I) : WF Z K (m_X12_numberIn k p1 p2 I) I 0 [some (rf (zG Z) k), some (.int p1), some (.int p2), none, none, none, none] [] := by
  unfold m_X12_numberIn
  refine w_iconst (v := (5)) C dX12_numberIn_0 (by decide) (q := 1) rfl ?_
  refine w_iload_n (v := p1) C dX12_numberIn_1 rfl (q := 2) rfl ?_
  refine w_imul C dX12_numberIn_2 (q := 3) rfl ?_
  refine w_iload_n (v := p2) C dX12_numberIn_3 rfl (q := 4) rfl ?_
  refine w_iadd C dX12_numberIn_4 (q := 5) rfl ?_
  refine w_istore_n C dX12_numberIn_5 (Nat.le_of_ble_eq_true rfl) (L' := [some (rf (zG Z) k), some (.int p1), some (.int p2), some (.int ((((5 : Int32)) * p1) + p2)), none, none, none]) rfl (q := 6) rfl ?_
  refine w_aload_n (v := k) C dX12_numberIn_6 rfl (q := 7) rfl ?_
  refine g_X12_20 C hk lk_X12_57 dX12_numberIn_7 (q := 10) rfl ?_
  refine w_iload_n (v := (((5 : Int32)) * p1) + p2) C dX12_numberIn_10 rfl (q := 11) rfl ?_
  refine w_iald C (st_X12_20 hk).2 dX12_numberIn_11 (q := 12) rfl (fun _ => ?_)
  refine w_iconst (v := (1)) C dX12_numberIn_12 (by decide) (q := 13) rfl ?_
  refine w_icmp_lt (tgt := 30) (q := 16) C dX12_numberIn_13 (by decide) rfl (fun _ => ?_) (fun _ => ?_)
  · exact WF.less (L' := [some (rf (zG Z) k), none, none, some (.int ((((5 : Int32)) * p1) + p2)), none, none, none]) (m_X12_numberIn_j30_ok C hR k ((((5 : Int32)) * p1) + p2) hk I hK) ⟨rfl, rfl, trivial⟩
  · refine w_aload_n (v := k) C dX12_numberIn_16 rfl (q := 17) rfl ?_
    refine g_X12_20 C hk lk_X12_57 dX12_numberIn_17 (q := 20) rfl ?_
    refine w_iload_n (v := (((5 : Int32)) * p1) + p2) C dX12_numberIn_20 rfl (q := 21) rfl ?_
    refine w_iald C (st_X12_20 hk).2 dX12_numberIn_21 (q := 22) rfl (fun _ => ?_)
    refine w_iconst (v := (4)) C dX12_numberIn_22 (by decide) (q := 23) rfl ?_
    refine w_icmp_gt (tgt := 30) (q := 26) C dX12_numberIn_23 (by decide) rfl (fun _ => ?_) (fun _ => ?_)
    · exact WF.less (L' := [some (rf (zG Z) k), none, none, some (.int ((((5 : Int32)) * p1) + p2)), none, none, none]) (m_X12_numberIn_j30_ok C hR k ((((5 : Int32)) * p1) + p2) hk I hK) ⟨rfl, rfl, trivial⟩
    · refine w_iconst (v := (0)) C dX12_numberIn_26 (by decide) (q := 27) rfl ?_
      refine w_goto (tgt := 31) C dX12_numberIn_27 (by decide) ?_
      exact WF.less (L' := [some (rf (zG Z) k), none, none, some (.int ((((5 : Int32)) * p1) + p2)), none, none, none]) (m_X12_numberIn_j31_ok C hR k ((((5 : Int32)) * p1) + p2) ((0 : Int32)) hk I hK) ⟨rfl, rfl, trivial⟩
theorem c_X12_numberIn (l : Launch) (G : Gx) {k : Nat} (p1 : Int32) (p2 : Int32) (hk : isO k 12) (I : Mem) {x : Int32} (h : m_X12_numberIn k p1 p2 I = some x) : Ct l G yX12_numberIn cX12_numberIn 7 (some (.int)) 1 22 [rf G k, .int p1, .int p2] I (some (.int x)) I := Ct.of (by decide +kernel) rfl (Nat.le_of_ble_eq_true rfl) ret_i (fun Z hG hl C hR hret => by
  subst hG
  exact m_X12_numberIn_ok (K := fun y => y = x) C hR k p1 p2 hk I (fun y hy => by subst hy; exact hret) x h rfl)
def m_X12_envelope_j121 (y0 : Nat) (y1 : Int32) (y2 : Int32) (I : Mem) : Option (Mem) :=
  Option.bind (m_X12_fault y0 y1 y2 I) fun I2 => some I2
set_option maxRecDepth 100000 in
set_option maxHeartbeats 4000000 in
theorem m_X12_envelope_j121_ok {Z : Zx} {K : Mem → Prop} (C : Cx Z cX12_envelope 2 RX12) (hR : RM Z 2 48) (y0 : Nat) (y1 : Int32) (y2 : Int32) (hy0 : isO y0 12) (I : Mem) (hK : ∀ y, K (y) → RetV Z cX12_envelope y) : WF Z K (m_X12_envelope_j121 y0 y1 y2 I) I 121 [none, none] [.int y2, .int y1, rf (zG Z) y0] := by
  unfold m_X12_envelope_j121
  refine w_callV (val := fun I2 => none) (mem := fun I2 => I2) (st1 := fun I2 => []) (As := [.int y1, .int y2]) (st := []) (q := 124) C hR (fun x h => c_X12_fault (zl Z) (zG Z) y1 y2 hy0 I h) hy0 mv_X12_fault lk_X12_152 rfl (by decide) (fun _ => rfl) (Nat.le_of_ble_eq_true rfl) rfl rfl dX12_envelope_121 rfl (fun I2 => ?_)
  exact w_vret C (hK _) dX12_envelope_124
def m_X12_envelope_j101 (k : Nat) (x1 : Int32) (I : Mem) : Option (Mem) :=
  if I k 22 = 0 then (m_X12_envelope_j121 k ((7 : Int32)) ((0 : Int32)) I) else (gd (inb x1 20) (m_X12_envelope_j121 k ((7 : Int32)) (I (k + 13) x1.toNatClampNeg) I))
set_option maxRecDepth 100000 in
set_option maxHeartbeats 4000000 in
theorem m_X12_envelope_j101_ok {Z : Zx} {K : Mem → Prop} (C : Cx Z cX12_envelope 2 RX12) (hR : RM Z 2 48) (k : Nat) (x1 : Int32) (hk : isO k 12) (I : Mem) (hK : ∀ y, K (y) → RetV Z cX12_envelope y) : WF Z K (m_X12_envelope_j101 k x1 I) I 101 [some (rf (zG Z) k), some (.int x1)] [] := by
  unfold m_X12_envelope_j101
  refine w_aload_n (v := k) C dX12_envelope_101 rfl (q := 102) rfl ?_
  refine w_bipush (v := (7)) C dX12_envelope_102 (by decide) (q := 104) rfl ?_
  refine w_aload_n (v := k) C dX12_envelope_104 rfl (q := 105) rfl ?_
  refine g_X12_22 C hk lk_X12_149 dX12_envelope_105 (q := 108) rfl ?_
  refine w_if_ne (tgt := 115) (q := 111) C dX12_envelope_108 (by decide) rfl (fun _ => ?_) (fun _ => ?_)
  · refine w_iconst (v := (0)) C dX12_envelope_111 (by decide) (q := 112) rfl ?_
    refine w_goto (tgt := 121) C dX12_envelope_112 (by decide) ?_
    exact WF.less (L' := [none, none]) (m_X12_envelope_j121_ok C hR k ((7 : Int32)) ((0 : Int32)) hk I hK) trivial
  · refine w_aload_n (v := k) C dX12_envelope_115 rfl (q := 116) rfl ?_
    refine g_X12_17 C hk lk_X12_48 dX12_envelope_116 (q := 119) rfl ?_
    refine w_iload_n (v := x1) C dX12_envelope_119 rfl (q := 120) rfl ?_
    refine w_iald C (st_X12_17 hk).2 dX12_envelope_120 (q := 121) rfl (fun _ => ?_)
    exact WF.less (L' := [none, none]) (m_X12_envelope_j121_ok C hR k ((7 : Int32)) (I (k + 13) x1.toNatClampNeg) hk I hK) trivial
def m_X12_envelope_j52 (k : Nat) (x1 : Int32) (I : Mem) : Option (Mem) :=
  if I k 22 < 2 then (m_X12_envelope_j101 k x1 I) else (gd (inb x1 20) (if I (k + 14) x1.toNatClampNeg = 84 then (gd (inb x1 20) (if I (k + 15) x1.toNatClampNeg = 2 then (Option.bind (m_X12_numberIn k x1 ((0 : Int32)) I) fun r3 => if r3 = -1 then (m_X12_envelope_j101 k x1 I) else (Option.bind (m_X12_numberIn k x1 ((1 : Int32)) I) fun r4 => if r4 = -1 then (m_X12_envelope_j101 k x1 I) else (some I))) else (m_X12_envelope_j101 k x1 I))) else (m_X12_envelope_j101 k x1 I)))
set_option maxRecDepth 100000 in
set_option maxHeartbeats 4000000 in
theorem m_X12_envelope_j52_ok {Z : Zx} {K : Mem → Prop} (C : Cx Z cX12_envelope 2 RX12) (hR : RM Z 2 48) (k : Nat) (x1 : Int32) (hk : isO k 12) (I : Mem) (hK : ∀ y, K (y) → RetV Z cX12_envelope y) : WF Z K (m_X12_envelope_j52 k x1 I) I 52 [some (rf (zG Z) k), some (.int x1)] [] := by
  unfold m_X12_envelope_j52
  refine w_aload_n (v := k) C dX12_envelope_52 rfl (q := 53) rfl ?_
  refine g_X12_22 C hk lk_X12_149 dX12_envelope_53 (q := 56) rfl ?_
  refine w_iconst (v := (2)) C dX12_envelope_56 (by decide) (q := 57) rfl ?_
  refine w_icmp_lt (tgt := 101) (q := 60) C dX12_envelope_57 (by decide) rfl (fun _ => ?_) (fun _ => ?_)
  · exact WF.less (L' := [some (rf (zG Z) k), some (.int x1)]) (m_X12_envelope_j101_ok C hR k x1 hk I hK) ⟨rfl, rfl, trivial⟩
  · refine w_aload_n (v := k) C dX12_envelope_60 rfl (q := 61) rfl ?_
    refine g_X12_18 C hk lk_X12_51 dX12_envelope_61 (q := 64) rfl ?_
    refine w_iload_n (v := x1) C dX12_envelope_64 rfl (q := 65) rfl ?_
    refine w_cald C (st_X12_18 hk).2 dX12_envelope_65 (q := 66) rfl (fun _ => ?_)
    refine w_bipush (v := (84)) C dX12_envelope_66 (by decide) (q := 68) rfl ?_
    refine w_icmp_ne (tgt := 101) (q := 71) C dX12_envelope_68 (by decide) rfl (fun _ => ?_) (fun _ => ?_)
    · refine w_aload_n (v := k) C dX12_envelope_71 rfl (q := 72) rfl ?_
      refine g_X12_19 C hk lk_X12_54 dX12_envelope_72 (q := 75) rfl ?_
      refine w_iload_n (v := x1) C dX12_envelope_75 rfl (q := 76) rfl ?_
      refine w_iald C (st_X12_19 hk).2 dX12_envelope_76 (q := 77) rfl (fun _ => ?_)
      refine w_iconst (v := (2)) C dX12_envelope_77 (by decide) (q := 78) rfl ?_
      refine w_icmp_ne (tgt := 101) (q := 81) C dX12_envelope_78 (by decide) rfl (fun _ => ?_) (fun _ => ?_)
      · refine w_aload_n (v := k) C dX12_envelope_81 rfl (q := 82) rfl ?_
        refine w_iload_n (v := x1) C dX12_envelope_82 rfl (q := 83) rfl ?_
        refine w_iconst (v := (0)) C dX12_envelope_83 (by decide) (q := 84) rfl ?_
        refine w_callV (val := fun r3 => some (.int r3)) (mem := fun r3 => I) (st1 := fun r3 => [.int r3]) (As := [.int x1, .int 0]) (st := []) (q := 87) C hR (fun x h => c_X12_numberIn (zl Z) (zG Z) x1 ((0 : Int32)) hk I h) hk mv_X12_numberIn lk_X12_163 rfl (by decide) (fun _ => rfl) (Nat.le_of_ble_eq_true rfl) rfl rfl dX12_envelope_84 rfl (fun r3 => ?_)
        refine w_iconst (v := (-1)) C dX12_envelope_87 (by decide) (q := 88) rfl ?_
        refine w_icmp_eq (tgt := 101) (q := 91) C dX12_envelope_88 (by decide) rfl (fun _ => ?_) (fun _ => ?_)
        · exact WF.less (L' := [some (rf (zG Z) k), some (.int x1)]) (m_X12_envelope_j101_ok C hR k x1 hk I hK) ⟨rfl, rfl, trivial⟩
        · refine w_aload_n (v := k) C dX12_envelope_91 rfl (q := 92) rfl ?_
          refine w_iload_n (v := x1) C dX12_envelope_92 rfl (q := 93) rfl ?_
          refine w_iconst (v := (1)) C dX12_envelope_93 (by decide) (q := 94) rfl ?_
          refine w_callV (val := fun r4 => some (.int r4)) (mem := fun r4 => I) (st1 := fun r4 => [.int r4]) (As := [.int x1, .int 1]) (st := []) (q := 97) C hR (fun x h => c_X12_numberIn (zl Z) (zG Z) x1 ((1 : Int32)) hk I h) hk mv_X12_numberIn lk_X12_163 rfl (by decide) (fun _ => rfl) (Nat.le_of_ble_eq_true rfl) rfl rfl dX12_envelope_94 rfl (fun r4 => ?_)
          refine w_iconst (v := (-1)) C dX12_envelope_97 (by decide) (q := 98) rfl ?_
          refine w_icmp_ne (tgt := 124) (q := 101) C dX12_envelope_98 (by decide) rfl (fun _ => ?_) (fun _ => ?_)
          · exact WF.less (L' := [some (rf (zG Z) k), some (.int x1)]) (m_X12_envelope_j101_ok C hR k x1 hk I hK) ⟨rfl, rfl, trivial⟩
          · exact w_vret C (hK _) dX12_envelope_124
      · exact WF.less (L' := [some (rf (zG Z) k), some (.int x1)]) (m_X12_envelope_j101_ok C hR k x1 hk I hK) ⟨rfl, rfl, trivial⟩
    · exact WF.less (L' := [some (rf (zG Z) k), some (.int x1)]) (m_X12_envelope_j101_ok C hR k x1 hk I hK) ⟨rfl, rfl, trivial⟩
def m_X12_envelope_j45 (k : Nat) (x1 : Int32) (I : Mem) : Option (Mem) :=
  Option.bind (m_X12_fault k ((6 : Int32)) ((0 : Int32)) I) fun I1 => m_X12_envelope_j52 k x1 I1
set_option maxRecDepth 100000 in
set_option maxHeartbeats 4000000 in
theorem m_X12_envelope_j45_ok {Z : Zx} {K : Mem → Prop} (C : Cx Z cX12_envelope 2 RX12) (hR : RM Z 2 48) (k : Nat) (x1 : Int32) (hk : isO k 12) (I : Mem) (hK : ∀ y, K (y) → RetV Z cX12_envelope y) : WF Z K (m_X12_envelope_j45 k x1 I) I 45 [some (rf (zG Z) k), some (.int x1)] [] := by
  unfold m_X12_envelope_j45
  refine w_aload_n (v := k) C dX12_envelope_45 rfl (q := 46) rfl ?_
  refine w_bipush (v := (6)) C dX12_envelope_46 (by decide) (q := 48) rfl ?_
  refine w_iconst (v := (0)) C dX12_envelope_48 (by decide) (q := 49) rfl ?_
  refine w_callV (val := fun I1 => none) (mem := fun I1 => I1) (st1 := fun I1 => []) (As := [.int 6, .int 0]) (st := []) (q := 52) C hR (fun x h => c_X12_fault (zl Z) (zG Z) ((6 : Int32)) ((0 : Int32)) hk I h) hk mv_X12_fault lk_X12_152 rfl (by decide) (fun _ => rfl) (Nat.le_of_ble_eq_true rfl) rfl rfl dX12_envelope_49 rfl (fun I1 => ?_)
  exact WF.less (L' := [some (rf (zG Z) k), some (.int x1)]) (m_X12_envelope_j52_ok C hR k x1 hk I1 hK) ⟨rfl, rfl, trivial⟩
def m_X12_envelope (k : Nat) (I : Mem) : Option (Mem) :=
  if I k 22 = 0 then (m_X12_envelope_j45 k ((I k 22) - 1) I) else (gd (inb 0 20) (if I (k + 14) ((0 : Int32)).toNatClampNeg = 72 then (gd (inb 0 20) (if I (k + 15) ((0 : Int32)).toNatClampNeg = 1 then (Option.bind (m_X12_numberIn k ((0 : Int32)) ((0 : Int32)) I) fun r5 => if r5 = -1 then (m_X12_envelope_j45 k ((I k 22) - 1) I) else (m_X12_envelope_j52 k ((I k 22) - 1) I)) else (m_X12_envelope_j45 k ((I k 22) - 1) I))) else (m_X12_envelope_j45 k ((I k 22) - 1) I)))
set_option maxRecDepth 100000 in
set_option maxHeartbeats 4000000 in
theorem m_X12_envelope_ok {Z : Zx} {K : Mem → Prop} (C : Cx Z cX12_envelope 2 RX12) (hR : RM Z 2 48) (k : Nat) (hk : isO k 12) (I : Mem) (hK : ∀ y, K (y) → RetV Z cX12_envelope y) : WF Z K (m_X12_envelope k I) I 0 [some (rf (zG Z) k), none] [] := by
  unfold m_X12_envelope
  refine w_aload_n (v := k) C dX12_envelope_0 rfl (q := 1) rfl ?_
  refine g_X12_22 C hk lk_X12_149 dX12_envelope_1 (q := 4) rfl ?_
  refine w_iconst (v := (1)) C dX12_envelope_4 (by decide) (q := 5) rfl ?_
  refine w_isub C dX12_envelope_5 (q := 6) rfl ?_
  refine w_istore_n C dX12_envelope_6 (Nat.le_of_ble_eq_true rfl) (L' := [some (rf (zG Z) k), some (.int ((I k 22) - 1))]) rfl (q := 7) rfl ?_
  refine w_aload_n (v := k) C dX12_envelope_7 rfl (q := 8) rfl ?_
  refine g_X12_22 C hk lk_X12_149 dX12_envelope_8 (q := 11) rfl ?_
  refine w_if_eq (tgt := 45) (q := 14) C dX12_envelope_11 (by decide) rfl (fun _ => ?_) (fun _ => ?_)
  · exact WF.less (L' := [some (rf (zG Z) k), some (.int ((I k 22) - 1))]) (m_X12_envelope_j45_ok C hR k ((I k 22) - 1) hk I hK) ⟨rfl, rfl, trivial⟩
  · refine w_aload_n (v := k) C dX12_envelope_14 rfl (q := 15) rfl ?_
    refine g_X12_18 C hk lk_X12_51 dX12_envelope_15 (q := 18) rfl ?_
    refine w_iconst (v := (0)) C dX12_envelope_18 (by decide) (q := 19) rfl ?_
    refine w_cald C (st_X12_18 hk).2 dX12_envelope_19 (q := 20) rfl (fun _ => ?_)
    refine w_bipush (v := (72)) C dX12_envelope_20 (by decide) (q := 22) rfl ?_
    refine w_icmp_ne (tgt := 45) (q := 25) C dX12_envelope_22 (by decide) rfl (fun _ => ?_) (fun _ => ?_)
    · refine w_aload_n (v := k) C dX12_envelope_25 rfl (q := 26) rfl ?_
      refine g_X12_19 C hk lk_X12_54 dX12_envelope_26 (q := 29) rfl ?_
      refine w_iconst (v := (0)) C dX12_envelope_29 (by decide) (q := 30) rfl ?_
      refine w_iald C (st_X12_19 hk).2 dX12_envelope_30 (q := 31) rfl (fun _ => ?_)
      refine w_iconst (v := (1)) C dX12_envelope_31 (by decide) (q := 32) rfl ?_
      refine w_icmp_ne (tgt := 45) (q := 35) C dX12_envelope_32 (by decide) rfl (fun _ => ?_) (fun _ => ?_)
      · refine w_aload_n (v := k) C dX12_envelope_35 rfl (q := 36) rfl ?_
        refine w_iconst (v := (0)) C dX12_envelope_36 (by decide) (q := 37) rfl ?_
        refine w_iconst (v := (0)) C dX12_envelope_37 (by decide) (q := 38) rfl ?_
        refine w_callV (val := fun r5 => some (.int r5)) (mem := fun r5 => I) (st1 := fun r5 => [.int r5]) (As := [.int 0, .int 0]) (st := []) (q := 41) C hR (fun x h => c_X12_numberIn (zl Z) (zG Z) ((0 : Int32)) ((0 : Int32)) hk I h) hk mv_X12_numberIn lk_X12_163 rfl (by decide) (fun _ => rfl) (Nat.le_of_ble_eq_true rfl) rfl rfl dX12_envelope_38 rfl (fun r5 => ?_)
        refine w_iconst (v := (-1)) C dX12_envelope_41 (by decide) (q := 42) rfl ?_
        refine w_icmp_ne (tgt := 52) (q := 45) C dX12_envelope_42 (by decide) rfl (fun _ => ?_) (fun _ => ?_)
        · exact WF.less (L' := [some (rf (zG Z) k), some (.int ((I k 22) - 1))]) (m_X12_envelope_j45_ok C hR k ((I k 22) - 1) hk I hK) ⟨rfl, rfl, trivial⟩
        · exact WF.less (L' := [some (rf (zG Z) k), some (.int ((I k 22) - 1))]) (m_X12_envelope_j52_ok C hR k ((I k 22) - 1) hk I hK) ⟨rfl, rfl, trivial⟩
      · exact WF.less (L' := [some (rf (zG Z) k), some (.int ((I k 22) - 1))]) (m_X12_envelope_j45_ok C hR k ((I k 22) - 1) hk I hK) ⟨rfl, rfl, trivial⟩
    · exact WF.less (L' := [some (rf (zG Z) k), some (.int ((I k 22) - 1))]) (m_X12_envelope_j45_ok C hR k ((I k 22) - 1) hk I hK) ⟨rfl, rfl, trivial⟩
theorem c_X12_envelope (l : Launch) (G : Gx) {k : Nat} (hk : isO k 12) (I : Mem) {x : Mem} (h : m_X12_envelope k I = some x) : Ct l G yX12_envelope cX12_envelope 2 none 2 48 [rf G k] I (none) x := Ct.of (by decide +kernel) rfl (Nat.le_of_ble_eq_true rfl) ret_v (fun Z hG hl C hR hret => by
  subst hG
  exact m_X12_envelope_ok (K := fun y => y = x) C hR k hk I (fun y hy => by subst hy; exact hret) x h rfl)
def m_X12_numbers_j61 (k : Nat) (x1 : Int32) (I : Mem) : Option (Mem) :=
  Option.bind (m_X12_numberIn k x1 ((1 : Int32)) I) fun r2 => Option.bind (m_X12_numberIn k ((0 : Int32)) ((0 : Int32)) I) fun r3 => if r2 = r3 then (some I) else (gd (inb x1 20) (Option.bind (m_X12_fault k ((9 : Int32)) (I (k + 13) x1.toNatClampNeg) I) fun I4 => some I4))
set_option maxRecDepth 100000 in
set_option maxHeartbeats 4000000 in
theorem m_X12_numbers_j61_ok {Z : Zx} {K : Mem → Prop} (C : Cx Z cX12_numbers 2 RX12) (hR : RM Z 2 48) (k : Nat) (x1 : Int32) (hk : isO k 12) (I : Mem) (hK : ∀ y, K (y) → RetV Z cX12_numbers y) : WF Z K (m_X12_numbers_j61 k x1 I) I 61 [some (rf (zG Z) k), some (.int x1)] [] := by
  unfold m_X12_numbers_j61
  refine w_aload_n (v := k) C dX12_numbers_61 rfl (q := 62) rfl ?_
  refine w_iload_n (v := x1) C dX12_numbers_62 rfl (q := 63) rfl ?_
  refine w_iconst (v := (1)) C dX12_numbers_63 (by decide) (q := 64) rfl ?_
  refine w_callV (val := fun r2 => some (.int r2)) (mem := fun r2 => I) (st1 := fun r2 => [.int r2]) (As := [.int x1, .int 1]) (st := []) (q := 67) C hR (fun x h => c_X12_numberIn (zl Z) (zG Z) x1 ((1 : Int32)) hk I h) hk mv_X12_numberIn lk_X12_163 rfl (by decide) (fun _ => rfl) (Nat.le_of_ble_eq_true rfl) rfl rfl dX12_numbers_64 rfl (fun r2 => ?_)
  refine w_aload_n (v := k) C dX12_numbers_67 rfl (q := 68) rfl ?_
  refine w_iconst (v := (0)) C dX12_numbers_68 (by decide) (q := 69) rfl ?_
  refine w_iconst (v := (0)) C dX12_numbers_69 (by decide) (q := 70) rfl ?_
  refine w_callV (val := fun r3 => some (.int r3)) (mem := fun r3 => I) (st1 := fun r3 => [.int r3, .int r2]) (As := [.int 0, .int 0]) (st := [.int r2]) (q := 73) C hR (fun x h => c_X12_numberIn (zl Z) (zG Z) ((0 : Int32)) ((0 : Int32)) hk I h) hk mv_X12_numberIn lk_X12_163 rfl (by decide) (fun _ => rfl) (Nat.le_of_ble_eq_true rfl) rfl rfl dX12_numbers_70 rfl (fun r3 => ?_)
  refine w_icmp_eq (tgt := 88) (q := 76) C dX12_numbers_73 (by decide) rfl (fun _ => ?_) (fun _ => ?_)
  · exact w_vret C (hK _) dX12_numbers_88
  · refine w_aload_n (v := k) C dX12_numbers_76 rfl (q := 77) rfl ?_
    refine w_bipush (v := (9)) C dX12_numbers_77 (by decide) (q := 79) rfl ?_
    refine w_aload_n (v := k) C dX12_numbers_79 rfl (q := 80) rfl ?_
    refine g_X12_17 C hk lk_X12_48 dX12_numbers_80 (q := 83) rfl ?_
    refine w_iload_n (v := x1) C dX12_numbers_83 rfl (q := 84) rfl ?_
    refine w_iald C (st_X12_17 hk).2 dX12_numbers_84 (q := 85) rfl (fun _ => ?_)
    refine w_callV (val := fun I4 => none) (mem := fun I4 => I4) (st1 := fun I4 => []) (As := [.int 9, .int (I (k + 13) x1.toNatClampNeg)]) (st := []) (q := 88) C hR (fun x h => c_X12_fault (zl Z) (zG Z) ((9 : Int32)) (I (k + 13) x1.toNatClampNeg) hk I h) hk mv_X12_fault lk_X12_152 rfl (by decide) (fun _ => rfl) (Nat.le_of_ble_eq_true rfl) rfl rfl dX12_numbers_85 rfl (fun I4 => ?_)
    exact w_vret C (hK _) dX12_numbers_88
def m_X12_numbers_j36 (k : Nat) (x1 : Int32) (I : Mem) : Option (Mem) :=
  Option.bind (m_X12_numberIn k x1 ((0 : Int32)) I) fun r1 => if r1 = I k 22 then (m_X12_numbers_j61 k x1 I) else (gd (inb x1 20) (Option.bind (m_X12_fault k ((8 : Int32)) (I (k + 13) x1.toNatClampNeg) I) fun I5 => m_X12_numbers_j61 k x1 I5))
set_option maxRecDepth 100000 in
set_option maxHeartbeats 4000000 in
theorem m_X12_numbers_j36_ok {Z : Zx} {K : Mem → Prop} (C : Cx Z cX12_numbers 2 RX12) (hR : RM Z 2 48) (k : Nat) (x1 : Int32) (hk : isO k 12) (I : Mem) (hK : ∀ y, K (y) → RetV Z cX12_numbers y) : WF Z K (m_X12_numbers_j36 k x1 I) I 36 [some (rf (zG Z) k), some (.int x1)] [] := by
  unfold m_X12_numbers_j36
  refine w_aload_n (v := k) C dX12_numbers_36 rfl (q := 37) rfl ?_
  refine w_iload_n (v := x1) C dX12_numbers_37 rfl (q := 38) rfl ?_
  refine w_iconst (v := (0)) C dX12_numbers_38 (by decide) (q := 39) rfl ?_
  refine w_callV (val := fun r1 => some (.int r1)) (mem := fun r1 => I) (st1 := fun r1 => [.int r1]) (As := [.int x1, .int 0]) (st := []) (q := 42) C hR (fun x h => c_X12_numberIn (zl Z) (zG Z) x1 ((0 : Int32)) hk I h) hk mv_X12_numberIn lk_X12_163 rfl (by decide) (fun _ => rfl) (Nat.le_of_ble_eq_true rfl) rfl rfl dX12_numbers_39 rfl (fun r1 => ?_)
  refine w_aload_n (v := k) C dX12_numbers_42 rfl (q := 43) rfl ?_
  refine g_X12_22 C hk lk_X12_149 dX12_numbers_43 (q := 46) rfl ?_
  refine w_icmp_eq (tgt := 61) (q := 49) C dX12_numbers_46 (by decide) rfl (fun _ => ?_) (fun _ => ?_)
  · exact WF.less (L' := [some (rf (zG Z) k), some (.int x1)]) (m_X12_numbers_j61_ok C hR k x1 hk I hK) ⟨rfl, rfl, trivial⟩
  · refine w_aload_n (v := k) C dX12_numbers_49 rfl (q := 50) rfl ?_
    refine w_bipush (v := (8)) C dX12_numbers_50 (by decide) (q := 52) rfl ?_
    refine w_aload_n (v := k) C dX12_numbers_52 rfl (q := 53) rfl ?_
    refine g_X12_17 C hk lk_X12_48 dX12_numbers_53 (q := 56) rfl ?_
    refine w_iload_n (v := x1) C dX12_numbers_56 rfl (q := 57) rfl ?_
    refine w_iald C (st_X12_17 hk).2 dX12_numbers_57 (q := 58) rfl (fun _ => ?_)
    refine w_callV (val := fun I5 => none) (mem := fun I5 => I5) (st1 := fun I5 => []) (As := [.int 8, .int (I (k + 13) x1.toNatClampNeg)]) (st := []) (q := 61) C hR (fun x h => c_X12_fault (zl Z) (zG Z) ((8 : Int32)) (I (k + 13) x1.toNatClampNeg) hk I h) hk mv_X12_fault lk_X12_152 rfl (by decide) (fun _ => rfl) (Nat.le_of_ble_eq_true rfl) rfl rfl dX12_numbers_58 rfl (fun I5 => ?_)
    exact WF.less (L' := [some (rf (zG Z) k), some (.int x1)]) (m_X12_numbers_j61_ok C hR k x1 hk I5 hK) ⟨rfl, rfl, trivial⟩
def m_X12_numbers (k : Nat) (I : Mem) : Option (Mem) :=
  if I k 24 = 0 then (m_X12_numbers_j36 k ((I k 22) - 1) I) else (Option.bind (m_X12_numberIn k ((0 : Int32)) ((0 : Int32)) I) fun r6 => if r6 = (I k 25) + 1 then (m_X12_numbers_j36 k ((I k 22) - 1) I) else (Option.bind (m_X12_fault k ((10 : Int32)) ((0 : Int32)) I) fun I7 => m_X12_numbers_j36 k ((I k 22) - 1) I7))
set_option maxRecDepth 100000 in
set_option maxHeartbeats 4000000 in
theorem m_X12_numbers_ok {Z : Zx} {K : Mem → Prop} (C : Cx Z cX12_numbers 2 RX12) (hR : RM Z 2 48) (k : Nat) (hk : isO k 12) (I : Mem) (hK : ∀ y, K (y) → RetV Z cX12_numbers y) : WF Z K (m_X12_numbers k I) I 0 [some (rf (zG Z) k), none] [] := by
  unfold m_X12_numbers
  refine w_aload_n (v := k) C dX12_numbers_0 rfl (q := 1) rfl ?_
  refine g_X12_22 C hk lk_X12_149 dX12_numbers_1 (q := 4) rfl ?_
  refine w_iconst (v := (1)) C dX12_numbers_4 (by decide) (q := 5) rfl ?_
  refine w_isub C dX12_numbers_5 (q := 6) rfl ?_
  refine w_istore_n C dX12_numbers_6 (Nat.le_of_ble_eq_true rfl) (L' := [some (rf (zG Z) k), some (.int ((I k 22) - 1))]) rfl (q := 7) rfl ?_
  refine w_aload_n (v := k) C dX12_numbers_7 rfl (q := 8) rfl ?_
  refine g_X12_24 C hk lk_X12_167 dX12_numbers_8 (q := 11) rfl ?_
  refine w_if_eq (tgt := 36) (q := 14) C dX12_numbers_11 (by decide) rfl (fun _ => ?_) (fun _ => ?_)
  · exact WF.less (L' := [some (rf (zG Z) k), some (.int ((I k 22) - 1))]) (m_X12_numbers_j36_ok C hR k ((I k 22) - 1) hk I hK) ⟨rfl, rfl, trivial⟩
  · refine w_aload_n (v := k) C dX12_numbers_14 rfl (q := 15) rfl ?_
    refine w_iconst (v := (0)) C dX12_numbers_15 (by decide) (q := 16) rfl ?_
    refine w_iconst (v := (0)) C dX12_numbers_16 (by decide) (q := 17) rfl ?_
    refine w_callV (val := fun r6 => some (.int r6)) (mem := fun r6 => I) (st1 := fun r6 => [.int r6]) (As := [.int 0, .int 0]) (st := []) (q := 20) C hR (fun x h => c_X12_numberIn (zl Z) (zG Z) ((0 : Int32)) ((0 : Int32)) hk I h) hk mv_X12_numberIn lk_X12_163 rfl (by decide) (fun _ => rfl) (Nat.le_of_ble_eq_true rfl) rfl rfl dX12_numbers_17 rfl (fun r6 => ?_)
    refine w_aload_n (v := k) C dX12_numbers_20 rfl (q := 21) rfl ?_
    refine g_X12_25 C hk lk_X12_170 dX12_numbers_21 (q := 24) rfl ?_
    refine w_iconst (v := (1)) C dX12_numbers_24 (by decide) (q := 25) rfl ?_
    refine w_iadd C dX12_numbers_25 (q := 26) rfl ?_
    refine w_icmp_eq (tgt := 36) (q := 29) C dX12_numbers_26 (by decide) rfl (fun _ => ?_) (fun _ => ?_)
    · exact WF.less (L' := [some (rf (zG Z) k), some (.int ((I k 22) - 1))]) (m_X12_numbers_j36_ok C hR k ((I k 22) - 1) hk I hK) ⟨rfl, rfl, trivial⟩
    · refine w_aload_n (v := k) C dX12_numbers_29 rfl (q := 30) rfl ?_
      refine w_bipush (v := (10)) C dX12_numbers_30 (by decide) (q := 32) rfl ?_
      refine w_iconst (v := (0)) C dX12_numbers_32 (by decide) (q := 33) rfl ?_
      refine w_callV (val := fun I7 => none) (mem := fun I7 => I7) (st1 := fun I7 => []) (As := [.int 10, .int 0]) (st := []) (q := 36) C hR (fun x h => c_X12_fault (zl Z) (zG Z) ((10 : Int32)) ((0 : Int32)) hk I h) hk mv_X12_fault lk_X12_152 rfl (by decide) (fun _ => rfl) (Nat.le_of_ble_eq_true rfl) rfl rfl dX12_numbers_33 rfl (fun I7 => ?_)
      exact WF.less (L' := [some (rf (zG Z) k), some (.int ((I k 22) - 1))]) (m_X12_numbers_j36_ok C hR k ((I k 22) - 1) hk I7 hK) ⟨rfl, rfl, trivial⟩
theorem c_X12_numbers (l : Launch) (G : Gx) {k : Nat} (hk : isO k 12) (I : Mem) {x : Mem} (h : m_X12_numbers k I = some x) : Ct l G yX12_numbers cX12_numbers 2 none 2 48 [rf G k] I (none) x := Ct.of (by decide +kernel) rfl (Nat.le_of_ble_eq_true rfl) ret_v (fun Z hG hl C hR hret => by
  subst hG
  exact m_X12_numbers_ok (K := fun y => y = x) C hR k hk I (fun y hy => by subst hy; exact hret) x h rfl)
def m_X12_isSkipped (k : Nat) (p1 : Int32) (I : Mem) : Option (Int32) :=
  gd (inb p1 12) (if I (k + 8) p1.toNatClampNeg = 0 then (some 1) else (some 0))
set_option maxRecDepth 100000 in
set_option maxHeartbeats 4000000 in
theorem m_X12_isSkipped_ok {Z : Zx} {K : Int32 → Prop} (C : Cx Z cX12_isSkipped 2 RX12) (hR : RM Z 0 0) (k : Nat) (p1 : Int32) (hk : isO k 12) (I : Mem) (hK : ∀ y, K (y) → RetI Z cX12_isSkipped .boolean y I) : WF Z K (m_X12_isSkipped k p1 I) I 0 [some (rf (zG Z) k), some (.int p1)] [] := by
  unfold m_X12_isSkipped
  refine w_aload_n (v := k) C dX12_isSkipped_0 rfl (q := 1) rfl ?_
  refine g_X12_8 C hk lk_X12_33 dX12_isSkipped_1 (q := 4) rfl ?_
  refine w_iload_n (v := p1) C dX12_isSkipped_4 rfl (q := 5) rfl ?_
  refine w_iald C (st_X12_8 hk).2 dX12_isSkipped_5 (q := 6) rfl (fun _ => ?_)
  refine w_if_ne (tgt := 13) (q := 9) C dX12_isSkipped_6 (by decide) rfl (fun _ => ?_) (fun _ => ?_)
  · refine w_iconst (v := (1)) C dX12_isSkipped_9 (by decide) (q := 10) rfl ?_
    refine w_goto (tgt := 14) C dX12_isSkipped_10 (by decide) ?_
    exact w_iret C (hK _) (by decide) dX12_isSkipped_14
  · refine w_iconst (v := (0)) C dX12_isSkipped_13 (by decide) (q := 14) rfl ?_
    exact w_iret C (hK _) (by decide) dX12_isSkipped_14
theorem c_X12_isSkipped (l : Launch) (G : Gx) {k : Nat} (p1 : Int32) (hk : isO k 12) (I : Mem) {x : Int32} (h : m_X12_isSkipped k p1 I = some x) : Ct l G yX12_isSkipped cX12_isSkipped 2 (some (.boolean)) 0 0 [rf G k, .int p1] I (some (.int x)) I := Ct.of (by decide +kernel) rfl (Nat.le_of_ble_eq_true rfl) ret_i (fun Z hG hl C hR hret => by
  subst hG
  exact m_X12_isSkipped_ok (K := fun y => y = x) C hR k p1 hk I (fun y hy => by subst hy; exact hret) x h rfl)
def m_X12_enters_j80 (k : Nat) (p2 : Int32) (p3 : Int32) (p4 : Int32) (x6 : Int32) (y0 : Int32) (I : Mem) : Option ((Int32 × Int32 × Mem) ⊕ ((Int32 × Mem))) :=
  some (.inl (y0, x6 + 1, I))
set_option maxRecDepth 100000 in
set_option maxHeartbeats 4000000 in
theorem m_X12_enters_j80_ok {Z : Zx} {K : ((Int32 × Int32 × Mem) ⊕ ((Int32 × Mem))) → Prop} (C : Cx Z cX12_enters 7 RX12) (hR : RM Z 0 0) (k : Nat) (p2 : Int32) (p3 : Int32) (p4 : Int32) (x6 : Int32) (y0 : Int32) (hk : isO k 12) (I : Mem) (hB : ∀ a, K (.inl a) → WM Z a.2.2 6 [some (rf (zG Z) k), none, some (.int p2), some (.int p3), some (.int p4), some (.int a.1), some (.int a.2.1)] []) (hX0 : ∀ b, K (.inr (b)) → WM Z b.2 88 [none, none, none, none, none, some (.int b.1), none] []) : WF Z K (m_X12_enters_j80 k p2 p3 p4 x6 y0 I) I 80 [some (rf (zG Z) k), none, some (.int p2), some (.int p3), some (.int p4), none, some (.int x6)] [.int y0] := by
  unfold m_X12_enters_j80
  refine w_istore C dX12_enters_80 (Nat.le_of_ble_eq_true rfl) (L' := [some (rf (zG Z) k), none, some (.int p2), some (.int p3), some (.int p4), some (.int y0), some (.int x6)]) rfl (q := 82) rfl ?_
  refine w_iinc (v := x6 + 1) C dX12_enters_82 rfl rfl (L' := [some (rf (zG Z) k), none, some (.int p2), some (.int p3), some (.int p4), some (.int y0), some (.int (x6 + 1))]) rfl (q := 85) rfl ?_
  refine w_goto (tgt := 6) C dX12_enters_85 (by decide) ?_
  exact w_jmp (fun h => WM.less (L' := [some (rf (zG Z) k), none, some (.int p2), some (.int p3), some (.int p4), some (.int y0), some (.int (x6 + 1))]) (hB _ h) ⟨rfl, rfl, rfl, rfl, rfl, rfl, trivial⟩)
def m_X12_enters_j79 (k : Nat) (p2 : Int32) (p3 : Int32) (p4 : Int32) (x6 : Int32) (I : Mem) : Option ((Int32 × Int32 × Mem) ⊕ ((Int32 × Mem))) :=
  m_X12_enters_j80 k p2 p3 p4 x6 ((0 : Int32)) I
set_option maxRecDepth 100000 in
set_option maxHeartbeats 4000000 in
theorem m_X12_enters_j79_ok {Z : Zx} {K : ((Int32 × Int32 × Mem) ⊕ ((Int32 × Mem))) → Prop} (C : Cx Z cX12_enters 7 RX12) (hR : RM Z 0 0) (k : Nat) (p2 : Int32) (p3 : Int32) (p4 : Int32) (x6 : Int32) (hk : isO k 12) (I : Mem) (hB : ∀ a, K (.inl a) → WM Z a.2.2 6 [some (rf (zG Z) k), none, some (.int p2), some (.int p3), some (.int p4), some (.int a.1), some (.int a.2.1)] []) (hX0 : ∀ b, K (.inr (b)) → WM Z b.2 88 [none, none, none, none, none, some (.int b.1), none] []) : WF Z K (m_X12_enters_j79 k p2 p3 p4 x6 I) I 79 [some (rf (zG Z) k), none, some (.int p2), some (.int p3), some (.int p4), none, some (.int x6)] [] := by
  unfold m_X12_enters_j79
  refine w_iconst (v := (0)) C dX12_enters_79 (by decide) (q := 80) rfl ?_
  exact WF.less (L' := [some (rf (zG Z) k), none, some (.int p2), some (.int p3), some (.int p4), none, some (.int x6)]) (m_X12_enters_j80_ok C hR k p2 p3 p4 x6 ((0 : Int32)) hk I hB hX0) ⟨rfl, rfl, rfl, rfl, rfl, trivial⟩
def m_X12_enters_j60 (k : Nat) (p2 : Int32) (p3 : Int32) (p4 : Int32) (x5 : Int32) (x6 : Int32) (I : Mem) : Option ((Int32 × Int32 × Mem) ⊕ ((Int32 × Mem))) :=
  if x5 = 0 then (m_X12_enters_j79 k p2 p3 p4 x6 I) else (gd (inb x6 10) (if I (k + 2) x6.toNatClampNeg = 0 then (m_X12_enters_j80 k p2 p3 p4 x6 ((1 : Int32)) I) else (m_X12_enters_j79 k p2 p3 p4 x6 I)))
set_option maxRecDepth 100000 in
set_option maxHeartbeats 4000000 in
theorem m_X12_enters_j60_ok {Z : Zx} {K : ((Int32 × Int32 × Mem) ⊕ ((Int32 × Mem))) → Prop} (C : Cx Z cX12_enters 7 RX12) (hR : RM Z 0 0) (k : Nat) (p2 : Int32) (p3 : Int32) (p4 : Int32) (x5 : Int32) (x6 : Int32) (hk : isO k 12) (I : Mem) (hB : ∀ a, K (.inl a) → WM Z a.2.2 6 [some (rf (zG Z) k), none, some (.int p2), some (.int p3), some (.int p4), some (.int a.1), some (.int a.2.1)] []) (hX0 : ∀ b, K (.inr (b)) → WM Z b.2 88 [none, none, none, none, none, some (.int b.1), none] []) : WF Z K (m_X12_enters_j60 k p2 p3 p4 x5 x6 I) I 60 [some (rf (zG Z) k), none, some (.int p2), some (.int p3), some (.int p4), some (.int x5), some (.int x6)] [] := by
  unfold m_X12_enters_j60
  refine w_iload (v := x5) C dX12_enters_60 rfl (q := 62) rfl ?_
  refine w_if_eq (tgt := 79) (q := 65) C dX12_enters_62 (by decide) rfl (fun _ => ?_) (fun _ => ?_)
  · exact WF.less (L' := [some (rf (zG Z) k), none, some (.int p2), some (.int p3), some (.int p4), none, some (.int x6)]) (m_X12_enters_j79_ok C hR k p2 p3 p4 x6 hk I hB hX0) ⟨rfl, rfl, rfl, rfl, rfl, trivial⟩
  · refine w_aload_n (v := k) C dX12_enters_65 rfl (q := 66) rfl ?_
    refine g_X12_1 C hk lk_X12_13 dX12_enters_66 (q := 69) rfl ?_
    refine w_iload (v := x6) C dX12_enters_69 rfl (q := 71) rfl ?_
    refine w_iald C (st_X12_1 hk).2 dX12_enters_71 (q := 72) rfl (fun _ => ?_)
    refine w_if_ne (tgt := 79) (q := 75) C dX12_enters_72 (by decide) rfl (fun _ => ?_) (fun _ => ?_)
    · refine w_iconst (v := (1)) C dX12_enters_75 (by decide) (q := 76) rfl ?_
      refine w_goto (tgt := 80) C dX12_enters_76 (by decide) ?_
      exact WF.less (L' := [some (rf (zG Z) k), none, some (.int p2), some (.int p3), some (.int p4), none, some (.int x6)]) (m_X12_enters_j80_ok C hR k p2 p3 p4 x6 ((1 : Int32)) hk I hB hX0) ⟨rfl, rfl, rfl, rfl, rfl, trivial⟩
    · exact WF.less (L' := [some (rf (zG Z) k), none, some (.int p2), some (.int p3), some (.int p4), none, some (.int x6)]) (m_X12_enters_j79_ok C hR k p2 p3 p4 x6 hk I hB hX0) ⟨rfl, rfl, rfl, rfl, rfl, trivial⟩
def m_X12_enters_b6 (k : Nat) (p2 : Int32) (p3 : Int32) (p4 : Int32) (x5 : Int32) (x6 : Int32) (I : Mem) : Option ((Int32 × Int32 × Mem) ⊕ ((Int32 × Mem))) :=
  if p2 < x6 then (some (.inr ((x5, I)))) else (if x5 = 0 then (m_X12_enters_j60 k p2 p3 p4 x5 x6 I) else (gd (inb x6 10) (if I (k + 1) x6.toNatClampNeg = p4 then (gd (inb (I k 35) 64) (bnd (ms I (k + 25) (I k 35).toNatClampNeg (((((100 : Int32)) * x6) + (((10 : Int32)) * p3)) + 1)) fun I1 => bnd (ms I1 k 35 ((I1 k 35) + 1)) fun I2 => m_X12_enters_j60 k p2 p3 p4 x5 x6 I2)) else (m_X12_enters_j60 k p2 p3 p4 x5 x6 I))))
set_option maxRecDepth 100000 in
set_option maxHeartbeats 4000000 in
theorem m_X12_enters_b6_ok {Z : Zx} {K : ((Int32 × Int32 × Mem) ⊕ ((Int32 × Mem))) → Prop} (C : Cx Z cX12_enters 7 RX12) (hR : RM Z 0 0) (k : Nat) (p2 : Int32) (p3 : Int32) (p4 : Int32) (x5 : Int32) (x6 : Int32) (hk : isO k 12) (I : Mem) (hB : ∀ a, K (.inl a) → WM Z a.2.2 6 [some (rf (zG Z) k), none, some (.int p2), some (.int p3), some (.int p4), some (.int a.1), some (.int a.2.1)] []) (hX0 : ∀ b, K (.inr (b)) → WM Z b.2 88 [none, none, none, none, none, some (.int b.1), none] []) : WF Z K (m_X12_enters_b6 k p2 p3 p4 x5 x6 I) I 6 [some (rf (zG Z) k), none, some (.int p2), some (.int p3), some (.int p4), some (.int x5), some (.int x6)] [] := by
  unfold m_X12_enters_b6
  refine w_iload (v := x6) C dX12_enters_6 rfl (q := 8) rfl ?_
  refine w_iload_n (v := p2) C dX12_enters_8 rfl (q := 9) rfl ?_
  refine w_icmp_gt (tgt := 88) (q := 12) C dX12_enters_9 (by decide) rfl (fun _ => ?_) (fun _ => ?_)
  · exact w_jmp (fun h => WM.less (L' := [none, none, none, none, none, some (.int x5), none]) (hX0 _ h) ⟨rfl, trivial⟩)
  · refine w_iload (v := x5) C dX12_enters_12 rfl (q := 14) rfl ?_
    refine w_if_eq (tgt := 60) (q := 17) C dX12_enters_14 (by decide) rfl (fun _ => ?_) (fun _ => ?_)
    · exact WF.less (L' := [some (rf (zG Z) k), none, some (.int p2), some (.int p3), some (.int p4), some (.int x5), some (.int x6)]) (m_X12_enters_j60_ok C hR k p2 p3 p4 x5 x6 hk I hB hX0) ⟨rfl, rfl, rfl, rfl, rfl, rfl, trivial⟩
    · refine w_aload_n (v := k) C dX12_enters_17 rfl (q := 18) rfl ?_
      refine g_X12_0 C hk lk_X12_7 dX12_enters_18 (q := 21) rfl ?_
      refine w_iload (v := x6) C dX12_enters_21 rfl (q := 23) rfl ?_
      refine w_cald C (st_X12_0 hk).2 dX12_enters_23 (q := 24) rfl (fun _ => ?_)
      refine w_iload (v := p4) C dX12_enters_24 rfl (q := 26) rfl ?_
      refine w_icmp_ne (tgt := 60) (q := 29) C dX12_enters_26 (by decide) rfl (fun _ => ?_) (fun _ => ?_)
      · refine w_aload_n (v := k) C dX12_enters_29 rfl (q := 30) rfl ?_
        refine g_X12_34 C hk lk_X12_84 dX12_enters_30 (q := 33) rfl ?_
        refine w_aload_n (v := k) C dX12_enters_33 rfl (q := 34) rfl ?_
        refine g_X12_35 C hk lk_X12_173 dX12_enters_34 (q := 37) rfl ?_
        refine w_bipush (v := (100)) C dX12_enters_37 (by decide) (q := 39) rfl ?_
        refine w_iload (v := x6) C dX12_enters_39 rfl (q := 41) rfl ?_
        refine w_imul C dX12_enters_41 (q := 42) rfl ?_
        refine w_bipush (v := (10)) C dX12_enters_42 (by decide) (q := 44) rfl ?_
        refine w_iload_n (v := p3) C dX12_enters_44 rfl (q := 45) rfl ?_
        refine w_imul C dX12_enters_45 (q := 46) rfl ?_
        refine w_iadd C dX12_enters_46 (q := 47) rfl ?_
        refine w_iconst (v := (1)) C dX12_enters_47 (by decide) (q := 48) rfl ?_
        refine w_iadd C dX12_enters_48 (q := 49) rfl ?_
        refine w_iast C (st_X12_34 hk).2 dX12_enters_49 (q := 50) rfl (fun _ I1 => ?_)
        refine w_aload_n (v := k) C dX12_enters_50 rfl (q := 51) rfl ?_
        refine w_dup C dX12_enters_51 rfl (q := 52) rfl ?_
        refine g_X12_35 C hk lk_X12_173 dX12_enters_52 (q := 55) rfl ?_
        refine w_iconst (v := (1)) C dX12_enters_55 (by decide) (q := 56) rfl ?_
        refine w_iadd C dX12_enters_56 (q := 57) rfl ?_
        refine p_X12_35 C hk  lk_X12_173 dX12_enters_57 (q := 60) rfl (fun I2 => ?_)
        exact WF.less (L' := [some (rf (zG Z) k), none, some (.int p2), some (.int p3), some (.int p4), some (.int x5), some (.int x6)]) (m_X12_enters_j60_ok C hR k p2 p3 p4 x5 x6 hk I2 hB hX0) ⟨rfl, rfl, rfl, rfl, rfl, rfl, trivial⟩
      · exact WF.less (L' := [some (rf (zG Z) k), none, some (.int p2), some (.int p3), some (.int p4), some (.int x5), some (.int x6)]) (m_X12_enters_j60_ok C hR k p2 p3 p4 x5 x6 hk I hB hX0) ⟨rfl, rfl, rfl, rfl, rfl, rfl, trivial⟩
def m_X12_enters (k : Nat) (p1 : Int32) (p2 : Int32) (p3 : Int32) (p4 : Int32) (I : Mem) : Option (Int32 × Mem) :=
  Option.bind (loopF (fun a => m_X12_enters_b6 k p2 p3 p4 a.1 a.2.1 a.2.2) FU ((1 : Int32), p1, I)) (fun b3 => gd (okz b3.1) (some ((b3.1, b3.2))))
set_option maxRecDepth 100000 in
set_option maxHeartbeats 4000000 in
theorem m_X12_enters_ok {Z : Zx} {K : (Int32 × Mem) → Prop} (C : Cx Z cX12_enters 7 RX12) (hR : RM Z 0 0) (k : Nat) (p1 : Int32) (p2 : Int32) (p3 : Int32) (p4 : Int32) (hk : isO k 12) (I : Mem) (hK : ∀ y, K (y) → RetI Z cX12_enters .boolean y.1 y.2) : WF Z K (m_X12_enters k p1 p2 p3 p4 I) I 0 [some (rf (zG Z) k), some (.int p1), some (.int p2), some (.int p3), some (.int p4), none, none] [] := by
  unfold m_X12_enters
  refine w_iconst (v := (1)) C dX12_enters_0 (by decide) (q := 1) rfl ?_
  refine w_istore C dX12_enters_1 (Nat.le_of_ble_eq_true rfl) (L' := [some (rf (zG Z) k), some (.int p1), some (.int p2), some (.int p3), some (.int p4), some (.int 1), none]) rfl (q := 3) rfl ?_
  refine w_iload_n (v := p1) C dX12_enters_3 rfl (q := 4) rfl ?_
  refine w_istore C dX12_enters_4 (Nat.le_of_ble_eq_true rfl) (L' := [some (rf (zG Z) k), some (.int p1), some (.int p2), some (.int p3), some (.int p4), some (.int 1), some (.int p1)]) rfl (q := 6) rfl ?_
  refine WF.less (L' := [some (rf (zG Z) k), none, some (.int p2), some (.int p3), some (.int p4), some (.int 1), some (.int p1)]) (w_loopF (pc := 6) (a := ((1 : Int32), p1, I)) (mem := fun a => a.2.2) (lo := fun a => [some (rf (zG Z) k), none, some (.int p2), some (.int p3), some (.int p4), some (.int a.1), some (.int a.2.1)]) (E := fun b3 => WM Z b3.2 88 [none, none, none, none, none, some (.int b3.1), none] []) (fun a => m_X12_enters_b6_ok C hR k p2 p3 p4 a.1 a.2.1 hk a.2.2 (fun _ h => h) (fun _ h => h)) ?_) ⟨rfl, rfl, rfl, rfl, rfl, rfl, trivial⟩
  intro b3
  refine w_hx ?_
  refine w_iload (v := b3.1) C dX12_enters_88 rfl (q := 90) rfl ?_
  refine w_gd (fun h4 => ?_)
  exact w_iret C (hK _) (okz_n h4).1 dX12_enters_90
theorem c_X12_enters (l : Launch) (G : Gx) {k : Nat} (p1 : Int32) (p2 : Int32) (p3 : Int32) (p4 : Int32) (hk : isO k 12) (I : Mem) {x : Int32 × Mem} (h : m_X12_enters k p1 p2 p3 p4 I = some x) : Ct l G yX12_enters cX12_enters 7 (some (.boolean)) 0 0 [rf G k, .int p1, .int p2, .int p3, .int p4] I (some (.int x.1)) x.2 := Ct.of (by decide +kernel) rfl (Nat.le_of_ble_eq_true rfl) ret_i (fun Z hG hl C hR hret => by
  subst hG
  exact m_X12_enters_ok (K := fun y => y = x) C hR k p1 p2 p3 p4 hk I (fun y hy => by subst hy; exact hret) x h rfl)
def m_X12_leads_j275 (k : Nat) (p2 : Int32) (x5 : Int32) (y0 : Nat) (y1 : Int32) (y2 : Int32) (y3 : Int32) (I : Mem) : Option ((Int32 × Int32 × Mem) ⊕ ((Mem))) :=
  Option.bind (m_X12_enters y0 y1 y2 y3 p2 I) fun r2 => Option.bind (m_X12_isSkipped k x5 r2.2) fun r3 => some (.inl (r3, x5 + 1, r2.2))
set_option maxRecDepth 100000 in
set_option maxHeartbeats 4000000 in
theorem m_X12_leads_j275_ok {Z : Zx} {K : ((Int32 × Int32 × Mem) ⊕ ((Mem))) → Prop} (C : Cx Z cX12_leads 9 RX12) (hR : RM Z 1 26) (k : Nat) (p2 : Int32) (x5 : Int32) (y0 : Nat) (y1 : Int32) (y2 : Int32) (y3 : Int32) (hk : isO k 12) (hy0 : isO y0 12) (I : Mem) (hB : ∀ a, K (.inl a) → WM Z a.2.2 231 [some (rf (zG Z) k), none, some (.int p2), none, some (.int a.1), some (.int a.2.1), none, none, none] []) (hX0 : ∀ b, K (.inr (b)) → WM Z b 294 [none, none, none, none, none, none, none, none, none] []) : WF Z K (m_X12_leads_j275 k p2 x5 y0 y1 y2 y3 I) I 275 [some (rf (zG Z) k), none, some (.int p2), none, none, some (.int x5), none, none, none] [.int y3, .int y2, .int y1, rf (zG Z) y0] := by
  unfold m_X12_leads_j275
  refine w_iload_n (v := p2) C dX12_leads_275 rfl (q := 276) rfl ?_
  refine w_callV (val := fun r2 => some (.int r2.1)) (mem := fun r2 => r2.2) (st1 := fun r2 => [.int r2.1]) (As := [.int y1, .int y2, .int y3, .int p2]) (st := []) (q := 279) C hR (fun x h => c_X12_enters (zl Z) (zG Z) y1 y2 y3 p2 hy0 I h) hy0 mv_X12_enters lk_X12_176 rfl (by decide) (fun _ => rfl) (Nat.le_of_ble_eq_true rfl) rfl rfl dX12_leads_276 rfl (fun r2 => ?_)
  refine w_pop C dX12_leads_279 rfl (q := 280) rfl ?_
  refine w_aload_n (v := k) C dX12_leads_280 rfl (q := 281) rfl ?_
  refine w_iload (v := x5) C dX12_leads_281 rfl (q := 283) rfl ?_
  refine w_callV (val := fun r3 => some (.int r3)) (mem := fun r3 => r2.2) (st1 := fun r3 => [.int r3]) (As := [.int x5]) (st := []) (q := 286) C hR (fun x h => c_X12_isSkipped (zl Z) (zG Z) x5 hk r2.2 h) hk mv_X12_isSkipped lk_X12_180 rfl (by decide) (fun _ => rfl) (Nat.le_of_ble_eq_true rfl) rfl rfl dX12_leads_283 rfl (fun r3 => ?_)
  refine w_istore C dX12_leads_286 (Nat.le_of_ble_eq_true rfl) (L' := [some (rf (zG Z) k), none, some (.int p2), none, some (.int r3), some (.int x5), none, none, none]) rfl (q := 288) rfl ?_
  refine w_iinc (v := x5 + 1) C dX12_leads_288 rfl rfl (L' := [some (rf (zG Z) k), none, some (.int p2), none, some (.int r3), some (.int (x5 + 1)), none, none, none]) rfl (q := 291) rfl ?_
  refine w_goto (tgt := 231) C dX12_leads_291 (by decide) ?_
  exact w_jmp (fun h => WM.less (L' := [some (rf (zG Z) k), none, some (.int p2), none, some (.int r3), some (.int (x5 + 1)), none, none, none]) (hB _ h) ⟨rfl, rfl, rfl, rfl, trivial⟩)
def m_X12_leads_b231 (k : Nat) (p2 : Int32) (x4 : Int32) (x5 : Int32) (I : Mem) : Option ((Int32 × Int32 × Mem) ⊕ ((Mem))) :=
  if I k 10 ≤ x5 then (some (.inr (I))) else (if x4 = 0 then (some (.inr (I))) else (gd (inb x5 12) (gd (inb x5 12) (gd (inb x5 12) (if I (k + 5) x5.toNatClampNeg = 0 then (m_X12_leads_j275 k p2 x5 k (I (k + 6) x5.toNatClampNeg) (I (k + 7) x5.toNatClampNeg) ((0 : Int32)) I) else (m_X12_leads_j275 k p2 x5 k (I (k + 6) x5.toNatClampNeg) (I (k + 7) x5.toNatClampNeg) ((1 : Int32)) I))))))
set_option maxRecDepth 100000 in
set_option maxHeartbeats 4000000 in
theorem m_X12_leads_b231_ok {Z : Zx} {K : ((Int32 × Int32 × Mem) ⊕ ((Mem))) → Prop} (C : Cx Z cX12_leads 9 RX12) (hR : RM Z 1 26) (k : Nat) (p2 : Int32) (x4 : Int32) (x5 : Int32) (hk : isO k 12) (I : Mem) (hB : ∀ a, K (.inl a) → WM Z a.2.2 231 [some (rf (zG Z) k), none, some (.int p2), none, some (.int a.1), some (.int a.2.1), none, none, none] []) (hX0 : ∀ b, K (.inr (b)) → WM Z b 294 [none, none, none, none, none, none, none, none, none] []) : WF Z K (m_X12_leads_b231 k p2 x4 x5 I) I 231 [some (rf (zG Z) k), none, some (.int p2), none, some (.int x4), some (.int x5), none, none, none] [] := by
  unfold m_X12_leads_b231
  refine w_iload (v := x5) C dX12_leads_231 rfl (q := 233) rfl ?_
  refine w_aload_n (v := k) C dX12_leads_233 rfl (q := 234) rfl ?_
  refine g_X12_10 C hk lk_X12_134 dX12_leads_234 (q := 237) rfl ?_
  refine w_icmp_ge (tgt := 294) (q := 240) C dX12_leads_237 (by decide) rfl (fun _ => ?_) (fun _ => ?_)
  · exact w_jmp (fun h => WM.less (L' := [none, none, none, none, none, none, none, none, none]) (hX0 _ h) trivial)
  · refine w_iload (v := x4) C dX12_leads_240 rfl (q := 242) rfl ?_
    refine w_if_eq (tgt := 294) (q := 245) C dX12_leads_242 (by decide) rfl (fun _ => ?_) (fun _ => ?_)
    · exact w_jmp (fun h => WM.less (L' := [none, none, none, none, none, none, none, none, none]) (hX0 _ h) trivial)
    · refine w_aload_n (v := k) C dX12_leads_245 rfl (q := 246) rfl ?_
      refine w_aload_n (v := k) C dX12_leads_246 rfl (q := 247) rfl ?_
      refine g_X12_6 C hk lk_X12_27 dX12_leads_247 (q := 250) rfl ?_
      refine w_iload (v := x5) C dX12_leads_250 rfl (q := 252) rfl ?_
      refine w_iald C (st_X12_6 hk).2 dX12_leads_252 (q := 253) rfl (fun _ => ?_)
      refine w_aload_n (v := k) C dX12_leads_253 rfl (q := 254) rfl ?_
      refine g_X12_7 C hk lk_X12_30 dX12_leads_254 (q := 257) rfl ?_
      refine w_iload (v := x5) C dX12_leads_257 rfl (q := 259) rfl ?_
      refine w_iald C (st_X12_7 hk).2 dX12_leads_259 (q := 260) rfl (fun _ => ?_)
      refine w_aload_n (v := k) C dX12_leads_260 rfl (q := 261) rfl ?_
      refine g_X12_5 C hk lk_X12_23 dX12_leads_261 (q := 264) rfl ?_
      refine w_iload (v := x5) C dX12_leads_264 rfl (q := 266) rfl ?_
      refine w_zald C (st_X12_5 hk).2 dX12_leads_266 (q := 267) rfl (fun _ => ?_)
      refine w_if_eq (tgt := 274) (q := 270) C dX12_leads_267 (by decide) rfl (fun _ => ?_) (fun _ => ?_)
      · refine w_iconst (v := (0)) C dX12_leads_274 (by decide) (q := 275) rfl ?_
        exact WF.less (L' := [some (rf (zG Z) k), none, some (.int p2), none, none, some (.int x5), none, none, none]) (m_X12_leads_j275_ok C hR k p2 x5 k (I (k + 6) x5.toNatClampNeg) (I (k + 7) x5.toNatClampNeg) ((0 : Int32)) hk hk I hB hX0) ⟨rfl, rfl, rfl, trivial⟩
      · refine w_iconst (v := (1)) C dX12_leads_270 (by decide) (q := 271) rfl ?_
        refine w_goto (tgt := 275) C dX12_leads_271 (by decide) ?_
        exact WF.less (L' := [some (rf (zG Z) k), none, some (.int p2), none, none, some (.int x5), none, none, none]) (m_X12_leads_j275_ok C hR k p2 x5 k (I (k + 6) x5.toNatClampNeg) (I (k + 7) x5.toNatClampNeg) ((1 : Int32)) hk hk I hB hX0) ⟨rfl, rfl, rfl, trivial⟩
def m_X12_leads_j225 (k : Nat) (p2 : Int32) (x3 : Int32) (I : Mem) : Option (Mem) :=
  Option.bind (loopF (fun a => m_X12_leads_b231 k p2 a.1 a.2.1 a.2.2) FU ((1 : Int32), x3, I)) (fun b4 => some b4)
set_option maxRecDepth 100000 in
set_option maxHeartbeats 4000000 in
theorem m_X12_leads_j225_ok {Z : Zx} {K : Mem → Prop} (C : Cx Z cX12_leads 9 RX12) (hR : RM Z 1 26) (k : Nat) (p2 : Int32) (x3 : Int32) (hk : isO k 12) (I : Mem) (hK : ∀ y, K (y) → RetV Z cX12_leads y) : WF Z K (m_X12_leads_j225 k p2 x3 I) I 225 [some (rf (zG Z) k), none, some (.int p2), some (.int x3), none, none, none, none, none] [] := by
  unfold m_X12_leads_j225
  refine w_iconst (v := (1)) C dX12_leads_225 (by decide) (q := 226) rfl ?_
  refine w_istore C dX12_leads_226 (Nat.le_of_ble_eq_true rfl) (L' := [some (rf (zG Z) k), none, some (.int p2), some (.int x3), some (.int 1), none, none, none, none]) rfl (q := 228) rfl ?_
  refine w_iload_n (v := x3) C dX12_leads_228 rfl (q := 229) rfl ?_
  refine w_istore C dX12_leads_229 (Nat.le_of_ble_eq_true rfl) (L' := [some (rf (zG Z) k), none, some (.int p2), some (.int x3), some (.int 1), some (.int x3), none, none, none]) rfl (q := 231) rfl ?_
  refine WF.less (L' := [some (rf (zG Z) k), none, some (.int p2), none, some (.int 1), some (.int x3), none, none, none]) (w_loopF (pc := 231) (a := ((1 : Int32), x3, I)) (mem := fun a => a.2.2) (lo := fun a => [some (rf (zG Z) k), none, some (.int p2), none, some (.int a.1), some (.int a.2.1), none, none, none]) (E := fun b4 => WM Z b4 294 [none, none, none, none, none, none, none, none, none] []) (fun a => m_X12_leads_b231_ok C hR k p2 a.1 a.2.1 hk a.2.2 (fun _ h => h) (fun _ h => h)) ?_) ⟨rfl, rfl, rfl, rfl, trivial⟩
  intro b4
  refine w_hx ?_
  exact w_vret C (hK _) dX12_leads_294
def m_X12_leads_j224 (k : Nat) (p2 : Int32) (y0 : Int32) (I : Mem) : Option (Mem) :=
  m_X12_leads_j225 k p2 y0 I
set_option maxRecDepth 100000 in
set_option maxHeartbeats 4000000 in
theorem m_X12_leads_j224_ok {Z : Zx} {K : Mem → Prop} (C : Cx Z cX12_leads 9 RX12) (hR : RM Z 1 26) (k : Nat) (p2 : Int32) (y0 : Int32) (hk : isO k 12) (I : Mem) (hK : ∀ y, K (y) → RetV Z cX12_leads y) : WF Z K (m_X12_leads_j224 k p2 y0 I) I 224 [some (rf (zG Z) k), none, some (.int p2), none, none, none, none, none, none] [.int y0] := by
  unfold m_X12_leads_j224
  refine w_istore_n C dX12_leads_224 (Nat.le_of_ble_eq_true rfl) (L' := [some (rf (zG Z) k), none, some (.int p2), some (.int y0), none, none, none, none, none]) rfl (q := 225) rfl ?_
  exact WF.less (L' := [some (rf (zG Z) k), none, some (.int p2), some (.int y0), none, none, none, none, none]) (m_X12_leads_j225_ok C hR k p2 y0 hk I hK) ⟨rfl, rfl, rfl, trivial⟩
def m_X12_leads_j208 (k : Nat) (p2 : Int32) (x7 : Int32) (x8 : Int32) (I : Mem) : Option (Mem) :=
  if x8 = 0 then (m_X12_leads_j224 k p2 (I k 10) I) else (m_X12_leads_j224 k p2 (x7 + 1) I)
set_option maxRecDepth 100000 in
set_option maxHeartbeats 4000000 in
theorem m_X12_leads_j208_ok {Z : Zx} {K : Mem → Prop} (C : Cx Z cX12_leads 9 RX12) (hR : RM Z 1 26) (k : Nat) (p2 : Int32) (x7 : Int32) (x8 : Int32) (hk : isO k 12) (I : Mem) (hK : ∀ y, K (y) → RetV Z cX12_leads y) : WF Z K (m_X12_leads_j208 k p2 x7 x8 I) I 208 [some (rf (zG Z) k), none, some (.int p2), none, none, none, none, some (.int x7), some (.int x8)] [] := by
  unfold m_X12_leads_j208
  refine w_iload (v := x8) C dX12_leads_208 rfl (q := 210) rfl ?_
  refine w_if_eq (tgt := 220) (q := 213) C dX12_leads_210 (by decide) rfl (fun _ => ?_) (fun _ => ?_)
  · refine w_aload_n (v := k) C dX12_leads_220 rfl (q := 221) rfl ?_
    refine g_X12_10 C hk lk_X12_134 dX12_leads_221 (q := 224) rfl ?_
    exact WF.less (L' := [some (rf (zG Z) k), none, some (.int p2), none, none, none, none, none, none]) (m_X12_leads_j224_ok C hR k p2 (I k 10) hk I hK) ⟨rfl, rfl, trivial⟩
  · refine w_iload (v := x7) C dX12_leads_213 rfl (q := 215) rfl ?_
    refine w_iconst (v := (1)) C dX12_leads_215 (by decide) (q := 216) rfl ?_
    refine w_iadd C dX12_leads_216 (q := 217) rfl ?_
    refine w_goto (tgt := 224) C dX12_leads_217 (by decide) ?_
    exact WF.less (L' := [some (rf (zG Z) k), none, some (.int p2), none, none, none, none, none, none]) (m_X12_leads_j224_ok C hR k p2 (x7 + 1) hk I hK) ⟨rfl, rfl, trivial⟩
def m_X12_leads_j206 (k : Nat) (p2 : Int32) (x7 : Int32) (y0 : Int32) (I : Mem) : Option (Mem) :=
  m_X12_leads_j208 k p2 x7 y0 I
set_option maxRecDepth 100000 in
set_option maxHeartbeats 4000000 in
theorem m_X12_leads_j206_ok {Z : Zx} {K : Mem → Prop} (C : Cx Z cX12_leads 9 RX12) (hR : RM Z 1 26) (k : Nat) (p2 : Int32) (x7 : Int32) (y0 : Int32) (hk : isO k 12) (I : Mem) (hK : ∀ y, K (y) → RetV Z cX12_leads y) : WF Z K (m_X12_leads_j206 k p2 x7 y0 I) I 206 [some (rf (zG Z) k), none, some (.int p2), none, none, none, none, some (.int x7), none] [.int y0] := by
  unfold m_X12_leads_j206
  refine w_istore C dX12_leads_206 (Nat.le_of_ble_eq_true rfl) (L' := [some (rf (zG Z) k), none, some (.int p2), none, none, none, none, some (.int x7), some (.int y0)]) rfl (q := 208) rfl ?_
  exact WF.less (L' := [some (rf (zG Z) k), none, some (.int p2), none, none, none, none, some (.int x7), some (.int y0)]) (m_X12_leads_j208_ok C hR k p2 x7 y0 hk I hK) ⟨rfl, rfl, rfl, rfl, trivial⟩
def m_X12_leads_j205 (k : Nat) (p2 : Int32) (x7 : Int32) (I : Mem) : Option (Mem) :=
  m_X12_leads_j206 k p2 x7 ((0 : Int32)) I
set_option maxRecDepth 100000 in
set_option maxHeartbeats 4000000 in
theorem m_X12_leads_j205_ok {Z : Zx} {K : Mem → Prop} (C : Cx Z cX12_leads 9 RX12) (hR : RM Z 1 26) (k : Nat) (p2 : Int32) (x7 : Int32) (hk : isO k 12) (I : Mem) (hK : ∀ y, K (y) → RetV Z cX12_leads y) : WF Z K (m_X12_leads_j205 k p2 x7 I) I 205 [some (rf (zG Z) k), none, some (.int p2), none, none, none, none, some (.int x7), none] [] := by
  unfold m_X12_leads_j205
  refine w_iconst (v := (0)) C dX12_leads_205 (by decide) (q := 206) rfl ?_
  exact WF.less (L' := [some (rf (zG Z) k), none, some (.int p2), none, none, none, none, some (.int x7), none]) (m_X12_leads_j206_ok C hR k p2 x7 ((0 : Int32)) hk I hK) ⟨rfl, rfl, rfl, trivial⟩
def m_X12_leads_j184 (k : Nat) (p2 : Int32) (x5 : Int32) (x7 : Int32) (x8 : Int32) (I : Mem) : Option (Mem) :=
  if x8 = 0 then (m_X12_leads_j205 k p2 x7 I) else (gd (inb x7 12) (if x5 < I (k + 8) x7.toNatClampNeg then (m_X12_leads_j205 k p2 x7 I) else (m_X12_leads_j206 k p2 x7 ((1 : Int32)) I)))
set_option maxRecDepth 100000 in
set_option maxHeartbeats 4000000 in
theorem m_X12_leads_j184_ok {Z : Zx} {K : Mem → Prop} (C : Cx Z cX12_leads 9 RX12) (hR : RM Z 1 26) (k : Nat) (p2 : Int32) (x5 : Int32) (x7 : Int32) (x8 : Int32) (hk : isO k 12) (I : Mem) (hK : ∀ y, K (y) → RetV Z cX12_leads y) : WF Z K (m_X12_leads_j184 k p2 x5 x7 x8 I) I 184 [some (rf (zG Z) k), none, some (.int p2), none, none, some (.int x5), none, some (.int x7), some (.int x8)] [] := by
  unfold m_X12_leads_j184
  refine w_iload (v := x8) C dX12_leads_184 rfl (q := 186) rfl ?_
  refine w_if_eq (tgt := 205) (q := 189) C dX12_leads_186 (by decide) rfl (fun _ => ?_) (fun _ => ?_)
  · exact WF.less (L' := [some (rf (zG Z) k), none, some (.int p2), none, none, none, none, some (.int x7), none]) (m_X12_leads_j205_ok C hR k p2 x7 hk I hK) ⟨rfl, rfl, rfl, trivial⟩
  · refine w_iload (v := x5) C dX12_leads_189 rfl (q := 191) rfl ?_
    refine w_aload_n (v := k) C dX12_leads_191 rfl (q := 192) rfl ?_
    refine g_X12_8 C hk lk_X12_33 dX12_leads_192 (q := 195) rfl ?_
    refine w_iload (v := x7) C dX12_leads_195 rfl (q := 197) rfl ?_
    refine w_iald C (st_X12_8 hk).2 dX12_leads_197 (q := 198) rfl (fun _ => ?_)
    refine w_icmp_lt (tgt := 205) (q := 201) C dX12_leads_198 (by decide) rfl (fun _ => ?_) (fun _ => ?_)
    · exact WF.less (L' := [some (rf (zG Z) k), none, some (.int p2), none, none, none, none, some (.int x7), none]) (m_X12_leads_j205_ok C hR k p2 x7 hk I hK) ⟨rfl, rfl, rfl, trivial⟩
    · refine w_iconst (v := (1)) C dX12_leads_201 (by decide) (q := 202) rfl ?_
      refine w_goto (tgt := 206) C dX12_leads_202 (by decide) ?_
      exact WF.less (L' := [some (rf (zG Z) k), none, some (.int p2), none, none, none, none, some (.int x7), none]) (m_X12_leads_j206_ok C hR k p2 x7 ((1 : Int32)) hk I hK) ⟨rfl, rfl, rfl, trivial⟩
def m_X12_leads_j106 (k : Nat) (p2 : Int32) (x4 : Int32) (x5 : Int32) (x7 : Int32) (y0 : Int32) (I : Mem) : Option (Mem) :=
  if y0 = 0 then (m_X12_leads_j208 k p2 x7 y0 I) else (gd (inb x7 12) (if I (k + 5) x7.toNatClampNeg = 0 then (m_X12_leads_j208 k p2 x7 y0 I) else (gd (inb x7 12) (Option.bind (m_X12_enters k (x4 + 1) (I (k + 7) x7.toNatClampNeg) x5 p2 I) fun r5 => if r5.1 = 0 then (m_X12_leads_j184 k p2 x5 x7 r5.1 r5.2) else (gd (inb x7 12) (if r5.2 (k + 9) x7.toNatClampNeg ≤ x5 then (m_X12_leads_j184 k p2 x5 x7 r5.1 r5.2) else (gd (inb x7 12) (gd (inb x7 12) (Option.bind (m_X12_enters k (r5.2 (k + 6) x7.toNatClampNeg) (r5.2 (k + 7) x7.toNatClampNeg) (x5 + 1) p2 r5.2) fun r6 => m_X12_leads_j184 k p2 x5 x7 r5.1 r6.2)))))))))
set_option maxRecDepth 100000 in
set_option maxHeartbeats 4000000 in
theorem m_X12_leads_j106_ok {Z : Zx} {K : Mem → Prop} (C : Cx Z cX12_leads 9 RX12) (hR : RM Z 1 26) (k : Nat) (p2 : Int32) (x4 : Int32) (x5 : Int32) (x7 : Int32) (y0 : Int32) (hk : isO k 12) (I : Mem) (hK : ∀ y, K (y) → RetV Z cX12_leads y) : WF Z K (m_X12_leads_j106 k p2 x4 x5 x7 y0 I) I 106 [some (rf (zG Z) k), none, some (.int p2), none, some (.int x4), some (.int x5), none, some (.int x7), none] [.int y0] := by
  unfold m_X12_leads_j106
  refine w_istore C dX12_leads_106 (Nat.le_of_ble_eq_true rfl) (L' := [some (rf (zG Z) k), none, some (.int p2), none, some (.int x4), some (.int x5), none, some (.int x7), some (.int y0)]) rfl (q := 108) rfl ?_
  refine w_iload (v := y0) C dX12_leads_108 rfl (q := 110) rfl ?_
  refine w_if_eq (tgt := 208) (q := 113) C dX12_leads_110 (by decide) rfl (fun _ => ?_) (fun _ => ?_)
  · exact WF.less (L' := [some (rf (zG Z) k), none, some (.int p2), none, none, none, none, some (.int x7), some (.int y0)]) (m_X12_leads_j208_ok C hR k p2 x7 y0 hk I hK) ⟨rfl, rfl, rfl, rfl, trivial⟩
  · refine w_aload_n (v := k) C dX12_leads_113 rfl (q := 114) rfl ?_
    refine g_X12_5 C hk lk_X12_23 dX12_leads_114 (q := 117) rfl ?_
    refine w_iload (v := x7) C dX12_leads_117 rfl (q := 119) rfl ?_
    refine w_zald C (st_X12_5 hk).2 dX12_leads_119 (q := 120) rfl (fun _ => ?_)
    refine w_if_eq (tgt := 208) (q := 123) C dX12_leads_120 (by decide) rfl (fun _ => ?_) (fun _ => ?_)
    · exact WF.less (L' := [some (rf (zG Z) k), none, some (.int p2), none, none, none, none, some (.int x7), some (.int y0)]) (m_X12_leads_j208_ok C hR k p2 x7 y0 hk I hK) ⟨rfl, rfl, rfl, rfl, trivial⟩
    · refine w_aload_n (v := k) C dX12_leads_123 rfl (q := 124) rfl ?_
      refine w_iload (v := x4) C dX12_leads_124 rfl (q := 126) rfl ?_
      refine w_iconst (v := (1)) C dX12_leads_126 (by decide) (q := 127) rfl ?_
      refine w_iadd C dX12_leads_127 (q := 128) rfl ?_
      refine w_aload_n (v := k) C dX12_leads_128 rfl (q := 129) rfl ?_
      refine g_X12_7 C hk lk_X12_30 dX12_leads_129 (q := 132) rfl ?_
      refine w_iload (v := x7) C dX12_leads_132 rfl (q := 134) rfl ?_
      refine w_iald C (st_X12_7 hk).2 dX12_leads_134 (q := 135) rfl (fun _ => ?_)
      refine w_iload (v := x5) C dX12_leads_135 rfl (q := 137) rfl ?_
      refine w_iload_n (v := p2) C dX12_leads_137 rfl (q := 138) rfl ?_
      refine w_callV (val := fun r5 => some (.int r5.1)) (mem := fun r5 => r5.2) (st1 := fun r5 => [.int r5.1]) (As := [.int (x4 + 1), .int (I (k + 7) x7.toNatClampNeg), .int x5, .int p2]) (st := []) (q := 141) C hR (fun x h => c_X12_enters (zl Z) (zG Z) (x4 + 1) (I (k + 7) x7.toNatClampNeg) x5 p2 hk I h) hk mv_X12_enters lk_X12_176 rfl (by decide) (fun _ => rfl) (Nat.le_of_ble_eq_true rfl) rfl rfl dX12_leads_138 rfl (fun r5 => ?_)
      refine w_istore C dX12_leads_141 (Nat.le_of_ble_eq_true rfl) (L' := [some (rf (zG Z) k), none, some (.int p2), none, some (.int x4), some (.int x5), none, some (.int x7), some (.int r5.1)]) rfl (q := 143) rfl ?_
      refine w_iload (v := r5.1) C dX12_leads_143 rfl (q := 145) rfl ?_
      refine w_if_eq (tgt := 184) (q := 148) C dX12_leads_145 (by decide) rfl (fun _ => ?_) (fun _ => ?_)
      · exact WF.less (L' := [some (rf (zG Z) k), none, some (.int p2), none, none, some (.int x5), none, some (.int x7), some (.int r5.1)]) (m_X12_leads_j184_ok C hR k p2 x5 x7 r5.1 hk r5.2 hK) ⟨rfl, rfl, rfl, rfl, rfl, trivial⟩
      · refine w_iload (v := x5) C dX12_leads_148 rfl (q := 150) rfl ?_
        refine w_aload_n (v := k) C dX12_leads_150 rfl (q := 151) rfl ?_
        refine g_X12_9 C hk lk_X12_36 dX12_leads_151 (q := 154) rfl ?_
        refine w_iload (v := x7) C dX12_leads_154 rfl (q := 156) rfl ?_
        refine w_iald C (st_X12_9 hk).2 dX12_leads_156 (q := 157) rfl (fun _ => ?_)
        refine w_icmp_ge (tgt := 184) (q := 160) C dX12_leads_157 (by decide) rfl (fun _ => ?_) (fun _ => ?_)
        · exact WF.less (L' := [some (rf (zG Z) k), none, some (.int p2), none, none, some (.int x5), none, some (.int x7), some (.int r5.1)]) (m_X12_leads_j184_ok C hR k p2 x5 x7 r5.1 hk r5.2 hK) ⟨rfl, rfl, rfl, rfl, rfl, trivial⟩
        · refine w_aload_n (v := k) C dX12_leads_160 rfl (q := 161) rfl ?_
          refine w_aload_n (v := k) C dX12_leads_161 rfl (q := 162) rfl ?_
          refine g_X12_6 C hk lk_X12_27 dX12_leads_162 (q := 165) rfl ?_
          refine w_iload (v := x7) C dX12_leads_165 rfl (q := 167) rfl ?_
          refine w_iald C (st_X12_6 hk).2 dX12_leads_167 (q := 168) rfl (fun _ => ?_)
          refine w_aload_n (v := k) C dX12_leads_168 rfl (q := 169) rfl ?_
          refine g_X12_7 C hk lk_X12_30 dX12_leads_169 (q := 172) rfl ?_
          refine w_iload (v := x7) C dX12_leads_172 rfl (q := 174) rfl ?_
          refine w_iald C (st_X12_7 hk).2 dX12_leads_174 (q := 175) rfl (fun _ => ?_)
          refine w_iload (v := x5) C dX12_leads_175 rfl (q := 177) rfl ?_
          refine w_iconst (v := (1)) C dX12_leads_177 (by decide) (q := 178) rfl ?_
          refine w_iadd C dX12_leads_178 (q := 179) rfl ?_
          refine w_iload_n (v := p2) C dX12_leads_179 rfl (q := 180) rfl ?_
          refine w_callV (val := fun r6 => some (.int r6.1)) (mem := fun r6 => r6.2) (st1 := fun r6 => [.int r6.1]) (As := [.int (r5.2 (k + 6) x7.toNatClampNeg), .int (r5.2 (k + 7) x7.toNatClampNeg), .int (x5 + 1), .int p2]) (st := []) (q := 183) C hR (fun x h => c_X12_enters (zl Z) (zG Z) (r5.2 (k + 6) x7.toNatClampNeg) (r5.2 (k + 7) x7.toNatClampNeg) (x5 + 1) p2 hk r5.2 h) hk mv_X12_enters lk_X12_176 rfl (by decide) (fun _ => rfl) (Nat.le_of_ble_eq_true rfl) rfl rfl dX12_leads_180 rfl (fun r6 => ?_)
          refine w_pop C dX12_leads_183 rfl (q := 184) rfl ?_
          exact WF.less (L' := [some (rf (zG Z) k), none, some (.int p2), none, none, some (.int x5), none, some (.int x7), some (.int r5.1)]) (m_X12_leads_j184_ok C hR k p2 x5 x7 r5.1 hk r6.2 hK) ⟨rfl, rfl, rfl, rfl, rfl, trivial⟩
def m_X12_leads_j89 (k : Nat) (p2 : Int32) (x4 : Int32) (x5 : Int32) (x6 : Int32) (x7 : Int32) (I : Mem) : Option (Mem) :=
  gd (inb x4 10) (if x6 < I (k + 2) x4.toNatClampNeg then (m_X12_leads_j106 k p2 x4 x5 x7 ((0 : Int32)) I) else (m_X12_leads_j106 k p2 x4 x5 x7 ((1 : Int32)) I))
set_option maxRecDepth 100000 in
set_option maxHeartbeats 4000000 in
theorem m_X12_leads_j89_ok {Z : Zx} {K : Mem → Prop} (C : Cx Z cX12_leads 9 RX12) (hR : RM Z 1 26) (k : Nat) (p2 : Int32) (x4 : Int32) (x5 : Int32) (x6 : Int32) (x7 : Int32) (hk : isO k 12) (I : Mem) (hK : ∀ y, K (y) → RetV Z cX12_leads y) : WF Z K (m_X12_leads_j89 k p2 x4 x5 x6 x7 I) I 89 [some (rf (zG Z) k), none, some (.int p2), none, some (.int x4), some (.int x5), some (.int x6), some (.int x7), none] [] := by
  unfold m_X12_leads_j89
  refine w_iload (v := x6) C dX12_leads_89 rfl (q := 91) rfl ?_
  refine w_aload_n (v := k) C dX12_leads_91 rfl (q := 92) rfl ?_
  refine g_X12_1 C hk lk_X12_13 dX12_leads_92 (q := 95) rfl ?_
  refine w_iload (v := x4) C dX12_leads_95 rfl (q := 97) rfl ?_
  refine w_iald C (st_X12_1 hk).2 dX12_leads_97 (q := 98) rfl (fun _ => ?_)
  refine w_icmp_lt (tgt := 105) (q := 101) C dX12_leads_98 (by decide) rfl (fun _ => ?_) (fun _ => ?_)
  · refine w_iconst (v := (0)) C dX12_leads_105 (by decide) (q := 106) rfl ?_
    exact WF.less (L' := [some (rf (zG Z) k), none, some (.int p2), none, some (.int x4), some (.int x5), none, some (.int x7), none]) (m_X12_leads_j106_ok C hR k p2 x4 x5 x7 ((0 : Int32)) hk I hK) ⟨rfl, rfl, rfl, rfl, rfl, trivial⟩
  · refine w_iconst (v := (1)) C dX12_leads_101 (by decide) (q := 102) rfl ?_
    refine w_goto (tgt := 106) C dX12_leads_102 (by decide) ?_
    exact WF.less (L' := [some (rf (zG Z) k), none, some (.int p2), none, some (.int x4), some (.int x5), none, some (.int x7), none]) (m_X12_leads_j106_ok C hR k p2 x4 x5 x7 ((1 : Int32)) hk I hK) ⟨rfl, rfl, rfl, rfl, rfl, trivial⟩
def m_X12_leads (k : Nat) (p1 : Int32) (p2 : Int32) (I : Mem) : Option (Mem) :=
  bnd (ms I k 35 0) fun I1 => if p1 = 1000 then (m_X12_leads_j225 k p2 ((0 : Int32)) I1) else (gd (inb (p1 / 100) 10) (gd (inb (p1 / 100) 10) (if I1 (k + 1) (p1 / 100).toNatClampNeg = p2 then (gd (inb (p1 / 100) 10) (if I1 (k + 3) (p1 / 100).toNatClampNeg ≤ p1 - p1 / 10 * 10 then (m_X12_leads_j89 k p2 (p1 / 100) ((p1 / 10) - (p1 / 10) / 10 * 10) (p1 - p1 / 10 * 10) (I1 (k + 4) (p1 / 100).toNatClampNeg) I1) else (gd (inb (I1 k 35) 64) (bnd (ms I1 (k + 25) (I1 k 35).toNatClampNeg (p1 + 1)) fun I7 => bnd (ms I7 k 35 ((I7 k 35) + 1)) fun I8 => m_X12_leads_j89 k p2 (p1 / 100) ((p1 / 10) - (p1 / 10) / 10 * 10) (p1 - p1 / 10 * 10) (I1 (k + 4) (p1 / 100).toNatClampNeg) I8)))) else (m_X12_leads_j89 k p2 (p1 / 100) ((p1 / 10) - (p1 / 10) / 10 * 10) (p1 - p1 / 10 * 10) (I1 (k + 4) (p1 / 100).toNatClampNeg) I1))))
set_option maxRecDepth 100000 in
set_option maxHeartbeats 4000000 in
theorem m_X12_leads_ok {Z : Zx} {K : Mem → Prop} (C : Cx Z cX12_leads 9 RX12) (hR : RM Z 1 26) (k : Nat) (p1 : Int32) (p2 : Int32) (hk : isO k 12) (I : Mem) (hK : ∀ y, K (y) → RetV Z cX12_leads y) : WF Z K (m_X12_leads k p1 p2 I) I 0 [some (rf (zG Z) k), some (.int p1), some (.int p2), none, none, none, none, none, none] [] := by
  unfold m_X12_leads
  refine w_aload_n (v := k) C dX12_leads_0 rfl (q := 1) rfl ?_
  refine w_iconst (v := (0)) C dX12_leads_1 (by decide) (q := 2) rfl ?_
  refine p_X12_35 C hk  lk_X12_173 dX12_leads_2 (q := 5) rfl (fun I1 => ?_)
  refine w_iconst (v := (0)) C dX12_leads_5 (by decide) (q := 6) rfl ?_
  refine w_istore_n C dX12_leads_6 (Nat.le_of_ble_eq_true rfl) (L' := [some (rf (zG Z) k), some (.int p1), some (.int p2), some (.int 0), none, none, none, none, none]) rfl (q := 7) rfl ?_
  refine w_iload_n (v := p1) C dX12_leads_7 rfl (q := 8) rfl ?_
  refine w_sipush (v := (1000)) C dX12_leads_8 (by decide) (q := 11) rfl ?_
  refine w_icmp_eq (tgt := 225) (q := 14) C dX12_leads_11 (by decide) rfl (fun _ => ?_) (fun _ => ?_)
  · exact WF.less (L' := [some (rf (zG Z) k), none, some (.int p2), some (.int 0), none, none, none, none, none]) (m_X12_leads_j225_ok C hR k p2 ((0 : Int32)) hk I1 hK) ⟨rfl, rfl, rfl, trivial⟩
  · refine w_iload_n (v := p1) C dX12_leads_14 rfl (q := 15) rfl ?_
    refine w_bipush (v := (100)) C dX12_leads_15 (by decide) (q := 17) rfl ?_
    refine w_idivL C (by decide) dX12_leads_17 (q := 18) rfl ?_
    refine w_istore C dX12_leads_18 (Nat.le_of_ble_eq_true rfl) (L' := [some (rf (zG Z) k), some (.int p1), some (.int p2), some (.int 0), some (.int (p1 / 100)), none, none, none, none]) rfl (q := 20) rfl ?_
    refine w_iload_n (v := p1) C dX12_leads_20 rfl (q := 21) rfl ?_
    refine w_bipush (v := (10)) C dX12_leads_21 (by decide) (q := 23) rfl ?_
    refine w_idivL C (by decide) dX12_leads_23 (q := 24) rfl ?_
    refine w_bipush (v := (10)) C dX12_leads_24 (by decide) (q := 26) rfl ?_
    refine w_iremL C (by decide) dX12_leads_26 (q := 27) rfl ?_
    refine w_istore C dX12_leads_27 (Nat.le_of_ble_eq_true rfl) (L' := [some (rf (zG Z) k), some (.int p1), some (.int p2), some (.int 0), some (.int (p1 / 100)), some (.int ((p1 / 10) - (p1 / 10) / 10 * 10)), none, none, none]) rfl (q := 29) rfl ?_
    refine w_iload_n (v := p1) C dX12_leads_29 rfl (q := 30) rfl ?_
    refine w_bipush (v := (10)) C dX12_leads_30 (by decide) (q := 32) rfl ?_
    refine w_iremL C (by decide) dX12_leads_32 (q := 33) rfl ?_
    refine w_istore C dX12_leads_33 (Nat.le_of_ble_eq_true rfl) (L' := [some (rf (zG Z) k), some (.int p1), some (.int p2), some (.int 0), some (.int (p1 / 100)), some (.int ((p1 / 10) - (p1 / 10) / 10 * 10)), some (.int (p1 - p1 / 10 * 10)), none, none]) rfl (q := 35) rfl ?_
    refine w_aload_n (v := k) C dX12_leads_35 rfl (q := 36) rfl ?_
    refine g_X12_3 C hk lk_X12_20 dX12_leads_36 (q := 39) rfl ?_
    refine w_iload (v := p1 / 100) C dX12_leads_39 rfl (q := 41) rfl ?_
    refine w_iald C (st_X12_3 hk).2 dX12_leads_41 (q := 42) rfl (fun _ => ?_)
    refine w_istore C dX12_leads_42 (Nat.le_of_ble_eq_true rfl) (L' := [some (rf (zG Z) k), some (.int p1), some (.int p2), some (.int 0), some (.int (p1 / 100)), some (.int ((p1 / 10) - (p1 / 10) / 10 * 10)), some (.int (p1 - p1 / 10 * 10)), some (.int (I1 (k + 4) (p1 / 100).toNatClampNeg)), none]) rfl (q := 44) rfl ?_
    refine w_aload_n (v := k) C dX12_leads_44 rfl (q := 45) rfl ?_
    refine g_X12_0 C hk lk_X12_7 dX12_leads_45 (q := 48) rfl ?_
    refine w_iload (v := p1 / 100) C dX12_leads_48 rfl (q := 50) rfl ?_
    refine w_cald C (st_X12_0 hk).2 dX12_leads_50 (q := 51) rfl (fun _ => ?_)
    refine w_iload_n (v := p2) C dX12_leads_51 rfl (q := 52) rfl ?_
    refine w_icmp_ne (tgt := 89) (q := 55) C dX12_leads_52 (by decide) rfl (fun _ => ?_) (fun _ => ?_)
    · refine w_iload (v := p1 - p1 / 10 * 10) C dX12_leads_55 rfl (q := 57) rfl ?_
      refine w_aload_n (v := k) C dX12_leads_57 rfl (q := 58) rfl ?_
      refine g_X12_2 C hk lk_X12_17 dX12_leads_58 (q := 61) rfl ?_
      refine w_iload (v := p1 / 100) C dX12_leads_61 rfl (q := 63) rfl ?_
      refine w_iald C (st_X12_2 hk).2 dX12_leads_63 (q := 64) rfl (fun _ => ?_)
      refine w_icmp_ge (tgt := 89) (q := 67) C dX12_leads_64 (by decide) rfl (fun _ => ?_) (fun _ => ?_)
      · exact WF.less (L' := [some (rf (zG Z) k), none, some (.int p2), none, some (.int (p1 / 100)), some (.int ((p1 / 10) - (p1 / 10) / 10 * 10)), some (.int (p1 - p1 / 10 * 10)), some (.int (I1 (k + 4) (p1 / 100).toNatClampNeg)), none]) (m_X12_leads_j89_ok C hR k p2 (p1 / 100) ((p1 / 10) - (p1 / 10) / 10 * 10) (p1 - p1 / 10 * 10) (I1 (k + 4) (p1 / 100).toNatClampNeg) hk I1 hK) ⟨rfl, rfl, rfl, rfl, rfl, rfl, trivial⟩
      · refine w_aload_n (v := k) C dX12_leads_67 rfl (q := 68) rfl ?_
        refine g_X12_34 C hk lk_X12_84 dX12_leads_68 (q := 71) rfl ?_
        refine w_aload_n (v := k) C dX12_leads_71 rfl (q := 72) rfl ?_
        refine g_X12_35 C hk lk_X12_173 dX12_leads_72 (q := 75) rfl ?_
        refine w_iload_n (v := p1) C dX12_leads_75 rfl (q := 76) rfl ?_
        refine w_iconst (v := (1)) C dX12_leads_76 (by decide) (q := 77) rfl ?_
        refine w_iadd C dX12_leads_77 (q := 78) rfl ?_
        refine w_iast C (st_X12_34 hk).2 dX12_leads_78 (q := 79) rfl (fun _ I7 => ?_)
        refine w_aload_n (v := k) C dX12_leads_79 rfl (q := 80) rfl ?_
        refine w_dup C dX12_leads_80 rfl (q := 81) rfl ?_
        refine g_X12_35 C hk lk_X12_173 dX12_leads_81 (q := 84) rfl ?_
        refine w_iconst (v := (1)) C dX12_leads_84 (by decide) (q := 85) rfl ?_
        refine w_iadd C dX12_leads_85 (q := 86) rfl ?_
        refine p_X12_35 C hk  lk_X12_173 dX12_leads_86 (q := 89) rfl (fun I8 => ?_)
        exact WF.less (L' := [some (rf (zG Z) k), none, some (.int p2), none, some (.int (p1 / 100)), some (.int ((p1 / 10) - (p1 / 10) / 10 * 10)), some (.int (p1 - p1 / 10 * 10)), some (.int (I1 (k + 4) (p1 / 100).toNatClampNeg)), none]) (m_X12_leads_j89_ok C hR k p2 (p1 / 100) ((p1 / 10) - (p1 / 10) / 10 * 10) (p1 - p1 / 10 * 10) (I1 (k + 4) (p1 / 100).toNatClampNeg) hk I8 hK) ⟨rfl, rfl, rfl, rfl, rfl, rfl, trivial⟩
    · exact WF.less (L' := [some (rf (zG Z) k), none, some (.int p2), none, some (.int (p1 / 100)), some (.int ((p1 / 10) - (p1 / 10) / 10 * 10)), some (.int (p1 - p1 / 10 * 10)), some (.int (I1 (k + 4) (p1 / 100).toNatClampNeg)), none]) (m_X12_leads_j89_ok C hR k p2 (p1 / 100) ((p1 / 10) - (p1 / 10) / 10 * 10) (p1 - p1 / 10 * 10) (I1 (k + 4) (p1 / 100).toNatClampNeg) hk I1 hK) ⟨rfl, rfl, rfl, rfl, rfl, rfl, trivial⟩
theorem c_X12_leads (l : Launch) (G : Gx) {k : Nat} (p1 : Int32) (p2 : Int32) (hk : isO k 12) (I : Mem) {x : Mem} (h : m_X12_leads k p1 p2 I = some x) : Ct l G yX12_leads cX12_leads 9 none 1 26 [rf G k, .int p1, .int p2] I (none) x := Ct.of (by decide +kernel) rfl (Nat.le_of_ble_eq_true rfl) ret_v (fun Z hG hl C hR hret => by
  subst hG
  exact m_X12_leads_ok (K := fun y => y = x) C hR k p1 p2 hk I (fun y hy => by subst hy; exact hret) x h rfl)
