def m_X12_drafts_j125 (k : Nat) (x1 : Int32) (x2 : Int32) (x3 : Int32) (I : Mem) : Option ((Int32 × Int32 × Mem) ⊕ ((Int32 × Mem))) :=
  some (.inl (x1, x3 + 1, I))
set_option maxRecDepth 100000 in
set_option maxHeartbeats 4000000 in
theorem m_X12_drafts_j125_ok {Z : Zx} {K : ((Int32 × Int32 × Mem) ⊕ ((Int32 × Mem))) → Prop} (C : Cx Z cX12_drafts 5 RX12) (hR : RM Z 2 46) (k : Nat) (x1 : Int32) (x2 : Int32) (x3 : Int32) (hk : isO k 12) (I : Mem) (hB : ∀ a, K (.inl a) → WM Z a.2.2 47 [some (rf (zG Z) k), some (.int a.1), some (.int x2), some (.int a.2.1), none] []) (hX0 : ∀ b, K (.inr (b)) → WM Z b.2 131 [some (rf (zG Z) k), some (.int b.1), some (.int x2), none, none] []) : WF Z K (m_X12_drafts_j125 k x1 x2 x3 I) I 125 [some (rf (zG Z) k), some (.int x1), some (.int x2), some (.int x3), none] [] := by
  unfold m_X12_drafts_j125
  refine w_iinc (v := x3 + 1) C dX12_drafts_125 rfl rfl (L' := [some (rf (zG Z) k), some (.int x1), some (.int x2), some (.int (x3 + 1)), none]) rfl (q := 128) rfl ?_
  refine w_goto (tgt := 47) C dX12_drafts_128 (by decide) ?_
  exact w_jmp (fun h => WM.less (L' := [some (rf (zG Z) k), some (.int x1), some (.int x2), some (.int (x3 + 1)), none]) (hB _ h) ⟨rfl, rfl, rfl, rfl, trivial⟩)
def m_X12_drafts_b80 (k : Nat) (x1 : Int32) (x2 : Int32) (x3 : Int32) (x4 : Int32) (I : Mem) : Option ((Int32 × Mem) ⊕ ((Mem))) :=
  gd (inb x3 10) (if I (k + 28) x3.toNatClampNeg ≤ x4 then (some (.inr (I))) else (Option.bind (m_X12_puts k ((43 : Int32)) I) fun I8 => gd (inb ((((5 : Int32)) * x3) + x4) 50) (Option.bind (m_X12_putsContent k x2 (I8 (k + 29) ((((5 : Int32)) * x3) + x4).toNatClampNeg) I8) fun I9 => some (.inl (x4 + 1, I9)))))
set_option maxRecDepth 100000 in
set_option maxHeartbeats 4000000 in
theorem m_X12_drafts_b80_ok {Z : Zx} {K : ((Int32 × Mem) ⊕ ((Mem))) → Prop} (C : Cx Z cX12_drafts 5 RX12) (hR : RM Z 2 46) (k : Nat) (x1 : Int32) (x2 : Int32) (x3 : Int32) (x4 : Int32) (hk : isO k 12) (I : Mem) (hB : ∀ a, K (.inl a) → WM Z a.2 80 [some (rf (zG Z) k), some (.int x1), some (.int x2), some (.int x3), some (.int a.1)] []) (hX0 : ∀ b, K (.inr (b)) → WM Z b 119 [some (rf (zG Z) k), some (.int x1), some (.int x2), some (.int x3), none] []) : WF Z K (m_X12_drafts_b80 k x1 x2 x3 x4 I) I 80 [some (rf (zG Z) k), some (.int x1), some (.int x2), some (.int x3), some (.int x4)] [] := by
  unfold m_X12_drafts_b80
  refine w_iload (v := x4) C dX12_drafts_80 rfl (q := 82) rfl ?_
  refine w_aload_n (v := k) C dX12_drafts_82 rfl (q := 83) rfl ?_
  refine g_X12_38 C hk lk_X12_93 dX12_drafts_83 (q := 86) rfl ?_
  refine w_iload_n (v := x3) C dX12_drafts_86 rfl (q := 87) rfl ?_
  refine w_iald C (st_X12_38 hk).2 dX12_drafts_87 (q := 88) rfl (fun _ => ?_)
  refine w_icmp_ge (tgt := 119) (q := 91) C dX12_drafts_88 (by decide) rfl (fun _ => ?_) (fun _ => ?_)
  · exact w_jmp (fun h => WM.less (L' := [some (rf (zG Z) k), some (.int x1), some (.int x2), some (.int x3), none]) (hX0 _ h) ⟨rfl, rfl, rfl, rfl, trivial⟩)
  · refine w_aload_n (v := k) C dX12_drafts_91 rfl (q := 92) rfl ?_
    refine w_bipush (v := (43)) C dX12_drafts_92 (by decide) (q := 94) rfl ?_
    refine w_callV (val := fun I8 => none) (mem := fun I8 => I8) (st1 := fun I8 => []) (As := [.int 43]) (st := []) (q := 97) C hR (fun x h => c_X12_puts (zl Z) (zG Z) ((43 : Int32)) hk I h) hk mv_X12_puts lk_X12_227 rfl (by decide) (fun _ => rfl) (Nat.le_of_ble_eq_true rfl) rfl rfl dX12_drafts_94 rfl (fun I8 => ?_)
    refine w_aload_n (v := k) C dX12_drafts_97 rfl (q := 98) rfl ?_
    refine w_iload_n (v := x2) C dX12_drafts_98 rfl (q := 99) rfl ?_
    refine w_aload_n (v := k) C dX12_drafts_99 rfl (q := 100) rfl ?_
    refine g_X12_39 C hk lk_X12_96 dX12_drafts_100 (q := 103) rfl ?_
    refine w_iconst (v := (5)) C dX12_drafts_103 (by decide) (q := 104) rfl ?_
    refine w_iload_n (v := x3) C dX12_drafts_104 rfl (q := 105) rfl ?_
    refine w_imul C dX12_drafts_105 (q := 106) rfl ?_
    refine w_iload (v := x4) C dX12_drafts_106 rfl (q := 108) rfl ?_
    refine w_iadd C dX12_drafts_108 (q := 109) rfl ?_
    refine w_iald C (st_X12_39 hk).2 dX12_drafts_109 (q := 110) rfl (fun _ => ?_)
    refine w_callV (val := fun I9 => none) (mem := fun I9 => I9) (st1 := fun I9 => []) (As := [.int x2, .int (I8 (k + 29) ((((5 : Int32)) * x3) + x4).toNatClampNeg)]) (st := []) (q := 113) C hR (fun x h => c_X12_putsContent (zl Z) (zG Z) x2 (I8 (k + 29) ((((5 : Int32)) * x3) + x4).toNatClampNeg) hk I8 h) hk mv_X12_putsContent lk_X12_241 rfl (by decide) (fun _ => rfl) (Nat.le_of_ble_eq_true rfl) rfl rfl dX12_drafts_110 rfl (fun I9 => ?_)
    refine w_iinc (v := x4 + 1) C dX12_drafts_113 rfl rfl (L' := [some (rf (zG Z) k), some (.int x1), some (.int x2), some (.int x3), some (.int (x4 + 1))]) rfl (q := 116) rfl ?_
    refine w_goto (tgt := 80) C dX12_drafts_116 (by decide) ?_
    exact w_jmp (fun h => WM.less (L' := [some (rf (zG Z) k), some (.int x1), some (.int x2), some (.int x3), some (.int (x4 + 1))]) (hB _ h) ⟨rfl, rfl, rfl, rfl, rfl, trivial⟩)
def m_X12_drafts_b47 (k : Nat) (x2 : Int32) (x1 : Int32) (x3 : Int32) (I : Mem) : Option ((Int32 × Int32 × Mem) ⊕ ((Int32 × Mem))) :=
  if I k 42 ≤ x3 then (some (.inr ((x1, I)))) else (Option.bind (m_X12_isWriting k x3 x2 I) fun r6 => if r6 = 0 then (m_X12_drafts_j125 k x1 x2 x3 I) else (gd (inb x3 10) (Option.bind (m_X12_puts k (I (k + 27) x3.toNatClampNeg) I) fun I7 => Option.bind (loopF (fun a => m_X12_drafts_b80 k (x1 + 1) x2 x3 a.1 a.2) FU ((0 : Int32), I7)) (fun b10 => Option.bind (m_X12_puts k ((39 : Int32)) b10) fun I11 => m_X12_drafts_j125 k (x1 + 1) x2 x3 I11))))
set_option maxRecDepth 100000 in
set_option maxHeartbeats 4000000 in
theorem m_X12_drafts_b47_ok {Z : Zx} {K : ((Int32 × Int32 × Mem) ⊕ ((Int32 × Mem))) → Prop} (C : Cx Z cX12_drafts 5 RX12) (hR : RM Z 2 46) (k : Nat) (x2 : Int32) (x1 : Int32) (x3 : Int32) (hk : isO k 12) (I : Mem) (hB : ∀ a, K (.inl a) → WM Z a.2.2 47 [some (rf (zG Z) k), some (.int a.1), some (.int x2), some (.int a.2.1), none] []) (hX0 : ∀ b, K (.inr (b)) → WM Z b.2 131 [some (rf (zG Z) k), some (.int b.1), some (.int x2), none, none] []) : WF Z K (m_X12_drafts_b47 k x2 x1 x3 I) I 47 [some (rf (zG Z) k), some (.int x1), some (.int x2), some (.int x3), none] [] := by
  unfold m_X12_drafts_b47
  refine w_iload_n (v := x3) C dX12_drafts_47 rfl (q := 48) rfl ?_
  refine w_aload_n (v := k) C dX12_drafts_48 rfl (q := 49) rfl ?_
  refine g_X12_42 C hk lk_X12_137 dX12_drafts_49 (q := 52) rfl ?_
  refine w_icmp_ge (tgt := 131) (q := 55) C dX12_drafts_52 (by decide) rfl (fun _ => ?_) (fun _ => ?_)
  · exact w_jmp (fun h => WM.less (L' := [some (rf (zG Z) k), some (.int x1), some (.int x2), none, none]) (hX0 _ h) ⟨rfl, rfl, rfl, trivial⟩)
  · refine w_aload_n (v := k) C dX12_drafts_55 rfl (q := 56) rfl ?_
    refine w_iload_n (v := x3) C dX12_drafts_56 rfl (q := 57) rfl ?_
    refine w_iload_n (v := x2) C dX12_drafts_57 rfl (q := 58) rfl ?_
    refine w_callV (val := fun r6 => some (.int r6)) (mem := fun r6 => I) (st1 := fun r6 => [.int r6]) (As := [.int x3, .int x2]) (st := []) (q := 61) C hR (fun x h => c_X12_isWriting (zl Z) (zG Z) x3 x2 hk I h) hk mv_X12_isWriting lk_X12_237 rfl (by decide) (fun _ => rfl) (Nat.le_of_ble_eq_true rfl) rfl rfl dX12_drafts_58 rfl (fun r6 => ?_)
    refine w_if_eq (tgt := 125) (q := 64) C dX12_drafts_61 (by decide) rfl (fun _ => ?_) (fun _ => ?_)
    · exact WF.less (L' := [some (rf (zG Z) k), some (.int x1), some (.int x2), some (.int x3), none]) (m_X12_drafts_j125_ok C hR k x1 x2 x3 hk I hB hX0) ⟨rfl, rfl, rfl, rfl, trivial⟩
    · refine w_iinc (v := x1 + 1) C dX12_drafts_64 rfl rfl (L' := [some (rf (zG Z) k), some (.int (x1 + 1)), some (.int x2), some (.int x3), none]) rfl (q := 67) rfl ?_
      refine w_aload_n (v := k) C dX12_drafts_67 rfl (q := 68) rfl ?_
      refine w_aload_n (v := k) C dX12_drafts_68 rfl (q := 69) rfl ?_
      refine g_X12_37 C hk lk_X12_90 dX12_drafts_69 (q := 72) rfl ?_
      refine w_iload_n (v := x3) C dX12_drafts_72 rfl (q := 73) rfl ?_
      refine w_cald C (st_X12_37 hk).2 dX12_drafts_73 (q := 74) rfl (fun _ => ?_)
      refine w_callV (val := fun I7 => none) (mem := fun I7 => I7) (st1 := fun I7 => []) (As := [.int (I (k + 27) x3.toNatClampNeg)]) (st := []) (q := 77) C hR (fun x h => c_X12_puts (zl Z) (zG Z) (I (k + 27) x3.toNatClampNeg) hk I h) hk mv_X12_puts lk_X12_227 rfl (by decide) (fun _ => rfl) (Nat.le_of_ble_eq_true rfl) rfl rfl dX12_drafts_74 rfl (fun I7 => ?_)
      refine w_iconst (v := (0)) C dX12_drafts_77 (by decide) (q := 78) rfl ?_
      refine w_istore C dX12_drafts_78 (Nat.le_of_ble_eq_true rfl) (L' := [some (rf (zG Z) k), some (.int (x1 + 1)), some (.int x2), some (.int x3), some (.int 0)]) rfl (q := 80) rfl ?_
      refine WF.less (L' := [some (rf (zG Z) k), some (.int (x1 + 1)), some (.int x2), some (.int x3), some (.int 0)]) (w_loopF (pc := 80) (a := ((0 : Int32), I7)) (mem := fun a => a.2) (lo := fun a => [some (rf (zG Z) k), some (.int (x1 + 1)), some (.int x2), some (.int x3), some (.int a.1)]) (E := fun b10 => WM Z b10 119 [some (rf (zG Z) k), some (.int (x1 + 1)), some (.int x2), some (.int x3), none] []) (fun a => m_X12_drafts_b80_ok C hR k (x1 + 1) x2 x3 a.1 hk a.2 (fun _ h => h) (fun _ h => h)) ?_) ⟨rfl, rfl, rfl, rfl, rfl, trivial⟩
      intro b10
      refine w_hx ?_
      refine w_aload_n (v := k) C dX12_drafts_119 rfl (q := 120) rfl ?_
      refine w_bipush (v := (39)) C dX12_drafts_120 (by decide) (q := 122) rfl ?_
      refine w_callV (val := fun I11 => none) (mem := fun I11 => I11) (st1 := fun I11 => []) (As := [.int 39]) (st := []) (q := 125) C hR (fun x h => c_X12_puts (zl Z) (zG Z) ((39 : Int32)) hk b10 h) hk mv_X12_puts lk_X12_227 rfl (by decide) (fun _ => rfl) (Nat.le_of_ble_eq_true rfl) rfl rfl dX12_drafts_122 rfl (fun I11 => ?_)
      exact WF.less (L' := [some (rf (zG Z) k), some (.int (x1 + 1)), some (.int x2), some (.int x3), none]) (m_X12_drafts_j125_ok C hR k (x1 + 1) x2 x3 hk I11 hB hX0) ⟨rfl, rfl, rfl, rfl, trivial⟩
def m_X12_drafts_b37 (k : Nat) (x1 : Int32) (x2 : Int32) (I : Mem) : Option ((Int32 × Int32 × Mem) ⊕ ((Int32 × Mem))) :=
  if I k 32 ≤ x2 then (some (.inr ((x1, I)))) else (Option.bind (loopF (fun a => m_X12_drafts_b47 k x2 a.1 a.2.1 a.2.2) FU (x1, (0 : Int32), I)) (fun b12 => some (.inl (b12.1, x2 + 1, b12.2))))
set_option maxRecDepth 100000 in
set_option maxHeartbeats 4000000 in
theorem m_X12_drafts_b37_ok {Z : Zx} {K : ((Int32 × Int32 × Mem) ⊕ ((Int32 × Mem))) → Prop} (C : Cx Z cX12_drafts 5 RX12) (hR : RM Z 2 46) (k : Nat) (x1 : Int32) (x2 : Int32) (hk : isO k 12) (I : Mem) (hB : ∀ a, K (.inl a) → WM Z a.2.2 37 [some (rf (zG Z) k), some (.int a.1), some (.int a.2.1), none, none] []) (hX0 : ∀ b, K (.inr (b)) → WM Z b.2 137 [some (rf (zG Z) k), some (.int b.1), none, none, none] []) : WF Z K (m_X12_drafts_b37 k x1 x2 I) I 37 [some (rf (zG Z) k), some (.int x1), some (.int x2), none, none] [] := by
  unfold m_X12_drafts_b37
  refine w_iload_n (v := x2) C dX12_drafts_37 rfl (q := 38) rfl ?_
  refine w_aload_n (v := k) C dX12_drafts_38 rfl (q := 39) rfl ?_
  refine g_X12_32 C hk lk_X12_200 dX12_drafts_39 (q := 42) rfl ?_
  refine w_icmp_ge (tgt := 137) (q := 45) C dX12_drafts_42 (by decide) rfl (fun _ => ?_) (fun _ => ?_)
  · exact w_jmp (fun h => WM.less (L' := [some (rf (zG Z) k), some (.int x1), none, none, none]) (hX0 _ h) ⟨rfl, rfl, trivial⟩)
  · refine w_iconst (v := (0)) C dX12_drafts_45 (by decide) (q := 46) rfl ?_
    refine w_istore_n C dX12_drafts_46 (Nat.le_of_ble_eq_true rfl) (L' := [some (rf (zG Z) k), some (.int x1), some (.int x2), some (.int 0), none]) rfl (q := 47) rfl ?_
    refine WF.less (L' := [some (rf (zG Z) k), some (.int x1), some (.int x2), some (.int 0), none]) (w_loopF (pc := 47) (a := (x1, (0 : Int32), I)) (mem := fun a => a.2.2) (lo := fun a => [some (rf (zG Z) k), some (.int a.1), some (.int x2), some (.int a.2.1), none]) (E := fun b12 => WM Z b12.2 131 [some (rf (zG Z) k), some (.int b12.1), some (.int x2), none, none] []) (fun a => m_X12_drafts_b47_ok C hR k x2 a.1 a.2.1 hk a.2.2 (fun _ h => h) (fun _ h => h)) ?_) ⟨rfl, rfl, rfl, rfl, trivial⟩
    intro b12
    refine w_hx ?_
    refine w_iinc (v := x2 + 1) C dX12_drafts_131 rfl rfl (L' := [some (rf (zG Z) k), some (.int b12.1), some (.int (x2 + 1)), none, none]) rfl (q := 134) rfl ?_
    refine w_goto (tgt := 37) C dX12_drafts_134 (by decide) ?_
    exact w_jmp (fun h => WM.less (L' := [some (rf (zG Z) k), some (.int b12.1), some (.int (x2 + 1)), none, none]) (hB _ h) ⟨rfl, rfl, rfl, trivial⟩)
def m_X12_drafts (k : Nat) (I : Mem) : Option (Int32 × Mem) :=
  bnd (ms I k 44 0) fun I1 => Option.bind (m_X12_puts k ((72 : Int32)) I1) fun I2 => Option.bind (m_X12_puts k ((43 : Int32)) I2) fun I3 => Option.bind (m_X12_putsNumber k ((I3 k 47) + 1) I3) fun I4 => Option.bind (m_X12_puts k ((39 : Int32)) I4) fun I5 => Option.bind (loopF (fun a => m_X12_drafts_b37 k a.1 a.2.1 a.2.2) FU ((2 : Int32), (0 : Int32), I5)) (fun b13 => Option.bind (m_X12_puts k ((84 : Int32)) b13.2) fun I14 => Option.bind (m_X12_puts k ((43 : Int32)) I14) fun I15 => Option.bind (m_X12_putsNumber k b13.1 I15) fun I16 => Option.bind (m_X12_puts k ((43 : Int32)) I16) fun I17 => Option.bind (m_X12_putsNumber k ((I17 k 47) + 1) I17) fun I18 => Option.bind (m_X12_puts k ((39 : Int32)) I18) fun I19 => some ((b13.1, I19)))
set_option maxRecDepth 100000 in
set_option maxHeartbeats 4000000 in
theorem m_X12_drafts_ok {Z : Zx} {K : (Int32 × Mem) → Prop} (C : Cx Z cX12_drafts 5 RX12) (hR : RM Z 2 46) (k : Nat) (hk : isO k 12) (I : Mem) (hK : ∀ y, K (y) → RetI Z cX12_drafts .int y.1 y.2) : WF Z K (m_X12_drafts k I) I 0 [some (rf (zG Z) k), none, none, none, none] [] := by
  unfold m_X12_drafts
  refine w_iconst (v := (2)) C dX12_drafts_0 (by decide) (q := 1) rfl ?_
  refine w_istore_n C dX12_drafts_1 (Nat.le_of_ble_eq_true rfl) (L' := [some (rf (zG Z) k), some (.int 2), none, none, none]) rfl (q := 2) rfl ?_
  refine w_aload_n (v := k) C dX12_drafts_2 rfl (q := 3) rfl ?_
  refine w_iconst (v := (0)) C dX12_drafts_3 (by decide) (q := 4) rfl ?_
  refine p_X12_44 C hk  lk_X12_224 dX12_drafts_4 (q := 7) rfl (fun I1 => ?_)
  refine w_aload_n (v := k) C dX12_drafts_7 rfl (q := 8) rfl ?_
  refine w_bipush (v := (72)) C dX12_drafts_8 (by decide) (q := 10) rfl ?_
  refine w_callV (val := fun I2 => none) (mem := fun I2 => I2) (st1 := fun I2 => []) (As := [.int 72]) (st := []) (q := 13) C hR (fun x h => c_X12_puts (zl Z) (zG Z) ((72 : Int32)) hk I1 h) hk mv_X12_puts lk_X12_227 rfl (by decide) (fun _ => rfl) (Nat.le_of_ble_eq_true rfl) rfl rfl dX12_drafts_10 rfl (fun I2 => ?_)
  refine w_aload_n (v := k) C dX12_drafts_13 rfl (q := 14) rfl ?_
  refine w_bipush (v := (43)) C dX12_drafts_14 (by decide) (q := 16) rfl ?_
  refine w_callV (val := fun I3 => none) (mem := fun I3 => I3) (st1 := fun I3 => []) (As := [.int 43]) (st := []) (q := 19) C hR (fun x h => c_X12_puts (zl Z) (zG Z) ((43 : Int32)) hk I2 h) hk mv_X12_puts lk_X12_227 rfl (by decide) (fun _ => rfl) (Nat.le_of_ble_eq_true rfl) rfl rfl dX12_drafts_16 rfl (fun I3 => ?_)
  refine w_aload_n (v := k) C dX12_drafts_19 rfl (q := 20) rfl ?_
  refine w_aload_n (v := k) C dX12_drafts_20 rfl (q := 21) rfl ?_
  refine g_X12_47 C hk lk_X12_231 dX12_drafts_21 (q := 24) rfl ?_
  refine w_iconst (v := (1)) C dX12_drafts_24 (by decide) (q := 25) rfl ?_
  refine w_iadd C dX12_drafts_25 (q := 26) rfl ?_
  refine w_callV (val := fun I4 => none) (mem := fun I4 => I4) (st1 := fun I4 => []) (As := [.int ((I3 k 47) + 1)]) (st := []) (q := 29) C hR (fun x h => c_X12_putsNumber (zl Z) (zG Z) ((I3 k 47) + 1) hk I3 h) hk mv_X12_putsNumber lk_X12_234 rfl (by decide) (fun _ => rfl) (Nat.le_of_ble_eq_true rfl) rfl rfl dX12_drafts_26 rfl (fun I4 => ?_)
  refine w_aload_n (v := k) C dX12_drafts_29 rfl (q := 30) rfl ?_
  refine w_bipush (v := (39)) C dX12_drafts_30 (by decide) (q := 32) rfl ?_
  refine w_callV (val := fun I5 => none) (mem := fun I5 => I5) (st1 := fun I5 => []) (As := [.int 39]) (st := []) (q := 35) C hR (fun x h => c_X12_puts (zl Z) (zG Z) ((39 : Int32)) hk I4 h) hk mv_X12_puts lk_X12_227 rfl (by decide) (fun _ => rfl) (Nat.le_of_ble_eq_true rfl) rfl rfl dX12_drafts_32 rfl (fun I5 => ?_)
  refine w_iconst (v := (0)) C dX12_drafts_35 (by decide) (q := 36) rfl ?_
  refine w_istore_n C dX12_drafts_36 (Nat.le_of_ble_eq_true rfl) (L' := [some (rf (zG Z) k), some (.int 2), some (.int 0), none, none]) rfl (q := 37) rfl ?_
  refine WF.less (L' := [some (rf (zG Z) k), some (.int 2), some (.int 0), none, none]) (w_loopF (pc := 37) (a := ((2 : Int32), (0 : Int32), I5)) (mem := fun a => a.2.2) (lo := fun a => [some (rf (zG Z) k), some (.int a.1), some (.int a.2.1), none, none]) (E := fun b13 => WM Z b13.2 137 [some (rf (zG Z) k), some (.int b13.1), none, none, none] []) (fun a => m_X12_drafts_b37_ok C hR k a.1 a.2.1 hk a.2.2 (fun _ h => h) (fun _ h => h)) ?_) ⟨rfl, rfl, rfl, trivial⟩
  intro b13
  refine w_hx ?_
  refine w_aload_n (v := k) C dX12_drafts_137 rfl (q := 138) rfl ?_
  refine w_bipush (v := (84)) C dX12_drafts_138 (by decide) (q := 140) rfl ?_
  refine w_callV (val := fun I14 => none) (mem := fun I14 => I14) (st1 := fun I14 => []) (As := [.int 84]) (st := []) (q := 143) C hR (fun x h => c_X12_puts (zl Z) (zG Z) ((84 : Int32)) hk b13.2 h) hk mv_X12_puts lk_X12_227 rfl (by decide) (fun _ => rfl) (Nat.le_of_ble_eq_true rfl) rfl rfl dX12_drafts_140 rfl (fun I14 => ?_)
  refine w_aload_n (v := k) C dX12_drafts_143 rfl (q := 144) rfl ?_
  refine w_bipush (v := (43)) C dX12_drafts_144 (by decide) (q := 146) rfl ?_
  refine w_callV (val := fun I15 => none) (mem := fun I15 => I15) (st1 := fun I15 => []) (As := [.int 43]) (st := []) (q := 149) C hR (fun x h => c_X12_puts (zl Z) (zG Z) ((43 : Int32)) hk I14 h) hk mv_X12_puts lk_X12_227 rfl (by decide) (fun _ => rfl) (Nat.le_of_ble_eq_true rfl) rfl rfl dX12_drafts_146 rfl (fun I15 => ?_)
  refine w_aload_n (v := k) C dX12_drafts_149 rfl (q := 150) rfl ?_
  refine w_iload_n (v := b13.1) C dX12_drafts_150 rfl (q := 151) rfl ?_
  refine w_callV (val := fun I16 => none) (mem := fun I16 => I16) (st1 := fun I16 => []) (As := [.int b13.1]) (st := []) (q := 154) C hR (fun x h => c_X12_putsNumber (zl Z) (zG Z) b13.1 hk I15 h) hk mv_X12_putsNumber lk_X12_234 rfl (by decide) (fun _ => rfl) (Nat.le_of_ble_eq_true rfl) rfl rfl dX12_drafts_151 rfl (fun I16 => ?_)
  refine w_aload_n (v := k) C dX12_drafts_154 rfl (q := 155) rfl ?_
  refine w_bipush (v := (43)) C dX12_drafts_155 (by decide) (q := 157) rfl ?_
  refine w_callV (val := fun I17 => none) (mem := fun I17 => I17) (st1 := fun I17 => []) (As := [.int 43]) (st := []) (q := 160) C hR (fun x h => c_X12_puts (zl Z) (zG Z) ((43 : Int32)) hk I16 h) hk mv_X12_puts lk_X12_227 rfl (by decide) (fun _ => rfl) (Nat.le_of_ble_eq_true rfl) rfl rfl dX12_drafts_157 rfl (fun I17 => ?_)
  refine w_aload_n (v := k) C dX12_drafts_160 rfl (q := 161) rfl ?_
  refine w_aload_n (v := k) C dX12_drafts_161 rfl (q := 162) rfl ?_
  refine g_X12_47 C hk lk_X12_231 dX12_drafts_162 (q := 165) rfl ?_
  refine w_iconst (v := (1)) C dX12_drafts_165 (by decide) (q := 166) rfl ?_
  refine w_iadd C dX12_drafts_166 (q := 167) rfl ?_
  refine w_callV (val := fun I18 => none) (mem := fun I18 => I18) (st1 := fun I18 => []) (As := [.int ((I17 k 47) + 1)]) (st := []) (q := 170) C hR (fun x h => c_X12_putsNumber (zl Z) (zG Z) ((I17 k 47) + 1) hk I17 h) hk mv_X12_putsNumber lk_X12_234 rfl (by decide) (fun _ => rfl) (Nat.le_of_ble_eq_true rfl) rfl rfl dX12_drafts_167 rfl (fun I18 => ?_)
  refine w_aload_n (v := k) C dX12_drafts_170 rfl (q := 171) rfl ?_
  refine w_bipush (v := (39)) C dX12_drafts_171 (by decide) (q := 173) rfl ?_
  refine w_callV (val := fun I19 => none) (mem := fun I19 => I19) (st1 := fun I19 => []) (As := [.int 39]) (st := []) (q := 176) C hR (fun x h => c_X12_puts (zl Z) (zG Z) ((39 : Int32)) hk I18 h) hk mv_X12_puts lk_X12_227 rfl (by decide) (fun _ => rfl) (Nat.le_of_ble_eq_true rfl) rfl rfl dX12_drafts_173 rfl (fun I19 => ?_)
  refine w_iload_n (v := b13.1) C dX12_drafts_176 rfl (q := 177) rfl ?_
  exact w_iret C (hK _) rfl dX12_drafts_177
theorem c_X12_drafts (l : Launch) (G : Gx) {k : Nat} (hk : isO k 12) (I : Mem) {x : Int32 × Mem} (h : m_X12_drafts k I = some x) : Ct l G yX12_drafts cX12_drafts 5 (some (.int)) 2 46 [rf G k] I (some (.int x.1)) x.2 := Ct.of (by decide +kernel) rfl (Nat.le_of_ble_eq_true rfl) ret_i (fun Z hG hl C hR hret => by
  subst hG
  exact m_X12_drafts_ok (K := fun y => y = x) C hR k hk I (fun y hy => by subst hy; exact hret) x h rfl)
def m_X12_write_b80 (k : Nat) (x2 : Int32) (I : Mem) : Option ((Int32 × Mem) ⊕ ((Mem))) :=
  if I k 44 ≤ x2 then (some (.inr (I))) else (gd (inb x2 300) (gd (inb x2 300) (gd (okc (I (k + 32) x2.toNatClampNeg)) (bnd (ms I (k + 33) x2.toNatClampNeg (I (k + 32) x2.toNatClampNeg)) fun I4 => some (.inl (x2 + 1, I4))))))
set_option maxRecDepth 100000 in
set_option maxHeartbeats 4000000 in
theorem m_X12_write_b80_ok {Z : Zx} {K : ((Int32 × Mem) ⊕ ((Mem))) → Prop} (C : Cx Z cX12_write 3 RX12) (hR : RM Z 3 70) (k : Nat) (x2 : Int32) (hk : isO k 12) (I : Mem) (hB : ∀ a, K (.inl a) → WM Z a.2 80 [some (rf (zG Z) k), none, some (.int a.1)] []) (hX0 : ∀ b, K (.inr (b)) → WM Z b 106 [some (rf (zG Z) k), none, none] []) : WF Z K (m_X12_write_b80 k x2 I) I 80 [some (rf (zG Z) k), none, some (.int x2)] [] := by
  unfold m_X12_write_b80
  refine w_iload_n (v := x2) C dX12_write_80 rfl (q := 81) rfl ?_
  refine w_aload_n (v := k) C dX12_write_81 rfl (q := 82) rfl ?_
  refine g_X12_44 C hk lk_X12_224 dX12_write_82 (q := 85) rfl ?_
  refine w_icmp_ge (tgt := 106) (q := 88) C dX12_write_85 (by decide) rfl (fun _ => ?_) (fun _ => ?_)
  · exact w_jmp (fun h => WM.less (L' := [some (rf (zG Z) k), none, none]) (hX0 _ h) ⟨rfl, trivial⟩)
  · refine w_aload_n (v := k) C dX12_write_88 rfl (q := 89) rfl ?_
    refine g_X12_45 C hk lk_X12_108 dX12_write_89 (q := 92) rfl ?_
    refine w_iload_n (v := x2) C dX12_write_92 rfl (q := 93) rfl ?_
    refine w_aload_n (v := k) C dX12_write_93 rfl (q := 94) rfl ?_
    refine g_X12_43 C hk lk_X12_105 dX12_write_94 (q := 97) rfl ?_
    refine w_iload_n (v := x2) C dX12_write_97 rfl (q := 98) rfl ?_
    refine w_cald C (st_X12_43 hk).2 dX12_write_98 (q := 99) rfl (fun _ => ?_)
    refine w_cast C (st_X12_45 hk).2 dX12_write_99 (q := 100) rfl (fun _ I4 => ?_)
    refine w_iinc (v := x2 + 1) C dX12_write_100 rfl rfl (L' := [some (rf (zG Z) k), none, some (.int (x2 + 1))]) rfl (q := 103) rfl ?_
    refine w_goto (tgt := 80) C dX12_write_103 (by decide) ?_
    exact w_jmp (fun h => WM.less (L' := [some (rf (zG Z) k), none, some (.int (x2 + 1))]) (hB _ h) ⟨rfl, rfl, trivial⟩)
def m_X12_write_j52 (k : Nat) (y0 : Nat) (y1 : Int32) (I : Mem) : Option (Int32 × Mem) :=
  Option.bind (m_X12_isFine y0 y1 I) fun r1 => if r1.1 = 0 then (some ((0, r1.2))) else (bnd (ms r1.2 k 47 ((r1.2 k 47) + 1)) fun I2 => bnd (ms I2 k 46 (I2 k 44)) fun I3 => Option.bind (loopF (fun a => m_X12_write_b80 k a.1 a.2) FU ((0 : Int32), I3)) (fun b5 => some ((b5 k 46, b5))))
set_option maxRecDepth 100000 in
set_option maxHeartbeats 4000000 in
theorem m_X12_write_j52_ok {Z : Zx} {K : (Int32 × Mem) → Prop} (C : Cx Z cX12_write 3 RX12) (hR : RM Z 3 70) (k : Nat) (y0 : Nat) (y1 : Int32) (hk : isO k 12) (hy0 : isO y0 12) (I : Mem) (hK : ∀ y, K (y) → RetI Z cX12_write .int y.1 y.2) : WF Z K (m_X12_write_j52 k y0 y1 I) I 52 [some (rf (zG Z) k), none, none] [.int y1, rf (zG Z) y0] := by
  unfold m_X12_write_j52
  refine w_callV (val := fun r1 => some (.int r1.1)) (mem := fun r1 => r1.2) (st1 := fun r1 => [.int r1.1]) (As := [.int y1]) (st := []) (q := 55) C hR (fun x h => c_X12_isFine (zl Z) (zG Z) y1 hy0 I h) hy0 mv_X12_isFine lk_X12_126 rfl (by decide) (fun _ => rfl) (Nat.le_of_ble_eq_true rfl) rfl rfl dX12_write_52 rfl (fun r1 => ?_)
  refine w_if_ne (tgt := 60) (q := 58) C dX12_write_55 (by decide) rfl (fun _ => ?_) (fun _ => ?_)
  · refine w_iconst (v := (0)) C dX12_write_58 (by decide) (q := 59) rfl ?_
    exact w_iret C (hK _) rfl dX12_write_59
  · refine w_aload_n (v := k) C dX12_write_60 rfl (q := 61) rfl ?_
    refine w_dup C dX12_write_61 rfl (q := 62) rfl ?_
    refine g_X12_47 C hk lk_X12_231 dX12_write_62 (q := 65) rfl ?_
    refine w_iconst (v := (1)) C dX12_write_65 (by decide) (q := 66) rfl ?_
    refine w_iadd C dX12_write_66 (q := 67) rfl ?_
    refine p_X12_47 C hk  lk_X12_231 dX12_write_67 (q := 70) rfl (fun I2 => ?_)
    refine w_aload_n (v := k) C dX12_write_70 rfl (q := 71) rfl ?_
    refine w_aload_n (v := k) C dX12_write_71 rfl (q := 72) rfl ?_
    refine g_X12_44 C hk lk_X12_224 dX12_write_72 (q := 75) rfl ?_
    refine p_X12_46 C hk  lk_X12_248 dX12_write_75 (q := 78) rfl (fun I3 => ?_)
    refine w_iconst (v := (0)) C dX12_write_78 (by decide) (q := 79) rfl ?_
    refine w_istore_n C dX12_write_79 (Nat.le_of_ble_eq_true rfl) (L' := [some (rf (zG Z) k), none, some (.int 0)]) rfl (q := 80) rfl ?_
    refine WF.less (L' := [some (rf (zG Z) k), none, some (.int 0)]) (w_loopF (pc := 80) (a := ((0 : Int32), I3)) (mem := fun a => a.2) (lo := fun a => [some (rf (zG Z) k), none, some (.int a.1)]) (E := fun b5 => WM Z b5 106 [some (rf (zG Z) k), none, none] []) (fun a => m_X12_write_b80_ok C hR k a.1 hk a.2 (fun _ h => h) (fun _ h => h)) ?_) ⟨rfl, rfl, trivial⟩
    intro b5
    refine w_hx ?_
    refine w_aload_n (v := k) C dX12_write_106 rfl (q := 107) rfl ?_
    refine g_X12_46 C hk lk_X12_248 dX12_write_107 (q := 110) rfl ?_
    exact w_iret C (hK _) rfl dX12_write_110
def m_X12_write_j41 (k : Nat) (y0 : Int32) (I : Mem) : Option (Int32 × Mem) :=
  if y0 = 0 then (m_X12_write_j52 k k ((1 : Int32)) I) else (m_X12_write_j52 k k ((0 : Int32)) I)
set_option maxRecDepth 100000 in
set_option maxHeartbeats 4000000 in
theorem m_X12_write_j41_ok {Z : Zx} {K : (Int32 × Mem) → Prop} (C : Cx Z cX12_write 3 RX12) (hR : RM Z 3 70) (k : Nat) (y0 : Int32) (hk : isO k 12) (I : Mem) (hK : ∀ y, K (y) → RetI Z cX12_write .int y.1 y.2) : WF Z K (m_X12_write_j41 k y0 I) I 41 [some (rf (zG Z) k), none, none] [.int y0] := by
  unfold m_X12_write_j41
  refine w_istore_n C dX12_write_41 (Nat.le_of_ble_eq_true rfl) (L' := [some (rf (zG Z) k), some (.int y0), none]) rfl (q := 42) rfl ?_
  refine w_aload_n (v := k) C dX12_write_42 rfl (q := 43) rfl ?_
  refine w_iload_n (v := y0) C dX12_write_43 rfl (q := 44) rfl ?_
  refine w_if_eq (tgt := 51) (q := 47) C dX12_write_44 (by decide) rfl (fun _ => ?_) (fun _ => ?_)
  · refine w_iconst (v := (1)) C dX12_write_51 (by decide) (q := 52) rfl ?_
    exact WF.less (L' := [some (rf (zG Z) k), none, none]) (m_X12_write_j52_ok C hR k k ((1 : Int32)) hk hk I hK) ⟨rfl, trivial⟩
  · refine w_iconst (v := (0)) C dX12_write_47 (by decide) (q := 48) rfl ?_
    refine w_goto (tgt := 52) C dX12_write_48 (by decide) ?_
    exact WF.less (L' := [some (rf (zG Z) k), none, none]) (m_X12_write_j52_ok C hR k k ((0 : Int32)) hk hk I hK) ⟨rfl, trivial⟩
def m_X12_write_j40 (k : Nat) (I : Mem) : Option (Int32 × Mem) :=
  m_X12_write_j41 k ((0 : Int32)) I
set_option maxRecDepth 100000 in
set_option maxHeartbeats 4000000 in
theorem m_X12_write_j40_ok {Z : Zx} {K : (Int32 × Mem) → Prop} (C : Cx Z cX12_write 3 RX12) (hR : RM Z 3 70) (k : Nat) (hk : isO k 12) (I : Mem) (hK : ∀ y, K (y) → RetI Z cX12_write .int y.1 y.2) : WF Z K (m_X12_write_j40 k I) I 40 [some (rf (zG Z) k), none, none] [] := by
  unfold m_X12_write_j40
  refine w_iconst (v := (0)) C dX12_write_40 (by decide) (q := 41) rfl ?_
  exact WF.less (L' := [some (rf (zG Z) k), none, none]) (m_X12_write_j41_ok C hR k ((0 : Int32)) hk I hK) ⟨rfl, trivial⟩
def m_X12_write (k : Nat) (I : Mem) : Option (Int32 × Mem) :=
  if I k 23 = 0 then (m_X12_write_j40 k I) else (if 9999 ≤ I k 47 then (m_X12_write_j40 k I) else (Option.bind (m_X12_drafts k I) fun r6 => if 20 < r6.1 then (m_X12_write_j40 k r6.2) else (if 300 < r6.2 k 44 then (m_X12_write_j40 k r6.2) else (m_X12_write_j41 k ((1 : Int32)) r6.2))))
set_option maxRecDepth 100000 in
set_option maxHeartbeats 4000000 in
theorem m_X12_write_ok {Z : Zx} {K : (Int32 × Mem) → Prop} (C : Cx Z cX12_write 3 RX12) (hR : RM Z 3 70) (k : Nat) (hk : isO k 12) (I : Mem) (hK : ∀ y, K (y) → RetI Z cX12_write .int y.1 y.2) : WF Z K (m_X12_write k I) I 0 [some (rf (zG Z) k), none, none] [] := by
  unfold m_X12_write
  refine w_aload_n (v := k) C dX12_write_0 rfl (q := 1) rfl ?_
  refine g_X12_23 C hk lk_X12_140 dX12_write_1 (q := 4) rfl ?_
  refine w_if_eq (tgt := 40) (q := 7) C dX12_write_4 (by decide) rfl (fun _ => ?_) (fun _ => ?_)
  · exact WF.less (L' := [some (rf (zG Z) k), none, none]) (m_X12_write_j40_ok C hR k hk I hK) ⟨rfl, trivial⟩
  · refine w_aload_n (v := k) C dX12_write_7 rfl (q := 8) rfl ?_
    refine g_X12_47 C hk lk_X12_231 dX12_write_8 (q := 11) rfl ?_
    refine w_sipush (v := (9999)) C dX12_write_11 (by decide) (q := 14) rfl ?_
    refine w_icmp_ge (tgt := 40) (q := 17) C dX12_write_14 (by decide) rfl (fun _ => ?_) (fun _ => ?_)
    · exact WF.less (L' := [some (rf (zG Z) k), none, none]) (m_X12_write_j40_ok C hR k hk I hK) ⟨rfl, trivial⟩
    · refine w_aload_n (v := k) C dX12_write_17 rfl (q := 18) rfl ?_
      refine w_callV (val := fun r6 => some (.int r6.1)) (mem := fun r6 => r6.2) (st1 := fun r6 => [.int r6.1]) (As := []) (st := []) (q := 21) C hR (fun x h => c_X12_drafts (zl Z) (zG Z)  hk I h) hk mv_X12_drafts lk_X12_244 rfl (by decide) (fun _ => rfl) (Nat.le_of_ble_eq_true rfl) rfl rfl dX12_write_18 rfl (fun r6 => ?_)
      refine w_bipush (v := (20)) C dX12_write_21 (by decide) (q := 23) rfl ?_
      refine w_icmp_gt (tgt := 40) (q := 26) C dX12_write_23 (by decide) rfl (fun _ => ?_) (fun _ => ?_)
      · exact WF.less (L' := [some (rf (zG Z) k), none, none]) (m_X12_write_j40_ok C hR k hk r6.2 hK) ⟨rfl, trivial⟩
      · refine w_aload_n (v := k) C dX12_write_26 rfl (q := 27) rfl ?_
        refine g_X12_44 C hk lk_X12_224 dX12_write_27 (q := 30) rfl ?_
        refine w_sipush (v := (300)) C dX12_write_30 (by decide) (q := 33) rfl ?_
        refine w_icmp_gt (tgt := 40) (q := 36) C dX12_write_33 (by decide) rfl (fun _ => ?_) (fun _ => ?_)
        · exact WF.less (L' := [some (rf (zG Z) k), none, none]) (m_X12_write_j40_ok C hR k hk r6.2 hK) ⟨rfl, trivial⟩
        · refine w_iconst (v := (1)) C dX12_write_36 (by decide) (q := 37) rfl ?_
          refine w_goto (tgt := 41) C dX12_write_37 (by decide) ?_
          exact WF.less (L' := [some (rf (zG Z) k), none, none]) (m_X12_write_j41_ok C hR k ((1 : Int32)) hk r6.2 hK) ⟨rfl, trivial⟩
theorem c_X12_write (l : Launch) (G : Gx) {k : Nat} (hk : isO k 12) (I : Mem) {x : Int32 × Mem} (h : m_X12_write k I = some x) : Ct l G yX12_write cX12_write 3 (some (.int)) 3 70 [rf G k] I (some (.int x.1)) x.2 := Ct.of (by decide +kernel) rfl (Nat.le_of_ble_eq_true rfl) ret_i (fun Z hG hl C hR hret => by
  subst hG
  exact m_X12_write_ok (K := fun y => y = x) C hR k hk I (fun y hy => by subst hy; exact hret) x h rfl)
def m_X12_written (k : Nat) (I : Mem) : Option (Int32 × Mem) :=
  bnd (ms I k 48 0) fun I1 => some ((I1 k 46, I1))
set_option maxRecDepth 100000 in
set_option maxHeartbeats 4000000 in
theorem m_X12_written_ok {Z : Zx} {K : (Int32 × Mem) → Prop} (C : Cx Z cX12_written 1 RX12) (hR : RM Z 0 0) (k : Nat) (hk : isO k 12) (I : Mem) (hK : ∀ y, K (y) → RetI Z cX12_written .int y.1 y.2) : WF Z K (m_X12_written k I) I 0 [some (rf (zG Z) k)] [] := by
  unfold m_X12_written
  refine w_aload_n (v := k) C dX12_written_0 rfl (q := 1) rfl ?_
  refine w_iconst (v := (0)) C dX12_written_1 (by decide) (q := 2) rfl ?_
  refine p_X12_48 C hk  lk_X12_111 dX12_written_2 (q := 5) rfl (fun I1 => ?_)
  refine w_aload_n (v := k) C dX12_written_5 rfl (q := 6) rfl ?_
  refine g_X12_46 C hk lk_X12_248 dX12_written_6 (q := 9) rfl ?_
  exact w_iret C (hK _) rfl dX12_written_9
theorem c_X12_written (l : Launch) (G : Gx) {k : Nat} (hk : isO k 12) (I : Mem) {x : Int32 × Mem} (h : m_X12_written k I = some x) : Ct l G yX12_written cX12_written 1 (some (.int)) 0 0 [rf G k] I (some (.int x.1)) x.2 := Ct.of (by decide +kernel) rfl (Nat.le_of_ble_eq_true rfl) ret_i (fun Z hG hl C hR hret => by
  subst hG
  exact m_X12_written_ok (K := fun y => y = x) C hR k hk I (fun y hy => by subst hy; exact hret) x h rfl)
def m_X12_letter_j20 (k : Nat) (p1 : Int32) (y0 : Nat) (y1 : Int32) (I : Mem) : Option (Int32 × Mem) :=
  Option.bind (m_X12_isFine y0 y1 I) fun r2 => if r2.1 = 0 then (some ((0, r2.2))) else (gd (inb p1 300) (gd (okc (r2.2 (k + 33) p1.toNatClampNeg)) (some ((r2.2 (k + 33) p1.toNatClampNeg, r2.2)))))
set_option maxRecDepth 100000 in
set_option maxHeartbeats 4000000 in
theorem m_X12_letter_j20_ok {Z : Zx} {K : (Int32 × Mem) → Prop} (C : Cx Z cX12_letter 2 RX12) (hR : RM Z 1 22) (k : Nat) (p1 : Int32) (y0 : Nat) (y1 : Int32) (hk : isO k 12) (hy0 : isO y0 12) (I : Mem) (hK : ∀ y, K (y) → RetI Z cX12_letter .char y.1 y.2) : WF Z K (m_X12_letter_j20 k p1 y0 y1 I) I 20 [some (rf (zG Z) k), some (.int p1)] [.int y1, rf (zG Z) y0] := by
  unfold m_X12_letter_j20
  refine w_callV (val := fun r2 => some (.int r2.1)) (mem := fun r2 => r2.2) (st1 := fun r2 => [.int r2.1]) (As := [.int y1]) (st := []) (q := 23) C hR (fun x h => c_X12_isFine (zl Z) (zG Z) y1 hy0 I h) hy0 mv_X12_isFine lk_X12_126 rfl (by decide) (fun _ => rfl) (Nat.le_of_ble_eq_true rfl) rfl rfl dX12_letter_20 rfl (fun r2 => ?_)
  refine w_if_eq (tgt := 35) (q := 26) C dX12_letter_23 (by decide) rfl (fun _ => ?_) (fun _ => ?_)
  · refine w_iconst (v := (0)) C dX12_letter_35 (by decide) (q := 36) rfl ?_
    exact w_iret C (hK _) (by decide) dX12_letter_36
  · refine w_aload_n (v := k) C dX12_letter_26 rfl (q := 27) rfl ?_
    refine g_X12_45 C hk lk_X12_108 dX12_letter_27 (q := 30) rfl ?_
    refine w_iload_n (v := p1) C dX12_letter_30 rfl (q := 31) rfl ?_
    refine w_cald C (st_X12_45 hk).2 dX12_letter_31 (q := 32) rfl (fun _ => ?_)
    refine w_goto (tgt := 36) C dX12_letter_32 (by decide) ?_
    refine w_gd (fun h3 => ?_)
    exact w_iret C (hK _) (okc_n h3).1 dX12_letter_36
def m_X12_letter (k : Nat) (p1 : Int32) (I : Mem) : Option (Int32 × Mem) :=
  Option.bind (m_X12_in p1 ((0 : Int32)) ((I k 46) - 1) I) fun r1 => if r1 = 0 then (m_X12_letter_j20 k p1 k ((1 : Int32)) I) else (m_X12_letter_j20 k p1 k ((0 : Int32)) I)
set_option maxRecDepth 100000 in
set_option maxHeartbeats 4000000 in
theorem m_X12_letter_ok {Z : Zx} {K : (Int32 × Mem) → Prop} (C : Cx Z cX12_letter 2 RX12) (hR : RM Z 1 22) (k : Nat) (p1 : Int32) (hk : isO k 12) (I : Mem) (hK : ∀ y, K (y) → RetI Z cX12_letter .char y.1 y.2) : WF Z K (m_X12_letter k p1 I) I 0 [some (rf (zG Z) k), some (.int p1)] [] := by
  unfold m_X12_letter
  refine w_aload_n (v := k) C dX12_letter_0 rfl (q := 1) rfl ?_
  refine w_iload_n (v := p1) C dX12_letter_1 rfl (q := 2) rfl ?_
  refine w_iconst (v := (0)) C dX12_letter_2 (by decide) (q := 3) rfl ?_
  refine w_aload_n (v := k) C dX12_letter_3 rfl (q := 4) rfl ?_
  refine g_X12_46 C hk lk_X12_248 dX12_letter_4 (q := 7) rfl ?_
  refine w_iconst (v := (1)) C dX12_letter_7 (by decide) (q := 8) rfl ?_
  refine w_isub C dX12_letter_8 (q := 9) rfl ?_
  refine w_callS (val := fun r1 => some (.int r1)) (mem := fun r1 => I) (st1 := fun r1 => [.int r1, rf (zG Z) k]) (As := [.int p1, .int 0, .int ((I k 46) - 1)]) (st := [rf (zG Z) k]) (q := 12) C hR (fun x h => c_X12_in (zl Z) (zG Z) p1 ((0 : Int32)) ((I k 46) - 1)  I h) mv_X12_in lk_X12_115 rfl (by decide) (fun _ => rfl) (Nat.le_of_ble_eq_true rfl) rfl rfl dX12_letter_9 rfl (fun r1 => ?_)
  refine w_if_eq (tgt := 19) (q := 15) C dX12_letter_12 (by decide) rfl (fun _ => ?_) (fun _ => ?_)
  · refine w_iconst (v := (1)) C dX12_letter_19 (by decide) (q := 20) rfl ?_
    exact WF.less (L' := [some (rf (zG Z) k), some (.int p1)]) (m_X12_letter_j20_ok C hR k p1 k ((1 : Int32)) hk hk I hK) ⟨rfl, rfl, trivial⟩
  · refine w_iconst (v := (0)) C dX12_letter_15 (by decide) (q := 16) rfl ?_
    refine w_goto (tgt := 20) C dX12_letter_16 (by decide) ?_
    exact WF.less (L' := [some (rf (zG Z) k), some (.int p1)]) (m_X12_letter_j20_ok C hR k p1 k ((0 : Int32)) hk hk I hK) ⟨rfl, rfl, trivial⟩
theorem c_X12_letter (l : Launch) (G : Gx) {k : Nat} (p1 : Int32) (hk : isO k 12) (I : Mem) {x : Int32 × Mem} (h : m_X12_letter k p1 I = some x) : Ct l G yX12_letter cX12_letter 2 (some (.char)) 1 22 [rf G k, .int p1] I (some (.int x.1)) x.2 := Ct.of (by decide +kernel) rfl (Nat.le_of_ble_eq_true rfl) ret_i (fun Z hG hl C hR hret => by
  subst hG
  exact m_X12_letter_ok (K := fun y => y = x) C hR k p1 hk I (fun y hy => by subst hy; exact hret) x h rfl)
def m_X12_feedWritten_b31 (k : Nat) (x1 : Int32) (I : Mem) : Option ((Int32 × Mem) ⊕ ((Mem))) :=
  if I k 46 ≤ x1 then (some (.inr (I))) else (gd (inb x1 300) (gd (inb (I k 13) 300) (gd (okc (I (k + 33) x1.toNatClampNeg)) (bnd (ms I (k + 10) (I k 13).toNatClampNeg (I (k + 33) x1.toNatClampNeg)) fun I2 => bnd (ms I2 k 13 ((I2 k 13) + 1)) fun I3 => some (.inl (x1 + 1, I3))))))
set_option maxRecDepth 100000 in
set_option maxHeartbeats 4000000 in
theorem m_X12_feedWritten_b31_ok {Z : Zx} {K : ((Int32 × Mem) ⊕ ((Mem))) → Prop} (C : Cx Z cX12_feedWritten 2 RX12) (hR : RM Z 1 21) (k : Nat) (x1 : Int32) (hk : isO k 12) (I : Mem) (hB : ∀ a, K (.inl a) → WM Z a.2 31 [some (rf (zG Z) k), some (.int a.1)] []) (hX0 : ∀ b, K (.inr (b)) → WM Z b 70 [some (rf (zG Z) k), none] []) : WF Z K (m_X12_feedWritten_b31 k x1 I) I 31 [some (rf (zG Z) k), some (.int x1)] [] := by
  unfold m_X12_feedWritten_b31
  refine w_iload_n (v := x1) C dX12_feedWritten_31 rfl (q := 32) rfl ?_
  refine w_aload_n (v := k) C dX12_feedWritten_32 rfl (q := 33) rfl ?_
  refine g_X12_46 C hk lk_X12_248 dX12_feedWritten_33 (q := 36) rfl ?_
  refine w_icmp_ge (tgt := 70) (q := 39) C dX12_feedWritten_36 (by decide) rfl (fun _ => ?_) (fun _ => ?_)
  · exact w_jmp (fun h => WM.less (L' := [some (rf (zG Z) k), none]) (hX0 _ h) ⟨rfl, trivial⟩)
  · refine w_aload_n (v := k) C dX12_feedWritten_39 rfl (q := 40) rfl ?_
    refine g_X12_12 C hk lk_X12_39 dX12_feedWritten_40 (q := 43) rfl ?_
    refine w_aload_n (v := k) C dX12_feedWritten_43 rfl (q := 44) rfl ?_
    refine g_X12_13 C hk lk_X12_143 dX12_feedWritten_44 (q := 47) rfl ?_
    refine w_aload_n (v := k) C dX12_feedWritten_47 rfl (q := 48) rfl ?_
    refine g_X12_45 C hk lk_X12_108 dX12_feedWritten_48 (q := 51) rfl ?_
    refine w_iload_n (v := x1) C dX12_feedWritten_51 rfl (q := 52) rfl ?_
    refine w_cald C (st_X12_45 hk).2 dX12_feedWritten_52 (q := 53) rfl (fun _ => ?_)
    refine w_cast C (st_X12_12 hk).2 dX12_feedWritten_53 (q := 54) rfl (fun _ I2 => ?_)
    refine w_aload_n (v := k) C dX12_feedWritten_54 rfl (q := 55) rfl ?_
    refine w_dup C dX12_feedWritten_55 rfl (q := 56) rfl ?_
    refine g_X12_13 C hk lk_X12_143 dX12_feedWritten_56 (q := 59) rfl ?_
    refine w_iconst (v := (1)) C dX12_feedWritten_59 (by decide) (q := 60) rfl ?_
    refine w_iadd C dX12_feedWritten_60 (q := 61) rfl ?_
    refine p_X12_13 C hk  lk_X12_143 dX12_feedWritten_61 (q := 64) rfl (fun I3 => ?_)
    refine w_iinc (v := x1 + 1) C dX12_feedWritten_64 rfl rfl (L' := [some (rf (zG Z) k), some (.int (x1 + 1))]) rfl (q := 67) rfl ?_
    refine w_goto (tgt := 31) C dX12_feedWritten_67 (by decide) ?_
    exact w_jmp (fun h => WM.less (L' := [some (rf (zG Z) k), some (.int (x1 + 1))]) (hB _ h) ⟨rfl, rfl, trivial⟩)
def m_X12_feedWritten_j21 (k : Nat) (y0 : Nat) (y1 : Int32) (I : Mem) : Option (Int32 × Mem) :=
  Option.bind (m_X12_isFine y0 y1 I) fun r1 => if r1.1 = 0 then (some ((0, r1.2))) else (Option.bind (loopF (fun a => m_X12_feedWritten_b31 k a.1 a.2) FU ((0 : Int32), r1.2)) (fun b4 => some ((b4 k 13, b4))))
set_option maxRecDepth 100000 in
set_option maxHeartbeats 4000000 in
theorem m_X12_feedWritten_j21_ok {Z : Zx} {K : (Int32 × Mem) → Prop} (C : Cx Z cX12_feedWritten 2 RX12) (hR : RM Z 1 21) (k : Nat) (y0 : Nat) (y1 : Int32) (hk : isO k 12) (hy0 : isO y0 12) (I : Mem) (hK : ∀ y, K (y) → RetI Z cX12_feedWritten .int y.1 y.2) : WF Z K (m_X12_feedWritten_j21 k y0 y1 I) I 21 [some (rf (zG Z) k), none] [.int y1, rf (zG Z) y0] := by
  unfold m_X12_feedWritten_j21
  refine w_callV (val := fun r1 => some (.int r1.1)) (mem := fun r1 => r1.2) (st1 := fun r1 => [.int r1.1]) (As := [.int y1]) (st := []) (q := 24) C hR (fun x h => c_X12_isFine (zl Z) (zG Z) y1 hy0 I h) hy0 mv_X12_isFine lk_X12_126 rfl (by decide) (fun _ => rfl) (Nat.le_of_ble_eq_true rfl) rfl rfl dX12_feedWritten_21 rfl (fun r1 => ?_)
  refine w_if_ne (tgt := 29) (q := 27) C dX12_feedWritten_24 (by decide) rfl (fun _ => ?_) (fun _ => ?_)
  · refine w_iconst (v := (0)) C dX12_feedWritten_27 (by decide) (q := 28) rfl ?_
    exact w_iret C (hK _) rfl dX12_feedWritten_28
  · refine w_iconst (v := (0)) C dX12_feedWritten_29 (by decide) (q := 30) rfl ?_
    refine w_istore_n C dX12_feedWritten_30 (Nat.le_of_ble_eq_true rfl) (L' := [some (rf (zG Z) k), some (.int 0)]) rfl (q := 31) rfl ?_
    refine WF.less (L' := [some (rf (zG Z) k), some (.int 0)]) (w_loopF (pc := 31) (a := ((0 : Int32), r1.2)) (mem := fun a => a.2) (lo := fun a => [some (rf (zG Z) k), some (.int a.1)]) (E := fun b4 => WM Z b4 70 [some (rf (zG Z) k), none] []) (fun a => m_X12_feedWritten_b31_ok C hR k a.1 hk a.2 (fun _ h => h) (fun _ h => h)) ?_) ⟨rfl, rfl, trivial⟩
    intro b4
    refine w_hx ?_
    refine w_aload_n (v := k) C dX12_feedWritten_70 rfl (q := 71) rfl ?_
    refine g_X12_13 C hk lk_X12_143 dX12_feedWritten_71 (q := 74) rfl ?_
    exact w_iret C (hK _) rfl dX12_feedWritten_74
def m_X12_feedWritten (k : Nat) (I : Mem) : Option (Int32 × Mem) :=
  if (I k 13) + (I k 46) ≤ 300 then (m_X12_feedWritten_j21 k k ((0 : Int32)) I) else (m_X12_feedWritten_j21 k k ((1 : Int32)) I)
set_option maxRecDepth 100000 in
set_option maxHeartbeats 4000000 in
theorem m_X12_feedWritten_ok {Z : Zx} {K : (Int32 × Mem) → Prop} (C : Cx Z cX12_feedWritten 2 RX12) (hR : RM Z 1 21) (k : Nat) (hk : isO k 12) (I : Mem) (hK : ∀ y, K (y) → RetI Z cX12_feedWritten .int y.1 y.2) : WF Z K (m_X12_feedWritten k I) I 0 [some (rf (zG Z) k), none] [] := by
  unfold m_X12_feedWritten
  refine w_aload_n (v := k) C dX12_feedWritten_0 rfl (q := 1) rfl ?_
  refine w_aload_n (v := k) C dX12_feedWritten_1 rfl (q := 2) rfl ?_
  refine g_X12_13 C hk lk_X12_143 dX12_feedWritten_2 (q := 5) rfl ?_
  refine w_aload_n (v := k) C dX12_feedWritten_5 rfl (q := 6) rfl ?_
  refine g_X12_46 C hk lk_X12_248 dX12_feedWritten_6 (q := 9) rfl ?_
  refine w_iadd C dX12_feedWritten_9 (q := 10) rfl ?_
  refine w_sipush (v := (300)) C dX12_feedWritten_10 (by decide) (q := 13) rfl ?_
  refine w_icmp_le (tgt := 20) (q := 16) C dX12_feedWritten_13 (by decide) rfl (fun _ => ?_) (fun _ => ?_)
  · refine w_iconst (v := (0)) C dX12_feedWritten_20 (by decide) (q := 21) rfl ?_
    exact WF.less (L' := [some (rf (zG Z) k), none]) (m_X12_feedWritten_j21_ok C hR k k ((0 : Int32)) hk hk I hK) ⟨rfl, trivial⟩
  · refine w_iconst (v := (1)) C dX12_feedWritten_16 (by decide) (q := 17) rfl ?_
    refine w_goto (tgt := 21) C dX12_feedWritten_17 (by decide) ?_
    exact WF.less (L' := [some (rf (zG Z) k), none]) (m_X12_feedWritten_j21_ok C hR k k ((1 : Int32)) hk hk I hK) ⟨rfl, trivial⟩
theorem c_X12_feedWritten (l : Launch) (G : Gx) {k : Nat} (hk : isO k 12) (I : Mem) {x : Int32 × Mem} (h : m_X12_feedWritten k I = some x) : Ct l G yX12_feedWritten cX12_feedWritten 2 (some (.int)) 1 21 [rf G k] I (some (.int x.1)) x.2 := Ct.of (by decide +kernel) rfl (Nat.le_of_ble_eq_true rfl) ret_i (fun Z hG hl C hR hret => by
  subst hG
  exact m_X12_feedWritten_ok (K := fun y => y = x) C hR k hk I (fun y hy => by subst hy; exact hret) x h rfl)
