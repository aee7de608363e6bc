theorem ko_1 : Cond.instanceMethod Lib.objectInit ∈ LT := (LT.mem (List.mem_of_getElem? (i := 75) (by decide +kernel)) (by decide +kernel))
theorem ko_2 : Cond.code Lib.objectInit ⟨#[0xb1]⟩ 1 none ∈ LT := (LT.mem (List.mem_of_getElem? (i := 76) (by decide +kernel)) (by decide +kernel))
section NA
variable {Z : Zx} {cc : ByteArray} {nL : Nat} {own : String} {R : Type} {K : R → Prop} {A : AH} {a0 s0 pc q mc ms n : Nat} {L : List (Option Value)} {st : List Value} {v : Int32} {f : AH → Option R}
theorem n_na0 (C : Cx Z cc nL own) (N : CN Z mc ms) (harr : Cond.arrayClass .int ∈ LT) (hv0 : ¬ v < 0) (hv : v.toNatClampNeg = n) (hby : n * componentBytes .int ≤ 536870912) (d : decode cc pc = .ok (.newarray .int, 2)) (hq : pc + 2 = q)
    (kk : ∀ A' : AH, WFN Z a0 s0 K (f A') A' q L (rf (zG Z) A.length :: st)) : WFN Z a0 s0 K (gd (gN A a0 s0 mc ms 1 n) (bnd (A ++ [(1, n, [])]) f)) A pc L (.int v :: st) :=
  n_newarr (t := 0) (ty := .int) C N rfl rfl (fun U cA h => h) (fun cA h => by cases h; rfl) ⟨_, rfl⟩ harr hv0 hv hby d hq kk
theorem n_na1 (C : Cx Z cc nL own) (N : CN Z mc ms) (harr : Cond.arrayClass .char ∈ LT) (hv0 : ¬ v < 0) (hv : v.toNatClampNeg = n) (hby : n * componentBytes .char ≤ 536870912) (d : decode cc pc = .ok (.newarray .char, 2)) (hq : pc + 2 = q)
    (kk : ∀ A' : AH, WFN Z a0 s0 K (f A') A' q L (rf (zG Z) A.length :: st)) : WFN Z a0 s0 K (gd (gN A a0 s0 mc ms 1 n) (bnd (A ++ [(2, n, [])]) f)) A pc L (.int v :: st) :=
  n_newarr (t := 1) (ty := .char) C N rfl rfl (fun U cA h => h) (fun cA h => by cases h; rfl) ⟨_, rfl⟩ harr hv0 hv hby d hq kk
theorem n_na2 (C : Cx Z cc nL own) (N : CN Z mc ms) (harr : Cond.arrayClass .boolean ∈ LT) (hv0 : ¬ v < 0) (hv : v.toNatClampNeg = n) (hby : n * componentBytes .boolean ≤ 536870912) (d : decode cc pc = .ok (.newarray .boolean, 2)) (hq : pc + 2 = q)
    (kk : ∀ A' : AH, WFN Z a0 s0 K (f A') A' q L (rf (zG Z) A.length :: st)) : WFN Z a0 s0 K (gd (gN A a0 s0 mc ms 1 n) (bnd (A ++ [(3, n, [])]) f)) A pc L (.int v :: st) :=
  n_newarr (t := 2) (ty := .boolean) C N rfl rfl (fun U cA h => h) (fun cA h => by cases h; rfl) ⟨_, rfl⟩ harr hv0 hv hby d hq kk
theorem n_na3 (C : Cx Z cc nL own) (N : CN Z mc ms) (harr : Cond.arrayClass .long ∈ LT) (hv0 : ¬ v < 0) (hv : v.toNatClampNeg = n) (hby : n * componentBytes .long ≤ 536870912) (d : decode cc pc = .ok (.newarray .long, 2)) (hq : pc + 2 = q)
    (kk : ∀ A' : AH, WFN Z a0 s0 K (f A') A' q L (rf (zG Z) A.length :: st)) : WFN Z a0 s0 K (gd (gN A a0 s0 mc ms 1 n) (bnd (A ++ [(4, n, [])]) f)) A pc L (.int v :: st) :=
  n_newarr (t := 3) (ty := .long) C N rfl rfl (fun U cA h => h) (fun cA h => by cases h; rfl) ⟨_, rfl⟩ harr hv0 hv hby d hq kk
end NA
theorem km_X2_1 : Cond.methodLink RX2 1 Lib.objectInit ∈ LT := (LT.mem (List.mem_of_getElem? (i := 91) (by decide +kernel)) (by decide +kernel))
def i_X2_b (k : Nat) (a0 s0 : Nat) (A : AH) : Option AH :=
  gd (gN A a0 s0 0 0 0 0) (some A)
def i_X2 (k : Nat) (A : AH) : Option AH := i_X2_b k A.length (szA A) A
set_option maxRecDepth 100000 in
set_option maxHeartbeats 4000000 in
theorem i_X2_ok {Z : Zx} {K : AH → Prop} (C : Cx Z cX2_init 1 RX2) (N : CN Z 0 0) (hnm : (zh Z).name = "<init>") (hR : RM Z 1 12) (k : Nat) (a0 s0 : Nat) (A : AH) (hK : ∀ y, K y → RetN Z cX2_init 0 0 y) : WFN Z a0 s0 K (i_X2_b k a0 s0 A) A 0 [some (rf (zG Z) k)] [] := by
  unfold i_X2_b
  refine n_aload_n (v := k) C dX2_init_0 rfl (q := 1) rfl ?_
  refine n_obj C hR km_X2_1 ko_1 ko_2 rfl (Nat.le_of_ble_eq_true rfl) (Nat.le_of_ble_eq_true rfl) dX2_init_1 (q := 4) rfl ?_
  refine n_gd (fun hg => ?_)
  exact n_vret C N (hK _) hg dX2_init_4
theorem c_i_X2 (l : Launch) (G : Gx) (k : Nat) (A : AH) {x : AH} (h : i_X2 k A = some x) : CtN l G yX2_init cX2_init 1 1 12 0 0 [rf G k] A x := CtN.of (by decide +kernel) rfl rfl (Nat.le_of_ble_eq_true rfl) (fun Z hG hl C N hnm hR hret => by
  subst hG
  exact i_X2_ok (K := fun y => y = x) C N hnm hR k _ _ A (fun y hy => by subst hy; exact hret) x h rfl)
theorem mi_X2 : MIp yX2_init cX2_init 1 0 := ⟨(LT.mem (List.mem_of_getElem? (i := 89) (by decide +kernel)) (by decide +kernel)), (LT.mem (List.mem_of_getElem? (i := 50) (by decide +kernel)) (by decide +kernel)), (LT.mem (List.mem_of_getElem? (i := 90) (by decide +kernel)) (by decide +kernel)), rfl, by decide +kernel⟩
theorem km_X0_1 : Cond.methodLink RX0 1 Lib.objectInit ∈ LT := (LT.mem (List.mem_of_getElem? (i := 109) (by decide +kernel)) (by decide +kernel))
def i_X0_b (k : Nat) (a0 s0 : Nat) (A : AH) : Option AH :=
  gd (gN A a0 s0 0 0 0 0) (some A)
def i_X0 (k : Nat) (A : AH) : Option AH := i_X0_b k A.length (szA A) A
set_option maxRecDepth 100000 in
set_option maxHeartbeats 4000000 in
theorem i_X0_ok {Z : Zx} {K : AH → Prop} (C : Cx Z cX0_init 1 RX0) (N : CN Z 0 0) (hnm : (zh Z).name = "<init>") (hR : RM Z 1 12) (k : Nat) (a0 s0 : Nat) (A : AH) (hK : ∀ y, K y → RetN Z cX0_init 0 0 y) : WFN Z a0 s0 K (i_X0_b k a0 s0 A) A 0 [some (rf (zG Z) k)] [] := by
  unfold i_X0_b
  refine n_aload_n (v := k) C dX0_init_0 rfl (q := 1) rfl ?_
  refine n_obj C hR km_X0_1 ko_1 ko_2 rfl (Nat.le_of_ble_eq_true rfl) (Nat.le_of_ble_eq_true rfl) dX0_init_1 (q := 4) rfl ?_
  refine n_gd (fun hg => ?_)
  exact n_vret C N (hK _) hg dX0_init_4
theorem c_i_X0 (l : Launch) (G : Gx) (k : Nat) (A : AH) {x : AH} (h : i_X0 k A = some x) : CtN l G yX0_init cX0_init 1 1 12 0 0 [rf G k] A x := CtN.of (by decide +kernel) rfl rfl (Nat.le_of_ble_eq_true rfl) (fun Z hG hl C N hnm hR hret => by
  subst hG
  exact i_X0_ok (K := fun y => y = x) C N hnm hR k _ _ A (fun y hy => by subst hy; exact hret) x h rfl)
theorem mi_X0 : MIp yX0_init cX0_init 1 0 := ⟨(LT.mem (List.mem_of_getElem? (i := 107) (by decide +kernel)) (by decide +kernel)), (LT.mem (List.mem_of_getElem? (i := 51) (by decide +kernel)) (by decide +kernel)), (LT.mem (List.mem_of_getElem? (i := 108) (by decide +kernel)) (by decide +kernel)), rfl, by decide +kernel⟩
theorem km_X8_3 : Cond.methodLink RX8 3 Lib.objectInit ∈ LT := (LT.mem (List.mem_of_getElem? (i := 82) (by decide +kernel)) (by decide +kernel))
theorem kc_X8_9 : Cond.classLink RX8 9 RX2 ∈ LT := (LT.mem (List.mem_of_getElem? (i := 83) (by decide +kernel)) (by decide +kernel))
theorem ko_X2 : Cond.arrayOver (.object RX2) ∈ LT := (LT.mem (List.mem_of_getElem? (i := 84) (by decide +kernel)) (by decide +kernel))
theorem kf_X8_11 : Cond.fieldLink RX8 11 "Segmentry$Schema" "itemRow" "[LSegmentry$Item;" ∈ LT := (LT.mem (List.mem_of_getElem? (i := 133) (by decide +kernel)) (by decide +kernel))
theorem kc_X8_17 : Cond.classLink RX8 17 RX0 ∈ LT := (LT.mem (List.mem_of_getElem? (i := 85) (by decide +kernel)) (by decide +kernel))
theorem ko_X0 : Cond.arrayOver (.object RX0) ∈ LT := (LT.mem (List.mem_of_getElem? (i := 86) (by decide +kernel)) (by decide +kernel))
theorem kf_X8_19 : Cond.fieldLink RX8 19 "Segmentry$Schema" "entryRow" "[LSegmentry$Entry;" ∈ LT := (LT.mem (List.mem_of_getElem? (i := 134) (by decide +kernel)) (by decide +kernel))
theorem kn_X2 : Cond.instantiable RX2 3 ∈ LT := (LT.mem (List.mem_of_getElem? (i := 87) (by decide +kernel)) (by decide +kernel))
theorem kj_X2 : Cond.initialized RX2 ∈ LT := (LT.mem (List.mem_of_getElem? (i := 50) (by decide +kernel)) (by decide +kernel))
theorem km_X8_23 : Cond.methodLinkNest RX8 23 yX2_init "Segmentry" ∈ LT := (LT.mem (List.mem_of_getElem? (i := 88) (by decide +kernel)) (by decide +kernel))
theorem kf_X8_24 : Cond.fieldLink RX8 24 "Segmentry$Schema" "noItem" "LSegmentry$Item;" ∈ LT := (LT.mem (List.mem_of_getElem? (i := 135) (by decide +kernel)) (by decide +kernel))
theorem kn_X0 : Cond.instantiable RX0 5 ∈ LT := (LT.mem (List.mem_of_getElem? (i := 105) (by decide +kernel)) (by decide +kernel))
theorem kj_X0 : Cond.initialized RX0 ∈ LT := (LT.mem (List.mem_of_getElem? (i := 51) (by decide +kernel)) (by decide +kernel))
theorem km_X8_28 : Cond.methodLinkNest RX8 28 yX0_init "Segmentry" ∈ LT := (LT.mem (List.mem_of_getElem? (i := 106) (by decide +kernel)) (by decide +kernel))
theorem kf_X8_29 : Cond.fieldLink RX8 29 "Segmentry$Schema" "noEntry" "LSegmentry$Entry;" ∈ LT := (LT.mem (List.mem_of_getElem? (i := 136) (by decide +kernel)) (by decide +kernel))
def i_X8_l46 (k : Nat) (a0 s0 : Nat) (a : Int32 × AH) : Option ((Int32 × AH) ⊕ AH) :=
  if 10 ≤ a.1 then (some (.inr a.2)) else (gd (gF a.2 k 8 0) (gd (gN a.2 a0 s0 25 114 1 3) (bnd (a.2 ++ [(0, 2, List.replicate 3 0)]) fun A11 => Option.bind (i_X2 a.2.length A11) fun A12 => gd (gC A11 A12 a0 s0 25 114 0 0) (gd (gR A12 (fA a.2 k 0) 1 10 && (inb a.1 10 && gO A12 a.2.length 2)) (bnd (setA A12 (fA a.2 k 0) (Int32.toNatClampNeg a.1) (a.2.length + 1)) fun A13 => some (.inl (a.1 + 1, A13)))))))
set_option maxRecDepth 100000 in
set_option maxHeartbeats 4000000 in
theorem i_X8_l46_ok {Z : Zx} {K : ((Int32 × AH) ⊕ AH) → Prop} (C : Cx Z cX8_init 2 RX8) (N : CN Z 25 114) (hnm : (zh Z).name = "<init>") (hR : RM Z 2 32) (k : Nat) (a0 s0 : Nat) (a : Int32 × AH) (hB : ∀ a, K (.inl a) → WN Z a0 s0 a.2 46 [some (rf (zG Z) k), some (.int a.1)] []) (hX : ∀ b, K (.inr b) → WN Z a0 s0 b 71 [some (rf (zG Z) k), none] []) : WFN Z a0 s0 K (i_X8_l46 k a0 s0 a) a.2 46 [some (rf (zG Z) k), some (.int a.1)] [] := by
  unfold i_X8_l46
  refine n_iload_n (v := a.1) C dX8_init_46 rfl (q := 47) rfl ?_
  refine n_bipush (v := 10) C dX8_init_47 (by decide) (q := 49) rfl ?_
  refine n_icmp_ge (tgt := 71) (q := 52) C dX8_init_49 (by decide) rfl (fun _ => ?_) (fun _ => ?_)
  · refine WFN.less (L' := [some (rf (zG Z) k), none]) (n_jmp (fun h => hX _ h)) ⟨rfl, trivial⟩
  · refine n_aload_n (v := k) C dX8_init_52 rfl (q := 53) rfl ?_
    refine n_getr (ci := 8) (T := TX8) (N := 7) (j := 0) C inT8 rfl (by decide +kernel) (by decide) (by decide) kf_X8_11 dX8_init_53 (q := 56) rfl ?_
    refine n_iload_n (v := a.1) C dX8_init_56 rfl (q := 57) rfl ?_
    refine n_new C N (ty := tyX2) (n := 3) (ci := 2) (T := TX2) inT2 tyX2_ok rfl rfl (by decide) kc_X8_9 kn_X2 kj_X2 dX8_init_57 (q := 60) rfl (fun A11 => ?_)
    refine n_dup C dX8_init_60 rfl (q := 61) rfl ?_
    refine n_callIN (As := []) (st := [rf (zG Z) a.2.length, .int a.1, rf (zG Z) (fA a.2 k 0)]) (dc := 0) (dn := 0) C hR N (fun _ h => c_i_X2 _ _ _ _ h) mi_X2 km_X8_23 rfl ⟨Nat.le_of_ble_eq_true rfl, Nat.le_of_ble_eq_true rfl⟩ (Nat.le_of_ble_eq_true rfl) rfl rfl dX8_init_61 (q := 64) rfl (fun A12 => ?_)
    refine n_aast (t := 1) (n := 10) (ci := 2) C rfl rfl dX8_init_64 (q := 65) rfl (fun A13 => ?_)
    refine n_iinc (v := a.1 + 1) C dX8_init_65 rfl rfl (L' := [some (rf (zG Z) k), some (.int (a.1 + 1))]) rfl (q := 68) rfl ?_
    refine n_goto (tgt := 46) C dX8_init_68 (by decide) ?_
    exact n_jmp (fun h => hB _ h)
def i_X8_l73 (k : Nat) (a0 s0 : Nat) (a : Int32 × AH) : Option ((Int32 × AH) ⊕ AH) :=
  if 11 ≤ a.1 then (some (.inr a.2)) else (gd (gF a.2 k 8 1) (gd (gN a.2 a0 s0 25 114 1 5) (bnd (a.2 ++ [(0, 0, List.replicate 5 0)]) fun A15 => Option.bind (i_X0 a.2.length A15) fun A16 => gd (gC A15 A16 a0 s0 25 114 0 0) (gd (gR A16 (fA a.2 k 1) 0 11 && (inb a.1 11 && gO A16 a.2.length 0)) (bnd (setA A16 (fA a.2 k 1) (Int32.toNatClampNeg a.1) (a.2.length + 1)) fun A17 => some (.inl (a.1 + 1, A17)))))))
set_option maxRecDepth 100000 in
set_option maxHeartbeats 4000000 in
theorem i_X8_l73_ok {Z : Zx} {K : ((Int32 × AH) ⊕ AH) → Prop} (C : Cx Z cX8_init 2 RX8) (N : CN Z 25 114) (hnm : (zh Z).name = "<init>") (hR : RM Z 2 32) (k : Nat) (a0 s0 : Nat) (a : Int32 × AH) (hB : ∀ a, K (.inl a) → WN Z a0 s0 a.2 73 [some (rf (zG Z) k), some (.int a.1)] []) (hX : ∀ b, K (.inr b) → WN Z a0 s0 b 98 [some (rf (zG Z) k), none] []) : WFN Z a0 s0 K (i_X8_l73 k a0 s0 a) a.2 73 [some (rf (zG Z) k), some (.int a.1)] [] := by
  unfold i_X8_l73
  refine n_iload_n (v := a.1) C dX8_init_73 rfl (q := 74) rfl ?_
  refine n_bipush (v := 11) C dX8_init_74 (by decide) (q := 76) rfl ?_
  refine n_icmp_ge (tgt := 98) (q := 79) C dX8_init_76 (by decide) rfl (fun _ => ?_) (fun _ => ?_)
  · refine WFN.less (L' := [some (rf (zG Z) k), none]) (n_jmp (fun h => hX _ h)) ⟨rfl, trivial⟩
  · refine n_aload_n (v := k) C dX8_init_79 rfl (q := 80) rfl ?_
    refine n_getr (ci := 8) (T := TX8) (N := 7) (j := 1) C inT8 rfl (by decide +kernel) (by decide) (by decide) kf_X8_19 dX8_init_80 (q := 83) rfl ?_
    refine n_iload_n (v := a.1) C dX8_init_83 rfl (q := 84) rfl ?_
    refine n_new C N (ty := tyX0) (n := 5) (ci := 0) (T := TX0) inT0 tyX0_ok rfl rfl (by decide) kc_X8_17 kn_X0 kj_X0 dX8_init_84 (q := 87) rfl (fun A15 => ?_)
    refine n_dup C dX8_init_87 rfl (q := 88) rfl ?_
    refine n_callIN (As := []) (st := [rf (zG Z) a.2.length, .int a.1, rf (zG Z) (fA a.2 k 1)]) (dc := 0) (dn := 0) C hR N (fun _ h => c_i_X0 _ _ _ _ h) mi_X0 km_X8_28 rfl ⟨Nat.le_of_ble_eq_true rfl, Nat.le_of_ble_eq_true rfl⟩ (Nat.le_of_ble_eq_true rfl) rfl rfl dX8_init_88 (q := 91) rfl (fun A16 => ?_)
    refine n_aast (t := 0) (n := 11) (ci := 0) C rfl rfl dX8_init_91 (q := 92) rfl (fun A17 => ?_)
    refine n_iinc (v := a.1 + 1) C dX8_init_92 rfl rfl (L' := [some (rf (zG Z) k), some (.int (a.1 + 1))]) rfl (q := 95) rfl ?_
    refine n_goto (tgt := 73) C dX8_init_95 (by decide) ?_
    exact n_jmp (fun h => hB _ h)
def i_X8_b (k : Nat) (a0 s0 : Nat) (A : AH) : Option AH :=
  gd (gN A a0 s0 25 114 1 10) (bnd (A ++ [(6, 10, List.replicate 10 0)]) fun A1 => gd (gO A1 k 8) (bnd (setA A1 k 0 (A.length + 1)) fun A2 => gd (gN A2 a0 s0 25 114 1 11) (bnd (A2 ++ [(5, 11, List.replicate 11 0)]) fun A3 => gd (gO A3 k 8) (bnd (setA A3 k 1 (A2.length + 1)) fun A4 => gd (gN A4 a0 s0 25 114 1 3) (bnd (A4 ++ [(0, 2, List.replicate 3 0)]) fun A5 => Option.bind (i_X2 A4.length A5) fun A6 => gd (gC A5 A6 a0 s0 25 114 0 0) (gd (gO A6 k 8) (bnd (setA A6 k 2 (A4.length + 1)) fun A7 => gd (gN A7 a0 s0 25 114 1 5) (bnd (A7 ++ [(0, 0, List.replicate 5 0)]) fun A8 => Option.bind (i_X0 A7.length A8) fun A9 => gd (gC A8 A9 a0 s0 25 114 0 0) (gd (gO A9 k 8) (bnd (setA A9 k 3 (A7.length + 1)) fun A10 => Option.bind (loopF (i_X8_l46 k a0 s0) FUN (0, A10)) fun A14 => Option.bind (loopF (i_X8_l73 k a0 s0) FUN (0, A14)) fun A18 => gd (gN A18 a0 s0 25 114 0 0) (some A18)))))))))))
def i_X8 (k : Nat) (A : AH) : Option AH := i_X8_b k A.length (szA A) A
set_option maxRecDepth 100000 in
set_option maxHeartbeats 4000000 in
theorem i_X8_ok {Z : Zx} {K : AH → Prop} (C : Cx Z cX8_init 2 RX8) (N : CN Z 25 114) (hnm : (zh Z).name = "<init>") (hR : RM Z 2 32) (k : Nat) (a0 s0 : Nat) (A : AH) (hK : ∀ y, K y → RetN Z cX8_init 25 114 y) : WFN Z a0 s0 K (i_X8_b k a0 s0 A) A 0 [some (rf (zG Z) k), none] [] := by
  unfold i_X8_b
  refine n_aload_n (v := k) C dX8_init_0 rfl (q := 1) rfl ?_
  refine n_obj C hR km_X8_3 ko_1 ko_2 rfl (Nat.le_of_ble_eq_true rfl) (Nat.le_of_ble_eq_true rfl) dX8_init_1 (q := 4) rfl ?_
  refine n_aload_n (v := k) C dX8_init_4 rfl (q := 5) rfl ?_
  refine n_bipush (v := 10) C dX8_init_5 (by decide) (q := 7) rfl ?_
  refine n_newref (t := 1) (n := 10) (v := 10) (Cn := RX2) C N rfl kc_X8_9 ko_X2 (by decide) (by decide) (by decide) dX8_init_7 (q := 10) rfl (fun A1 => ?_)
  refine n_put (code := (A.length + 1)) (ci := 8) (T := TX8) (N := 7) (j := 0) (ty0 := tyX8) (ty := (.array (.object "Segmentry$Item"))) C inT8 tyX8_ok nmX8 rfl (by decide +kernel) (by decide) kf_X8_11 (Or.inr ⟨rfl, hnm, rfl⟩) (by decide +kernel) rfl rfl (by simp [fvA, show ¬ fk 8 0 = 0 by decide]; rfl) dX8_init_10 (q := 13) rfl (fun A2 => ?_)
  refine n_aload_n (v := k) C dX8_init_13 rfl (q := 14) rfl ?_
  refine n_bipush (v := 11) C dX8_init_14 (by decide) (q := 16) rfl ?_
  refine n_newref (t := 0) (n := 11) (v := 11) (Cn := RX0) C N rfl kc_X8_17 ko_X0 (by decide) (by decide) (by decide) dX8_init_16 (q := 19) rfl (fun A3 => ?_)
  refine n_put (code := (A2.length + 1)) (ci := 8) (T := TX8) (N := 7) (j := 1) (ty0 := tyX8) (ty := (.array (.object "Segmentry$Entry"))) C inT8 tyX8_ok nmX8 rfl (by decide +kernel) (by decide) kf_X8_19 (Or.inr ⟨rfl, hnm, rfl⟩) (by decide +kernel) rfl rfl (by simp [fvA, show ¬ fk 8 1 = 0 by decide]; rfl) dX8_init_19 (q := 22) rfl (fun A4 => ?_)
  refine n_aload_n (v := k) C dX8_init_22 rfl (q := 23) rfl ?_
  refine n_new C N (ty := tyX2) (n := 3) (ci := 2) (T := TX2) inT2 tyX2_ok rfl rfl (by decide) kc_X8_9 kn_X2 kj_X2 dX8_init_23 (q := 26) rfl (fun A5 => ?_)
  refine n_dup C dX8_init_26 rfl (q := 27) rfl ?_
  refine n_callIN (As := []) (st := [rf (zG Z) A4.length, rf (zG Z) k]) (dc := 0) (dn := 0) C hR N (fun _ h => c_i_X2 _ _ _ _ h) mi_X2 km_X8_23 rfl ⟨Nat.le_of_ble_eq_true rfl, Nat.le_of_ble_eq_true rfl⟩ (Nat.le_of_ble_eq_true rfl) rfl rfl dX8_init_27 (q := 30) rfl (fun A6 => ?_)
  refine n_put (code := (A4.length + 1)) (ci := 8) (T := TX8) (N := 7) (j := 2) (ty0 := tyX8) (ty := (.object "Segmentry$Item")) C inT8 tyX8_ok nmX8 rfl (by decide +kernel) (by decide) kf_X8_24 (Or.inr ⟨rfl, hnm, rfl⟩) (by decide +kernel) rfl rfl (by simp [fvA, show ¬ fk 8 2 = 0 by decide]; rfl) dX8_init_30 (q := 33) rfl (fun A7 => ?_)
  refine n_aload_n (v := k) C dX8_init_33 rfl (q := 34) rfl ?_
  refine n_new C N (ty := tyX0) (n := 5) (ci := 0) (T := TX0) inT0 tyX0_ok rfl rfl (by decide) kc_X8_17 kn_X0 kj_X0 dX8_init_34 (q := 37) rfl (fun A8 => ?_)
  refine n_dup C dX8_init_37 rfl (q := 38) rfl ?_
  refine n_callIN (As := []) (st := [rf (zG Z) A7.length, rf (zG Z) k]) (dc := 0) (dn := 0) C hR N (fun _ h => c_i_X0 _ _ _ _ h) mi_X0 km_X8_28 rfl ⟨Nat.le_of_ble_eq_true rfl, Nat.le_of_ble_eq_true rfl⟩ (Nat.le_of_ble_eq_true rfl) rfl rfl dX8_init_38 (q := 41) rfl (fun A9 => ?_)
  refine n_put (code := (A7.length + 1)) (ci := 8) (T := TX8) (N := 7) (j := 3) (ty0 := tyX8) (ty := (.object "Segmentry$Entry")) C inT8 tyX8_ok nmX8 rfl (by decide +kernel) (by decide) kf_X8_29 (Or.inr ⟨rfl, hnm, rfl⟩) (by decide +kernel) rfl rfl (by simp [fvA, show ¬ fk 8 3 = 0 by decide]; rfl) dX8_init_41 (q := 44) rfl (fun A10 => ?_)
  refine n_iconst (v := 0) C dX8_init_44 (by decide) (q := 45) rfl ?_
  refine n_istore_n C dX8_init_45 (Nat.le_of_ble_eq_true rfl) (L' := [some (rf (zG Z) k), some (.int 0)]) rfl (q := 46) rfl ?_
  refine n_loopF (body := i_X8_l46 k a0 s0) (ah := fun a => a.2) (lo := fun a => [some (rf (zG Z) k), some (.int a.1)]) (a := (0, A10)) (E := fun b => WN Z a0 s0 b 71 [some (rf (zG Z) k), none] []) (fun a => i_X8_l46_ok C N hnm hR k a0 s0 a (fun a h => h) (fun b h => h)) (fun A14 => ?_)
  show WFN Z a0 s0 K _ _ 71 [some (rf (zG Z) k), none] []
  refine n_iconst (v := 0) C dX8_init_71 (by decide) (q := 72) rfl ?_
  refine n_istore_n C dX8_init_72 (Nat.le_of_ble_eq_true rfl) (L' := [some (rf (zG Z) k), some (.int 0)]) rfl (q := 73) rfl ?_
  refine n_loopF (body := i_X8_l73 k a0 s0) (ah := fun a => a.2) (lo := fun a => [some (rf (zG Z) k), some (.int a.1)]) (a := (0, A14)) (E := fun b => WN Z a0 s0 b 98 [some (rf (zG Z) k), none] []) (fun a => i_X8_l73_ok C N hnm hR k a0 s0 a (fun a h => h) (fun b h => h)) (fun A18 => ?_)
  show WFN Z a0 s0 K _ _ 98 [some (rf (zG Z) k), none] []
  refine n_gd (fun hg => ?_)
  exact n_vret C N (hK _) hg dX8_init_98
theorem c_i_X8 (l : Launch) (G : Gx) (k : Nat) (A : AH) {x : AH} (h : i_X8 k A = some x) : CtN l G yX8_init cX8_init 2 2 32 25 114 [rf G k] A x := CtN.of (by decide +kernel) rfl rfl (Nat.le_of_ble_eq_true rfl) (fun Z hG hl C N hnm hR hret => by
  subst hG
  exact i_X8_ok (K := fun y => y = x) C N hnm hR k _ _ A (fun y hy => by subst hy; exact hret) x h rfl)
theorem mi_X8 : MIp yX8_init cX8_init 2 0 := ⟨(LT.mem (List.mem_of_getElem? (i := 80) (by decide +kernel)) (by decide +kernel)), (LT.mem (List.mem_of_getElem? (i := 49) (by decide +kernel)) (by decide +kernel)), (LT.mem (List.mem_of_getElem? (i := 81) (by decide +kernel)) (by decide +kernel)), rfl, by decide +kernel⟩
theorem km_X10_3 : Cond.methodLink RX10 3 Lib.objectInit ∈ LT := (LT.mem (List.mem_of_getElem? (i := 160) (by decide +kernel)) (by decide +kernel))
theorem ka_1 : Cond.arrayClass .char ∈ LT := (LT.mem (List.mem_of_getElem? (i := 171) (by decide +kernel)) (by decide +kernel))
theorem kf_X10_9 : Cond.fieldLink RX10 9 "Segmentry$Sheet" "row" "[C" ∈ LT := (LT.mem (List.mem_of_getElem? (i := 161) (by decide +kernel)) (by decide +kernel))
def i_X10_b (k : Nat) (a0 s0 : Nat) (A : AH) : Option AH :=
  gd (gN A a0 s0 1 300 1 300) (bnd (A ++ [(2, 300, [])]) fun A1 => gd (gO A1 k 10) (bnd (setA A1 k 0 (A.length + 1)) fun A2 => gd (gN A2 a0 s0 1 300 0 0) (some A2)))
def i_X10 (k : Nat) (A : AH) : Option AH := i_X10_b k A.length (szA A) A
set_option maxRecDepth 100000 in
set_option maxHeartbeats 4000000 in
theorem i_X10_ok {Z : Zx} {K : AH → Prop} (C : Cx Z cX10_init 1 RX10) (N : CN Z 1 300) (hnm : (zh Z).name = "<init>") (hR : RM Z 1 12) (k : Nat) (a0 s0 : Nat) (A : AH) (hK : ∀ y, K y → RetN Z cX10_init 1 300 y) : WFN Z a0 s0 K (i_X10_b k a0 s0 A) A 0 [some (rf (zG Z) k)] [] := by
  unfold i_X10_b
  refine n_aload_n (v := k) C dX10_init_0 rfl (q := 1) rfl ?_
  refine n_obj C hR km_X10_3 ko_1 ko_2 rfl (Nat.le_of_ble_eq_true rfl) (Nat.le_of_ble_eq_true rfl) dX10_init_1 (q := 4) rfl ?_
  refine n_aload_n (v := k) C dX10_init_4 rfl (q := 5) rfl ?_
  refine n_sipush (v := 300) C dX10_init_5 (by decide) (q := 8) rfl ?_
  refine n_na1 (v := 300) (n := 300) C N ka_1 (by decide) (by decide) (by decide) dX10_init_8 (q := 10) rfl (fun A1 => ?_)
  refine n_put (code := (A.length + 1)) (ci := 10) (T := TX10) (N := 3) (j := 0) (ty0 := tyX10) (ty := (.array .char)) C inT10 tyX10_ok nmX10 rfl (by decide +kernel) (by decide) kf_X10_9 (Or.inr ⟨rfl, hnm, rfl⟩) (by decide +kernel) rfl rfl (by simp [fvA, show ¬ fk 10 0 = 0 by decide]; rfl) dX10_init_10 (q := 13) rfl (fun A2 => ?_)
  refine n_gd (fun hg => ?_)
  exact n_vret C N (hK _) hg dX10_init_13
theorem c_i_X10 (l : Launch) (G : Gx) (k : Nat) (A : AH) {x : AH} (h : i_X10 k A = some x) : CtN l G yX10_init cX10_init 1 1 12 1 300 [rf G k] A x := CtN.of (by decide +kernel) rfl rfl (Nat.le_of_ble_eq_true rfl) (fun Z hG hl C N hnm hR hret => by
  subst hG
  exact i_X10_ok (K := fun y => y = x) C N hnm hR k _ _ A (fun y hy => by subst hy; exact hret) x h rfl)
theorem mi_X10 : MIp yX10_init cX10_init 1 0 := ⟨(LT.mem (List.mem_of_getElem? (i := 158) (by decide +kernel)) (by decide +kernel)), (LT.mem (List.mem_of_getElem? (i := 52) (by decide +kernel)) (by decide +kernel)), (LT.mem (List.mem_of_getElem? (i := 159) (by decide +kernel)) (by decide +kernel)), rfl, by decide +kernel⟩
theorem km_X1_3 : Cond.methodLink RX1 3 Lib.objectInit ∈ LT := (LT.mem (List.mem_of_getElem? (i := 177) (by decide +kernel)) (by decide +kernel))
theorem ka_0 : Cond.arrayClass .int ∈ LT := (LT.mem (List.mem_of_getElem? (i := 188) (by decide +kernel)) (by decide +kernel))
theorem kf_X1_9 : Cond.fieldLink RX1 9 "Segmentry$Faults" "kinds" "[I" ∈ LT := (LT.mem (List.mem_of_getElem? (i := 178) (by decide +kernel)) (by decide +kernel))
theorem kf_X1_15 : Cond.fieldLink RX1 15 "Segmentry$Faults" "places" "[I" ∈ LT := (LT.mem (List.mem_of_getElem? (i := 179) (by decide +kernel)) (by decide +kernel))
def i_X1_b (k : Nat) (a0 s0 : Nat) (A : AH) : Option AH :=
  gd (gN A a0 s0 2 282 1 141) (bnd (A ++ [(1, 141, [])]) fun A1 => gd (gO A1 k 1) (bnd (setA A1 k 0 (A.length + 1)) fun A2 => gd (gN A2 a0 s0 2 282 1 141) (bnd (A2 ++ [(1, 141, [])]) fun A3 => gd (gO A3 k 1) (bnd (setA A3 k 1 (A2.length + 1)) fun A4 => gd (gN A4 a0 s0 2 282 0 0) (some A4)))))
def i_X1 (k : Nat) (A : AH) : Option AH := i_X1_b k A.length (szA A) A
set_option maxRecDepth 100000 in
set_option maxHeartbeats 4000000 in
theorem i_X1_ok {Z : Zx} {K : AH → Prop} (C : Cx Z cX1_init 1 RX1) (N : CN Z 2 282) (hnm : (zh Z).name = "<init>") (hR : RM Z 1 12) (k : Nat) (a0 s0 : Nat) (A : AH) (hK : ∀ y, K y → RetN Z cX1_init 2 282 y) : WFN Z a0 s0 K (i_X1_b k a0 s0 A) A 0 [some (rf (zG Z) k)] [] := by
  unfold i_X1_b
  refine n_aload_n (v := k) C dX1_init_0 rfl (q := 1) rfl ?_
  refine n_obj C hR km_X1_3 ko_1 ko_2 rfl (Nat.le_of_ble_eq_true rfl) (Nat.le_of_ble_eq_true rfl) dX1_init_1 (q := 4) rfl ?_
  refine n_aload_n (v := k) C dX1_init_4 rfl (q := 5) rfl ?_
  refine n_sipush (v := 141) C dX1_init_5 (by decide) (q := 8) rfl ?_
  refine n_na0 (v := 141) (n := 141) C N ka_0 (by decide) (by decide) (by decide) dX1_init_8 (q := 10) rfl (fun A1 => ?_)
  refine n_put (code := (A.length + 1)) (ci := 1) (T := TX1) (N := 3) (j := 0) (ty0 := tyX1) (ty := (.array .int)) C inT1 tyX1_ok nmX1 rfl (by decide +kernel) (by decide) kf_X1_9 (Or.inr ⟨rfl, hnm, rfl⟩) (by decide +kernel) rfl rfl (by simp [fvA, show ¬ fk 1 0 = 0 by decide]; rfl) dX1_init_10 (q := 13) rfl (fun A2 => ?_)
  refine n_aload_n (v := k) C dX1_init_13 rfl (q := 14) rfl ?_
  refine n_sipush (v := 141) C dX1_init_14 (by decide) (q := 17) rfl ?_
  refine n_na0 (v := 141) (n := 141) C N ka_0 (by decide) (by decide) (by decide) dX1_init_17 (q := 19) rfl (fun A3 => ?_)
  refine n_put (code := (A2.length + 1)) (ci := 1) (T := TX1) (N := 3) (j := 1) (ty0 := tyX1) (ty := (.array .int)) C inT1 tyX1_ok nmX1 rfl (by decide +kernel) (by decide) kf_X1_15 (Or.inr ⟨rfl, hnm, rfl⟩) (by decide +kernel) rfl rfl (by simp [fvA, show ¬ fk 1 1 = 0 by decide]; rfl) dX1_init_19 (q := 22) rfl (fun A4 => ?_)
  refine n_gd (fun hg => ?_)
  exact n_vret C N (hK _) hg dX1_init_22
theorem c_i_X1 (l : Launch) (G : Gx) (k : Nat) (A : AH) {x : AH} (h : i_X1 k A = some x) : CtN l G yX1_init cX1_init 1 1 12 2 282 [rf G k] A x := CtN.of (by decide +kernel) rfl rfl (Nat.le_of_ble_eq_true rfl) (fun Z hG hl C N hnm hR hret => by
  subst hG
  exact i_X1_ok (K := fun y => y = x) C N hnm hR k _ _ A (fun y hy => by subst hy; exact hret) x h rfl)
theorem mi_X1 : MIp yX1_init cX1_init 1 0 := ⟨(LT.mem (List.mem_of_getElem? (i := 175) (by decide +kernel)) (by decide +kernel)), (LT.mem (List.mem_of_getElem? (i := 53) (by decide +kernel)) (by decide +kernel)), (LT.mem (List.mem_of_getElem? (i := 176) (by decide +kernel)) (by decide +kernel)), rfl, by decide +kernel⟩
theorem km_X3_3 : Cond.methodLink RX3 3 Lib.objectInit ∈ LT := (LT.mem (List.mem_of_getElem? (i := 200) (by decide +kernel)) (by decide +kernel))
theorem kf_X3_9 : Cond.fieldLink RX3 9 "Segmentry$Matcher" "marked" "[I" ∈ LT := (LT.mem (List.mem_of_getElem? (i := 202) (by decide +kernel)) (by decide +kernel))
theorem kf_X3_15 : Cond.fieldLink RX3 15 "Segmentry$Matcher" "rests" "[I" ∈ LT := (LT.mem (List.mem_of_getElem? (i := 203) (by decide +kernel)) (by decide +kernel))
theorem kf_X3_18 : Cond.fieldLink RX3 18 "Segmentry$Matcher" "afters" "[I" ∈ LT := (LT.mem (List.mem_of_getElem? (i := 204) (by decide +kernel)) (by decide +kernel))
theorem kf_X3_21 : Cond.fieldLink RX3 21 "Segmentry$Matcher" "begun" "[I" ∈ LT := (LT.mem (List.mem_of_getElem? (i := 205) (by decide +kernel)) (by decide +kernel))
theorem kf_X3_24 : Cond.fieldLink RX3 24 "Segmentry$Matcher" "schema" "LSegmentry$Schema;" ∈ LT := (LT.mem (List.mem_of_getElem? (i := 201) (by decide +kernel)) (by decide +kernel))
def i_X3_b (k : Nat) (p1 : Nat) (a0 s0 : Nat) (A : AH) : Option AH :=
  gd (gN A a0 s0 4 43 1 10) (bnd (A ++ [(1, 10, [])]) fun A1 => gd (gO A1 k 3) (bnd (setA A1 k 1 (A.length + 1)) fun A2 => gd (gN A2 a0 s0 4 43 1 12) (bnd (A2 ++ [(1, 12, [])]) fun A3 => gd (gO A3 k 3) (bnd (setA A3 k 2 (A2.length + 1)) fun A4 => gd (gN A4 a0 s0 4 43 1 10) (bnd (A4 ++ [(1, 10, [])]) fun A5 => gd (gO A5 k 3) (bnd (setA A5 k 3 (A4.length + 1)) fun A6 => gd (gN A6 a0 s0 4 43 1 11) (bnd (A6 ++ [(1, 11, [])]) fun A7 => gd (gO A7 k 3) (bnd (setA A7 k 4 (A6.length + 1)) fun A8 => gd (gO A8 k 3) (bnd (setA A8 k 0 (p1 + 1)) fun A9 => gd (gN A9 a0 s0 4 43 0 0) (some A9))))))))))
def i_X3 (k : Nat) (p1 : Nat) (A : AH) : Option AH := i_X3_b k p1 A.length (szA A) A
set_option maxRecDepth 100000 in
set_option maxHeartbeats 4000000 in
theorem i_X3_ok {Z : Zx} {K : AH → Prop} (C : Cx Z cX3_init 2 RX3) (N : CN Z 4 43) (hnm : (zh Z).name = "<init>") (hR : RM Z 1 12) (k : Nat) (p1 : Nat) (a0 s0 : Nat) (A : AH) (hK : ∀ y, K y → RetN Z cX3_init 4 43 y) : WFN Z a0 s0 K (i_X3_b k p1 a0 s0 A) A 0 [some (rf (zG Z) k), some (rf (zG Z) p1)] [] := by
  unfold i_X3_b
  refine n_aload_n (v := k) C dX3_init_0 rfl (q := 1) rfl ?_
  refine n_obj C hR km_X3_3 ko_1 ko_2 rfl (Nat.le_of_ble_eq_true rfl) (Nat.le_of_ble_eq_true rfl) dX3_init_1 (q := 4) rfl ?_
  refine n_aload_n (v := k) C dX3_init_4 rfl (q := 5) rfl ?_
  refine n_bipush (v := 10) C dX3_init_5 (by decide) (q := 7) rfl ?_
  refine n_na0 (v := 10) (n := 10) C N ka_0 (by decide) (by decide) (by decide) dX3_init_7 (q := 9) rfl (fun A1 => ?_)
  refine n_put (code := (A.length + 1)) (ci := 3) (T := TX3) (N := 6) (j := 1) (ty0 := tyX3) (ty := (.array .int)) C inT3 tyX3_ok nmX3 rfl (by decide +kernel) (by decide) kf_X3_9 (Or.inr ⟨rfl, hnm, rfl⟩) (by decide +kernel) rfl rfl (by simp [fvA, show ¬ fk 3 1 = 0 by decide]; rfl) dX3_init_9 (q := 12) rfl (fun A2 => ?_)
  refine n_aload_n (v := k) C dX3_init_12 rfl (q := 13) rfl ?_
  refine n_bipush (v := 12) C dX3_init_13 (by decide) (q := 15) rfl ?_
  refine n_na0 (v := 12) (n := 12) C N ka_0 (by decide) (by decide) (by decide) dX3_init_15 (q := 17) rfl (fun A3 => ?_)
  refine n_put (code := (A2.length + 1)) (ci := 3) (T := TX3) (N := 6) (j := 2) (ty0 := tyX3) (ty := (.array .int)) C inT3 tyX3_ok nmX3 rfl (by decide +kernel) (by decide) kf_X3_15 (Or.inr ⟨rfl, hnm, rfl⟩) (by decide +kernel) rfl rfl (by simp [fvA, show ¬ fk 3 2 = 0 by decide]; rfl) dX3_init_17 (q := 20) rfl (fun A4 => ?_)
  refine n_aload_n (v := k) C dX3_init_20 rfl (q := 21) rfl ?_
  refine n_bipush (v := 10) C dX3_init_21 (by decide) (q := 23) rfl ?_
  refine n_na0 (v := 10) (n := 10) C N ka_0 (by decide) (by decide) (by decide) dX3_init_23 (q := 25) rfl (fun A5 => ?_)
  refine n_put (code := (A4.length + 1)) (ci := 3) (T := TX3) (N := 6) (j := 3) (ty0 := tyX3) (ty := (.array .int)) C inT3 tyX3_ok nmX3 rfl (by decide +kernel) (by decide) kf_X3_18 (Or.inr ⟨rfl, hnm, rfl⟩) (by decide +kernel) rfl rfl (by simp [fvA, show ¬ fk 3 3 = 0 by decide]; rfl) dX3_init_25 (q := 28) rfl (fun A6 => ?_)
  refine n_aload_n (v := k) C dX3_init_28 rfl (q := 29) rfl ?_
  refine n_bipush (v := 11) C dX3_init_29 (by decide) (q := 31) rfl ?_
  refine n_na0 (v := 11) (n := 11) C N ka_0 (by decide) (by decide) (by decide) dX3_init_31 (q := 33) rfl (fun A7 => ?_)
  refine n_put (code := (A6.length + 1)) (ci := 3) (T := TX3) (N := 6) (j := 4) (ty0 := tyX3) (ty := (.array .int)) C inT3 tyX3_ok nmX3 rfl (by decide +kernel) (by decide) kf_X3_21 (Or.inr ⟨rfl, hnm, rfl⟩) (by decide +kernel) rfl rfl (by simp [fvA, show ¬ fk 3 4 = 0 by decide]; rfl) dX3_init_33 (q := 36) rfl (fun A8 => ?_)
  refine n_aload_n (v := k) C dX3_init_36 rfl (q := 37) rfl ?_
  refine n_aload_n (v := p1) C dX3_init_37 rfl (q := 38) rfl ?_
  refine n_put (code := (p1 + 1)) (ci := 3) (T := TX3) (N := 6) (j := 0) (ty0 := tyX3) (ty := (.object "Segmentry$Schema")) C inT3 tyX3_ok nmX3 rfl (by decide +kernel) (by decide) kf_X3_24 (Or.inr ⟨rfl, hnm, rfl⟩) (by decide +kernel) rfl rfl (by simp [fvA, show ¬ fk 3 0 = 0 by decide]; rfl) dX3_init_38 (q := 41) rfl (fun A9 => ?_)
  refine n_gd (fun hg => ?_)
  exact n_vret C N (hK _) hg dX3_init_41
theorem c_i_X3 (l : Launch) (G : Gx) (k : Nat) (p1 : Nat) (A : AH) {x : AH} (h : i_X3 k p1 A = some x) : CtN l G yX3_init cX3_init 2 1 12 4 43 [rf G k, rf G p1] A x := CtN.of (by decide +kernel) rfl rfl (Nat.le_of_ble_eq_true rfl) (fun Z hG hl C N hnm hR hret => by
  subst hG
  exact i_X3_ok (K := fun y => y = x) C N hnm hR k p1 _ _ A (fun y hy => by subst hy; exact hret) x h rfl)
theorem mi_X3 : MIp yX3_init cX3_init 2 1 := ⟨(LT.mem (List.mem_of_getElem? (i := 198) (by decide +kernel)) (by decide +kernel)), (LT.mem (List.mem_of_getElem? (i := 55) (by decide +kernel)) (by decide +kernel)), (LT.mem (List.mem_of_getElem? (i := 199) (by decide +kernel)) (by decide +kernel)), rfl, by decide +kernel⟩
theorem km_X5_3 : Cond.methodLink RX5 3 Lib.objectInit ∈ LT := (LT.mem (List.mem_of_getElem? (i := 194) (by decide +kernel)) (by decide +kernel))
theorem kf_X5_9 : Cond.fieldLink RX5 9 "Segmentry$Reader" "faults" "LSegmentry$Faults;" ∈ LT := (LT.mem (List.mem_of_getElem? (i := 220) (by decide +kernel)) (by decide +kernel))
theorem kc_X5_15 : Cond.classLink RX5 15 RX3 ∈ LT := (LT.mem (List.mem_of_getElem? (i := 195) (by decide +kernel)) (by decide +kernel))
theorem kn_X3 : Cond.instantiable RX3 6 ∈ LT := (LT.mem (List.mem_of_getElem? (i := 196) (by decide +kernel)) (by decide +kernel))
theorem kj_X3 : Cond.initialized RX3 ∈ LT := (LT.mem (List.mem_of_getElem? (i := 55) (by decide +kernel)) (by decide +kernel))
theorem km_X5_17 : Cond.methodLink RX5 17 yX3_init ∈ LT := (LT.mem (List.mem_of_getElem? (i := 197) (by decide +kernel)) (by decide +kernel))
theorem kf_X5_20 : Cond.fieldLink RX5 20 "Segmentry$Reader" "matcher" "LSegmentry$Matcher;" ∈ LT := (LT.mem (List.mem_of_getElem? (i := 221) (by decide +kernel)) (by decide +kernel))
def i_X5_b (k : Nat) (p1 : Nat) (p2 : Nat) (a0 s0 : Nat) (A : AH) : Option AH :=
  gd (gO A k 5) (bnd (setA A k 0 (p2 + 1)) fun A1 => gd (gN A1 a0 s0 5 49 1 6) (bnd (A1 ++ [(0, 3, List.replicate 6 0)]) fun A2 => Option.bind (i_X3 A1.length p1 A2) fun A3 => gd (gC A2 A3 a0 s0 5 49 4 43) (gd (gO A3 k 5) (bnd (setA A3 k 1 (A1.length + 1)) fun A4 => gd (gN A4 a0 s0 5 49 0 0) (some A4)))))
def i_X5 (k : Nat) (p1 : Nat) (p2 : Nat) (A : AH) : Option AH := i_X5_b k p1 p2 A.length (szA A) A
set_option maxRecDepth 100000 in
set_option maxHeartbeats 4000000 in
theorem i_X5_ok {Z : Zx} {K : AH → Prop} (C : Cx Z cX5_init 3 RX5) (N : CN Z 5 49) (hnm : (zh Z).name = "<init>") (hR : RM Z 2 33) (k : Nat) (p1 : Nat) (p2 : Nat) (a0 s0 : Nat) (A : AH) (hK : ∀ y, K y → RetN Z cX5_init 5 49 y) : WFN Z a0 s0 K (i_X5_b k p1 p2 a0 s0 A) A 0 [some (rf (zG Z) k), some (rf (zG Z) p1), some (rf (zG Z) p2)] [] := by
  unfold i_X5_b
  refine n_aload_n (v := k) C dX5_init_0 rfl (q := 1) rfl ?_
  refine n_obj C hR km_X5_3 ko_1 ko_2 rfl (Nat.le_of_ble_eq_true rfl) (Nat.le_of_ble_eq_true rfl) dX5_init_1 (q := 4) rfl ?_
  refine n_aload_n (v := k) C dX5_init_4 rfl (q := 5) rfl ?_
  refine n_aload_n (v := p2) C dX5_init_5 rfl (q := 6) rfl ?_
  refine n_put (code := (p2 + 1)) (ci := 5) (T := TX5) (N := 2) (j := 0) (ty0 := tyX5) (ty := (.object "Segmentry$Faults")) C inT5 tyX5_ok nmX5 rfl (by decide +kernel) (by decide) kf_X5_9 (Or.inr ⟨rfl, hnm, rfl⟩) (by decide +kernel) rfl rfl (by simp [fvA, show ¬ fk 5 0 = 0 by decide]; rfl) dX5_init_6 (q := 9) rfl (fun A1 => ?_)
  refine n_aload_n (v := k) C dX5_init_9 rfl (q := 10) rfl ?_
  refine n_new C N (ty := tyX3) (n := 6) (ci := 3) (T := TX3) inT3 tyX3_ok rfl rfl (by decide) kc_X5_15 kn_X3 kj_X3 dX5_init_10 (q := 13) rfl (fun A2 => ?_)
  refine n_dup C dX5_init_13 rfl (q := 14) rfl ?_
  refine n_aload_n (v := p1) C dX5_init_14 rfl (q := 15) rfl ?_
  refine n_callI (As := [rf (zG Z) p1]) (st := [rf (zG Z) A1.length, rf (zG Z) k]) (dc := 4) (dn := 43) C hR N (fun _ h => c_i_X3 _ _ _ _ _ h) mi_X3 km_X5_17 rfl ⟨Nat.le_of_ble_eq_true rfl, Nat.le_of_ble_eq_true rfl⟩ (Nat.le_of_ble_eq_true rfl) rfl rfl dX5_init_15 (q := 18) rfl (fun A3 => ?_)
  refine n_put (code := (A1.length + 1)) (ci := 5) (T := TX5) (N := 2) (j := 1) (ty0 := tyX5) (ty := (.object "Segmentry$Matcher")) C inT5 tyX5_ok nmX5 rfl (by decide +kernel) (by decide) kf_X5_20 (Or.inr ⟨rfl, hnm, rfl⟩) (by decide +kernel) rfl rfl (by simp [fvA, show ¬ fk 5 1 = 0 by decide]; rfl) dX5_init_18 (q := 21) rfl (fun A4 => ?_)
  refine n_gd (fun hg => ?_)
  exact n_vret C N (hK _) hg dX5_init_21
theorem c_i_X5 (l : Launch) (G : Gx) (k : Nat) (p1 : Nat) (p2 : Nat) (A : AH) {x : AH} (h : i_X5 k p1 p2 A = some x) : CtN l G yX5_init cX5_init 3 2 33 5 49 [rf G k, rf G p1, rf G p2] A x := CtN.of (by decide +kernel) rfl rfl (Nat.le_of_ble_eq_true rfl) (fun Z hG hl C N hnm hR hret => by
  subst hG
  exact i_X5_ok (K := fun y => y = x) C N hnm hR k p1 p2 _ _ A (fun y hy => by subst hy; exact hret) x h rfl)
theorem mi_X5 : MIp yX5_init cX5_init 3 2 := ⟨(LT.mem (List.mem_of_getElem? (i := 192) (by decide +kernel)) (by decide +kernel)), (LT.mem (List.mem_of_getElem? (i := 54) (by decide +kernel)) (by decide +kernel)), (LT.mem (List.mem_of_getElem? (i := 193) (by decide +kernel)) (by decide +kernel)), rfl, by decide +kernel⟩
theorem km_X6_3 : Cond.methodLink RX6 3 Lib.objectInit ∈ LT := (LT.mem (List.mem_of_getElem? (i := 239) (by decide +kernel)) (by decide +kernel))
theorem kf_X6_9 : Cond.fieldLink RX6 9 "Segmentry$Rule" "fields" "[I" ∈ LT := (LT.mem (List.mem_of_getElem? (i := 240) (by decide +kernel)) (by decide +kernel))
def i_X6_b (k : Nat) (a0 s0 : Nat) (A : AH) : Option AH :=
  gd (gN A a0 s0 1 5 1 5) (bnd (A ++ [(1, 5, [])]) fun A1 => gd (gO A1 k 6) (bnd (setA A1 k 0 (A.length + 1)) fun A2 => gd (gN A2 a0 s0 1 5 0 0) (some A2)))
def i_X6 (k : Nat) (A : AH) : Option AH := i_X6_b k A.length (szA A) A
set_option maxRecDepth 100000 in
set_option maxHeartbeats 4000000 in
theorem i_X6_ok {Z : Zx} {K : AH → Prop} (C : Cx Z cX6_init 1 RX6) (N : CN Z 1 5) (hnm : (zh Z).name = "<init>") (hR : RM Z 1 12) (k : Nat) (a0 s0 : Nat) (A : AH) (hK : ∀ y, K y → RetN Z cX6_init 1 5 y) : WFN Z a0 s0 K (i_X6_b k a0 s0 A) A 0 [some (rf (zG Z) k)] [] := by
  unfold i_X6_b
  refine n_aload_n (v := k) C dX6_init_0 rfl (q := 1) rfl ?_
  refine n_obj C hR km_X6_3 ko_1 ko_2 rfl (Nat.le_of_ble_eq_true rfl) (Nat.le_of_ble_eq_true rfl) dX6_init_1 (q := 4) rfl ?_
  refine n_aload_n (v := k) C dX6_init_4 rfl (q := 5) rfl ?_
  refine n_iconst (v := 5) C dX6_init_5 (by decide) (q := 6) rfl ?_
  refine n_na0 (v := 5) (n := 5) C N ka_0 (by decide) (by decide) (by decide) dX6_init_6 (q := 8) rfl (fun A1 => ?_)
  refine n_put (code := (A.length + 1)) (ci := 6) (T := TX6) (N := 6) (j := 0) (ty0 := tyX6) (ty := (.array .int)) C inT6 tyX6_ok nmX6 rfl (by decide +kernel) (by decide) kf_X6_9 (Or.inr ⟨rfl, hnm, rfl⟩) (by decide +kernel) rfl rfl (by simp [fvA, show ¬ fk 6 0 = 0 by decide]; rfl) dX6_init_8 (q := 11) rfl (fun A2 => ?_)
  refine n_gd (fun hg => ?_)
  exact n_vret C N (hK _) hg dX6_init_11
theorem c_i_X6 (l : Launch) (G : Gx) (k : Nat) (A : AH) {x : AH} (h : i_X6 k A = some x) : CtN l G yX6_init cX6_init 1 1 12 1 5 [rf G k] A x := CtN.of (by decide +kernel) rfl rfl (Nat.le_of_ble_eq_true rfl) (fun Z hG hl C N hnm hR hret => by
  subst hG
  exact i_X6_ok (K := fun y => y = x) C N hnm hR k _ _ A (fun y hy => by subst hy; exact hret) x h rfl)
theorem mi_X6 : MIp yX6_init cX6_init 1 0 := ⟨(LT.mem (List.mem_of_getElem? (i := 237) (by decide +kernel)) (by decide +kernel)), (LT.mem (List.mem_of_getElem? (i := 57) (by decide +kernel)) (by decide +kernel)), (LT.mem (List.mem_of_getElem? (i := 238) (by decide +kernel)) (by decide +kernel)), rfl, by decide +kernel⟩
theorem km_X7_3 : Cond.methodLink RX7 3 Lib.objectInit ∈ LT := (LT.mem (List.mem_of_getElem? (i := 232) (by decide +kernel)) (by decide +kernel))
theorem kc_X7_9 : Cond.classLink RX7 9 RX6 ∈ LT := (LT.mem (List.mem_of_getElem? (i := 233) (by decide +kernel)) (by decide +kernel))
theorem ko_X6 : Cond.arrayOver (.object RX6) ∈ LT := (LT.mem (List.mem_of_getElem? (i := 234) (by decide +kernel)) (by decide +kernel))
theorem kf_X7_11 : Cond.fieldLink RX7 11 "Segmentry$RuleBook" "row" "[LSegmentry$Rule;" ∈ LT := (LT.mem (List.mem_of_getElem? (i := 259) (by decide +kernel)) (by decide +kernel))
theorem kn_X6 : Cond.instantiable RX6 6 ∈ LT := (LT.mem (List.mem_of_getElem? (i := 235) (by decide +kernel)) (by decide +kernel))
theorem kj_X6 : Cond.initialized RX6 ∈ LT := (LT.mem (List.mem_of_getElem? (i := 57) (by decide +kernel)) (by decide +kernel))
theorem km_X7_17 : Cond.methodLinkNest RX7 17 yX6_init "Segmentry" ∈ LT := (LT.mem (List.mem_of_getElem? (i := 236) (by decide +kernel)) (by decide +kernel))
theorem kf_X7_18 : Cond.fieldLink RX7 18 "Segmentry$RuleBook" "none" "LSegmentry$Rule;" ∈ LT := (LT.mem (List.mem_of_getElem? (i := 260) (by decide +kernel)) (by decide +kernel))
def i_X7_l26 (k : Nat) (a0 s0 : Nat) (a : Int32 × AH) : Option ((Int32 × AH) ⊕ AH) :=
  if 10 ≤ a.1 then (some (.inr a.2)) else (gd (gF a.2 k 7 0) (gd (gN a.2 a0 s0 23 131 1 6) (bnd (a.2 ++ [(0, 6, List.replicate 6 0)]) fun A6 => Option.bind (i_X6 a.2.length A6) fun A7 => gd (gC A6 A7 a0 s0 23 131 1 5) (gd (gR A7 (fA a.2 k 0) 2 10 && (inb a.1 10 && gO A7 a.2.length 6)) (bnd (setA A7 (fA a.2 k 0) (Int32.toNatClampNeg a.1) (a.2.length + 1)) fun A8 => some (.inl (a.1 + 1, A8)))))))
set_option maxRecDepth 100000 in
set_option maxHeartbeats 4000000 in
theorem i_X7_l26_ok {Z : Zx} {K : ((Int32 × AH) ⊕ AH) → Prop} (C : Cx Z cX7_init 2 RX7) (N : CN Z 23 131) (hnm : (zh Z).name = "<init>") (hR : RM Z 2 32) (k : Nat) (a0 s0 : Nat) (a : Int32 × AH) (hB : ∀ a, K (.inl a) → WN Z a0 s0 a.2 26 [some (rf (zG Z) k), some (.int a.1)] []) (hX : ∀ b, K (.inr b) → WN Z a0 s0 b 51 [some (rf (zG Z) k), none] []) : WFN Z a0 s0 K (i_X7_l26 k a0 s0 a) a.2 26 [some (rf (zG Z) k), some (.int a.1)] [] := by
  unfold i_X7_l26
  refine n_iload_n (v := a.1) C dX7_init_26 rfl (q := 27) rfl ?_
  refine n_bipush (v := 10) C dX7_init_27 (by decide) (q := 29) rfl ?_
  refine n_icmp_ge (tgt := 51) (q := 32) C dX7_init_29 (by decide) rfl (fun _ => ?_) (fun _ => ?_)
  · refine WFN.less (L' := [some (rf (zG Z) k), none]) (n_jmp (fun h => hX _ h)) ⟨rfl, trivial⟩
  · refine n_aload_n (v := k) C dX7_init_32 rfl (q := 33) rfl ?_
    refine n_getr (ci := 7) (T := TX7) (N := 3) (j := 0) C inT7 rfl (by decide +kernel) (by decide) (by decide) kf_X7_11 dX7_init_33 (q := 36) rfl ?_
    refine n_iload_n (v := a.1) C dX7_init_36 rfl (q := 37) rfl ?_
    refine n_new C N (ty := tyX6) (n := 6) (ci := 6) (T := TX6) inT6 tyX6_ok rfl rfl (by decide) kc_X7_9 kn_X6 kj_X6 dX7_init_37 (q := 40) rfl (fun A6 => ?_)
    refine n_dup C dX7_init_40 rfl (q := 41) rfl ?_
    refine n_callIN (As := []) (st := [rf (zG Z) a.2.length, .int a.1, rf (zG Z) (fA a.2 k 0)]) (dc := 1) (dn := 5) C hR N (fun _ h => c_i_X6 _ _ _ _ h) mi_X6 km_X7_17 rfl ⟨Nat.le_of_ble_eq_true rfl, Nat.le_of_ble_eq_true rfl⟩ (Nat.le_of_ble_eq_true rfl) rfl rfl dX7_init_41 (q := 44) rfl (fun A7 => ?_)
    refine n_aast (t := 2) (n := 10) (ci := 6) C rfl rfl dX7_init_44 (q := 45) rfl (fun A8 => ?_)
    refine n_iinc (v := a.1 + 1) C dX7_init_45 rfl rfl (L' := [some (rf (zG Z) k), some (.int (a.1 + 1))]) rfl (q := 48) rfl ?_
    refine n_goto (tgt := 26) C dX7_init_48 (by decide) ?_
    exact n_jmp (fun h => hB _ h)
def i_X7_b (k : Nat) (a0 s0 : Nat) (A : AH) : Option AH :=
  gd (gN A a0 s0 23 131 1 10) (bnd (A ++ [(7, 10, List.replicate 10 0)]) fun A1 => gd (gO A1 k 7) (bnd (setA A1 k 0 (A.length + 1)) fun A2 => gd (gN A2 a0 s0 23 131 1 6) (bnd (A2 ++ [(0, 6, List.replicate 6 0)]) fun A3 => Option.bind (i_X6 A2.length A3) fun A4 => gd (gC A3 A4 a0 s0 23 131 1 5) (gd (gO A4 k 7) (bnd (setA A4 k 1 (A2.length + 1)) fun A5 => Option.bind (loopF (i_X7_l26 k a0 s0) FUN (0, A5)) fun A9 => gd (gN A9 a0 s0 23 131 0 0) (some A9))))))
def i_X7 (k : Nat) (A : AH) : Option AH := i_X7_b k A.length (szA A) A
set_option maxRecDepth 100000 in
set_option maxHeartbeats 4000000 in
theorem i_X7_ok {Z : Zx} {K : AH → Prop} (C : Cx Z cX7_init 2 RX7) (N : CN Z 23 131) (hnm : (zh Z).name = "<init>") (hR : RM Z 2 32) (k : Nat) (a0 s0 : Nat) (A : AH) (hK : ∀ y, K y → RetN Z cX7_init 23 131 y) : WFN Z a0 s0 K (i_X7_b k a0 s0 A) A 0 [some (rf (zG Z) k), none] [] := by
  unfold i_X7_b
  refine n_aload_n (v := k) C dX7_init_0 rfl (q := 1) rfl ?_
  refine n_obj C hR km_X7_3 ko_1 ko_2 rfl (Nat.le_of_ble_eq_true rfl) (Nat.le_of_ble_eq_true rfl) dX7_init_1 (q := 4) rfl ?_
  refine n_aload_n (v := k) C dX7_init_4 rfl (q := 5) rfl ?_
  refine n_bipush (v := 10) C dX7_init_5 (by decide) (q := 7) rfl ?_
  refine n_newref (t := 2) (n := 10) (v := 10) (Cn := RX6) C N rfl kc_X7_9 ko_X6 (by decide) (by decide) (by decide) dX7_init_7 (q := 10) rfl (fun A1 => ?_)
  refine n_put (code := (A.length + 1)) (ci := 7) (T := TX7) (N := 3) (j := 0) (ty0 := tyX7) (ty := (.array (.object "Segmentry$Rule"))) C inT7 tyX7_ok nmX7 rfl (by decide +kernel) (by decide) kf_X7_11 (Or.inr ⟨rfl, hnm, rfl⟩) (by decide +kernel) rfl rfl (by simp [fvA, show ¬ fk 7 0 = 0 by decide]; rfl) dX7_init_10 (q := 13) rfl (fun A2 => ?_)
  refine n_aload_n (v := k) C dX7_init_13 rfl (q := 14) rfl ?_
  refine n_new C N (ty := tyX6) (n := 6) (ci := 6) (T := TX6) inT6 tyX6_ok rfl rfl (by decide) kc_X7_9 kn_X6 kj_X6 dX7_init_14 (q := 17) rfl (fun A3 => ?_)
  refine n_dup C dX7_init_17 rfl (q := 18) rfl ?_
  refine n_callIN (As := []) (st := [rf (zG Z) A2.length, rf (zG Z) k]) (dc := 1) (dn := 5) C hR N (fun _ h => c_i_X6 _ _ _ _ h) mi_X6 km_X7_17 rfl ⟨Nat.le_of_ble_eq_true rfl, Nat.le_of_ble_eq_true rfl⟩ (Nat.le_of_ble_eq_true rfl) rfl rfl dX7_init_18 (q := 21) rfl (fun A4 => ?_)
  refine n_put (code := (A2.length + 1)) (ci := 7) (T := TX7) (N := 3) (j := 1) (ty0 := tyX7) (ty := (.object "Segmentry$Rule")) C inT7 tyX7_ok nmX7 rfl (by decide +kernel) (by decide) kf_X7_18 (Or.inr ⟨rfl, hnm, rfl⟩) (by decide +kernel) rfl rfl (by simp [fvA, show ¬ fk 7 1 = 0 by decide]; rfl) dX7_init_21 (q := 24) rfl (fun A5 => ?_)
  refine n_iconst (v := 0) C dX7_init_24 (by decide) (q := 25) rfl ?_
  refine n_istore_n C dX7_init_25 (Nat.le_of_ble_eq_true rfl) (L' := [some (rf (zG Z) k), some (.int 0)]) rfl (q := 26) rfl ?_
  refine n_loopF (body := i_X7_l26 k a0 s0) (ah := fun a => a.2) (lo := fun a => [some (rf (zG Z) k), some (.int a.1)]) (a := (0, A5)) (E := fun b => WN Z a0 s0 b 51 [some (rf (zG Z) k), none] []) (fun a => i_X7_l26_ok C N hnm hR k a0 s0 a (fun a h => h) (fun b h => h)) (fun A9 => ?_)
  show WFN Z a0 s0 K _ _ 51 [some (rf (zG Z) k), none] []
  refine n_gd (fun hg => ?_)
  exact n_vret C N (hK _) hg dX7_init_51
theorem c_i_X7 (l : Launch) (G : Gx) (k : Nat) (A : AH) {x : AH} (h : i_X7 k A = some x) : CtN l G yX7_init cX7_init 2 2 32 23 131 [rf G k] A x := CtN.of (by decide +kernel) rfl rfl (Nat.le_of_ble_eq_true rfl) (fun Z hG hl C N hnm hR hret => by
  subst hG
  exact i_X7_ok (K := fun y => y = x) C N hnm hR k _ _ A (fun y hy => by subst hy; exact hret) x h rfl)
theorem mi_X7 : MIp yX7_init cX7_init 2 0 := ⟨(LT.mem (List.mem_of_getElem? (i := 230) (by decide +kernel)) (by decide +kernel)), (LT.mem (List.mem_of_getElem? (i := 56) (by decide +kernel)) (by decide +kernel)), (LT.mem (List.mem_of_getElem? (i := 231) (by decide +kernel)) (by decide +kernel)), rfl, by decide +kernel⟩
theorem km_X9_3 : Cond.methodLink RX9 3 Lib.objectInit ∈ LT := (LT.mem (List.mem_of_getElem? (i := 281) (by decide +kernel)) (by decide +kernel))
theorem kf_X9_9 : Cond.fieldLink RX9 9 "Segmentry$Segment" "letters" "[C" ∈ LT := (LT.mem (List.mem_of_getElem? (i := 282) (by decide +kernel)) (by decide +kernel))
theorem kf_X9_15 : Cond.fieldLink RX9 15 "Segmentry$Segment" "counts" "[I" ∈ LT := (LT.mem (List.mem_of_getElem? (i := 283) (by decide +kernel)) (by decide +kernel))
theorem kf_X9_19 : Cond.fieldLink RX9 19 "Segmentry$Segment" "mark" "C" ∈ LT := (LT.mem (List.mem_of_getElem? (i := 285) (by decide +kernel)) (by decide +kernel))
def i_X9_b (k : Nat) (a0 s0 : Nat) (A : AH) : Option AH :=
  gd (gN A a0 s0 2 45 1 40) (bnd (A ++ [(2, 40, [])]) fun A1 => gd (gO A1 k 9) (bnd (setA A1 k 0 (A.length + 1)) fun A2 => gd (gN A2 a0 s0 2 45 1 5) (bnd (A2 ++ [(1, 5, [])]) fun A3 => gd (gO A3 k 9) (bnd (setA A3 k 1 (A2.length + 1)) fun A4 => gd (gO A4 k 9) (bnd (setA A4 k 3 32) fun A5 => gd (gN A5 a0 s0 2 45 0 0) (some A5))))))
def i_X9 (k : Nat) (A : AH) : Option AH := i_X9_b k A.length (szA A) A
set_option maxRecDepth 100000 in
set_option maxHeartbeats 4000000 in
theorem i_X9_ok {Z : Zx} {K : AH → Prop} (C : Cx Z cX9_init 1 RX9) (N : CN Z 2 45) (hnm : (zh Z).name = "<init>") (hR : RM Z 1 12) (k : Nat) (a0 s0 : Nat) (A : AH) (hK : ∀ y, K y → RetN Z cX9_init 2 45 y) : WFN Z a0 s0 K (i_X9_b k a0 s0 A) A 0 [some (rf (zG Z) k)] [] := by
  unfold i_X9_b
  refine n_aload_n (v := k) C dX9_init_0 rfl (q := 1) rfl ?_
  refine n_obj C hR km_X9_3 ko_1 ko_2 rfl (Nat.le_of_ble_eq_true rfl) (Nat.le_of_ble_eq_true rfl) dX9_init_1 (q := 4) rfl ?_
  refine n_aload_n (v := k) C dX9_init_4 rfl (q := 5) rfl ?_
  refine n_bipush (v := 40) C dX9_init_5 (by decide) (q := 7) rfl ?_
  refine n_na1 (v := 40) (n := 40) C N ka_1 (by decide) (by decide) (by decide) dX9_init_7 (q := 9) rfl (fun A1 => ?_)
  refine n_put (code := (A.length + 1)) (ci := 9) (T := TX9) (N := 7) (j := 0) (ty0 := tyX9) (ty := (.array .char)) C inT9 tyX9_ok nmX9 rfl (by decide +kernel) (by decide) kf_X9_9 (Or.inr ⟨rfl, hnm, rfl⟩) (by decide +kernel) rfl rfl (by simp [fvA, show ¬ fk 9 0 = 0 by decide]; rfl) dX9_init_9 (q := 12) rfl (fun A2 => ?_)
  refine n_aload_n (v := k) C dX9_init_12 rfl (q := 13) rfl ?_
  refine n_iconst (v := 5) C dX9_init_13 (by decide) (q := 14) rfl ?_
  refine n_na0 (v := 5) (n := 5) C N ka_0 (by decide) (by decide) (by decide) dX9_init_14 (q := 16) rfl (fun A3 => ?_)
  refine n_put (code := (A2.length + 1)) (ci := 9) (T := TX9) (N := 7) (j := 1) (ty0 := tyX9) (ty := (.array .int)) C inT9 tyX9_ok nmX9 rfl (by decide +kernel) (by decide) kf_X9_15 (Or.inr ⟨rfl, hnm, rfl⟩) (by decide +kernel) rfl rfl (by simp [fvA, show ¬ fk 9 1 = 0 by decide]; rfl) dX9_init_16 (q := 19) rfl (fun A4 => ?_)
  refine n_aload_n (v := k) C dX9_init_19 rfl (q := 20) rfl ?_
  refine n_bipush (v := 32) C dX9_init_20 (by decide) (q := 22) rfl ?_
  refine n_put (code := 32) (ci := 9) (T := TX9) (N := 7) (j := 3) (ty0 := tyX9) (ty := .char) C inT9 tyX9_ok nmX9 rfl (by decide +kernel) (by decide) kf_X9_19 (Or.inl rfl) (by decide +kernel) (by decide) (by decide) rfl dX9_init_22 (q := 25) rfl (fun A5 => ?_)
  refine n_gd (fun hg => ?_)
  exact n_vret C N (hK _) hg dX9_init_25
theorem c_i_X9 (l : Launch) (G : Gx) (k : Nat) (A : AH) {x : AH} (h : i_X9 k A = some x) : CtN l G yX9_init cX9_init 1 1 12 2 45 [rf G k] A x := CtN.of (by decide +kernel) rfl rfl (Nat.le_of_ble_eq_true rfl) (fun Z hG hl C N hnm hR hret => by
  subst hG
  exact i_X9_ok (K := fun y => y = x) C N hnm hR k _ _ A (fun y hy => by subst hy; exact hret) x h rfl)
theorem mi_X9 : MIp yX9_init cX9_init 1 0 := ⟨(LT.mem (List.mem_of_getElem? (i := 279) (by decide +kernel)) (by decide +kernel)), (LT.mem (List.mem_of_getElem? (i := 59) (by decide +kernel)) (by decide +kernel)), (LT.mem (List.mem_of_getElem? (i := 280) (by decide +kernel)) (by decide +kernel)), rfl, by decide +kernel⟩
theorem km_X4_3 : Cond.methodLink RX4 3 Lib.objectInit ∈ LT := (LT.mem (List.mem_of_getElem? (i := 274) (by decide +kernel)) (by decide +kernel))
theorem kc_X4_9 : Cond.classLink RX4 9 RX9 ∈ LT := (LT.mem (List.mem_of_getElem? (i := 275) (by decide +kernel)) (by decide +kernel))
theorem ko_X9 : Cond.arrayOver (.object RX9) ∈ LT := (LT.mem (List.mem_of_getElem? (i := 276) (by decide +kernel)) (by decide +kernel))
theorem kf_X4_11 : Cond.fieldLink RX4 11 "Segmentry$Message" "row" "[LSegmentry$Segment;" ∈ LT := (LT.mem (List.mem_of_getElem? (i := 304) (by decide +kernel)) (by decide +kernel))
theorem kn_X9 : Cond.instantiable RX9 7 ∈ LT := (LT.mem (List.mem_of_getElem? (i := 277) (by decide +kernel)) (by decide +kernel))
theorem kj_X9 : Cond.initialized RX9 ∈ LT := (LT.mem (List.mem_of_getElem? (i := 59) (by decide +kernel)) (by decide +kernel))
theorem km_X4_17 : Cond.methodLinkNest RX4 17 yX9_init "Segmentry" ∈ LT := (LT.mem (List.mem_of_getElem? (i := 278) (by decide +kernel)) (by decide +kernel))
theorem kf_X4_18 : Cond.fieldLink RX4 18 "Segmentry$Message" "none" "LSegmentry$Segment;" ∈ LT := (LT.mem (List.mem_of_getElem? (i := 305) (by decide +kernel)) (by decide +kernel))
def i_X4_l26 (k : Nat) (a0 s0 : Nat) (a : Int32 × AH) : Option ((Int32 × AH) ⊕ AH) :=
  if 20 ≤ a.1 then (some (.inr a.2)) else (gd (gF a.2 k 4 0) (gd (gN a.2 a0 s0 64 1112 1 7) (bnd (a.2 ++ [(0, 9, List.replicate 7 0)]) fun A6 => Option.bind (i_X9 a.2.length A6) fun A7 => gd (gC A6 A7 a0 s0 64 1112 2 45) (gd (gR A7 (fA a.2 k 0) 3 20 && (inb a.1 20 && gO A7 a.2.length 9)) (bnd (setA A7 (fA a.2 k 0) (Int32.toNatClampNeg a.1) (a.2.length + 1)) fun A8 => some (.inl (a.1 + 1, A8)))))))
set_option maxRecDepth 100000 in
set_option maxHeartbeats 4000000 in
theorem i_X4_l26_ok {Z : Zx} {K : ((Int32 × AH) ⊕ AH) → Prop} (C : Cx Z cX4_init 2 RX4) (N : CN Z 64 1112) (hnm : (zh Z).name = "<init>") (hR : RM Z 2 32) (k : Nat) (a0 s0 : Nat) (a : Int32 × AH) (hB : ∀ a, K (.inl a) → WN Z a0 s0 a.2 26 [some (rf (zG Z) k), some (.int a.1)] []) (hX : ∀ b, K (.inr b) → WN Z a0 s0 b 51 [some (rf (zG Z) k), none] []) : WFN Z a0 s0 K (i_X4_l26 k a0 s0 a) a.2 26 [some (rf (zG Z) k), some (.int a.1)] [] := by
  unfold i_X4_l26
  refine n_iload_n (v := a.1) C dX4_init_26 rfl (q := 27) rfl ?_
  refine n_bipush (v := 20) C dX4_init_27 (by decide) (q := 29) rfl ?_
  refine n_icmp_ge (tgt := 51) (q := 32) C dX4_init_29 (by decide) rfl (fun _ => ?_) (fun _ => ?_)
  · refine WFN.less (L' := [some (rf (zG Z) k), none]) (n_jmp (fun h => hX _ h)) ⟨rfl, trivial⟩
  · refine n_aload_n (v := k) C dX4_init_32 rfl (q := 33) rfl ?_
    refine n_getr (ci := 4) (T := TX4) (N := 3) (j := 0) C inT4 rfl (by decide +kernel) (by decide) (by decide) kf_X4_11 dX4_init_33 (q := 36) rfl ?_
    refine n_iload_n (v := a.1) C dX4_init_36 rfl (q := 37) rfl ?_
    refine n_new C N (ty := tyX9) (n := 7) (ci := 9) (T := TX9) inT9 tyX9_ok rfl rfl (by decide) kc_X4_9 kn_X9 kj_X9 dX4_init_37 (q := 40) rfl (fun A6 => ?_)
    refine n_dup C dX4_init_40 rfl (q := 41) rfl ?_
    refine n_callIN (As := []) (st := [rf (zG Z) a.2.length, .int a.1, rf (zG Z) (fA a.2 k 0)]) (dc := 2) (dn := 45) C hR N (fun _ h => c_i_X9 _ _ _ _ h) mi_X9 km_X4_17 rfl ⟨Nat.le_of_ble_eq_true rfl, Nat.le_of_ble_eq_true rfl⟩ (Nat.le_of_ble_eq_true rfl) rfl rfl dX4_init_41 (q := 44) rfl (fun A7 => ?_)
    refine n_aast (t := 3) (n := 20) (ci := 9) C rfl rfl dX4_init_44 (q := 45) rfl (fun A8 => ?_)
    refine n_iinc (v := a.1 + 1) C dX4_init_45 rfl rfl (L' := [some (rf (zG Z) k), some (.int (a.1 + 1))]) rfl (q := 48) rfl ?_
    refine n_goto (tgt := 26) C dX4_init_48 (by decide) ?_
    exact n_jmp (fun h => hB _ h)
def i_X4_b (k : Nat) (a0 s0 : Nat) (A : AH) : Option AH :=
  gd (gN A a0 s0 64 1112 1 20) (bnd (A ++ [(8, 20, List.replicate 20 0)]) fun A1 => gd (gO A1 k 4) (bnd (setA A1 k 0 (A.length + 1)) fun A2 => gd (gN A2 a0 s0 64 1112 1 7) (bnd (A2 ++ [(0, 9, List.replicate 7 0)]) fun A3 => Option.bind (i_X9 A2.length A3) fun A4 => gd (gC A3 A4 a0 s0 64 1112 2 45) (gd (gO A4 k 4) (bnd (setA A4 k 1 (A2.length + 1)) fun A5 => Option.bind (loopF (i_X4_l26 k a0 s0) FUN (0, A5)) fun A9 => gd (gN A9 a0 s0 64 1112 0 0) (some A9))))))
def i_X4 (k : Nat) (A : AH) : Option AH := i_X4_b k A.length (szA A) A
set_option maxRecDepth 100000 in
set_option maxHeartbeats 4000000 in
theorem i_X4_ok {Z : Zx} {K : AH → Prop} (C : Cx Z cX4_init 2 RX4) (N : CN Z 64 1112) (hnm : (zh Z).name = "<init>") (hR : RM Z 2 32) (k : Nat) (a0 s0 : Nat) (A : AH) (hK : ∀ y, K y → RetN Z cX4_init 64 1112 y) : WFN Z a0 s0 K (i_X4_b k a0 s0 A) A 0 [some (rf (zG Z) k), none] [] := by
  unfold i_X4_b
  refine n_aload_n (v := k) C dX4_init_0 rfl (q := 1) rfl ?_
  refine n_obj C hR km_X4_3 ko_1 ko_2 rfl (Nat.le_of_ble_eq_true rfl) (Nat.le_of_ble_eq_true rfl) dX4_init_1 (q := 4) rfl ?_
  refine n_aload_n (v := k) C dX4_init_4 rfl (q := 5) rfl ?_
  refine n_bipush (v := 20) C dX4_init_5 (by decide) (q := 7) rfl ?_
  refine n_newref (t := 3) (n := 20) (v := 20) (Cn := RX9) C N rfl kc_X4_9 ko_X9 (by decide) (by decide) (by decide) dX4_init_7 (q := 10) rfl (fun A1 => ?_)
  refine n_put (code := (A.length + 1)) (ci := 4) (T := TX4) (N := 3) (j := 0) (ty0 := tyX4) (ty := (.array (.object "Segmentry$Segment"))) C inT4 tyX4_ok nmX4 rfl (by decide +kernel) (by decide) kf_X4_11 (Or.inr ⟨rfl, hnm, rfl⟩) (by decide +kernel) rfl rfl (by simp [fvA, show ¬ fk 4 0 = 0 by decide]; rfl) dX4_init_10 (q := 13) rfl (fun A2 => ?_)
  refine n_aload_n (v := k) C dX4_init_13 rfl (q := 14) rfl ?_
  refine n_new C N (ty := tyX9) (n := 7) (ci := 9) (T := TX9) inT9 tyX9_ok rfl rfl (by decide) kc_X4_9 kn_X9 kj_X9 dX4_init_14 (q := 17) rfl (fun A3 => ?_)
  refine n_dup C dX4_init_17 rfl (q := 18) rfl ?_
  refine n_callIN (As := []) (st := [rf (zG Z) A2.length, rf (zG Z) k]) (dc := 2) (dn := 45) C hR N (fun _ h => c_i_X9 _ _ _ _ h) mi_X9 km_X4_17 rfl ⟨Nat.le_of_ble_eq_true rfl, Nat.le_of_ble_eq_true rfl⟩ (Nat.le_of_ble_eq_true rfl) rfl rfl dX4_init_18 (q := 21) rfl (fun A4 => ?_)
  refine n_put (code := (A2.length + 1)) (ci := 4) (T := TX4) (N := 3) (j := 1) (ty0 := tyX4) (ty := (.object "Segmentry$Segment")) C inT4 tyX4_ok nmX4 rfl (by decide +kernel) (by decide) kf_X4_18 (Or.inr ⟨rfl, hnm, rfl⟩) (by decide +kernel) rfl rfl (by simp [fvA, show ¬ fk 4 1 = 0 by decide]; rfl) dX4_init_21 (q := 24) rfl (fun A5 => ?_)
  refine n_iconst (v := 0) C dX4_init_24 (by decide) (q := 25) rfl ?_
  refine n_istore_n C dX4_init_25 (Nat.le_of_ble_eq_true rfl) (L' := [some (rf (zG Z) k), some (.int 0)]) rfl (q := 26) rfl ?_
  refine n_loopF (body := i_X4_l26 k a0 s0) (ah := fun a => a.2) (lo := fun a => [some (rf (zG Z) k), some (.int a.1)]) (a := (0, A5)) (E := fun b => WN Z a0 s0 b 51 [some (rf (zG Z) k), none] []) (fun a => i_X4_l26_ok C N hnm hR k a0 s0 a (fun a h => h) (fun b h => h)) (fun A9 => ?_)
  show WFN Z a0 s0 K _ _ 51 [some (rf (zG Z) k), none] []
  refine n_gd (fun hg => ?_)
  exact n_vret C N (hK _) hg dX4_init_51
theorem c_i_X4 (l : Launch) (G : Gx) (k : Nat) (A : AH) {x : AH} (h : i_X4 k A = some x) : CtN l G yX4_init cX4_init 2 2 32 64 1112 [rf G k] A x := CtN.of (by decide +kernel) rfl rfl (Nat.le_of_ble_eq_true rfl) (fun Z hG hl C N hnm hR hret => by
  subst hG
  exact i_X4_ok (K := fun y => y = x) C N hnm hR k _ _ A (fun y hy => by subst hy; exact hret) x h rfl)
theorem mi_X4 : MIp yX4_init cX4_init 2 0 := ⟨(LT.mem (List.mem_of_getElem? (i := 272) (by decide +kernel)) (by decide +kernel)), (LT.mem (List.mem_of_getElem? (i := 58) (by decide +kernel)) (by decide +kernel)), (LT.mem (List.mem_of_getElem? (i := 273) (by decide +kernel)) (by decide +kernel)), rfl, by decide +kernel⟩
theorem km_X11_3 : Cond.methodLink RX11 3 Lib.objectInit ∈ LT := (LT.mem (List.mem_of_getElem? (i := 74) (by decide +kernel)) (by decide +kernel))
theorem kc_X11_9 : Cond.classLink RX11 9 RX8 ∈ LT := (LT.mem (List.mem_of_getElem? (i := 77) (by decide +kernel)) (by decide +kernel))
theorem kn_X8 : Cond.instantiable RX8 7 ∈ LT := (LT.mem (List.mem_of_getElem? (i := 78) (by decide +kernel)) (by decide +kernel))
theorem kj_X8 : Cond.initialized RX8 ∈ LT := (LT.mem (List.mem_of_getElem? (i := 49) (by decide +kernel)) (by decide +kernel))
theorem km_X11_11 : Cond.methodLink RX11 11 yX8_init ∈ LT := (LT.mem (List.mem_of_getElem? (i := 79) (by decide +kernel)) (by decide +kernel))
theorem kf_X11_12 : Cond.fieldLink RX11 12 "Segmentry" "schema" "LSegmentry$Schema;" ∈ LT := (LT.mem (List.mem_of_getElem? (i := 314) (by decide +kernel)) (by decide +kernel))
theorem kc_X11_16 : Cond.classLink RX11 16 RX10 ∈ LT := (LT.mem (List.mem_of_getElem? (i := 155) (by decide +kernel)) (by decide +kernel))
theorem kn_X10 : Cond.instantiable RX10 3 ∈ LT := (LT.mem (List.mem_of_getElem? (i := 156) (by decide +kernel)) (by decide +kernel))
theorem kj_X10 : Cond.initialized RX10 ∈ LT := (LT.mem (List.mem_of_getElem? (i := 52) (by decide +kernel)) (by decide +kernel))
theorem km_X11_18 : Cond.methodLinkNest RX11 18 yX10_init "Segmentry" ∈ LT := (LT.mem (List.mem_of_getElem? (i := 157) (by decide +kernel)) (by decide +kernel))
theorem kf_X11_19 : Cond.fieldLink RX11 19 "Segmentry" "text" "LSegmentry$Sheet;" ∈ LT := (LT.mem (List.mem_of_getElem? (i := 315) (by decide +kernel)) (by decide +kernel))
theorem kc_X11_23 : Cond.classLink RX11 23 RX1 ∈ LT := (LT.mem (List.mem_of_getElem? (i := 172) (by decide +kernel)) (by decide +kernel))
theorem kn_X1 : Cond.instantiable RX1 3 ∈ LT := (LT.mem (List.mem_of_getElem? (i := 173) (by decide +kernel)) (by decide +kernel))
theorem kj_X1 : Cond.initialized RX1 ∈ LT := (LT.mem (List.mem_of_getElem? (i := 53) (by decide +kernel)) (by decide +kernel))
theorem km_X11_25 : Cond.methodLinkNest RX11 25 yX1_init "Segmentry" ∈ LT := (LT.mem (List.mem_of_getElem? (i := 174) (by decide +kernel)) (by decide +kernel))
theorem kf_X11_26 : Cond.fieldLink RX11 26 "Segmentry" "faults" "LSegmentry$Faults;" ∈ LT := (LT.mem (List.mem_of_getElem? (i := 316) (by decide +kernel)) (by decide +kernel))
theorem kc_X11_30 : Cond.classLink RX11 30 RX5 ∈ LT := (LT.mem (List.mem_of_getElem? (i := 189) (by decide +kernel)) (by decide +kernel))
theorem kn_X5 : Cond.instantiable RX5 2 ∈ LT := (LT.mem (List.mem_of_getElem? (i := 190) (by decide +kernel)) (by decide +kernel))
theorem kj_X5 : Cond.initialized RX5 ∈ LT := (LT.mem (List.mem_of_getElem? (i := 54) (by decide +kernel)) (by decide +kernel))
theorem km_X11_32 : Cond.methodLink RX11 32 yX5_init ∈ LT := (LT.mem (List.mem_of_getElem? (i := 191) (by decide +kernel)) (by decide +kernel))
theorem kf_X11_35 : Cond.fieldLink RX11 35 "Segmentry" "reader" "LSegmentry$Reader;" ∈ LT := (LT.mem (List.mem_of_getElem? (i := 317) (by decide +kernel)) (by decide +kernel))
theorem kc_X11_39 : Cond.classLink RX11 39 RX7 ∈ LT := (LT.mem (List.mem_of_getElem? (i := 227) (by decide +kernel)) (by decide +kernel))
theorem kn_X7 : Cond.instantiable RX7 3 ∈ LT := (LT.mem (List.mem_of_getElem? (i := 228) (by decide +kernel)) (by decide +kernel))
theorem kj_X7 : Cond.initialized RX7 ∈ LT := (LT.mem (List.mem_of_getElem? (i := 56) (by decide +kernel)) (by decide +kernel))
theorem km_X11_41 : Cond.methodLink RX11 41 yX7_init ∈ LT := (LT.mem (List.mem_of_getElem? (i := 229) (by decide +kernel)) (by decide +kernel))
theorem kf_X11_42 : Cond.fieldLink RX11 42 "Segmentry" "rules" "LSegmentry$RuleBook;" ∈ LT := (LT.mem (List.mem_of_getElem? (i := 318) (by decide +kernel)) (by decide +kernel))
theorem kc_X11_46 : Cond.classLink RX11 46 RX4 ∈ LT := (LT.mem (List.mem_of_getElem? (i := 269) (by decide +kernel)) (by decide +kernel))
theorem kn_X4 : Cond.instantiable RX4 3 ∈ LT := (LT.mem (List.mem_of_getElem? (i := 270) (by decide +kernel)) (by decide +kernel))
theorem kj_X4 : Cond.initialized RX4 ∈ LT := (LT.mem (List.mem_of_getElem? (i := 58) (by decide +kernel)) (by decide +kernel))
theorem km_X11_48 : Cond.methodLink RX11 48 yX4_init ∈ LT := (LT.mem (List.mem_of_getElem? (i := 271) (by decide +kernel)) (by decide +kernel))
theorem kf_X11_49 : Cond.fieldLink RX11 49 "Segmentry" "accepted" "LSegmentry$Message;" ∈ LT := (LT.mem (List.mem_of_getElem? (i := 319) (by decide +kernel)) (by decide +kernel))
theorem kf_X11_53 : Cond.fieldLink RX11 53 "Segmentry" "draft" "LSegmentry$Message;" ∈ LT := (LT.mem (List.mem_of_getElem? (i := 320) (by decide +kernel)) (by decide +kernel))
theorem kf_X11_56 : Cond.fieldLink RX11 56 "Segmentry" "output" "LSegmentry$Sheet;" ∈ LT := (LT.mem (List.mem_of_getElem? (i := 324) (by decide +kernel)) (by decide +kernel))
theorem kf_X11_59 : Cond.fieldLink RX11 59 "Segmentry" "outputDraft" "LSegmentry$Sheet;" ∈ LT := (LT.mem (List.mem_of_getElem? (i := 325) (by decide +kernel)) (by decide +kernel))
def i_X11_b (k : Nat) (a0 s0 : Nat) (A : AH) : Option AH :=
  gd (gN A a0 s0 195 3730 1 7) (bnd (A ++ [(0, 8, List.replicate 7 0)]) fun A1 => Option.bind (i_X8 A.length A1) fun A2 => gd (gC A1 A2 a0 s0 195 3730 25 114) (gd (gO A2 k 11) (bnd (setA A2 k 0 (A.length + 1)) fun A3 => gd (gN A3 a0 s0 195 3730 1 3) (bnd (A3 ++ [(0, 10, List.replicate 3 0)]) fun A4 => Option.bind (i_X10 A3.length A4) fun A5 => gd (gC A4 A5 a0 s0 195 3730 1 300) (gd (gO A5 k 11) (bnd (setA A5 k 1 (A3.length + 1)) fun A6 => gd (gN A6 a0 s0 195 3730 1 3) (bnd (A6 ++ [(0, 1, List.replicate 3 0)]) fun A7 => Option.bind (i_X1 A6.length A7) fun A8 => gd (gC A7 A8 a0 s0 195 3730 2 282) (gd (gO A8 k 11) (bnd (setA A8 k 2 (A6.length + 1)) fun A9 => gd (gN A9 a0 s0 195 3730 1 2) (bnd (A9 ++ [(0, 5, List.replicate 2 0)]) fun A10 => gd (gF A10 k 11 0) (gd (gF A10 k 11 2) (Option.bind (i_X5 A9.length (fA A10 k 0) (fA A10 k 2) A10) fun A11 => gd (gC A10 A11 a0 s0 195 3730 5 49) (gd (gO A11 k 11) (bnd (setA A11 k 3 (A9.length + 1)) fun A12 => gd (gN A12 a0 s0 195 3730 1 3) (bnd (A12 ++ [(0, 7, List.replicate 3 0)]) fun A13 => Option.bind (i_X7 A12.length A13) fun A14 => gd (gC A13 A14 a0 s0 195 3730 23 131) (gd (gO A14 k 11) (bnd (setA A14 k 4 (A12.length + 1)) fun A15 => gd (gN A15 a0 s0 195 3730 1 3) (bnd (A15 ++ [(0, 4, List.replicate 3 0)]) fun A16 => Option.bind (i_X4 A15.length A16) fun A17 => gd (gC A16 A17 a0 s0 195 3730 64 1112) (gd (gO A17 k 11) (bnd (setA A17 k 5 (A15.length + 1)) fun A18 => gd (gN A18 a0 s0 195 3730 1 3) (bnd (A18 ++ [(0, 4, List.replicate 3 0)]) fun A19 => Option.bind (i_X4 A18.length A19) fun A20 => gd (gC A19 A20 a0 s0 195 3730 64 1112) (gd (gO A20 k 11) (bnd (setA A20 k 6 (A18.length + 1)) fun A21 => gd (gN A21 a0 s0 195 3730 1 3) (bnd (A21 ++ [(0, 10, List.replicate 3 0)]) fun A22 => Option.bind (i_X10 A21.length A22) fun A23 => gd (gC A22 A23 a0 s0 195 3730 1 300) (gd (gO A23 k 11) (bnd (setA A23 k 10 (A21.length + 1)) fun A24 => gd (gN A24 a0 s0 195 3730 1 3) (bnd (A24 ++ [(0, 10, List.replicate 3 0)]) fun A25 => Option.bind (i_X10 A24.length A25) fun A26 => gd (gC A25 A26 a0 s0 195 3730 1 300) (gd (gO A26 k 11) (bnd (setA A26 k 11 (A24.length + 1)) fun A27 => gd (gN A27 a0 s0 195 3730 0 0) (some A27))))))))))))))))))))))))))))))
def i_X11 (k : Nat) (A : AH) : Option AH := i_X11_b k A.length (szA A) A
set_option maxRecDepth 100000 in
set_option maxHeartbeats 4000000 in
theorem i_X11_ok {Z : Zx} {K : AH → Prop} (C : Cx Z cX11_init 1 RX11) (N : CN Z 195 3730) (hnm : (zh Z).name = "<init>") (hR : RM Z 3 55) (k : Nat) (a0 s0 : Nat) (A : AH) (hK : ∀ y, K y → RetN Z cX11_init 195 3730 y) : WFN Z a0 s0 K (i_X11_b k a0 s0 A) A 0 [some (rf (zG Z) k)] [] := by
  unfold i_X11_b
  refine n_aload_n (v := k) C dX11_init_0 rfl (q := 1) rfl ?_
  refine n_obj C hR km_X11_3 ko_1 ko_2 rfl (Nat.le_of_ble_eq_true rfl) (Nat.le_of_ble_eq_true rfl) dX11_init_1 (q := 4) rfl ?_
  refine n_aload_n (v := k) C dX11_init_4 rfl (q := 5) rfl ?_
  refine n_new C N (ty := tyX8) (n := 7) (ci := 8) (T := TX8) inT8 tyX8_ok rfl rfl (by decide) kc_X11_9 kn_X8 kj_X8 dX11_init_5 (q := 8) rfl (fun A1 => ?_)
  refine n_dup C dX11_init_8 rfl (q := 9) rfl ?_
  refine n_callI (As := []) (st := [rf (zG Z) A.length, rf (zG Z) k]) (dc := 25) (dn := 114) C hR N (fun _ h => c_i_X8 _ _ _ _ h) mi_X8 km_X11_11 rfl ⟨Nat.le_of_ble_eq_true rfl, Nat.le_of_ble_eq_true rfl⟩ (Nat.le_of_ble_eq_true rfl) rfl rfl dX11_init_9 (q := 12) rfl (fun A2 => ?_)
  refine n_put (code := (A.length + 1)) (ci := 11) (T := TX11) (N := 13) (j := 0) (ty0 := tyX11) (ty := (.object "Segmentry$Schema")) C inT11 tyX11_ok nmX11 rfl (by decide +kernel) (by decide) kf_X11_12 (Or.inr ⟨rfl, hnm, rfl⟩) (by decide +kernel) rfl rfl (by simp [fvA, show ¬ fk 11 0 = 0 by decide]; rfl) dX11_init_12 (q := 15) rfl (fun A3 => ?_)
  refine n_aload_n (v := k) C dX11_init_15 rfl (q := 16) rfl ?_
  refine n_new C N (ty := tyX10) (n := 3) (ci := 10) (T := TX10) inT10 tyX10_ok rfl rfl (by decide) kc_X11_16 kn_X10 kj_X10 dX11_init_16 (q := 19) rfl (fun A4 => ?_)
  refine n_dup C dX11_init_19 rfl (q := 20) rfl ?_
  refine n_callIN (As := []) (st := [rf (zG Z) A3.length, rf (zG Z) k]) (dc := 1) (dn := 300) C hR N (fun _ h => c_i_X10 _ _ _ _ h) mi_X10 km_X11_18 rfl ⟨Nat.le_of_ble_eq_true rfl, Nat.le_of_ble_eq_true rfl⟩ (Nat.le_of_ble_eq_true rfl) rfl rfl dX11_init_20 (q := 23) rfl (fun A5 => ?_)
  refine n_put (code := (A3.length + 1)) (ci := 11) (T := TX11) (N := 13) (j := 1) (ty0 := tyX11) (ty := (.object "Segmentry$Sheet")) C inT11 tyX11_ok nmX11 rfl (by decide +kernel) (by decide) kf_X11_19 (Or.inr ⟨rfl, hnm, rfl⟩) (by decide +kernel) rfl rfl (by simp [fvA, show ¬ fk 11 1 = 0 by decide]; rfl) dX11_init_23 (q := 26) rfl (fun A6 => ?_)
  refine n_aload_n (v := k) C dX11_init_26 rfl (q := 27) rfl ?_
  refine n_new C N (ty := tyX1) (n := 3) (ci := 1) (T := TX1) inT1 tyX1_ok rfl rfl (by decide) kc_X11_23 kn_X1 kj_X1 dX11_init_27 (q := 30) rfl (fun A7 => ?_)
  refine n_dup C dX11_init_30 rfl (q := 31) rfl ?_
  refine n_callIN (As := []) (st := [rf (zG Z) A6.length, rf (zG Z) k]) (dc := 2) (dn := 282) C hR N (fun _ h => c_i_X1 _ _ _ _ h) mi_X1 km_X11_25 rfl ⟨Nat.le_of_ble_eq_true rfl, Nat.le_of_ble_eq_true rfl⟩ (Nat.le_of_ble_eq_true rfl) rfl rfl dX11_init_31 (q := 34) rfl (fun A8 => ?_)
  refine n_put (code := (A6.length + 1)) (ci := 11) (T := TX11) (N := 13) (j := 2) (ty0 := tyX11) (ty := (.object "Segmentry$Faults")) C inT11 tyX11_ok nmX11 rfl (by decide +kernel) (by decide) kf_X11_26 (Or.inr ⟨rfl, hnm, rfl⟩) (by decide +kernel) rfl rfl (by simp [fvA, show ¬ fk 11 2 = 0 by decide]; rfl) dX11_init_34 (q := 37) rfl (fun A9 => ?_)
  refine n_aload_n (v := k) C dX11_init_37 rfl (q := 38) rfl ?_
  refine n_new C N (ty := tyX5) (n := 2) (ci := 5) (T := TX5) inT5 tyX5_ok rfl rfl (by decide) kc_X11_30 kn_X5 kj_X5 dX11_init_38 (q := 41) rfl (fun A10 => ?_)
  refine n_dup C dX11_init_41 rfl (q := 42) rfl ?_
  refine n_aload_n (v := k) C dX11_init_42 rfl (q := 43) rfl ?_
  refine n_getr (ci := 11) (T := TX11) (N := 13) (j := 0) C inT11 rfl (by decide +kernel) (by decide) (by decide) kf_X11_12 dX11_init_43 (q := 46) rfl ?_
  refine n_aload_n (v := k) C dX11_init_46 rfl (q := 47) rfl ?_
  refine n_getr (ci := 11) (T := TX11) (N := 13) (j := 2) C inT11 rfl (by decide +kernel) (by decide) (by decide) kf_X11_26 dX11_init_47 (q := 50) rfl ?_
  refine n_callI (As := [rf (zG Z) (fA A10 k 0), rf (zG Z) (fA A10 k 2)]) (st := [rf (zG Z) A9.length, rf (zG Z) k]) (dc := 5) (dn := 49) C hR N (fun _ h => c_i_X5 _ _ _ _ _ _ h) mi_X5 km_X11_32 rfl ⟨Nat.le_of_ble_eq_true rfl, Nat.le_of_ble_eq_true rfl⟩ (Nat.le_of_ble_eq_true rfl) rfl rfl dX11_init_50 (q := 53) rfl (fun A11 => ?_)
  refine n_put (code := (A9.length + 1)) (ci := 11) (T := TX11) (N := 13) (j := 3) (ty0 := tyX11) (ty := (.object "Segmentry$Reader")) C inT11 tyX11_ok nmX11 rfl (by decide +kernel) (by decide) kf_X11_35 (Or.inr ⟨rfl, hnm, rfl⟩) (by decide +kernel) rfl rfl (by simp [fvA, show ¬ fk 11 3 = 0 by decide]; rfl) dX11_init_53 (q := 56) rfl (fun A12 => ?_)
  refine n_aload_n (v := k) C dX11_init_56 rfl (q := 57) rfl ?_
  refine n_new C N (ty := tyX7) (n := 3) (ci := 7) (T := TX7) inT7 tyX7_ok rfl rfl (by decide) kc_X11_39 kn_X7 kj_X7 dX11_init_57 (q := 60) rfl (fun A13 => ?_)
  refine n_dup C dX11_init_60 rfl (q := 61) rfl ?_
  refine n_callI (As := []) (st := [rf (zG Z) A12.length, rf (zG Z) k]) (dc := 23) (dn := 131) C hR N (fun _ h => c_i_X7 _ _ _ _ h) mi_X7 km_X11_41 rfl ⟨Nat.le_of_ble_eq_true rfl, Nat.le_of_ble_eq_true rfl⟩ (Nat.le_of_ble_eq_true rfl) rfl rfl dX11_init_61 (q := 64) rfl (fun A14 => ?_)
  refine n_put (code := (A12.length + 1)) (ci := 11) (T := TX11) (N := 13) (j := 4) (ty0 := tyX11) (ty := (.object "Segmentry$RuleBook")) C inT11 tyX11_ok nmX11 rfl (by decide +kernel) (by decide) kf_X11_42 (Or.inr ⟨rfl, hnm, rfl⟩) (by decide +kernel) rfl rfl (by simp [fvA, show ¬ fk 11 4 = 0 by decide]; rfl) dX11_init_64 (q := 67) rfl (fun A15 => ?_)
  refine n_aload_n (v := k) C dX11_init_67 rfl (q := 68) rfl ?_
  refine n_new C N (ty := tyX4) (n := 3) (ci := 4) (T := TX4) inT4 tyX4_ok rfl rfl (by decide) kc_X11_46 kn_X4 kj_X4 dX11_init_68 (q := 71) rfl (fun A16 => ?_)
  refine n_dup C dX11_init_71 rfl (q := 72) rfl ?_
  refine n_callI (As := []) (st := [rf (zG Z) A15.length, rf (zG Z) k]) (dc := 64) (dn := 1112) C hR N (fun _ h => c_i_X4 _ _ _ _ h) mi_X4 km_X11_48 rfl ⟨Nat.le_of_ble_eq_true rfl, Nat.le_of_ble_eq_true rfl⟩ (Nat.le_of_ble_eq_true rfl) rfl rfl dX11_init_72 (q := 75) rfl (fun A17 => ?_)
  refine n_put (code := (A15.length + 1)) (ci := 11) (T := TX11) (N := 13) (j := 5) (ty0 := tyX11) (ty := (.object "Segmentry$Message")) C inT11 tyX11_ok nmX11 rfl (by decide +kernel) (by decide) kf_X11_49 (Or.inl rfl) (by decide +kernel) rfl rfl (by simp [fvA, show ¬ fk 11 5 = 0 by decide]; rfl) dX11_init_75 (q := 78) rfl (fun A18 => ?_)
  refine n_aload_n (v := k) C dX11_init_78 rfl (q := 79) rfl ?_
  refine n_new C N (ty := tyX4) (n := 3) (ci := 4) (T := TX4) inT4 tyX4_ok rfl rfl (by decide) kc_X11_46 kn_X4 kj_X4 dX11_init_79 (q := 82) rfl (fun A19 => ?_)
  refine n_dup C dX11_init_82 rfl (q := 83) rfl ?_
  refine n_callI (As := []) (st := [rf (zG Z) A18.length, rf (zG Z) k]) (dc := 64) (dn := 1112) C hR N (fun _ h => c_i_X4 _ _ _ _ h) mi_X4 km_X11_48 rfl ⟨Nat.le_of_ble_eq_true rfl, Nat.le_of_ble_eq_true rfl⟩ (Nat.le_of_ble_eq_true rfl) rfl rfl dX11_init_83 (q := 86) rfl (fun A20 => ?_)
  refine n_put (code := (A18.length + 1)) (ci := 11) (T := TX11) (N := 13) (j := 6) (ty0 := tyX11) (ty := (.object "Segmentry$Message")) C inT11 tyX11_ok nmX11 rfl (by decide +kernel) (by decide) kf_X11_53 (Or.inl rfl) (by decide +kernel) rfl rfl (by simp [fvA, show ¬ fk 11 6 = 0 by decide]; rfl) dX11_init_86 (q := 89) rfl (fun A21 => ?_)
  refine n_aload_n (v := k) C dX11_init_89 rfl (q := 90) rfl ?_
  refine n_new C N (ty := tyX10) (n := 3) (ci := 10) (T := TX10) inT10 tyX10_ok rfl rfl (by decide) kc_X11_16 kn_X10 kj_X10 dX11_init_90 (q := 93) rfl (fun A22 => ?_)
  refine n_dup C dX11_init_93 rfl (q := 94) rfl ?_
  refine n_callIN (As := []) (st := [rf (zG Z) A21.length, rf (zG Z) k]) (dc := 1) (dn := 300) C hR N (fun _ h => c_i_X10 _ _ _ _ h) mi_X10 km_X11_18 rfl ⟨Nat.le_of_ble_eq_true rfl, Nat.le_of_ble_eq_true rfl⟩ (Nat.le_of_ble_eq_true rfl) rfl rfl dX11_init_94 (q := 97) rfl (fun A23 => ?_)
  refine n_put (code := (A21.length + 1)) (ci := 11) (T := TX11) (N := 13) (j := 10) (ty0 := tyX11) (ty := (.object "Segmentry$Sheet")) C inT11 tyX11_ok nmX11 rfl (by decide +kernel) (by decide) kf_X11_56 (Or.inl rfl) (by decide +kernel) rfl rfl (by simp [fvA, show ¬ fk 11 10 = 0 by decide]; rfl) dX11_init_97 (q := 100) rfl (fun A24 => ?_)
  refine n_aload_n (v := k) C dX11_init_100 rfl (q := 101) rfl ?_
  refine n_new C N (ty := tyX10) (n := 3) (ci := 10) (T := TX10) inT10 tyX10_ok rfl rfl (by decide) kc_X11_16 kn_X10 kj_X10 dX11_init_101 (q := 104) rfl (fun A25 => ?_)
  refine n_dup C dX11_init_104 rfl (q := 105) rfl ?_
  refine n_callIN (As := []) (st := [rf (zG Z) A24.length, rf (zG Z) k]) (dc := 1) (dn := 300) C hR N (fun _ h => c_i_X10 _ _ _ _ h) mi_X10 km_X11_18 rfl ⟨Nat.le_of_ble_eq_true rfl, Nat.le_of_ble_eq_true rfl⟩ (Nat.le_of_ble_eq_true rfl) rfl rfl dX11_init_105 (q := 108) rfl (fun A26 => ?_)
  refine n_put (code := (A24.length + 1)) (ci := 11) (T := TX11) (N := 13) (j := 11) (ty0 := tyX11) (ty := (.object "Segmentry$Sheet")) C inT11 tyX11_ok nmX11 rfl (by decide +kernel) (by decide) kf_X11_59 (Or.inl rfl) (by decide +kernel) rfl rfl (by simp [fvA, show ¬ fk 11 11 = 0 by decide]; rfl) dX11_init_108 (q := 111) rfl (fun A27 => ?_)
  refine n_gd (fun hg => ?_)
  exact n_vret C N (hK _) hg dX11_init_111
theorem c_i_X11 (l : Launch) (G : Gx) (k : Nat) (A : AH) {x : AH} (h : i_X11 k A = some x) : CtN l G yX11_init cX11_init 1 3 55 195 3730 [rf G k] A x := CtN.of (by decide +kernel) rfl rfl (Nat.le_of_ble_eq_true rfl) (fun Z hG hl C N hnm hR hret => by
  subst hG
  exact i_X11_ok (K := fun y => y = x) C N hnm hR k _ _ A (fun y hy => by subst hy; exact hret) x h rfl)
theorem mi_X11 : MIp yX11_init cX11_init 1 0 := ⟨(LT.mem (List.mem_of_getElem? (i := 72) (by decide +kernel)) (by decide +kernel)), (LT.mem (List.mem_of_getElem? (i := 48) (by decide +kernel)) (by decide +kernel)), (LT.mem (List.mem_of_getElem? (i := 73) (by decide +kernel)) (by decide +kernel)), rfl, by decide +kernel⟩
theorem km_X12_1 : Cond.methodLink RX12 1 Lib.objectInit ∈ LT := (LT.mem (List.mem_of_getElem? (i := 1082) (by decide +kernel)) (by decide +kernel))
theorem kf_X12_7 : Cond.fieldLink RX12 7 "SegmentryModel" "itemTag" "[C" ∈ LT := (LT.mem (List.mem_of_getElem? (i := 1083) (by decide +kernel)) (by decide +kernel))
theorem kf_X12_13 : Cond.fieldLink RX12 13 "SegmentryModel" "itemLeast" "[I" ∈ LT := (LT.mem (List.mem_of_getElem? (i := 1084) (by decide +kernel)) (by decide +kernel))
theorem kf_X12_17 : Cond.fieldLink RX12 17 "SegmentryModel" "itemMost" "[I" ∈ LT := (LT.mem (List.mem_of_getElem? (i := 1085) (by decide +kernel)) (by decide +kernel))
theorem kf_X12_20 : Cond.fieldLink RX12 20 "SegmentryModel" "itemEntry" "[I" ∈ LT := (LT.mem (List.mem_of_getElem? (i := 1086) (by decide +kernel)) (by decide +kernel))
theorem ka_2 : Cond.arrayClass .boolean ∈ LT := (LT.mem (List.mem_of_getElem? (i := 1231) (by decide +kernel)) (by decide +kernel))
theorem kf_X12_23 : Cond.fieldLink RX12 23 "SegmentryModel" "isLoop" "[Z" ∈ LT := (LT.mem (List.mem_of_getElem? (i := 1088) (by decide +kernel)) (by decide +kernel))
theorem kf_X12_27 : Cond.fieldLink RX12 27 "SegmentryModel" "entryFirst" "[I" ∈ LT := (LT.mem (List.mem_of_getElem? (i := 1089) (by decide +kernel)) (by decide +kernel))
theorem kf_X12_30 : Cond.fieldLink RX12 30 "SegmentryModel" "entryLast" "[I" ∈ LT := (LT.mem (List.mem_of_getElem? (i := 1090) (by decide +kernel)) (by decide +kernel))
theorem kf_X12_33 : Cond.fieldLink RX12 33 "SegmentryModel" "entryLeast" "[I" ∈ LT := (LT.mem (List.mem_of_getElem? (i := 1091) (by decide +kernel)) (by decide +kernel))
theorem kf_X12_36 : Cond.fieldLink RX12 36 "SegmentryModel" "entryMost" "[I" ∈ LT := (LT.mem (List.mem_of_getElem? (i := 1092) (by decide +kernel)) (by decide +kernel))
theorem kf_X12_39 : Cond.fieldLink RX12 39 "SegmentryModel" "text" "[C" ∈ LT := (LT.mem (List.mem_of_getElem? (i := 1095) (by decide +kernel)) (by decide +kernel))
theorem kf_X12_42 : Cond.fieldLink RX12 42 "SegmentryModel" "faultKind" "[I" ∈ LT := (LT.mem (List.mem_of_getElem? (i := 1097) (by decide +kernel)) (by decide +kernel))
theorem kf_X12_45 : Cond.fieldLink RX12 45 "SegmentryModel" "faultPlace" "[I" ∈ LT := (LT.mem (List.mem_of_getElem? (i := 1098) (by decide +kernel)) (by decide +kernel))
theorem kf_X12_48 : Cond.fieldLink RX12 48 "SegmentryModel" "begin" "[I" ∈ LT := (LT.mem (List.mem_of_getElem? (i := 1100) (by decide +kernel)) (by decide +kernel))
theorem kf_X12_51 : Cond.fieldLink RX12 51 "SegmentryModel" "readTag" "[C" ∈ LT := (LT.mem (List.mem_of_getElem? (i := 1101) (by decide +kernel)) (by decide +kernel))
theorem kf_X12_54 : Cond.fieldLink RX12 54 "SegmentryModel" "readElements" "[I" ∈ LT := (LT.mem (List.mem_of_getElem? (i := 1102) (by decide +kernel)) (by decide +kernel))
theorem kf_X12_57 : Cond.fieldLink RX12 57 "SegmentryModel" "readLength" "[I" ∈ LT := (LT.mem (List.mem_of_getElem? (i := 1103) (by decide +kernel)) (by decide +kernel))
theorem kf_X12_60 : Cond.fieldLink RX12 60 "SegmentryModel" "readContent" "[C" ∈ LT := (LT.mem (List.mem_of_getElem? (i := 1104) (by decide +kernel)) (by decide +kernel))
theorem kf_X12_63 : Cond.fieldLink RX12 63 "SegmentryModel" "tag" "[C" ∈ LT := (LT.mem (List.mem_of_getElem? (i := 1109) (by decide +kernel)) (by decide +kernel))
theorem kf_X12_66 : Cond.fieldLink RX12 66 "SegmentryModel" "elements" "[I" ∈ LT := (LT.mem (List.mem_of_getElem? (i := 1110) (by decide +kernel)) (by decide +kernel))
theorem kf_X12_69 : Cond.fieldLink RX12 69 "SegmentryModel" "contentLength" "[I" ∈ LT := (LT.mem (List.mem_of_getElem? (i := 1111) (by decide +kernel)) (by decide +kernel))
theorem kf_X12_72 : Cond.fieldLink RX12 72 "SegmentryModel" "content" "[C" ∈ LT := (LT.mem (List.mem_of_getElem? (i := 1112) (by decide +kernel)) (by decide +kernel))
theorem kf_X12_75 : Cond.fieldLink RX12 75 "SegmentryModel" "itemOf" "[I" ∈ LT := (LT.mem (List.mem_of_getElem? (i := 1113) (by decide +kernel)) (by decide +kernel))
theorem kf_X12_78 : Cond.fieldLink RX12 78 "SegmentryModel" "passOf" "[I" ∈ LT := (LT.mem (List.mem_of_getElem? (i := 1114) (by decide +kernel)) (by decide +kernel))
theorem kf_X12_81 : Cond.fieldLink RX12 81 "SegmentryModel" "isHopeful" "[Z" ∈ LT := (LT.mem (List.mem_of_getElem? (i := 1116) (by decide +kernel)) (by decide +kernel))
theorem kf_X12_84 : Cond.fieldLink RX12 84 "SegmentryModel" "targets" "[I" ∈ LT := (LT.mem (List.mem_of_getElem? (i := 1117) (by decide +kernel)) (by decide +kernel))
theorem kf_X12_87 : Cond.fieldLink RX12 87 "SegmentryModel" "ruleItem" "[I" ∈ LT := (LT.mem (List.mem_of_getElem? (i := 1119) (by decide +kernel)) (by decide +kernel))
theorem kf_X12_90 : Cond.fieldLink RX12 90 "SegmentryModel" "ruleTag" "[C" ∈ LT := (LT.mem (List.mem_of_getElem? (i := 1120) (by decide +kernel)) (by decide +kernel))
theorem kf_X12_93 : Cond.fieldLink RX12 93 "SegmentryModel" "fields" "[I" ∈ LT := (LT.mem (List.mem_of_getElem? (i := 1121) (by decide +kernel)) (by decide +kernel))
theorem kf_X12_96 : Cond.fieldLink RX12 96 "SegmentryModel" "field" "[I" ∈ LT := (LT.mem (List.mem_of_getElem? (i := 1122) (by decide +kernel)) (by decide +kernel))
theorem kf_X12_99 : Cond.fieldLink RX12 99 "SegmentryModel" "conditionElement" "[I" ∈ LT := (LT.mem (List.mem_of_getElem? (i := 1123) (by decide +kernel)) (by decide +kernel))
theorem kf_X12_102 : Cond.fieldLink RX12 102 "SegmentryModel" "conditionLetter" "[C" ∈ LT := (LT.mem (List.mem_of_getElem? (i := 1124) (by decide +kernel)) (by decide +kernel))
theorem kf_X12_105 : Cond.fieldLink RX12 105 "SegmentryModel" "draft" "[C" ∈ LT := (LT.mem (List.mem_of_getElem? (i := 1126) (by decide +kernel)) (by decide +kernel))
theorem kf_X12_108 : Cond.fieldLink RX12 108 "SegmentryModel" "written" "[C" ∈ LT := (LT.mem (List.mem_of_getElem? (i := 1128) (by decide +kernel)) (by decide +kernel))
def i_X12_b (k : Nat) (a0 s0 : Nat) (A : AH) : Option AH :=
  gd (gN A a0 s0 33 22443 1 10) (bnd (A ++ [(2, 10, [])]) fun A1 => gd (gO A1 k 12) (bnd (setA A1 k 0 (A.length + 1)) fun A2 => gd (gN A2 a0 s0 33 22443 1 10) (bnd (A2 ++ [(1, 10, [])]) fun A3 => gd (gO A3 k 12) (bnd (setA A3 k 1 (A2.length + 1)) fun A4 => gd (gN A4 a0 s0 33 22443 1 10) (bnd (A4 ++ [(1, 10, [])]) fun A5 => gd (gO A5 k 12) (bnd (setA A5 k 2 (A4.length + 1)) fun A6 => gd (gN A6 a0 s0 33 22443 1 10) (bnd (A6 ++ [(1, 10, [])]) fun A7 => gd (gO A7 k 12) (bnd (setA A7 k 3 (A6.length + 1)) fun A8 => gd (gN A8 a0 s0 33 22443 1 12) (bnd (A8 ++ [(3, 12, [])]) fun A9 => gd (gO A9 k 12) (bnd (setA A9 k 5 (A8.length + 1)) fun A10 => gd (gN A10 a0 s0 33 22443 1 12) (bnd (A10 ++ [(1, 12, [])]) fun A11 => gd (gO A11 k 12) (bnd (setA A11 k 6 (A10.length + 1)) fun A12 => gd (gN A12 a0 s0 33 22443 1 12) (bnd (A12 ++ [(1, 12, [])]) fun A13 => gd (gO A13 k 12) (bnd (setA A13 k 7 (A12.length + 1)) fun A14 => gd (gN A14 a0 s0 33 22443 1 12) (bnd (A14 ++ [(1, 12, [])]) fun A15 => gd (gO A15 k 12) (bnd (setA A15 k 8 (A14.length + 1)) fun A16 => gd (gN A16 a0 s0 33 22443 1 12) (bnd (A16 ++ [(1, 12, [])]) fun A17 => gd (gO A17 k 12) (bnd (setA A17 k 9 (A16.length + 1)) fun A18 => gd (gN A18 a0 s0 33 22443 1 300) (bnd (A18 ++ [(2, 300, [])]) fun A19 => gd (gO A19 k 12) (bnd (setA A19 k 12 (A18.length + 1)) fun A20 => gd (gN A20 a0 s0 33 22443 1 160) (bnd (A20 ++ [(1, 160, [])]) fun A21 => gd (gO A21 k 12) (bnd (setA A21 k 14 (A20.length + 1)) fun A22 => gd (gN A22 a0 s0 33 22443 1 160) (bnd (A22 ++ [(1, 160, [])]) fun A23 => gd (gO A23 k 12) (bnd (setA A23 k 15 (A22.length + 1)) fun A24 => gd (gN A24 a0 s0 33 22443 1 20) (bnd (A24 ++ [(1, 20, [])]) fun A25 => gd (gO A25 k 12) (bnd (setA A25 k 17 (A24.length + 1)) fun A26 => gd (gN A26 a0 s0 33 22443 1 20) (bnd (A26 ++ [(2, 20, [])]) fun A27 => gd (gO A27 k 12) (bnd (setA A27 k 18 (A26.length + 1)) fun A28 => gd (gN A28 a0 s0 33 22443 1 20) (bnd (A28 ++ [(1, 20, [])]) fun A29 => gd (gO A29 k 12) (bnd (setA A29 k 19 (A28.length + 1)) fun A30 => gd (gN A30 a0 s0 33 22443 1 100) (bnd (A30 ++ [(1, 100, [])]) fun A31 => gd (gO A31 k 12) (bnd (setA A31 k 20 (A30.length + 1)) fun A32 => gd (gN A32 a0 s0 33 22443 1 800) (bnd (A32 ++ [(2, 800, [])]) fun A33 => gd (gO A33 k 12) (bnd (setA A33 k 21 (A32.length + 1)) fun A34 => gd (gN A34 a0 s0 33 22443 1 20) (bnd (A34 ++ [(2, 20, [])]) fun A35 => gd (gO A35 k 12) (bnd (setA A35 k 26 (A34.length + 1)) fun A36 => gd (gN A36 a0 s0 33 22443 1 20) (bnd (A36 ++ [(1, 20, [])]) fun A37 => gd (gO A37 k 12) (bnd (setA A37 k 27 (A36.length + 1)) fun A38 => gd (gN A38 a0 s0 33 22443 1 100) (bnd (A38 ++ [(1, 100, [])]) fun A39 => gd (gO A39 k 12) (bnd (setA A39 k 28 (A38.length + 1)) fun A40 => gd (gN A40 a0 s0 33 22443 1 800) (bnd (A40 ++ [(2, 800, [])]) fun A41 => gd (gO A41 k 12) (bnd (setA A41 k 29 (A40.length + 1)) fun A42 => gd (gN A42 a0 s0 33 22443 1 20) (bnd (A42 ++ [(1, 20, [])]) fun A43 => gd (gO A43 k 12) (bnd (setA A43 k 30 (A42.length + 1)) fun A44 => gd (gN A44 a0 s0 33 22443 1 20) (bnd (A44 ++ [(1, 20, [])]) fun A45 => gd (gO A45 k 12) (bnd (setA A45 k 31 (A44.length + 1)) fun A46 => gd (gN A46 a0 s0 33 22443 1 19019) (bnd (A46 ++ [(3, 19019, [])]) fun A47 => gd (gO A47 k 12) (bnd (setA A47 k 33 (A46.length + 1)) fun A48 => gd (gN A48 a0 s0 33 22443 1 64) (bnd (A48 ++ [(1, 64, [])]) fun A49 => gd (gO A49 k 12) (bnd (setA A49 k 34 (A48.length + 1)) fun A50 => gd (gN A50 a0 s0 33 22443 1 10) (bnd (A50 ++ [(1, 10, [])]) fun A51 => gd (gO A51 k 12) (bnd (setA A51 k 36 (A50.length + 1)) fun A52 => gd (gN A52 a0 s0 33 22443 1 10) (bnd (A52 ++ [(2, 10, [])]) fun A53 => gd (gO A53 k 12) (bnd (setA A53 k 37 (A52.length + 1)) fun A54 => gd (gN A54 a0 s0 33 22443 1 10) (bnd (A54 ++ [(1, 10, [])]) fun A55 => gd (gO A55 k 12) (bnd (setA A55 k 38 (A54.length + 1)) fun A56 => gd (gN A56 a0 s0 33 22443 1 50) (bnd (A56 ++ [(1, 50, [])]) fun A57 => gd (gO A57 k 12) (bnd (setA A57 k 39 (A56.length + 1)) fun A58 => gd (gN A58 a0 s0 33 22443 1 10) (bnd (A58 ++ [(1, 10, [])]) fun A59 => gd (gO A59 k 12) (bnd (setA A59 k 40 (A58.length + 1)) fun A60 => gd (gN A60 a0 s0 33 22443 1 10) (bnd (A60 ++ [(2, 10, [])]) fun A61 => gd (gO A61 k 12) (bnd (setA A61 k 41 (A60.length + 1)) fun A62 => gd (gN A62 a0 s0 33 22443 1 300) (bnd (A62 ++ [(2, 300, [])]) fun A63 => gd (gO A63 k 12) (bnd (setA A63 k 43 (A62.length + 1)) fun A64 => gd (gN A64 a0 s0 33 22443 1 300) (bnd (A64 ++ [(2, 300, [])]) fun A65 => gd (gO A65 k 12) (bnd (setA A65 k 45 (A64.length + 1)) fun A66 => gd (gN A66 a0 s0 33 22443 0 0) (some A66)))))))))))))))))))))))))))))))))))))))))))))))))))))))))))))))))))
def i_X12 (k : Nat) (A : AH) : Option AH := i_X12_b k A.length (szA A) A
set_option maxRecDepth 100000 in
set_option maxHeartbeats 4000000 in
theorem i_X12_ok {Z : Zx} {K : AH → Prop} (C : Cx Z cX12_init 1 RX12) (N : CN Z 33 22443) (hnm : (zh Z).name = "<init>") (hR : RM Z 1 12) (k : Nat) (a0 s0 : Nat) (A : AH) (hK : ∀ y, K y → RetN Z cX12_init 33 22443 y) : WFN Z a0 s0 K (i_X12_b k a0 s0 A) A 0 [some (rf (zG Z) k)] [] := by
  unfold i_X12_b
  refine n_aload_n (v := k) C dX12_init_0 rfl (q := 1) rfl ?_
  refine n_obj C hR km_X12_1 ko_1 ko_2 rfl (Nat.le_of_ble_eq_true rfl) (Nat.le_of_ble_eq_true rfl) dX12_init_1 (q := 4) rfl ?_
  refine n_aload_n (v := k) C dX12_init_4 rfl (q := 5) rfl ?_
  refine n_bipush (v := 10) C dX12_init_5 (by decide) (q := 7) rfl ?_
  refine n_na1 (v := 10) (n := 10) C N ka_1 (by decide) (by decide) (by decide) dX12_init_7 (q := 9) rfl (fun A1 => ?_)
  refine n_put (code := (A.length + 1)) (ci := 12) (T := TX12) (N := 49) (j := 0) (ty0 := tyX12) (ty := (.array .char)) C inT12 tyX12_ok nmX12 rfl (by decide +kernel) (by decide) kf_X12_7 (Or.inr ⟨rfl, hnm, rfl⟩) (by decide +kernel) rfl rfl (by simp [fvA, show ¬ fk 12 0 = 0 by decide]; rfl) dX12_init_9 (q := 12) rfl (fun A2 => ?_)
  refine n_aload_n (v := k) C dX12_init_12 rfl (q := 13) rfl ?_
  refine n_bipush (v := 10) C dX12_init_13 (by decide) (q := 15) rfl ?_
  refine n_na0 (v := 10) (n := 10) C N ka_0 (by decide) (by decide) (by decide) dX12_init_15 (q := 17) rfl (fun A3 => ?_)
  refine n_put (code := (A2.length + 1)) (ci := 12) (T := TX12) (N := 49) (j := 1) (ty0 := tyX12) (ty := (.array .int)) C inT12 tyX12_ok nmX12 rfl (by decide +kernel) (by decide) kf_X12_13 (Or.inr ⟨rfl, hnm, rfl⟩) (by decide +kernel) rfl rfl (by simp [fvA, show ¬ fk 12 1 = 0 by decide]; rfl) dX12_init_17 (q := 20) rfl (fun A4 => ?_)
  refine n_aload_n (v := k) C dX12_init_20 rfl (q := 21) rfl ?_
  refine n_bipush (v := 10) C dX12_init_21 (by decide) (q := 23) rfl ?_
  refine n_na0 (v := 10) (n := 10) C N ka_0 (by decide) (by decide) (by decide) dX12_init_23 (q := 25) rfl (fun A5 => ?_)
  refine n_put (code := (A4.length + 1)) (ci := 12) (T := TX12) (N := 49) (j := 2) (ty0 := tyX12) (ty := (.array .int)) C inT12 tyX12_ok nmX12 rfl (by decide +kernel) (by decide) kf_X12_17 (Or.inr ⟨rfl, hnm, rfl⟩) (by decide +kernel) rfl rfl (by simp [fvA, show ¬ fk 12 2 = 0 by decide]; rfl) dX12_init_25 (q := 28) rfl (fun A6 => ?_)
  refine n_aload_n (v := k) C dX12_init_28 rfl (q := 29) rfl ?_
  refine n_bipush (v := 10) C dX12_init_29 (by decide) (q := 31) rfl ?_
  refine n_na0 (v := 10) (n := 10) C N ka_0 (by decide) (by decide) (by decide) dX12_init_31 (q := 33) rfl (fun A7 => ?_)
  refine n_put (code := (A6.length + 1)) (ci := 12) (T := TX12) (N := 49) (j := 3) (ty0 := tyX12) (ty := (.array .int)) C inT12 tyX12_ok nmX12 rfl (by decide +kernel) (by decide) kf_X12_20 (Or.inr ⟨rfl, hnm, rfl⟩) (by decide +kernel) rfl rfl (by simp [fvA, show ¬ fk 12 3 = 0 by decide]; rfl) dX12_init_33 (q := 36) rfl (fun A8 => ?_)
  refine n_aload_n (v := k) C dX12_init_36 rfl (q := 37) rfl ?_
  refine n_bipush (v := 12) C dX12_init_37 (by decide) (q := 39) rfl ?_
  refine n_na2 (v := 12) (n := 12) C N ka_2 (by decide) (by decide) (by decide) dX12_init_39 (q := 41) rfl (fun A9 => ?_)
  refine n_put (code := (A8.length + 1)) (ci := 12) (T := TX12) (N := 49) (j := 5) (ty0 := tyX12) (ty := (.array .boolean)) C inT12 tyX12_ok nmX12 rfl (by decide +kernel) (by decide) kf_X12_23 (Or.inr ⟨rfl, hnm, rfl⟩) (by decide +kernel) rfl rfl (by simp [fvA, show ¬ fk 12 5 = 0 by decide]; rfl) dX12_init_41 (q := 44) rfl (fun A10 => ?_)
  refine n_aload_n (v := k) C dX12_init_44 rfl (q := 45) rfl ?_
  refine n_bipush (v := 12) C dX12_init_45 (by decide) (q := 47) rfl ?_
  refine n_na0 (v := 12) (n := 12) C N ka_0 (by decide) (by decide) (by decide) dX12_init_47 (q := 49) rfl (fun A11 => ?_)
  refine n_put (code := (A10.length + 1)) (ci := 12) (T := TX12) (N := 49) (j := 6) (ty0 := tyX12) (ty := (.array .int)) C inT12 tyX12_ok nmX12 rfl (by decide +kernel) (by decide) kf_X12_27 (Or.inr ⟨rfl, hnm, rfl⟩) (by decide +kernel) rfl rfl (by simp [fvA, show ¬ fk 12 6 = 0 by decide]; rfl) dX12_init_49 (q := 52) rfl (fun A12 => ?_)
  refine n_aload_n (v := k) C dX12_init_52 rfl (q := 53) rfl ?_
  refine n_bipush (v := 12) C dX12_init_53 (by decide) (q := 55) rfl ?_
  refine n_na0 (v := 12) (n := 12) C N ka_0 (by decide) (by decide) (by decide) dX12_init_55 (q := 57) rfl (fun A13 => ?_)
  refine n_put (code := (A12.length + 1)) (ci := 12) (T := TX12) (N := 49) (j := 7) (ty0 := tyX12) (ty := (.array .int)) C inT12 tyX12_ok nmX12 rfl (by decide +kernel) (by decide) kf_X12_30 (Or.inr ⟨rfl, hnm, rfl⟩) (by decide +kernel) rfl rfl (by simp [fvA, show ¬ fk 12 7 = 0 by decide]; rfl) dX12_init_57 (q := 60) rfl (fun A14 => ?_)
  refine n_aload_n (v := k) C dX12_init_60 rfl (q := 61) rfl ?_
  refine n_bipush (v := 12) C dX12_init_61 (by decide) (q := 63) rfl ?_
  refine n_na0 (v := 12) (n := 12) C N ka_0 (by decide) (by decide) (by decide) dX12_init_63 (q := 65) rfl (fun A15 => ?_)
  refine n_put (code := (A14.length + 1)) (ci := 12) (T := TX12) (N := 49) (j := 8) (ty0 := tyX12) (ty := (.array .int)) C inT12 tyX12_ok nmX12 rfl (by decide +kernel) (by decide) kf_X12_33 (Or.inr ⟨rfl, hnm, rfl⟩) (by decide +kernel) rfl rfl (by simp [fvA, show ¬ fk 12 8 = 0 by decide]; rfl) dX12_init_65 (q := 68) rfl (fun A16 => ?_)
  refine n_aload_n (v := k) C dX12_init_68 rfl (q := 69) rfl ?_
  refine n_bipush (v := 12) C dX12_init_69 (by decide) (q := 71) rfl ?_
  refine n_na0 (v := 12) (n := 12) C N ka_0 (by decide) (by decide) (by decide) dX12_init_71 (q := 73) rfl (fun A17 => ?_)
  refine n_put (code := (A16.length + 1)) (ci := 12) (T := TX12) (N := 49) (j := 9) (ty0 := tyX12) (ty := (.array .int)) C inT12 tyX12_ok nmX12 rfl (by decide +kernel) (by decide) kf_X12_36 (Or.inr ⟨rfl, hnm, rfl⟩) (by decide +kernel) rfl rfl (by simp [fvA, show ¬ fk 12 9 = 0 by decide]; rfl) dX12_init_73 (q := 76) rfl (fun A18 => ?_)
  refine n_aload_n (v := k) C dX12_init_76 rfl (q := 77) rfl ?_
  refine n_sipush (v := 300) C dX12_init_77 (by decide) (q := 80) rfl ?_
  refine n_na1 (v := 300) (n := 300) C N ka_1 (by decide) (by decide) (by decide) dX12_init_80 (q := 82) rfl (fun A19 => ?_)
  refine n_put (code := (A18.length + 1)) (ci := 12) (T := TX12) (N := 49) (j := 12) (ty0 := tyX12) (ty := (.array .char)) C inT12 tyX12_ok nmX12 rfl (by decide +kernel) (by decide) kf_X12_39 (Or.inr ⟨rfl, hnm, rfl⟩) (by decide +kernel) rfl rfl (by simp [fvA, show ¬ fk 12 12 = 0 by decide]; rfl) dX12_init_82 (q := 85) rfl (fun A20 => ?_)
  refine n_aload_n (v := k) C dX12_init_85 rfl (q := 86) rfl ?_
  refine n_sipush (v := 160) C dX12_init_86 (by decide) (q := 89) rfl ?_
  refine n_na0 (v := 160) (n := 160) C N ka_0 (by decide) (by decide) (by decide) dX12_init_89 (q := 91) rfl (fun A21 => ?_)
  refine n_put (code := (A20.length + 1)) (ci := 12) (T := TX12) (N := 49) (j := 14) (ty0 := tyX12) (ty := (.array .int)) C inT12 tyX12_ok nmX12 rfl (by decide +kernel) (by decide) kf_X12_42 (Or.inr ⟨rfl, hnm, rfl⟩) (by decide +kernel) rfl rfl (by simp [fvA, show ¬ fk 12 14 = 0 by decide]; rfl) dX12_init_91 (q := 94) rfl (fun A22 => ?_)
  refine n_aload_n (v := k) C dX12_init_94 rfl (q := 95) rfl ?_
  refine n_sipush (v := 160) C dX12_init_95 (by decide) (q := 98) rfl ?_
  refine n_na0 (v := 160) (n := 160) C N ka_0 (by decide) (by decide) (by decide) dX12_init_98 (q := 100) rfl (fun A23 => ?_)
  refine n_put (code := (A22.length + 1)) (ci := 12) (T := TX12) (N := 49) (j := 15) (ty0 := tyX12) (ty := (.array .int)) C inT12 tyX12_ok nmX12 rfl (by decide +kernel) (by decide) kf_X12_45 (Or.inr ⟨rfl, hnm, rfl⟩) (by decide +kernel) rfl rfl (by simp [fvA, show ¬ fk 12 15 = 0 by decide]; rfl) dX12_init_100 (q := 103) rfl (fun A24 => ?_)
  refine n_aload_n (v := k) C dX12_init_103 rfl (q := 104) rfl ?_
  refine n_bipush (v := 20) C dX12_init_104 (by decide) (q := 106) rfl ?_
  refine n_na0 (v := 20) (n := 20) C N ka_0 (by decide) (by decide) (by decide) dX12_init_106 (q := 108) rfl (fun A25 => ?_)
  refine n_put (code := (A24.length + 1)) (ci := 12) (T := TX12) (N := 49) (j := 17) (ty0 := tyX12) (ty := (.array .int)) C inT12 tyX12_ok nmX12 rfl (by decide +kernel) (by decide) kf_X12_48 (Or.inr ⟨rfl, hnm, rfl⟩) (by decide +kernel) rfl rfl (by simp [fvA, show ¬ fk 12 17 = 0 by decide]; rfl) dX12_init_108 (q := 111) rfl (fun A26 => ?_)
  refine n_aload_n (v := k) C dX12_init_111 rfl (q := 112) rfl ?_
  refine n_bipush (v := 20) C dX12_init_112 (by decide) (q := 114) rfl ?_
  refine n_na1 (v := 20) (n := 20) C N ka_1 (by decide) (by decide) (by decide) dX12_init_114 (q := 116) rfl (fun A27 => ?_)
  refine n_put (code := (A26.length + 1)) (ci := 12) (T := TX12) (N := 49) (j := 18) (ty0 := tyX12) (ty := (.array .char)) C inT12 tyX12_ok nmX12 rfl (by decide +kernel) (by decide) kf_X12_51 (Or.inr ⟨rfl, hnm, rfl⟩) (by decide +kernel) rfl rfl (by simp [fvA, show ¬ fk 12 18 = 0 by decide]; rfl) dX12_init_116 (q := 119) rfl (fun A28 => ?_)
  refine n_aload_n (v := k) C dX12_init_119 rfl (q := 120) rfl ?_
  refine n_bipush (v := 20) C dX12_init_120 (by decide) (q := 122) rfl ?_
  refine n_na0 (v := 20) (n := 20) C N ka_0 (by decide) (by decide) (by decide) dX12_init_122 (q := 124) rfl (fun A29 => ?_)
  refine n_put (code := (A28.length + 1)) (ci := 12) (T := TX12) (N := 49) (j := 19) (ty0 := tyX12) (ty := (.array .int)) C inT12 tyX12_ok nmX12 rfl (by decide +kernel) (by decide) kf_X12_54 (Or.inr ⟨rfl, hnm, rfl⟩) (by decide +kernel) rfl rfl (by simp [fvA, show ¬ fk 12 19 = 0 by decide]; rfl) dX12_init_124 (q := 127) rfl (fun A30 => ?_)
  refine n_aload_n (v := k) C dX12_init_127 rfl (q := 128) rfl ?_
  refine n_bipush (v := 100) C dX12_init_128 (by decide) (q := 130) rfl ?_
  refine n_na0 (v := 100) (n := 100) C N ka_0 (by decide) (by decide) (by decide) dX12_init_130 (q := 132) rfl (fun A31 => ?_)
  refine n_put (code := (A30.length + 1)) (ci := 12) (T := TX12) (N := 49) (j := 20) (ty0 := tyX12) (ty := (.array .int)) C inT12 tyX12_ok nmX12 rfl (by decide +kernel) (by decide) kf_X12_57 (Or.inr ⟨rfl, hnm, rfl⟩) (by decide +kernel) rfl rfl (by simp [fvA, show ¬ fk 12 20 = 0 by decide]; rfl) dX12_init_132 (q := 135) rfl (fun A32 => ?_)
  refine n_aload_n (v := k) C dX12_init_135 rfl (q := 136) rfl ?_
  refine n_sipush (v := 800) C dX12_init_136 (by decide) (q := 139) rfl ?_
  refine n_na1 (v := 800) (n := 800) C N ka_1 (by decide) (by decide) (by decide) dX12_init_139 (q := 141) rfl (fun A33 => ?_)
  refine n_put (code := (A32.length + 1)) (ci := 12) (T := TX12) (N := 49) (j := 21) (ty0 := tyX12) (ty := (.array .char)) C inT12 tyX12_ok nmX12 rfl (by decide +kernel) (by decide) kf_X12_60 (Or.inr ⟨rfl, hnm, rfl⟩) (by decide +kernel) rfl rfl (by simp [fvA, show ¬ fk 12 21 = 0 by decide]; rfl) dX12_init_141 (q := 144) rfl (fun A34 => ?_)
  refine n_aload_n (v := k) C dX12_init_144 rfl (q := 145) rfl ?_
  refine n_bipush (v := 20) C dX12_init_145 (by decide) (q := 147) rfl ?_
  refine n_na1 (v := 20) (n := 20) C N ka_1 (by decide) (by decide) (by decide) dX12_init_147 (q := 149) rfl (fun A35 => ?_)
  refine n_put (code := (A34.length + 1)) (ci := 12) (T := TX12) (N := 49) (j := 26) (ty0 := tyX12) (ty := (.array .char)) C inT12 tyX12_ok nmX12 rfl (by decide +kernel) (by decide) kf_X12_63 (Or.inr ⟨rfl, hnm, rfl⟩) (by decide +kernel) rfl rfl (by simp [fvA, show ¬ fk 12 26 = 0 by decide]; rfl) dX12_init_149 (q := 152) rfl (fun A36 => ?_)
  refine n_aload_n (v := k) C dX12_init_152 rfl (q := 153) rfl ?_
  refine n_bipush (v := 20) C dX12_init_153 (by decide) (q := 155) rfl ?_
  refine n_na0 (v := 20) (n := 20) C N ka_0 (by decide) (by decide) (by decide) dX12_init_155 (q := 157) rfl (fun A37 => ?_)
  refine n_put (code := (A36.length + 1)) (ci := 12) (T := TX12) (N := 49) (j := 27) (ty0 := tyX12) (ty := (.array .int)) C inT12 tyX12_ok nmX12 rfl (by decide +kernel) (by decide) kf_X12_66 (Or.inr ⟨rfl, hnm, rfl⟩) (by decide +kernel) rfl rfl (by simp [fvA, show ¬ fk 12 27 = 0 by decide]; rfl) dX12_init_157 (q := 160) rfl (fun A38 => ?_)
  refine n_aload_n (v := k) C dX12_init_160 rfl (q := 161) rfl ?_
  refine n_bipush (v := 100) C dX12_init_161 (by decide) (q := 163) rfl ?_
  refine n_na0 (v := 100) (n := 100) C N ka_0 (by decide) (by decide) (by decide) dX12_init_163 (q := 165) rfl (fun A39 => ?_)
  refine n_put (code := (A38.length + 1)) (ci := 12) (T := TX12) (N := 49) (j := 28) (ty0 := tyX12) (ty := (.array .int)) C inT12 tyX12_ok nmX12 rfl (by decide +kernel) (by decide) kf_X12_69 (Or.inr ⟨rfl, hnm, rfl⟩) (by decide +kernel) rfl rfl (by simp [fvA, show ¬ fk 12 28 = 0 by decide]; rfl) dX12_init_165 (q := 168) rfl (fun A40 => ?_)
  refine n_aload_n (v := k) C dX12_init_168 rfl (q := 169) rfl ?_
  refine n_sipush (v := 800) C dX12_init_169 (by decide) (q := 172) rfl ?_
  refine n_na1 (v := 800) (n := 800) C N ka_1 (by decide) (by decide) (by decide) dX12_init_172 (q := 174) rfl (fun A41 => ?_)
  refine n_put (code := (A40.length + 1)) (ci := 12) (T := TX12) (N := 49) (j := 29) (ty0 := tyX12) (ty := (.array .char)) C inT12 tyX12_ok nmX12 rfl (by decide +kernel) (by decide) kf_X12_72 (Or.inr ⟨rfl, hnm, rfl⟩) (by decide +kernel) rfl rfl (by simp [fvA, show ¬ fk 12 29 = 0 by decide]; rfl) dX12_init_174 (q := 177) rfl (fun A42 => ?_)
  refine n_aload_n (v := k) C dX12_init_177 rfl (q := 178) rfl ?_
  refine n_bipush (v := 20) C dX12_init_178 (by decide) (q := 180) rfl ?_
  refine n_na0 (v := 20) (n := 20) C N ka_0 (by decide) (by decide) (by decide) dX12_init_180 (q := 182) rfl (fun A43 => ?_)
  refine n_put (code := (A42.length + 1)) (ci := 12) (T := TX12) (N := 49) (j := 30) (ty0 := tyX12) (ty := (.array .int)) C inT12 tyX12_ok nmX12 rfl (by decide +kernel) (by decide) kf_X12_75 (Or.inr ⟨rfl, hnm, rfl⟩) (by decide +kernel) rfl rfl (by simp [fvA, show ¬ fk 12 30 = 0 by decide]; rfl) dX12_init_182 (q := 185) rfl (fun A44 => ?_)
  refine n_aload_n (v := k) C dX12_init_185 rfl (q := 186) rfl ?_
  refine n_bipush (v := 20) C dX12_init_186 (by decide) (q := 188) rfl ?_
  refine n_na0 (v := 20) (n := 20) C N ka_0 (by decide) (by decide) (by decide) dX12_init_188 (q := 190) rfl (fun A45 => ?_)
  refine n_put (code := (A44.length + 1)) (ci := 12) (T := TX12) (N := 49) (j := 31) (ty0 := tyX12) (ty := (.array .int)) C inT12 tyX12_ok nmX12 rfl (by decide +kernel) (by decide) kf_X12_78 (Or.inr ⟨rfl, hnm, rfl⟩) (by decide +kernel) rfl rfl (by simp [fvA, show ¬ fk 12 31 = 0 by decide]; rfl) dX12_init_190 (q := 193) rfl (fun A46 => ?_)
  refine n_aload_n (v := k) C dX12_init_193 rfl (q := 194) rfl ?_
  refine n_sipush (v := 19019) C dX12_init_194 (by decide) (q := 197) rfl ?_
  refine n_na2 (v := 19019) (n := 19019) C N ka_2 (by decide) (by decide) (by decide) dX12_init_197 (q := 199) rfl (fun A47 => ?_)
  refine n_put (code := (A46.length + 1)) (ci := 12) (T := TX12) (N := 49) (j := 33) (ty0 := tyX12) (ty := (.array .boolean)) C inT12 tyX12_ok nmX12 rfl (by decide +kernel) (by decide) kf_X12_81 (Or.inr ⟨rfl, hnm, rfl⟩) (by decide +kernel) rfl rfl (by simp [fvA, show ¬ fk 12 33 = 0 by decide]; rfl) dX12_init_199 (q := 202) rfl (fun A48 => ?_)
  refine n_aload_n (v := k) C dX12_init_202 rfl (q := 203) rfl ?_
  refine n_bipush (v := 64) C dX12_init_203 (by decide) (q := 205) rfl ?_
  refine n_na0 (v := 64) (n := 64) C N ka_0 (by decide) (by decide) (by decide) dX12_init_205 (q := 207) rfl (fun A49 => ?_)
  refine n_put (code := (A48.length + 1)) (ci := 12) (T := TX12) (N := 49) (j := 34) (ty0 := tyX12) (ty := (.array .int)) C inT12 tyX12_ok nmX12 rfl (by decide +kernel) (by decide) kf_X12_84 (Or.inr ⟨rfl, hnm, rfl⟩) (by decide +kernel) rfl rfl (by simp [fvA, show ¬ fk 12 34 = 0 by decide]; rfl) dX12_init_207 (q := 210) rfl (fun A50 => ?_)
  refine n_aload_n (v := k) C dX12_init_210 rfl (q := 211) rfl ?_
  refine n_bipush (v := 10) C dX12_init_211 (by decide) (q := 213) rfl ?_
  refine n_na0 (v := 10) (n := 10) C N ka_0 (by decide) (by decide) (by decide) dX12_init_213 (q := 215) rfl (fun A51 => ?_)
  refine n_put (code := (A50.length + 1)) (ci := 12) (T := TX12) (N := 49) (j := 36) (ty0 := tyX12) (ty := (.array .int)) C inT12 tyX12_ok nmX12 rfl (by decide +kernel) (by decide) kf_X12_87 (Or.inr ⟨rfl, hnm, rfl⟩) (by decide +kernel) rfl rfl (by simp [fvA, show ¬ fk 12 36 = 0 by decide]; rfl) dX12_init_215 (q := 218) rfl (fun A52 => ?_)
  refine n_aload_n (v := k) C dX12_init_218 rfl (q := 219) rfl ?_
  refine n_bipush (v := 10) C dX12_init_219 (by decide) (q := 221) rfl ?_
  refine n_na1 (v := 10) (n := 10) C N ka_1 (by decide) (by decide) (by decide) dX12_init_221 (q := 223) rfl (fun A53 => ?_)
  refine n_put (code := (A52.length + 1)) (ci := 12) (T := TX12) (N := 49) (j := 37) (ty0 := tyX12) (ty := (.array .char)) C inT12 tyX12_ok nmX12 rfl (by decide +kernel) (by decide) kf_X12_90 (Or.inr ⟨rfl, hnm, rfl⟩) (by decide +kernel) rfl rfl (by simp [fvA, show ¬ fk 12 37 = 0 by decide]; rfl) dX12_init_223 (q := 226) rfl (fun A54 => ?_)
  refine n_aload_n (v := k) C dX12_init_226 rfl (q := 227) rfl ?_
  refine n_bipush (v := 10) C dX12_init_227 (by decide) (q := 229) rfl ?_
  refine n_na0 (v := 10) (n := 10) C N ka_0 (by decide) (by decide) (by decide) dX12_init_229 (q := 231) rfl (fun A55 => ?_)
  refine n_put (code := (A54.length + 1)) (ci := 12) (T := TX12) (N := 49) (j := 38) (ty0 := tyX12) (ty := (.array .int)) C inT12 tyX12_ok nmX12 rfl (by decide +kernel) (by decide) kf_X12_93 (Or.inr ⟨rfl, hnm, rfl⟩) (by decide +kernel) rfl rfl (by simp [fvA, show ¬ fk 12 38 = 0 by decide]; rfl) dX12_init_231 (q := 234) rfl (fun A56 => ?_)
  refine n_aload_n (v := k) C dX12_init_234 rfl (q := 235) rfl ?_
  refine n_bipush (v := 50) C dX12_init_235 (by decide) (q := 237) rfl ?_
  refine n_na0 (v := 50) (n := 50) C N ka_0 (by decide) (by decide) (by decide) dX12_init_237 (q := 239) rfl (fun A57 => ?_)
  refine n_put (code := (A56.length + 1)) (ci := 12) (T := TX12) (N := 49) (j := 39) (ty0 := tyX12) (ty := (.array .int)) C inT12 tyX12_ok nmX12 rfl (by decide +kernel) (by decide) kf_X12_96 (Or.inr ⟨rfl, hnm, rfl⟩) (by decide +kernel) rfl rfl (by simp [fvA, show ¬ fk 12 39 = 0 by decide]; rfl) dX12_init_239 (q := 242) rfl (fun A58 => ?_)
  refine n_aload_n (v := k) C dX12_init_242 rfl (q := 243) rfl ?_
  refine n_bipush (v := 10) C dX12_init_243 (by decide) (q := 245) rfl ?_
  refine n_na0 (v := 10) (n := 10) C N ka_0 (by decide) (by decide) (by decide) dX12_init_245 (q := 247) rfl (fun A59 => ?_)
  refine n_put (code := (A58.length + 1)) (ci := 12) (T := TX12) (N := 49) (j := 40) (ty0 := tyX12) (ty := (.array .int)) C inT12 tyX12_ok nmX12 rfl (by decide +kernel) (by decide) kf_X12_99 (Or.inr ⟨rfl, hnm, rfl⟩) (by decide +kernel) rfl rfl (by simp [fvA, show ¬ fk 12 40 = 0 by decide]; rfl) dX12_init_247 (q := 250) rfl (fun A60 => ?_)
  refine n_aload_n (v := k) C dX12_init_250 rfl (q := 251) rfl ?_
  refine n_bipush (v := 10) C dX12_init_251 (by decide) (q := 253) rfl ?_
  refine n_na1 (v := 10) (n := 10) C N ka_1 (by decide) (by decide) (by decide) dX12_init_253 (q := 255) rfl (fun A61 => ?_)
  refine n_put (code := (A60.length + 1)) (ci := 12) (T := TX12) (N := 49) (j := 41) (ty0 := tyX12) (ty := (.array .char)) C inT12 tyX12_ok nmX12 rfl (by decide +kernel) (by decide) kf_X12_102 (Or.inr ⟨rfl, hnm, rfl⟩) (by decide +kernel) rfl rfl (by simp [fvA, show ¬ fk 12 41 = 0 by decide]; rfl) dX12_init_255 (q := 258) rfl (fun A62 => ?_)
  refine n_aload_n (v := k) C dX12_init_258 rfl (q := 259) rfl ?_
  refine n_sipush (v := 300) C dX12_init_259 (by decide) (q := 262) rfl ?_
  refine n_na1 (v := 300) (n := 300) C N ka_1 (by decide) (by decide) (by decide) dX12_init_262 (q := 264) rfl (fun A63 => ?_)
  refine n_put (code := (A62.length + 1)) (ci := 12) (T := TX12) (N := 49) (j := 43) (ty0 := tyX12) (ty := (.array .char)) C inT12 tyX12_ok nmX12 rfl (by decide +kernel) (by decide) kf_X12_105 (Or.inr ⟨rfl, hnm, rfl⟩) (by decide +kernel) rfl rfl (by simp [fvA, show ¬ fk 12 43 = 0 by decide]; rfl) dX12_init_264 (q := 267) rfl (fun A64 => ?_)
  refine n_aload_n (v := k) C dX12_init_267 rfl (q := 268) rfl ?_
  refine n_sipush (v := 300) C dX12_init_268 (by decide) (q := 271) rfl ?_
  refine n_na1 (v := 300) (n := 300) C N ka_1 (by decide) (by decide) (by decide) dX12_init_271 (q := 273) rfl (fun A65 => ?_)
  refine n_put (code := (A64.length + 1)) (ci := 12) (T := TX12) (N := 49) (j := 45) (ty0 := tyX12) (ty := (.array .char)) C inT12 tyX12_ok nmX12 rfl (by decide +kernel) (by decide) kf_X12_108 (Or.inr ⟨rfl, hnm, rfl⟩) (by decide +kernel) rfl rfl (by simp [fvA, show ¬ fk 12 45 = 0 by decide]; rfl) dX12_init_273 (q := 276) rfl (fun A66 => ?_)
  refine n_gd (fun hg => ?_)
  exact n_vret C N (hK _) hg dX12_init_276
theorem c_i_X12 (l : Launch) (G : Gx) (k : Nat) (A : AH) {x : AH} (h : i_X12 k A = some x) : CtN l G yX12_init cX12_init 1 1 12 33 22443 [rf G k] A x := CtN.of (by decide +kernel) rfl rfl (Nat.le_of_ble_eq_true rfl) (fun Z hG hl C N hnm hR hret => by
  subst hG
  exact i_X12_ok (K := fun y => y = x) C N hnm hR k _ _ A (fun y hy => by subst hy; exact hret) x h rfl)
theorem mi_X12 : MIp yX12_init cX12_init 1 0 := ⟨(LT.mem (List.mem_of_getElem? (i := 1080) (by decide +kernel)) (by decide +kernel)), (LT.mem (List.mem_of_getElem? (i := 60) (by decide +kernel)) (by decide +kernel)), (LT.mem (List.mem_of_getElem? (i := 1081) (by decide +kernel)) (by decide +kernel)), rfl, by decide +kernel⟩
theorem kc_L_8 : Cond.classLink RL 8 RX11 ∈ LT := (LT.mem (List.mem_of_getElem? (i := 69) (by decide +kernel)) (by decide +kernel))
theorem kn_X11 : Cond.instantiable RX11 13 ∈ LT := (LT.mem (List.mem_of_getElem? (i := 70) (by decide +kernel)) (by decide +kernel))
theorem kj_X11 : Cond.initialized RX11 ∈ LT := (LT.mem (List.mem_of_getElem? (i := 48) (by decide +kernel)) (by decide +kernel))
theorem km_L_90 : Cond.methodLink RL 90 yX11_init ∈ LT := (LT.mem (List.mem_of_getElem? (i := 71) (by decide +kernel)) (by decide +kernel))
theorem kc_L_91 : Cond.classLink RL 91 RX12 ∈ LT := (LT.mem (List.mem_of_getElem? (i := 1077) (by decide +kernel)) (by decide +kernel))
theorem kn_X12 : Cond.instantiable RX12 49 ∈ LT := (LT.mem (List.mem_of_getElem? (i := 1078) (by decide +kernel)) (by decide +kernel))
theorem kj_X12 : Cond.initialized RX12 ∈ LT := (LT.mem (List.mem_of_getElem? (i := 60) (by decide +kernel)) (by decide +kernel))
theorem km_L_93 : Cond.methodLink RL 93 yX12_init ∈ LT := (LT.mem (List.mem_of_getElem? (i := 1079) (by decide +kernel)) (by decide +kernel))
theorem ka_3 : Cond.arrayClass .long ∈ LT := (LT.mem (List.mem_of_getElem? (i := 1442) (by decide +kernel)) (by decide +kernel))
def i_law (A : AH) : Option (AH × Nat × Nat × Nat) :=
  gd (gN A 0 0 601024 7293034 1 13) (bnd (A ++ [(0, 11, List.replicate 13 0)]) fun A1 => Option.bind (i_X11 A.length A1) fun A2 => gd (gC A1 A2 0 0 601024 7293034 195 3730) (gd (gN A2 0 0 601024 7293034 1 49) (bnd (A2 ++ [(0, 12, List.replicate 49 0)]) fun A3 => Option.bind (i_X12 A2.length A3) fun A4 => gd (gC A3 A4 0 0 601024 7293034 33 22443) (gd (gN A4 0 0 601024 7293034 1 1) (bnd (A4 ++ [(4, 1, [])]) fun A5 => some (A5, A.length, A2.length, A4.length))))))
set_option maxRecDepth 100000 in
set_option maxHeartbeats 4000000 in
theorem i_law_ok {Z : Zx} {K : AH × Nat × Nat × Nat → Prop} (C : Cx Z code 7 RL) (N : CN Z 601024 7293034) (hR : RM Z 13 472) (b : Nat) (A : AH) (hK : ∀ A k1 k2 k3, K (A, k1, k2, k3) → WN Z 0 0 A 23 [some (.ref b), some (rf (zG Z) k1), some (rf (zG Z) k2), some (rf (zG Z) k3), some (.int 0), none, none] []) : WFN Z 0 0 K (i_law A) A 0 [some (.ref b), none, none, none, none, none, none] [] := by
  unfold i_law
  refine n_new C N (ty := tyX11) (n := 13) (ci := 11) (T := TX11) inT11 tyX11_ok rfl rfl (by decide) kc_L_8 kn_X11 kj_X11 dL_law_0 (q := 3) rfl (fun A1 => ?_)
  refine n_dup C dL_law_3 rfl (q := 4) rfl ?_
  refine n_callI (As := []) (st := [rf (zG Z) A.length]) (dc := 195) (dn := 3730) C hR N (fun _ h => c_i_X11 _ _ _ _ h) mi_X11 km_L_90 rfl ⟨Nat.le_of_ble_eq_true rfl, Nat.le_of_ble_eq_true rfl⟩ (Nat.le_of_ble_eq_true rfl) rfl rfl dL_law_4 (q := 7) rfl (fun A2 => ?_)
  refine n_astore_n C dL_law_7 (Nat.le_of_ble_eq_true rfl) (L' := [some (.ref b), some (rf (zG Z) A.length), none, none, none, none, none]) rfl (q := 8) rfl ?_
  refine n_new C N (ty := tyX12) (n := 49) (ci := 12) (T := TX12) inT12 tyX12_ok rfl rfl (by decide) kc_L_91 kn_X12 kj_X12 dL_law_8 (q := 11) rfl (fun A3 => ?_)
  refine n_dup C dL_law_11 rfl (q := 12) rfl ?_
  refine n_callI (As := []) (st := [rf (zG Z) A2.length]) (dc := 33) (dn := 22443) C hR N (fun _ h => c_i_X12 _ _ _ _ h) mi_X12 km_L_93 rfl ⟨Nat.le_of_ble_eq_true rfl, Nat.le_of_ble_eq_true rfl⟩ (Nat.le_of_ble_eq_true rfl) rfl rfl dL_law_12 (q := 15) rfl (fun A4 => ?_)
  refine n_astore_n C dL_law_15 (Nat.le_of_ble_eq_true rfl) (L' := [some (.ref b), some (rf (zG Z) A.length), some (rf (zG Z) A2.length), none, none, none, none]) rfl (q := 16) rfl ?_
  refine n_iconst (v := 1) C dL_law_16 (by decide) (q := 17) rfl ?_
  refine n_na3 (v := 1) (n := 1) C N ka_3 (by decide) (by decide) (by decide) dL_law_17 (q := 19) rfl (fun A5 => ?_)
  refine n_astore_n C dL_law_19 (Nat.le_of_ble_eq_true rfl) (L' := [some (.ref b), some (rf (zG Z) A.length), some (rf (zG Z) A2.length), some (rf (zG Z) A4.length), none, none, none]) rfl (q := 20) rfl ?_
  refine n_iconst (v := 0) C dL_law_20 (by decide) (q := 21) rfl ?_
  refine n_istore C dL_law_21 (Nat.le_of_ble_eq_true rfl) (L' := [some (.ref b), some (rf (zG Z) A.length), some (rf (zG Z) A2.length), some (rf (zG Z) A4.length), some (.int 0), none, none]) rfl (q := 23) rfl ?_
  exact n_jmp (fun h => hK _ _ _ _ h)
