theorem ko_1 : Cond.instanceMethod Lib.objectInit ∈ LT := (LT.mem (List.mem_of_getElem? (i := 49) (by decide +kernel)) (by decide +kernel))
theorem ko_2 : Cond.code Lib.objectInit ⟨#[0xb1]⟩ 1 none ∈ LT := (LT.mem (List.mem_of_getElem? (i := 50) (by decide +kernel)) (by decide +kernel))
section NA
variable {Z : Zx} {cc : ByteArray} {nL : Nat} {own : String} {R : Type} {K : R → Prop} {A : AH} {a0 s0 pc q mc ms n : Nat} {L : List (Option Value)} {st : List Value} {v : Int32} {f : AH → Option R}
theorem n_na0 (C : Cx Z cc nL own) (N : CN Z mc ms) (harr : Cond.arrayClass .int ∈ LT) (hv0 : ¬ v < 0) (hv : v.toNatClampNeg = n) (hby : n * componentBytes .int ≤ 536870912) (d : decode cc pc = .ok (.newarray .int, 2)) (hq : pc + 2 = q)
    (kk : ∀ A' : AH, WFN Z a0 s0 K (f A') A' q L (rf (zG Z) A.length :: st)) : WFN Z a0 s0 K (gd (gN A a0 s0 mc ms 1 n) (bnd (A ++ [(1, n, [])]) f)) A pc L (.int v :: st) :=
  n_newarr (t := 0) (ty := .int) C N rfl rfl (fun U cA h => h) (fun cA h => by cases h; rfl) ⟨_, rfl⟩ harr hv0 hv hby d hq kk
theorem n_na1 (C : Cx Z cc nL own) (N : CN Z mc ms) (harr : Cond.arrayClass .char ∈ LT) (hv0 : ¬ v < 0) (hv : v.toNatClampNeg = n) (hby : n * componentBytes .char ≤ 536870912) (d : decode cc pc = .ok (.newarray .char, 2)) (hq : pc + 2 = q)
    (kk : ∀ A' : AH, WFN Z a0 s0 K (f A') A' q L (rf (zG Z) A.length :: st)) : WFN Z a0 s0 K (gd (gN A a0 s0 mc ms 1 n) (bnd (A ++ [(2, n, [])]) f)) A pc L (.int v :: st) :=
  n_newarr (t := 1) (ty := .char) C N rfl rfl (fun U cA h => h) (fun cA h => by cases h; rfl) ⟨_, rfl⟩ harr hv0 hv hby d hq kk
end NA
theorem km_X2_1 : Cond.methodLink RX2 1 Lib.objectInit ∈ LT := (LT.mem (List.mem_of_getElem? (i := 65) (by decide +kernel)) (by decide +kernel))
def i_X2_b (k : Nat) (a0 s0 : Nat) (A : AH) : Option AH :=
  gd (gN A a0 s0 0 0 0 0) (some A)
def i_X2 (k : Nat) (A : AH) : Option AH := i_X2_b k A.length (szA A) A
set_option maxRecDepth 100000 in
set_option maxHeartbeats 4000000 in
theorem i_X2_ok {Z : Zx} {K : AH → Prop} (C : Cx Z cX2_init 1 RX2) (N : CN Z 0 0) (hnm : (zh Z).name = "<init>") (hR : RM Z 1 12) (k : Nat) (a0 s0 : Nat) (A : AH) (hK : ∀ y, K y → RetN Z cX2_init 0 0 y) : WFN Z a0 s0 K (i_X2_b k a0 s0 A) A 0 [some (rf (zG Z) k)] [] := by
  unfold i_X2_b
  refine n_aload_n (v := k) C dX2_init_0 rfl (q := 1) rfl ?_
  refine n_obj C hR km_X2_1 ko_1 ko_2 rfl (Nat.le_of_ble_eq_true rfl) (Nat.le_of_ble_eq_true rfl) dX2_init_1 (q := 4) rfl ?_
  refine n_gd (fun hg => ?_)
  exact n_vret C N (hK _) hg dX2_init_4
theorem c_i_X2 (l : Launch) (G : Gx) (hn : 0 < Gn G) (k : Nat) (A : AH) {x : AH} (h : i_X2 k A = some x) : CtN l G yX2_init cX2_init 1 1 12 0 0 [rf G k] A x := CtN.of (by decide +kernel) rfl rfl (Nat.le_of_ble_eq_true rfl) hn (fun Z hG hl C N hnm hR hret => by
  subst hG
  exact i_X2_ok (K := fun y => y = x) C N hnm hR k _ _ A (fun y hy => by subst hy; exact hret) x h rfl)
theorem mi_X2 : MIp yX2_init cX2_init 1 0 := ⟨(LT.mem (List.mem_of_getElem? (i := 63) (by decide +kernel)) (by decide +kernel)), (LT.mem (List.mem_of_getElem? (i := 25) (by decide +kernel)) (by decide +kernel)), (LT.mem (List.mem_of_getElem? (i := 64) (by decide +kernel)) (by decide +kernel)), rfl, by decide +kernel⟩
theorem km_X0_1 : Cond.methodLink RX0 1 Lib.objectInit ∈ LT := (LT.mem (List.mem_of_getElem? (i := 83) (by decide +kernel)) (by decide +kernel))
def i_X0_b (k : Nat) (a0 s0 : Nat) (A : AH) : Option AH :=
  gd (gN A a0 s0 0 0 0 0) (some A)
def i_X0 (k : Nat) (A : AH) : Option AH := i_X0_b k A.length (szA A) A
set_option maxRecDepth 100000 in
set_option maxHeartbeats 4000000 in
theorem i_X0_ok {Z : Zx} {K : AH → Prop} (C : Cx Z cX0_init 1 RX0) (N : CN Z 0 0) (hnm : (zh Z).name = "<init>") (hR : RM Z 1 12) (k : Nat) (a0 s0 : Nat) (A : AH) (hK : ∀ y, K y → RetN Z cX0_init 0 0 y) : WFN Z a0 s0 K (i_X0_b k a0 s0 A) A 0 [some (rf (zG Z) k)] [] := by
  unfold i_X0_b
  refine n_aload_n (v := k) C dX0_init_0 rfl (q := 1) rfl ?_
  refine n_obj C hR km_X0_1 ko_1 ko_2 rfl (Nat.le_of_ble_eq_true rfl) (Nat.le_of_ble_eq_true rfl) dX0_init_1 (q := 4) rfl ?_
  refine n_gd (fun hg => ?_)
  exact n_vret C N (hK _) hg dX0_init_4
theorem c_i_X0 (l : Launch) (G : Gx) (hn : 0 < Gn G) (k : Nat) (A : AH) {x : AH} (h : i_X0 k A = some x) : CtN l G yX0_init cX0_init 1 1 12 0 0 [rf G k] A x := CtN.of (by decide +kernel) rfl rfl (Nat.le_of_ble_eq_true rfl) hn (fun Z hG hl C N hnm hR hret => by
  subst hG
  exact i_X0_ok (K := fun y => y = x) C N hnm hR k _ _ A (fun y hy => by subst hy; exact hret) x h rfl)
theorem mi_X0 : MIp yX0_init cX0_init 1 0 := ⟨(LT.mem (List.mem_of_getElem? (i := 81) (by decide +kernel)) (by decide +kernel)), (LT.mem (List.mem_of_getElem? (i := 26) (by decide +kernel)) (by decide +kernel)), (LT.mem (List.mem_of_getElem? (i := 82) (by decide +kernel)) (by decide +kernel)), rfl, by decide +kernel⟩
theorem km_X8_3 : Cond.methodLink RX8 3 Lib.objectInit ∈ LT := (LT.mem (List.mem_of_getElem? (i := 56) (by decide +kernel)) (by decide +kernel))
theorem kc_X8_9 : Cond.classLink RX8 9 RX2 ∈ LT := (LT.mem (List.mem_of_getElem? (i := 57) (by decide +kernel)) (by decide +kernel))
theorem ko_X2 : Cond.arrayOver (.object RX2) ∈ LT := (LT.mem (List.mem_of_getElem? (i := 58) (by decide +kernel)) (by decide +kernel))
theorem kf_X8_11 : Cond.fieldLink RX8 11 "Segmentry$Schema" "itemRow" "[LSegmentry$Item;" ∈ LT := (LT.mem (List.mem_of_getElem? (i := 107) (by decide +kernel)) (by decide +kernel))
theorem kc_X8_17 : Cond.classLink RX8 17 RX0 ∈ LT := (LT.mem (List.mem_of_getElem? (i := 59) (by decide +kernel)) (by decide +kernel))
theorem ko_X0 : Cond.arrayOver (.object RX0) ∈ LT := (LT.mem (List.mem_of_getElem? (i := 60) (by decide +kernel)) (by decide +kernel))
theorem kf_X8_19 : Cond.fieldLink RX8 19 "Segmentry$Schema" "entryRow" "[LSegmentry$Entry;" ∈ LT := (LT.mem (List.mem_of_getElem? (i := 108) (by decide +kernel)) (by decide +kernel))
theorem kn_X2 : Cond.instantiable RX2 3 ∈ LT := (LT.mem (List.mem_of_getElem? (i := 61) (by decide +kernel)) (by decide +kernel))
theorem kj_X2 : Cond.initialized RX2 ∈ LT := (LT.mem (List.mem_of_getElem? (i := 25) (by decide +kernel)) (by decide +kernel))
theorem km_X8_23 : Cond.methodLinkNest RX8 23 yX2_init "Segmentry" ∈ LT := (LT.mem (List.mem_of_getElem? (i := 62) (by decide +kernel)) (by decide +kernel))
theorem kf_X8_24 : Cond.fieldLink RX8 24 "Segmentry$Schema" "noItem" "LSegmentry$Item;" ∈ LT := (LT.mem (List.mem_of_getElem? (i := 109) (by decide +kernel)) (by decide +kernel))
theorem kn_X0 : Cond.instantiable RX0 5 ∈ LT := (LT.mem (List.mem_of_getElem? (i := 79) (by decide +kernel)) (by decide +kernel))
theorem kj_X0 : Cond.initialized RX0 ∈ LT := (LT.mem (List.mem_of_getElem? (i := 26) (by decide +kernel)) (by decide +kernel))
theorem km_X8_28 : Cond.methodLinkNest RX8 28 yX0_init "Segmentry" ∈ LT := (LT.mem (List.mem_of_getElem? (i := 80) (by decide +kernel)) (by decide +kernel))
theorem kf_X8_29 : Cond.fieldLink RX8 29 "Segmentry$Schema" "noEntry" "LSegmentry$Entry;" ∈ LT := (LT.mem (List.mem_of_getElem? (i := 110) (by decide +kernel)) (by decide +kernel))
def i_X8_l46 (k : Nat) (a0 s0 : Nat) (a : Int32 × AH) : Option ((Int32 × AH) ⊕ AH) :=
  if 10 ≤ a.1 then (some (.inr a.2)) else (gd (gF a.2 k 8 0) (gd (gN a.2 a0 s0 25 114 1 3) (bnd (a.2 ++ [(0, 2, List.replicate 3 0)]) fun A11 => Option.bind (i_X2 a.2.length A11) fun A12 => gd (gC A11 A12 a0 s0 25 114 0 0) (gd (gR A12 (fA a.2 k 0) 1 10 && (inb a.1 10 && gO A12 a.2.length 2)) (bnd (setA A12 (fA a.2 k 0) (Int32.toNatClampNeg a.1) (a.2.length + 1)) fun A13 => some (.inl (a.1 + 1, A13)))))))
set_option maxRecDepth 100000 in
set_option maxHeartbeats 4000000 in
theorem i_X8_l46_ok {Z : Zx} {K : ((Int32 × AH) ⊕ AH) → Prop} (C : Cx Z cX8_init 2 RX8) (N : CN Z 25 114) (hnm : (zh Z).name = "<init>") (hR : RM Z 2 32) (k : Nat) (a0 s0 : Nat) (a : Int32 × AH) (hB : ∀ a, K (.inl a) → WN Z a0 s0 a.2 46 [some (rf (zG Z) k), some (.int a.1)] []) (hX : ∀ b, K (.inr b) → WN Z a0 s0 b 71 [some (rf (zG Z) k), none] []) : WFN Z a0 s0 K (i_X8_l46 k a0 s0 a) a.2 46 [some (rf (zG Z) k), some (.int a.1)] [] := by
  unfold i_X8_l46
  refine n_iload_n (v := a.1) C dX8_init_46 rfl (q := 47) rfl ?_
  refine n_bipush (v := 10) C dX8_init_47 (by decide) (q := 49) rfl ?_
  refine n_icmp_ge (tgt := 71) (q := 52) C dX8_init_49 (by decide) rfl (fun _ => ?_) (fun _ => ?_)
  · refine WFN.less (L' := [some (rf (zG Z) k), none]) (n_jmp (fun h => hX _ h)) ⟨rfl, trivial⟩
  · refine n_aload_n (v := k) C dX8_init_52 rfl (q := 53) rfl ?_
    refine n_getr (ci := 8) (T := TX8) (N := 7) (j := 0) C inT8 rfl (by decide +kernel) (by decide) (by decide) kf_X8_11 dX8_init_53 (q := 56) rfl ?_
    refine n_iload_n (v := a.1) C dX8_init_56 rfl (q := 57) rfl ?_
    refine n_new C N (ty := tyX2) (n := 3) (ci := 2) (T := TX2) inT2 tyX2_ok rfl rfl (by decide) kc_X8_9 kn_X2 kj_X2 dX8_init_57 (q := 60) rfl (fun A11 => ?_)
    refine n_dup C dX8_init_60 rfl (q := 61) rfl ?_
    refine n_callIN (As := []) (st := [rf (zG Z) a.2.length, .int a.1, rf (zG Z) (fA a.2 k 0)]) (dc := 0) (dn := 0) C hR N (fun _ h => c_i_X2 _ _ N.2.2.2 _ _ h) mi_X2 km_X8_23 rfl ⟨Nat.le_of_ble_eq_true rfl, Nat.le_of_ble_eq_true rfl⟩ (Nat.le_of_ble_eq_true rfl) rfl rfl dX8_init_61 (q := 64) rfl (fun A12 => ?_)
    refine n_aast (t := 1) (n := 10) (ci := 2) C N rfl rfl dX8_init_64 (q := 65) rfl (fun A13 => ?_)
    refine n_iinc (v := a.1 + 1) C dX8_init_65 rfl rfl (L' := [some (rf (zG Z) k), some (.int (a.1 + 1))]) rfl (q := 68) rfl ?_
    refine n_goto (tgt := 46) C dX8_init_68 (by decide) ?_
    exact n_jmp (fun h => hB _ h)
def i_X8_l73 (k : Nat) (a0 s0 : Nat) (a : Int32 × AH) : Option ((Int32 × AH) ⊕ AH) :=
  if 11 ≤ a.1 then (some (.inr a.2)) else (gd (gF a.2 k 8 1) (gd (gN a.2 a0 s0 25 114 1 5) (bnd (a.2 ++ [(0, 0, List.replicate 5 0)]) fun A15 => Option.bind (i_X0 a.2.length A15) fun A16 => gd (gC A15 A16 a0 s0 25 114 0 0) (gd (gR A16 (fA a.2 k 1) 0 11 && (inb a.1 11 && gO A16 a.2.length 0)) (bnd (setA A16 (fA a.2 k 1) (Int32.toNatClampNeg a.1) (a.2.length + 1)) fun A17 => some (.inl (a.1 + 1, A17)))))))
set_option maxRecDepth 100000 in
set_option maxHeartbeats 4000000 in
theorem i_X8_l73_ok {Z : Zx} {K : ((Int32 × AH) ⊕ AH) → Prop} (C : Cx Z cX8_init 2 RX8) (N : CN Z 25 114) (hnm : (zh Z).name = "<init>") (hR : RM Z 2 32) (k : Nat) (a0 s0 : Nat) (a : Int32 × AH) (hB : ∀ a, K (.inl a) → WN Z a0 s0 a.2 73 [some (rf (zG Z) k), some (.int a.1)] []) (hX : ∀ b, K (.inr b) → WN Z a0 s0 b 98 [some (rf (zG Z) k), none] []) : WFN Z a0 s0 K (i_X8_l73 k a0 s0 a) a.2 73 [some (rf (zG Z) k), some (.int a.1)] [] := by
  unfold i_X8_l73
  refine n_iload_n (v := a.1) C dX8_init_73 rfl (q := 74) rfl ?_
  refine n_bipush (v := 11) C dX8_init_74 (by decide) (q := 76) rfl ?_
  refine n_icmp_ge (tgt := 98) (q := 79) C dX8_init_76 (by decide) rfl (fun _ => ?_) (fun _ => ?_)
  · refine WFN.less (L' := [some (rf (zG Z) k), none]) (n_jmp (fun h => hX _ h)) ⟨rfl, trivial⟩
  · refine n_aload_n (v := k) C dX8_init_79 rfl (q := 80) rfl ?_
    refine n_getr (ci := 8) (T := TX8) (N := 7) (j := 1) C inT8 rfl (by decide +kernel) (by decide) (by decide) kf_X8_19 dX8_init_80 (q := 83) rfl ?_
    refine n_iload_n (v := a.1) C dX8_init_83 rfl (q := 84) rfl ?_
    refine n_new C N (ty := tyX0) (n := 5) (ci := 0) (T := TX0) inT0 tyX0_ok rfl rfl (by decide) kc_X8_17 kn_X0 kj_X0 dX8_init_84 (q := 87) rfl (fun A15 => ?_)
    refine n_dup C dX8_init_87 rfl (q := 88) rfl ?_
    refine n_callIN (As := []) (st := [rf (zG Z) a.2.length, .int a.1, rf (zG Z) (fA a.2 k 1)]) (dc := 0) (dn := 0) C hR N (fun _ h => c_i_X0 _ _ N.2.2.2 _ _ h) mi_X0 km_X8_28 rfl ⟨Nat.le_of_ble_eq_true rfl, Nat.le_of_ble_eq_true rfl⟩ (Nat.le_of_ble_eq_true rfl) rfl rfl dX8_init_88 (q := 91) rfl (fun A16 => ?_)
    refine n_aast (t := 0) (n := 11) (ci := 0) C N rfl rfl dX8_init_91 (q := 92) rfl (fun A17 => ?_)
    refine n_iinc (v := a.1 + 1) C dX8_init_92 rfl rfl (L' := [some (rf (zG Z) k), some (.int (a.1 + 1))]) rfl (q := 95) rfl ?_
    refine n_goto (tgt := 73) C dX8_init_95 (by decide) ?_
    exact n_jmp (fun h => hB _ h)
def i_X8_b (k : Nat) (a0 s0 : Nat) (A : AH) : Option AH :=
  gd (gN A a0 s0 25 114 1 10) (bnd (A ++ [(6, 10, List.replicate 10 0)]) fun A1 => gd (gO A1 k 8) (bnd (setA A1 k 0 (A.length + 1)) fun A2 => gd (gN A2 a0 s0 25 114 1 11) (bnd (A2 ++ [(5, 11, List.replicate 11 0)]) fun A3 => gd (gO A3 k 8) (bnd (setA A3 k 1 (A2.length + 1)) fun A4 => gd (gN A4 a0 s0 25 114 1 3) (bnd (A4 ++ [(0, 2, List.replicate 3 0)]) fun A5 => Option.bind (i_X2 A4.length A5) fun A6 => gd (gC A5 A6 a0 s0 25 114 0 0) (gd (gO A6 k 8) (bnd (setA A6 k 2 (A4.length + 1)) fun A7 => gd (gN A7 a0 s0 25 114 1 5) (bnd (A7 ++ [(0, 0, List.replicate 5 0)]) fun A8 => Option.bind (i_X0 A7.length A8) fun A9 => gd (gC A8 A9 a0 s0 25 114 0 0) (gd (gO A9 k 8) (bnd (setA A9 k 3 (A7.length + 1)) fun A10 => Option.bind (loopF (i_X8_l46 k a0 s0) FUN (0, A10)) fun A14 => Option.bind (loopF (i_X8_l73 k a0 s0) FUN (0, A14)) fun A18 => gd (gN A18 a0 s0 25 114 0 0) (some A18)))))))))))
def i_X8 (k : Nat) (A : AH) : Option AH := i_X8_b k A.length (szA A) A
set_option maxRecDepth 100000 in
set_option maxHeartbeats 4000000 in
theorem i_X8_ok {Z : Zx} {K : AH → Prop} (C : Cx Z cX8_init 2 RX8) (N : CN Z 25 114) (hnm : (zh Z).name = "<init>") (hR : RM Z 2 32) (k : Nat) (a0 s0 : Nat) (A : AH) (hK : ∀ y, K y → RetN Z cX8_init 25 114 y) : WFN Z a0 s0 K (i_X8_b k a0 s0 A) A 0 [some (rf (zG Z) k), none] [] := by
  unfold i_X8_b
  refine n_aload_n (v := k) C dX8_init_0 rfl (q := 1) rfl ?_
  refine n_obj C hR km_X8_3 ko_1 ko_2 rfl (Nat.le_of_ble_eq_true rfl) (Nat.le_of_ble_eq_true rfl) dX8_init_1 (q := 4) rfl ?_
  refine n_aload_n (v := k) C dX8_init_4 rfl (q := 5) rfl ?_
  refine n_bipush (v := 10) C dX8_init_5 (by decide) (q := 7) rfl ?_
  refine n_newref (t := 1) (n := 10) (v := 10) (Cn := RX2) C N rfl kc_X8_9 ko_X2 (by decide) (by decide) (by decide) dX8_init_7 (q := 10) rfl (fun A1 => ?_)
  refine n_put (code := (A.length + 1)) (ci := 8) (T := TX8) (N := 7) (j := 0) (ty0 := tyX8) (ty := (.array (.object "Segmentry$Item"))) C N inT8 tyX8_ok nmX8 rfl (by decide +kernel) (by decide) kf_X8_11 (Or.inr ⟨rfl, hnm, rfl⟩) (by decide +kernel) rfl rfl (by simp [fvA, show ¬ fk 8 0 = 0 by decide]; rfl) dX8_init_10 (q := 13) rfl (fun A2 => ?_)
  refine n_aload_n (v := k) C dX8_init_13 rfl (q := 14) rfl ?_
  refine n_bipush (v := 11) C dX8_init_14 (by decide) (q := 16) rfl ?_
  refine n_newref (t := 0) (n := 11) (v := 11) (Cn := RX0) C N rfl kc_X8_17 ko_X0 (by decide) (by decide) (by decide) dX8_init_16 (q := 19) rfl (fun A3 => ?_)
  refine n_put (code := (A2.length + 1)) (ci := 8) (T := TX8) (N := 7) (j := 1) (ty0 := tyX8) (ty := (.array (.object "Segmentry$Entry"))) C N inT8 tyX8_ok nmX8 rfl (by decide +kernel) (by decide) kf_X8_19 (Or.inr ⟨rfl, hnm, rfl⟩) (by decide +kernel) rfl rfl (by simp [fvA, show ¬ fk 8 1 = 0 by decide]; rfl) dX8_init_19 (q := 22) rfl (fun A4 => ?_)
  refine n_aload_n (v := k) C dX8_init_22 rfl (q := 23) rfl ?_
  refine n_new C N (ty := tyX2) (n := 3) (ci := 2) (T := TX2) inT2 tyX2_ok rfl rfl (by decide) kc_X8_9 kn_X2 kj_X2 dX8_init_23 (q := 26) rfl (fun A5 => ?_)
  refine n_dup C dX8_init_26 rfl (q := 27) rfl ?_
  refine n_callIN (As := []) (st := [rf (zG Z) A4.length, rf (zG Z) k]) (dc := 0) (dn := 0) C hR N (fun _ h => c_i_X2 _ _ N.2.2.2 _ _ h) mi_X2 km_X8_23 rfl ⟨Nat.le_of_ble_eq_true rfl, Nat.le_of_ble_eq_true rfl⟩ (Nat.le_of_ble_eq_true rfl) rfl rfl dX8_init_27 (q := 30) rfl (fun A6 => ?_)
  refine n_put (code := (A4.length + 1)) (ci := 8) (T := TX8) (N := 7) (j := 2) (ty0 := tyX8) (ty := (.object "Segmentry$Item")) C N inT8 tyX8_ok nmX8 rfl (by decide +kernel) (by decide) kf_X8_24 (Or.inr ⟨rfl, hnm, rfl⟩) (by decide +kernel) rfl rfl (by simp [fvA, show ¬ fk 8 2 = 0 by decide]; rfl) dX8_init_30 (q := 33) rfl (fun A7 => ?_)
  refine n_aload_n (v := k) C dX8_init_33 rfl (q := 34) rfl ?_
  refine n_new C N (ty := tyX0) (n := 5) (ci := 0) (T := TX0) inT0 tyX0_ok rfl rfl (by decide) kc_X8_17 kn_X0 kj_X0 dX8_init_34 (q := 37) rfl (fun A8 => ?_)
  refine n_dup C dX8_init_37 rfl (q := 38) rfl ?_
  refine n_callIN (As := []) (st := [rf (zG Z) A7.length, rf (zG Z) k]) (dc := 0) (dn := 0) C hR N (fun _ h => c_i_X0 _ _ N.2.2.2 _ _ h) mi_X0 km_X8_28 rfl ⟨Nat.le_of_ble_eq_true rfl, Nat.le_of_ble_eq_true rfl⟩ (Nat.le_of_ble_eq_true rfl) rfl rfl dX8_init_38 (q := 41) rfl (fun A9 => ?_)
  refine n_put (code := (A7.length + 1)) (ci := 8) (T := TX8) (N := 7) (j := 3) (ty0 := tyX8) (ty := (.object "Segmentry$Entry")) C N inT8 tyX8_ok nmX8 rfl (by decide +kernel) (by decide) kf_X8_29 (Or.inr ⟨rfl, hnm, rfl⟩) (by decide +kernel) rfl rfl (by simp [fvA, show ¬ fk 8 3 = 0 by decide]; rfl) dX8_init_41 (q := 44) rfl (fun A10 => ?_)
  refine n_iconst (v := 0) C dX8_init_44 (by decide) (q := 45) rfl ?_
  refine n_istore_n C dX8_init_45 (Nat.le_of_ble_eq_true rfl) (L' := [some (rf (zG Z) k), some (.int 0)]) rfl (q := 46) rfl ?_
  refine n_loopF (body := i_X8_l46 k a0 s0) (ah := fun a => a.2) (lo := fun a => [some (rf (zG Z) k), some (.int a.1)]) (a := (0, A10)) (E := fun b => WN Z a0 s0 b 71 [some (rf (zG Z) k), none] []) (fun a => i_X8_l46_ok C N hnm hR k a0 s0 a (fun a h => h) (fun b h => h)) (fun A14 => ?_)
  show WFN Z a0 s0 K _ _ 71 [some (rf (zG Z) k), none] []
  refine n_iconst (v := 0) C dX8_init_71 (by decide) (q := 72) rfl ?_
  refine n_istore_n C dX8_init_72 (Nat.le_of_ble_eq_true rfl) (L' := [some (rf (zG Z) k), some (.int 0)]) rfl (q := 73) rfl ?_
  refine n_loopF (body := i_X8_l73 k a0 s0) (ah := fun a => a.2) (lo := fun a => [some (rf (zG Z) k), some (.int a.1)]) (a := (0, A14)) (E := fun b => WN Z a0 s0 b 98 [some (rf (zG Z) k), none] []) (fun a => i_X8_l73_ok C N hnm hR k a0 s0 a (fun a h => h) (fun b h => h)) (fun A18 => ?_)
  show WFN Z a0 s0 K _ _ 98 [some (rf (zG Z) k), none] []
  refine n_gd (fun hg => ?_)
  exact n_vret C N (hK _) hg dX8_init_98
theorem c_i_X8 (l : Launch) (G : Gx) (hn : 0 < Gn G) (k : Nat) (A : AH) {x : AH} (h : i_X8 k A = some x) : CtN l G yX8_init cX8_init 2 2 32 25 114 [rf G k] A x := CtN.of (by decide +kernel) rfl rfl (Nat.le_of_ble_eq_true rfl) hn (fun Z hG hl C N hnm hR hret => by
  subst hG
  exact i_X8_ok (K := fun y => y = x) C N hnm hR k _ _ A (fun y hy => by subst hy; exact hret) x h rfl)
theorem mi_X8 : MIp yX8_init cX8_init 2 0 := ⟨(LT.mem (List.mem_of_getElem? (i := 54) (by decide +kernel)) (by decide +kernel)), (LT.mem (List.mem_of_getElem? (i := 24) (by decide +kernel)) (by decide +kernel)), (LT.mem (List.mem_of_getElem? (i := 55) (by decide +kernel)) (by decide +kernel)), rfl, by decide +kernel⟩
theorem km_X10_3 : Cond.methodLink RX10 3 Lib.objectInit ∈ LT := (LT.mem (List.mem_of_getElem? (i := 134) (by decide +kernel)) (by decide +kernel))
theorem ka_1 : Cond.arrayClass .char ∈ LT := (LT.mem (List.mem_of_getElem? (i := 145) (by decide +kernel)) (by decide +kernel))
theorem kf_X10_9 : Cond.fieldLink RX10 9 "Segmentry$Sheet" "row" "[C" ∈ LT := (LT.mem (List.mem_of_getElem? (i := 135) (by decide +kernel)) (by decide +kernel))
def i_X10_b (k : Nat) (a0 s0 : Nat) (A : AH) : Option AH :=
  gd (gN A a0 s0 1 300 1 300) (bnd (A ++ [(2, 300, [])]) fun A1 => gd (gO A1 k 10) (bnd (setA A1 k 0 (A.length + 1)) fun A2 => gd (gN A2 a0 s0 1 300 0 0) (some A2)))
def i_X10 (k : Nat) (A : AH) : Option AH := i_X10_b k A.length (szA A) A
set_option maxRecDepth 100000 in
set_option maxHeartbeats 4000000 in
theorem i_X10_ok {Z : Zx} {K : AH → Prop} (C : Cx Z cX10_init 1 RX10) (N : CN Z 1 300) (hnm : (zh Z).name = "<init>") (hR : RM Z 1 12) (k : Nat) (a0 s0 : Nat) (A : AH) (hK : ∀ y, K y → RetN Z cX10_init 1 300 y) : WFN Z a0 s0 K (i_X10_b k a0 s0 A) A 0 [some (rf (zG Z) k)] [] := by
  unfold i_X10_b
  refine n_aload_n (v := k) C dX10_init_0 rfl (q := 1) rfl ?_
  refine n_obj C hR km_X10_3 ko_1 ko_2 rfl (Nat.le_of_ble_eq_true rfl) (Nat.le_of_ble_eq_true rfl) dX10_init_1 (q := 4) rfl ?_
  refine n_aload_n (v := k) C dX10_init_4 rfl (q := 5) rfl ?_
  refine n_sipush (v := 300) C dX10_init_5 (by decide) (q := 8) rfl ?_
  refine n_na1 (v := 300) (n := 300) C N ka_1 (by decide) (by decide) (by decide) dX10_init_8 (q := 10) rfl (fun A1 => ?_)
  refine n_put (code := (A.length + 1)) (ci := 10) (T := TX10) (N := 3) (j := 0) (ty0 := tyX10) (ty := (.array .char)) C N inT10 tyX10_ok nmX10 rfl (by decide +kernel) (by decide) kf_X10_9 (Or.inr ⟨rfl, hnm, rfl⟩) (by decide +kernel) rfl rfl (by simp [fvA, show ¬ fk 10 0 = 0 by decide]; rfl) dX10_init_10 (q := 13) rfl (fun A2 => ?_)
  refine n_gd (fun hg => ?_)
  exact n_vret C N (hK _) hg dX10_init_13
theorem c_i_X10 (l : Launch) (G : Gx) (hn : 0 < Gn G) (k : Nat) (A : AH) {x : AH} (h : i_X10 k A = some x) : CtN l G yX10_init cX10_init 1 1 12 1 300 [rf G k] A x := CtN.of (by decide +kernel) rfl rfl (Nat.le_of_ble_eq_true rfl) hn (fun Z hG hl C N hnm hR hret => by
  subst hG
  exact i_X10_ok (K := fun y => y = x) C N hnm hR k _ _ A (fun y hy => by subst hy; exact hret) x h rfl)
theorem mi_X10 : MIp yX10_init cX10_init 1 0 := ⟨(LT.mem (List.mem_of_getElem? (i := 132) (by decide +kernel)) (by decide +kernel)), (LT.mem (List.mem_of_getElem? (i := 27) (by decide +kernel)) (by decide +kernel)), (LT.mem (List.mem_of_getElem? (i := 133) (by decide +kernel)) (by decide +kernel)), rfl, by decide +kernel⟩
theorem km_X1_3 : Cond.methodLink RX1 3 Lib.objectInit ∈ LT := (LT.mem (List.mem_of_getElem? (i := 151) (by decide +kernel)) (by decide +kernel))
theorem ka_0 : Cond.arrayClass .int ∈ LT := (LT.mem (List.mem_of_getElem? (i := 162) (by decide +kernel)) (by decide +kernel))
theorem kf_X1_9 : Cond.fieldLink RX1 9 "Segmentry$Faults" "kinds" "[I" ∈ LT := (LT.mem (List.mem_of_getElem? (i := 152) (by decide +kernel)) (by decide +kernel))
theorem kf_X1_15 : Cond.fieldLink RX1 15 "Segmentry$Faults" "places" "[I" ∈ LT := (LT.mem (List.mem_of_getElem? (i := 153) (by decide +kernel)) (by decide +kernel))
def i_X1_b (k : Nat) (a0 s0 : Nat) (A : AH) : Option AH :=
  gd (gN A a0 s0 2 282 1 141) (bnd (A ++ [(1, 141, [])]) fun A1 => gd (gO A1 k 1) (bnd (setA A1 k 0 (A.length + 1)) fun A2 => gd (gN A2 a0 s0 2 282 1 141) (bnd (A2 ++ [(1, 141, [])]) fun A3 => gd (gO A3 k 1) (bnd (setA A3 k 1 (A2.length + 1)) fun A4 => gd (gN A4 a0 s0 2 282 0 0) (some A4)))))
def i_X1 (k : Nat) (A : AH) : Option AH := i_X1_b k A.length (szA A) A
set_option maxRecDepth 100000 in
set_option maxHeartbeats 4000000 in
theorem i_X1_ok {Z : Zx} {K : AH → Prop} (C : Cx Z cX1_init 1 RX1) (N : CN Z 2 282) (hnm : (zh Z).name = "<init>") (hR : RM Z 1 12) (k : Nat) (a0 s0 : Nat) (A : AH) (hK : ∀ y, K y → RetN Z cX1_init 2 282 y) : WFN Z a0 s0 K (i_X1_b k a0 s0 A) A 0 [some (rf (zG Z) k)] [] := by
  unfold i_X1_b
  refine n_aload_n (v := k) C dX1_init_0 rfl (q := 1) rfl ?_
  refine n_obj C hR km_X1_3 ko_1 ko_2 rfl (Nat.le_of_ble_eq_true rfl) (Nat.le_of_ble_eq_true rfl) dX1_init_1 (q := 4) rfl ?_
  refine n_aload_n (v := k) C dX1_init_4 rfl (q := 5) rfl ?_
  refine n_sipush (v := 141) C dX1_init_5 (by decide) (q := 8) rfl ?_
  refine n_na0 (v := 141) (n := 141) C N ka_0 (by decide) (by decide) (by decide) dX1_init_8 (q := 10) rfl (fun A1 => ?_)
  refine n_put (code := (A.length + 1)) (ci := 1) (T := TX1) (N := 3) (j := 0) (ty0 := tyX1) (ty := (.array .int)) C N inT1 tyX1_ok nmX1 rfl (by decide +kernel) (by decide) kf_X1_9 (Or.inr ⟨rfl, hnm, rfl⟩) (by decide +kernel) rfl rfl (by simp [fvA, show ¬ fk 1 0 = 0 by decide]; rfl) dX1_init_10 (q := 13) rfl (fun A2 => ?_)
  refine n_aload_n (v := k) C dX1_init_13 rfl (q := 14) rfl ?_
  refine n_sipush (v := 141) C dX1_init_14 (by decide) (q := 17) rfl ?_
  refine n_na0 (v := 141) (n := 141) C N ka_0 (by decide) (by decide) (by decide) dX1_init_17 (q := 19) rfl (fun A3 => ?_)
  refine n_put (code := (A2.length + 1)) (ci := 1) (T := TX1) (N := 3) (j := 1) (ty0 := tyX1) (ty := (.array .int)) C N inT1 tyX1_ok nmX1 rfl (by decide +kernel) (by decide) kf_X1_15 (Or.inr ⟨rfl, hnm, rfl⟩) (by decide +kernel) rfl rfl (by simp [fvA, show ¬ fk 1 1 = 0 by decide]; rfl) dX1_init_19 (q := 22) rfl (fun A4 => ?_)
  refine n_gd (fun hg => ?_)
  exact n_vret C N (hK _) hg dX1_init_22
theorem c_i_X1 (l : Launch) (G : Gx) (hn : 0 < Gn G) (k : Nat) (A : AH) {x : AH} (h : i_X1 k A = some x) : CtN l G yX1_init cX1_init 1 1 12 2 282 [rf G k] A x := CtN.of (by decide +kernel) rfl rfl (Nat.le_of_ble_eq_true rfl) hn (fun Z hG hl C N hnm hR hret => by
  subst hG
  exact i_X1_ok (K := fun y => y = x) C N hnm hR k _ _ A (fun y hy => by subst hy; exact hret) x h rfl)
theorem mi_X1 : MIp yX1_init cX1_init 1 0 := ⟨(LT.mem (List.mem_of_getElem? (i := 149) (by decide +kernel)) (by decide +kernel)), (LT.mem (List.mem_of_getElem? (i := 28) (by decide +kernel)) (by decide +kernel)), (LT.mem (List.mem_of_getElem? (i := 150) (by decide +kernel)) (by decide +kernel)), rfl, by decide +kernel⟩
theorem km_X3_3 : Cond.methodLink RX3 3 Lib.objectInit ∈ LT := (LT.mem (List.mem_of_getElem? (i := 174) (by decide +kernel)) (by decide +kernel))
theorem kf_X3_9 : Cond.fieldLink RX3 9 "Segmentry$Matcher" "marked" "[I" ∈ LT := (LT.mem (List.mem_of_getElem? (i := 176) (by decide +kernel)) (by decide +kernel))
theorem kf_X3_15 : Cond.fieldLink RX3 15 "Segmentry$Matcher" "rests" "[I" ∈ LT := (LT.mem (List.mem_of_getElem? (i := 177) (by decide +kernel)) (by decide +kernel))
theorem kf_X3_18 : Cond.fieldLink RX3 18 "Segmentry$Matcher" "afters" "[I" ∈ LT := (LT.mem (List.mem_of_getElem? (i := 178) (by decide +kernel)) (by decide +kernel))
theorem kf_X3_21 : Cond.fieldLink RX3 21 "Segmentry$Matcher" "begun" "[I" ∈ LT := (LT.mem (List.mem_of_getElem? (i := 179) (by decide +kernel)) (by decide +kernel))
theorem kf_X3_24 : Cond.fieldLink RX3 24 "Segmentry$Matcher" "schema" "LSegmentry$Schema;" ∈ LT := (LT.mem (List.mem_of_getElem? (i := 175) (by decide +kernel)) (by decide +kernel))
def i_X3_b (k : Nat) (p1 : Nat) (a0 s0 : Nat) (A : AH) : Option AH :=
  gd (gN A a0 s0 4 43 1 10) (bnd (A ++ [(1, 10, [])]) fun A1 => gd (gO A1 k 3) (bnd (setA A1 k 1 (A.length + 1)) fun A2 => gd (gN A2 a0 s0 4 43 1 12) (bnd (A2 ++ [(1, 12, [])]) fun A3 => gd (gO A3 k 3) (bnd (setA A3 k 2 (A2.length + 1)) fun A4 => gd (gN A4 a0 s0 4 43 1 10) (bnd (A4 ++ [(1, 10, [])]) fun A5 => gd (gO A5 k 3) (bnd (setA A5 k 3 (A4.length + 1)) fun A6 => gd (gN A6 a0 s0 4 43 1 11) (bnd (A6 ++ [(1, 11, [])]) fun A7 => gd (gO A7 k 3) (bnd (setA A7 k 4 (A6.length + 1)) fun A8 => gd (gO A8 k 3) (bnd (setA A8 k 0 (p1 + 1)) fun A9 => gd (gN A9 a0 s0 4 43 0 0) (some A9))))))))))
def i_X3 (k : Nat) (p1 : Nat) (A : AH) : Option AH := i_X3_b k p1 A.length (szA A) A
set_option maxRecDepth 100000 in
set_option maxHeartbeats 4000000 in
theorem i_X3_ok {Z : Zx} {K : AH → Prop} (C : Cx Z cX3_init 2 RX3) (N : CN Z 4 43) (hnm : (zh Z).name = "<init>") (hR : RM Z 1 12) (k : Nat) (p1 : Nat) (a0 s0 : Nat) (A : AH) (hK : ∀ y, K y → RetN Z cX3_init 4 43 y) : WFN Z a0 s0 K (i_X3_b k p1 a0 s0 A) A 0 [some (rf (zG Z) k), some (rf (zG Z) p1)] [] := by
  unfold i_X3_b
  refine n_aload_n (v := k) C dX3_init_0 rfl (q := 1) rfl ?_
  refine n_obj C hR km_X3_3 ko_1 ko_2 rfl (Nat.le_of_ble_eq_true rfl) (Nat.le_of_ble_eq_true rfl) dX3_init_1 (q := 4) rfl ?_
  refine n_aload_n (v := k) C dX3_init_4 rfl (q := 5) rfl ?_
  refine n_bipush (v := 10) C dX3_init_5 (by decide) (q := 7) rfl ?_
  refine n_na0 (v := 10) (n := 10) C N ka_0 (by decide) (by decide) (by decide) dX3_init_7 (q := 9) rfl (fun A1 => ?_)
  refine n_put (code := (A.length + 1)) (ci := 3) (T := TX3) (N := 6) (j := 1) (ty0 := tyX3) (ty := (.array .int)) C N inT3 tyX3_ok nmX3 rfl (by decide +kernel) (by decide) kf_X3_9 (Or.inr ⟨rfl, hnm, rfl⟩) (by decide +kernel) rfl rfl (by simp [fvA, show ¬ fk 3 1 = 0 by decide]; rfl) dX3_init_9 (q := 12) rfl (fun A2 => ?_)
  refine n_aload_n (v := k) C dX3_init_12 rfl (q := 13) rfl ?_
  refine n_bipush (v := 12) C dX3_init_13 (by decide) (q := 15) rfl ?_
  refine n_na0 (v := 12) (n := 12) C N ka_0 (by decide) (by decide) (by decide) dX3_init_15 (q := 17) rfl (fun A3 => ?_)
  refine n_put (code := (A2.length + 1)) (ci := 3) (T := TX3) (N := 6) (j := 2) (ty0 := tyX3) (ty := (.array .int)) C N inT3 tyX3_ok nmX3 rfl (by decide +kernel) (by decide) kf_X3_15 (Or.inr ⟨rfl, hnm, rfl⟩) (by decide +kernel) rfl rfl (by simp [fvA, show ¬ fk 3 2 = 0 by decide]; rfl) dX3_init_17 (q := 20) rfl (fun A4 => ?_)
  refine n_aload_n (v := k) C dX3_init_20 rfl (q := 21) rfl ?_
  refine n_bipush (v := 10) C dX3_init_21 (by decide) (q := 23) rfl ?_
  refine n_na0 (v := 10) (n := 10) C N ka_0 (by decide) (by decide) (by decide) dX3_init_23 (q := 25) rfl (fun A5 => ?_)
  refine n_put (code := (A4.length + 1)) (ci := 3) (T := TX3) (N := 6) (j := 3) (ty0 := tyX3) (ty := (.array .int)) C N inT3 tyX3_ok nmX3 rfl (by decide +kernel) (by decide) kf_X3_18 (Or.inr ⟨rfl, hnm, rfl⟩) (by decide +kernel) rfl rfl (by simp [fvA, show ¬ fk 3 3 = 0 by decide]; rfl) dX3_init_25 (q := 28) rfl (fun A6 => ?_)
  refine n_aload_n (v := k) C dX3_init_28 rfl (q := 29) rfl ?_
  refine n_bipush (v := 11) C dX3_init_29 (by decide) (q := 31) rfl ?_
  refine n_na0 (v := 11) (n := 11) C N ka_0 (by decide) (by decide) (by decide) dX3_init_31 (q := 33) rfl (fun A7 => ?_)
  refine n_put (code := (A6.length + 1)) (ci := 3) (T := TX3) (N := 6) (j := 4) (ty0 := tyX3) (ty := (.array .int)) C N inT3 tyX3_ok nmX3 rfl (by decide +kernel) (by decide) kf_X3_21 (Or.inr ⟨rfl, hnm, rfl⟩) (by decide +kernel) rfl rfl (by simp [fvA, show ¬ fk 3 4 = 0 by decide]; rfl) dX3_init_33 (q := 36) rfl (fun A8 => ?_)
  refine n_aload_n (v := k) C dX3_init_36 rfl (q := 37) rfl ?_
  refine n_aload_n (v := p1) C dX3_init_37 rfl (q := 38) rfl ?_
  refine n_put (code := (p1 + 1)) (ci := 3) (T := TX3) (N := 6) (j := 0) (ty0 := tyX3) (ty := (.object "Segmentry$Schema")) C N inT3 tyX3_ok nmX3 rfl (by decide +kernel) (by decide) kf_X3_24 (Or.inr ⟨rfl, hnm, rfl⟩) (by decide +kernel) rfl rfl (by simp [fvA, show ¬ fk 3 0 = 0 by decide]; rfl) dX3_init_38 (q := 41) rfl (fun A9 => ?_)
  refine n_gd (fun hg => ?_)
  exact n_vret C N (hK _) hg dX3_init_41
theorem c_i_X3 (l : Launch) (G : Gx) (hn : 0 < Gn G) (k : Nat) (p1 : Nat) (A : AH) {x : AH} (h : i_X3 k p1 A = some x) : CtN l G yX3_init cX3_init 2 1 12 4 43 [rf G k, rf G p1] A x := CtN.of (by decide +kernel) rfl rfl (Nat.le_of_ble_eq_true rfl) hn (fun Z hG hl C N hnm hR hret => by
  subst hG
  exact i_X3_ok (K := fun y => y = x) C N hnm hR k p1 _ _ A (fun y hy => by subst hy; exact hret) x h rfl)
theorem mi_X3 : MIp yX3_init cX3_init 2 1 := ⟨(LT.mem (List.mem_of_getElem? (i := 172) (by decide +kernel)) (by decide +kernel)), (LT.mem (List.mem_of_getElem? (i := 30) (by decide +kernel)) (by decide +kernel)), (LT.mem (List.mem_of_getElem? (i := 173) (by decide +kernel)) (by decide +kernel)), rfl, by decide +kernel⟩
theorem km_X5_3 : Cond.methodLink RX5 3 Lib.objectInit ∈ LT := (LT.mem (List.mem_of_getElem? (i := 168) (by decide +kernel)) (by decide +kernel))
theorem kf_X5_9 : Cond.fieldLink RX5 9 "Segmentry$Reader" "faults" "LSegmentry$Faults;" ∈ LT := (LT.mem (List.mem_of_getElem? (i := 194) (by decide +kernel)) (by decide +kernel))
theorem kc_X5_15 : Cond.classLink RX5 15 RX3 ∈ LT := (LT.mem (List.mem_of_getElem? (i := 169) (by decide +kernel)) (by decide +kernel))
theorem kn_X3 : Cond.instantiable RX3 6 ∈ LT := (LT.mem (List.mem_of_getElem? (i := 170) (by decide +kernel)) (by decide +kernel))
theorem kj_X3 : Cond.initialized RX3 ∈ LT := (LT.mem (List.mem_of_getElem? (i := 30) (by decide +kernel)) (by decide +kernel))
theorem km_X5_17 : Cond.methodLink RX5 17 yX3_init ∈ LT := (LT.mem (List.mem_of_getElem? (i := 171) (by decide +kernel)) (by decide +kernel))
theorem kf_X5_20 : Cond.fieldLink RX5 20 "Segmentry$Reader" "matcher" "LSegmentry$Matcher;" ∈ LT := (LT.mem (List.mem_of_getElem? (i := 195) (by decide +kernel)) (by decide +kernel))
def i_X5_b (k : Nat) (p1 : Nat) (p2 : Nat) (a0 s0 : Nat) (A : AH) : Option AH :=
  gd (gO A k 5) (bnd (setA A k 0 (p2 + 1)) fun A1 => gd (gN A1 a0 s0 5 49 1 6) (bnd (A1 ++ [(0, 3, List.replicate 6 0)]) fun A2 => Option.bind (i_X3 A1.length p1 A2) fun A3 => gd (gC A2 A3 a0 s0 5 49 4 43) (gd (gO A3 k 5) (bnd (setA A3 k 1 (A1.length + 1)) fun A4 => gd (gN A4 a0 s0 5 49 0 0) (some A4)))))
def i_X5 (k : Nat) (p1 : Nat) (p2 : Nat) (A : AH) : Option AH := i_X5_b k p1 p2 A.length (szA A) A
set_option maxRecDepth 100000 in
set_option maxHeartbeats 4000000 in
theorem i_X5_ok {Z : Zx} {K : AH → Prop} (C : Cx Z cX5_init 3 RX5) (N : CN Z 5 49) (hnm : (zh Z).name = "<init>") (hR : RM Z 2 33) (k : Nat) (p1 : Nat) (p2 : Nat) (a0 s0 : Nat) (A : AH) (hK : ∀ y, K y → RetN Z cX5_init 5 49 y) : WFN Z a0 s0 K (i_X5_b k p1 p2 a0 s0 A) A 0 [some (rf (zG Z) k), some (rf (zG Z) p1), some (rf (zG Z) p2)] [] := by
  unfold i_X5_b
  refine n_aload_n (v := k) C dX5_init_0 rfl (q := 1) rfl ?_
  refine n_obj C hR km_X5_3 ko_1 ko_2 rfl (Nat.le_of_ble_eq_true rfl) (Nat.le_of_ble_eq_true rfl) dX5_init_1 (q := 4) rfl ?_
  refine n_aload_n (v := k) C dX5_init_4 rfl (q := 5) rfl ?_
  refine n_aload_n (v := p2) C dX5_init_5 rfl (q := 6) rfl ?_
  refine n_put (code := (p2 + 1)) (ci := 5) (T := TX5) (N := 2) (j := 0) (ty0 := tyX5) (ty := (.object "Segmentry$Faults")) C N inT5 tyX5_ok nmX5 rfl (by decide +kernel) (by decide) kf_X5_9 (Or.inr ⟨rfl, hnm, rfl⟩) (by decide +kernel) rfl rfl (by simp [fvA, show ¬ fk 5 0 = 0 by decide]; rfl) dX5_init_6 (q := 9) rfl (fun A1 => ?_)
  refine n_aload_n (v := k) C dX5_init_9 rfl (q := 10) rfl ?_
  refine n_new C N (ty := tyX3) (n := 6) (ci := 3) (T := TX3) inT3 tyX3_ok rfl rfl (by decide) kc_X5_15 kn_X3 kj_X3 dX5_init_10 (q := 13) rfl (fun A2 => ?_)
  refine n_dup C dX5_init_13 rfl (q := 14) rfl ?_
  refine n_aload_n (v := p1) C dX5_init_14 rfl (q := 15) rfl ?_
  refine n_callI (As := [rf (zG Z) p1]) (st := [rf (zG Z) A1.length, rf (zG Z) k]) (dc := 4) (dn := 43) C hR N (fun _ h => c_i_X3 _ _ N.2.2.2 _ _ _ h) mi_X3 km_X5_17 rfl ⟨Nat.le_of_ble_eq_true rfl, Nat.le_of_ble_eq_true rfl⟩ (Nat.le_of_ble_eq_true rfl) rfl rfl dX5_init_15 (q := 18) rfl (fun A3 => ?_)
  refine n_put (code := (A1.length + 1)) (ci := 5) (T := TX5) (N := 2) (j := 1) (ty0 := tyX5) (ty := (.object "Segmentry$Matcher")) C N inT5 tyX5_ok nmX5 rfl (by decide +kernel) (by decide) kf_X5_20 (Or.inr ⟨rfl, hnm, rfl⟩) (by decide +kernel) rfl rfl (by simp [fvA, show ¬ fk 5 1 = 0 by decide]; rfl) dX5_init_18 (q := 21) rfl (fun A4 => ?_)
  refine n_gd (fun hg => ?_)
  exact n_vret C N (hK _) hg dX5_init_21
theorem c_i_X5 (l : Launch) (G : Gx) (hn : 0 < Gn G) (k : Nat) (p1 : Nat) (p2 : Nat) (A : AH) {x : AH} (h : i_X5 k p1 p2 A = some x) : CtN l G yX5_init cX5_init 3 2 33 5 49 [rf G k, rf G p1, rf G p2] A x := CtN.of (by decide +kernel) rfl rfl (Nat.le_of_ble_eq_true rfl) hn (fun Z hG hl C N hnm hR hret => by
  subst hG
  exact i_X5_ok (K := fun y => y = x) C N hnm hR k p1 p2 _ _ A (fun y hy => by subst hy; exact hret) x h rfl)
theorem mi_X5 : MIp yX5_init cX5_init 3 2 := ⟨(LT.mem (List.mem_of_getElem? (i := 166) (by decide +kernel)) (by decide +kernel)), (LT.mem (List.mem_of_getElem? (i := 29) (by decide +kernel)) (by decide +kernel)), (LT.mem (List.mem_of_getElem? (i := 167) (by decide +kernel)) (by decide +kernel)), rfl, by decide +kernel⟩
theorem km_X6_3 : Cond.methodLink RX6 3 Lib.objectInit ∈ LT := (LT.mem (List.mem_of_getElem? (i := 213) (by decide +kernel)) (by decide +kernel))
theorem kf_X6_9 : Cond.fieldLink RX6 9 "Segmentry$Rule" "fields" "[I" ∈ LT := (LT.mem (List.mem_of_getElem? (i := 214) (by decide +kernel)) (by decide +kernel))
def i_X6_b (k : Nat) (a0 s0 : Nat) (A : AH) : Option AH :=
  gd (gN A a0 s0 1 5 1 5) (bnd (A ++ [(1, 5, [])]) fun A1 => gd (gO A1 k 6) (bnd (setA A1 k 0 (A.length + 1)) fun A2 => gd (gN A2 a0 s0 1 5 0 0) (some A2)))
def i_X6 (k : Nat) (A : AH) : Option AH := i_X6_b k A.length (szA A) A
set_option maxRecDepth 100000 in
set_option maxHeartbeats 4000000 in
theorem i_X6_ok {Z : Zx} {K : AH → Prop} (C : Cx Z cX6_init 1 RX6) (N : CN Z 1 5) (hnm : (zh Z).name = "<init>") (hR : RM Z 1 12) (k : Nat) (a0 s0 : Nat) (A : AH) (hK : ∀ y, K y → RetN Z cX6_init 1 5 y) : WFN Z a0 s0 K (i_X6_b k a0 s0 A) A 0 [some (rf (zG Z) k)] [] := by
  unfold i_X6_b
  refine n_aload_n (v := k) C dX6_init_0 rfl (q := 1) rfl ?_
  refine n_obj C hR km_X6_3 ko_1 ko_2 rfl (Nat.le_of_ble_eq_true rfl) (Nat.le_of_ble_eq_true rfl) dX6_init_1 (q := 4) rfl ?_
  refine n_aload_n (v := k) C dX6_init_4 rfl (q := 5) rfl ?_
  refine n_iconst (v := 5) C dX6_init_5 (by decide) (q := 6) rfl ?_
  refine n_na0 (v := 5) (n := 5) C N ka_0 (by decide) (by decide) (by decide) dX6_init_6 (q := 8) rfl (fun A1 => ?_)
  refine n_put (code := (A.length + 1)) (ci := 6) (T := TX6) (N := 6) (j := 0) (ty0 := tyX6) (ty := (.array .int)) C N inT6 tyX6_ok nmX6 rfl (by decide +kernel) (by decide) kf_X6_9 (Or.inr ⟨rfl, hnm, rfl⟩) (by decide +kernel) rfl rfl (by simp [fvA, show ¬ fk 6 0 = 0 by decide]; rfl) dX6_init_8 (q := 11) rfl (fun A2 => ?_)
  refine n_gd (fun hg => ?_)
  exact n_vret C N (hK _) hg dX6_init_11
theorem c_i_X6 (l : Launch) (G : Gx) (hn : 0 < Gn G) (k : Nat) (A : AH) {x : AH} (h : i_X6 k A = some x) : CtN l G yX6_init cX6_init 1 1 12 1 5 [rf G k] A x := CtN.of (by decide +kernel) rfl rfl (Nat.le_of_ble_eq_true rfl) hn (fun Z hG hl C N hnm hR hret => by
  subst hG
  exact i_X6_ok (K := fun y => y = x) C N hnm hR k _ _ A (fun y hy => by subst hy; exact hret) x h rfl)
theorem mi_X6 : MIp yX6_init cX6_init 1 0 := ⟨(LT.mem (List.mem_of_getElem? (i := 211) (by decide +kernel)) (by decide +kernel)), (LT.mem (List.mem_of_getElem? (i := 32) (by decide +kernel)) (by decide +kernel)), (LT.mem (List.mem_of_getElem? (i := 212) (by decide +kernel)) (by decide +kernel)), rfl, by decide +kernel⟩
theorem km_X7_3 : Cond.methodLink RX7 3 Lib.objectInit ∈ LT := (LT.mem (List.mem_of_getElem? (i := 206) (by decide +kernel)) (by decide +kernel))
theorem kc_X7_9 : Cond.classLink RX7 9 RX6 ∈ LT := (LT.mem (List.mem_of_getElem? (i := 207) (by decide +kernel)) (by decide +kernel))
theorem ko_X6 : Cond.arrayOver (.object RX6) ∈ LT := (LT.mem (List.mem_of_getElem? (i := 208) (by decide +kernel)) (by decide +kernel))
theorem kf_X7_11 : Cond.fieldLink RX7 11 "Segmentry$RuleBook" "row" "[LSegmentry$Rule;" ∈ LT := (LT.mem (List.mem_of_getElem? (i := 233) (by decide +kernel)) (by decide +kernel))
theorem kn_X6 : Cond.instantiable RX6 6 ∈ LT := (LT.mem (List.mem_of_getElem? (i := 209) (by decide +kernel)) (by decide +kernel))
theorem kj_X6 : Cond.initialized RX6 ∈ LT := (LT.mem (List.mem_of_getElem? (i := 32) (by decide +kernel)) (by decide +kernel))
theorem km_X7_17 : Cond.methodLinkNest RX7 17 yX6_init "Segmentry" ∈ LT := (LT.mem (List.mem_of_getElem? (i := 210) (by decide +kernel)) (by decide +kernel))
theorem kf_X7_18 : Cond.fieldLink RX7 18 "Segmentry$RuleBook" "none" "LSegmentry$Rule;" ∈ LT := (LT.mem (List.mem_of_getElem? (i := 234) (by decide +kernel)) (by decide +kernel))
def i_X7_l26 (k : Nat) (a0 s0 : Nat) (a : Int32 × AH) : Option ((Int32 × AH) ⊕ AH) :=
  if 10 ≤ a.1 then (some (.inr a.2)) else (gd (gF a.2 k 7 0) (gd (gN a.2 a0 s0 23 131 1 6) (bnd (a.2 ++ [(0, 6, List.replicate 6 0)]) fun A6 => Option.bind (i_X6 a.2.length A6) fun A7 => gd (gC A6 A7 a0 s0 23 131 1 5) (gd (gR A7 (fA a.2 k 0) 2 10 && (inb a.1 10 && gO A7 a.2.length 6)) (bnd (setA A7 (fA a.2 k 0) (Int32.toNatClampNeg a.1) (a.2.length + 1)) fun A8 => some (.inl (a.1 + 1, A8)))))))
set_option maxRecDepth 100000 in
set_option maxHeartbeats 4000000 in
theorem i_X7_l26_ok {Z : Zx} {K : ((Int32 × AH) ⊕ AH) → Prop} (C : Cx Z cX7_init 2 RX7) (N : CN Z 23 131) (hnm : (zh Z).name = "<init>") (hR : RM Z 2 32) (k : Nat) (a0 s0 : Nat) (a : Int32 × AH) (hB : ∀ a, K (.inl a) → WN Z a0 s0 a.2 26 [some (rf (zG Z) k), some (.int a.1)] []) (hX : ∀ b, K (.inr b) → WN Z a0 s0 b 51 [some (rf (zG Z) k), none] []) : WFN Z a0 s0 K (i_X7_l26 k a0 s0 a) a.2 26 [some (rf (zG Z) k), some (.int a.1)] [] := by
  unfold i_X7_l26
  refine n_iload_n (v := a.1) C dX7_init_26 rfl (q := 27) rfl ?_
  refine n_bipush (v := 10) C dX7_init_27 (by decide) (q := 29) rfl ?_
  refine n_icmp_ge (tgt := 51) (q := 32) C dX7_init_29 (by decide) rfl (fun _ => ?_) (fun _ => ?_)
  · refine WFN.less (L' := [some (rf (zG Z) k), none]) (n_jmp (fun h => hX _ h)) ⟨rfl, trivial⟩
  · refine n_aload_n (v := k) C dX7_init_32 rfl (q := 33) rfl ?_
    refine n_getr (ci := 7) (T := TX7) (N := 3) (j := 0) C inT7 rfl (by decide +kernel) (by decide) (by decide) kf_X7_11 dX7_init_33 (q := 36) rfl ?_
    refine n_iload_n (v := a.1) C dX7_init_36 rfl (q := 37) rfl ?_
    refine n_new C N (ty := tyX6) (n := 6) (ci := 6) (T := TX6) inT6 tyX6_ok rfl rfl (by decide) kc_X7_9 kn_X6 kj_X6 dX7_init_37 (q := 40) rfl (fun A6 => ?_)
    refine n_dup C dX7_init_40 rfl (q := 41) rfl ?_
    refine n_callIN (As := []) (st := [rf (zG Z) a.2.length, .int a.1, rf (zG Z) (fA a.2 k 0)]) (dc := 1) (dn := 5) C hR N (fun _ h => c_i_X6 _ _ N.2.2.2 _ _ h) mi_X6 km_X7_17 rfl ⟨Nat.le_of_ble_eq_true rfl, Nat.le_of_ble_eq_true rfl⟩ (Nat.le_of_ble_eq_true rfl) rfl rfl dX7_init_41 (q := 44) rfl (fun A7 => ?_)
    refine n_aast (t := 2) (n := 10) (ci := 6) C N rfl rfl dX7_init_44 (q := 45) rfl (fun A8 => ?_)
    refine n_iinc (v := a.1 + 1) C dX7_init_45 rfl rfl (L' := [some (rf (zG Z) k), some (.int (a.1 + 1))]) rfl (q := 48) rfl ?_
    refine n_goto (tgt := 26) C dX7_init_48 (by decide) ?_
    exact n_jmp (fun h => hB _ h)
def i_X7_b (k : Nat) (a0 s0 : Nat) (A : AH) : Option AH :=
  gd (gN A a0 s0 23 131 1 10) (bnd (A ++ [(7, 10, List.replicate 10 0)]) fun A1 => gd (gO A1 k 7) (bnd (setA A1 k 0 (A.length + 1)) fun A2 => gd (gN A2 a0 s0 23 131 1 6) (bnd (A2 ++ [(0, 6, List.replicate 6 0)]) fun A3 => Option.bind (i_X6 A2.length A3) fun A4 => gd (gC A3 A4 a0 s0 23 131 1 5) (gd (gO A4 k 7) (bnd (setA A4 k 1 (A2.length + 1)) fun A5 => Option.bind (loopF (i_X7_l26 k a0 s0) FUN (0, A5)) fun A9 => gd (gN A9 a0 s0 23 131 0 0) (some A9))))))
def i_X7 (k : Nat) (A : AH) : Option AH := i_X7_b k A.length (szA A) A
set_option maxRecDepth 100000 in
set_option maxHeartbeats 4000000 in
theorem i_X7_ok {Z : Zx} {K : AH → Prop} (C : Cx Z cX7_init 2 RX7) (N : CN Z 23 131) (hnm : (zh Z).name = "<init>") (hR : RM Z 2 32) (k : Nat) (a0 s0 : Nat) (A : AH) (hK : ∀ y, K y → RetN Z cX7_init 23 131 y) : WFN Z a0 s0 K (i_X7_b k a0 s0 A) A 0 [some (rf (zG Z) k), none] [] := by
  unfold i_X7_b
  refine n_aload_n (v := k) C dX7_init_0 rfl (q := 1) rfl ?_
  refine n_obj C hR km_X7_3 ko_1 ko_2 rfl (Nat.le_of_ble_eq_true rfl) (Nat.le_of_ble_eq_true rfl) dX7_init_1 (q := 4) rfl ?_
  refine n_aload_n (v := k) C dX7_init_4 rfl (q := 5) rfl ?_
  refine n_bipush (v := 10) C dX7_init_5 (by decide) (q := 7) rfl ?_
  refine n_newref (t := 2) (n := 10) (v := 10) (Cn := RX6) C N rfl kc_X7_9 ko_X6 (by decide) (by decide) (by decide) dX7_init_7 (q := 10) rfl (fun A1 => ?_)
  refine n_put (code := (A.length + 1)) (ci := 7) (T := TX7) (N := 3) (j := 0) (ty0 := tyX7) (ty := (.array (.object "Segmentry$Rule"))) C N inT7 tyX7_ok nmX7 rfl (by decide +kernel) (by decide) kf_X7_11 (Or.inr ⟨rfl, hnm, rfl⟩) (by decide +kernel) rfl rfl (by simp [fvA, show ¬ fk 7 0 = 0 by decide]; rfl) dX7_init_10 (q := 13) rfl (fun A2 => ?_)
  refine n_aload_n (v := k) C dX7_init_13 rfl (q := 14) rfl ?_
  refine n_new C N (ty := tyX6) (n := 6) (ci := 6) (T := TX6) inT6 tyX6_ok rfl rfl (by decide) kc_X7_9 kn_X6 kj_X6 dX7_init_14 (q := 17) rfl (fun A3 => ?_)
  refine n_dup C dX7_init_17 rfl (q := 18) rfl ?_
  refine n_callIN (As := []) (st := [rf (zG Z) A2.length, rf (zG Z) k]) (dc := 1) (dn := 5) C hR N (fun _ h => c_i_X6 _ _ N.2.2.2 _ _ h) mi_X6 km_X7_17 rfl ⟨Nat.le_of_ble_eq_true rfl, Nat.le_of_ble_eq_true rfl⟩ (Nat.le_of_ble_eq_true rfl) rfl rfl dX7_init_18 (q := 21) rfl (fun A4 => ?_)
  refine n_put (code := (A2.length + 1)) (ci := 7) (T := TX7) (N := 3) (j := 1) (ty0 := tyX7) (ty := (.object "Segmentry$Rule")) C N inT7 tyX7_ok nmX7 rfl (by decide +kernel) (by decide) kf_X7_18 (Or.inr ⟨rfl, hnm, rfl⟩) (by decide +kernel) rfl rfl (by simp [fvA, show ¬ fk 7 1 = 0 by decide]; rfl) dX7_init_21 (q := 24) rfl (fun A5 => ?_)
  refine n_iconst (v := 0) C dX7_init_24 (by decide) (q := 25) rfl ?_
  refine n_istore_n C dX7_init_25 (Nat.le_of_ble_eq_true rfl) (L' := [some (rf (zG Z) k), some (.int 0)]) rfl (q := 26) rfl ?_
  refine n_loopF (body := i_X7_l26 k a0 s0) (ah := fun a => a.2) (lo := fun a => [some (rf (zG Z) k), some (.int a.1)]) (a := (0, A5)) (E := fun b => WN Z a0 s0 b 51 [some (rf (zG Z) k), none] []) (fun a => i_X7_l26_ok C N hnm hR k a0 s0 a (fun a h => h) (fun b h => h)) (fun A9 => ?_)
  show WFN Z a0 s0 K _ _ 51 [some (rf (zG Z) k), none] []
  refine n_gd (fun hg => ?_)
  exact n_vret C N (hK _) hg dX7_init_51
theorem c_i_X7 (l : Launch) (G : Gx) (hn : 0 < Gn G) (k : Nat) (A : AH) {x : AH} (h : i_X7 k A = some x) : CtN l G yX7_init cX7_init 2 2 32 23 131 [rf G k] A x := CtN.of (by decide +kernel) rfl rfl (Nat.le_of_ble_eq_true rfl) hn (fun Z hG hl C N hnm hR hret => by
  subst hG
  exact i_X7_ok (K := fun y => y = x) C N hnm hR k _ _ A (fun y hy => by subst hy; exact hret) x h rfl)
theorem mi_X7 : MIp yX7_init cX7_init 2 0 := ⟨(LT.mem (List.mem_of_getElem? (i := 204) (by decide +kernel)) (by decide +kernel)), (LT.mem (List.mem_of_getElem? (i := 31) (by decide +kernel)) (by decide +kernel)), (LT.mem (List.mem_of_getElem? (i := 205) (by decide +kernel)) (by decide +kernel)), rfl, by decide +kernel⟩
theorem km_X9_3 : Cond.methodLink RX9 3 Lib.objectInit ∈ LT := (LT.mem (List.mem_of_getElem? (i := 255) (by decide +kernel)) (by decide +kernel))
theorem kf_X9_9 : Cond.fieldLink RX9 9 "Segmentry$Segment" "letters" "[C" ∈ LT := (LT.mem (List.mem_of_getElem? (i := 256) (by decide +kernel)) (by decide +kernel))
theorem kf_X9_15 : Cond.fieldLink RX9 15 "Segmentry$Segment" "counts" "[I" ∈ LT := (LT.mem (List.mem_of_getElem? (i := 257) (by decide +kernel)) (by decide +kernel))
theorem kf_X9_19 : Cond.fieldLink RX9 19 "Segmentry$Segment" "mark" "C" ∈ LT := (LT.mem (List.mem_of_getElem? (i := 259) (by decide +kernel)) (by decide +kernel))
def i_X9_b (k : Nat) (a0 s0 : Nat) (A : AH) : Option AH :=
  gd (gN A a0 s0 2 45 1 40) (bnd (A ++ [(2, 40, [])]) fun A1 => gd (gO A1 k 9) (bnd (setA A1 k 0 (A.length + 1)) fun A2 => gd (gN A2 a0 s0 2 45 1 5) (bnd (A2 ++ [(1, 5, [])]) fun A3 => gd (gO A3 k 9) (bnd (setA A3 k 1 (A2.length + 1)) fun A4 => gd (gO A4 k 9) (bnd (setA A4 k 3 32) fun A5 => gd (gN A5 a0 s0 2 45 0 0) (some A5))))))
def i_X9 (k : Nat) (A : AH) : Option AH := i_X9_b k A.length (szA A) A
set_option maxRecDepth 100000 in
set_option maxHeartbeats 4000000 in
theorem i_X9_ok {Z : Zx} {K : AH → Prop} (C : Cx Z cX9_init 1 RX9) (N : CN Z 2 45) (hnm : (zh Z).name = "<init>") (hR : RM Z 1 12) (k : Nat) (a0 s0 : Nat) (A : AH) (hK : ∀ y, K y → RetN Z cX9_init 2 45 y) : WFN Z a0 s0 K (i_X9_b k a0 s0 A) A 0 [some (rf (zG Z) k)] [] := by
  unfold i_X9_b
  refine n_aload_n (v := k) C dX9_init_0 rfl (q := 1) rfl ?_
  refine n_obj C hR km_X9_3 ko_1 ko_2 rfl (Nat.le_of_ble_eq_true rfl) (Nat.le_of_ble_eq_true rfl) dX9_init_1 (q := 4) rfl ?_
  refine n_aload_n (v := k) C dX9_init_4 rfl (q := 5) rfl ?_
  refine n_bipush (v := 40) C dX9_init_5 (by decide) (q := 7) rfl ?_
  refine n_na1 (v := 40) (n := 40) C N ka_1 (by decide) (by decide) (by decide) dX9_init_7 (q := 9) rfl (fun A1 => ?_)
  refine n_put (code := (A.length + 1)) (ci := 9) (T := TX9) (N := 7) (j := 0) (ty0 := tyX9) (ty := (.array .char)) C N inT9 tyX9_ok nmX9 rfl (by decide +kernel) (by decide) kf_X9_9 (Or.inr ⟨rfl, hnm, rfl⟩) (by decide +kernel) rfl rfl (by simp [fvA, show ¬ fk 9 0 = 0 by decide]; rfl) dX9_init_9 (q := 12) rfl (fun A2 => ?_)
  refine n_aload_n (v := k) C dX9_init_12 rfl (q := 13) rfl ?_
  refine n_iconst (v := 5) C dX9_init_13 (by decide) (q := 14) rfl ?_
  refine n_na0 (v := 5) (n := 5) C N ka_0 (by decide) (by decide) (by decide) dX9_init_14 (q := 16) rfl (fun A3 => ?_)
  refine n_put (code := (A2.length + 1)) (ci := 9) (T := TX9) (N := 7) (j := 1) (ty0 := tyX9) (ty := (.array .int)) C N inT9 tyX9_ok nmX9 rfl (by decide +kernel) (by decide) kf_X9_15 (Or.inr ⟨rfl, hnm, rfl⟩) (by decide +kernel) rfl rfl (by simp [fvA, show ¬ fk 9 1 = 0 by decide]; rfl) dX9_init_16 (q := 19) rfl (fun A4 => ?_)
  refine n_aload_n (v := k) C dX9_init_19 rfl (q := 20) rfl ?_
  refine n_bipush (v := 32) C dX9_init_20 (by decide) (q := 22) rfl ?_
  refine n_put (code := 32) (ci := 9) (T := TX9) (N := 7) (j := 3) (ty0 := tyX9) (ty := .char) C N inT9 tyX9_ok nmX9 rfl (by decide +kernel) (by decide) kf_X9_19 (Or.inl rfl) (by decide +kernel) (by decide) (by decide) rfl dX9_init_22 (q := 25) rfl (fun A5 => ?_)
  refine n_gd (fun hg => ?_)
  exact n_vret C N (hK _) hg dX9_init_25
theorem c_i_X9 (l : Launch) (G : Gx) (hn : 0 < Gn G) (k : Nat) (A : AH) {x : AH} (h : i_X9 k A = some x) : CtN l G yX9_init cX9_init 1 1 12 2 45 [rf G k] A x := CtN.of (by decide +kernel) rfl rfl (Nat.le_of_ble_eq_true rfl) hn (fun Z hG hl C N hnm hR hret => by
  subst hG
  exact i_X9_ok (K := fun y => y = x) C N hnm hR k _ _ A (fun y hy => by subst hy; exact hret) x h rfl)
theorem mi_X9 : MIp yX9_init cX9_init 1 0 := ⟨(LT.mem (List.mem_of_getElem? (i := 253) (by decide +kernel)) (by decide +kernel)), (LT.mem (List.mem_of_getElem? (i := 34) (by decide +kernel)) (by decide +kernel)), (LT.mem (List.mem_of_getElem? (i := 254) (by decide +kernel)) (by decide +kernel)), rfl, by decide +kernel⟩
theorem km_X4_3 : Cond.methodLink RX4 3 Lib.objectInit ∈ LT := (LT.mem (List.mem_of_getElem? (i := 248) (by decide +kernel)) (by decide +kernel))
theorem kc_X4_9 : Cond.classLink RX4 9 RX9 ∈ LT := (LT.mem (List.mem_of_getElem? (i := 249) (by decide +kernel)) (by decide +kernel))
theorem ko_X9 : Cond.arrayOver (.object RX9) ∈ LT := (LT.mem (List.mem_of_getElem? (i := 250) (by decide +kernel)) (by decide +kernel))
theorem kf_X4_11 : Cond.fieldLink RX4 11 "Segmentry$Message" "row" "[LSegmentry$Segment;" ∈ LT := (LT.mem (List.mem_of_getElem? (i := 278) (by decide +kernel)) (by decide +kernel))
theorem kn_X9 : Cond.instantiable RX9 7 ∈ LT := (LT.mem (List.mem_of_getElem? (i := 251) (by decide +kernel)) (by decide +kernel))
theorem kj_X9 : Cond.initialized RX9 ∈ LT := (LT.mem (List.mem_of_getElem? (i := 34) (by decide +kernel)) (by decide +kernel))
theorem km_X4_17 : Cond.methodLinkNest RX4 17 yX9_init "Segmentry" ∈ LT := (LT.mem (List.mem_of_getElem? (i := 252) (by decide +kernel)) (by decide +kernel))
theorem kf_X4_18 : Cond.fieldLink RX4 18 "Segmentry$Message" "none" "LSegmentry$Segment;" ∈ LT := (LT.mem (List.mem_of_getElem? (i := 279) (by decide +kernel)) (by decide +kernel))
def i_X4_l26 (k : Nat) (a0 s0 : Nat) (a : Int32 × AH) : Option ((Int32 × AH) ⊕ AH) :=
  if 20 ≤ a.1 then (some (.inr a.2)) else (gd (gF a.2 k 4 0) (gd (gN a.2 a0 s0 64 1112 1 7) (bnd (a.2 ++ [(0, 9, List.replicate 7 0)]) fun A6 => Option.bind (i_X9 a.2.length A6) fun A7 => gd (gC A6 A7 a0 s0 64 1112 2 45) (gd (gR A7 (fA a.2 k 0) 3 20 && (inb a.1 20 && gO A7 a.2.length 9)) (bnd (setA A7 (fA a.2 k 0) (Int32.toNatClampNeg a.1) (a.2.length + 1)) fun A8 => some (.inl (a.1 + 1, A8)))))))
set_option maxRecDepth 100000 in
set_option maxHeartbeats 4000000 in
theorem i_X4_l26_ok {Z : Zx} {K : ((Int32 × AH) ⊕ AH) → Prop} (C : Cx Z cX4_init 2 RX4) (N : CN Z 64 1112) (hnm : (zh Z).name = "<init>") (hR : RM Z 2 32) (k : Nat) (a0 s0 : Nat) (a : Int32 × AH) (hB : ∀ a, K (.inl a) → WN Z a0 s0 a.2 26 [some (rf (zG Z) k), some (.int a.1)] []) (hX : ∀ b, K (.inr b) → WN Z a0 s0 b 51 [some (rf (zG Z) k), none] []) : WFN Z a0 s0 K (i_X4_l26 k a0 s0 a) a.2 26 [some (rf (zG Z) k), some (.int a.1)] [] := by
  unfold i_X4_l26
  refine n_iload_n (v := a.1) C dX4_init_26 rfl (q := 27) rfl ?_
  refine n_bipush (v := 20) C dX4_init_27 (by decide) (q := 29) rfl ?_
  refine n_icmp_ge (tgt := 51) (q := 32) C dX4_init_29 (by decide) rfl (fun _ => ?_) (fun _ => ?_)
  · refine WFN.less (L' := [some (rf (zG Z) k), none]) (n_jmp (fun h => hX _ h)) ⟨rfl, trivial⟩
  · refine n_aload_n (v := k) C dX4_init_32 rfl (q := 33) rfl ?_
    refine n_getr (ci := 4) (T := TX4) (N := 3) (j := 0) C inT4 rfl (by decide +kernel) (by decide) (by decide) kf_X4_11 dX4_init_33 (q := 36) rfl ?_
    refine n_iload_n (v := a.1) C dX4_init_36 rfl (q := 37) rfl ?_
    refine n_new C N (ty := tyX9) (n := 7) (ci := 9) (T := TX9) inT9 tyX9_ok rfl rfl (by decide) kc_X4_9 kn_X9 kj_X9 dX4_init_37 (q := 40) rfl (fun A6 => ?_)
    refine n_dup C dX4_init_40 rfl (q := 41) rfl ?_
    refine n_callIN (As := []) (st := [rf (zG Z) a.2.length, .int a.1, rf (zG Z) (fA a.2 k 0)]) (dc := 2) (dn := 45) C hR N (fun _ h => c_i_X9 _ _ N.2.2.2 _ _ h) mi_X9 km_X4_17 rfl ⟨Nat.le_of_ble_eq_true rfl, Nat.le_of_ble_eq_true rfl⟩ (Nat.le_of_ble_eq_true rfl) rfl rfl dX4_init_41 (q := 44) rfl (fun A7 => ?_)
    refine n_aast (t := 3) (n := 20) (ci := 9) C N rfl rfl dX4_init_44 (q := 45) rfl (fun A8 => ?_)
    refine n_iinc (v := a.1 + 1) C dX4_init_45 rfl rfl (L' := [some (rf (zG Z) k), some (.int (a.1 + 1))]) rfl (q := 48) rfl ?_
    refine n_goto (tgt := 26) C dX4_init_48 (by decide) ?_
    exact n_jmp (fun h => hB _ h)
def i_X4_b (k : Nat) (a0 s0 : Nat) (A : AH) : Option AH :=
  gd (gN A a0 s0 64 1112 1 20) (bnd (A ++ [(8, 20, List.replicate 20 0)]) fun A1 => gd (gO A1 k 4) (bnd (setA A1 k 0 (A.length + 1)) fun A2 => gd (gN A2 a0 s0 64 1112 1 7) (bnd (A2 ++ [(0, 9, List.replicate 7 0)]) fun A3 => Option.bind (i_X9 A2.length A3) fun A4 => gd (gC A3 A4 a0 s0 64 1112 2 45) (gd (gO A4 k 4) (bnd (setA A4 k 1 (A2.length + 1)) fun A5 => Option.bind (loopF (i_X4_l26 k a0 s0) FUN (0, A5)) fun A9 => gd (gN A9 a0 s0 64 1112 0 0) (some A9))))))
def i_X4 (k : Nat) (A : AH) : Option AH := i_X4_b k A.length (szA A) A
set_option maxRecDepth 100000 in
set_option maxHeartbeats 4000000 in
theorem i_X4_ok {Z : Zx} {K : AH → Prop} (C : Cx Z cX4_init 2 RX4) (N : CN Z 64 1112) (hnm : (zh Z).name = "<init>") (hR : RM Z 2 32) (k : Nat) (a0 s0 : Nat) (A : AH) (hK : ∀ y, K y → RetN Z cX4_init 64 1112 y) : WFN Z a0 s0 K (i_X4_b k a0 s0 A) A 0 [some (rf (zG Z) k), none] [] := by
  unfold i_X4_b
  refine n_aload_n (v := k) C dX4_init_0 rfl (q := 1) rfl ?_
  refine n_obj C hR km_X4_3 ko_1 ko_2 rfl (Nat.le_of_ble_eq_true rfl) (Nat.le_of_ble_eq_true rfl) dX4_init_1 (q := 4) rfl ?_
  refine n_aload_n (v := k) C dX4_init_4 rfl (q := 5) rfl ?_
  refine n_bipush (v := 20) C dX4_init_5 (by decide) (q := 7) rfl ?_
  refine n_newref (t := 3) (n := 20) (v := 20) (Cn := RX9) C N rfl kc_X4_9 ko_X9 (by decide) (by decide) (by decide) dX4_init_7 (q := 10) rfl (fun A1 => ?_)
  refine n_put (code := (A.length + 1)) (ci := 4) (T := TX4) (N := 3) (j := 0) (ty0 := tyX4) (ty := (.array (.object "Segmentry$Segment"))) C N inT4 tyX4_ok nmX4 rfl (by decide +kernel) (by decide) kf_X4_11 (Or.inr ⟨rfl, hnm, rfl⟩) (by decide +kernel) rfl rfl (by simp [fvA, show ¬ fk 4 0 = 0 by decide]; rfl) dX4_init_10 (q := 13) rfl (fun A2 => ?_)
  refine n_aload_n (v := k) C dX4_init_13 rfl (q := 14) rfl ?_
  refine n_new C N (ty := tyX9) (n := 7) (ci := 9) (T := TX9) inT9 tyX9_ok rfl rfl (by decide) kc_X4_9 kn_X9 kj_X9 dX4_init_14 (q := 17) rfl (fun A3 => ?_)
  refine n_dup C dX4_init_17 rfl (q := 18) rfl ?_
  refine n_callIN (As := []) (st := [rf (zG Z) A2.length, rf (zG Z) k]) (dc := 2) (dn := 45) C hR N (fun _ h => c_i_X9 _ _ N.2.2.2 _ _ h) mi_X9 km_X4_17 rfl ⟨Nat.le_of_ble_eq_true rfl, Nat.le_of_ble_eq_true rfl⟩ (Nat.le_of_ble_eq_true rfl) rfl rfl dX4_init_18 (q := 21) rfl (fun A4 => ?_)
  refine n_put (code := (A2.length + 1)) (ci := 4) (T := TX4) (N := 3) (j := 1) (ty0 := tyX4) (ty := (.object "Segmentry$Segment")) C N inT4 tyX4_ok nmX4 rfl (by decide +kernel) (by decide) kf_X4_18 (Or.inr ⟨rfl, hnm, rfl⟩) (by decide +kernel) rfl rfl (by simp [fvA, show ¬ fk 4 1 = 0 by decide]; rfl) dX4_init_21 (q := 24) rfl (fun A5 => ?_)
  refine n_iconst (v := 0) C dX4_init_24 (by decide) (q := 25) rfl ?_
  refine n_istore_n C dX4_init_25 (Nat.le_of_ble_eq_true rfl) (L' := [some (rf (zG Z) k), some (.int 0)]) rfl (q := 26) rfl ?_
  refine n_loopF (body := i_X4_l26 k a0 s0) (ah := fun a => a.2) (lo := fun a => [some (rf (zG Z) k), some (.int a.1)]) (a := (0, A5)) (E := fun b => WN Z a0 s0 b 51 [some (rf (zG Z) k), none] []) (fun a => i_X4_l26_ok C N hnm hR k a0 s0 a (fun a h => h) (fun b h => h)) (fun A9 => ?_)
  show WFN Z a0 s0 K _ _ 51 [some (rf (zG Z) k), none] []
  refine n_gd (fun hg => ?_)
  exact n_vret C N (hK _) hg dX4_init_51
theorem c_i_X4 (l : Launch) (G : Gx) (hn : 0 < Gn G) (k : Nat) (A : AH) {x : AH} (h : i_X4 k A = some x) : CtN l G yX4_init cX4_init 2 2 32 64 1112 [rf G k] A x := CtN.of (by decide +kernel) rfl rfl (Nat.le_of_ble_eq_true rfl) hn (fun Z hG hl C N hnm hR hret => by
  subst hG
  exact i_X4_ok (K := fun y => y = x) C N hnm hR k _ _ A (fun y hy => by subst hy; exact hret) x h rfl)
theorem mi_X4 : MIp yX4_init cX4_init 2 0 := ⟨(LT.mem (List.mem_of_getElem? (i := 246) (by decide +kernel)) (by decide +kernel)), (LT.mem (List.mem_of_getElem? (i := 33) (by decide +kernel)) (by decide +kernel)), (LT.mem (List.mem_of_getElem? (i := 247) (by decide +kernel)) (by decide +kernel)), rfl, by decide +kernel⟩
theorem km_X11_3 : Cond.methodLink RX11 3 Lib.objectInit ∈ LT := (LT.mem (List.mem_of_getElem? (i := 48) (by decide +kernel)) (by decide +kernel))
theorem kc_X11_9 : Cond.classLink RX11 9 RX8 ∈ LT := (LT.mem (List.mem_of_getElem? (i := 51) (by decide +kernel)) (by decide +kernel))
theorem kn_X8 : Cond.instantiable RX8 7 ∈ LT := (LT.mem (List.mem_of_getElem? (i := 52) (by decide +kernel)) (by decide +kernel))
theorem kj_X8 : Cond.initialized RX8 ∈ LT := (LT.mem (List.mem_of_getElem? (i := 24) (by decide +kernel)) (by decide +kernel))
theorem km_X11_11 : Cond.methodLink RX11 11 yX8_init ∈ LT := (LT.mem (List.mem_of_getElem? (i := 53) (by decide +kernel)) (by decide +kernel))
theorem kf_X11_12 : Cond.fieldLink RX11 12 "Segmentry" "schema" "LSegmentry$Schema;" ∈ LT := (LT.mem (List.mem_of_getElem? (i := 288) (by decide +kernel)) (by decide +kernel))
theorem kc_X11_16 : Cond.classLink RX11 16 RX10 ∈ LT := (LT.mem (List.mem_of_getElem? (i := 129) (by decide +kernel)) (by decide +kernel))
theorem kn_X10 : Cond.instantiable RX10 3 ∈ LT := (LT.mem (List.mem_of_getElem? (i := 130) (by decide +kernel)) (by decide +kernel))
theorem kj_X10 : Cond.initialized RX10 ∈ LT := (LT.mem (List.mem_of_getElem? (i := 27) (by decide +kernel)) (by decide +kernel))
theorem km_X11_18 : Cond.methodLinkNest RX11 18 yX10_init "Segmentry" ∈ LT := (LT.mem (List.mem_of_getElem? (i := 131) (by decide +kernel)) (by decide +kernel))
theorem kf_X11_19 : Cond.fieldLink RX11 19 "Segmentry" "text" "LSegmentry$Sheet;" ∈ LT := (LT.mem (List.mem_of_getElem? (i := 289) (by decide +kernel)) (by decide +kernel))
theorem kc_X11_23 : Cond.classLink RX11 23 RX1 ∈ LT := (LT.mem (List.mem_of_getElem? (i := 146) (by decide +kernel)) (by decide +kernel))
theorem kn_X1 : Cond.instantiable RX1 3 ∈ LT := (LT.mem (List.mem_of_getElem? (i := 147) (by decide +kernel)) (by decide +kernel))
theorem kj_X1 : Cond.initialized RX1 ∈ LT := (LT.mem (List.mem_of_getElem? (i := 28) (by decide +kernel)) (by decide +kernel))
theorem km_X11_25 : Cond.methodLinkNest RX11 25 yX1_init "Segmentry" ∈ LT := (LT.mem (List.mem_of_getElem? (i := 148) (by decide +kernel)) (by decide +kernel))
theorem kf_X11_26 : Cond.fieldLink RX11 26 "Segmentry" "faults" "LSegmentry$Faults;" ∈ LT := (LT.mem (List.mem_of_getElem? (i := 290) (by decide +kernel)) (by decide +kernel))
theorem kc_X11_30 : Cond.classLink RX11 30 RX5 ∈ LT := (LT.mem (List.mem_of_getElem? (i := 163) (by decide +kernel)) (by decide +kernel))
theorem kn_X5 : Cond.instantiable RX5 2 ∈ LT := (LT.mem (List.mem_of_getElem? (i := 164) (by decide +kernel)) (by decide +kernel))
theorem kj_X5 : Cond.initialized RX5 ∈ LT := (LT.mem (List.mem_of_getElem? (i := 29) (by decide +kernel)) (by decide +kernel))
theorem km_X11_32 : Cond.methodLink RX11 32 yX5_init ∈ LT := (LT.mem (List.mem_of_getElem? (i := 165) (by decide +kernel)) (by decide +kernel))
theorem kf_X11_35 : Cond.fieldLink RX11 35 "Segmentry" "reader" "LSegmentry$Reader;" ∈ LT := (LT.mem (List.mem_of_getElem? (i := 291) (by decide +kernel)) (by decide +kernel))
theorem kc_X11_39 : Cond.classLink RX11 39 RX7 ∈ LT := (LT.mem (List.mem_of_getElem? (i := 201) (by decide +kernel)) (by decide +kernel))
theorem kn_X7 : Cond.instantiable RX7 3 ∈ LT := (LT.mem (List.mem_of_getElem? (i := 202) (by decide +kernel)) (by decide +kernel))
theorem kj_X7 : Cond.initialized RX7 ∈ LT := (LT.mem (List.mem_of_getElem? (i := 31) (by decide +kernel)) (by decide +kernel))
theorem km_X11_41 : Cond.methodLink RX11 41 yX7_init ∈ LT := (LT.mem (List.mem_of_getElem? (i := 203) (by decide +kernel)) (by decide +kernel))
theorem kf_X11_42 : Cond.fieldLink RX11 42 "Segmentry" "rules" "LSegmentry$RuleBook;" ∈ LT := (LT.mem (List.mem_of_getElem? (i := 292) (by decide +kernel)) (by decide +kernel))
theorem kc_X11_46 : Cond.classLink RX11 46 RX4 ∈ LT := (LT.mem (List.mem_of_getElem? (i := 243) (by decide +kernel)) (by decide +kernel))
theorem kn_X4 : Cond.instantiable RX4 3 ∈ LT := (LT.mem (List.mem_of_getElem? (i := 244) (by decide +kernel)) (by decide +kernel))
theorem kj_X4 : Cond.initialized RX4 ∈ LT := (LT.mem (List.mem_of_getElem? (i := 33) (by decide +kernel)) (by decide +kernel))
theorem km_X11_48 : Cond.methodLink RX11 48 yX4_init ∈ LT := (LT.mem (List.mem_of_getElem? (i := 245) (by decide +kernel)) (by decide +kernel))
theorem kf_X11_49 : Cond.fieldLink RX11 49 "Segmentry" "accepted" "LSegmentry$Message;" ∈ LT := (LT.mem (List.mem_of_getElem? (i := 293) (by decide +kernel)) (by decide +kernel))
theorem kf_X11_53 : Cond.fieldLink RX11 53 "Segmentry" "draft" "LSegmentry$Message;" ∈ LT := (LT.mem (List.mem_of_getElem? (i := 294) (by decide +kernel)) (by decide +kernel))
theorem kf_X11_56 : Cond.fieldLink RX11 56 "Segmentry" "output" "LSegmentry$Sheet;" ∈ LT := (LT.mem (List.mem_of_getElem? (i := 298) (by decide +kernel)) (by decide +kernel))
theorem kf_X11_59 : Cond.fieldLink RX11 59 "Segmentry" "outputDraft" "LSegmentry$Sheet;" ∈ LT := (LT.mem (List.mem_of_getElem? (i := 299) (by decide +kernel)) (by decide +kernel))
def i_X11_b (k : Nat) (a0 s0 : Nat) (A : AH) : Option AH :=
  gd (gN A a0 s0 195 3730 1 7) (bnd (A ++ [(0, 8, List.replicate 7 0)]) fun A1 => Option.bind (i_X8 A.length A1) fun A2 => gd (gC A1 A2 a0 s0 195 3730 25 114) (gd (gO A2 k 11) (bnd (setA A2 k 0 (A.length + 1)) fun A3 => gd (gN A3 a0 s0 195 3730 1 3) (bnd (A3 ++ [(0, 10, List.replicate 3 0)]) fun A4 => Option.bind (i_X10 A3.length A4) fun A5 => gd (gC A4 A5 a0 s0 195 3730 1 300) (gd (gO A5 k 11) (bnd (setA A5 k 1 (A3.length + 1)) fun A6 => gd (gN A6 a0 s0 195 3730 1 3) (bnd (A6 ++ [(0, 1, List.replicate 3 0)]) fun A7 => Option.bind (i_X1 A6.length A7) fun A8 => gd (gC A7 A8 a0 s0 195 3730 2 282) (gd (gO A8 k 11) (bnd (setA A8 k 2 (A6.length + 1)) fun A9 => gd (gN A9 a0 s0 195 3730 1 2) (bnd (A9 ++ [(0, 5, List.replicate 2 0)]) fun A10 => gd (gF A10 k 11 0) (gd (gF A10 k 11 2) (Option.bind (i_X5 A9.length (fA A10 k 0) (fA A10 k 2) A10) fun A11 => gd (gC A10 A11 a0 s0 195 3730 5 49) (gd (gO A11 k 11) (bnd (setA A11 k 3 (A9.length + 1)) fun A12 => gd (gN A12 a0 s0 195 3730 1 3) (bnd (A12 ++ [(0, 7, List.replicate 3 0)]) fun A13 => Option.bind (i_X7 A12.length A13) fun A14 => gd (gC A13 A14 a0 s0 195 3730 23 131) (gd (gO A14 k 11) (bnd (setA A14 k 4 (A12.length + 1)) fun A15 => gd (gN A15 a0 s0 195 3730 1 3) (bnd (A15 ++ [(0, 4, List.replicate 3 0)]) fun A16 => Option.bind (i_X4 A15.length A16) fun A17 => gd (gC A16 A17 a0 s0 195 3730 64 1112) (gd (gO A17 k 11) (bnd (setA A17 k 5 (A15.length + 1)) fun A18 => gd (gN A18 a0 s0 195 3730 1 3) (bnd (A18 ++ [(0, 4, List.replicate 3 0)]) fun A19 => Option.bind (i_X4 A18.length A19) fun A20 => gd (gC A19 A20 a0 s0 195 3730 64 1112) (gd (gO A20 k 11) (bnd (setA A20 k 6 (A18.length + 1)) fun A21 => gd (gN A21 a0 s0 195 3730 1 3) (bnd (A21 ++ [(0, 10, List.replicate 3 0)]) fun A22 => Option.bind (i_X10 A21.length A22) fun A23 => gd (gC A22 A23 a0 s0 195 3730 1 300) (gd (gO A23 k 11) (bnd (setA A23 k 10 (A21.length + 1)) fun A24 => gd (gN A24 a0 s0 195 3730 1 3) (bnd (A24 ++ [(0, 10, List.replicate 3 0)]) fun A25 => Option.bind (i_X10 A24.length A25) fun A26 => gd (gC A25 A26 a0 s0 195 3730 1 300) (gd (gO A26 k 11) (bnd (setA A26 k 11 (A24.length + 1)) fun A27 => gd (gN A27 a0 s0 195 3730 0 0) (some A27))))))))))))))))))))))))))))))
def i_X11 (k : Nat) (A : AH) : Option AH := i_X11_b k A.length (szA A) A
set_option maxRecDepth 100000 in
set_option maxHeartbeats 4000000 in
theorem i_X11_ok {Z : Zx} {K : AH → Prop} (C : Cx Z cX11_init 1 RX11) (N : CN Z 195 3730) (hnm : (zh Z).name = "<init>") (hR : RM Z 3 55) (k : Nat) (a0 s0 : Nat) (A : AH) (hK : ∀ y, K y → RetN Z cX11_init 195 3730 y) : WFN Z a0 s0 K (i_X11_b k a0 s0 A) A 0 [some (rf (zG Z) k)] [] := by
  unfold i_X11_b
  refine n_aload_n (v := k) C dX11_init_0 rfl (q := 1) rfl ?_
  refine n_obj C hR km_X11_3 ko_1 ko_2 rfl (Nat.le_of_ble_eq_true rfl) (Nat.le_of_ble_eq_true rfl) dX11_init_1 (q := 4) rfl ?_
  refine n_aload_n (v := k) C dX11_init_4 rfl (q := 5) rfl ?_
  refine n_new C N (ty := tyX8) (n := 7) (ci := 8) (T := TX8) inT8 tyX8_ok rfl rfl (by decide) kc_X11_9 kn_X8 kj_X8 dX11_init_5 (q := 8) rfl (fun A1 => ?_)
  refine n_dup C dX11_init_8 rfl (q := 9) rfl ?_
  refine n_callI (As := []) (st := [rf (zG Z) A.length, rf (zG Z) k]) (dc := 25) (dn := 114) C hR N (fun _ h => c_i_X8 _ _ N.2.2.2 _ _ h) mi_X8 km_X11_11 rfl ⟨Nat.le_of_ble_eq_true rfl, Nat.le_of_ble_eq_true rfl⟩ (Nat.le_of_ble_eq_true rfl) rfl rfl dX11_init_9 (q := 12) rfl (fun A2 => ?_)
  refine n_put (code := (A.length + 1)) (ci := 11) (T := TX11) (N := 13) (j := 0) (ty0 := tyX11) (ty := (.object "Segmentry$Schema")) C N inT11 tyX11_ok nmX11 rfl (by decide +kernel) (by decide) kf_X11_12 (Or.inr ⟨rfl, hnm, rfl⟩) (by decide +kernel) rfl rfl (by simp [fvA, show ¬ fk 11 0 = 0 by decide]; rfl) dX11_init_12 (q := 15) rfl (fun A3 => ?_)
  refine n_aload_n (v := k) C dX11_init_15 rfl (q := 16) rfl ?_
  refine n_new C N (ty := tyX10) (n := 3) (ci := 10) (T := TX10) inT10 tyX10_ok rfl rfl (by decide) kc_X11_16 kn_X10 kj_X10 dX11_init_16 (q := 19) rfl (fun A4 => ?_)
  refine n_dup C dX11_init_19 rfl (q := 20) rfl ?_
  refine n_callIN (As := []) (st := [rf (zG Z) A3.length, rf (zG Z) k]) (dc := 1) (dn := 300) C hR N (fun _ h => c_i_X10 _ _ N.2.2.2 _ _ h) mi_X10 km_X11_18 rfl ⟨Nat.le_of_ble_eq_true rfl, Nat.le_of_ble_eq_true rfl⟩ (Nat.le_of_ble_eq_true rfl) rfl rfl dX11_init_20 (q := 23) rfl (fun A5 => ?_)
  refine n_put (code := (A3.length + 1)) (ci := 11) (T := TX11) (N := 13) (j := 1) (ty0 := tyX11) (ty := (.object "Segmentry$Sheet")) C N inT11 tyX11_ok nmX11 rfl (by decide +kernel) (by decide) kf_X11_19 (Or.inr ⟨rfl, hnm, rfl⟩) (by decide +kernel) rfl rfl (by simp [fvA, show ¬ fk 11 1 = 0 by decide]; rfl) dX11_init_23 (q := 26) rfl (fun A6 => ?_)
  refine n_aload_n (v := k) C dX11_init_26 rfl (q := 27) rfl ?_
  refine n_new C N (ty := tyX1) (n := 3) (ci := 1) (T := TX1) inT1 tyX1_ok rfl rfl (by decide) kc_X11_23 kn_X1 kj_X1 dX11_init_27 (q := 30) rfl (fun A7 => ?_)
  refine n_dup C dX11_init_30 rfl (q := 31) rfl ?_
  refine n_callIN (As := []) (st := [rf (zG Z) A6.length, rf (zG Z) k]) (dc := 2) (dn := 282) C hR N (fun _ h => c_i_X1 _ _ N.2.2.2 _ _ h) mi_X1 km_X11_25 rfl ⟨Nat.le_of_ble_eq_true rfl, Nat.le_of_ble_eq_true rfl⟩ (Nat.le_of_ble_eq_true rfl) rfl rfl dX11_init_31 (q := 34) rfl (fun A8 => ?_)
  refine n_put (code := (A6.length + 1)) (ci := 11) (T := TX11) (N := 13) (j := 2) (ty0 := tyX11) (ty := (.object "Segmentry$Faults")) C N inT11 tyX11_ok nmX11 rfl (by decide +kernel) (by decide) kf_X11_26 (Or.inr ⟨rfl, hnm, rfl⟩) (by decide +kernel) rfl rfl (by simp [fvA, show ¬ fk 11 2 = 0 by decide]; rfl) dX11_init_34 (q := 37) rfl (fun A9 => ?_)
  refine n_aload_n (v := k) C dX11_init_37 rfl (q := 38) rfl ?_
  refine n_new C N (ty := tyX5) (n := 2) (ci := 5) (T := TX5) inT5 tyX5_ok rfl rfl (by decide) kc_X11_30 kn_X5 kj_X5 dX11_init_38 (q := 41) rfl (fun A10 => ?_)
  refine n_dup C dX11_init_41 rfl (q := 42) rfl ?_
  refine n_aload_n (v := k) C dX11_init_42 rfl (q := 43) rfl ?_
  refine n_getr (ci := 11) (T := TX11) (N := 13) (j := 0) C inT11 rfl (by decide +kernel) (by decide) (by decide) kf_X11_12 dX11_init_43 (q := 46) rfl ?_
  refine n_aload_n (v := k) C dX11_init_46 rfl (q := 47) rfl ?_
  refine n_getr (ci := 11) (T := TX11) (N := 13) (j := 2) C inT11 rfl (by decide +kernel) (by decide) (by decide) kf_X11_26 dX11_init_47 (q := 50) rfl ?_
  refine n_callI (As := [rf (zG Z) (fA A10 k 0), rf (zG Z) (fA A10 k 2)]) (st := [rf (zG Z) A9.length, rf (zG Z) k]) (dc := 5) (dn := 49) C hR N (fun _ h => c_i_X5 _ _ N.2.2.2 _ _ _ _ h) mi_X5 km_X11_32 rfl ⟨Nat.le_of_ble_eq_true rfl, Nat.le_of_ble_eq_true rfl⟩ (Nat.le_of_ble_eq_true rfl) rfl rfl dX11_init_50 (q := 53) rfl (fun A11 => ?_)
  refine n_put (code := (A9.length + 1)) (ci := 11) (T := TX11) (N := 13) (j := 3) (ty0 := tyX11) (ty := (.object "Segmentry$Reader")) C N inT11 tyX11_ok nmX11 rfl (by decide +kernel) (by decide) kf_X11_35 (Or.inr ⟨rfl, hnm, rfl⟩) (by decide +kernel) rfl rfl (by simp [fvA, show ¬ fk 11 3 = 0 by decide]; rfl) dX11_init_53 (q := 56) rfl (fun A12 => ?_)
  refine n_aload_n (v := k) C dX11_init_56 rfl (q := 57) rfl ?_
  refine n_new C N (ty := tyX7) (n := 3) (ci := 7) (T := TX7) inT7 tyX7_ok rfl rfl (by decide) kc_X11_39 kn_X7 kj_X7 dX11_init_57 (q := 60) rfl (fun A13 => ?_)
  refine n_dup C dX11_init_60 rfl (q := 61) rfl ?_
  refine n_callI (As := []) (st := [rf (zG Z) A12.length, rf (zG Z) k]) (dc := 23) (dn := 131) C hR N (fun _ h => c_i_X7 _ _ N.2.2.2 _ _ h) mi_X7 km_X11_41 rfl ⟨Nat.le_of_ble_eq_true rfl, Nat.le_of_ble_eq_true rfl⟩ (Nat.le_of_ble_eq_true rfl) rfl rfl dX11_init_61 (q := 64) rfl (fun A14 => ?_)
  refine n_put (code := (A12.length + 1)) (ci := 11) (T := TX11) (N := 13) (j := 4) (ty0 := tyX11) (ty := (.object "Segmentry$RuleBook")) C N inT11 tyX11_ok nmX11 rfl (by decide +kernel) (by decide) kf_X11_42 (Or.inr ⟨rfl, hnm, rfl⟩) (by decide +kernel) rfl rfl (by simp [fvA, show ¬ fk 11 4 = 0 by decide]; rfl) dX11_init_64 (q := 67) rfl (fun A15 => ?_)
  refine n_aload_n (v := k) C dX11_init_67 rfl (q := 68) rfl ?_
  refine n_new C N (ty := tyX4) (n := 3) (ci := 4) (T := TX4) inT4 tyX4_ok rfl rfl (by decide) kc_X11_46 kn_X4 kj_X4 dX11_init_68 (q := 71) rfl (fun A16 => ?_)
  refine n_dup C dX11_init_71 rfl (q := 72) rfl ?_
  refine n_callI (As := []) (st := [rf (zG Z) A15.length, rf (zG Z) k]) (dc := 64) (dn := 1112) C hR N (fun _ h => c_i_X4 _ _ N.2.2.2 _ _ h) mi_X4 km_X11_48 rfl ⟨Nat.le_of_ble_eq_true rfl, Nat.le_of_ble_eq_true rfl⟩ (Nat.le_of_ble_eq_true rfl) rfl rfl dX11_init_72 (q := 75) rfl (fun A17 => ?_)
  refine n_put (code := (A15.length + 1)) (ci := 11) (T := TX11) (N := 13) (j := 5) (ty0 := tyX11) (ty := (.object "Segmentry$Message")) C N inT11 tyX11_ok nmX11 rfl (by decide +kernel) (by decide) kf_X11_49 (Or.inl rfl) (by decide +kernel) rfl rfl (by simp [fvA, show ¬ fk 11 5 = 0 by decide]; rfl) dX11_init_75 (q := 78) rfl (fun A18 => ?_)
  refine n_aload_n (v := k) C dX11_init_78 rfl (q := 79) rfl ?_
  refine n_new C N (ty := tyX4) (n := 3) (ci := 4) (T := TX4) inT4 tyX4_ok rfl rfl (by decide) kc_X11_46 kn_X4 kj_X4 dX11_init_79 (q := 82) rfl (fun A19 => ?_)
  refine n_dup C dX11_init_82 rfl (q := 83) rfl ?_
  refine n_callI (As := []) (st := [rf (zG Z) A18.length, rf (zG Z) k]) (dc := 64) (dn := 1112) C hR N (fun _ h => c_i_X4 _ _ N.2.2.2 _ _ h) mi_X4 km_X11_48 rfl ⟨Nat.le_of_ble_eq_true rfl, Nat.le_of_ble_eq_true rfl⟩ (Nat.le_of_ble_eq_true rfl) rfl rfl dX11_init_83 (q := 86) rfl (fun A20 => ?_)
  refine n_put (code := (A18.length + 1)) (ci := 11) (T := TX11) (N := 13) (j := 6) (ty0 := tyX11) (ty := (.object "Segmentry$Message")) C N inT11 tyX11_ok nmX11 rfl (by decide +kernel) (by decide) kf_X11_53 (Or.inl rfl) (by decide +kernel) rfl rfl (by simp [fvA, show ¬ fk 11 6 = 0 by decide]; rfl) dX11_init_86 (q := 89) rfl (fun A21 => ?_)
  refine n_aload_n (v := k) C dX11_init_89 rfl (q := 90) rfl ?_
  refine n_new C N (ty := tyX10) (n := 3) (ci := 10) (T := TX10) inT10 tyX10_ok rfl rfl (by decide) kc_X11_16 kn_X10 kj_X10 dX11_init_90 (q := 93) rfl (fun A22 => ?_)
  refine n_dup C dX11_init_93 rfl (q := 94) rfl ?_
  refine n_callIN (As := []) (st := [rf (zG Z) A21.length, rf (zG Z) k]) (dc := 1) (dn := 300) C hR N (fun _ h => c_i_X10 _ _ N.2.2.2 _ _ h) mi_X10 km_X11_18 rfl ⟨Nat.le_of_ble_eq_true rfl, Nat.le_of_ble_eq_true rfl⟩ (Nat.le_of_ble_eq_true rfl) rfl rfl dX11_init_94 (q := 97) rfl (fun A23 => ?_)
  refine n_put (code := (A21.length + 1)) (ci := 11) (T := TX11) (N := 13) (j := 10) (ty0 := tyX11) (ty := (.object "Segmentry$Sheet")) C N inT11 tyX11_ok nmX11 rfl (by decide +kernel) (by decide) kf_X11_56 (Or.inl rfl) (by decide +kernel) rfl rfl (by simp [fvA, show ¬ fk 11 10 = 0 by decide]; rfl) dX11_init_97 (q := 100) rfl (fun A24 => ?_)
  refine n_aload_n (v := k) C dX11_init_100 rfl (q := 101) rfl ?_
  refine n_new C N (ty := tyX10) (n := 3) (ci := 10) (T := TX10) inT10 tyX10_ok rfl rfl (by decide) kc_X11_16 kn_X10 kj_X10 dX11_init_101 (q := 104) rfl (fun A25 => ?_)
  refine n_dup C dX11_init_104 rfl (q := 105) rfl ?_
  refine n_callIN (As := []) (st := [rf (zG Z) A24.length, rf (zG Z) k]) (dc := 1) (dn := 300) C hR N (fun _ h => c_i_X10 _ _ N.2.2.2 _ _ h) mi_X10 km_X11_18 rfl ⟨Nat.le_of_ble_eq_true rfl, Nat.le_of_ble_eq_true rfl⟩ (Nat.le_of_ble_eq_true rfl) rfl rfl dX11_init_105 (q := 108) rfl (fun A26 => ?_)
  refine n_put (code := (A24.length + 1)) (ci := 11) (T := TX11) (N := 13) (j := 11) (ty0 := tyX11) (ty := (.object "Segmentry$Sheet")) C N inT11 tyX11_ok nmX11 rfl (by decide +kernel) (by decide) kf_X11_59 (Or.inl rfl) (by decide +kernel) rfl rfl (by simp [fvA, show ¬ fk 11 11 = 0 by decide]; rfl) dX11_init_108 (q := 111) rfl (fun A27 => ?_)
  refine n_gd (fun hg => ?_)
  exact n_vret C N (hK _) hg dX11_init_111
theorem c_i_X11 (l : Launch) (G : Gx) (hn : 0 < Gn G) (k : Nat) (A : AH) {x : AH} (h : i_X11 k A = some x) : CtN l G yX11_init cX11_init 1 3 55 195 3730 [rf G k] A x := CtN.of (by decide +kernel) rfl rfl (Nat.le_of_ble_eq_true rfl) hn (fun Z hG hl C N hnm hR hret => by
  subst hG
  exact i_X11_ok (K := fun y => y = x) C N hnm hR k _ _ A (fun y hy => by subst hy; exact hret) x h rfl)
theorem mi_X11 : MIp yX11_init cX11_init 1 0 := ⟨(LT.mem (List.mem_of_getElem? (i := 46) (by decide +kernel)) (by decide +kernel)), (LT.mem (List.mem_of_getElem? (i := 23) (by decide +kernel)) (by decide +kernel)), (LT.mem (List.mem_of_getElem? (i := 47) (by decide +kernel)) (by decide +kernel)), rfl, by decide +kernel⟩
theorem kc_L_10 : Cond.classLink RL 10 RX11 ∈ LT := (LT.mem (List.mem_of_getElem? (i := 43) (by decide +kernel)) (by decide +kernel))
theorem kn_X11 : Cond.instantiable RX11 13 ∈ LT := (LT.mem (List.mem_of_getElem? (i := 44) (by decide +kernel)) (by decide +kernel))
theorem kj_X11 : Cond.initialized RX11 ∈ LT := (LT.mem (List.mem_of_getElem? (i := 23) (by decide +kernel)) (by decide +kernel))
theorem km_L_86 : Cond.methodLink RL 86 yX11_init ∈ LT := (LT.mem (List.mem_of_getElem? (i := 45) (by decide +kernel)) (by decide +kernel))
def i_law (A : AH) : Option (AH × Nat) :=
  gd (gN A 0 0 600130 7301080 1 13) (bnd (A ++ [(0, 11, List.replicate 13 0)]) fun A1 => Option.bind (i_X11 A.length A1) fun A2 => gd (gC A1 A2 0 0 600130 7301080 195 3730) (some (A2, A.length)))
set_option maxRecDepth 100000 in
set_option maxHeartbeats 4000000 in
theorem i_law_ok {Z : Zx} {K : AH × Nat → Prop} (C : Cx Z code 8 RL) (N : CN Z 600130 7301080) (hR : RM Z 13 480) (b : Nat) (A : AH) (hK : ∀ A k1, K (A, k1) → WN Z 0 0 A 8 [some (.ref b), some (rf (zG Z) k1), none, none, none, none, none, none] []) : WFN Z 0 0 K (i_law A) A 0 [some (.ref b), none, none, none, none, none, none, none] [] := by
  unfold i_law
  refine n_new C N (ty := tyX11) (n := 13) (ci := 11) (T := TX11) inT11 tyX11_ok rfl rfl (by decide) kc_L_10 kn_X11 kj_X11 dL_law_0 (q := 3) rfl (fun A1 => ?_)
  refine n_dup C dL_law_3 rfl (q := 4) rfl ?_
  refine n_callI (As := []) (st := [rf (zG Z) A.length]) (dc := 195) (dn := 3730) C hR N (fun _ h => c_i_X11 _ _ N.2.2.2 _ _ h) mi_X11 km_L_86 rfl ⟨Nat.le_of_ble_eq_true rfl, Nat.le_of_ble_eq_true rfl⟩ (Nat.le_of_ble_eq_true rfl) rfl rfl dL_law_4 (q := 7) rfl (fun A2 => ?_)
  refine n_astore_n C dL_law_7 (Nat.le_of_ble_eq_true rfl) (L' := [some (.ref b), some (rf (zG Z) A.length), none, none, none, none, none, none]) rfl (q := 8) rfl ?_
  exact n_jmp (fun h => hK _ _ h)
