/-! the schema, the text as a list, feeding -/
def TT (a b : Nat) : Nat := if a = 0 then 65 + b else if a = 1 then 0 else if a = 2 then 9 else if a = 3 then 1 else if a = 4 then 0 else if a = 5 then 3 else if a = 6 then 0 else 9
theorem TT_SF : SF TT 3 1 := by
  refine ⟨by omega, by omega, fun i hi => ?_, fun e he => ?_, fun _ => ⟨rfl, rfl⟩, fun h => absurd h (by decide)⟩
  · simp [TT]
    omega
  · obtain rfl : e = 0 := by omega
    simp [TT]
theorem TT_EO : EO TT 1 (fun _ => 0) := fun e i he _ _ => by
  show (0 : Nat) = e
  omega
def gt (ts : List Nat) (p : Nat) : Nat := (ts ++ [84]).getD p 32
def IT (ts : List Nat) (s : Nat) : Nat := pth TT (gt ts) ts.length 3 1 (fun _ => 0) (s + 1)
def okW (ts : List Nat) : Bool := hop TT (gt ts) ts.length 3 1 (fun _ => 0) ts.length 1000 && (List.range ts.length).all (fun s => decide (IT ts s / 100 + 65 = ts.getD s 0) && decide (1 ≤ IT ts s / 10 % 10))
def xt (L : List (List Nat)) : List (List Nat) := L.flatMap (fun l => [65 :: l, 66 :: l, 67 :: l])
def lv : Nat → List (List Nat)
  | 0 => [[]]
  | n + 1 => xt (lv n)
def T3 (c : Nat) : Prop := 65 ≤ c ∧ c ≤ 67
theorem xt_mem {L : List (List Nat)} {l : List Nat} {c : Nat} (h : l ∈ L) (hc : T3 c) : c :: l ∈ xt L := by
  unfold xt
  rw [List.mem_flatMap]
  refine ⟨l, h, ?_⟩
  obtain ⟨h1, h2⟩ := hc
  rcases (show c = 65 ∨ c = 66 ∨ c = 67 by omega) with rfl | rfl | rfl <;> simp
theorem lv_mem : ∀ ts : List Nat, (∀ c ∈ ts, T3 c) → ts ∈ lv ts.length := by
  intro ts
  induction ts with
  | nil => intro _; exact List.mem_singleton.mpr rfl
  | cons c ts ih => intro h; exact xt_mem (ih fun x hx => h x (by simp [hx])) (h c (by simp))
set_option maxRecDepth 100000 in
theorem lv_ok : ∀ n : Fin 5, (lv n.val).all okW = true := by decide +kernel
theorem W_ok {ts : List Nat} (hl : ts.length ≤ 4) (h : ∀ c ∈ ts, T3 c) : hop TT (gt ts) ts.length 3 1 (fun _ => 0) ts.length 1000 = true ∧ ∀ s, s < ts.length → IT ts s / 100 + 65 = ts.getD s 0 ∧ 1 ≤ IT ts s / 10 % 10 := by
  have h1 := List.all_eq_true.mp (lv_ok ⟨ts.length, by omega⟩) ts (lv_mem ts h)
  obtain ⟨h2, h3⟩ := Bool.and_eq_true_iff.mp h1
  refine ⟨h2, fun s hs => ?_⟩
  obtain ⟨h4, h5⟩ := Bool.and_eq_true_iff.mp (List.all_eq_true.mp h3 s (List.mem_range.mpr hs))
  exact ⟨of_decide_eq_true h4, of_decide_eq_true h5⟩
def TxL (J : Mem) (W : List Nat) : Prop := W.length ≤ 300 ∧ J 27 1 = nI W.length ∧ ∀ i, i < W.length → 32 ≤ W.getD i 0 ∧ W.getD i 0 ≤ 126 ∧ J 28 i = nI (W.getD i 0)
def FrT (J J' : Mem) : Prop := ∀ a b, ¬ (a = 27 ∧ b = 1) → a ≠ 28 → J' a b = J a b
theorem FrT.rf {J : Mem} : FrT J J := fun _ _ _ _ => rfl
theorem FrT.tr {A B C : Mem} (h : FrT A B) (h2 : FrT B C) : FrT A C := fun a b p q => (h2 a b p q).trans (h a b p q)
theorem TxL.c {J : Mem} {W : List Nat} (h : TxL J W) : TxC J (fun i => W.getD i 0) W.length := h
theorem TxL.fr {J J' : Mem} {W : List Nat} (h : TxL J W) (hf : ∀ a b, a = 27 ∨ a = 28 → J' a b = J a b) : TxL J' W := by
  obtain ⟨h1, h2, h3⟩ := h
  refine ⟨h1, by rw [hf _ _ (Or.inl rfl), h2], fun i hi => ?_⟩
  rw [hf _ _ (Or.inr rfl)]
  exact h3 i hi
theorem getD_a1 {W : List Nat} {c i : Nat} (h : i < W.length) : (W ++ [c]).getD i 0 = W.getD i 0 := by
  simp only [List.getD_eq_getElem?_getD]
  rw [List.getElem?_append_left h]
theorem getD_a2 {W : List Nat} {c : Nat} : (W ++ [c]).getD W.length 0 = c := by simp [List.getD_eq_getElem?_getD]
theorem feed_ok {I : Mem} {W : List Nat} {c : Nat} (h : TxL I W) (hl : W.length < 300) (h1 : 32 ≤ c) (h2 : c ≤ 126) : ∃ I', m_X11_feed 0 (nI c) I = some (nI (W.length + 1), I') ∧ TxL I' (W ++ [c]) ∧ FrT I I' := by
  have e1 : ¬ nI c < 32 := nI_nlt (b := 32) h1 (by omega)
  have e2 : ¬ (126 : Int32) < nI c := nI_nlt (a := 126) h2 (by omega)
  have e3 : nI W.length < 300 := nI_lt (b := 300) hl (by omega)
  have e4 : inb (nI W.length) 300 = true := inb_n hl (by omega)
  have e5 : (nI W.length).toNatClampNeg = W.length := nI_clamp (by omega)
  have ok : okc (nI c) = true := okc_n' (by omega)
  refine ⟨ms (ms I 28 W.length (nI c)) 27 1 (nI (W.length + 1)), by simp [m_X11_feed, m_X11_isLetter, e1, e2, m_X10_count, h.2.1, e3, m_X10_put, e4, e5, ok, gd_t, bnd, ms_app, nI_1], ⟨by rw [List.length_append]; exact hl, by rw [ms_s rfl rfl, List.length_append]; rfl, fun i hi => ?_⟩, fun a b p q => by rw [ms_o (by omega), ms_o (by omega)]⟩
  rw [List.length_append, List.length_singleton] at hi
  rw [ms_o (by omega)]
  by_cases z : i = W.length
  · subst z
    rw [ms_s rfl rfl, getD_a2]
    exact ⟨h1, h2, rfl⟩
  · rw [ms_o (by omega), getD_a1 (by omega)]
    exact h.2.2 i (by omega)
/-- from I on the text W becomes W ++ L -/
def FdT (I : Mem) (r : Option Mem) (W L : List Nat) : Prop := ∃ I', r = some I' ∧ TxL I' (W ++ L) ∧ FrT I I'
theorem FdT.nil {I : Mem} {W : List Nat} (h : TxL I W) : FdT I (some I) W [] := ⟨I, rfl, by rw [List.append_nil]; exact h, FrT.rf⟩
theorem FdT.bind {I : Mem} {f : Option Mem} {g : Mem → Option Mem} {W L1 L2 : List Nat} (h : FdT I f W L1) (h2 : ∀ I', TxL I' (W ++ L1) → FrT I I' → FdT I' (g I') (W ++ L1) L2) : FdT I (Option.bind f g) W (L1 ++ L2) := by
  obtain ⟨I1, a1, a2, a3⟩ := h
  obtain ⟨I2, b1, b2, b3⟩ := h2 I1 a2 a3
  exact ⟨I2, by rw [a1, Option.bind_some, b1], by rw [← List.append_assoc]; exact b2, a3.tr b3⟩
theorem FdT.feed {I : Mem} {g : Int32 × Mem → Option Mem} {W L : List Nat} {c : Nat} {x : Int32} (h : TxL I W) (hx : x = nI c) (hl : W.length + (L.length + 1) ≤ 300) (h1 : 32 ≤ c) (h2 : c ≤ 126) (k : ∀ (y : Int32) (I' : Mem), TxL I' (W ++ [c]) → FrT I I' → FdT I' (g (y, I')) (W ++ [c]) L) : FdT I (Option.bind (m_X11_feed 0 x I) g) W (c :: L) := by
  subst hx
  obtain ⟨I1, a1, a2, a3⟩ := feed_ok h (by omega) h1 h2
  obtain ⟨I2, b1, b2, b3⟩ := k _ I1 a2 a3
  refine ⟨I2, by rw [a1, Option.bind_some, b1], ?_, a3.tr b3⟩
  rw [List.append_assoc] at b2
  exact b2
theorem chr {a : Nat} (h : a < 65536) : ((nI a).toUInt32 % 65536).toInt32 = nI a := by
  rw [pk_char, pk_tn (by omega), Nat.mod_eq_of_lt h]
theorem rm {a d : Nat} (ha : a < 2 ^ 31) (h0 : 0 < d) (hd : d < 2 ^ 31) : nI a - nI a / nI d * nI d = nI (a % d) := pk_rem ha h0 hd
def dig (n : Nat) : List Nat := if n ≤ 9 then [48 + n % 10] else [48 + n / 10, 48 + n % 10]
theorem dig_len {n : Nat} : (dig n).length ≤ 2 ∧ 1 ≤ (dig n).length := by unfold dig; split <;> simp
theorem feedNum {I : Mem} {W : List Nat} {n : Nat} (h : TxL I W) (hn : n ≤ 99) (hl : W.length + (dig n).length ≤ 300) : FdT I (m_L_feedNumber 0 (nI n) I) W (dig n) := by
  have r10 : nI n - nI n / 10 * 10 = nI (n % 10) := rm (d := 10) (by omega) (by omega) (by omega)
  have d10 : nI n / 10 = nI (n / 10) := pk_div (d := 10) (by omega) (by omega) (by omega)
  have c1 : (((48 : Int32) + nI (n % 10)).toUInt32 % 65536).toInt32 = nI (48 + n % 10) := by
    rw [show (48 : Int32) + nI (n % 10) = nI (48 + n % 10) from nI_add 48 _]
    exact chr (by omega)
  have c2 : (((48 : Int32) + nI (n / 10)).toUInt32 % 65536).toInt32 = nI (48 + n / 10) := by
    rw [show (48 : Int32) + nI (n / 10) = nI (48 + n / 10) from nI_add 48 _]
    exact chr (by omega)
  have last : ∀ (J : Mem) (V : List Nat), TxL J V → V.length + 1 ≤ 300 → FdT J (m_L_feedNumber_j19 0 (nI n) J) V [48 + n % 10] := fun J V hJ hV => by
    unfold m_L_feedNumber_j19
    rw [r10, c1]
    exact FdT.feed hJ rfl (by simpa using hV) (by omega) (by omega) fun y I' h1 _ => FdT.nil h1
  unfold m_L_feedNumber dig
  unfold dig at hl
  by_cases z : n ≤ 9
  · rw [if_pos z] at hl ⊢
    rw [if_pos (show nI n ≤ 9 from nI_le (b := 9) z (by omega))]
    exact last I W h (by simpa using hl)
  · rw [if_neg z] at hl ⊢
    rw [if_neg (show ¬ nI n ≤ 9 from nI_ge (a := 9) (by omega) (by omega)), d10, c2]
    refine FdT.feed h rfl (by simpa using hl) (by omega) (by omega) fun y I' h1 _ => ?_
    exact last I' _ h1 (by rw [List.length_append]; simp at hl ⊢; omega)
theorem rf_s {n : Nat} {F : Nat → List Nat} : (List.range (n + 1)).flatMap F = (List.range n).flatMap F ++ F n := by
  rw [List.range_succ, List.flatMap_append]
  simp
theorem rf_mono {F : Nat → List Nat} {x : Nat} : ∀ {n : Nat}, x ≤ n → ((List.range x).flatMap F).length ≤ ((List.range n).flatMap F).length := by
  intro n
  induction n with
  | zero =>
    intro h
    obtain rfl : x = 0 := by omega
    exact Nat.le_refl _
  | succ n ih =>
    intro h
    by_cases z : x = n + 1
    · subst z; exact Nat.le_refl _
    · have := ih (by omega)
      rw [rf_s, List.length_append]
      omega
theorem fd_loop {n : Nat} {F : Nat → List Nat} {body : Int32 × Mem → Option ((Int32 × Mem) ⊕ Mem)} (hn : n < 1000)
    (hb : ∀ (x : Nat) (I : Mem) (W : List Nat), x < n → TxL I W → W.length + (F x).length ≤ 300 → ∃ I', body (nI x, I) = some (.inl (nI (x + 1), I')) ∧ TxL I' (W ++ F x) ∧ FrT I I')
    (he : ∀ I : Mem, body (nI n, I) = some (.inr I)) {I : Mem} {W : List Nat} (h : TxL I W) (hl : W.length + ((List.range n).flatMap F).length ≤ 300) : FdT I (loopF body FU ((0 : Int32), I)) W ((List.range n).flatMap F) := by
  obtain ⟨b, f1, f2⟩ := loop_run (body := body) (Inv := fun r a => ∃ x, x ≤ n ∧ r = n - x ∧ a.1 = nI x ∧ TxL a.2 (W ++ (List.range x).flatMap F) ∧ FrT I a.2) (Post := fun b => TxL b (W ++ (List.range n).flatMap F) ∧ FrT I b) (fun r a ⟨x, g1, g2, g3, g4, g5⟩ => by
    obtain ⟨y, J⟩ := a
    simp only at g3 g4 g5
    subst g3
    by_cases z : x = n
    · subst z
      exact Or.inl ⟨J, he J, g4, g5⟩
    · have hm := rf_mono (F := F) (show x + 1 ≤ n by omega)
      rw [rf_s, List.length_append] at hm
      obtain ⟨J', a1, a2, a3⟩ := hb x J _ (by omega) g4 (by rw [List.length_append]; omega)
      refine Or.inr ⟨(nI (x + 1), J'), n - (x + 1), by omega, a1, x + 1, by omega, rfl, rfl, ?_, g5.tr a3⟩
      rw [rf_s, ← List.append_assoc]
      exact a2) FU n ((0 : Int32), I) (by unfold FU; omega) ⟨0, by omega, rfl, rfl, by simpa using h, FrT.rf⟩
  exact ⟨b, f1, f2.1, f2.2⟩
/-! the law's own numbers -/
theorem part_ok {Xs : Nat × (Nat → Int32)} (hL : Xs.1 ≤ 260) (j : Nat) (hj : j < 1000) : ∃ v, v < 2 ^ 31 ∧ ∀ I : Mem, m_L_part Xs (nI j) I = some (nI v) := by
  have hand : ∀ x : Int32, ∃ v, v < 2 ^ 31 ∧ x &&& 2147483647 = nI v := fun x => pk_andE x (m := 2147483647) 31 (by decide)
  by_cases z : j < Xs.1
  · obtain ⟨v, h1, h2⟩ := hand (Xs.2 j)
    refine ⟨v, h1, fun I => ?_⟩
    have c : ¬ Int32.ofNat Xs.1 ≤ nI j := nI_ge z (by omega)
    have e1 : inb (nI j) Xs.1 = true := inb_n z (by omega)
    have e2 : (nI j).toNatClampNeg = j := nI_clamp (by omega)
    simp only [m_L_part, c, if_false, e1, e2, gd_t, h2]
  · obtain ⟨v, h1, h2⟩ := hand (((40093 : Int32) * (nI j + 3)) * (nI j + 10))
    refine ⟨v, h1, fun I => ?_⟩
    have c : Int32.ofNat Xs.1 ≤ nI j := nI_le (by omega) (by omega)
    simp only [m_L_part, c, if_true, h2]
def lenF (v k e : Nat) : Nat := v / 2 ^ (3 * e) % 8 % 4 + (k + e) % 2
theorem lenF_le {v k e : Nat} : lenF v k e ≤ 4 := by unfold lenF; omega
theorem lenF_ok {v k e : Nat} {I : Mem} (hv : v < 2 ^ 31) (hk : k < 100) (he : e < 5) : m_L_lengthOf (nI v) (nI k) (nI e) I = some (nI (lenF v k e)) := by
  have e1 : (3 : Int32) * nI e = nI (3 * e) := pk_mul 3 e
  have hs : ∀ e : Fin 5, (((nI (3 * e.val)).toUInt32 &&& Int32.toUInt32 31).toBitVec % 32).toNat = 3 * e.val := by decide
  have e2 : ((nI v).toUInt32 >>> ((nI (3 * e)).toUInt32 &&& Int32.toUInt32 31)).toInt32 = nI (v / 2 ^ (3 * e)) := pk_ushrN (by omega) _ _ (hs ⟨e, he⟩)
  have hd : v / 2 ^ (3 * e) ≤ v := Nat.div_le_self _ _
  have e3 : nI (v / 2 ^ (3 * e)) &&& 7 = nI (v / 2 ^ (3 * e) % 8) := pk_andN (by omega) 3 (by decide)
  have e4 : nI (v / 2 ^ (3 * e) % 8) - nI (v / 2 ^ (3 * e) % 8) / 4 * 4 = nI (v / 2 ^ (3 * e) % 8 % 4) := rm (d := 4) (by omega) (by omega) (by omega)
  have e5 : nI k + nI e = nI (k + e) := nI_add k e
  have e6 : nI (k + e) - nI (k + e) / 2 * 2 = nI ((k + e) % 2) := rm (d := 2) (by omega) (by omega) (by omega)
  simp only [m_L_lengthOf, e1, e2, e3, e4, e5, e6, nI_add]
  rfl
def ltF (w : Nat) : Nat := if w % 5 = 0 then 43 else if w % 5 = 1 then 39 else if w % 5 = 2 then 63 else if w % 5 = 3 then 97 + w / 5 % 26 else 32 + w / 5 % 95
theorem ltF_b {w : Nat} : 32 ≤ ltF w ∧ ltF w ≤ 126 := by
  unfold ltF
  repeat' split
  all_goals omega
theorem ltF_ok {w : Nat} {I : Mem} (hw : w < 2 ^ 31) : m_L_letter (nI w) I = some (nI (ltF w)) := by
  have r5 : nI w - nI w / 5 * 5 = nI (w % 5) := rm (d := 5) hw (by omega) (by omega)
  have d5 : nI w / 5 = nI (w / 5) := pk_div (d := 5) hw (by omega) (by omega)
  rw [d5] at r5
  have h5 : w / 5 ≤ w := Nat.div_le_self _ _
  have r26 : nI (w / 5) - nI (w / 5) / 26 * 26 = nI (w / 5 % 26) := rm (d := 26) (by omega) (by omega) (by omega)
  have r95 : nI (w / 5) - nI (w / 5) / 95 * 95 = nI (w / 5 % 95) := rm (d := 95) (by omega) (by omega) (by omega)
  have q0 : (nI (w % 5) = 0) = (w % 5 = 0) := propext (nI_eq (b := 0) (by omega) (by omega))
  have q1 : (nI (w % 5) = 1) = (w % 5 = 1) := propext (nI_eq (b := 1) (by omega) (by omega))
  have q2 : (nI (w % 5) = 2) = (w % 5 = 2) := propext (nI_eq (b := 2) (by omega) (by omega))
  have q3 : (nI (w % 5) = 3) = (w % 5 = 3) := propext (nI_eq (b := 3) (by omega) (by omega))
  have c1 : (((97 : Int32) + nI (w / 5 % 26)).toUInt32 % 65536).toInt32 = nI (97 + w / 5 % 26) := by
    rw [show (97 : Int32) + nI (w / 5 % 26) = nI (97 + w / 5 % 26) from nI_add 97 _]
    exact chr (by omega)
  have c2 : (((32 : Int32) + nI (w / 5 % 95)).toUInt32 % 65536).toInt32 = nI (32 + w / 5 % 95) := by
    rw [show (32 : Int32) + nI (w / 5 % 95) = nI (32 + w / 5 % 95) from nI_add 32 _]
    exact chr (by omega)
  have o1 : okc (nI (97 + w / 5 % 26)) = true := okc_n' (by omega)
  have o2 : okc (nI (32 + w / 5 % 95)) = true := okc_n' (by omega)
  simp only [m_L_letter, r5, d5, r26, r95, q0, q1, q2, q3, c1, c2, o1, o2, gd_t]
  unfold ltF
  by_cases z0 : w % 5 = 0
  · rw [if_pos z0, if_pos z0]
    rfl
  rw [if_neg z0, if_neg z0]
  by_cases z1 : w % 5 = 1
  · rw [if_pos z1, if_pos z1]
    rfl
  rw [if_neg z1, if_neg z1]
  by_cases z2 : w % 5 = 2
  · rw [if_pos z2, if_pos z2]
    rfl
  rw [if_neg z2, if_neg z2]
  by_cases z3 : w % 5 = 3
  · rw [if_pos z3, if_pos z3]
  rw [if_neg z3, if_neg z3]
/-! the message that is fed -/
def dgT (n : Nat) : List Tk := (dig n).map (fun c => (false, c))
def sgF1 (v k : Nat) : Sgt := ([(false, 65 + v % 3)], (List.range (min (v / 4 % 6) 5)).map (fun e => (List.range (lenF v k e)).map (fun n => (true, ltF (v / 7 + 11 * e + n)))))
def hdT (c : Nat) : Sgt := ([(false, 72)], [dgT c])
def trT (n c : Nat) : Sgt := ([(false, 84)], [dgT n, dgT c])
def msT (B : List Sgt) (c : Nat) : List Sgt := hdT c :: (B ++ [trT (B.length + 2) c])
theorem enc_dg (n : Nat) : enc (dgT n) = dig n := by
  unfold dgT dig
  split <;> rfl
theorem enc_hd (c : Nat) : encS (hdT c) = 72 :: 43 :: (dig c ++ [39]) := by
  unfold encS hdT encE
  simp [enc_dg]
  rfl
theorem enc_tr (n c : Nat) : encS (trT n c) = 84 :: 43 :: (dig n ++ 43 :: (dig c ++ [39])) := by
  unfold encS trT encE
  simp [enc_dg]
  rfl
theorem enc_ms (B : List Sgt) (c : Nat) : encM (msT B c) = 72 :: 43 :: (dig c ++ 39 :: (B.flatMap encS ++ 84 :: 43 :: (dig (B.length + 2) ++ 43 :: (dig c ++ [39])))) := by
  unfold encM msT
  rw [List.flatMap_cons, List.flatMap_append, enc_hd]
  simp [enc_tr]
theorem enc_sg (v k : Nat) : encS (sgF1 v k) = (65 + v % 3) :: ((List.range (min (v / 4 % 6) 5)).flatMap (fun e => 43 :: (List.range (lenF v k e)).flatMap (fun n => [63, ltF (v / 7 + 11 * e + n)])) ++ [39]) := by
  unfold encS sgF1 encE enc
  simp only [List.flatMap_map, List.flatMap_cons, List.flatMap_nil]
  rfl
theorem enc_sg_len (v k : Nat) : (encS (sgF1 v k)).length ≤ 47 := by
  have h1 : ∀ e, e < min (v / 4 % 6) 5 → ((fun e => 43 :: (List.range (lenF v k e)).flatMap (fun n => [63, ltF (v / 7 + 11 * e + n)])) e).length ≤ 9 := fun e _ => by
    have := flat_len (n := lenF v k e) (c := 2) (F := fun n => [63, ltF (v / 7 + 11 * e + n)]) (fun x _ => by simp)
    have h4 := lenF_le (v := v) (k := k) (e := e)
    simp only [List.length_cons]
    omega
  have h2 := flat_len h1
  rw [enc_sg, List.length_cons, List.length_append, List.length_singleton]
  omega
