theorem ms_app {I : Mem} {k j : Nat} {v : Int32} {a b : Nat} : ms I k j v a b = if a = k ∧ b = j then v else I a b := rfl
theorem ms_s {I : Mem} {k j : Nat} {v : Int32} {a b : Nat} (h1 : a = k) (h2 : b = j) : ms I k j v a b = v := by rw [ms_app, if_pos ⟨h1, h2⟩]
theorem ms_o {I : Mem} {k j : Nat} {v : Int32} {a b : Nat} (h : ¬ (a = k ∧ b = j)) : ms I k j v a b = I a b := by rw [ms_app, if_neg h]
theorem inb_n {k n : Nat} (h : k < n) (hn : n < 2 ^ 31) : inb (nI k) n = true := by
  have h1 : ¬ nI k < 0 := nI_pos (by omega)
  simp [inb, h1, nI_clamp (show k < 2 ^ 31 by omega), h]
theorem gd_t {R : Type} {e : Option R} : gd true e = e := rfl
def bz (b : Bool) : Int32 := if b then 1 else 0
theorem bz_t : bz true = 1 := rfl
theorem bz_f : bz false = 0 := rfl
theorem okc_n' {n : Nat} (h : n < 65536) : okc (nI n) = true := by
  have h1 : (0 : Int32) ≤ nI n := nI_pos' (by omega)
  have h2 : nI n ≤ 65535 := nI_le (b := 65535) (by omega) (by omega)
  simp [okc, h1, h2]
theorem loop_run {α β : Type} {body : α → Option (α ⊕ β)} {Inv : Nat → α → Prop} {Post : β → Prop}
    (hb : ∀ n a, Inv n a → (∃ b, body a = some (.inr b) ∧ Post b) ∨ ∃ a' n', n' < n ∧ body a = some (.inl a') ∧ Inv n' a') : ∀ (f n : Nat) (a : α), n < f → Inv n a → ∃ b, loopF body f a = some b ∧ Post b
  | 0, _, _, h, _ => absurd h (Nat.not_lt_zero _)
  | f + 1, n, a, h, hi => by
    rcases hb n a hi with ⟨b, h1, h2⟩ | ⟨a', n', h1, h2, h3⟩
    · exact ⟨b, by simp only [loopF, h1], h2⟩
    · obtain ⟨b, h4, h5⟩ := loop_run hb f n' a' (by omega) h3
      exact ⟨b, by simp only [loopF, h2]; exact h4, h5⟩
def DSch (a b : Nat) : Prop := (a = 1 ∧ 4 ≤ b ∧ b ≤ 6) ∨ (6 ≤ a ∧ a ≤ 26) ∨ (a = 196 ∧ (b = 4 ∨ b = 10 ∨ b = 11)) ∨ (197 ≤ a ∧ a ≤ 205)
def SchC (I : Mem) (T : Nat → Nat → Nat) (ni ne : Nat) (op : Bool) : Prop :=
  I 1 4 = nI ni ∧ I 1 5 = nI ne ∧ I 1 6 = bz op ∧ (∀ i, i < ni → I (6 + i) 0 = nI (T 0 i) ∧ I (6 + i) 1 = nI (T 1 i) ∧ I (6 + i) 2 = nI (T 2 i)) ∧
  ∀ e, e < ne → I (16 + e) 0 = nI (T 3 e) ∧ I (16 + e) 1 = nI (T 4 e) ∧ I (16 + e) 2 = nI (T 5 e) ∧ I (16 + e) 3 = nI (T 6 e) ∧ I (16 + e) 4 = nI (T 7 e)
def SchM (I : Mem) (T : Nat → Nat → Nat) (ni ne : Nat) (op : Bool) : Prop :=
  I 196 4 = nI ni ∧ I 196 10 = nI ne ∧ I 196 11 = bz op ∧ (∀ i, i < ni → I 197 i = nI (T 0 i) ∧ I 198 i = nI (T 1 i) ∧ I 199 i = nI (T 2 i)) ∧
  ∀ e, e < ne → I 201 e = nI (T 3 e) ∧ I 202 e = nI (T 4 e) ∧ I 203 e = nI (T 5 e) - 1 ∧ I 204 e = nI (if T 3 e = 1 then T 6 e else T 1 (T 4 e)) ∧ (T 3 e = 1 → I 205 e = nI (T 7 e)) ∧ ∀ i, T 4 e ≤ i → i < T 5 e → I 200 i = nI e
def SchF (T : Nat → Nat → Nat) (ni ne : Nat) (op : Bool) : Prop :=
  ni ≤ 10 ∧ ne ≤ 11 ∧ (∀ i, i < ni → 65 ≤ T 0 i ∧ T 0 i ≤ 90 ∧ T 1 i ≤ 9 ∧ 1 ≤ T 2 i ∧ T 2 i ≤ 9 ∧ T 1 i ≤ T 2 i) ∧
  (∀ e, e < ne → T 3 e ≤ 1 ∧ T 4 e ≤ T 5 e ∧ T 5 e ≤ ni ∧ e ≤ T 4 e ∧ T 6 e ≤ 9 ∧ 1 ≤ T 7 e ∧ T 7 e ≤ 9 ∧ T 6 e ≤ T 7 e ∧ (T 3 e = 0 → T 5 e = T 4 e + 1 ∧ T 6 e = min (T 1 (T 4 e)) 1 ∧ T 7 e = 1) ∧ (e + 1 < ne → T 4 (e + 1) = T 5 e) ∧ (op = false ∨ e + 1 < ne → T 4 e < T 5 e)) ∧
  (0 < ne → T 4 0 = 0 ∧ T 5 (ne - 1) = ni) ∧ (ne = 0 → ni = 0 ∧ op = false) ∧ (op = true → T 3 (ne - 1) = 1)
def Sch (I : Mem) : Prop := ∃ T ni ne op, SchC I T ni ne op ∧ SchM I T ni ne op ∧ SchF T ni ne op
theorem SchC.congr {I I' : Mem} {T : Nat → Nat → Nat} {ni ne : Nat} {op : Bool} (h : SchC I T ni ne op) (hn : ni ≤ 10) (he : ne ≤ 11) (hc : ∀ a b, DSch a b → I' a b = I a b) : SchC I' T ni ne op := by
  obtain ⟨h1, h2, h3, h4, h5⟩ := h
  unfold DSch at hc
  refine ⟨?_, ?_, ?_, fun i hi => ?_, fun e h9 => ?_⟩
  · rw [hc _ _ (by omega), h1]
  · rw [hc _ _ (by omega), h2]
  · rw [hc _ _ (by omega), h3]
  · obtain ⟨a1, a2, a3⟩ := h4 i hi
    exact ⟨by rw [hc _ _ (by omega), a1], by rw [hc _ _ (by omega), a2], by rw [hc _ _ (by omega), a3]⟩
  · obtain ⟨a1, a2, a3, a4, a5⟩ := h5 e h9
    exact ⟨by rw [hc _ _ (by omega), a1], by rw [hc _ _ (by omega), a2], by rw [hc _ _ (by omega), a3], by rw [hc _ _ (by omega), a4], by rw [hc _ _ (by omega), a5]⟩
theorem SchM.congr {I I' : Mem} {T : Nat → Nat → Nat} {ni ne : Nat} {op : Bool} (h : SchM I T ni ne op) (hc : ∀ a b, DSch a b → I' a b = I a b) : SchM I' T ni ne op := by
  obtain ⟨h1, h2, h3, h4, h5⟩ := h
  unfold DSch at hc
  refine ⟨?_, ?_, ?_, fun i hi => ?_, fun e h9 => ?_⟩
  · rw [hc _ _ (by omega), h1]
  · rw [hc _ _ (by omega), h2]
  · rw [hc _ _ (by omega), h3]
  · obtain ⟨a1, a2, a3⟩ := h4 i hi
    exact ⟨by rw [hc _ _ (by omega), a1], by rw [hc _ _ (by omega), a2], by rw [hc _ _ (by omega), a3]⟩
  · obtain ⟨a1, a2, a3, a4, a5, a6⟩ := h5 e h9
    exact ⟨by rw [hc _ _ (by omega), a1], by rw [hc _ _ (by omega), a2], by rw [hc _ _ (by omega), a3], by rw [hc _ _ (by omega), a4], fun z => by rw [hc _ _ (by omega), a5 z], fun i z1 z2 => by rw [hc _ _ (by omega), a6 i z1 z2]⟩
theorem Sch.congr {I I' : Mem} (h : Sch I) (hc : ∀ a b, DSch a b → I' a b = I a b) : Sch I' := by
  obtain ⟨T, ni, ne, op, h1, h2, h3⟩ := h
  exact ⟨T, ni, ne, op, h1.congr h3.1 h3.2.1 hc, h2.congr hc, h3⟩
def DNon (a b : Nat) : Prop := (a = 64 ∨ a = 129) ∧ 2 ≤ b ∧ b ≤ 4
def Non (I : Mem) : Prop := ∀ a, (a = 64 ∨ a = 129) → I a 2 = 0 ∧ I a 3 = 32 ∧ I a 4 = 0
theorem Non.congr {I I' : Mem} (h : Non I) (hc : ∀ a b, DNon a b → I' a b = I a b) : Non I' := by
  intro a ha
  obtain ⟨h1, h2, h3⟩ := h a ha
  unfold DNon at hc
  exact ⟨by rw [hc _ _ (by omega), h1], by rw [hc _ _ (by omega), h2], by rw [hc _ _ (by omega), h3]⟩
def DTxt (a b : Nat) : Prop := (a = 27 ∧ b = 1) ∨ a = 28 ∨ (a = 196 ∧ b = 13) ∨ a = 206
def TxtP (I : Mem) (tx : Nat → Nat) (tl : Nat) : Prop := tl ≤ 300 ∧ I 27 1 = nI tl ∧ I 196 13 = nI tl ∧ ∀ i, i < tl → 32 ≤ tx i ∧ tx i ≤ 126 ∧ I 28 i = nI (tx i) ∧ I 206 i = nI (tx i)
def Txt (I : Mem) : Prop := ∃ tx tl, TxtP I tx tl
theorem TxtP.congr {I I' : Mem} {tx : Nat → Nat} {tl : Nat} (h : TxtP I tx tl) (hc : ∀ a b, DTxt a b → I' a b = I a b) : TxtP I' tx tl := by
  obtain ⟨h1, h2, h3, h4⟩ := h
  unfold DTxt at hc
  refine ⟨h1, by rw [hc _ _ (by omega), h2], by rw [hc _ _ (by omega), h3], fun i hi => ?_⟩
  obtain ⟨a1, a2, a3, a4⟩ := h4 i hi
  exact ⟨a1, a2, by rw [hc _ _ (by omega), a3], by rw [hc _ _ (by omega), a4]⟩
theorem Txt.congr {I I' : Mem} (h : Txt I) (hc : ∀ a b, DTxt a b → I' a b = I a b) : Txt I' := by
  obtain ⟨tx, tl, h⟩ := h
  exact ⟨tx, tl, h.congr hc⟩
def DFlt (a b : Nat) : Prop := (a = 29 ∧ b = 2) ∨ a = 30 ∨ a = 31 ∨ (a = 196 ∧ b = 16) ∨ a = 207 ∨ a = 208
def FltP (I : Mem) (nf : Nat) : Prop := nf ≤ 141 ∧ I 29 2 = nI nf ∧ I 196 16 = nI nf ∧ ∀ i, i < nf → I 30 i = I 207 i ∧ I 31 i = I 208 i
def Flt (I : Mem) : Prop := ∃ nf, FltP I nf
theorem FltP.congr {I I' : Mem} {nf : Nat} (h : FltP I nf) (hc : ∀ a b, DFlt a b → I' a b = I a b) : FltP I' nf := by
  obtain ⟨h1, h2, h3, h4⟩ := h
  unfold DFlt at hc
  refine ⟨h1, by rw [hc _ _ (by omega), h2], by rw [hc _ _ (by omega), h3], fun i hi => ?_⟩
  obtain ⟨a1, a2⟩ := h4 i hi
  exact ⟨by rw [hc _ _ (by omega), hc _ _ (by omega), a1], by rw [hc _ _ (by omega), hc _ _ (by omega), a2]⟩
theorem Flt.congr {I I' : Mem} (h : Flt I) (hc : ∀ a b, DFlt a b → I' a b = I a b) : Flt I' := by
  obtain ⟨nf, h⟩ := h
  exact ⟨nf, h.congr hc⟩
def DCtl (a b : Nat) : Prop := (a = 0 ∧ (b = 8 ∨ b = 9)) ∨ (a = 196 ∧ (b = 24 ∨ b = 25))
def Ctl (I : Mem) : Prop := ∃ hc, I 0 8 = bz hc ∧ I 196 24 = bz hc ∧ (hc = true → I 0 9 = I 196 25)
theorem Ctl.congr {I I' : Mem} (h : Ctl I) (hc : ∀ a b, DCtl a b → I' a b = I a b) : Ctl I' := by
  obtain ⟨z, h1, h2, h3⟩ := h
  unfold DCtl at hc
  exact ⟨z, by rw [hc _ _ (by omega), h1], by rw [hc _ _ (by omega), h2], fun q => by rw [hc _ _ (by omega), hc _ _ (by omega), h3 q]⟩
def DAcc (m a b : Nat) : Prop := (a = 0 ∧ 5 ≤ b ∧ b ≤ 7) ∨ (a = 196 ∧ (b = 23 ∨ b = 32)) ∨ (214 ≤ a ∧ a ≤ 219) ∨ (a = m ∧ b = 2) ∨ (m + 8 ≤ a ∧ a < m + 62)
def SegP (I : Mem) (m s : Nat) : Prop :=
  I (m + 8 + 3 * s) 3 = I (m + 8 + 3 * s) 3 ∧ okc (I (m + 8 + 3 * s) 3) = true ∧ I (m + 8 + 3 * s) 5 = I (m + 8 + 3 * s) 5 ∧ I (m + 8 + 3 * s) 6 = I (m + 8 + 3 * s) 6 ∧
  ∃ c, c ≤ 5 ∧ I (m + 8 + 3 * s) 4 = nI c ∧ I (m + 8 + 3 * s) 4 = nI c ∧ ∀ e, e < c → ∃ l, l ≤ 8 ∧ I (m + 10 + 3 * s) e = nI l ∧ I (m + 10 + 3 * s) e = nI l ∧
    ∀ x, x < l → ∃ q, 32 ≤ q ∧ q ≤ 126 ∧ I (m + 9 + 3 * s) (8 * e + x) = nI q ∧ I (m + 9 + 3 * s) (8 * e + x) = nI q
def BodP (I : Mem) (m nb : Nat) : Prop := nb ≤ 18 ∧ I m 2 = nI (nb + 2) ∧ I m 2 = nI (nb + 2) ∧ ∀ s, s < nb → SegP I m s
def AccP (I : Mem) (m d : Nat) : Prop := ((m = 62 ∧ d = 127) ∨ (m = 127 ∧ d = 62)) ∧ I 0 5 = nI m ∧ I 0 6 = nI d ∧ ∃ ha, I 0 7 = bz ha ∧ I 196 23 = bz ha ∧ (ha = true → ∃ nb, BodP I m nb)
def Acc (I : Mem) : Prop := ∃ m d, AccP I m d
theorem SegP.congr {I I' : Mem} {m s : Nat} (hs : s < 18) (h : SegP I m s) (hc : ∀ a b, DAcc m a b → I' a b = I a b) : SegP I' m s := by
  obtain ⟨h1, h2, h3, h4, c, h5, h6, h7, h8⟩ := h
  unfold DAcc at hc
  refine ⟨by rw [hc _ _ (by omega), hc _ _ (by omega), h1], by rw [hc _ _ (by omega), h2], by rw [hc _ _ (by omega), hc _ _ (by omega), h3], by rw [hc _ _ (by omega), hc _ _ (by omega), h4], c, h5, by rw [hc _ _ (by omega), h6], by rw [hc _ _ (by omega), h7], fun e he => ?_⟩
  obtain ⟨l, a1, a2, a3, a4⟩ := h8 e he
  refine ⟨l, a1, by rw [hc _ _ (by omega), a2], by rw [hc _ _ (by omega), a3], fun x hx => ?_⟩
  obtain ⟨q, b1, b2, b3, b4⟩ := a4 x hx
  exact ⟨q, b1, b2, by rw [hc _ _ (by omega), b3], by rw [hc _ _ (by omega), b4]⟩
theorem BodP.congr {I I' : Mem} {m nb : Nat} (h : BodP I m nb) (hc : ∀ a b, DAcc m a b → I' a b = I a b) : BodP I' m nb := by
  obtain ⟨h1, h2, h3, h4⟩ := h
  have hc2 := hc
  unfold DAcc at hc
  exact ⟨h1, by rw [hc _ _ (by omega), h2], by rw [hc _ _ (by omega), h3], fun s hs => (h4 s hs).congr (by omega) hc2⟩
theorem AccP.congr {I I' : Mem} {m d : Nat} (h : AccP I m d) (hc : ∀ a b, DAcc m a b → I' a b = I a b) : AccP I' m d := by
  obtain ⟨h0, h1, h2, z, h3, h4, h5⟩ := h
  have hc2 := hc
  unfold DAcc at hc
  exact ⟨h0, by rw [hc _ _ (by omega), h1], by rw [hc _ _ (by omega), h2], z, by rw [hc _ _ (by omega), h3], by rw [hc _ _ (by omega), h4], fun q => by obtain ⟨nb, h⟩ := h5 q; exact ⟨nb, h.congr hc2⟩⟩
def DAcc' (a b : Nat) : Prop := (a = 0 ∧ 5 ≤ b ∧ b ≤ 7) ∨ (a = 196 ∧ (b = 23 ∨ b = 32)) ∨ (214 ≤ a ∧ a ≤ 219) ∨ ((a = 62 ∨ a = 127) ∧ b = 2) ∨ (70 ≤ a ∧ a < 124) ∨ (135 ≤ a ∧ a < 189)
theorem Acc.congr {I I' : Mem} (h : Acc I) (hc : ∀ a b, DAcc' a b → I' a b = I a b) : Acc I' := by
  obtain ⟨m, d, h⟩ := h
  refine ⟨m, d, h.congr fun a b hd => hc a b ?_⟩
  have h0 := h.1
  unfold DAcc at hd
  unfold DAcc'
  omega
def DRul (a b : Nat) : Prop := (a = 38 ∧ b = 2) ∨ (42 ≤ a ∧ a ≤ 61) ∨ (a = 196 ∧ b = 42) ∨ (222 ≤ a ∧ a ≤ 227)
def RulP (I : Mem) (r : Nat) : Prop :=
  I (42 + 2 * r) 1 = I (42 + 2 * r) 1 ∧ I (42 + 2 * r) 2 = I (42 + 2 * r) 2 ∧ (∃ q, 65 ≤ q ∧ q ≤ 90 ∧ I (42 + 2 * r) 2 = nI q) ∧ (∃ f, f ≤ 5 ∧ I (42 + 2 * r) 3 = nI f ∧ I (42 + 2 * r) 3 = nI f ∧ ∀ x, x < f → ∃ q, q < 5 ∧ I (43 + 2 * r) x = nI q ∧ I (43 + 2 * r) x = nI q) ∧
  ((I (42 + 2 * r) 4 = -1 ∧ I (42 + 2 * r) 4 = -1) ∨ ∃ q, q < 5 ∧ I (42 + 2 * r) 4 = nI q ∧ I (42 + 2 * r) 4 = nI q ∧ I (42 + 2 * r) 5 = I (42 + 2 * r) 5)
def RulsP (I : Mem) (nr : Nat) : Prop := nr ≤ 10 ∧ I 38 2 = nI nr ∧ I 38 2 = nI nr ∧ ∀ r, r < nr → RulP I r
def Rul (I : Mem) : Prop := ∃ nr, RulsP I nr
theorem RulP.congr {I I' : Mem} {r : Nat} (hr : r < 10) (h : RulP I r) (hc : ∀ a b, DRul a b → I' a b = I a b) : RulP I' r := by
  obtain ⟨h1, h2, ⟨q0, h3, h3', h3''⟩, ⟨f, h4, h5, h6, h7⟩, h8⟩ := h
  unfold DRul at hc
  refine ⟨by rw [hc _ _ (by omega), hc _ _ (by omega), h1], by rw [hc _ _ (by omega), hc _ _ (by omega), h2], ⟨q0, h3, h3', by rw [hc _ _ (by omega), h3'']⟩, ⟨f, h4, by rw [hc _ _ (by omega), h5], by rw [hc _ _ (by omega), h6], fun x hx => ?_⟩, ?_⟩
  · obtain ⟨q, a1, a2, a3⟩ := h7 x hx
    exact ⟨q, a1, by rw [hc _ _ (by omega), a2], by rw [hc _ _ (by omega), a3]⟩
  · rcases h8 with ⟨a1, a2⟩ | ⟨q, a1, a2, a3, a4⟩
    · exact Or.inl ⟨by rw [hc _ _ (by omega), a1], by rw [hc _ _ (by omega), a2]⟩
    · exact Or.inr ⟨q, a1, by rw [hc _ _ (by omega), a2], by rw [hc _ _ (by omega), a3], by rw [hc _ _ (by omega), hc _ _ (by omega), a4]⟩
theorem RulsP.congr {I I' : Mem} {nr : Nat} (h : RulsP I nr) (hc : ∀ a b, DRul a b → I' a b = I a b) : RulsP I' nr := by
  obtain ⟨h1, h2, h3, h4⟩ := h
  have hc2 := hc
  unfold DRul at hc
  exact ⟨h1, by rw [hc _ _ (by omega), h2], by rw [hc _ _ (by omega), h3], fun r hr => (h4 r hr).congr (by omega) hc2⟩
theorem Rul.congr {I I' : Mem} (h : Rul I) (hc : ∀ a b, DRul a b → I' a b = I a b) : Rul I' := by
  obtain ⟨nr, h⟩ := h
  exact ⟨nr, h.congr hc⟩
def DOut (m a b : Nat) : Prop := (a = 0 ∧ 10 ≤ b ∧ b ≤ 12) ∨ (a = 196 ∧ (b = 46 ∨ b = 47)) ∨ a = 229 ∨ (a = m ∧ b = 1) ∨ a = m + 1
def OutP (I : Mem) (m d wl k : Nat) : Prop := ((m = 192 ∧ d = 194) ∨ (m = 194 ∧ d = 192)) ∧ I 0 10 = nI m ∧ I 0 11 = nI d ∧ wl ≤ 300 ∧ I m 1 = nI wl ∧ I 196 46 = nI wl ∧ (∀ i, i < wl → ∃ q, 32 ≤ q ∧ q ≤ 126 ∧ I (m + 1) i = nI q ∧ I 229 i = nI q) ∧ k ≤ 9999 ∧ I 0 12 = nI k ∧ I 196 47 = nI k
def Out (I : Mem) : Prop := ∃ m d wl k, OutP I m d wl k
theorem OutP.congr {I I' : Mem} {m d wl k : Nat} (h : OutP I m d wl k) (hc : ∀ a b, DOut m a b → I' a b = I a b) : OutP I' m d wl k := by
  obtain ⟨h0, h1, h2, h3, h4, h5, h6, h7, h8, h9⟩ := h
  unfold DOut at hc
  refine ⟨h0, by rw [hc _ _ (by omega), h1], by rw [hc _ _ (by omega), h2], h3, by rw [hc _ _ (by omega), h4], by rw [hc _ _ (by omega), h5], fun i hi => ?_, h7, by rw [hc _ _ (by omega), h8], by rw [hc _ _ (by omega), h9]⟩
  obtain ⟨q, b1, b2, b3, b4⟩ := h6 i hi
  exact ⟨q, b1, b2, by rw [hc _ _ (by omega), b3], by rw [hc _ _ (by omega), b4]⟩
def DOut' (a b : Nat) : Prop := (a = 0 ∧ 10 ≤ b ∧ b ≤ 12) ∨ (a = 196 ∧ (b = 46 ∨ b = 47)) ∨ a = 229 ∨ (192 ≤ a ∧ a ≤ 195)
theorem Out.congr {I I' : Mem} (h : Out I) (hc : ∀ a b, DOut' a b → I' a b = I a b) : Out I' := by
  obtain ⟨m, d, wl, k, h⟩ := h
  refine ⟨m, d, wl, k, h.congr fun a b hd => hc a b ?_⟩
  have h0 := h.1
  unfold DOut at hd
  unfold DOut'
  omega
def Inv (I : Mem) : Prop := Sch I ∧ Non I ∧ Txt I ∧ Flt I ∧ Ctl I ∧ Acc I ∧ Rul I ∧ Out I
def DInv (a b : Nat) : Prop := DSch a b ∨ DNon a b ∨ DTxt a b ∨ DFlt a b ∨ DCtl a b ∨ DAcc' a b ∨ DRul a b ∨ DOut' a b
theorem Inv.congr {I I' : Mem} (h : Inv I) (hc : ∀ a b, DInv a b → I' a b = I a b) : Inv I' := by
  obtain ⟨h1, h2, h3, h4, h5, h6, h7, h8⟩ := h
  exact ⟨h1.congr fun a b hd => hc a b (Or.inl hd), h2.congr fun a b hd => hc a b (Or.inr (Or.inl hd)), h3.congr fun a b hd => hc a b (Or.inr (Or.inr (Or.inl hd))), h4.congr fun a b hd => hc a b (Or.inr (Or.inr (Or.inr (Or.inl hd)))), h5.congr fun a b hd => hc a b (Or.inr (Or.inr (Or.inr (Or.inr (Or.inl hd))))), h6.congr fun a b hd => hc a b (Or.inr (Or.inr (Or.inr (Or.inr (Or.inr (Or.inl hd)))))), h7.congr fun a b hd => hc a b (Or.inr (Or.inr (Or.inr (Or.inr (Or.inr (Or.inr (Or.inl hd))))))), h8.congr fun a b hd => hc a b (Or.inr (Or.inr (Or.inr (Or.inr (Or.inr (Or.inr (Or.inr hd))))))) ⟩
theorem Inv.start : Inv I0 := by
  refine ⟨⟨fun _ _ => 0, 0, 0, false, ?_, ?_, ?_⟩, ?_, ⟨fun _ => 0, 0, ?_⟩, ⟨0, ?_⟩, ⟨false, ?_⟩, ⟨62, 127, ?_⟩, ⟨0, ?_⟩, ⟨192, 194, 0, 0, ?_⟩⟩
  · exact ⟨by decide +kernel, by decide +kernel, by decide +kernel, fun i hi => absurd hi (Nat.not_lt_zero _), fun i hi => absurd hi (Nat.not_lt_zero _)⟩
  · exact ⟨by decide +kernel, by decide +kernel, by decide +kernel, fun i hi => absurd hi (Nat.not_lt_zero _), fun i hi => absurd hi (Nat.not_lt_zero _)⟩
  · exact ⟨by omega, by omega, fun i hi => absurd hi (Nat.not_lt_zero _), fun i hi => absurd hi (Nat.not_lt_zero _), fun h => absurd h (Nat.lt_irrefl _), fun _ => ⟨rfl, rfl⟩, fun h => nomatch h⟩
  · rintro a (rfl | rfl) <;> exact ⟨by decide +kernel, by decide +kernel, by decide +kernel⟩
  · exact ⟨by omega, by decide +kernel, by decide +kernel, fun i hi => absurd hi (Nat.not_lt_zero _)⟩
  · exact ⟨by omega, by decide +kernel, by decide +kernel, fun i hi => absurd hi (Nat.not_lt_zero _)⟩
  · exact ⟨by decide +kernel, by decide +kernel, fun h => nomatch h⟩
  · exact ⟨Or.inl ⟨rfl, rfl⟩, by decide +kernel, by decide +kernel, false, by decide +kernel, by decide +kernel, fun h => nomatch h⟩
  · exact ⟨by omega, by decide +kernel, by decide +kernel, fun i hi => absurd hi (Nat.not_lt_zero _)⟩
  · exact ⟨Or.inl ⟨rfl, rfl⟩, by decide +kernel, by decide +kernel, by omega, by decide +kernel, by decide +kernel, fun i hi => absurd hi (Nat.not_lt_zero _), by omega, by decide +kernel, by decide +kernel⟩
