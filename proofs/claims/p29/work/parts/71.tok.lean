/-! texts as lists: letters as they are fed, released or not -/
abbrev Tk : Type := Bool × Nat
def tk1 (k : Tk) : List Nat := if k.1 = true then [63, k.2] else [k.2]
def enc (K : List Tk) : List Nat := K.flatMap tk1
def lts (K : List Tk) : List Nat := K.map (fun k => k.2)
def TkO (K : List Tk) : Prop := ∀ k ∈ K, 32 ≤ k.2 ∧ k.2 ≤ 126 ∧ (k.1 = false → k.2 ≠ 63 ∧ k.2 ≠ 43 ∧ k.2 ≠ 39)
/-- the letters W stand in t from a on -/
def Tat (t : Nat → Nat) : Nat → List Nat → Prop
  | _, [] => True
  | a, c :: W => t a = c ∧ Tat t (a + 1) W
theorem Tat.app {t : Nat → Nat} : ∀ (W V : List Nat) (a : Nat), Tat t a (W ++ V) ↔ Tat t a W ∧ Tat t (a + W.length) V := by
  intro W
  induction W with
  | nil => intro V a; simp [Tat]
  | cons c W ih =>
    intro V a
    show (t a = c ∧ Tat t (a + 1) (W ++ V)) ↔ (t a = c ∧ Tat t (a + 1) W) ∧ Tat t (a + (W.length + 1)) V
    rw [ih V (a + 1), show a + 1 + W.length = a + (W.length + 1) by omega, and_assoc]
theorem Tat.of {t : Nat → Nat} : ∀ (W : List Nat) (a : Nat), (∀ i, i < W.length → t (a + i) = W.getD i 0) → Tat t a W := by
  intro W
  induction W with
  | nil => intro a _; trivial
  | cons c W ih =>
    intro a h
    refine ⟨by simpa using h 0 (by simp), ih (a + 1) fun i hi => ?_⟩
    have := h (i + 1) (by simp; omega)
    rw [show a + 1 + i = a + (i + 1) by omega, this]
    simp [List.getD_eq_getElem?_getD]
theorem enc_c (k : Tk) (K : List Tk) : enc (k :: K) = tk1 k ++ enc K := rfl
theorem enc_0 : enc [] = [] := rfl
theorem TkO.c {k : Tk} {K : List Tk} (h : TkO (k :: K)) : (32 ≤ k.2 ∧ k.2 ≤ 126 ∧ (k.1 = false → k.2 ≠ 63 ∧ k.2 ≠ 43 ∧ k.2 ≠ 39)) ∧ TkO K := ⟨h k (by simp), fun x hx => h x (by simp [hx])⟩
theorem TkO.nil : TkO [] := fun k hk => by simp at hk
/-- the first letter of a text: one step of a walk -/
theorem tk_step {t : Nat → Nat} {k : Tk} {K : List Tk} {a : Nat} (h : TkO (k :: K)) (ht : Tat t a (enc (k :: K))) : t a ≠ 43 ∧ t a ≠ 39 ∧ stp t a = a + (tk1 k).length ∧ ltr t a = k.2 ∧ Tat t (a + (tk1 k).length) (enc K) ∧ 0 < (tk1 k).length := by
  rw [enc_c, Tat.app] at ht
  obtain ⟨h1, h2⟩ := ht
  have h3 := (TkO.c h).1.2.2
  obtain ⟨b, c⟩ := k
  cases b with
  | true =>
    obtain ⟨e1, e2, -⟩ := h1
    refine ⟨by rw [e1]; decide, by rw [e1]; decide, ?_, ?_, h2, by simp [tk1]⟩
    · unfold stp
      rw [if_pos e1]
      rfl
    · unfold ltr
      rw [if_pos e1]
      exact e2
  | false =>
    obtain ⟨e1, -⟩ := h1
    obtain ⟨d1, d2, d3⟩ := h3 rfl
    simp only at d1 d2 d3
    refine ⟨by rw [e1]; exact d2, by rw [e1]; exact d3, ?_, ?_, h2, by simp [tk1]⟩
    · unfold stp
      rw [if_neg (by rw [e1]; exact d1)]
      rfl
    · unfold ltr
      rw [if_neg (by rw [e1]; exact d1)]
      exact e1
theorem enc_cl (k : Tk) (K : List Tk) : (enc (k :: K)).length = (tk1 k).length + (enc K).length := by rw [enc_c, List.length_append]
theorem skp_enc {t : Nat → Nat} {c lim : Nat} (hc : c = 43 ∨ c = 39) : ∀ (K : List Tk) (a : Nat), TkO K → Tat t a (enc K) → a + (enc K).length ≤ lim → skp t c lim a = skp t c lim (a + (enc K).length) := by
  intro K
  induction K with
  | nil => intro a _ _ _; rfl
  | cons k K ih =>
    intro a hk ht hl
    obtain ⟨h1, h2, h3, h4, h5, h6⟩ := tk_step hk ht
    rw [enc_cl] at hl ⊢
    rw [skp_go (by omega) (by omega), h3, ih _ hk.c.2 h5 (by omega), Nat.add_assoc]
theorem wlk_enc {t : Nat → Nat} {p : Nat} : ∀ (K : List Tk) (a : Nat), TkO K → Tat t a (enc K) → a + (enc K).length = p → wlk t p a = lts K := by
  intro K
  induction K with
  | nil =>
    intro a _ _ hl
    rw [wlk_nil (by rw [enc_0] at hl; simp at hl; omega)]
    rfl
  | cons k K ih =>
    intro a hk ht hl
    obtain ⟨h1, h2, h3, h4, h5, h6⟩ := tk_step hk ht
    rw [enc_cl] at hl
    rw [wlk_s (by omega), h3, h4, ih _ hk.c.2 h5 (by omega)]
    rfl
/-! elements, segments, messages -/
def encE (E : List (List Tk)) : List Nat := E.flatMap (fun K => 43 :: enc K)
theorem encE_c (K : List Tk) (E : List (List Tk)) : encE (K :: E) = 43 :: (enc K ++ encE E) := rfl
theorem encE_cl (K : List Tk) (E : List (List Tk)) : (encE (K :: E)).length = 1 + (enc K).length + (encE E).length := by
  rw [encE_c, List.length_cons, List.length_append]
  omega
def ElO (E : List (List Tk)) : Prop := ∀ K ∈ E, TkO K
theorem ElO.c {K : List Tk} {E : List (List Tk)} (h : ElO (K :: E)) : TkO K ∧ ElO E := ⟨h K (by simp), fun x hx => h x (by simp [hx])⟩
/-- at the end of a part the walk to the next + stands -/
theorem skp_stopE {t : Nat → Nat} {e q : Nat} {E : List (List Tk)} (ht : Tat t q (encE E)) (hl : q + (encE E).length = e) : skp t 43 e q = q := by
  cases E with
  | nil => exact skp_stop (by simp [encE] at hl; omega)
  | cons K E =>
    rw [encE_c] at ht
    exact skp_stop (fun h => h.2 ht.1)
theorem skp39E {t : Nat → Nat} {lim : Nat} : ∀ (E : List (List Tk)) (a : Nat), ElO E → Tat t a (encE E) → a + (encE E).length ≤ lim → skp t 39 lim a = skp t 39 lim (a + (encE E).length) := by
  intro E
  induction E with
  | nil => intro a _ _ _; rfl
  | cons K E ih =>
    intro a hE ht hl
    rw [encE_cl] at hl ⊢
    rw [encE_c] at ht
    obtain ⟨h1, h2⟩ := ht
    obtain ⟨h3, h4⟩ := (Tat.app _ _ _).mp h2
    have hs : stp t a = a + 1 := by unfold stp; rw [if_neg (by rw [h1]; decide)]
    rw [skp_go (by omega) (by rw [h1]; decide), hs, skp_enc (Or.inr rfl) K (a + 1) hE.c.1 h3 (by omega), ih _ hE.c.2 h4 (by omega)]
    congr 1
    omega
theorem elP_enc {t : Nat → Nat} {e : Nat} : ∀ (E : List (List Tk)) (f p : Nat), E.length ≤ f → ElO E → Tat t p (encE E) → p + (encE E).length = e → elP t e f p = E.map lts := by
  intro E
  induction E with
  | nil =>
    intro f p _ _ _ hl
    have hp : ¬ p < e := by simp [encE] at hl; omega
    cases f with
    | zero => rfl
    | succ f => rw [elP_s, if_neg hp]; rfl
  | cons K E ih =>
    intro f p hf hE ht hl
    rw [encE_cl] at hl
    rw [encE_c] at ht
    obtain ⟨h1, h2⟩ := ht
    obtain ⟨h3, h4⟩ := (Tat.app _ _ _).mp h2
    cases f with
    | zero => simp at hf
    | succ f =>
      have hsk : skp t 43 e (p + 1) = p + 1 + (enc K).length := by
        rw [skp_enc (Or.inl rfl) K (p + 1) hE.c.1 h3 (by omega)]
        exact skp_stopE h4 (by omega)
      rw [elP_s, if_pos (by omega), hsk, wlk_enc K (p + 1) hE.c.1 h3 rfl, ih f _ (by simp at hf; omega) hE.c.2 h4 (by omega)]
      rfl
theorem elF_enc {t : Nat → Nat} {e : Nat} : ∀ (E : List (List Tk)) (f p : Nat), E.length ≤ f → ElO E → (∀ K ∈ E, K.length ≤ 8) → Tat t p (encE E) → p + (encE E).length = e → elF t e f p = [] := by
  intro E
  induction E with
  | nil =>
    intro f p _ _ _ _ hl
    have hp : ¬ p < e := by simp [encE] at hl; omega
    cases f with
    | zero => rw [elF_0, if_neg hp]
    | succ f => rw [elF_s, if_neg hp]
  | cons K E ih =>
    intro f p hf hE h8 ht hl
    rw [encE_cl] at hl
    rw [encE_c] at ht
    obtain ⟨h1, h2⟩ := ht
    obtain ⟨h3, h4⟩ := (Tat.app _ _ _).mp h2
    cases f with
    | zero => simp at hf
    | succ f =>
      have hsk : skp t 43 e (p + 1) = p + 1 + (enc K).length := by
        rw [skp_enc (Or.inl rfl) K (p + 1) hE.c.1 h3 (by omega)]
        exact skp_stopE h4 (by omega)
      have hw := wlk_enc K (p + 1) hE.c.1 h3 rfl
      have h8K := h8 K (by simp)
      rw [elF_s, if_pos (by omega), hsk, hw, if_neg (by simp [lts]; omega), ih f _ (by simp at hf; omega) hE.c.2 (fun x hx => h8 x (by simp [hx])) h4 (by omega)]
      rfl
abbrev Sgt : Type := List Tk × List (List Tk)
def encS (s : Sgt) : List Nat := enc s.1 ++ (encE s.2 ++ [39])
def encM (M : List Sgt) : List Nat := M.flatMap encS
theorem encM_c (s : Sgt) (M : List Sgt) : encM (s :: M) = encS s ++ encM M := rfl
def SgO (s : Sgt) : Prop := TkO s.1 ∧ okt (lts s.1) = true ∧ s.2.length ≤ 5 ∧ ElO s.2 ∧ ∀ K ∈ s.2, K.length ≤ 8
def valS (s : Sgt) : List Nat × List (List Nat) := (lts s.1, s.2.map lts)
theorem sgS_enc {t : Nat → Nat} {e a : Nat} {s : Sgt} (hs : SgO s) (ht : Tat t a (enc s.1 ++ encE s.2)) (hl : a + (enc s.1 ++ encE s.2).length = e) : (sgS t e a).2 = valS s ∧ sgF t e a = [] := by
  obtain ⟨h1, h2, h3, h4, h5⟩ := hs
  obtain ⟨t1, t2⟩ := (Tat.app _ _ _).mp ht
  rw [List.length_append] at hl
  have hsk : skp t 43 e a = a + (enc s.1).length := by
    rw [skp_enc (Or.inl rfl) s.1 a h1 t1 (by omega)]
    exact skp_stopE t2 (by omega)
  have hw := wlk_enc s.1 a h1 t1 rfl
  constructor
  · show (wlk t (skp t 43 e a) a, elP t e 5 (skp t 43 e a)) = _
    rw [hsk, hw, elP_enc s.2 5 _ h3 h4 t2 (by omega)]
    rfl
  · unfold sgF
    rw [hsk, hw, if_pos h2, elF_enc s.2 5 _ h3 h4 h5 t2 (by omega)]
    rfl
theorem spS_enc {t : Nat → Nat} {n : Nat} : ∀ (M : List Sgt) (f a : Nat), M.length ≤ f → (∀ s ∈ M, SgO s) → Tat t a (encM M) → a + (encM M).length = n → (spS t n f a).map (fun S => S.2) = M.map valS ∧ spF t n f a = [] := by
  intro M
  induction M with
  | nil =>
    intro f a _ _ _ hl
    have hp : ¬ a < n := by simp [encM] at hl; omega
    rw [spS_e hp, spF_e hp]
    exact ⟨rfl, rfl⟩
  | cons s M ih =>
    intro f a hf hM ht hl
    rw [encM_c] at ht hl
    rw [List.length_append] at hl
    obtain ⟨t1, t2⟩ := (Tat.app _ _ _).mp ht
    have hsO := hM s (by simp)
    have e0 : encS s = (enc s.1 ++ encE s.2) ++ [39] := by unfold encS; rw [List.append_assoc]
    rw [e0] at t1 t2 hl
    obtain ⟨t3, t4⟩ := (Tat.app _ _ _).mp t1
    have h39 := t4.1
    rw [List.length_append, List.length_singleton] at t2 hl
    cases f with
    | zero => simp at hf
    | succ f =>
      obtain ⟨e, he⟩ : ∃ e, e = a + (enc s.1 ++ encE s.2).length := ⟨_, rfl⟩
      have hsk : skp t 39 n a = e := by
        obtain ⟨t5, t6⟩ := (Tat.app _ _ _).mp t3
        rw [List.length_append] at he hl
        rw [skp_enc (Or.inr rfl) s.1 a hsO.1 t5 (by omega), skp39E s.2 _ hsO.2.2.2.1 t6 (by omega)]
        rw [show a + (enc s.1).length + (encE s.2).length = e by omega]
        refine skp_stop (fun h => h.2 ?_)
        rw [List.length_append] at h39
        rw [he, h39]
      have hlt : e < n := by omega
      obtain ⟨g1, g2⟩ := sgS_enc (e := e) hsO t3 he.symm
      obtain ⟨i1, i2⟩ := ih f (e + 1) (by simp at hf; omega) (fun x hx => hM x (by simp [hx])) (by rw [he, Nat.add_assoc]; exact t2) (by omega)
      constructor
      · rw [spS_s, if_pos (by omega), hsk, if_pos hlt, List.map_cons, g1, i1]
        rfl
      · rw [spF_s, if_pos (by omega), hsk, if_pos hlt, g2, i2]
        rfl
