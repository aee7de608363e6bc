/-! the words of the tables that hold in every later state; memory, locals, the judgement WF -/
def okw (w : Cond) : Bool := goodWord w || (match w with
  | .fieldLinkNest .. => true
  | .methodLinkNest .. => true
  | .declares _ => true
  | .castable .. => true
  | .arrayOver (.object _) => true
  | _ => false)
def LT : List Cond := lw_tbl.filter okw
theorem LT.mem {w : Cond} (h : w ∈ lw_tbl) (hg : okw w = true) : w ∈ LT := List.mem_filter.mpr ⟨h, hg⟩
def TB (U : State) : Prop := ∀ w ∈ LT, w.before #[] U = true
theorem TB.ofAll {args : Array Value} {s : State} (h : ∀ w ∈ lw_tbl, w.before args s = true) : TB s := by
  intro w hw
  obtain ⟨h1, h2⟩ := List.mem_filter.mp hw
  have h3 := h w h1
  by_cases g : goodWord w = true
  · exact word_at (State.WarmedH.refl s) (good_of_word g) h3
  · have g' : goodWord w = false := by simpa using g
    simp only [okw, g', Bool.false_or] at h2
    split at h2 <;> first | exact va_Nw.of rfl h3 | exact va_AO.of h3 | cases h2
theorem TB.warm {s U : State} (hW : s.WarmedH U.vm) (h : TB s) : TB U := by
  intro w hw
  obtain ⟨h1, h2⟩ := List.mem_filter.mp hw
  have h3 := h w hw
  by_cases g : goodWord w = true
  · exact word_at hW (good_of_word g) h3
  · have g' : goodWord w = false := by simpa using g
    simp only [okw, g', Bool.false_or] at h2
    split at h2
    · exact va_Nw.warmF hW h3
    · exact va_Nw.warmM hW h3
    · exact va_Nw.warmD hW h3
    · exact va_Nw.warmC hW h3
    · exact va_AO.moved hW.alike h3
    · cases h2
theorem TB.use {s : State} (h : TB s) (args : Array Value) : ∀ w ∈ LT, w.before args s = true := by
  intro w hw
  obtain ⟨h1, h2⟩ := List.mem_filter.mp hw
  have h3 := h w hw
  by_cases g : goodWord w = true
  · exact word_at (State.WarmedH.refl s) (good_of_word g) h3
  · have g' : goodWord w = false := by simpa using g
    simp only [okw, g', Bool.false_or] at h2
    split at h2 <;> first | exact va_Nw.use rfl h3 | exact va_AO.use h3 | cases h2
theorem GoodIn.one {w : Cond} (h : w ∈ LT) (g : goodWord w = true) : GoodIn LT [w] := by
  intro x hx
  rw [List.mem_singleton.mp hx]
  exact ⟨h, good_of_word g⟩

/-! memory -/
abbrev Mem : Type := Nat → Nat → Int32
def ms (I : Mem) (k j : Nat) (v : Int32) : Mem := fun a b => if a = k ∧ b = j then v else I a b
def gd {R : Type} (b : Bool) (e : Option R) : Option R := match b with
  | true => e
  | false => none
def inb (i : Int32) (n : Nat) : Bool := !(decide (i < 0) || decide (n ≤ i.toNatClampNeg))
def bnd {α β : Type} (a : α) (f : α → β) : β := f a
def loopF {α β : Type} (body : α → Option (α ⊕ β)) : Nat → α → Option β
  | 0, _ => none
  | n + 1, a => match body a with
    | none => none
    | some (.inl a') => loopF body n a'
    | some (.inr b) => some b
def FU : Nat := 100000
theorem inb_in {i : Int32} {n : Nat} (h : inb i n = true) : vp_in i n := by
  simp only [inb, Bool.not_eq_true', Bool.or_eq_false_iff, decide_eq_false_iff_not] at h
  exact fun q => q.elim h.1 h.2
theorem inb_lt {i : Int32} {n : Nat} (h : inb i n = true) : i.toNatClampNeg < n := Nat.not_le.mp fun q => inb_in h (Or.inr q)

/-! locals by their places -/
def hasL (ls : Array Slot) (L : List (Option Value)) : Prop := ls.size = L.length ∧ lv_wf ls ∧ ∀ (i : Nat) (v : Value), L[i]? = some (some v) → ls[i]? = some (.val v) ∧ v.category = 1
def enL (L : List (Option Value)) : List (Nat × Value) := (List.range L.length).filterMap (fun i => (L.getD i none).map (fun v => (i, v)))
theorem enL_mem {L : List (Option Value)} {q : Nat × Value} : q ∈ enL L ↔ L[q.1]? = some (some q.2) := by
  obtain ⟨i, v⟩ := q
  simp only [enL, List.mem_filterMap, List.mem_range, Option.map_eq_some_iff, Prod.mk.injEq]
  constructor
  · rintro ⟨j, hj, w, hw, rfl, rfl⟩
    rw [List.getD_eq_getElem?_getD] at hw
    rw [List.getElem?_eq_getElem hj] at hw ⊢
    simpa using hw
  · intro h
    have hl := (List.getElem?_eq_some_iff.mp h).1
    refine ⟨i, hl, v, ?_, rfl, rfl⟩
    rw [List.getD_eq_getElem?_getD, h]
    rfl
theorem hasL.has {ls : Array Slot} {L : List (Option Value)} (h : hasL ls L) : lv_has ls L.length (enL L) :=
  ⟨h.1, h.2.1, fun q hq => (h.2.2 q.1 q.2 (enL_mem.mp hq)).1⟩
theorem hasL.get {ls : Array Slot} {L : List (Option Value)} (h : hasL ls L) {i : Nat} {v : Value} (hi : L[i]? = some (some v)) : ls[i]? = some (.val v) := (h.2.2 i v hi).1
theorem hasL.of {ls' : Array Slot} {L : List (Option Value)} {i : Nat} {v : Value} (hi : i < L.length) (hc : v.category = 1) (hL : ∀ (j : Nat) (w : Value), L[j]? = some (some w) → w.category = 1)
    (h : lv_has ls' L.length ((i, v) :: (enL L).filter (fun q => !(q.1 == i) && !(q.1 + 1 == i && q.2.category == 2)))) : hasL ls' (L.set i (some v)) := by
  obtain ⟨h1, h2, h3⟩ := h
  refine ⟨by rw [List.length_set]; exact h1, h2, fun j w hw => ?_⟩
  by_cases e : j = i
  · subst e
    rw [List.getElem?_set_self hi] at hw
    cases hw
    exact ⟨h3 (j, v) List.mem_cons_self, hc⟩
  · rw [List.getElem?_set_ne (Ne.symm e)] at hw
    have hcw := hL j w hw
    refine ⟨h3 (j, w) (List.mem_cons_of_mem _ (List.mem_filter.mpr ⟨enL_mem.mpr hw, ?_⟩)), hcw⟩
    simp [e, hcw]
theorem hasL.cat {ls : Array Slot} {L : List (Option Value)} (h : hasL ls L) : ∀ (j : Nat) (w : Value), L[j]? = some (some w) → w.category = 1 := fun j w hw => (h.2.2 j w hw).2
/-- fewer known locals -/
theorem hasL.less {ls : Array Slot} {L L' : List (Option Value)} (h : hasL ls L) (hl : L'.length = L.length) (hs : ∀ (i : Nat) (v : Value), L'[i]? = some (some v) → L[i]? = some (some v)) : hasL ls L' :=
  ⟨by rw [hl]; exact h.1, h.2.1, fun i v hi => h.2.2 i v (hs i v hi)⟩
theorem lv_args_mem : ∀ (vs : List Value) (n : Nat), (∀ v ∈ vs, v.category = 1) → ∀ (i : Nat) (v : Value), vs[i]? = some v → (n + i, v) ∈ lv_args n vs
  | [], _, _, i, v, h => by simp at h
  | w :: vs, n, hc, i, v, h => by
    have hw : ¬ w.category = 2 := by have := hc w List.mem_cons_self; omega
    simp only [lv_args, if_neg hw]
    cases i with
    | zero =>
      rw [List.getElem?_cons_zero] at h
      cases h
      exact List.mem_cons_self
    | succ i =>
      rw [List.getElem?_cons_succ] at h
      have := lv_args_mem vs (n + 1) (fun v hv => hc v (List.mem_cons_of_mem _ hv)) i v h
      rw [show n + (i + 1) = n + 1 + i by omega]
      exact List.mem_cons_of_mem _ this
theorem lg_sl_len : ∀ (vs : List Value), (∀ v ∈ vs, v.category = 1) → (lg_sl vs).length = vs.length
  | [], _ => rfl
  | w :: vs, hc => by
    have hw : ¬ w.category = 2 := by have := hc w List.mem_cons_self; omega
    have ih := lg_sl_len vs (fun v hv => hc v (List.mem_cons_of_mem _ hv))
    simp only [lg_sl, List.flatMap_cons, if_neg hw] at ih ⊢
    rw [List.length_append, ih]
    simp only [List.length_cons, List.length_nil]
    omega
theorem hasL.entry (vs : List Value) (n : Nat) (hc : ∀ v ∈ vs, v.category = 1) (hn : vs.length ≤ n) : hasL ((lg_sl vs ++ List.replicate (n - (lg_sl vs).length) Slot.unset).toArray) (vs.map some ++ List.replicate (n - vs.length) none) := by
  obtain ⟨h1, h2, h3⟩ := lv_entry vs (n := n) (by rw [lg_sl_len vs hc]; exact hn)
  refine ⟨by rw [h1]; simp; omega, h2, fun i v hi => ?_⟩
  by_cases hl : i < vs.length
  · rw [List.getElem?_append_left (by simpa using hl), List.getElem?_map] at hi
    cases hv : vs[i]? with
    | none => rw [hv] at hi; simp at hi
    | some w =>
      rw [hv] at hi
      simp at hi
      subst hi
      exact ⟨h3 (i, w) (by have := lv_args_mem vs 0 hc i w hv; rwa [Nat.zero_add] at this), hc w (List.mem_of_getElem? hv)⟩
  · rw [List.getElem?_append_right (by simp; omega), List.getElem?_replicate] at hi
    split at hi <;> simp at hi
