def NN : Nat := 196
def LAYT_0 : List (Nat × Nat × Nat) := [(0, 11, 0), (0, 8, 0), (6, 10, 0), (5, 11, 0), (0, 2, 0), (0, 0, 0), (0, 2, 0), (0, 2, 0), (0, 2, 0), (0, 2, 0), (0, 2, 0), (0, 2, 0), (0, 2, 0), (0, 2, 0), (0, 2, 0), (0, 2, 0), (0, 0, 0), (0, 0, 0), (0, 0, 0), (0, 0, 0), (0, 0, 0), (0, 0, 0), (0, 0, 0), (0, 0, 0), (0, 0, 0), (0, 0, 0), (0, 0, 0), (0, 10, 0), (2, 300, 0), (0, 1, 0), (1, 141, 0), (1, 141, 0), (0, 5, 0), (0, 3, 0), (1, 10, 0), (1, 12, 0), (1, 10, 0), (1, 11, 0), (0, 7, 0), (7, 10, 0), (0, 6, 0), (1, 5, 0), (0, 6, 0), (1, 5, 0), (0, 6, 0), (1, 5, 0), (0, 6, 0), (1, 5, 0), (0, 6, 0), (1, 5, 0), (0, 6, 0), (1, 5, 0), (0, 6, 0), (1, 5, 0), (0, 6, 0), (1, 5, 0), (0, 6, 0), (1, 5, 0), (0, 6, 0), (1, 5, 0)]
def LAYT_1 : List (Nat × Nat × Nat) := [(0, 6, 0), (1, 5, 0), (0, 4, 0), (8, 20, 0), (0, 9, 0), (2, 40, 0), (1, 5, 0), (0, 9, 0), (2, 40, 0), (1, 5, 0), (0, 9, 0), (2, 40, 0), (1, 5, 0), (0, 9, 0), (2, 40, 0), (1, 5, 0), (0, 9, 0), (2, 40, 0), (1, 5, 0), (0, 9, 0), (2, 40, 0), (1, 5, 0), (0, 9, 0), (2, 40, 0), (1, 5, 0), (0, 9, 0), (2, 40, 0), (1, 5, 0), (0, 9, 0), (2, 40, 0), (1, 5, 0), (0, 9, 0), (2, 40, 0), (1, 5, 0), (0, 9, 0), (2, 40, 0), (1, 5, 0), (0, 9, 0), (2, 40, 0), (1, 5, 0), (0, 9, 0), (2, 40, 0), (1, 5, 0), (0, 9, 0), (2, 40, 0), (1, 5, 0), (0, 9, 0), (2, 40, 0), (1, 5, 0), (0, 9, 0), (2, 40, 0), (1, 5, 0), (0, 9, 0), (2, 40, 0), (1, 5, 0), (0, 9, 0), (2, 40, 0), (1, 5, 0), (0, 9, 0), (2, 40, 0)]
def LAYT_2 : List (Nat × Nat × Nat) := [(1, 5, 0), (0, 9, 0), (2, 40, 0), (1, 5, 0), (0, 9, 0), (2, 40, 0), (1, 5, 0), (0, 4, 0), (8, 20, 0), (0, 9, 0), (2, 40, 0), (1, 5, 0), (0, 9, 0), (2, 40, 0), (1, 5, 0), (0, 9, 0), (2, 40, 0), (1, 5, 0), (0, 9, 0), (2, 40, 0), (1, 5, 0), (0, 9, 0), (2, 40, 0), (1, 5, 0), (0, 9, 0), (2, 40, 0), (1, 5, 0), (0, 9, 0), (2, 40, 0), (1, 5, 0), (0, 9, 0), (2, 40, 0), (1, 5, 0), (0, 9, 0), (2, 40, 0), (1, 5, 0), (0, 9, 0), (2, 40, 0), (1, 5, 0), (0, 9, 0), (2, 40, 0), (1, 5, 0), (0, 9, 0), (2, 40, 0), (1, 5, 0), (0, 9, 0), (2, 40, 0), (1, 5, 0), (0, 9, 0), (2, 40, 0), (1, 5, 0), (0, 9, 0), (2, 40, 0), (1, 5, 0), (0, 9, 0), (2, 40, 0), (1, 5, 0), (0, 9, 0), (2, 40, 0), (1, 5, 0)]
def LAYT_3 : List (Nat × Nat × Nat) := [(0, 9, 0), (2, 40, 0), (1, 5, 0), (0, 9, 0), (2, 40, 0), (1, 5, 0), (0, 9, 0), (2, 40, 0), (1, 5, 0), (0, 9, 0), (2, 40, 0), (1, 5, 0), (0, 10, 0), (2, 300, 0), (0, 10, 0), (2, 300, 0)]
def LAYT : List (Nat × Nat × Nat) := LAYT_0 ++ (LAYT_1 ++ (LAYT_2 ++ (LAYT_3)))
def TGTT_0 : List (List Nat) := [[1, 27, 29, 32, 38, 62, 127, 0, 0, 0, 192, 194, 0], [2, 3, 4, 5, 0, 0, 0], [6, 7, 8, 9, 10, 11, 12, 13, 14, 15], [16, 17, 18, 19, 20, 21, 22, 23, 24, 25, 26], [0, 0, 0], [0, 0, 0, 0, 0], [0, 0, 0], [0, 0, 0], [0, 0, 0], [0, 0, 0], [0, 0, 0], [0, 0, 0], [0, 0, 0], [0, 0, 0], [0, 0, 0], [0, 0, 0], [0, 0, 0, 0, 0], [0, 0, 0, 0, 0], [0, 0, 0, 0, 0], [0, 0, 0, 0, 0], [0, 0, 0, 0, 0], [0, 0, 0, 0, 0], [0, 0, 0, 0, 0], [0, 0, 0, 0, 0], [0, 0, 0, 0, 0], [0, 0, 0, 0, 0], [0, 0, 0, 0, 0], [28, 0, 0], [], [30, 31, 0], [], [], [29, 33], [1, 34, 35, 36, 37, 0], [], [], [], [], [39, 40, 0], [42, 44, 46, 48, 50, 52, 54, 56, 58, 60], [41, 0, 0, 0, 0, 0], [], [43, 0, 0, 0, 0, 0], [], [45, 0, 0, 0, 0, 0], [], [47, 0, 0, 0, 0, 0], [], [49, 0, 0, 0, 0, 0], [], [51, 0, 0, 0, 0, 0], [], [53, 0, 0, 0, 0, 0], [], [55, 0, 0, 0, 0, 0], [], [57, 0, 0, 0, 0, 0], [], [59, 0, 0, 0, 0, 0], []]
def TGTT_1 : List (List Nat) := [[61, 0, 0, 0, 0, 0], [], [63, 64, 0], [67, 70, 73, 76, 79, 82, 85, 88, 91, 94, 97, 100, 103, 106, 109, 112, 115, 118, 121, 124], [65, 66, 0, 0, 0, 0, 0], [], [], [68, 69, 0, 0, 0, 0, 0], [], [], [71, 72, 0, 0, 0, 0, 0], [], [], [74, 75, 0, 0, 0, 0, 0], [], [], [77, 78, 0, 0, 0, 0, 0], [], [], [80, 81, 0, 0, 0, 0, 0], [], [], [83, 84, 0, 0, 0, 0, 0], [], [], [86, 87, 0, 0, 0, 0, 0], [], [], [89, 90, 0, 0, 0, 0, 0], [], [], [92, 93, 0, 0, 0, 0, 0], [], [], [95, 96, 0, 0, 0, 0, 0], [], [], [98, 99, 0, 0, 0, 0, 0], [], [], [101, 102, 0, 0, 0, 0, 0], [], [], [104, 105, 0, 0, 0, 0, 0], [], [], [107, 108, 0, 0, 0, 0, 0], [], [], [110, 111, 0, 0, 0, 0, 0], [], [], [113, 114, 0, 0, 0, 0, 0], [], [], [116, 117, 0, 0, 0, 0, 0], [], [], [119, 120, 0, 0, 0, 0, 0], []]
def TGTT_2 : List (List Nat) := [[], [122, 123, 0, 0, 0, 0, 0], [], [], [125, 126, 0, 0, 0, 0, 0], [], [], [128, 129, 0], [132, 135, 138, 141, 144, 147, 150, 153, 156, 159, 162, 165, 168, 171, 174, 177, 180, 183, 186, 189], [130, 131, 0, 0, 0, 0, 0], [], [], [133, 134, 0, 0, 0, 0, 0], [], [], [136, 137, 0, 0, 0, 0, 0], [], [], [139, 140, 0, 0, 0, 0, 0], [], [], [142, 143, 0, 0, 0, 0, 0], [], [], [145, 146, 0, 0, 0, 0, 0], [], [], [148, 149, 0, 0, 0, 0, 0], [], [], [151, 152, 0, 0, 0, 0, 0], [], [], [154, 155, 0, 0, 0, 0, 0], [], [], [157, 158, 0, 0, 0, 0, 0], [], [], [160, 161, 0, 0, 0, 0, 0], [], [], [163, 164, 0, 0, 0, 0, 0], [], [], [166, 167, 0, 0, 0, 0, 0], [], [], [169, 170, 0, 0, 0, 0, 0], [], [], [172, 173, 0, 0, 0, 0, 0], [], [], [175, 176, 0, 0, 0, 0, 0], [], [], [178, 179, 0, 0, 0, 0, 0], [], []]
def TGTT_3 : List (List Nat) := [[181, 182, 0, 0, 0, 0, 0], [], [], [184, 185, 0, 0, 0, 0, 0], [], [], [187, 188, 0, 0, 0, 0, 0], [], [], [190, 191, 0, 0, 0, 0, 0], [], [], [193, 0, 0], [], [195, 0, 0], []]
def TGTT : List (List Nat) := TGTT_0 ++ (TGTT_1 ++ (TGTT_2 ++ (TGTT_3)))
def lay (k : Nat) : Nat × Nat × Nat := LAYT.getD k (99, 0, 0)
def tgt (k j : Nat) : Nat := (TGTT.getD k []).getD j 0
def FKT : List (List Nat) := [[0, 0, 0, 0, 0], [1, 1, 0], [0, 0, 0], [1, 1, 1, 1, 1, 0], [1, 1, 0], [1, 1], [1, 0, 0, 0, 0, 0], [1, 1, 0], [1, 1, 1, 1, 0, 0, 0], [1, 1, 0, 0, 0, 0, 0], [1, 0, 0], [1, 1, 1, 1, 1, 2, 2, 0, 0, 0, 2, 2, 0]]
def nf (ci : Nat) : Nat := (FKT.getD ci []).length
def fk (ci j : Nat) : Nat := (FKT.getD ci []).getD j 9
abbrev isO (k ci : Nat) : Prop := k < NN ∧ lay k = (0, ci, 0)
abbrev isA (k t n : Nat) : Prop := k < NN ∧ lay k = (t + 1, n, 0)
def arT : List FieldType := [.int, .char, .int, .char, .object "Segmentry$Entry", .object "Segmentry$Item", .object "Segmentry$Rule", .object "Segmentry$Segment"]
set_option maxRecDepth 100000 in
theorem lay_all {P : Nat → Prop} {k : Nat} (hk : k < NN) (h : ∀ i : Fin NN, P i.val) : P k := h ⟨k, hk⟩
set_option maxRecDepth 100000 in
theorem st_X1_0 {k : Nat} (h : isO k 1) : tgt k 0 = k + 1 ∧ isA (k + 1) 0 141 := lay_all (P := fun k => lay k = (0, 1, 0) → (tgt k 0 = k + 1 ∧ isA (k + 1) 0 141)) h.1 (by decide +kernel) h.2
set_option maxRecDepth 100000 in
theorem st_X1_1 {k : Nat} (h : isO k 1) : tgt k 1 = k + 2 ∧ isA (k + 2) 0 141 := lay_all (P := fun k => lay k = (0, 1, 0) → (tgt k 1 = k + 2 ∧ isA (k + 2) 0 141)) h.1 (by decide +kernel) h.2
set_option maxRecDepth 100000 in
theorem st_X3_0 {k : Nat} (h : isO k 3) : tgt k 0 = k - 32 ∧ isO (k - 32) 8 := lay_all (P := fun k => lay k = (0, 3, 0) → (tgt k 0 = k - 32 ∧ isO (k - 32) 8)) h.1 (by decide +kernel) h.2
set_option maxRecDepth 100000 in
theorem st_X3_1 {k : Nat} (h : isO k 3) : tgt k 1 = k + 1 ∧ isA (k + 1) 0 10 := lay_all (P := fun k => lay k = (0, 3, 0) → (tgt k 1 = k + 1 ∧ isA (k + 1) 0 10)) h.1 (by decide +kernel) h.2
set_option maxRecDepth 100000 in
theorem st_X3_2 {k : Nat} (h : isO k 3) : tgt k 2 = k + 2 ∧ isA (k + 2) 0 12 := lay_all (P := fun k => lay k = (0, 3, 0) → (tgt k 2 = k + 2 ∧ isA (k + 2) 0 12)) h.1 (by decide +kernel) h.2
set_option maxRecDepth 100000 in
theorem st_X3_3 {k : Nat} (h : isO k 3) : tgt k 3 = k + 3 ∧ isA (k + 3) 0 10 := lay_all (P := fun k => lay k = (0, 3, 0) → (tgt k 3 = k + 3 ∧ isA (k + 3) 0 10)) h.1 (by decide +kernel) h.2
set_option maxRecDepth 100000 in
theorem st_X3_4 {k : Nat} (h : isO k 3) : tgt k 4 = k + 4 ∧ isA (k + 4) 0 11 := lay_all (P := fun k => lay k = (0, 3, 0) → (tgt k 4 = k + 4 ∧ isA (k + 4) 0 11)) h.1 (by decide +kernel) h.2
set_option maxRecDepth 100000 in
theorem st_X4_0 {k : Nat} (h : isO k 4) : tgt k 0 = k + 1 ∧ isA (k + 1) 7 20 := lay_all (P := fun k => lay k = (0, 4, 0) → (tgt k 0 = k + 1 ∧ isA (k + 1) 7 20)) h.1 (by decide +kernel) h.2
set_option maxRecDepth 100000 in
theorem st_X4_1 {k : Nat} (h : isO k 4) : tgt k 1 = k + 2 ∧ isO (k + 2) 9 := lay_all (P := fun k => lay k = (0, 4, 0) → (tgt k 1 = k + 2 ∧ isO (k + 2) 9)) h.1 (by decide +kernel) h.2
set_option maxRecDepth 100000 in
theorem st_X5_0 {k : Nat} (h : isO k 5) : tgt k 0 = k - 3 ∧ isO (k - 3) 1 := lay_all (P := fun k => lay k = (0, 5, 0) → (tgt k 0 = k - 3 ∧ isO (k - 3) 1)) h.1 (by decide +kernel) h.2
set_option maxRecDepth 100000 in
theorem st_X5_1 {k : Nat} (h : isO k 5) : tgt k 1 = k + 1 ∧ isO (k + 1) 3 := lay_all (P := fun k => lay k = (0, 5, 0) → (tgt k 1 = k + 1 ∧ isO (k + 1) 3)) h.1 (by decide +kernel) h.2
set_option maxRecDepth 100000 in
theorem st_X6_0 {k : Nat} (h : isO k 6) : tgt k 0 = k + 1 ∧ isA (k + 1) 0 5 := lay_all (P := fun k => lay k = (0, 6, 0) → (tgt k 0 = k + 1 ∧ isA (k + 1) 0 5)) h.1 (by decide +kernel) h.2
set_option maxRecDepth 100000 in
theorem st_X7_0 {k : Nat} (h : isO k 7) : tgt k 0 = k + 1 ∧ isA (k + 1) 6 10 := lay_all (P := fun k => lay k = (0, 7, 0) → (tgt k 0 = k + 1 ∧ isA (k + 1) 6 10)) h.1 (by decide +kernel) h.2
set_option maxRecDepth 100000 in
theorem st_X7_1 {k : Nat} (h : isO k 7) : tgt k 1 = k + 2 ∧ isO (k + 2) 6 := lay_all (P := fun k => lay k = (0, 7, 0) → (tgt k 1 = k + 2 ∧ isO (k + 2) 6)) h.1 (by decide +kernel) h.2
set_option maxRecDepth 100000 in
theorem st_X8_0 {k : Nat} (h : isO k 8) : tgt k 0 = k + 1 ∧ isA (k + 1) 5 10 := lay_all (P := fun k => lay k = (0, 8, 0) → (tgt k 0 = k + 1 ∧ isA (k + 1) 5 10)) h.1 (by decide +kernel) h.2
set_option maxRecDepth 100000 in
theorem st_X8_1 {k : Nat} (h : isO k 8) : tgt k 1 = k + 2 ∧ isA (k + 2) 4 11 := lay_all (P := fun k => lay k = (0, 8, 0) → (tgt k 1 = k + 2 ∧ isA (k + 2) 4 11)) h.1 (by decide +kernel) h.2
set_option maxRecDepth 100000 in
theorem st_X8_2 {k : Nat} (h : isO k 8) : tgt k 2 = k + 3 ∧ isO (k + 3) 2 := lay_all (P := fun k => lay k = (0, 8, 0) → (tgt k 2 = k + 3 ∧ isO (k + 3) 2)) h.1 (by decide +kernel) h.2
set_option maxRecDepth 100000 in
theorem st_X8_3 {k : Nat} (h : isO k 8) : tgt k 3 = k + 4 ∧ isO (k + 4) 0 := lay_all (P := fun k => lay k = (0, 8, 0) → (tgt k 3 = k + 4 ∧ isO (k + 4) 0)) h.1 (by decide +kernel) h.2
set_option maxRecDepth 100000 in
theorem st_X9_0 {k : Nat} (h : isO k 9) : tgt k 0 = k + 1 ∧ isA (k + 1) 1 40 := lay_all (P := fun k => lay k = (0, 9, 0) → (tgt k 0 = k + 1 ∧ isA (k + 1) 1 40)) h.1 (by decide +kernel) h.2
set_option maxRecDepth 100000 in
theorem st_X9_1 {k : Nat} (h : isO k 9) : tgt k 1 = k + 2 ∧ isA (k + 2) 0 5 := lay_all (P := fun k => lay k = (0, 9, 0) → (tgt k 1 = k + 2 ∧ isA (k + 2) 0 5)) h.1 (by decide +kernel) h.2
set_option maxRecDepth 100000 in
theorem st_X10_0 {k : Nat} (h : isO k 10) : tgt k 0 = k + 1 ∧ isA (k + 1) 1 300 := lay_all (P := fun k => lay k = (0, 10, 0) → (tgt k 0 = k + 1 ∧ isA (k + 1) 1 300)) h.1 (by decide +kernel) h.2
set_option maxRecDepth 100000 in
theorem st_X11_0 {k : Nat} (h : isO k 11) : tgt k 0 = k + 1 ∧ isO (k + 1) 8 := lay_all (P := fun k => lay k = (0, 11, 0) → (tgt k 0 = k + 1 ∧ isO (k + 1) 8)) h.1 (by decide +kernel) h.2
set_option maxRecDepth 100000 in
theorem st_X11_1 {k : Nat} (h : isO k 11) : tgt k 1 = k + 27 ∧ isO (k + 27) 10 := lay_all (P := fun k => lay k = (0, 11, 0) → (tgt k 1 = k + 27 ∧ isO (k + 27) 10)) h.1 (by decide +kernel) h.2
set_option maxRecDepth 100000 in
theorem st_X11_2 {k : Nat} (h : isO k 11) : tgt k 2 = k + 29 ∧ isO (k + 29) 1 := lay_all (P := fun k => lay k = (0, 11, 0) → (tgt k 2 = k + 29 ∧ isO (k + 29) 1)) h.1 (by decide +kernel) h.2
set_option maxRecDepth 100000 in
theorem st_X11_3 {k : Nat} (h : isO k 11) : tgt k 3 = k + 32 ∧ isO (k + 32) 5 := lay_all (P := fun k => lay k = (0, 11, 0) → (tgt k 3 = k + 32 ∧ isO (k + 32) 5)) h.1 (by decide +kernel) h.2
set_option maxRecDepth 100000 in
theorem st_X11_4 {k : Nat} (h : isO k 11) : tgt k 4 = k + 38 ∧ isO (k + 38) 7 := lay_all (P := fun k => lay k = (0, 11, 0) → (tgt k 4 = k + 38 ∧ isO (k + 38) 7)) h.1 (by decide +kernel) h.2
set_option maxRecDepth 100000 in
theorem el_Entry {k : Nat} (h : isA k 4 11) : ∀ i, i < 11 → tgt k i = k + (13 + 1 * i) ∧ isO (k + (13 + 1 * i)) 0 := fun i hi => lay_all (P := fun k => lay k = (5, 11, 0) → ∀ i : Fin 11, (tgt k i.val = k + (13 + 1 * i.val) ∧ isO (k + (13 + 1 * i.val)) 0)) h.1 (by decide +kernel) h.2 ⟨i, hi⟩
set_option maxRecDepth 100000 in
theorem el_Item {k : Nat} (h : isA k 5 10) : ∀ i, i < 10 → tgt k i = k + (4 + 1 * i) ∧ isO (k + (4 + 1 * i)) 2 := fun i hi => lay_all (P := fun k => lay k = (6, 10, 0) → ∀ i : Fin 10, (tgt k i.val = k + (4 + 1 * i.val) ∧ isO (k + (4 + 1 * i.val)) 2)) h.1 (by decide +kernel) h.2 ⟨i, hi⟩
set_option maxRecDepth 100000 in
theorem el_Rule {k : Nat} (h : isA k 6 10) : ∀ i, i < 10 → tgt k i = k + (3 + 2 * i) ∧ isO (k + (3 + 2 * i)) 6 := fun i hi => lay_all (P := fun k => lay k = (7, 10, 0) → ∀ i : Fin 10, (tgt k i.val = k + (3 + 2 * i.val) ∧ isO (k + (3 + 2 * i.val)) 6)) h.1 (by decide +kernel) h.2 ⟨i, hi⟩
set_option maxRecDepth 100000 in
theorem el_Segment {k : Nat} (h : isA k 7 20) : ∀ i, i < 20 → tgt k i = k + (4 + 3 * i) ∧ isO (k + (4 + 3 * i)) 9 := fun i hi => lay_all (P := fun k => lay k = (8, 20, 0) → ∀ i : Fin 20, (tgt k i.val = k + (4 + 3 * i.val) ∧ isO (k + (4 + 3 * i.val)) 9)) h.1 (by decide +kernel) h.2 ⟨i, hi⟩
