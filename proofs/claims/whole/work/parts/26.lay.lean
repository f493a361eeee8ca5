/-! WHERE THINGS LIE once both makers have run: 222 cells; which of them are of a kind; what is laid for ever -/
def lKt : List Nat := [11, 10, 107, 101, 101, 101, 101, 100, 100, 9, 100, 101, 100, 100, 101, 4, 3, 101, 100, 100, 100, 100, 100, 100, 100, 100, 100, 100, 7, 100, 100, 6, 5, 100, 100, 100, 100, 100, 100, 100, 105, 106, 104, 3, 101, 100, 100, 100, 100, 100, 100, 100, 100, 100, 100, 7, 100, 100, 5, 100, 100, 100, 100, 100, 100, 1, 100, 3, 101, 100, 100, 100, 100, 100, 100, 100, 100, 100, 100, 7, 100, 100, 5, 100, 100, 100, 100, 100, 100, 1, 100, 3, 101, 100, 100, 100, 100, 100, 100, 100, 100, 100, 100, 7, 100, 100, 5, 100, 100, 100, 100, 100, 100, 1, 100, 3, 101, 100, 100, 100, 100, 100, 100, 100, 100, 100, 100, 7, 100, 100, 5, 100, 100, 100, 100, 100, 100, 1, 100, 2, 7, 100, 100, 100, 100, 100, 100, 102, 100, 100, 100, 100, 2, 7, 100, 100, 100, 100, 100, 100, 102, 100, 100, 100, 100, 2, 7, 100, 100, 100, 100, 100, 100, 102, 100, 100, 100, 100, 0, 100, 100, 102, 100, 100, 0, 100, 100, 102, 100, 100, 8, 100, 102, 1, 100, 1, 100, 12, 100, 101, 100, 100, 101, 103, 103, 100, 100, 102, 100, 100, 100, 100, 102, 100, 100, 100, 100, 102, 102, 100, 100, 100]
def lNt : List Nat := [0, 0, 4, 60, 60, 60, 60, 4, 4, 0, 900, 23, 901, 901, 901, 0, 0, 12, 12, 12, 12, 12, 12, 12, 8, 12, 12, 12, 0, 9, 9, 0, 0, 30, 30, 30, 30, 3, 3, 3, 4, 4, 4, 0, 12, 12, 12, 12, 12, 12, 12, 8, 12, 12, 12, 0, 9, 9, 0, 30, 30, 30, 30, 3, 3, 0, 12, 0, 12, 12, 12, 12, 12, 12, 12, 8, 12, 12, 12, 0, 9, 9, 0, 30, 30, 30, 30, 3, 3, 0, 12, 0, 12, 12, 12, 12, 12, 12, 12, 8, 12, 12, 12, 0, 9, 9, 0, 30, 30, 30, 30, 3, 3, 0, 12, 0, 12, 12, 12, 12, 12, 12, 12, 8, 12, 12, 12, 0, 9, 9, 0, 30, 30, 30, 30, 3, 3, 0, 12, 0, 0, 9, 9, 0, 0, 0, 0, 0, 60, 60, 60, 0, 0, 0, 9, 9, 0, 0, 0, 0, 0, 60, 60, 60, 0, 0, 0, 9, 9, 0, 0, 0, 0, 0, 60, 60, 60, 0, 0, 0, 0, 0, 64, 64, 0, 0, 0, 0, 64, 64, 0, 0, 0, 0, 12, 0, 12, 0, 2200, 60, 4, 4, 240, 900, 900, 3, 10, 4096, 4096, 4096, 4096, 4096, 6561, 6561, 8, 12, 12, 4096, 4096, 80, 16, 8]
def lPt : List (Nat × Nat × Nat) := [(0, 3, 1), (0, 4, 9), (0, 5, 15), (0, 6, 31), (0, 7, 40), (0, 8, 41), (0, 9, 42), (0, 11, 139), (0, 12, 152), (0, 13, 165), (0, 14, 178), (0, 15, 184), (0, 16, 190), (0, 17, 193), (0, 18, 195), (1, 0, 2), (1, 1, 7), (1, 2, 8), (2, 0, 3), (2, 1, 4), (2, 2, 5), (2, 3, 6), (9, 0, 10), (9, 2, 11), (9, 3, 12), (9, 4, 13), (9, 5, 14), (15, 0, 9), (15, 1, 16), (16, 5, 17), (16, 6, 18), (16, 7, 19), (16, 8, 20), (16, 9, 21), (16, 10, 22), (16, 11, 23), (16, 12, 24), (16, 13, 25), (16, 14, 26), (16, 15, 27), (16, 16, 28), (28, 0, 29), (28, 1, 30), (31, 0, 9), (31, 1, 32), (31, 2, 39), (32, 2, 33), (32, 3, 34), (32, 4, 35), (32, 5, 36), (32, 6, 37), (32, 7, 38), (40, 0, 43), (40, 1, 67), (40, 2, 91), (40, 3, 115), (41, 0, 58), (41, 1, 82), (41, 2, 106), (41, 3, 130), (42, 0, 65), (42, 1, 89), (42, 2, 113), (42, 3, 137), (43, 5, 44), (43, 6, 45), (43, 7, 46), (43, 8, 47), (43, 9, 48), (43, 10, 49), (43, 11, 50), (43, 12, 51), (43, 13, 52), (43, 14, 53), (43, 15, 54), (43, 16, 55), (55, 0, 56), (55, 1, 57), (58, 2, 59), (58, 3, 60), (58, 4, 61), (58, 5, 62), (58, 6, 63), (58, 7, 64), (65, 2, 66), (67, 5, 68), (67, 6, 69), (67, 7, 70), (67, 8, 71), (67, 9, 72), (67, 10, 73), (67, 11, 74), (67, 12, 75), (67, 13, 76), (67, 14, 77), (67, 15, 78), (67, 16, 79), (79, 0, 80), (79, 1, 81), (82, 2, 83), (82, 3, 84), (82, 4, 85), (82, 5, 86), (82, 6, 87), (82, 7, 88), (89, 2, 90), (91, 5, 92), (91, 6, 93), (91, 7, 94), (91, 8, 95), (91, 9, 96), (91, 10, 97), (91, 11, 98), (91, 12, 99), (91, 13, 100), (91, 14, 101), (91, 15, 102), (91, 16, 103), (103, 0, 104), (103, 1, 105), (106, 2, 107), (106, 3, 108), (106, 4, 109), (106, 5, 110), (106, 6, 111), (106, 7, 112), (113, 2, 114), (115, 5, 116), (115, 6, 117), (115, 7, 118), (115, 8, 119), (115, 9, 120), (115, 10, 121), (115, 11, 122), (115, 12, 123), (115, 13, 124), (115, 14, 125), (115, 15, 126), (115, 16, 127), (127, 0, 128), (127, 1, 129), (130, 2, 131), (130, 3, 132), (130, 4, 133), (130, 5, 134), (130, 6, 135), (130, 7, 136), (137, 2, 138), (139, 1, 140), (139, 12, 148), (139, 13, 149), (139, 14, 150), (140, 0, 141), (140, 1, 142), (152, 1, 153), (152, 12, 161), (152, 13, 162), (152, 14, 163), (153, 0, 154), (153, 1, 155), (165, 1, 166), (165, 12, 174), (165, 13, 175), (165, 14, 176), (166, 0, 167), (166, 1, 168), (178, 8, 182), (178, 9, 183), (184, 8, 188), (184, 9, 189), (193, 2, 194), (195, 2, 196), (197, 0, 198), (197, 1, 199), (197, 5, 200), (197, 6, 201), (197, 7, 202), (197, 8, 203), (197, 9, 204), (197, 20, 205), (197, 23, 206), (197, 24, 207), (197, 26, 208), (197, 27, 209), (197, 28, 210), (197, 29, 211), (197, 31, 212), (197, 32, 213), (197, 34, 214), (197, 36, 215), (197, 37, 216), (197, 38, 217), (197, 39, 218), (197, 49, 219), (197, 50, 220), (197, 51, 221)]
def lPb (a f : Nat) : Bool := lPt.any (fun q => q.1 == a && q.2.1 == f)
def Lay (h : TH) : Prop := (∀ a, a < 222 → h.K a = lKt.getD a 999 ∧ h.N a = lNt.getD a 0) ∧ (∀ a f b, (a, f, b) ∈ lPt → h.P a f = some b) ∧ 222 ≤ h.n ∧ h.K 1000000 = 108 ∧ h.N 1000000 ≤ 384
def is0 (t : Nat) : Prop := t = 178 ∨ t = 184
def is1 (t : Nat) : Prop := t = 65 ∨ t = 89 ∨ t = 113 ∨ t = 137 ∨ t = 193 ∨ t = 195
def is2 (t : Nat) : Prop := t = 139 ∨ t = 152 ∨ t = 165
def is3 (t : Nat) : Prop := t = 16 ∨ t = 43 ∨ t = 67 ∨ t = 91 ∨ t = 115
def is4 (t : Nat) : Prop := t = 15
def is5 (t : Nat) : Prop := t = 32 ∨ t = 58 ∨ t = 82 ∨ t = 106 ∨ t = 130
def is6 (t : Nat) : Prop := t = 31
def is7 (t : Nat) : Prop := t = 28 ∨ t = 55 ∨ t = 79 ∨ t = 103 ∨ t = 127 ∨ t = 140 ∨ t = 153 ∨ t = 166
def is8 (t : Nat) : Prop := t = 190
def is9 (t : Nat) : Prop := t = 9
def is10 (t : Nat) : Prop := t = 1
def is11 (t : Nat) : Prop := t = 0
def is12 (t : Nat) : Prop := t = 197
section LAYS
variable {h : TH} {t : Nat}
theorem oK0 (hL : Lay h) (ht : is0 t) : h.K t = 0 := by
  rcases ht with rfl | rfl <;> exact (hL.1 _ (by decide)).1
theorem oP0_8 (hL : Lay h) (ht : is0 t) : h.P t 8 = some (t + 4) := by
  rcases ht with rfl | rfl <;> exact hL.2.1 _ _ _ (by decide)
theorem aK0_8 (hL : Lay h) (ht : is0 t) : h.K (t + 4) = 100 := by
  rcases ht with rfl | rfl <;> exact (hL.1 _ (by decide)).1
theorem aN0_8 (hL : Lay h) (ht : is0 t) : h.N (t + 4) = 64 := by
  rcases ht with rfl | rfl <;> exact (hL.1 _ (by decide)).2
theorem oP0_9 (hL : Lay h) (ht : is0 t) : h.P t 9 = some (t + 5) := by
  rcases ht with rfl | rfl <;> exact hL.2.1 _ _ _ (by decide)
theorem aK0_9 (hL : Lay h) (ht : is0 t) : h.K (t + 5) = 100 := by
  rcases ht with rfl | rfl <;> exact (hL.1 _ (by decide)).1
theorem aN0_9 (hL : Lay h) (ht : is0 t) : h.N (t + 5) = 64 := by
  rcases ht with rfl | rfl <;> exact (hL.1 _ (by decide)).2
theorem oK1 (hL : Lay h) (ht : is1 t) : h.K t = 1 := by
  rcases ht with rfl | rfl | rfl | rfl | rfl | rfl <;> exact (hL.1 _ (by decide)).1
theorem oP1_2 (hL : Lay h) (ht : is1 t) : h.P t 2 = some (t + 1) := by
  rcases ht with rfl | rfl | rfl | rfl | rfl | rfl <;> exact hL.2.1 _ _ _ (by decide)
theorem aK1_2 (hL : Lay h) (ht : is1 t) : h.K (t + 1) = 100 := by
  rcases ht with rfl | rfl | rfl | rfl | rfl | rfl <;> exact (hL.1 _ (by decide)).1
theorem aN1_2 (hL : Lay h) (ht : is1 t) : h.N (t + 1) = 12 := by
  rcases ht with rfl | rfl | rfl | rfl | rfl | rfl <;> exact (hL.1 _ (by decide)).2
theorem oK2 (hL : Lay h) (ht : is2 t) : h.K t = 2 := by
  rcases ht with rfl | rfl | rfl <;> exact (hL.1 _ (by decide)).1
theorem oP2_1 (hL : Lay h) (ht : is2 t) : h.P t 1 = some (t + 1) := by
  rcases ht with rfl | rfl | rfl <;> exact hL.2.1 _ _ _ (by decide)
theorem is_2_1 (ht : is2 t) : is7 (t + 1) := by
  unfold is7
  rcases ht with rfl | rfl | rfl <;> decide
theorem oP2_12 (hL : Lay h) (ht : is2 t) : h.P t 12 = some (t + 9) := by
  rcases ht with rfl | rfl | rfl <;> exact hL.2.1 _ _ _ (by decide)
theorem aK2_12 (hL : Lay h) (ht : is2 t) : h.K (t + 9) = 100 := by
  rcases ht with rfl | rfl | rfl <;> exact (hL.1 _ (by decide)).1
theorem aN2_12 (hL : Lay h) (ht : is2 t) : h.N (t + 9) = 60 := by
  rcases ht with rfl | rfl | rfl <;> exact (hL.1 _ (by decide)).2
theorem oP2_13 (hL : Lay h) (ht : is2 t) : h.P t 13 = some (t + 10) := by
  rcases ht with rfl | rfl | rfl <;> exact hL.2.1 _ _ _ (by decide)
theorem aK2_13 (hL : Lay h) (ht : is2 t) : h.K (t + 10) = 100 := by
  rcases ht with rfl | rfl | rfl <;> exact (hL.1 _ (by decide)).1
theorem aN2_13 (hL : Lay h) (ht : is2 t) : h.N (t + 10) = 60 := by
  rcases ht with rfl | rfl | rfl <;> exact (hL.1 _ (by decide)).2
theorem oP2_14 (hL : Lay h) (ht : is2 t) : h.P t 14 = some (t + 11) := by
  rcases ht with rfl | rfl | rfl <;> exact hL.2.1 _ _ _ (by decide)
theorem aK2_14 (hL : Lay h) (ht : is2 t) : h.K (t + 11) = 100 := by
  rcases ht with rfl | rfl | rfl <;> exact (hL.1 _ (by decide)).1
theorem aN2_14 (hL : Lay h) (ht : is2 t) : h.N (t + 11) = 60 := by
  rcases ht with rfl | rfl | rfl <;> exact (hL.1 _ (by decide)).2
theorem oK3 (hL : Lay h) (ht : is3 t) : h.K t = 3 := by
  rcases ht with rfl | rfl | rfl | rfl | rfl <;> exact (hL.1 _ (by decide)).1
theorem oP3_5 (hL : Lay h) (ht : is3 t) : h.P t 5 = some (t + 1) := by
  rcases ht with rfl | rfl | rfl | rfl | rfl <;> exact hL.2.1 _ _ _ (by decide)
theorem aK3_5 (hL : Lay h) (ht : is3 t) : h.K (t + 1) = 101 := by
  rcases ht with rfl | rfl | rfl | rfl | rfl <;> exact (hL.1 _ (by decide)).1
theorem aN3_5 (hL : Lay h) (ht : is3 t) : h.N (t + 1) = 12 := by
  rcases ht with rfl | rfl | rfl | rfl | rfl <;> exact (hL.1 _ (by decide)).2
theorem oP3_6 (hL : Lay h) (ht : is3 t) : h.P t 6 = some (t + 2) := by
  rcases ht with rfl | rfl | rfl | rfl | rfl <;> exact hL.2.1 _ _ _ (by decide)
theorem aK3_6 (hL : Lay h) (ht : is3 t) : h.K (t + 2) = 100 := by
  rcases ht with rfl | rfl | rfl | rfl | rfl <;> exact (hL.1 _ (by decide)).1
theorem aN3_6 (hL : Lay h) (ht : is3 t) : h.N (t + 2) = 12 := by
  rcases ht with rfl | rfl | rfl | rfl | rfl <;> exact (hL.1 _ (by decide)).2
theorem oP3_7 (hL : Lay h) (ht : is3 t) : h.P t 7 = some (t + 3) := by
  rcases ht with rfl | rfl | rfl | rfl | rfl <;> exact hL.2.1 _ _ _ (by decide)
theorem aK3_7 (hL : Lay h) (ht : is3 t) : h.K (t + 3) = 100 := by
  rcases ht with rfl | rfl | rfl | rfl | rfl <;> exact (hL.1 _ (by decide)).1
theorem aN3_7 (hL : Lay h) (ht : is3 t) : h.N (t + 3) = 12 := by
  rcases ht with rfl | rfl | rfl | rfl | rfl <;> exact (hL.1 _ (by decide)).2
theorem oP3_8 (hL : Lay h) (ht : is3 t) : h.P t 8 = some (t + 4) := by
  rcases ht with rfl | rfl | rfl | rfl | rfl <;> exact hL.2.1 _ _ _ (by decide)
theorem aK3_8 (hL : Lay h) (ht : is3 t) : h.K (t + 4) = 100 := by
  rcases ht with rfl | rfl | rfl | rfl | rfl <;> exact (hL.1 _ (by decide)).1
theorem aN3_8 (hL : Lay h) (ht : is3 t) : h.N (t + 4) = 12 := by
  rcases ht with rfl | rfl | rfl | rfl | rfl <;> exact (hL.1 _ (by decide)).2
theorem oP3_9 (hL : Lay h) (ht : is3 t) : h.P t 9 = some (t + 5) := by
  rcases ht with rfl | rfl | rfl | rfl | rfl <;> exact hL.2.1 _ _ _ (by decide)
theorem aK3_9 (hL : Lay h) (ht : is3 t) : h.K (t + 5) = 100 := by
  rcases ht with rfl | rfl | rfl | rfl | rfl <;> exact (hL.1 _ (by decide)).1
theorem aN3_9 (hL : Lay h) (ht : is3 t) : h.N (t + 5) = 12 := by
  rcases ht with rfl | rfl | rfl | rfl | rfl <;> exact (hL.1 _ (by decide)).2
theorem oP3_10 (hL : Lay h) (ht : is3 t) : h.P t 10 = some (t + 6) := by
  rcases ht with rfl | rfl | rfl | rfl | rfl <;> exact hL.2.1 _ _ _ (by decide)
theorem aK3_10 (hL : Lay h) (ht : is3 t) : h.K (t + 6) = 100 := by
  rcases ht with rfl | rfl | rfl | rfl | rfl <;> exact (hL.1 _ (by decide)).1
theorem aN3_10 (hL : Lay h) (ht : is3 t) : h.N (t + 6) = 12 := by
  rcases ht with rfl | rfl | rfl | rfl | rfl <;> exact (hL.1 _ (by decide)).2
theorem oP3_11 (hL : Lay h) (ht : is3 t) : h.P t 11 = some (t + 7) := by
  rcases ht with rfl | rfl | rfl | rfl | rfl <;> exact hL.2.1 _ _ _ (by decide)
theorem aK3_11 (hL : Lay h) (ht : is3 t) : h.K (t + 7) = 100 := by
  rcases ht with rfl | rfl | rfl | rfl | rfl <;> exact (hL.1 _ (by decide)).1
theorem aN3_11 (hL : Lay h) (ht : is3 t) : h.N (t + 7) = 12 := by
  rcases ht with rfl | rfl | rfl | rfl | rfl <;> exact (hL.1 _ (by decide)).2
theorem oP3_12 (hL : Lay h) (ht : is3 t) : h.P t 12 = some (t + 8) := by
  rcases ht with rfl | rfl | rfl | rfl | rfl <;> exact hL.2.1 _ _ _ (by decide)
theorem aK3_12 (hL : Lay h) (ht : is3 t) : h.K (t + 8) = 100 := by
  rcases ht with rfl | rfl | rfl | rfl | rfl <;> exact (hL.1 _ (by decide)).1
theorem aN3_12 (hL : Lay h) (ht : is3 t) : h.N (t + 8) = 8 := by
  rcases ht with rfl | rfl | rfl | rfl | rfl <;> exact (hL.1 _ (by decide)).2
theorem oP3_13 (hL : Lay h) (ht : is3 t) : h.P t 13 = some (t + 9) := by
  rcases ht with rfl | rfl | rfl | rfl | rfl <;> exact hL.2.1 _ _ _ (by decide)
theorem aK3_13 (hL : Lay h) (ht : is3 t) : h.K (t + 9) = 100 := by
  rcases ht with rfl | rfl | rfl | rfl | rfl <;> exact (hL.1 _ (by decide)).1
theorem aN3_13 (hL : Lay h) (ht : is3 t) : h.N (t + 9) = 12 := by
  rcases ht with rfl | rfl | rfl | rfl | rfl <;> exact (hL.1 _ (by decide)).2
theorem oP3_14 (hL : Lay h) (ht : is3 t) : h.P t 14 = some (t + 10) := by
  rcases ht with rfl | rfl | rfl | rfl | rfl <;> exact hL.2.1 _ _ _ (by decide)
theorem aK3_14 (hL : Lay h) (ht : is3 t) : h.K (t + 10) = 100 := by
  rcases ht with rfl | rfl | rfl | rfl | rfl <;> exact (hL.1 _ (by decide)).1
theorem aN3_14 (hL : Lay h) (ht : is3 t) : h.N (t + 10) = 12 := by
  rcases ht with rfl | rfl | rfl | rfl | rfl <;> exact (hL.1 _ (by decide)).2
theorem oP3_15 (hL : Lay h) (ht : is3 t) : h.P t 15 = some (t + 11) := by
  rcases ht with rfl | rfl | rfl | rfl | rfl <;> exact hL.2.1 _ _ _ (by decide)
theorem aK3_15 (hL : Lay h) (ht : is3 t) : h.K (t + 11) = 100 := by
  rcases ht with rfl | rfl | rfl | rfl | rfl <;> exact (hL.1 _ (by decide)).1
theorem aN3_15 (hL : Lay h) (ht : is3 t) : h.N (t + 11) = 12 := by
  rcases ht with rfl | rfl | rfl | rfl | rfl <;> exact (hL.1 _ (by decide)).2
theorem oP3_16 (hL : Lay h) (ht : is3 t) : h.P t 16 = some (t + 12) := by
  rcases ht with rfl | rfl | rfl | rfl | rfl <;> exact hL.2.1 _ _ _ (by decide)
theorem is_3_16 (ht : is3 t) : is7 (t + 12) := by
  unfold is7
  rcases ht with rfl | rfl | rfl | rfl | rfl <;> decide
theorem oK4 (hL : Lay h) (ht : is4 t) : h.K t = 4 := by
  cases ht; exact (hL.1 _ (by decide)).1
theorem oP4_0 (hL : Lay h) : h.P 15 0 = some 9 := by
  exact hL.2.1 _ _ _ (by decide)
theorem is_4_0 : is9 9 := by unfold is9; decide
theorem oP4_1 (hL : Lay h) : h.P 15 1 = some 16 := by
  exact hL.2.1 _ _ _ (by decide)
theorem is_4_1 : is3 16 := by unfold is3; decide
theorem oK5 (hL : Lay h) (ht : is5 t) : h.K t = 5 := by
  rcases ht with rfl | rfl | rfl | rfl | rfl <;> exact (hL.1 _ (by decide)).1
theorem oP5_2 (hL : Lay h) (ht : is5 t) : h.P t 2 = some (t + 1) := by
  rcases ht with rfl | rfl | rfl | rfl | rfl <;> exact hL.2.1 _ _ _ (by decide)
theorem aK5_2 (hL : Lay h) (ht : is5 t) : h.K (t + 1) = 100 := by
  rcases ht with rfl | rfl | rfl | rfl | rfl <;> exact (hL.1 _ (by decide)).1
theorem aN5_2 (hL : Lay h) (ht : is5 t) : h.N (t + 1) = 30 := by
  rcases ht with rfl | rfl | rfl | rfl | rfl <;> exact (hL.1 _ (by decide)).2
theorem oP5_3 (hL : Lay h) (ht : is5 t) : h.P t 3 = some (t + 2) := by
  rcases ht with rfl | rfl | rfl | rfl | rfl <;> exact hL.2.1 _ _ _ (by decide)
theorem aK5_3 (hL : Lay h) (ht : is5 t) : h.K (t + 2) = 100 := by
  rcases ht with rfl | rfl | rfl | rfl | rfl <;> exact (hL.1 _ (by decide)).1
theorem aN5_3 (hL : Lay h) (ht : is5 t) : h.N (t + 2) = 30 := by
  rcases ht with rfl | rfl | rfl | rfl | rfl <;> exact (hL.1 _ (by decide)).2
theorem oP5_4 (hL : Lay h) (ht : is5 t) : h.P t 4 = some (t + 3) := by
  rcases ht with rfl | rfl | rfl | rfl | rfl <;> exact hL.2.1 _ _ _ (by decide)
theorem aK5_4 (hL : Lay h) (ht : is5 t) : h.K (t + 3) = 100 := by
  rcases ht with rfl | rfl | rfl | rfl | rfl <;> exact (hL.1 _ (by decide)).1
theorem aN5_4 (hL : Lay h) (ht : is5 t) : h.N (t + 3) = 30 := by
  rcases ht with rfl | rfl | rfl | rfl | rfl <;> exact (hL.1 _ (by decide)).2
theorem oP5_5 (hL : Lay h) (ht : is5 t) : h.P t 5 = some (t + 4) := by
  rcases ht with rfl | rfl | rfl | rfl | rfl <;> exact hL.2.1 _ _ _ (by decide)
theorem aK5_5 (hL : Lay h) (ht : is5 t) : h.K (t + 4) = 100 := by
  rcases ht with rfl | rfl | rfl | rfl | rfl <;> exact (hL.1 _ (by decide)).1
theorem aN5_5 (hL : Lay h) (ht : is5 t) : h.N (t + 4) = 30 := by
  rcases ht with rfl | rfl | rfl | rfl | rfl <;> exact (hL.1 _ (by decide)).2
theorem oP5_6 (hL : Lay h) (ht : is5 t) : h.P t 6 = some (t + 5) := by
  rcases ht with rfl | rfl | rfl | rfl | rfl <;> exact hL.2.1 _ _ _ (by decide)
theorem aK5_6 (hL : Lay h) (ht : is5 t) : h.K (t + 5) = 100 := by
  rcases ht with rfl | rfl | rfl | rfl | rfl <;> exact (hL.1 _ (by decide)).1
theorem aN5_6 (hL : Lay h) (ht : is5 t) : h.N (t + 5) = 3 := by
  rcases ht with rfl | rfl | rfl | rfl | rfl <;> exact (hL.1 _ (by decide)).2
theorem oP5_7 (hL : Lay h) (ht : is5 t) : h.P t 7 = some (t + 6) := by
  rcases ht with rfl | rfl | rfl | rfl | rfl <;> exact hL.2.1 _ _ _ (by decide)
theorem aK5_7 (hL : Lay h) (ht : is5 t) : h.K (t + 6) = 100 := by
  rcases ht with rfl | rfl | rfl | rfl | rfl <;> exact (hL.1 _ (by decide)).1
theorem aN5_7 (hL : Lay h) (ht : is5 t) : h.N (t + 6) = 3 := by
  rcases ht with rfl | rfl | rfl | rfl | rfl <;> exact (hL.1 _ (by decide)).2
theorem oK6 (hL : Lay h) (ht : is6 t) : h.K t = 6 := by
  cases ht; exact (hL.1 _ (by decide)).1
theorem oP6_0 (hL : Lay h) : h.P 31 0 = some 9 := by
  exact hL.2.1 _ _ _ (by decide)
theorem is_6_0 : is9 9 := by unfold is9; decide
theorem oP6_1 (hL : Lay h) : h.P 31 1 = some 32 := by
  exact hL.2.1 _ _ _ (by decide)
theorem is_6_1 : is5 32 := by unfold is5; decide
theorem oP6_2 (hL : Lay h) : h.P 31 2 = some 39 := by
  exact hL.2.1 _ _ _ (by decide)
theorem aK6_2 (hL : Lay h) : h.K 39 = 100 := by
  exact (hL.1 _ (by decide)).1
theorem aN6_2 (hL : Lay h) : h.N 39 = 3 := by
  exact (hL.1 _ (by decide)).2
theorem oK7 (hL : Lay h) (ht : is7 t) : h.K t = 7 := by
  rcases ht with rfl | rfl | rfl | rfl | rfl | rfl | rfl | rfl <;> exact (hL.1 _ (by decide)).1
theorem oP7_0 (hL : Lay h) (ht : is7 t) : h.P t 0 = some (t + 1) := by
  rcases ht with rfl | rfl | rfl | rfl | rfl | rfl | rfl | rfl <;> exact hL.2.1 _ _ _ (by decide)
theorem aK7_0 (hL : Lay h) (ht : is7 t) : h.K (t + 1) = 100 := by
  rcases ht with rfl | rfl | rfl | rfl | rfl | rfl | rfl | rfl <;> exact (hL.1 _ (by decide)).1
theorem aN7_0 (hL : Lay h) (ht : is7 t) : h.N (t + 1) = 9 := by
  rcases ht with rfl | rfl | rfl | rfl | rfl | rfl | rfl | rfl <;> exact (hL.1 _ (by decide)).2
theorem oP7_1 (hL : Lay h) (ht : is7 t) : h.P t 1 = some (t + 2) := by
  rcases ht with rfl | rfl | rfl | rfl | rfl | rfl | rfl | rfl <;> exact hL.2.1 _ _ _ (by decide)
theorem aK7_1 (hL : Lay h) (ht : is7 t) : h.K (t + 2) = 100 := by
  rcases ht with rfl | rfl | rfl | rfl | rfl | rfl | rfl | rfl <;> exact (hL.1 _ (by decide)).1
theorem aN7_1 (hL : Lay h) (ht : is7 t) : h.N (t + 2) = 9 := by
  rcases ht with rfl | rfl | rfl | rfl | rfl | rfl | rfl | rfl <;> exact (hL.1 _ (by decide)).2
theorem oK8 (hL : Lay h) (ht : is8 t) : h.K t = 8 := by
  cases ht; exact (hL.1 _ (by decide)).1
theorem oK9 (hL : Lay h) (ht : is9 t) : h.K t = 9 := by
  cases ht; exact (hL.1 _ (by decide)).1
theorem oP9_0 (hL : Lay h) : h.P 9 0 = some 10 := by
  exact hL.2.1 _ _ _ (by decide)
theorem aK9_0 (hL : Lay h) : h.K 10 = 100 := by
  exact (hL.1 _ (by decide)).1
theorem aN9_0 (hL : Lay h) : h.N 10 = 900 := by
  exact (hL.1 _ (by decide)).2
theorem oP9_2 (hL : Lay h) : h.P 9 2 = some 11 := by
  exact hL.2.1 _ _ _ (by decide)
theorem aK9_2 (hL : Lay h) : h.K 11 = 101 := by
  exact (hL.1 _ (by decide)).1
theorem aN9_2 (hL : Lay h) : h.N 11 = 23 := by
  exact (hL.1 _ (by decide)).2
theorem oP9_3 (hL : Lay h) : h.P 9 3 = some 12 := by
  exact hL.2.1 _ _ _ (by decide)
theorem aK9_3 (hL : Lay h) : h.K 12 = 100 := by
  exact (hL.1 _ (by decide)).1
theorem aN9_3 (hL : Lay h) : h.N 12 = 901 := by
  exact (hL.1 _ (by decide)).2
theorem oP9_4 (hL : Lay h) : h.P 9 4 = some 13 := by
  exact hL.2.1 _ _ _ (by decide)
theorem aK9_4 (hL : Lay h) : h.K 13 = 100 := by
  exact (hL.1 _ (by decide)).1
theorem aN9_4 (hL : Lay h) : h.N 13 = 901 := by
  exact (hL.1 _ (by decide)).2
theorem oP9_5 (hL : Lay h) : h.P 9 5 = some 14 := by
  exact hL.2.1 _ _ _ (by decide)
theorem aK9_5 (hL : Lay h) : h.K 14 = 101 := by
  exact (hL.1 _ (by decide)).1
theorem aN9_5 (hL : Lay h) : h.N 14 = 901 := by
  exact (hL.1 _ (by decide)).2
theorem oK10 (hL : Lay h) (ht : is10 t) : h.K t = 10 := by
  cases ht; exact (hL.1 _ (by decide)).1
theorem oP10_0 (hL : Lay h) : h.P 1 0 = some 2 := by
  exact hL.2.1 _ _ _ (by decide)
theorem aK10_0 (hL : Lay h) : h.K 2 = 107 := by
  exact (hL.1 _ (by decide)).1
theorem aN10_0 (hL : Lay h) : h.N 2 = 4 := by
  exact (hL.1 _ (by decide)).2
theorem oP10_1 (hL : Lay h) : h.P 1 1 = some 7 := by
  exact hL.2.1 _ _ _ (by decide)
theorem aK10_1 (hL : Lay h) : h.K 7 = 100 := by
  exact (hL.1 _ (by decide)).1
theorem aN10_1 (hL : Lay h) : h.N 7 = 4 := by
  exact (hL.1 _ (by decide)).2
theorem oP10_2 (hL : Lay h) : h.P 1 2 = some 8 := by
  exact hL.2.1 _ _ _ (by decide)
theorem aK10_2 (hL : Lay h) : h.K 8 = 100 := by
  exact (hL.1 _ (by decide)).1
theorem aN10_2 (hL : Lay h) : h.N 8 = 4 := by
  exact (hL.1 _ (by decide)).2
theorem oK11 (hL : Lay h) (ht : is11 t) : h.K t = 11 := by
  cases ht; exact (hL.1 _ (by decide)).1
theorem oP11_3 (hL : Lay h) : h.P 0 3 = some 1 := by
  exact hL.2.1 _ _ _ (by decide)
theorem is_11_3 : is10 1 := by unfold is10; decide
theorem oP11_4 (hL : Lay h) : h.P 0 4 = some 9 := by
  exact hL.2.1 _ _ _ (by decide)
theorem is_11_4 : is9 9 := by unfold is9; decide
theorem oP11_5 (hL : Lay h) : h.P 0 5 = some 15 := by
  exact hL.2.1 _ _ _ (by decide)
theorem is_11_5 : is4 15 := by unfold is4; decide
theorem oP11_6 (hL : Lay h) : h.P 0 6 = some 31 := by
  exact hL.2.1 _ _ _ (by decide)
theorem is_11_6 : is6 31 := by unfold is6; decide
theorem oP11_7 (hL : Lay h) : h.P 0 7 = some 40 := by
  exact hL.2.1 _ _ _ (by decide)
theorem aK11_7 (hL : Lay h) : h.K 40 = 105 := by
  exact (hL.1 _ (by decide)).1
theorem aN11_7 (hL : Lay h) : h.N 40 = 4 := by
  exact (hL.1 _ (by decide)).2
theorem oP11_8 (hL : Lay h) : h.P 0 8 = some 41 := by
  exact hL.2.1 _ _ _ (by decide)
theorem aK11_8 (hL : Lay h) : h.K 41 = 106 := by
  exact (hL.1 _ (by decide)).1
theorem aN11_8 (hL : Lay h) : h.N 41 = 4 := by
  exact (hL.1 _ (by decide)).2
theorem oP11_9 (hL : Lay h) : h.P 0 9 = some 42 := by
  exact hL.2.1 _ _ _ (by decide)
theorem aK11_9 (hL : Lay h) : h.K 42 = 104 := by
  exact (hL.1 _ (by decide)).1
theorem aN11_9 (hL : Lay h) : h.N 42 = 4 := by
  exact (hL.1 _ (by decide)).2
theorem oP11_11 (hL : Lay h) : h.P 0 11 = some 139 := by
  exact hL.2.1 _ _ _ (by decide)
theorem is_11_11 : is2 139 := by unfold is2; decide
theorem oP11_12 (hL : Lay h) : h.P 0 12 = some 152 := by
  exact hL.2.1 _ _ _ (by decide)
theorem is_11_12 : is2 152 := by unfold is2; decide
theorem oP11_13 (hL : Lay h) : h.P 0 13 = some 165 := by
  exact hL.2.1 _ _ _ (by decide)
theorem is_11_13 : is2 165 := by unfold is2; decide
theorem oP11_14 (hL : Lay h) : h.P 0 14 = some 178 := by
  exact hL.2.1 _ _ _ (by decide)
theorem is_11_14 : is0 178 := by unfold is0; decide
theorem oP11_15 (hL : Lay h) : h.P 0 15 = some 184 := by
  exact hL.2.1 _ _ _ (by decide)
theorem is_11_15 : is0 184 := by unfold is0; decide
theorem oP11_16 (hL : Lay h) : h.P 0 16 = some 190 := by
  exact hL.2.1 _ _ _ (by decide)
theorem is_11_16 : is8 190 := by unfold is8; decide
theorem oP11_17 (hL : Lay h) : h.P 0 17 = some 193 := by
  exact hL.2.1 _ _ _ (by decide)
theorem is_11_17 : is1 193 := by unfold is1; decide
theorem oP11_18 (hL : Lay h) : h.P 0 18 = some 195 := by
  exact hL.2.1 _ _ _ (by decide)
theorem is_11_18 : is1 195 := by unfold is1; decide
theorem oK12 (hL : Lay h) (ht : is12 t) : h.K t = 12 := by
  cases ht; exact (hL.1 _ (by decide)).1
theorem oP12_0 (hL : Lay h) : h.P 197 0 = some 198 := by
  exact hL.2.1 _ _ _ (by decide)
theorem aK12_0 (hL : Lay h) : h.K 198 = 100 := by
  exact (hL.1 _ (by decide)).1
theorem aN12_0 (hL : Lay h) : h.N 198 = 2200 := by
  exact (hL.1 _ (by decide)).2
theorem oP12_1 (hL : Lay h) : h.P 197 1 = some 199 := by
  exact hL.2.1 _ _ _ (by decide)
theorem aK12_1 (hL : Lay h) : h.K 199 = 101 := by
  exact (hL.1 _ (by decide)).1
theorem aN12_1 (hL : Lay h) : h.N 199 = 60 := by
  exact (hL.1 _ (by decide)).2
theorem oP12_5 (hL : Lay h) : h.P 197 5 = some 200 := by
  exact hL.2.1 _ _ _ (by decide)
theorem aK12_5 (hL : Lay h) : h.K 200 = 100 := by
  exact (hL.1 _ (by decide)).1
theorem aN12_5 (hL : Lay h) : h.N 200 = 4 := by
  exact (hL.1 _ (by decide)).2
theorem oP12_6 (hL : Lay h) : h.P 197 6 = some 201 := by
  exact hL.2.1 _ _ _ (by decide)
theorem aK12_6 (hL : Lay h) : h.K 201 = 100 := by
  exact (hL.1 _ (by decide)).1
theorem aN12_6 (hL : Lay h) : h.N 201 = 4 := by
  exact (hL.1 _ (by decide)).2
theorem oP12_7 (hL : Lay h) : h.P 197 7 = some 202 := by
  exact hL.2.1 _ _ _ (by decide)
theorem aK12_7 (hL : Lay h) : h.K 202 = 101 := by
  exact (hL.1 _ (by decide)).1
theorem aN12_7 (hL : Lay h) : h.N 202 = 240 := by
  exact (hL.1 _ (by decide)).2
theorem oP12_8 (hL : Lay h) : h.P 197 8 = some 203 := by
  exact hL.2.1 _ _ _ (by decide)
theorem aK12_8 (hL : Lay h) : h.K 203 = 103 := by
  exact (hL.1 _ (by decide)).1
theorem aN12_8 (hL : Lay h) : h.N 203 = 900 := by
  exact (hL.1 _ (by decide)).2
theorem oP12_9 (hL : Lay h) : h.P 197 9 = some 204 := by
  exact hL.2.1 _ _ _ (by decide)
theorem aK12_9 (hL : Lay h) : h.K 204 = 103 := by
  exact (hL.1 _ (by decide)).1
theorem aN12_9 (hL : Lay h) : h.N 204 = 900 := by
  exact (hL.1 _ (by decide)).2
theorem oP12_20 (hL : Lay h) : h.P 197 20 = some 205 := by
  exact hL.2.1 _ _ _ (by decide)
theorem aK12_20 (hL : Lay h) : h.K 205 = 100 := by
  exact (hL.1 _ (by decide)).1
theorem aN12_20 (hL : Lay h) : h.N 205 = 3 := by
  exact (hL.1 _ (by decide)).2
theorem oP12_23 (hL : Lay h) : h.P 197 23 = some 206 := by
  exact hL.2.1 _ _ _ (by decide)
theorem aK12_23 (hL : Lay h) : h.K 206 = 100 := by
  exact (hL.1 _ (by decide)).1
theorem aN12_23 (hL : Lay h) : h.N 206 = 10 := by
  exact (hL.1 _ (by decide)).2
theorem oP12_24 (hL : Lay h) : h.P 197 24 = some 207 := by
  exact hL.2.1 _ _ _ (by decide)
theorem aK12_24 (hL : Lay h) : h.K 207 = 102 := by
  exact (hL.1 _ (by decide)).1
theorem aN12_24 (hL : Lay h) : h.N 207 = 4096 := by
  exact (hL.1 _ (by decide)).2
theorem oP12_26 (hL : Lay h) : h.P 197 26 = some 208 := by
  exact hL.2.1 _ _ _ (by decide)
theorem aK12_26 (hL : Lay h) : h.K 208 = 100 := by
  exact (hL.1 _ (by decide)).1
theorem aN12_26 (hL : Lay h) : h.N 208 = 4096 := by
  exact (hL.1 _ (by decide)).2
theorem oP12_27 (hL : Lay h) : h.P 197 27 = some 209 := by
  exact hL.2.1 _ _ _ (by decide)
theorem aK12_27 (hL : Lay h) : h.K 209 = 100 := by
  exact (hL.1 _ (by decide)).1
theorem aN12_27 (hL : Lay h) : h.N 209 = 4096 := by
  exact (hL.1 _ (by decide)).2
theorem oP12_28 (hL : Lay h) : h.P 197 28 = some 210 := by
  exact hL.2.1 _ _ _ (by decide)
theorem aK12_28 (hL : Lay h) : h.K 210 = 100 := by
  exact (hL.1 _ (by decide)).1
theorem aN12_28 (hL : Lay h) : h.N 210 = 4096 := by
  exact (hL.1 _ (by decide)).2
theorem oP12_29 (hL : Lay h) : h.P 197 29 = some 211 := by
  exact hL.2.1 _ _ _ (by decide)
theorem aK12_29 (hL : Lay h) : h.K 211 = 100 := by
  exact (hL.1 _ (by decide)).1
theorem aN12_29 (hL : Lay h) : h.N 211 = 4096 := by
  exact (hL.1 _ (by decide)).2
theorem oP12_31 (hL : Lay h) : h.P 197 31 = some 212 := by
  exact hL.2.1 _ _ _ (by decide)
theorem aK12_31 (hL : Lay h) : h.K 212 = 102 := by
  exact (hL.1 _ (by decide)).1
theorem aN12_31 (hL : Lay h) : h.N 212 = 6561 := by
  exact (hL.1 _ (by decide)).2
theorem oP12_32 (hL : Lay h) : h.P 197 32 = some 213 := by
  exact hL.2.1 _ _ _ (by decide)
theorem aK12_32 (hL : Lay h) : h.K 213 = 100 := by
  exact (hL.1 _ (by decide)).1
theorem aN12_32 (hL : Lay h) : h.N 213 = 6561 := by
  exact (hL.1 _ (by decide)).2
theorem oP12_34 (hL : Lay h) : h.P 197 34 = some 214 := by
  exact hL.2.1 _ _ _ (by decide)
theorem aK12_34 (hL : Lay h) : h.K 214 = 100 := by
  exact (hL.1 _ (by decide)).1
theorem aN12_34 (hL : Lay h) : h.N 214 = 8 := by
  exact (hL.1 _ (by decide)).2
theorem oP12_36 (hL : Lay h) : h.P 197 36 = some 215 := by
  exact hL.2.1 _ _ _ (by decide)
theorem aK12_36 (hL : Lay h) : h.K 215 = 100 := by
  exact (hL.1 _ (by decide)).1
theorem aN12_36 (hL : Lay h) : h.N 215 = 12 := by
  exact (hL.1 _ (by decide)).2
theorem oP12_37 (hL : Lay h) : h.P 197 37 = some 216 := by
  exact hL.2.1 _ _ _ (by decide)
theorem aK12_37 (hL : Lay h) : h.K 216 = 100 := by
  exact (hL.1 _ (by decide)).1
theorem aN12_37 (hL : Lay h) : h.N 216 = 12 := by
  exact (hL.1 _ (by decide)).2
theorem oP12_38 (hL : Lay h) : h.P 197 38 = some 217 := by
  exact hL.2.1 _ _ _ (by decide)
theorem aK12_38 (hL : Lay h) : h.K 217 = 102 := by
  exact (hL.1 _ (by decide)).1
theorem aN12_38 (hL : Lay h) : h.N 217 = 4096 := by
  exact (hL.1 _ (by decide)).2
theorem oP12_39 (hL : Lay h) : h.P 197 39 = some 218 := by
  exact hL.2.1 _ _ _ (by decide)
theorem aK12_39 (hL : Lay h) : h.K 218 = 102 := by
  exact (hL.1 _ (by decide)).1
theorem aN12_39 (hL : Lay h) : h.N 218 = 4096 := by
  exact (hL.1 _ (by decide)).2
theorem oP12_49 (hL : Lay h) : h.P 197 49 = some 219 := by
  exact hL.2.1 _ _ _ (by decide)
theorem aK12_49 (hL : Lay h) : h.K 219 = 100 := by
  exact (hL.1 _ (by decide)).1
theorem aN12_49 (hL : Lay h) : h.N 219 = 80 := by
  exact (hL.1 _ (by decide)).2
theorem oP12_50 (hL : Lay h) : h.P 197 50 = some 220 := by
  exact hL.2.1 _ _ _ (by decide)
theorem aK12_50 (hL : Lay h) : h.K 220 = 100 := by
  exact (hL.1 _ (by decide)).1
theorem aN12_50 (hL : Lay h) : h.N 220 = 16 := by
  exact (hL.1 _ (by decide)).2
theorem oP12_51 (hL : Lay h) : h.P 197 51 = some 221 := by
  exact hL.2.1 _ _ _ (by decide)
theorem aK12_51 (hL : Lay h) : h.K 221 = 100 := by
  exact (hL.1 _ (by decide)).1
theorem aN12_51 (hL : Lay h) : h.N 221 = 8 := by
  exact (hL.1 _ (by decide)).2
theorem aA10_0 (hL : Lay h) {x : Int32} (hx : inb x 4) : h.P 2 (ix x) = some (3 + 1 * ix x) := by
  have h4 := hx.2
  generalize ix x = q at h4
  match q, h4 with
  | 0, _ => exact hL.2.1 _ _ _ (by decide)
  | 1, _ => exact hL.2.1 _ _ _ (by decide)
  | 2, _ => exact hL.2.1 _ _ _ (by decide)
  | 3, _ => exact hL.2.1 _ _ _ (by decide)
theorem aRK10_0 (hL : Lay h) {x : Int32} (hx : inb x 4) : h.K (3 + 1 * ix x) = 101 := by
  have h4 := hx.2
  generalize ix x = q at h4
  match q, h4 with
  | 0, _ => exact (hL.1 _ (by decide)).1
  | 1, _ => exact (hL.1 _ (by decide)).1
  | 2, _ => exact (hL.1 _ (by decide)).1
  | 3, _ => exact (hL.1 _ (by decide)).1
theorem aRN10_0 (hL : Lay h) {x : Int32} (hx : inb x 4) : h.N (3 + 1 * ix x) = 60 := by
  have h4 := hx.2
  generalize ix x = q at h4
  match q, h4 with
  | 0, _ => exact (hL.1 _ (by decide)).2
  | 1, _ => exact (hL.1 _ (by decide)).2
  | 2, _ => exact (hL.1 _ (by decide)).2
  | 3, _ => exact (hL.1 _ (by decide)).2
theorem aA11_7 (hL : Lay h) {x : Int32} (hx : inb x 4) : h.P 40 (ix x) = some (43 + 24 * ix x) := by
  have h4 := hx.2
  generalize ix x = q at h4
  match q, h4 with
  | 0, _ => exact hL.2.1 _ _ _ (by decide)
  | 1, _ => exact hL.2.1 _ _ _ (by decide)
  | 2, _ => exact hL.2.1 _ _ _ (by decide)
  | 3, _ => exact hL.2.1 _ _ _ (by decide)
theorem aI11_7 {x : Int32} (hx : inb x 4) : is3 (43 + 24 * ix x) := by
  have h4 := hx.2
  unfold is3
  omega
theorem aA11_8 (hL : Lay h) {x : Int32} (hx : inb x 4) : h.P 41 (ix x) = some (58 + 24 * ix x) := by
  have h4 := hx.2
  generalize ix x = q at h4
  match q, h4 with
  | 0, _ => exact hL.2.1 _ _ _ (by decide)
  | 1, _ => exact hL.2.1 _ _ _ (by decide)
  | 2, _ => exact hL.2.1 _ _ _ (by decide)
  | 3, _ => exact hL.2.1 _ _ _ (by decide)
theorem aI11_8 {x : Int32} (hx : inb x 4) : is5 (58 + 24 * ix x) := by
  have h4 := hx.2
  unfold is5
  omega
theorem aA11_9 (hL : Lay h) {x : Int32} (hx : inb x 4) : h.P 42 (ix x) = some (65 + 24 * ix x) := by
  have h4 := hx.2
  generalize ix x = q at h4
  match q, h4 with
  | 0, _ => exact hL.2.1 _ _ _ (by decide)
  | 1, _ => exact hL.2.1 _ _ _ (by decide)
  | 2, _ => exact hL.2.1 _ _ _ (by decide)
  | 3, _ => exact hL.2.1 _ _ _ (by decide)
theorem aI11_9 {x : Int32} (hx : inb x 4) : is1 (65 + 24 * ix x) := by
  have h4 := hx.2
  unfold is1
  omega
theorem sK (hL : Lay h) : h.K 1000000 = 108 := hL.2.2.2.1
theorem sN (hL : Lay h) : h.N 1000000 ≤ 60000 := Nat.le_trans hL.2.2.2.2 (by decide)
theorem lsP (hL : Lay h) {a f b : Nat} (hd : lPb a f = false) : Lay (h.sP a f b) := by
  refine ⟨hL.1, ?_, hL.2.2.1, hL.2.2.2.1, hL.2.2.2.2⟩
  intro a2 f2 b2 hm
  show up2 h.P a f (some b) a2 f2 = some b2
  rw [up2_ne]
  · exact hL.2.1 _ _ _ hm
  · rintro ⟨rfl, rfl⟩
    have : lPb a2 f2 = true := List.any_eq_true.mpr ⟨_, hm, by simp⟩
    rw [hd] at this
    cases this
theorem ls0_1 (hL : Lay h) (ht : is0 t) {b : Nat} : Lay (h.sP t 1 b) := lsP hL (by rcases ht with rfl | rfl <;> decide)
theorem ls0_5 (hL : Lay h) (ht : is0 t) {b : Nat} : Lay (h.sP t 5 b) := lsP hL (by rcases ht with rfl | rfl <;> decide)
theorem ls0_6 (hL : Lay h) (ht : is0 t) {b : Nat} : Lay (h.sP t 6 b) := lsP hL (by rcases ht with rfl | rfl <;> decide)
theorem ls0_7 (hL : Lay h) (ht : is0 t) {b : Nat} : Lay (h.sP t 7 b) := lsP hL (by rcases ht with rfl | rfl <;> decide)
theorem ls2_2 (hL : Lay h) (ht : is2 t) {b : Nat} : Lay (h.sP t 2 b) := lsP hL (by rcases ht with rfl | rfl | rfl <;> decide)
theorem ls2_5 (hL : Lay h) (ht : is2 t) {b : Nat} : Lay (h.sP t 5 b) := lsP hL (by rcases ht with rfl | rfl | rfl <;> decide)
theorem ls2_6 (hL : Lay h) (ht : is2 t) {b : Nat} : Lay (h.sP t 6 b) := lsP hL (by rcases ht with rfl | rfl | rfl <;> decide)
theorem ls2_7 (hL : Lay h) (ht : is2 t) {b : Nat} : Lay (h.sP t 7 b) := lsP hL (by rcases ht with rfl | rfl | rfl <;> decide)
theorem ls2_8 (hL : Lay h) (ht : is2 t) {b : Nat} : Lay (h.sP t 8 b) := lsP hL (by rcases ht with rfl | rfl | rfl <;> decide)
theorem ls2_9 (hL : Lay h) (ht : is2 t) {b : Nat} : Lay (h.sP t 9 b) := lsP hL (by rcases ht with rfl | rfl | rfl <;> decide)
theorem ls2_16 (hL : Lay h) (ht : is2 t) {b : Nat} : Lay (h.sP t 16 b) := lsP hL (by rcases ht with rfl | rfl | rfl <;> decide)
theorem ls8_0 (hL : Lay h) (ht : is8 t) {b : Nat} : Lay (h.sP t 0 b) := lsP hL (by cases ht; decide)
theorem ls8_3 (hL : Lay h) (ht : is8 t) {b : Nat} : Lay (h.sP t 3 b) := lsP hL (by cases ht; decide)
theorem ls8_4 (hL : Lay h) (ht : is8 t) {b : Nat} : Lay (h.sP t 4 b) := lsP hL (by cases ht; decide)
theorem lPlt : ∀ q ∈ lPt, q.1 < 222 := by decide +kernel
theorem lnew (hL : Lay h) {k l m : Nat} (hn : h.n < 1000000) : Lay (h.new k l m) := by
  have h9 := hL.2.2.1
  refine ⟨fun a ha => ?_, ?_, ?_, ?_, ?_⟩
  · show upr h.K h.n k a = _ ∧ upr h.N h.n l a = _
    rw [upr_ne (by omega), upr_ne (by omega)]
    exact hL.1 a ha
  · intro a f b hm
    have := lPlt _ hm
    show upr h.P h.n _ a f = _
    rw [upr_ne (by dsimp only at this; omega)]
    exact hL.2.1 _ _ _ hm
  · show 222 ≤ h.n + 1
    omega
  · show upr h.K h.n k 1000000 = _
    rw [upr_ne (by omega)]
    exact hL.2.2.2.1
  · show upr h.N h.n l 1000000 ≤ _
    rw [upr_ne (by omega)]
    exact hL.2.2.2.2
theorem lsI (hL : Lay h) {a k : Nat} {v : Int32} : Lay (h.sI a k v) := hL
theorem lsJ (hL : Lay h) {a k : Nat} {v : Int64} : Lay (h.sJ a k v) := hL
theorem lcI (hL : Lay h) {a : Nat} {g : Nat → Int32} : Lay (h.cI a g) := hL
theorem lcJ (hL : Lay h) {a : Nat} {g : Nat → Int64} : Lay (h.cJ a g) := hL
end LAYS
theorem xby1_len : (xby 1).length = 125 := by decide +kernel
/-! WHAT A METHOD GIVES, and the rules of calls -/
def postI (C : Int32 → TH → Prop) : xR → Prop := fun r => ∃ v h', r = (some (.int v), TH.X h') ∧ Lay h' ∧ C v h'
def postL (C : Int64 → TH → Prop) : xR → Prop := fun r => ∃ v h', r = (some (.long v), TH.X h') ∧ Lay h' ∧ C v h'
def postV (C : TH → Prop) : xR → Prop := fun r => ∃ h', r = (none, TH.X h') ∧ Lay h' ∧ C h'
def qostI (h : TH) (C : Int32 → Prop) : xR → Prop := fun r => ∃ v, r = (some (.int v), TH.X h) ∧ C v
def qostL (h : TH) (C : Int64 → Prop) : xR → Prop := fun r => ∃ v, r = (some (.long v), TH.X h) ∧ C v
def qostM (h : TH) (C : Nat → Prop) : xR → Prop := fun r => ∃ v, r = (some (.ref v), TH.X h) ∧ is3 v ∧ C v
section WCA
variable {d m pc nx : Nat} {lv : xL} {st : List Value} {C : xR → Prop} {h : TH} {z : Int}
theorem wcaI {e : xE} {m' : Nat} {as rest : List Value} {C1 : Int32 → TH → Prop} (hf : xfetch m pc = some e) (hc : xcall e st h.X = some (m', as, rest)) (kp : xPk d m' as h.X (postI C1)) (kk : ∀ v h1, Lay h1 → C1 v h1 → xEk (d + 1) m (e.2.1, lv, .int v :: rest, h1.X) C) : xEk (d + 1) m (pc, lv, st, h.X) C := by
  obtain ⟨_, h1, v, h2, rfl, h3, h4⟩ := kp
  obtain ⟨r, h5, h6⟩ := kk v h2 h3 h4
  exact ⟨r, xEv_call hf hc h1 h5, h6⟩
theorem wcvI {i m' np ci a : Nat} {rest : List Value} {C1 : Int32 → TH → Prop} (hf : xfetch m pc = some (.invokevirtual i, nx, m', np, z)) (hK : h.K a = ci) (hc : (decide (ci < 13) && decide (m' < 9000) && decide (np ≤ st.length) && decide ((xms[m']?).map (fun q => q.1) = (vwCl[ci]?).map (fun q => q.1)) && decide ((rest.map fun v => v.category).sum ≤ 8)) = true) (hd : st.drop np = .ref a :: rest) (kp : xPk d m' (.ref a :: (st.take np).reverse) h.X (postI C1)) (kk : ∀ v h1, Lay h1 → C1 v h1 → xEk (d + 1) m (nx, lv, .int v :: rest, h1.X) C) : xEk (d + 1) m (pc, lv, st, h.X) C := by
  obtain ⟨_, h1, v, h2, rfl, h3, h4⟩ := kp
  obtain ⟨r, h5, h6⟩ := kk v h2 h3 h4
  exact ⟨r, tcallV hf hK hc hd h1 h5, h6⟩
theorem wcaL {e : xE} {m' : Nat} {as rest : List Value} {C1 : Int64 → TH → Prop} (hf : xfetch m pc = some e) (hc : xcall e st h.X = some (m', as, rest)) (kp : xPk d m' as h.X (postL C1)) (kk : ∀ v h1, Lay h1 → C1 v h1 → xEk (d + 1) m (e.2.1, lv, .long v :: rest, h1.X) C) : xEk (d + 1) m (pc, lv, st, h.X) C := by
  obtain ⟨_, h1, v, h2, rfl, h3, h4⟩ := kp
  obtain ⟨r, h5, h6⟩ := kk v h2 h3 h4
  exact ⟨r, xEv_call hf hc h1 h5, h6⟩
theorem wcvL {i m' np ci a : Nat} {rest : List Value} {C1 : Int64 → TH → Prop} (hf : xfetch m pc = some (.invokevirtual i, nx, m', np, z)) (hK : h.K a = ci) (hc : (decide (ci < 13) && decide (m' < 9000) && decide (np ≤ st.length) && decide ((xms[m']?).map (fun q => q.1) = (vwCl[ci]?).map (fun q => q.1)) && decide ((rest.map fun v => v.category).sum ≤ 8)) = true) (hd : st.drop np = .ref a :: rest) (kp : xPk d m' (.ref a :: (st.take np).reverse) h.X (postL C1)) (kk : ∀ v h1, Lay h1 → C1 v h1 → xEk (d + 1) m (nx, lv, .long v :: rest, h1.X) C) : xEk (d + 1) m (pc, lv, st, h.X) C := by
  obtain ⟨_, h1, v, h2, rfl, h3, h4⟩ := kp
  obtain ⟨r, h5, h6⟩ := kk v h2 h3 h4
  exact ⟨r, tcallV hf hK hc hd h1 h5, h6⟩
theorem wcaV {e : xE} {m' : Nat} {as rest : List Value} {C1 : TH → Prop} (hf : xfetch m pc = some e) (hc : xcall e st h.X = some (m', as, rest)) (kp : xPk d m' as h.X (postV C1)) (kk : ∀ h1, Lay h1 → C1 h1 → xEk (d + 1) m (e.2.1, lv, rest, h1.X) C) : xEk (d + 1) m (pc, lv, st, h.X) C := by
  obtain ⟨_, h1, h2, rfl, h3, h4⟩ := kp
  obtain ⟨r, h5, h6⟩ := kk h2 h3 h4
  exact ⟨r, xEv_call hf hc h1 h5, h6⟩
theorem wcvV {i m' np ci a : Nat} {rest : List Value} {C1 : TH → Prop} (hf : xfetch m pc = some (.invokevirtual i, nx, m', np, z)) (hK : h.K a = ci) (hc : (decide (ci < 13) && decide (m' < 9000) && decide (np ≤ st.length) && decide ((xms[m']?).map (fun q => q.1) = (vwCl[ci]?).map (fun q => q.1)) && decide ((rest.map fun v => v.category).sum ≤ 8)) = true) (hd : st.drop np = .ref a :: rest) (kp : xPk d m' (.ref a :: (st.take np).reverse) h.X (postV C1)) (kk : ∀ h1, Lay h1 → C1 h1 → xEk (d + 1) m (nx, lv, rest, h1.X) C) : xEk (d + 1) m (pc, lv, st, h.X) C := by
  obtain ⟨_, h1, h2, rfl, h3, h4⟩ := kp
  obtain ⟨r, h5, h6⟩ := kk h2 h3 h4
  exact ⟨r, tcallV hf hK hc hd h1 h5, h6⟩
theorem qcaI {e : xE} {m' : Nat} {as rest : List Value} {C1 : Int32 → Prop} (hf : xfetch m pc = some e) (hc : xcall e st h.X = some (m', as, rest)) (kp : xPk d m' as h.X (qostI h C1)) (kk : ∀ v, C1 v → xEk (d + 1) m (e.2.1, lv, .int v :: rest, h.X) C) : xEk (d + 1) m (pc, lv, st, h.X) C := by
  obtain ⟨_, h1, v, rfl, h4⟩ := kp
  obtain ⟨r, h5, h6⟩ := kk v h4
  exact ⟨r, xEv_call hf hc h1 h5, h6⟩
theorem qcvI {i m' np ci a : Nat} {rest : List Value} {C1 : Int32 → Prop} (hf : xfetch m pc = some (.invokevirtual i, nx, m', np, z)) (hK : h.K a = ci) (hc : (decide (ci < 13) && decide (m' < 9000) && decide (np ≤ st.length) && decide ((xms[m']?).map (fun q => q.1) = (vwCl[ci]?).map (fun q => q.1)) && decide ((rest.map fun v => v.category).sum ≤ 8)) = true) (hd : st.drop np = .ref a :: rest) (kp : xPk d m' (.ref a :: (st.take np).reverse) h.X (qostI h C1)) (kk : ∀ v, C1 v → xEk (d + 1) m (nx, lv, .int v :: rest, h.X) C) : xEk (d + 1) m (pc, lv, st, h.X) C := by
  obtain ⟨_, h1, v, rfl, h4⟩ := kp
  obtain ⟨r, h5, h6⟩ := kk v h4
  exact ⟨r, tcallV hf hK hc hd h1 h5, h6⟩
theorem qcaL {e : xE} {m' : Nat} {as rest : List Value} {C1 : Int64 → Prop} (hf : xfetch m pc = some e) (hc : xcall e st h.X = some (m', as, rest)) (kp : xPk d m' as h.X (qostL h C1)) (kk : ∀ v, C1 v → xEk (d + 1) m (e.2.1, lv, .long v :: rest, h.X) C) : xEk (d + 1) m (pc, lv, st, h.X) C := by
  obtain ⟨_, h1, v, rfl, h4⟩ := kp
  obtain ⟨r, h5, h6⟩ := kk v h4
  exact ⟨r, xEv_call hf hc h1 h5, h6⟩
theorem qcvL {i m' np ci a : Nat} {rest : List Value} {C1 : Int64 → Prop} (hf : xfetch m pc = some (.invokevirtual i, nx, m', np, z)) (hK : h.K a = ci) (hc : (decide (ci < 13) && decide (m' < 9000) && decide (np ≤ st.length) && decide ((xms[m']?).map (fun q => q.1) = (vwCl[ci]?).map (fun q => q.1)) && decide ((rest.map fun v => v.category).sum ≤ 8)) = true) (hd : st.drop np = .ref a :: rest) (kp : xPk d m' (.ref a :: (st.take np).reverse) h.X (qostL h C1)) (kk : ∀ v, C1 v → xEk (d + 1) m (nx, lv, .long v :: rest, h.X) C) : xEk (d + 1) m (pc, lv, st, h.X) C := by
  obtain ⟨_, h1, v, rfl, h4⟩ := kp
  obtain ⟨r, h5, h6⟩ := kk v h4
  exact ⟨r, tcallV hf hK hc hd h1 h5, h6⟩
theorem qcaM {e : xE} {m' : Nat} {as rest : List Value} {C1 : Nat → Prop} (hf : xfetch m pc = some e) (hc : xcall e st h.X = some (m', as, rest)) (kp : xPk d m' as h.X (qostM h C1)) (kk : ∀ v, is3 v → C1 v → xEk (d + 1) m (e.2.1, lv, .ref v :: rest, h.X) C) : xEk (d + 1) m (pc, lv, st, h.X) C := by
  obtain ⟨_, h1, v, rfl, h3, h4⟩ := kp
  obtain ⟨r, h5, h6⟩ := kk v h3 h4
  exact ⟨r, xEv_call hf hc h1 h5, h6⟩
theorem qcvM {i m' np ci a : Nat} {rest : List Value} {C1 : Nat → Prop} (hf : xfetch m pc = some (.invokevirtual i, nx, m', np, z)) (hK : h.K a = ci) (hc : (decide (ci < 13) && decide (m' < 9000) && decide (np ≤ st.length) && decide ((xms[m']?).map (fun q => q.1) = (vwCl[ci]?).map (fun q => q.1)) && decide ((rest.map fun v => v.category).sum ≤ 8)) = true) (hd : st.drop np = .ref a :: rest) (kp : xPk d m' (.ref a :: (st.take np).reverse) h.X (qostM h C1)) (kk : ∀ v, is3 v → C1 v → xEk (d + 1) m (nx, lv, .ref v :: rest, h.X) C) : xEk (d + 1) m (pc, lv, st, h.X) C := by
  obtain ⟨_, h1, v, rfl, h3, h4⟩ := kp
  obtain ⟨r, h5, h6⟩ := kk v h3 h4
  exact ⟨r, tcallV hf hK hc hd h1 h5, h6⟩
theorem wsw {A B Q : Prop} {x c : Int32} (hW : if x = c then A else B) (k1 : x = c → A → Q) (k2 : ¬ x = c → B → Q) : Q := by
  by_cases e : x = c
  · rw [if_pos e] at hW; exact k1 e hW
  · rw [if_neg e] at hW; exact k2 e hW
theorem wswi {e : xE} {x : Int32} {t : Nat} (hf : xfetch m pc = some e) (hs : ∀ st, xstep e pc lv (.int x :: st) h.X = (xsw pc e.1 x).map (fun t => .inl (t, lv, st, h.X))) (hx : xsw pc e.1 x = some t) (kk : xEk d m (t, lv, st, h.X) C) : xEk d m (pc, lv, .int x :: st, h.X) C := by
  refine kst hf ?_ kk
  rw [hs, hx]
  rfl
theorem swc {pc t : Nat} {i : Instr} {x c : Int32} (e : x = c) (h : xsw pc i c = some t) : xsw pc i x = some t := by rw [e]; exact h
theorem i32ne {x c : Int32} {k : Int} (h : ¬ x = c) (hk : c.toInt = k) : ¬ x.toInt = k := by
  intro q
  rw [← hk] at q
  exact h (Int32.toInt_inj.mp q)
theorem tswD {pc : Nat} {x : Int32} {dflt lo hi : Int} {offs : Array Int} {t : Nat} (h : x.toInt < lo ∨ hi < x.toInt) (ht : ((pc : Int) + dflt).toNat = t) : xsw pc (.tableswitch dflt lo hi offs) x = some t := by
  unfold xsw
  dsimp only
  rw [if_pos h, ht]
theorem xsb_of {lv lv' : xL} (h1 : xnd lv) (h2 : ∀ q ∈ lv, lv'.lookup q.1 = some q.2) : xsb lv lv' := ⟨h1, fun i v hm => h2 (i, v) hm⟩
def xlsub (lv' : xL) : xL → Prop
  | [] => True
  | (i, v) :: r => lv'.lookup i = some v ∧ xlsub lv' r
theorem xlsub_mem {lv' : xL} : ∀ {lv : xL}, xlsub lv' lv → ∀ i v, (i, v) ∈ lv → lv'.lookup i = some v := by
  intro lv
  induction lv with
  | nil => intro _ i v hm; cases hm
  | cons q r ih =>
    intro hs i v hm
    obtain ⟨j, w⟩ := q
    rcases List.mem_cons.mp hm with hm | hm
    · cases hm; exact hs.1
    · exact ih hs.2 i v hm
theorem xsb_sub {lv lv' : xL} (h : xlsub lv' lv) : xsb lv lv' := by
  have hm := xlsub_mem h
  refine ⟨fun i v w h1 h2 => ?_, hm⟩
  have a := hm i v h1
  rw [hm i w h2] at a
  exact (Option.some.inj a).symm
theorem wjp {lv lv' : xL} (hs : xlsub lv' lv) (k : xEk d m (pc, lv, st, h.X) C) : xEk d m (pc, lv', st, h.X) C := kwk (xsb_sub hs) k
theorem tx_ex : ∃ f : Nat → Int32, ∀ i, f i = (xby 1).getD i 0 := ⟨_, fun _ => rfl⟩
/-- the letters of the second text, so that nobody reckons them by chance -/
noncomputable def tx : Nat → Int32 := Classical.choose tx_ex
theorem tx_eq (i : Nat) : tx i = (xby 1).getD i 0 := Classical.choose_spec tx_ex i
theorem wchr2 {i k : Nat} {x : Int32} (hf : xfetch m pc = some (.invokevirtual i, nx, 9997, k, z)) (hs : (st.map fun v => v.category).sum ≤ 8) (hx : inb x 125) (kk : xEk d m (nx, lv, .int (tx (ix x)) :: st, h.X) C) : xEk d m (pc, lv, .int x :: .ref 1000002 :: st, h.X) C := wchr hf hs xby1_len hx (by rw [← tx_eq]; exact kk)
theorem wlen {i k : Nat} (hf : xfetch m pc = some (.invokevirtual i, nx, 9998, k, z)) (hs : (st.map fun v => v.category).sum ≤ 8) (kk : xEk d m (nx, lv, .int 125 :: st, h.X) C) : xEk d m (pc, lv, .ref 1000002 :: st, h.X) C := by
  have e : Int32.ofNat (xby (1000002 - 1000001)).length = 125 := by rw [show 1000002 - 1000001 = 1 from rfl, xby1_len]; rfl
  refine kst hf ?_ kk
  unfold xstep
  dsimp only
  rw [if_pos rfl]
  unfold xslen
  dsimp only
  rw [if_pos ⟨Or.inr rfl, hs⟩, e]
theorem whb {C : xR → Prop} {h : TH} (k : ∀ h1, h1 = h → xEk d m (pc, lv, st, h1.X) C) : xEk d m (pc, lv, st, h.X) C := k h rfl
end WCA
