/-! Where the constructors put what: kinds by number, and the references that nobody writes later. -/
def jKs : List (Nat × Nat) := [(99, 0), (100, 8), (100, 64), (100, 160), (100, 160), (100, 10), (100, 79), (100, 8), (100, 8), (100, 5), (100, 8), (100, 8), (100, 52), (99, 0), (99, 0), (99, 0), (99, 0), (99, 0), (100, 0), (99, 0), (99, 0), (99, 0), (99, 0), (99, 0), (99, 0), (99, 0), (99, 0), (99, 0), (99, 0), (99, 0), (99, 0), (100, 64), (11, 14), (101, 2000), (101, 32), (110, 4), (101, 8000), (101, 8000), (101, 8000), (101, 8000), (100, 4), (100, 4), (101, 2000), (3, 6), (101, 2560), (100, 8), (100, 64), (100, 5), (101, 32), (7, 8), (8, 17), (100, 8), (100, 8), (100, 8), (100, 8), (100, 8), (100, 16), (100, 8), (111, 16), (100, 8), (100, 8), (100, 8), (100, 8), (100, 8), (100, 8), (100, 8), (100, 8), (100, 8), (100, 8), (100, 8), (100, 8), (100, 8), (100, 8), (100, 8), (100, 8), (112, 16), (103, 10), (103, 10), (103, 10), (103, 10), (103, 10), (103, 10), (103, 10), (103, 10), (103, 10), (103, 10), (103, 10), (103, 10), (103, 10), (103, 10), (103, 10), (103, 10), (100, 257), (100, 257), (115, 8), (115, 8), (5, 4), (103, 10), (103, 10), (103, 10), (5, 4), (103, 10), (103, 10), (103, 10), (5, 4), (103, 10), (103, 10), (103, 10), (5, 4), (103, 10), (103, 10), (103, 10), (5, 4), (103, 10), (103, 10), (103, 10), (5, 4), (103, 10), (103, 10), (103, 10), (5, 4), (103, 10), (103, 10), (103, 10), (5, 4), (103, 10), (103, 10), (103, 10), (5, 4), (103, 10), (103, 10), (103, 10), (5, 4), (103, 10), (103, 10), (103, 10), (5, 4), (103, 10), (103, 10), (103, 10), (5, 4), (103, 10), (103, 10), (103, 10), (5, 4), (103, 10), (103, 10), (103, 10), (5, 4), (103, 10), (103, 10), (103, 10), (5, 4), (103, 10), (103, 10), (103, 10), (5, 4), (103, 10), (103, 10), (103, 10), (5, 4), (103, 10), (103, 10), (103, 10), (5, 4), (103, 10), (103, 10), (103, 10), (101, 2400), (101, 32), (4, 20), (9, 3), (110, 70), (101, 120), (101, 120), (101, 120), (101, 120), (101, 120), (101, 120), (101, 120), (101, 120), (101, 120), (101, 120), (101, 120), (101, 120), (101, 120), (101, 120), (101, 120), (101, 120), (101, 120), (101, 120), (101, 120), (101, 120), (101, 120), (101, 120), (101, 120), (101, 120), (101, 120), (101, 120), (101, 120), (101, 120), (101, 120), (101, 120), (101, 120), (101, 120), (101, 120), (101, 120), (101, 120), (101, 120), (101, 120), (101, 120), (101, 120), (101, 120), (101, 120), (101, 120), (101, 120), (101, 120), (101, 120), (101, 120), (101, 120), (101, 120), (101, 120), (101, 120), (101, 120), (101, 120), (101, 120), (101, 120), (101, 120), (101, 120), (101, 120), (101, 120), (101, 120), (101, 120), (101, 120), (101, 120), (101, 120), (101, 120), (101, 120), (101, 120), (101, 120), (101, 120), (101, 120), (101, 120), (100, 70), (9, 3), (110, 70), (101, 120), (101, 120), (101, 120), (101, 120), (101, 120), (101, 120), (101, 120), (101, 120), (101, 120), (101, 120), (101, 120), (101, 120), (101, 120), (101, 120), (101, 120), (101, 120), (101, 120), (101, 120), (101, 120), (101, 120), (101, 120), (101, 120), (101, 120), (101, 120), (101, 120), (101, 120), (101, 120), (101, 120), (101, 120), (101, 120), (101, 120), (101, 120), (101, 120), (101, 120), (101, 120), (101, 120), (101, 120), (101, 120), (101, 120), (101, 120), (101, 120), (101, 120), (101, 120), (101, 120), (101, 120), (101, 120), (101, 120), (101, 120), (101, 120), (101, 120), (101, 120), (101, 120), (101, 120), (101, 120), (101, 120), (101, 120), (101, 120), (101, 120), (101, 120), (101, 120), (101, 120), (101, 120), (101, 120), (101, 120), (101, 120), (101, 120), (101, 120), (101, 120), (101, 120), (101, 120), (100, 70), (9, 3), (110, 70), (101, 120), (101, 120), (101, 120), (101, 120), (101, 120), (101, 120), (101, 120), (101, 120), (101, 120), (101, 120), (101, 120), (101, 120), (101, 120), (101, 120), (101, 120), (101, 120), (101, 120), (101, 120), (101, 120), (101, 120), (101, 120), (101, 120), (101, 120), (101, 120), (101, 120), (101, 120), (101, 120), (101, 120), (101, 120), (101, 120), (101, 120), (101, 120), (101, 120), (101, 120), (101, 120), (101, 120), (101, 120), (101, 120), (101, 120), (101, 120), (101, 120), (101, 120), (101, 120), (101, 120), (101, 120), (101, 120), (101, 120), (101, 120), (101, 120), (101, 120), (101, 120), (101, 120), (101, 120), (101, 120), (101, 120), (101, 120), (101, 120), (101, 120), (101, 120), (101, 120), (101, 120), (101, 120), (101, 120), (101, 120), (101, 120), (101, 120), (101, 120), (101, 120), (101, 120), (101, 120), (100, 70), (101, 32), (102, 200), (2, 9), (113, 1500), (100, 1500), (100, 1500), (113, 8), (100, 8), (1, 17), (114, 300), (114, 300), (114, 300), (114, 300), (100, 9), (100, 9), (100, 9), (103, 11), (101, 416), (101, 32), (101, 82), (0, 9), (101, 32), (113, 0), (100, 8), (6, 10), (113, 41), (103, 41), (113, 41), (102, 41), (113, 8), (100, 8), (103, 64)]
def jRs : List (Nat × Nat × Nat) := [(32, 0, 33), (32, 2, 34), (32, 4, 35), (32, 5, 40), (32, 6, 41), (32, 7, 42), (32, 9, 43), (32, 10, 49), (32, 11, 392), (32, 12, 398), (32, 13, 414), (35, 0, 36), (35, 1, 37), (35, 2, 38), (35, 3, 39), (43, 0, 44), (43, 2, 45), (43, 3, 46), (43, 4, 47), (43, 5, 48), (49, 0, 43), (49, 1, 170), (49, 2, 50), (49, 3, 168), (49, 5, 169), (50, 1, 51), (50, 2, 52), (50, 3, 53), (50, 4, 54), (50, 5, 55), (50, 6, 56), (50, 7, 57), (50, 8, 58), (50, 9, 75), (50, 10, 92), (50, 11, 93), (50, 12, 94), (50, 13, 95), (50, 14, 96), (50, 15, 100), (58, 0, 59), (58, 1, 60), (58, 2, 61), (58, 3, 62), (58, 4, 63), (58, 5, 64), (58, 6, 65), (58, 7, 66), (58, 8, 67), (58, 9, 68), (58, 10, 69), (58, 11, 70), (58, 12, 71), (58, 13, 72), (58, 14, 73), (58, 15, 74), (75, 0, 76), (75, 1, 77), (75, 2, 78), (75, 3, 79), (75, 4, 80), (75, 5, 81), (75, 6, 82), (75, 7, 83), (75, 8, 84), (75, 9, 85), (75, 10, 86), (75, 11, 87), (75, 12, 88), (75, 13, 89), (75, 14, 90), (75, 15, 91), (94, 0, 104), (94, 1, 112), (94, 2, 120), (94, 3, 128), (94, 4, 136), (94, 5, 144), (94, 6, 152), (94, 7, 160), (95, 0, 108), (95, 1, 116), (95, 2, 124), (95, 3, 132), (95, 4, 140), (95, 5, 148), (95, 6, 156), (95, 7, 164), (96, 0, 97), (96, 1, 98), (96, 2, 99), (100, 0, 101), (100, 1, 102), (100, 2, 103), (104, 0, 105), (104, 1, 106), (104, 2, 107), (108, 0, 109), (108, 1, 110), (108, 2, 111), (112, 0, 113), (112, 1, 114), (112, 2, 115), (116, 0, 117), (116, 1, 118), (116, 2, 119), (120, 0, 121), (120, 1, 122), (120, 2, 123), (124, 0, 125), (124, 1, 126), (124, 2, 127), (128, 0, 129), (128, 1, 130), (128, 2, 131), (132, 0, 133), (132, 1, 134), (132, 2, 135), (136, 0, 137), (136, 1, 138), (136, 2, 139), (140, 0, 141), (140, 1, 142), (140, 2, 143), (144, 0, 145), (144, 1, 146), (144, 2, 147), (148, 0, 149), (148, 1, 150), (148, 2, 151), (152, 0, 153), (152, 1, 154), (152, 2, 155), (156, 0, 157), (156, 1, 158), (156, 2, 159), (160, 0, 161), (160, 1, 162), (160, 2, 163), (164, 0, 165), (164, 1, 166), (164, 2, 167), (170, 0, 43), (170, 1, 171), (170, 2, 244), (170, 3, 317), (170, 4, 390), (170, 11, 391), (171, 0, 172), (171, 1, 243), (244, 0, 245), (244, 1, 316), (317, 0, 318), (317, 1, 389), (392, 0, 393), (392, 1, 394), (392, 2, 395), (392, 6, 396), (392, 7, 397), (398, 0, 43), (398, 1, 392), (398, 2, 49), (398, 3, 399), (398, 7, 400), (398, 8, 401), (398, 9, 402), (398, 11, 403), (398, 12, 404), (398, 13, 405), (398, 14, 406), (398, 15, 407), (398, 16, 408), (410, 0, 409), (410, 1, 411), (410, 8, 413), (414, 0, 392), (414, 1, 49), (414, 2, 415), (414, 3, 416), (414, 5, 417), (414, 6, 418), (414, 7, 419), (414, 8, 420)]
/-- shapes as far as object N; with N = 422 that of both programs, before it the class's Hash at least -/
def jsp (N : Nat) (H : jH) : Prop := 49 ≤ N ∧ (∀ (a : Nat) (q : Nat × Nat), a < N → a ≠ 18 → jKs[a]? = some q → jK H a = q) ∧ (∀ a, a < 18 → ∀ j, jI H a j = (jvals.getD a []).getD j 0) ∧ (∀ q ∈ jRs, N = 422 ∨ q.1 = 43 → jR H q.1 q.2.1 = q.2.2) ∧ N ≤ jn H ∧ ∀ a, jn H ≤ a → (jK H a).1 = 99
abbrev jsh (H : jH) : Prop := jsp 422 H
theorem sK {N : Nat} {H : jH} (h : jsp N H) {a : Nat} {q : Nat × Nat} (e : jKs[a]? = some q) (hne : a ≠ 18) (hN : a < N) : jK H a = q := h.2.1 a q hN hne e
theorem sR {N : Nat} {H : jH} (h : jsp N H) (i : Nat) {a j r : Nat} (e : jRs[i]? = some (a, j, r)) (hN : N = 422 ∨ a = 43) : jR H a j = r := h.2.2.2.1 (a, j, r) (List.mem_of_getElem? e) hN
theorem jsh_st {N : Nat} {H : jH} (h : jsp N H) {a : Nat} (ha : a < 18) (j : Nat) : jI H a j = (jvals.getD a []).getD j 0 := h.2.2.1 a ha j
theorem jsh_fr {N : Nat} {S : Nat → Nat → Prop} {H H' : jH} (h : jsp N H) (hf : jfr S H H') (h1 : ∀ q ∈ jRs, ¬ S q.1 q.2.1) (h2 : ∀ a, a < 18 → ∀ j, ¬ S a j) : jsp N H' := by
  obtain ⟨a0, a1, a2, a3, a4⟩ := h
  obtain ⟨b1, b2, b3, b4⟩ := hf
  exact ⟨a0, fun a q hN hne e => by rw [b1]; exact a1 a q hN hne e, fun a ha j => by rw [(b4 a j (h2 a ha j)).1]; exact a2 a ha j, fun q hq hN => by rw [(b4 _ _ (h1 q hq)).2.2.1]; exact a3 q hq hN, by rw [b2, b1]; exact a4⟩
theorem sR_32_0 {H : jH} (h : jsh H) : jR H 32 0 = 33 := sR h 0 rfl (Or.inl rfl)
theorem sR_32_2 {H : jH} (h : jsh H) : jR H 32 2 = 34 := sR h 1 rfl (Or.inl rfl)
theorem sR_32_4 {H : jH} (h : jsh H) : jR H 32 4 = 35 := sR h 2 rfl (Or.inl rfl)
theorem sR_32_5 {H : jH} (h : jsh H) : jR H 32 5 = 40 := sR h 3 rfl (Or.inl rfl)
theorem sR_32_6 {H : jH} (h : jsh H) : jR H 32 6 = 41 := sR h 4 rfl (Or.inl rfl)
theorem sR_32_7 {H : jH} (h : jsh H) : jR H 32 7 = 42 := sR h 5 rfl (Or.inl rfl)
theorem sR_32_9 {H : jH} (h : jsh H) : jR H 32 9 = 43 := sR h 6 rfl (Or.inl rfl)
theorem sR_32_12 {H : jH} (h : jsh H) : jR H 32 12 = 398 := sR h 9 rfl (Or.inl rfl)
theorem sR_32_13 {H : jH} (h : jsh H) : jR H 32 13 = 414 := sR h 10 rfl (Or.inl rfl)
theorem sR_43_0 {N : Nat} {H : jH} (h : jsp N H) : jR H 43 0 = 44 := sR h 15 rfl (Or.inr rfl)
theorem sR_43_2 {N : Nat} {H : jH} (h : jsp N H) : jR H 43 2 = 45 := sR h 16 rfl (Or.inr rfl)
theorem sR_43_3 {N : Nat} {H : jH} (h : jsp N H) : jR H 43 3 = 46 := sR h 17 rfl (Or.inr rfl)
theorem sR_43_4 {N : Nat} {H : jH} (h : jsp N H) : jR H 43 4 = 47 := sR h 18 rfl (Or.inr rfl)
theorem sR_43_5 {N : Nat} {H : jH} (h : jsp N H) : jR H 43 5 = 48 := sR h 19 rfl (Or.inr rfl)
theorem sR_49_0 {H : jH} (h : jsh H) : jR H 49 0 = 43 := sR h 20 rfl (Or.inl rfl)
theorem sR_49_1 {H : jH} (h : jsh H) : jR H 49 1 = 170 := sR h 21 rfl (Or.inl rfl)
theorem sR_49_2 {H : jH} (h : jsh H) : jR H 49 2 = 50 := sR h 22 rfl (Or.inl rfl)
theorem sR_49_3 {H : jH} (h : jsh H) : jR H 49 3 = 168 := sR h 23 rfl (Or.inl rfl)
theorem sR_49_5 {H : jH} (h : jsh H) : jR H 49 5 = 169 := sR h 24 rfl (Or.inl rfl)
theorem sR_50_1 {H : jH} (h : jsh H) : jR H 50 1 = 51 := sR h 25 rfl (Or.inl rfl)
theorem sR_50_2 {H : jH} (h : jsh H) : jR H 50 2 = 52 := sR h 26 rfl (Or.inl rfl)
theorem sR_50_3 {H : jH} (h : jsh H) : jR H 50 3 = 53 := sR h 27 rfl (Or.inl rfl)
theorem sR_50_4 {H : jH} (h : jsh H) : jR H 50 4 = 54 := sR h 28 rfl (Or.inl rfl)
theorem sR_50_5 {H : jH} (h : jsh H) : jR H 50 5 = 55 := sR h 29 rfl (Or.inl rfl)
theorem sR_50_6 {H : jH} (h : jsh H) : jR H 50 6 = 56 := sR h 30 rfl (Or.inl rfl)
theorem sR_50_7 {H : jH} (h : jsh H) : jR H 50 7 = 57 := sR h 31 rfl (Or.inl rfl)
theorem sR_50_8 {H : jH} (h : jsh H) : jR H 50 8 = 58 := sR h 32 rfl (Or.inl rfl)
theorem sR_50_9 {H : jH} (h : jsh H) : jR H 50 9 = 75 := sR h 33 rfl (Or.inl rfl)
theorem sR_50_10 {H : jH} (h : jsh H) : jR H 50 10 = 92 := sR h 34 rfl (Or.inl rfl)
theorem sR_50_11 {H : jH} (h : jsh H) : jR H 50 11 = 93 := sR h 35 rfl (Or.inl rfl)
theorem sR_50_12 {H : jH} (h : jsh H) : jR H 50 12 = 94 := sR h 36 rfl (Or.inl rfl)
theorem sR_50_13 {H : jH} (h : jsh H) : jR H 50 13 = 95 := sR h 37 rfl (Or.inl rfl)
theorem sR_50_14 {H : jH} (h : jsh H) : jR H 50 14 = 96 := sR h 38 rfl (Or.inl rfl)
theorem sR_50_15 {H : jH} (h : jsh H) : jR H 50 15 = 100 := sR h 39 rfl (Or.inl rfl)
theorem sR_171_0 {H : jH} (h : jsh H) : jR H 171 0 = 172 := sR h 148 rfl (Or.inl rfl)
theorem sR_171_1 {H : jH} (h : jsh H) : jR H 171 1 = 243 := sR h 149 rfl (Or.inl rfl)
theorem sR_244_0 {H : jH} (h : jsh H) : jR H 244 0 = 245 := sR h 150 rfl (Or.inl rfl)
theorem sR_244_1 {H : jH} (h : jsh H) : jR H 244 1 = 316 := sR h 151 rfl (Or.inl rfl)
theorem sR_317_0 {H : jH} (h : jsh H) : jR H 317 0 = 318 := sR h 152 rfl (Or.inl rfl)
theorem sR_317_1 {H : jH} (h : jsh H) : jR H 317 1 = 389 := sR h 153 rfl (Or.inl rfl)
theorem sR_170_0 {H : jH} (h : jsh H) : jR H 170 0 = 43 := sR h 142 rfl (Or.inl rfl)
theorem sR_170_1 {H : jH} (h : jsh H) : jR H 170 1 = 171 := sR h 143 rfl (Or.inl rfl)
theorem sR_170_2 {H : jH} (h : jsh H) : jR H 170 2 = 244 := sR h 144 rfl (Or.inl rfl)
theorem sR_170_3 {H : jH} (h : jsh H) : jR H 170 3 = 317 := sR h 145 rfl (Or.inl rfl)
theorem sR_170_4 {H : jH} (h : jsh H) : jR H 170 4 = 390 := sR h 146 rfl (Or.inl rfl)
theorem sR_170_11 {H : jH} (h : jsh H) : jR H 170 11 = 391 := sR h 147 rfl (Or.inl rfl)
theorem sR_392_0 {H : jH} (h : jsh H) : jR H 392 0 = 393 := sR h 154 rfl (Or.inl rfl)
theorem sR_392_1 {H : jH} (h : jsh H) : jR H 392 1 = 394 := sR h 155 rfl (Or.inl rfl)
theorem sR_392_2 {H : jH} (h : jsh H) : jR H 392 2 = 395 := sR h 156 rfl (Or.inl rfl)
theorem sR_392_6 {H : jH} (h : jsh H) : jR H 392 6 = 396 := sR h 157 rfl (Or.inl rfl)
theorem sR_392_7 {H : jH} (h : jsh H) : jR H 392 7 = 397 := sR h 158 rfl (Or.inl rfl)
theorem sR_398_0 {H : jH} (h : jsh H) : jR H 398 0 = 43 := sR h 159 rfl (Or.inl rfl)
theorem sR_398_1 {H : jH} (h : jsh H) : jR H 398 1 = 392 := sR h 160 rfl (Or.inl rfl)
theorem sR_398_2 {H : jH} (h : jsh H) : jR H 398 2 = 49 := sR h 161 rfl (Or.inl rfl)
theorem sR_398_3 {H : jH} (h : jsh H) : jR H 398 3 = 399 := sR h 162 rfl (Or.inl rfl)
theorem sR_398_7 {H : jH} (h : jsh H) : jR H 398 7 = 400 := sR h 163 rfl (Or.inl rfl)
theorem sR_398_8 {H : jH} (h : jsh H) : jR H 398 8 = 401 := sR h 164 rfl (Or.inl rfl)
theorem sR_398_9 {H : jH} (h : jsh H) : jR H 398 9 = 402 := sR h 165 rfl (Or.inl rfl)
theorem sR_398_11 {H : jH} (h : jsh H) : jR H 398 11 = 403 := sR h 166 rfl (Or.inl rfl)
theorem sR_398_12 {H : jH} (h : jsh H) : jR H 398 12 = 404 := sR h 167 rfl (Or.inl rfl)
theorem sR_398_13 {H : jH} (h : jsh H) : jR H 398 13 = 405 := sR h 168 rfl (Or.inl rfl)
theorem sR_398_14 {H : jH} (h : jsh H) : jR H 398 14 = 406 := sR h 169 rfl (Or.inl rfl)
theorem sR_398_15 {H : jH} (h : jsh H) : jR H 398 15 = 407 := sR h 170 rfl (Or.inl rfl)
theorem sR_398_16 {H : jH} (h : jsh H) : jR H 398 16 = 408 := sR h 171 rfl (Or.inl rfl)
theorem sR_414_0 {H : jH} (h : jsh H) : jR H 414 0 = 392 := sR h 175 rfl (Or.inl rfl)
theorem sR_414_1 {H : jH} (h : jsh H) : jR H 414 1 = 49 := sR h 176 rfl (Or.inl rfl)
theorem sR_414_2 {H : jH} (h : jsh H) : jR H 414 2 = 415 := sR h 177 rfl (Or.inl rfl)
theorem sR_414_3 {H : jH} (h : jsh H) : jR H 414 3 = 416 := sR h 178 rfl (Or.inl rfl)
theorem sR_414_5 {H : jH} (h : jsh H) : jR H 414 5 = 417 := sR h 179 rfl (Or.inl rfl)
theorem sR_414_6 {H : jH} (h : jsh H) : jR H 414 6 = 418 := sR h 180 rfl (Or.inl rfl)
theorem sR_414_7 {H : jH} (h : jsh H) : jR H 414 7 = 419 := sR h 181 rfl (Or.inl rfl)
theorem sR_414_8 {H : jH} (h : jsh H) : jR H 414 8 = 420 := sR h 182 rfl (Or.inl rfl)
theorem sR_35_0 {H : jH} (h : jsh H) : jR H 35 0 = 36 := sR h 11 rfl (Or.inl rfl)
theorem sR_35_1 {H : jH} (h : jsh H) : jR H 35 1 = 37 := sR h 12 rfl (Or.inl rfl)
theorem sR_35_2 {H : jH} (h : jsh H) : jR H 35 2 = 38 := sR h 13 rfl (Or.inl rfl)
theorem sR_35_3 {H : jH} (h : jsh H) : jR H 35 3 = 39 := sR h 14 rfl (Or.inl rfl)
set_option maxRecDepth 100000 in
theorem sK_1 {N : Nat} {H : jH} (h : jsp N H) : jK H 1 = (100, 8) := sK h (a := 1) rfl (by decide) (Nat.lt_of_lt_of_le (by decide) h.1)
set_option maxRecDepth 100000 in
theorem sK_2 {N : Nat} {H : jH} (h : jsp N H) : jK H 2 = (100, 64) := sK h (a := 2) rfl (by decide) (Nat.lt_of_lt_of_le (by decide) h.1)
set_option maxRecDepth 100000 in
theorem sK_3 {N : Nat} {H : jH} (h : jsp N H) : jK H 3 = (100, 160) := sK h (a := 3) rfl (by decide) (Nat.lt_of_lt_of_le (by decide) h.1)
set_option maxRecDepth 100000 in
theorem sK_4 {N : Nat} {H : jH} (h : jsp N H) : jK H 4 = (100, 160) := sK h (a := 4) rfl (by decide) (Nat.lt_of_lt_of_le (by decide) h.1)
set_option maxRecDepth 100000 in
theorem sK_5 {N : Nat} {H : jH} (h : jsp N H) : jK H 5 = (100, 10) := sK h (a := 5) rfl (by decide) (Nat.lt_of_lt_of_le (by decide) h.1)
set_option maxRecDepth 100000 in
theorem sK_32 {N : Nat} {H : jH} (h : jsp N H) : jK H 32 = (11, 14) := sK h (a := 32) rfl (by decide) (Nat.lt_of_lt_of_le (by decide) h.1)
set_option maxRecDepth 100000 in
theorem sK_33 {N : Nat} {H : jH} (h : jsp N H) : jK H 33 = (101, 2000) := sK h (a := 33) rfl (by decide) (Nat.lt_of_lt_of_le (by decide) h.1)
set_option maxRecDepth 100000 in
theorem sK_34 {N : Nat} {H : jH} (h : jsp N H) : jK H 34 = (101, 32) := sK h (a := 34) rfl (by decide) (Nat.lt_of_lt_of_le (by decide) h.1)
set_option maxRecDepth 100000 in
theorem sK_35 {N : Nat} {H : jH} (h : jsp N H) : jK H 35 = (110, 4) := sK h (a := 35) rfl (by decide) (Nat.lt_of_lt_of_le (by decide) h.1)
set_option maxRecDepth 100000 in
theorem sK_36 {N : Nat} {H : jH} (h : jsp N H) : jK H 36 = (101, 8000) := sK h (a := 36) rfl (by decide) (Nat.lt_of_lt_of_le (by decide) h.1)
set_option maxRecDepth 100000 in
theorem sK_37 {N : Nat} {H : jH} (h : jsp N H) : jK H 37 = (101, 8000) := sK h (a := 37) rfl (by decide) (Nat.lt_of_lt_of_le (by decide) h.1)
set_option maxRecDepth 100000 in
theorem sK_38 {N : Nat} {H : jH} (h : jsp N H) : jK H 38 = (101, 8000) := sK h (a := 38) rfl (by decide) (Nat.lt_of_lt_of_le (by decide) h.1)
set_option maxRecDepth 100000 in
theorem sK_39 {N : Nat} {H : jH} (h : jsp N H) : jK H 39 = (101, 8000) := sK h (a := 39) rfl (by decide) (Nat.lt_of_lt_of_le (by decide) h.1)
set_option maxRecDepth 100000 in
theorem sK_40 {N : Nat} {H : jH} (h : jsp N H) : jK H 40 = (100, 4) := sK h (a := 40) rfl (by decide) (Nat.lt_of_lt_of_le (by decide) h.1)
set_option maxRecDepth 100000 in
theorem sK_41 {N : Nat} {H : jH} (h : jsp N H) : jK H 41 = (100, 4) := sK h (a := 41) rfl (by decide) (Nat.lt_of_lt_of_le (by decide) h.1)
set_option maxRecDepth 100000 in
theorem sK_42 {N : Nat} {H : jH} (h : jsp N H) : jK H 42 = (101, 2000) := sK h (a := 42) rfl (by decide) (Nat.lt_of_lt_of_le (by decide) h.1)
set_option maxRecDepth 100000 in
theorem sK_43 {N : Nat} {H : jH} (h : jsp N H) : jK H 43 = (3, 6) := sK h (a := 43) rfl (by decide) (Nat.lt_of_lt_of_le (by decide) h.1)
set_option maxRecDepth 100000 in
theorem sK_44 {N : Nat} {H : jH} (h : jsp N H) : jK H 44 = (101, 2560) := sK h (a := 44) rfl (by decide) (Nat.lt_of_lt_of_le (by decide) h.1)
set_option maxRecDepth 100000 in
theorem sK_45 {N : Nat} {H : jH} (h : jsp N H) : jK H 45 = (100, 8) := sK h (a := 45) rfl (by decide) (Nat.lt_of_lt_of_le (by decide) h.1)
set_option maxRecDepth 100000 in
theorem sK_46 {N : Nat} {H : jH} (h : jsp N H) : jK H 46 = (100, 64) := sK h (a := 46) rfl (by decide) (Nat.lt_of_lt_of_le (by decide) h.1)
set_option maxRecDepth 100000 in
theorem sK_47 {N : Nat} {H : jH} (h : jsp N H) : jK H 47 = (100, 5) := sK h (a := 47) rfl (by decide) (Nat.lt_of_lt_of_le (by decide) h.1)
set_option maxRecDepth 100000 in
theorem sK_48 {N : Nat} {H : jH} (h : jsp N H) : jK H 48 = (101, 32) := sK h (a := 48) rfl (by decide) (Nat.lt_of_lt_of_le (by decide) h.1)
set_option maxRecDepth 100000 in
theorem sK_49 {H : jH} (h : jsh H) : jK H 49 = (7, 8) := sK h (a := 49) rfl (by decide) (by decide)
set_option maxRecDepth 100000 in
theorem sK_50 {H : jH} (h : jsh H) : jK H 50 = (8, 17) := sK h (a := 50) rfl (by decide) (by decide)
set_option maxRecDepth 100000 in
theorem sK_51 {H : jH} (h : jsh H) : jK H 51 = (100, 8) := sK h (a := 51) rfl (by decide) (by decide)
set_option maxRecDepth 100000 in
theorem sK_52 {H : jH} (h : jsh H) : jK H 52 = (100, 8) := sK h (a := 52) rfl (by decide) (by decide)
set_option maxRecDepth 100000 in
theorem sK_53 {H : jH} (h : jsh H) : jK H 53 = (100, 8) := sK h (a := 53) rfl (by decide) (by decide)
set_option maxRecDepth 100000 in
theorem sK_54 {H : jH} (h : jsh H) : jK H 54 = (100, 8) := sK h (a := 54) rfl (by decide) (by decide)
set_option maxRecDepth 100000 in
theorem sK_55 {H : jH} (h : jsh H) : jK H 55 = (100, 8) := sK h (a := 55) rfl (by decide) (by decide)
set_option maxRecDepth 100000 in
theorem sK_56 {H : jH} (h : jsh H) : jK H 56 = (100, 16) := sK h (a := 56) rfl (by decide) (by decide)
set_option maxRecDepth 100000 in
theorem sK_57 {H : jH} (h : jsh H) : jK H 57 = (100, 8) := sK h (a := 57) rfl (by decide) (by decide)
set_option maxRecDepth 100000 in
theorem sK_168 {H : jH} (h : jsh H) : jK H 168 = (101, 2400) := sK h (a := 168) rfl (by decide) (by decide)
set_option maxRecDepth 100000 in
theorem sK_169 {H : jH} (h : jsh H) : jK H 169 = (101, 32) := sK h (a := 169) rfl (by decide) (by decide)
set_option maxRecDepth 100000 in
theorem sK_170 {H : jH} (h : jsh H) : jK H 170 = (4, 20) := sK h (a := 170) rfl (by decide) (by decide)
set_option maxRecDepth 100000 in
theorem sK_171 {H : jH} (h : jsh H) : jK H 171 = (9, 3) := sK h (a := 171) rfl (by decide) (by decide)
set_option maxRecDepth 100000 in
theorem sK_172 {H : jH} (h : jsh H) : jK H 172 = (110, 70) := sK h (a := 172) rfl (by decide) (by decide)
set_option maxRecDepth 100000 in
theorem sK_243 {H : jH} (h : jsh H) : jK H 243 = (100, 70) := sK h (a := 243) rfl (by decide) (by decide)
set_option maxRecDepth 100000 in
theorem sK_244 {H : jH} (h : jsh H) : jK H 244 = (9, 3) := sK h (a := 244) rfl (by decide) (by decide)
set_option maxRecDepth 100000 in
theorem sK_245 {H : jH} (h : jsh H) : jK H 245 = (110, 70) := sK h (a := 245) rfl (by decide) (by decide)
set_option maxRecDepth 100000 in
theorem sK_316 {H : jH} (h : jsh H) : jK H 316 = (100, 70) := sK h (a := 316) rfl (by decide) (by decide)
set_option maxRecDepth 100000 in
theorem sK_317 {H : jH} (h : jsh H) : jK H 317 = (9, 3) := sK h (a := 317) rfl (by decide) (by decide)
set_option maxRecDepth 100000 in
theorem sK_318 {H : jH} (h : jsh H) : jK H 318 = (110, 70) := sK h (a := 318) rfl (by decide) (by decide)
set_option maxRecDepth 100000 in
theorem sK_389 {H : jH} (h : jsh H) : jK H 389 = (100, 70) := sK h (a := 389) rfl (by decide) (by decide)
set_option maxRecDepth 100000 in
theorem sK_390 {H : jH} (h : jsh H) : jK H 390 = (101, 32) := sK h (a := 390) rfl (by decide) (by decide)
set_option maxRecDepth 100000 in
theorem sK_391 {H : jH} (h : jsh H) : jK H 391 = (102, 200) := sK h (a := 391) rfl (by decide) (by decide)
set_option maxRecDepth 100000 in
theorem sK_392 {H : jH} (h : jsh H) : jK H 392 = (2, 9) := sK h (a := 392) rfl (by decide) (by decide)
set_option maxRecDepth 100000 in
theorem sK_393 {H : jH} (h : jsh H) : jK H 393 = (113, 1500) := sK h (a := 393) rfl (by decide) (by decide)
set_option maxRecDepth 100000 in
theorem sK_394 {H : jH} (h : jsh H) : jK H 394 = (100, 1500) := sK h (a := 394) rfl (by decide) (by decide)
set_option maxRecDepth 100000 in
theorem sK_395 {H : jH} (h : jsh H) : jK H 395 = (100, 1500) := sK h (a := 395) rfl (by decide) (by decide)
set_option maxRecDepth 100000 in
theorem sK_396 {H : jH} (h : jsh H) : jK H 396 = (113, 8) := sK h (a := 396) rfl (by decide) (by decide)
set_option maxRecDepth 100000 in
theorem sK_397 {H : jH} (h : jsh H) : jK H 397 = (100, 8) := sK h (a := 397) rfl (by decide) (by decide)
set_option maxRecDepth 100000 in
theorem sK_398 {H : jH} (h : jsh H) : jK H 398 = (1, 17) := sK h (a := 398) rfl (by decide) (by decide)
set_option maxRecDepth 100000 in
theorem sK_399 {H : jH} (h : jsh H) : jK H 399 = (114, 300) := sK h (a := 399) rfl (by decide) (by decide)
set_option maxRecDepth 100000 in
theorem sK_400 {H : jH} (h : jsh H) : jK H 400 = (114, 300) := sK h (a := 400) rfl (by decide) (by decide)
set_option maxRecDepth 100000 in
theorem sK_401 {H : jH} (h : jsh H) : jK H 401 = (114, 300) := sK h (a := 401) rfl (by decide) (by decide)
set_option maxRecDepth 100000 in
theorem sK_402 {H : jH} (h : jsh H) : jK H 402 = (114, 300) := sK h (a := 402) rfl (by decide) (by decide)
set_option maxRecDepth 100000 in
theorem sK_403 {H : jH} (h : jsh H) : jK H 403 = (100, 9) := sK h (a := 403) rfl (by decide) (by decide)
set_option maxRecDepth 100000 in
theorem sK_404 {H : jH} (h : jsh H) : jK H 404 = (100, 9) := sK h (a := 404) rfl (by decide) (by decide)
set_option maxRecDepth 100000 in
theorem sK_405 {H : jH} (h : jsh H) : jK H 405 = (100, 9) := sK h (a := 405) rfl (by decide) (by decide)
set_option maxRecDepth 100000 in
theorem sK_406 {H : jH} (h : jsh H) : jK H 406 = (103, 11) := sK h (a := 406) rfl (by decide) (by decide)
set_option maxRecDepth 100000 in
theorem sK_407 {H : jH} (h : jsh H) : jK H 407 = (101, 416) := sK h (a := 407) rfl (by decide) (by decide)
set_option maxRecDepth 100000 in
theorem sK_408 {H : jH} (h : jsh H) : jK H 408 = (101, 32) := sK h (a := 408) rfl (by decide) (by decide)
set_option maxRecDepth 100000 in
theorem sK_409 {H : jH} (h : jsh H) : jK H 409 = (101, 82) := sK h (a := 409) rfl (by decide) (by decide)
set_option maxRecDepth 100000 in
theorem sK_410 {H : jH} (h : jsh H) : jK H 410 = (0, 9) := sK h (a := 410) rfl (by decide) (by decide)
set_option maxRecDepth 100000 in
theorem sK_414 {H : jH} (h : jsh H) : jK H 414 = (6, 10) := sK h (a := 414) rfl (by decide) (by decide)
set_option maxRecDepth 100000 in
theorem sK_415 {H : jH} (h : jsh H) : jK H 415 = (113, 41) := sK h (a := 415) rfl (by decide) (by decide)
set_option maxRecDepth 100000 in
theorem sK_416 {H : jH} (h : jsh H) : jK H 416 = (103, 41) := sK h (a := 416) rfl (by decide) (by decide)
set_option maxRecDepth 100000 in
theorem sK_417 {H : jH} (h : jsh H) : jK H 417 = (113, 41) := sK h (a := 417) rfl (by decide) (by decide)
set_option maxRecDepth 100000 in
theorem sK_418 {H : jH} (h : jsh H) : jK H 418 = (102, 41) := sK h (a := 418) rfl (by decide) (by decide)
set_option maxRecDepth 100000 in
theorem sK_419 {H : jH} (h : jsh H) : jK H 419 = (113, 8) := sK h (a := 419) rfl (by decide) (by decide)
set_option maxRecDepth 100000 in
theorem sK_420 {H : jH} (h : jsh H) : jK H 420 = (100, 8) := sK h (a := 420) rfl (by decide) (by decide)
