/-! Where the constructors put what: kinds by number, and the references that nobody writes later. -/
def jKs : List (Nat × Nat) := [(99, 0), (100, 8), (100, 64), (100, 160), (100, 160), (100, 10), (100, 79), (100, 8), (100, 8), (100, 5), (100, 8), (100, 8), (100, 52), (100, 64), (100, 80), (100, 80), (100, 80), (100, 80), (100, 0), (99, 0), (99, 0), (99, 0), (99, 0), (99, 0), (99, 0), (99, 0), (99, 0), (99, 0), (99, 0), (99, 0), (99, 0), (99, 0), (11, 14), (101, 2000), (101, 32), (110, 4), (101, 8000), (101, 8000), (101, 8000), (101, 8000), (100, 4), (100, 4), (101, 2000), (3, 6), (101, 2560), (100, 8), (100, 64), (100, 5), (101, 32), (7, 8), (8, 17), (100, 8), (100, 8), (100, 8), (100, 8), (100, 8), (100, 16), (100, 8), (111, 16), (100, 8), (100, 8), (100, 8), (100, 8), (100, 8), (100, 8), (100, 8), (100, 8), (100, 8), (100, 8), (100, 8), (100, 8), (100, 8), (100, 8), (100, 8), (100, 8), (112, 16), (103, 10), (103, 10), (103, 10), (103, 10), (103, 10), (103, 10), (103, 10), (103, 10), (103, 10), (103, 10), (103, 10), (103, 10), (103, 10), (103, 10), (103, 10), (103, 10), (100, 257), (100, 257), (115, 8), (115, 8), (5, 4), (103, 10), (103, 10), (103, 10), (5, 4), (103, 10), (103, 10), (103, 10), (5, 4), (103, 10), (103, 10), (103, 10), (5, 4), (103, 10), (103, 10), (103, 10), (5, 4), (103, 10), (103, 10), (103, 10), (5, 4), (103, 10), (103, 10), (103, 10), (5, 4), (103, 10), (103, 10), (103, 10), (5, 4), (103, 10), (103, 10), (103, 10), (5, 4), (103, 10), (103, 10), (103, 10), (5, 4), (103, 10), (103, 10), (103, 10), (5, 4), (103, 10), (103, 10), (103, 10), (5, 4), (103, 10), (103, 10), (103, 10), (5, 4), (103, 10), (103, 10), (103, 10), (5, 4), (103, 10), (103, 10), (103, 10), (5, 4), (103, 10), (103, 10), (103, 10), (5, 4), (103, 10), (103, 10), (103, 10), (5, 4), (103, 10), (103, 10), (103, 10), (5, 4), (103, 10), (103, 10), (103, 10), (101, 2400), (101, 32), (4, 20), (9, 3), (110, 70), (101, 120), (101, 120), (101, 120), (101, 120), (101, 120), (101, 120), (101, 120), (101, 120), (101, 120), (101, 120), (101, 120), (101, 120), (101, 120), (101, 120), (101, 120), (101, 120), (101, 120), (101, 120), (101, 120), (101, 120), (101, 120), (101, 120), (101, 120), (101, 120), (101, 120), (101, 120), (101, 120), (101, 120), (101, 120), (101, 120), (101, 120), (101, 120), (101, 120), (101, 120), (101, 120), (101, 120), (101, 120), (101, 120), (101, 120), (101, 120), (101, 120), (101, 120), (101, 120), (101, 120), (101, 120), (101, 120), (101, 120), (101, 120), (101, 120), (101, 120), (101, 120), (101, 120), (101, 120), (101, 120), (101, 120), (101, 120), (101, 120), (101, 120), (101, 120), (101, 120), (101, 120), (101, 120), (101, 120), (101, 120), (101, 120), (101, 120), (101, 120), (101, 120), (101, 120), (101, 120), (100, 70), (9, 3), (110, 70), (101, 120), (101, 120), (101, 120), (101, 120), (101, 120), (101, 120), (101, 120), (101, 120), (101, 120), (101, 120), (101, 120), (101, 120), (101, 120), (101, 120), (101, 120), (101, 120), (101, 120), (101, 120), (101, 120), (101, 120), (101, 120), (101, 120), (101, 120), (101, 120), (101, 120), (101, 120), (101, 120), (101, 120), (101, 120), (101, 120), (101, 120), (101, 120), (101, 120), (101, 120), (101, 120), (101, 120), (101, 120), (101, 120), (101, 120), (101, 120), (101, 120), (101, 120), (101, 120), (101, 120), (101, 120), (101, 120), (101, 120), (101, 120), (101, 120), (101, 120), (101, 120), (101, 120), (101, 120), (101, 120), (101, 120), (101, 120), (101, 120), (101, 120), (101, 120), (101, 120), (101, 120), (101, 120), (101, 120), (101, 120), (101, 120), (101, 120), (101, 120), (101, 120), (101, 120), (101, 120), (100, 70), (9, 3), (110, 70), (101, 120), (101, 120), (101, 120), (101, 120), (101, 120), (101, 120), (101, 120), (101, 120), (101, 120), (101, 120), (101, 120), (101, 120), (101, 120), (101, 120), (101, 120), (101, 120), (101, 120), (101, 120), (101, 120), (101, 120), (101, 120), (101, 120), (101, 120), (101, 120), (101, 120), (101, 120), (101, 120), (101, 120), (101, 120), (101, 120), (101, 120), (101, 120), (101, 120), (101, 120), (101, 120), (101, 120), (101, 120), (101, 120), (101, 120), (101, 120), (101, 120), (101, 120), (101, 120), (101, 120), (101, 120), (101, 120), (101, 120), (101, 120), (101, 120), (101, 120), (101, 120), (101, 120), (101, 120), (101, 120), (101, 120), (101, 120), (101, 120), (101, 120), (101, 120), (101, 120), (101, 120), (101, 120), (101, 120), (101, 120), (101, 120), (101, 120), (101, 120), (101, 120), (101, 120), (101, 120), (100, 70), (101, 32), (102, 200), (2, 9), (113, 1500), (100, 1500), (100, 1500), (113, 8), (100, 8), (1, 17), (114, 300), (114, 300), (114, 300), (114, 300), (100, 9), (100, 9), (100, 9), (103, 11), (101, 416), (101, 32), (101, 82), (0, 9), (101, 32), (113, 0), (100, 8), (6, 10), (113, 41), (103, 41), (113, 41), (102, 41), (113, 8), (100, 8), (18, 61), (12, 4), (100, 64), (100, 8), (100, 10), (101, 32), (15, 10), (13, 7), (100, 480), (103, 22), (103, 22), (100, 20), (102, 4), (100, 100), (101, 4000), (101, 32), (14, 17), (100, 16800), (100, 140), (100, 200), (100, 201), (101, 120), (101, 120), (101, 32), (16, 12), (100, 300), (100, 300), (103, 300), (103, 300), (102, 300), (100, 12000), (100, 40), (100, 40), (100, 40), (103, 11), (17, 15), (100, 8), (103, 8), (100, 8), (100, 8), (100, 8), (103, 8), (100, 8), (100, 8), (17, 15), (100, 8), (103, 8), (100, 8), (100, 8), (100, 8), (103, 8), (100, 8), (100, 8), (101, 600000), (100, 300), (101, 9600), (100, 300), (100, 300), (101, 115200), (101, 384), (100, 13), (101, 54400), (103, 1700), (103, 1700), (100, 1700), (102, 1700), (100, 1700), (100, 1700), (101, 54400), (103, 1700), (103, 1700), (100, 1700), (102, 1700), (100, 1700), (100, 1700), (101, 84000), (100, 42), (101, 1344), (103, 42), (100, 42), (100, 336), (103, 336), (102, 42), (101, 84000), (100, 42), (101, 2000), (101, 32), (101, 448), (101, 32), (101, 32000), (100, 4), (101, 2200)]
def jRs : List (Nat × Nat × Nat) := [(32, 0, 33), (32, 2, 34), (32, 4, 35), (32, 5, 40), (32, 6, 41), (32, 7, 42), (32, 9, 43), (32, 10, 49), (32, 11, 392), (32, 12, 398), (32, 13, 414), (35, 0, 36), (35, 1, 37), (35, 2, 38), (35, 3, 39), (43, 0, 44), (43, 2, 45), (43, 3, 46), (43, 4, 47), (43, 5, 48), (49, 0, 43), (49, 1, 170), (49, 2, 50), (49, 3, 168), (49, 5, 169), (50, 1, 51), (50, 2, 52), (50, 3, 53), (50, 4, 54), (50, 5, 55), (50, 6, 56), (50, 7, 57), (50, 8, 58), (50, 9, 75), (50, 10, 92), (50, 11, 93), (50, 12, 94), (50, 13, 95), (50, 14, 96), (50, 15, 100), (58, 0, 59), (58, 1, 60), (58, 2, 61), (58, 3, 62), (58, 4, 63), (58, 5, 64), (58, 6, 65), (58, 7, 66), (58, 8, 67), (58, 9, 68), (58, 10, 69), (58, 11, 70), (58, 12, 71), (58, 13, 72), (58, 14, 73), (58, 15, 74), (75, 0, 76), (75, 1, 77), (75, 2, 78), (75, 3, 79), (75, 4, 80), (75, 5, 81), (75, 6, 82), (75, 7, 83), (75, 8, 84), (75, 9, 85), (75, 10, 86), (75, 11, 87), (75, 12, 88), (75, 13, 89), (75, 14, 90), (75, 15, 91), (94, 0, 104), (94, 1, 112), (94, 2, 120), (94, 3, 128), (94, 4, 136), (94, 5, 144), (94, 6, 152), (94, 7, 160), (95, 0, 108), (95, 1, 116), (95, 2, 124), (95, 3, 132), (95, 4, 140), (95, 5, 148), (95, 6, 156), (95, 7, 164), (96, 0, 97), (96, 1, 98), (96, 2, 99), (100, 0, 101), (100, 1, 102), (100, 2, 103), (104, 0, 105), (104, 1, 106), (104, 2, 107), (108, 0, 109), (108, 1, 110), (108, 2, 111), (112, 0, 113), (112, 1, 114), (112, 2, 115), (116, 0, 117), (116, 1, 118), (116, 2, 119), (120, 0, 121), (120, 1, 122), (120, 2, 123), (124, 0, 125), (124, 1, 126), (124, 2, 127), (128, 0, 129), (128, 1, 130), (128, 2, 131), (132, 0, 133), (132, 1, 134), (132, 2, 135), (136, 0, 137), (136, 1, 138), (136, 2, 139), (140, 0, 141), (140, 1, 142), (140, 2, 143), (144, 0, 145), (144, 1, 146), (144, 2, 147), (148, 0, 149), (148, 1, 150), (148, 2, 151), (152, 0, 153), (152, 1, 154), (152, 2, 155), (156, 0, 157), (156, 1, 158), (156, 2, 159), (160, 0, 161), (160, 1, 162), (160, 2, 163), (164, 0, 165), (164, 1, 166), (164, 2, 167), (170, 0, 43), (170, 1, 171), (170, 2, 244), (170, 3, 317), (170, 4, 390), (170, 11, 391), (171, 0, 172), (171, 1, 243), (244, 0, 245), (244, 1, 316), (317, 0, 318), (317, 1, 389), (392, 0, 393), (392, 1, 394), (392, 2, 395), (392, 6, 396), (392, 7, 397), (398, 0, 43), (398, 1, 392), (398, 2, 49), (398, 3, 399), (398, 7, 400), (398, 8, 401), (398, 9, 402), (398, 11, 403), (398, 12, 404), (398, 13, 405), (398, 14, 406), (398, 15, 407), (398, 16, 408), (410, 0, 409), (410, 1, 411), (410, 8, 413), (414, 0, 392), (414, 1, 49), (414, 2, 415), (414, 3, 416), (414, 5, 417), (414, 6, 418), (414, 7, 419), (414, 8, 420), (421, 0, 422), (421, 1, 427), (421, 2, 437), (421, 3, 445), (421, 4, 456), (421, 5, 465), (421, 6, 474), (421, 7, 475), (421, 8, 476), (421, 9, 477), (421, 10, 478), (421, 11, 479), (421, 12, 480), (421, 15, 481), (421, 20, 482), (421, 21, 483), (421, 22, 484), (421, 23, 485), (421, 24, 486), (421, 25, 487), (421, 26, 488), (421, 29, 489), (421, 30, 490), (421, 31, 491), (421, 32, 492), (421, 33, 493), (421, 34, 494), (421, 35, 495), (421, 37, 496), (421, 38, 497), (421, 39, 498), (421, 40, 499), (421, 41, 500), (421, 42, 501), (421, 43, 502), (421, 44, 503), (421, 45, 504), (421, 46, 505), (421, 47, 506), (421, 49, 507), (421, 50, 508), (421, 51, 509), (421, 53, 510), (421, 54, 511), (421, 55, 512), (422, 0, 423), (422, 1, 424), (422, 2, 425), (422, 3, 426), (427, 0, 422), (427, 1, 428), (427, 7, 435), (427, 9, 436), (428, 0, 429), (428, 1, 430), (428, 2, 431), (428, 3, 432), (428, 4, 433), (428, 5, 434), (437, 0, 438), (437, 1, 439), (437, 4, 440), (437, 10, 441), (437, 12, 442), (437, 13, 443), (437, 14, 444), (437, 15, 422), (437, 16, 427), (445, 2, 446), (445, 3, 447), (445, 4, 448), (445, 5, 449), (445, 6, 450), (445, 7, 451), (445, 8, 452), (445, 9, 453), (445, 10, 454), (445, 11, 455), (456, 7, 457), (456, 8, 458), (456, 9, 459), (456, 10, 460), (456, 11, 461), (456, 12, 462), (456, 13, 463), (456, 14, 464), (465, 7, 466), (465, 8, 467), (465, 9, 468), (465, 10, 469), (465, 11, 470), (465, 12, 471), (465, 13, 472), (465, 14, 473)]
/-- shapes as far as object N; with N = 513 that of both programs, before it the class's Hash at least -/
def jsp (N : Nat) (H : jH) : Prop := 49 ≤ N ∧ (∀ (a : Nat) (q : Nat × Nat), a < N → a ≠ 18 → jKs[a]? = some q → jK H a = q) ∧ (∀ a, a < 18 → ∀ j, jI H a j = (jvals.getD a []).getD j 0) ∧ (∀ q ∈ jRs, N = 513 ∨ q.1 = 43 → jR H q.1 q.2.1 = q.2.2) ∧ N ≤ jn H ∧ ∀ a, jn H ≤ a → (jK H a).1 = 99
abbrev jsh (H : jH) : Prop := jsp 513 H
theorem sK {N : Nat} {H : jH} (h : jsp N H) {a : Nat} {q : Nat × Nat} (e : jKs[a]? = some q) (hne : a ≠ 18) (hN : a < N) : jK H a = q := h.2.1 a q hN hne e
theorem sR {N : Nat} {H : jH} (h : jsp N H) (i : Nat) {a j r : Nat} (e : jRs[i]? = some (a, j, r)) (hN : N = 513 ∨ a = 43) : jR H a j = r := h.2.2.2.1 (a, j, r) (List.mem_of_getElem? e) hN
theorem jsh_st {N : Nat} {H : jH} (h : jsp N H) {a : Nat} (ha : a < 18) (j : Nat) : jI H a j = (jvals.getD a []).getD j 0 := h.2.2.1 a ha j
theorem jsh_fr {N : Nat} {S : Nat → Nat → Prop} {H H' : jH} (h : jsp N H) (hf : jfr S H H') (h1 : ∀ q ∈ jRs, ¬ S q.1 q.2.1) (h2 : ∀ a, a < 18 → ∀ j, ¬ S a j) : jsp N H' := by
  obtain ⟨a0, a1, a2, a3, a4⟩ := h
  obtain ⟨b1, b2, b3, b4⟩ := hf
  exact ⟨a0, fun a q hN hne e => by rw [b1]; exact a1 a q hN hne e, fun a ha j => by rw [(b4 a j (h2 a ha j)).1]; exact a2 a ha j, fun q hq hN => by rw [(b4 _ _ (h1 q hq)).2.2.1]; exact a3 q hq hN, by rw [b2, b1]; exact a4⟩
theorem sR_32_0 {H : jH} (h : jsh H) : jR H 32 0 = 33 := sR h 0 rfl (Or.inl rfl)
theorem sR_32_2 {H : jH} (h : jsh H) : jR H 32 2 = 34 := sR h 1 rfl (Or.inl rfl)
theorem sR_32_4 {H : jH} (h : jsh H) : jR H 32 4 = 35 := sR h 2 rfl (Or.inl rfl)
theorem sR_32_5 {H : jH} (h : jsh H) : jR H 32 5 = 40 := sR h 3 rfl (Or.inl rfl)
theorem sR_32_6 {H : jH} (h : jsh H) : jR H 32 6 = 41 := sR h 4 rfl (Or.inl rfl)
theorem sR_32_7 {H : jH} (h : jsh H) : jR H 32 7 = 42 := sR h 5 rfl (Or.inl rfl)
theorem sR_32_9 {H : jH} (h : jsh H) : jR H 32 9 = 43 := sR h 6 rfl (Or.inl rfl)
theorem sR_32_10 {H : jH} (h : jsh H) : jR H 32 10 = 49 := sR h 7 rfl (Or.inl rfl)
theorem sR_32_11 {H : jH} (h : jsh H) : jR H 32 11 = 392 := sR h 8 rfl (Or.inl rfl)
theorem sR_32_12 {H : jH} (h : jsh H) : jR H 32 12 = 398 := sR h 9 rfl (Or.inl rfl)
theorem sR_32_13 {H : jH} (h : jsh H) : jR H 32 13 = 414 := sR h 10 rfl (Or.inl rfl)
theorem sR_43_0 {N : Nat} {H : jH} (h : jsp N H) : jR H 43 0 = 44 := sR h 15 rfl (Or.inr rfl)
theorem sR_43_2 {N : Nat} {H : jH} (h : jsp N H) : jR H 43 2 = 45 := sR h 16 rfl (Or.inr rfl)
theorem sR_43_3 {N : Nat} {H : jH} (h : jsp N H) : jR H 43 3 = 46 := sR h 17 rfl (Or.inr rfl)
theorem sR_43_4 {N : Nat} {H : jH} (h : jsp N H) : jR H 43 4 = 47 := sR h 18 rfl (Or.inr rfl)
theorem sR_43_5 {N : Nat} {H : jH} (h : jsp N H) : jR H 43 5 = 48 := sR h 19 rfl (Or.inr rfl)
theorem sR_49_0 {H : jH} (h : jsh H) : jR H 49 0 = 43 := sR h 20 rfl (Or.inl rfl)
theorem sR_49_1 {H : jH} (h : jsh H) : jR H 49 1 = 170 := sR h 21 rfl (Or.inl rfl)
theorem sR_49_2 {H : jH} (h : jsh H) : jR H 49 2 = 50 := sR h 22 rfl (Or.inl rfl)
theorem sR_49_3 {H : jH} (h : jsh H) : jR H 49 3 = 168 := sR h 23 rfl (Or.inl rfl)
theorem sR_49_5 {H : jH} (h : jsh H) : jR H 49 5 = 169 := sR h 24 rfl (Or.inl rfl)
theorem sR_50_1 {H : jH} (h : jsh H) : jR H 50 1 = 51 := sR h 25 rfl (Or.inl rfl)
theorem sR_50_2 {H : jH} (h : jsh H) : jR H 50 2 = 52 := sR h 26 rfl (Or.inl rfl)
theorem sR_50_3 {H : jH} (h : jsh H) : jR H 50 3 = 53 := sR h 27 rfl (Or.inl rfl)
theorem sR_50_4 {H : jH} (h : jsh H) : jR H 50 4 = 54 := sR h 28 rfl (Or.inl rfl)
theorem sR_50_5 {H : jH} (h : jsh H) : jR H 50 5 = 55 := sR h 29 rfl (Or.inl rfl)
theorem sR_50_6 {H : jH} (h : jsh H) : jR H 50 6 = 56 := sR h 30 rfl (Or.inl rfl)
theorem sR_50_7 {H : jH} (h : jsh H) : jR H 50 7 = 57 := sR h 31 rfl (Or.inl rfl)
theorem sR_50_8 {H : jH} (h : jsh H) : jR H 50 8 = 58 := sR h 32 rfl (Or.inl rfl)
theorem sR_50_9 {H : jH} (h : jsh H) : jR H 50 9 = 75 := sR h 33 rfl (Or.inl rfl)
theorem sR_50_10 {H : jH} (h : jsh H) : jR H 50 10 = 92 := sR h 34 rfl (Or.inl rfl)
theorem sR_50_11 {H : jH} (h : jsh H) : jR H 50 11 = 93 := sR h 35 rfl (Or.inl rfl)
theorem sR_50_12 {H : jH} (h : jsh H) : jR H 50 12 = 94 := sR h 36 rfl (Or.inl rfl)
theorem sR_50_13 {H : jH} (h : jsh H) : jR H 50 13 = 95 := sR h 37 rfl (Or.inl rfl)
theorem sR_50_14 {H : jH} (h : jsh H) : jR H 50 14 = 96 := sR h 38 rfl (Or.inl rfl)
theorem sR_50_15 {H : jH} (h : jsh H) : jR H 50 15 = 100 := sR h 39 rfl (Or.inl rfl)
theorem sR_171_0 {H : jH} (h : jsh H) : jR H 171 0 = 172 := sR h 148 rfl (Or.inl rfl)
theorem sR_171_1 {H : jH} (h : jsh H) : jR H 171 1 = 243 := sR h 149 rfl (Or.inl rfl)
theorem sR_244_0 {H : jH} (h : jsh H) : jR H 244 0 = 245 := sR h 150 rfl (Or.inl rfl)
theorem sR_244_1 {H : jH} (h : jsh H) : jR H 244 1 = 316 := sR h 151 rfl (Or.inl rfl)
theorem sR_317_0 {H : jH} (h : jsh H) : jR H 317 0 = 318 := sR h 152 rfl (Or.inl rfl)
theorem sR_317_1 {H : jH} (h : jsh H) : jR H 317 1 = 389 := sR h 153 rfl (Or.inl rfl)
theorem sR_170_0 {H : jH} (h : jsh H) : jR H 170 0 = 43 := sR h 142 rfl (Or.inl rfl)
theorem sR_170_1 {H : jH} (h : jsh H) : jR H 170 1 = 171 := sR h 143 rfl (Or.inl rfl)
theorem sR_170_2 {H : jH} (h : jsh H) : jR H 170 2 = 244 := sR h 144 rfl (Or.inl rfl)
theorem sR_170_3 {H : jH} (h : jsh H) : jR H 170 3 = 317 := sR h 145 rfl (Or.inl rfl)
theorem sR_170_4 {H : jH} (h : jsh H) : jR H 170 4 = 390 := sR h 146 rfl (Or.inl rfl)
theorem sR_170_11 {H : jH} (h : jsh H) : jR H 170 11 = 391 := sR h 147 rfl (Or.inl rfl)
theorem sR_392_0 {H : jH} (h : jsh H) : jR H 392 0 = 393 := sR h 154 rfl (Or.inl rfl)
theorem sR_392_1 {H : jH} (h : jsh H) : jR H 392 1 = 394 := sR h 155 rfl (Or.inl rfl)
theorem sR_392_2 {H : jH} (h : jsh H) : jR H 392 2 = 395 := sR h 156 rfl (Or.inl rfl)
theorem sR_392_6 {H : jH} (h : jsh H) : jR H 392 6 = 396 := sR h 157 rfl (Or.inl rfl)
theorem sR_392_7 {H : jH} (h : jsh H) : jR H 392 7 = 397 := sR h 158 rfl (Or.inl rfl)
theorem sR_398_0 {H : jH} (h : jsh H) : jR H 398 0 = 43 := sR h 159 rfl (Or.inl rfl)
theorem sR_398_1 {H : jH} (h : jsh H) : jR H 398 1 = 392 := sR h 160 rfl (Or.inl rfl)
theorem sR_398_2 {H : jH} (h : jsh H) : jR H 398 2 = 49 := sR h 161 rfl (Or.inl rfl)
theorem sR_398_3 {H : jH} (h : jsh H) : jR H 398 3 = 399 := sR h 162 rfl (Or.inl rfl)
theorem sR_398_7 {H : jH} (h : jsh H) : jR H 398 7 = 400 := sR h 163 rfl (Or.inl rfl)
theorem sR_398_8 {H : jH} (h : jsh H) : jR H 398 8 = 401 := sR h 164 rfl (Or.inl rfl)
theorem sR_398_9 {H : jH} (h : jsh H) : jR H 398 9 = 402 := sR h 165 rfl (Or.inl rfl)
theorem sR_398_11 {H : jH} (h : jsh H) : jR H 398 11 = 403 := sR h 166 rfl (Or.inl rfl)
theorem sR_398_12 {H : jH} (h : jsh H) : jR H 398 12 = 404 := sR h 167 rfl (Or.inl rfl)
theorem sR_398_13 {H : jH} (h : jsh H) : jR H 398 13 = 405 := sR h 168 rfl (Or.inl rfl)
theorem sR_398_14 {H : jH} (h : jsh H) : jR H 398 14 = 406 := sR h 169 rfl (Or.inl rfl)
theorem sR_398_15 {H : jH} (h : jsh H) : jR H 398 15 = 407 := sR h 170 rfl (Or.inl rfl)
theorem sR_398_16 {H : jH} (h : jsh H) : jR H 398 16 = 408 := sR h 171 rfl (Or.inl rfl)
theorem sR_414_0 {H : jH} (h : jsh H) : jR H 414 0 = 392 := sR h 175 rfl (Or.inl rfl)
theorem sR_414_1 {H : jH} (h : jsh H) : jR H 414 1 = 49 := sR h 176 rfl (Or.inl rfl)
theorem sR_414_2 {H : jH} (h : jsh H) : jR H 414 2 = 415 := sR h 177 rfl (Or.inl rfl)
theorem sR_414_3 {H : jH} (h : jsh H) : jR H 414 3 = 416 := sR h 178 rfl (Or.inl rfl)
theorem sR_414_5 {H : jH} (h : jsh H) : jR H 414 5 = 417 := sR h 179 rfl (Or.inl rfl)
theorem sR_414_6 {H : jH} (h : jsh H) : jR H 414 6 = 418 := sR h 180 rfl (Or.inl rfl)
theorem sR_414_7 {H : jH} (h : jsh H) : jR H 414 7 = 419 := sR h 181 rfl (Or.inl rfl)
theorem sR_414_8 {H : jH} (h : jsh H) : jR H 414 8 = 420 := sR h 182 rfl (Or.inl rfl)
theorem sR_421_0 {H : jH} (h : jsh H) : jR H 421 0 = 422 := sR h 183 rfl (Or.inl rfl)
theorem sR_421_1 {H : jH} (h : jsh H) : jR H 421 1 = 427 := sR h 184 rfl (Or.inl rfl)
theorem sR_421_2 {H : jH} (h : jsh H) : jR H 421 2 = 437 := sR h 185 rfl (Or.inl rfl)
theorem sR_421_3 {H : jH} (h : jsh H) : jR H 421 3 = 445 := sR h 186 rfl (Or.inl rfl)
theorem sR_421_4 {H : jH} (h : jsh H) : jR H 421 4 = 456 := sR h 187 rfl (Or.inl rfl)
theorem sR_421_5 {H : jH} (h : jsh H) : jR H 421 5 = 465 := sR h 188 rfl (Or.inl rfl)
theorem sR_421_6 {H : jH} (h : jsh H) : jR H 421 6 = 474 := sR h 189 rfl (Or.inl rfl)
theorem sR_421_7 {H : jH} (h : jsh H) : jR H 421 7 = 475 := sR h 190 rfl (Or.inl rfl)
theorem sR_421_8 {H : jH} (h : jsh H) : jR H 421 8 = 476 := sR h 191 rfl (Or.inl rfl)
theorem sR_421_9 {H : jH} (h : jsh H) : jR H 421 9 = 477 := sR h 192 rfl (Or.inl rfl)
theorem sR_421_10 {H : jH} (h : jsh H) : jR H 421 10 = 478 := sR h 193 rfl (Or.inl rfl)
theorem sR_421_11 {H : jH} (h : jsh H) : jR H 421 11 = 479 := sR h 194 rfl (Or.inl rfl)
theorem sR_421_12 {H : jH} (h : jsh H) : jR H 421 12 = 480 := sR h 195 rfl (Or.inl rfl)
theorem sR_421_15 {H : jH} (h : jsh H) : jR H 421 15 = 481 := sR h 196 rfl (Or.inl rfl)
theorem sR_421_20 {H : jH} (h : jsh H) : jR H 421 20 = 482 := sR h 197 rfl (Or.inl rfl)
theorem sR_421_21 {H : jH} (h : jsh H) : jR H 421 21 = 483 := sR h 198 rfl (Or.inl rfl)
theorem sR_421_22 {H : jH} (h : jsh H) : jR H 421 22 = 484 := sR h 199 rfl (Or.inl rfl)
theorem sR_421_23 {H : jH} (h : jsh H) : jR H 421 23 = 485 := sR h 200 rfl (Or.inl rfl)
theorem sR_421_24 {H : jH} (h : jsh H) : jR H 421 24 = 486 := sR h 201 rfl (Or.inl rfl)
theorem sR_421_25 {H : jH} (h : jsh H) : jR H 421 25 = 487 := sR h 202 rfl (Or.inl rfl)
theorem sR_421_26 {H : jH} (h : jsh H) : jR H 421 26 = 488 := sR h 203 rfl (Or.inl rfl)
theorem sR_421_29 {H : jH} (h : jsh H) : jR H 421 29 = 489 := sR h 204 rfl (Or.inl rfl)
theorem sR_421_30 {H : jH} (h : jsh H) : jR H 421 30 = 490 := sR h 205 rfl (Or.inl rfl)
theorem sR_421_31 {H : jH} (h : jsh H) : jR H 421 31 = 491 := sR h 206 rfl (Or.inl rfl)
theorem sR_421_32 {H : jH} (h : jsh H) : jR H 421 32 = 492 := sR h 207 rfl (Or.inl rfl)
theorem sR_421_33 {H : jH} (h : jsh H) : jR H 421 33 = 493 := sR h 208 rfl (Or.inl rfl)
theorem sR_421_34 {H : jH} (h : jsh H) : jR H 421 34 = 494 := sR h 209 rfl (Or.inl rfl)
theorem sR_421_35 {H : jH} (h : jsh H) : jR H 421 35 = 495 := sR h 210 rfl (Or.inl rfl)
theorem sR_421_37 {H : jH} (h : jsh H) : jR H 421 37 = 496 := sR h 211 rfl (Or.inl rfl)
theorem sR_421_38 {H : jH} (h : jsh H) : jR H 421 38 = 497 := sR h 212 rfl (Or.inl rfl)
theorem sR_421_39 {H : jH} (h : jsh H) : jR H 421 39 = 498 := sR h 213 rfl (Or.inl rfl)
theorem sR_421_40 {H : jH} (h : jsh H) : jR H 421 40 = 499 := sR h 214 rfl (Or.inl rfl)
theorem sR_421_41 {H : jH} (h : jsh H) : jR H 421 41 = 500 := sR h 215 rfl (Or.inl rfl)
theorem sR_421_42 {H : jH} (h : jsh H) : jR H 421 42 = 501 := sR h 216 rfl (Or.inl rfl)
theorem sR_421_43 {H : jH} (h : jsh H) : jR H 421 43 = 502 := sR h 217 rfl (Or.inl rfl)
theorem sR_421_44 {H : jH} (h : jsh H) : jR H 421 44 = 503 := sR h 218 rfl (Or.inl rfl)
theorem sR_421_45 {H : jH} (h : jsh H) : jR H 421 45 = 504 := sR h 219 rfl (Or.inl rfl)
theorem sR_421_46 {H : jH} (h : jsh H) : jR H 421 46 = 505 := sR h 220 rfl (Or.inl rfl)
theorem sR_421_47 {H : jH} (h : jsh H) : jR H 421 47 = 506 := sR h 221 rfl (Or.inl rfl)
theorem sR_421_49 {H : jH} (h : jsh H) : jR H 421 49 = 507 := sR h 222 rfl (Or.inl rfl)
theorem sR_421_50 {H : jH} (h : jsh H) : jR H 421 50 = 508 := sR h 223 rfl (Or.inl rfl)
theorem sR_421_51 {H : jH} (h : jsh H) : jR H 421 51 = 509 := sR h 224 rfl (Or.inl rfl)
theorem sR_421_53 {H : jH} (h : jsh H) : jR H 421 53 = 510 := sR h 225 rfl (Or.inl rfl)
theorem sR_421_54 {H : jH} (h : jsh H) : jR H 421 54 = 511 := sR h 226 rfl (Or.inl rfl)
theorem sR_421_55 {H : jH} (h : jsh H) : jR H 421 55 = 512 := sR h 227 rfl (Or.inl rfl)
theorem sR_422_0 {H : jH} (h : jsh H) : jR H 422 0 = 423 := sR h 228 rfl (Or.inl rfl)
theorem sR_422_1 {H : jH} (h : jsh H) : jR H 422 1 = 424 := sR h 229 rfl (Or.inl rfl)
theorem sR_422_2 {H : jH} (h : jsh H) : jR H 422 2 = 425 := sR h 230 rfl (Or.inl rfl)
theorem sR_422_3 {H : jH} (h : jsh H) : jR H 422 3 = 426 := sR h 231 rfl (Or.inl rfl)
theorem sR_427_0 {H : jH} (h : jsh H) : jR H 427 0 = 422 := sR h 232 rfl (Or.inl rfl)
theorem sR_427_1 {H : jH} (h : jsh H) : jR H 427 1 = 428 := sR h 233 rfl (Or.inl rfl)
theorem sR_427_7 {H : jH} (h : jsh H) : jR H 427 7 = 435 := sR h 234 rfl (Or.inl rfl)
theorem sR_427_9 {H : jH} (h : jsh H) : jR H 427 9 = 436 := sR h 235 rfl (Or.inl rfl)
theorem sR_428_0 {H : jH} (h : jsh H) : jR H 428 0 = 429 := sR h 236 rfl (Or.inl rfl)
theorem sR_428_1 {H : jH} (h : jsh H) : jR H 428 1 = 430 := sR h 237 rfl (Or.inl rfl)
theorem sR_428_2 {H : jH} (h : jsh H) : jR H 428 2 = 431 := sR h 238 rfl (Or.inl rfl)
theorem sR_428_3 {H : jH} (h : jsh H) : jR H 428 3 = 432 := sR h 239 rfl (Or.inl rfl)
theorem sR_428_4 {H : jH} (h : jsh H) : jR H 428 4 = 433 := sR h 240 rfl (Or.inl rfl)
theorem sR_428_5 {H : jH} (h : jsh H) : jR H 428 5 = 434 := sR h 241 rfl (Or.inl rfl)
theorem sR_437_0 {H : jH} (h : jsh H) : jR H 437 0 = 438 := sR h 242 rfl (Or.inl rfl)
theorem sR_437_1 {H : jH} (h : jsh H) : jR H 437 1 = 439 := sR h 243 rfl (Or.inl rfl)
theorem sR_437_4 {H : jH} (h : jsh H) : jR H 437 4 = 440 := sR h 244 rfl (Or.inl rfl)
theorem sR_437_10 {H : jH} (h : jsh H) : jR H 437 10 = 441 := sR h 245 rfl (Or.inl rfl)
theorem sR_437_12 {H : jH} (h : jsh H) : jR H 437 12 = 442 := sR h 246 rfl (Or.inl rfl)
theorem sR_437_13 {H : jH} (h : jsh H) : jR H 437 13 = 443 := sR h 247 rfl (Or.inl rfl)
theorem sR_437_14 {H : jH} (h : jsh H) : jR H 437 14 = 444 := sR h 248 rfl (Or.inl rfl)
theorem sR_437_15 {H : jH} (h : jsh H) : jR H 437 15 = 422 := sR h 249 rfl (Or.inl rfl)
theorem sR_437_16 {H : jH} (h : jsh H) : jR H 437 16 = 427 := sR h 250 rfl (Or.inl rfl)
theorem sR_445_2 {H : jH} (h : jsh H) : jR H 445 2 = 446 := sR h 251 rfl (Or.inl rfl)
theorem sR_445_3 {H : jH} (h : jsh H) : jR H 445 3 = 447 := sR h 252 rfl (Or.inl rfl)
theorem sR_445_4 {H : jH} (h : jsh H) : jR H 445 4 = 448 := sR h 253 rfl (Or.inl rfl)
theorem sR_445_5 {H : jH} (h : jsh H) : jR H 445 5 = 449 := sR h 254 rfl (Or.inl rfl)
theorem sR_445_6 {H : jH} (h : jsh H) : jR H 445 6 = 450 := sR h 255 rfl (Or.inl rfl)
theorem sR_445_7 {H : jH} (h : jsh H) : jR H 445 7 = 451 := sR h 256 rfl (Or.inl rfl)
theorem sR_445_8 {H : jH} (h : jsh H) : jR H 445 8 = 452 := sR h 257 rfl (Or.inl rfl)
theorem sR_445_9 {H : jH} (h : jsh H) : jR H 445 9 = 453 := sR h 258 rfl (Or.inl rfl)
theorem sR_445_10 {H : jH} (h : jsh H) : jR H 445 10 = 454 := sR h 259 rfl (Or.inl rfl)
theorem sR_445_11 {H : jH} (h : jsh H) : jR H 445 11 = 455 := sR h 260 rfl (Or.inl rfl)
theorem sR_456_7 {H : jH} (h : jsh H) : jR H 456 7 = 457 := sR h 261 rfl (Or.inl rfl)
theorem sR_456_8 {H : jH} (h : jsh H) : jR H 456 8 = 458 := sR h 262 rfl (Or.inl rfl)
theorem sR_456_9 {H : jH} (h : jsh H) : jR H 456 9 = 459 := sR h 263 rfl (Or.inl rfl)
theorem sR_456_10 {H : jH} (h : jsh H) : jR H 456 10 = 460 := sR h 264 rfl (Or.inl rfl)
theorem sR_456_11 {H : jH} (h : jsh H) : jR H 456 11 = 461 := sR h 265 rfl (Or.inl rfl)
theorem sR_456_12 {H : jH} (h : jsh H) : jR H 456 12 = 462 := sR h 266 rfl (Or.inl rfl)
theorem sR_456_13 {H : jH} (h : jsh H) : jR H 456 13 = 463 := sR h 267 rfl (Or.inl rfl)
theorem sR_456_14 {H : jH} (h : jsh H) : jR H 456 14 = 464 := sR h 268 rfl (Or.inl rfl)
theorem sR_465_7 {H : jH} (h : jsh H) : jR H 465 7 = 466 := sR h 269 rfl (Or.inl rfl)
theorem sR_465_8 {H : jH} (h : jsh H) : jR H 465 8 = 467 := sR h 270 rfl (Or.inl rfl)
theorem sR_465_9 {H : jH} (h : jsh H) : jR H 465 9 = 468 := sR h 271 rfl (Or.inl rfl)
theorem sR_465_10 {H : jH} (h : jsh H) : jR H 465 10 = 469 := sR h 272 rfl (Or.inl rfl)
theorem sR_465_11 {H : jH} (h : jsh H) : jR H 465 11 = 470 := sR h 273 rfl (Or.inl rfl)
theorem sR_465_12 {H : jH} (h : jsh H) : jR H 465 12 = 471 := sR h 274 rfl (Or.inl rfl)
theorem sR_465_13 {H : jH} (h : jsh H) : jR H 465 13 = 472 := sR h 275 rfl (Or.inl rfl)
theorem sR_465_14 {H : jH} (h : jsh H) : jR H 465 14 = 473 := sR h 276 rfl (Or.inl rfl)
theorem sR_35_0 {H : jH} (h : jsh H) : jR H 35 0 = 36 := sR h 11 rfl (Or.inl rfl)
theorem sR_35_1 {H : jH} (h : jsh H) : jR H 35 1 = 37 := sR h 12 rfl (Or.inl rfl)
theorem sR_35_2 {H : jH} (h : jsh H) : jR H 35 2 = 38 := sR h 13 rfl (Or.inl rfl)
theorem sR_35_3 {H : jH} (h : jsh H) : jR H 35 3 = 39 := sR h 14 rfl (Or.inl rfl)
set_option maxRecDepth 100000 in
theorem sK_1 {N : Nat} {H : jH} (h : jsp N H) : jK H 1 = (100, 8) := sK h (a := 1) rfl (by decide) (Nat.lt_of_lt_of_le (by decide) h.1)
set_option maxRecDepth 100000 in
theorem sK_2 {N : Nat} {H : jH} (h : jsp N H) : jK H 2 = (100, 64) := sK h (a := 2) rfl (by decide) (Nat.lt_of_lt_of_le (by decide) h.1)
set_option maxRecDepth 100000 in
theorem sK_3 {N : Nat} {H : jH} (h : jsp N H) : jK H 3 = (100, 160) := sK h (a := 3) rfl (by decide) (Nat.lt_of_lt_of_le (by decide) h.1)
set_option maxRecDepth 100000 in
theorem sK_4 {N : Nat} {H : jH} (h : jsp N H) : jK H 4 = (100, 160) := sK h (a := 4) rfl (by decide) (Nat.lt_of_lt_of_le (by decide) h.1)
set_option maxRecDepth 100000 in
theorem sK_5 {N : Nat} {H : jH} (h : jsp N H) : jK H 5 = (100, 10) := sK h (a := 5) rfl (by decide) (Nat.lt_of_lt_of_le (by decide) h.1)
set_option maxRecDepth 100000 in
theorem sK_6 {N : Nat} {H : jH} (h : jsp N H) : jK H 6 = (100, 79) := sK h (a := 6) rfl (by decide) (Nat.lt_of_lt_of_le (by decide) h.1)
set_option maxRecDepth 100000 in
theorem sK_7 {N : Nat} {H : jH} (h : jsp N H) : jK H 7 = (100, 8) := sK h (a := 7) rfl (by decide) (Nat.lt_of_lt_of_le (by decide) h.1)
set_option maxRecDepth 100000 in
theorem sK_8 {N : Nat} {H : jH} (h : jsp N H) : jK H 8 = (100, 8) := sK h (a := 8) rfl (by decide) (Nat.lt_of_lt_of_le (by decide) h.1)
set_option maxRecDepth 100000 in
theorem sK_9 {N : Nat} {H : jH} (h : jsp N H) : jK H 9 = (100, 5) := sK h (a := 9) rfl (by decide) (Nat.lt_of_lt_of_le (by decide) h.1)
set_option maxRecDepth 100000 in
theorem sK_10 {N : Nat} {H : jH} (h : jsp N H) : jK H 10 = (100, 8) := sK h (a := 10) rfl (by decide) (Nat.lt_of_lt_of_le (by decide) h.1)
set_option maxRecDepth 100000 in
theorem sK_11 {N : Nat} {H : jH} (h : jsp N H) : jK H 11 = (100, 8) := sK h (a := 11) rfl (by decide) (Nat.lt_of_lt_of_le (by decide) h.1)
set_option maxRecDepth 100000 in
theorem sK_12 {N : Nat} {H : jH} (h : jsp N H) : jK H 12 = (100, 52) := sK h (a := 12) rfl (by decide) (Nat.lt_of_lt_of_le (by decide) h.1)
set_option maxRecDepth 100000 in
theorem sK_13 {N : Nat} {H : jH} (h : jsp N H) : jK H 13 = (100, 64) := sK h (a := 13) rfl (by decide) (Nat.lt_of_lt_of_le (by decide) h.1)
set_option maxRecDepth 100000 in
theorem sK_14 {N : Nat} {H : jH} (h : jsp N H) : jK H 14 = (100, 80) := sK h (a := 14) rfl (by decide) (Nat.lt_of_lt_of_le (by decide) h.1)
set_option maxRecDepth 100000 in
theorem sK_15 {N : Nat} {H : jH} (h : jsp N H) : jK H 15 = (100, 80) := sK h (a := 15) rfl (by decide) (Nat.lt_of_lt_of_le (by decide) h.1)
set_option maxRecDepth 100000 in
theorem sK_16 {N : Nat} {H : jH} (h : jsp N H) : jK H 16 = (100, 80) := sK h (a := 16) rfl (by decide) (Nat.lt_of_lt_of_le (by decide) h.1)
set_option maxRecDepth 100000 in
theorem sK_17 {N : Nat} {H : jH} (h : jsp N H) : jK H 17 = (100, 80) := sK h (a := 17) rfl (by decide) (Nat.lt_of_lt_of_le (by decide) h.1)
set_option maxRecDepth 100000 in
theorem sK_32 {N : Nat} {H : jH} (h : jsp N H) : jK H 32 = (11, 14) := sK h (a := 32) rfl (by decide) (Nat.lt_of_lt_of_le (by decide) h.1)
set_option maxRecDepth 100000 in
theorem sK_33 {N : Nat} {H : jH} (h : jsp N H) : jK H 33 = (101, 2000) := sK h (a := 33) rfl (by decide) (Nat.lt_of_lt_of_le (by decide) h.1)
set_option maxRecDepth 100000 in
theorem sK_34 {N : Nat} {H : jH} (h : jsp N H) : jK H 34 = (101, 32) := sK h (a := 34) rfl (by decide) (Nat.lt_of_lt_of_le (by decide) h.1)
set_option maxRecDepth 100000 in
theorem sK_35 {N : Nat} {H : jH} (h : jsp N H) : jK H 35 = (110, 4) := sK h (a := 35) rfl (by decide) (Nat.lt_of_lt_of_le (by decide) h.1)
set_option maxRecDepth 100000 in
theorem sK_36 {N : Nat} {H : jH} (h : jsp N H) : jK H 36 = (101, 8000) := sK h (a := 36) rfl (by decide) (Nat.lt_of_lt_of_le (by decide) h.1)
set_option maxRecDepth 100000 in
theorem sK_37 {N : Nat} {H : jH} (h : jsp N H) : jK H 37 = (101, 8000) := sK h (a := 37) rfl (by decide) (Nat.lt_of_lt_of_le (by decide) h.1)
set_option maxRecDepth 100000 in
theorem sK_38 {N : Nat} {H : jH} (h : jsp N H) : jK H 38 = (101, 8000) := sK h (a := 38) rfl (by decide) (Nat.lt_of_lt_of_le (by decide) h.1)
set_option maxRecDepth 100000 in
theorem sK_39 {N : Nat} {H : jH} (h : jsp N H) : jK H 39 = (101, 8000) := sK h (a := 39) rfl (by decide) (Nat.lt_of_lt_of_le (by decide) h.1)
set_option maxRecDepth 100000 in
theorem sK_40 {N : Nat} {H : jH} (h : jsp N H) : jK H 40 = (100, 4) := sK h (a := 40) rfl (by decide) (Nat.lt_of_lt_of_le (by decide) h.1)
set_option maxRecDepth 100000 in
theorem sK_41 {N : Nat} {H : jH} (h : jsp N H) : jK H 41 = (100, 4) := sK h (a := 41) rfl (by decide) (Nat.lt_of_lt_of_le (by decide) h.1)
set_option maxRecDepth 100000 in
theorem sK_42 {N : Nat} {H : jH} (h : jsp N H) : jK H 42 = (101, 2000) := sK h (a := 42) rfl (by decide) (Nat.lt_of_lt_of_le (by decide) h.1)
set_option maxRecDepth 100000 in
theorem sK_43 {N : Nat} {H : jH} (h : jsp N H) : jK H 43 = (3, 6) := sK h (a := 43) rfl (by decide) (Nat.lt_of_lt_of_le (by decide) h.1)
set_option maxRecDepth 100000 in
theorem sK_44 {N : Nat} {H : jH} (h : jsp N H) : jK H 44 = (101, 2560) := sK h (a := 44) rfl (by decide) (Nat.lt_of_lt_of_le (by decide) h.1)
set_option maxRecDepth 100000 in
theorem sK_45 {N : Nat} {H : jH} (h : jsp N H) : jK H 45 = (100, 8) := sK h (a := 45) rfl (by decide) (Nat.lt_of_lt_of_le (by decide) h.1)
set_option maxRecDepth 100000 in
theorem sK_46 {N : Nat} {H : jH} (h : jsp N H) : jK H 46 = (100, 64) := sK h (a := 46) rfl (by decide) (Nat.lt_of_lt_of_le (by decide) h.1)
set_option maxRecDepth 100000 in
theorem sK_47 {N : Nat} {H : jH} (h : jsp N H) : jK H 47 = (100, 5) := sK h (a := 47) rfl (by decide) (Nat.lt_of_lt_of_le (by decide) h.1)
set_option maxRecDepth 100000 in
theorem sK_48 {N : Nat} {H : jH} (h : jsp N H) : jK H 48 = (101, 32) := sK h (a := 48) rfl (by decide) (Nat.lt_of_lt_of_le (by decide) h.1)
set_option maxRecDepth 100000 in
theorem sK_49 {H : jH} (h : jsh H) : jK H 49 = (7, 8) := sK h (a := 49) rfl (by decide) (by decide)
set_option maxRecDepth 100000 in
theorem sK_50 {H : jH} (h : jsh H) : jK H 50 = (8, 17) := sK h (a := 50) rfl (by decide) (by decide)
set_option maxRecDepth 100000 in
theorem sK_51 {H : jH} (h : jsh H) : jK H 51 = (100, 8) := sK h (a := 51) rfl (by decide) (by decide)
set_option maxRecDepth 100000 in
theorem sK_52 {H : jH} (h : jsh H) : jK H 52 = (100, 8) := sK h (a := 52) rfl (by decide) (by decide)
set_option maxRecDepth 100000 in
theorem sK_53 {H : jH} (h : jsh H) : jK H 53 = (100, 8) := sK h (a := 53) rfl (by decide) (by decide)
set_option maxRecDepth 100000 in
theorem sK_54 {H : jH} (h : jsh H) : jK H 54 = (100, 8) := sK h (a := 54) rfl (by decide) (by decide)
set_option maxRecDepth 100000 in
theorem sK_55 {H : jH} (h : jsh H) : jK H 55 = (100, 8) := sK h (a := 55) rfl (by decide) (by decide)
set_option maxRecDepth 100000 in
theorem sK_56 {H : jH} (h : jsh H) : jK H 56 = (100, 16) := sK h (a := 56) rfl (by decide) (by decide)
set_option maxRecDepth 100000 in
theorem sK_57 {H : jH} (h : jsh H) : jK H 57 = (100, 8) := sK h (a := 57) rfl (by decide) (by decide)
set_option maxRecDepth 100000 in
theorem sK_58 {H : jH} (h : jsh H) : jK H 58 = (111, 16) := sK h (a := 58) rfl (by decide) (by decide)
set_option maxRecDepth 100000 in
theorem sK_59 {H : jH} (h : jsh H) : jK H 59 = (100, 8) := sK h (a := 59) rfl (by decide) (by decide)
set_option maxRecDepth 100000 in
theorem sK_60 {H : jH} (h : jsh H) : jK H 60 = (100, 8) := sK h (a := 60) rfl (by decide) (by decide)
set_option maxRecDepth 100000 in
theorem sK_61 {H : jH} (h : jsh H) : jK H 61 = (100, 8) := sK h (a := 61) rfl (by decide) (by decide)
set_option maxRecDepth 100000 in
theorem sK_62 {H : jH} (h : jsh H) : jK H 62 = (100, 8) := sK h (a := 62) rfl (by decide) (by decide)
set_option maxRecDepth 100000 in
theorem sK_63 {H : jH} (h : jsh H) : jK H 63 = (100, 8) := sK h (a := 63) rfl (by decide) (by decide)
set_option maxRecDepth 100000 in
theorem sK_64 {H : jH} (h : jsh H) : jK H 64 = (100, 8) := sK h (a := 64) rfl (by decide) (by decide)
set_option maxRecDepth 100000 in
theorem sK_65 {H : jH} (h : jsh H) : jK H 65 = (100, 8) := sK h (a := 65) rfl (by decide) (by decide)
set_option maxRecDepth 100000 in
theorem sK_66 {H : jH} (h : jsh H) : jK H 66 = (100, 8) := sK h (a := 66) rfl (by decide) (by decide)
set_option maxRecDepth 100000 in
theorem sK_67 {H : jH} (h : jsh H) : jK H 67 = (100, 8) := sK h (a := 67) rfl (by decide) (by decide)
set_option maxRecDepth 100000 in
theorem sK_68 {H : jH} (h : jsh H) : jK H 68 = (100, 8) := sK h (a := 68) rfl (by decide) (by decide)
set_option maxRecDepth 100000 in
theorem sK_69 {H : jH} (h : jsh H) : jK H 69 = (100, 8) := sK h (a := 69) rfl (by decide) (by decide)
set_option maxRecDepth 100000 in
theorem sK_70 {H : jH} (h : jsh H) : jK H 70 = (100, 8) := sK h (a := 70) rfl (by decide) (by decide)
set_option maxRecDepth 100000 in
theorem sK_71 {H : jH} (h : jsh H) : jK H 71 = (100, 8) := sK h (a := 71) rfl (by decide) (by decide)
set_option maxRecDepth 100000 in
theorem sK_72 {H : jH} (h : jsh H) : jK H 72 = (100, 8) := sK h (a := 72) rfl (by decide) (by decide)
set_option maxRecDepth 100000 in
theorem sK_73 {H : jH} (h : jsh H) : jK H 73 = (100, 8) := sK h (a := 73) rfl (by decide) (by decide)
set_option maxRecDepth 100000 in
theorem sK_74 {H : jH} (h : jsh H) : jK H 74 = (100, 8) := sK h (a := 74) rfl (by decide) (by decide)
set_option maxRecDepth 100000 in
theorem sK_75 {H : jH} (h : jsh H) : jK H 75 = (112, 16) := sK h (a := 75) rfl (by decide) (by decide)
set_option maxRecDepth 100000 in
theorem sK_76 {H : jH} (h : jsh H) : jK H 76 = (103, 10) := sK h (a := 76) rfl (by decide) (by decide)
set_option maxRecDepth 100000 in
theorem sK_77 {H : jH} (h : jsh H) : jK H 77 = (103, 10) := sK h (a := 77) rfl (by decide) (by decide)
set_option maxRecDepth 100000 in
theorem sK_78 {H : jH} (h : jsh H) : jK H 78 = (103, 10) := sK h (a := 78) rfl (by decide) (by decide)
set_option maxRecDepth 100000 in
theorem sK_79 {H : jH} (h : jsh H) : jK H 79 = (103, 10) := sK h (a := 79) rfl (by decide) (by decide)
set_option maxRecDepth 100000 in
theorem sK_80 {H : jH} (h : jsh H) : jK H 80 = (103, 10) := sK h (a := 80) rfl (by decide) (by decide)
set_option maxRecDepth 100000 in
theorem sK_81 {H : jH} (h : jsh H) : jK H 81 = (103, 10) := sK h (a := 81) rfl (by decide) (by decide)
set_option maxRecDepth 100000 in
theorem sK_82 {H : jH} (h : jsh H) : jK H 82 = (103, 10) := sK h (a := 82) rfl (by decide) (by decide)
set_option maxRecDepth 100000 in
theorem sK_83 {H : jH} (h : jsh H) : jK H 83 = (103, 10) := sK h (a := 83) rfl (by decide) (by decide)
set_option maxRecDepth 100000 in
theorem sK_84 {H : jH} (h : jsh H) : jK H 84 = (103, 10) := sK h (a := 84) rfl (by decide) (by decide)
set_option maxRecDepth 100000 in
theorem sK_85 {H : jH} (h : jsh H) : jK H 85 = (103, 10) := sK h (a := 85) rfl (by decide) (by decide)
set_option maxRecDepth 100000 in
theorem sK_86 {H : jH} (h : jsh H) : jK H 86 = (103, 10) := sK h (a := 86) rfl (by decide) (by decide)
set_option maxRecDepth 100000 in
theorem sK_87 {H : jH} (h : jsh H) : jK H 87 = (103, 10) := sK h (a := 87) rfl (by decide) (by decide)
set_option maxRecDepth 100000 in
theorem sK_88 {H : jH} (h : jsh H) : jK H 88 = (103, 10) := sK h (a := 88) rfl (by decide) (by decide)
set_option maxRecDepth 100000 in
theorem sK_89 {H : jH} (h : jsh H) : jK H 89 = (103, 10) := sK h (a := 89) rfl (by decide) (by decide)
set_option maxRecDepth 100000 in
theorem sK_90 {H : jH} (h : jsh H) : jK H 90 = (103, 10) := sK h (a := 90) rfl (by decide) (by decide)
set_option maxRecDepth 100000 in
theorem sK_91 {H : jH} (h : jsh H) : jK H 91 = (103, 10) := sK h (a := 91) rfl (by decide) (by decide)
set_option maxRecDepth 100000 in
theorem sK_92 {H : jH} (h : jsh H) : jK H 92 = (100, 257) := sK h (a := 92) rfl (by decide) (by decide)
set_option maxRecDepth 100000 in
theorem sK_93 {H : jH} (h : jsh H) : jK H 93 = (100, 257) := sK h (a := 93) rfl (by decide) (by decide)
set_option maxRecDepth 100000 in
theorem sK_94 {H : jH} (h : jsh H) : jK H 94 = (115, 8) := sK h (a := 94) rfl (by decide) (by decide)
set_option maxRecDepth 100000 in
theorem sK_95 {H : jH} (h : jsh H) : jK H 95 = (115, 8) := sK h (a := 95) rfl (by decide) (by decide)
set_option maxRecDepth 100000 in
theorem sK_96 {H : jH} (h : jsh H) : jK H 96 = (5, 4) := sK h (a := 96) rfl (by decide) (by decide)
set_option maxRecDepth 100000 in
theorem sK_97 {H : jH} (h : jsh H) : jK H 97 = (103, 10) := sK h (a := 97) rfl (by decide) (by decide)
set_option maxRecDepth 100000 in
theorem sK_98 {H : jH} (h : jsh H) : jK H 98 = (103, 10) := sK h (a := 98) rfl (by decide) (by decide)
set_option maxRecDepth 100000 in
theorem sK_99 {H : jH} (h : jsh H) : jK H 99 = (103, 10) := sK h (a := 99) rfl (by decide) (by decide)
set_option maxRecDepth 100000 in
theorem sK_100 {H : jH} (h : jsh H) : jK H 100 = (5, 4) := sK h (a := 100) rfl (by decide) (by decide)
set_option maxRecDepth 100000 in
theorem sK_101 {H : jH} (h : jsh H) : jK H 101 = (103, 10) := sK h (a := 101) rfl (by decide) (by decide)
set_option maxRecDepth 100000 in
theorem sK_102 {H : jH} (h : jsh H) : jK H 102 = (103, 10) := sK h (a := 102) rfl (by decide) (by decide)
set_option maxRecDepth 100000 in
theorem sK_103 {H : jH} (h : jsh H) : jK H 103 = (103, 10) := sK h (a := 103) rfl (by decide) (by decide)
set_option maxRecDepth 100000 in
theorem sK_104 {H : jH} (h : jsh H) : jK H 104 = (5, 4) := sK h (a := 104) rfl (by decide) (by decide)
set_option maxRecDepth 100000 in
theorem sK_105 {H : jH} (h : jsh H) : jK H 105 = (103, 10) := sK h (a := 105) rfl (by decide) (by decide)
set_option maxRecDepth 100000 in
theorem sK_106 {H : jH} (h : jsh H) : jK H 106 = (103, 10) := sK h (a := 106) rfl (by decide) (by decide)
set_option maxRecDepth 100000 in
theorem sK_107 {H : jH} (h : jsh H) : jK H 107 = (103, 10) := sK h (a := 107) rfl (by decide) (by decide)
set_option maxRecDepth 100000 in
theorem sK_108 {H : jH} (h : jsh H) : jK H 108 = (5, 4) := sK h (a := 108) rfl (by decide) (by decide)
set_option maxRecDepth 100000 in
theorem sK_109 {H : jH} (h : jsh H) : jK H 109 = (103, 10) := sK h (a := 109) rfl (by decide) (by decide)
set_option maxRecDepth 100000 in
theorem sK_110 {H : jH} (h : jsh H) : jK H 110 = (103, 10) := sK h (a := 110) rfl (by decide) (by decide)
set_option maxRecDepth 100000 in
theorem sK_111 {H : jH} (h : jsh H) : jK H 111 = (103, 10) := sK h (a := 111) rfl (by decide) (by decide)
set_option maxRecDepth 100000 in
theorem sK_112 {H : jH} (h : jsh H) : jK H 112 = (5, 4) := sK h (a := 112) rfl (by decide) (by decide)
set_option maxRecDepth 100000 in
theorem sK_113 {H : jH} (h : jsh H) : jK H 113 = (103, 10) := sK h (a := 113) rfl (by decide) (by decide)
set_option maxRecDepth 100000 in
theorem sK_114 {H : jH} (h : jsh H) : jK H 114 = (103, 10) := sK h (a := 114) rfl (by decide) (by decide)
set_option maxRecDepth 100000 in
theorem sK_115 {H : jH} (h : jsh H) : jK H 115 = (103, 10) := sK h (a := 115) rfl (by decide) (by decide)
set_option maxRecDepth 100000 in
theorem sK_116 {H : jH} (h : jsh H) : jK H 116 = (5, 4) := sK h (a := 116) rfl (by decide) (by decide)
set_option maxRecDepth 100000 in
theorem sK_117 {H : jH} (h : jsh H) : jK H 117 = (103, 10) := sK h (a := 117) rfl (by decide) (by decide)
set_option maxRecDepth 100000 in
theorem sK_118 {H : jH} (h : jsh H) : jK H 118 = (103, 10) := sK h (a := 118) rfl (by decide) (by decide)
set_option maxRecDepth 100000 in
theorem sK_119 {H : jH} (h : jsh H) : jK H 119 = (103, 10) := sK h (a := 119) rfl (by decide) (by decide)
set_option maxRecDepth 100000 in
theorem sK_120 {H : jH} (h : jsh H) : jK H 120 = (5, 4) := sK h (a := 120) rfl (by decide) (by decide)
set_option maxRecDepth 100000 in
theorem sK_121 {H : jH} (h : jsh H) : jK H 121 = (103, 10) := sK h (a := 121) rfl (by decide) (by decide)
set_option maxRecDepth 100000 in
theorem sK_122 {H : jH} (h : jsh H) : jK H 122 = (103, 10) := sK h (a := 122) rfl (by decide) (by decide)
set_option maxRecDepth 100000 in
theorem sK_123 {H : jH} (h : jsh H) : jK H 123 = (103, 10) := sK h (a := 123) rfl (by decide) (by decide)
set_option maxRecDepth 100000 in
theorem sK_124 {H : jH} (h : jsh H) : jK H 124 = (5, 4) := sK h (a := 124) rfl (by decide) (by decide)
set_option maxRecDepth 100000 in
theorem sK_125 {H : jH} (h : jsh H) : jK H 125 = (103, 10) := sK h (a := 125) rfl (by decide) (by decide)
set_option maxRecDepth 100000 in
theorem sK_126 {H : jH} (h : jsh H) : jK H 126 = (103, 10) := sK h (a := 126) rfl (by decide) (by decide)
set_option maxRecDepth 100000 in
theorem sK_127 {H : jH} (h : jsh H) : jK H 127 = (103, 10) := sK h (a := 127) rfl (by decide) (by decide)
set_option maxRecDepth 100000 in
theorem sK_128 {H : jH} (h : jsh H) : jK H 128 = (5, 4) := sK h (a := 128) rfl (by decide) (by decide)
set_option maxRecDepth 100000 in
theorem sK_129 {H : jH} (h : jsh H) : jK H 129 = (103, 10) := sK h (a := 129) rfl (by decide) (by decide)
set_option maxRecDepth 100000 in
theorem sK_130 {H : jH} (h : jsh H) : jK H 130 = (103, 10) := sK h (a := 130) rfl (by decide) (by decide)
set_option maxRecDepth 100000 in
theorem sK_131 {H : jH} (h : jsh H) : jK H 131 = (103, 10) := sK h (a := 131) rfl (by decide) (by decide)
set_option maxRecDepth 100000 in
theorem sK_132 {H : jH} (h : jsh H) : jK H 132 = (5, 4) := sK h (a := 132) rfl (by decide) (by decide)
set_option maxRecDepth 100000 in
theorem sK_133 {H : jH} (h : jsh H) : jK H 133 = (103, 10) := sK h (a := 133) rfl (by decide) (by decide)
set_option maxRecDepth 100000 in
theorem sK_134 {H : jH} (h : jsh H) : jK H 134 = (103, 10) := sK h (a := 134) rfl (by decide) (by decide)
set_option maxRecDepth 100000 in
theorem sK_135 {H : jH} (h : jsh H) : jK H 135 = (103, 10) := sK h (a := 135) rfl (by decide) (by decide)
set_option maxRecDepth 100000 in
theorem sK_136 {H : jH} (h : jsh H) : jK H 136 = (5, 4) := sK h (a := 136) rfl (by decide) (by decide)
set_option maxRecDepth 100000 in
theorem sK_137 {H : jH} (h : jsh H) : jK H 137 = (103, 10) := sK h (a := 137) rfl (by decide) (by decide)
set_option maxRecDepth 100000 in
theorem sK_138 {H : jH} (h : jsh H) : jK H 138 = (103, 10) := sK h (a := 138) rfl (by decide) (by decide)
set_option maxRecDepth 100000 in
theorem sK_139 {H : jH} (h : jsh H) : jK H 139 = (103, 10) := sK h (a := 139) rfl (by decide) (by decide)
set_option maxRecDepth 100000 in
theorem sK_140 {H : jH} (h : jsh H) : jK H 140 = (5, 4) := sK h (a := 140) rfl (by decide) (by decide)
set_option maxRecDepth 100000 in
theorem sK_141 {H : jH} (h : jsh H) : jK H 141 = (103, 10) := sK h (a := 141) rfl (by decide) (by decide)
set_option maxRecDepth 100000 in
theorem sK_142 {H : jH} (h : jsh H) : jK H 142 = (103, 10) := sK h (a := 142) rfl (by decide) (by decide)
set_option maxRecDepth 100000 in
theorem sK_143 {H : jH} (h : jsh H) : jK H 143 = (103, 10) := sK h (a := 143) rfl (by decide) (by decide)
set_option maxRecDepth 100000 in
theorem sK_144 {H : jH} (h : jsh H) : jK H 144 = (5, 4) := sK h (a := 144) rfl (by decide) (by decide)
set_option maxRecDepth 100000 in
theorem sK_145 {H : jH} (h : jsh H) : jK H 145 = (103, 10) := sK h (a := 145) rfl (by decide) (by decide)
set_option maxRecDepth 100000 in
theorem sK_146 {H : jH} (h : jsh H) : jK H 146 = (103, 10) := sK h (a := 146) rfl (by decide) (by decide)
set_option maxRecDepth 100000 in
theorem sK_147 {H : jH} (h : jsh H) : jK H 147 = (103, 10) := sK h (a := 147) rfl (by decide) (by decide)
set_option maxRecDepth 100000 in
theorem sK_148 {H : jH} (h : jsh H) : jK H 148 = (5, 4) := sK h (a := 148) rfl (by decide) (by decide)
set_option maxRecDepth 100000 in
theorem sK_149 {H : jH} (h : jsh H) : jK H 149 = (103, 10) := sK h (a := 149) rfl (by decide) (by decide)
set_option maxRecDepth 100000 in
theorem sK_150 {H : jH} (h : jsh H) : jK H 150 = (103, 10) := sK h (a := 150) rfl (by decide) (by decide)
set_option maxRecDepth 100000 in
theorem sK_151 {H : jH} (h : jsh H) : jK H 151 = (103, 10) := sK h (a := 151) rfl (by decide) (by decide)
set_option maxRecDepth 100000 in
theorem sK_152 {H : jH} (h : jsh H) : jK H 152 = (5, 4) := sK h (a := 152) rfl (by decide) (by decide)
set_option maxRecDepth 100000 in
theorem sK_153 {H : jH} (h : jsh H) : jK H 153 = (103, 10) := sK h (a := 153) rfl (by decide) (by decide)
set_option maxRecDepth 100000 in
theorem sK_154 {H : jH} (h : jsh H) : jK H 154 = (103, 10) := sK h (a := 154) rfl (by decide) (by decide)
set_option maxRecDepth 100000 in
theorem sK_155 {H : jH} (h : jsh H) : jK H 155 = (103, 10) := sK h (a := 155) rfl (by decide) (by decide)
set_option maxRecDepth 100000 in
theorem sK_156 {H : jH} (h : jsh H) : jK H 156 = (5, 4) := sK h (a := 156) rfl (by decide) (by decide)
set_option maxRecDepth 100000 in
theorem sK_157 {H : jH} (h : jsh H) : jK H 157 = (103, 10) := sK h (a := 157) rfl (by decide) (by decide)
set_option maxRecDepth 100000 in
theorem sK_158 {H : jH} (h : jsh H) : jK H 158 = (103, 10) := sK h (a := 158) rfl (by decide) (by decide)
set_option maxRecDepth 100000 in
theorem sK_159 {H : jH} (h : jsh H) : jK H 159 = (103, 10) := sK h (a := 159) rfl (by decide) (by decide)
set_option maxRecDepth 100000 in
theorem sK_160 {H : jH} (h : jsh H) : jK H 160 = (5, 4) := sK h (a := 160) rfl (by decide) (by decide)
set_option maxRecDepth 100000 in
theorem sK_161 {H : jH} (h : jsh H) : jK H 161 = (103, 10) := sK h (a := 161) rfl (by decide) (by decide)
set_option maxRecDepth 100000 in
theorem sK_162 {H : jH} (h : jsh H) : jK H 162 = (103, 10) := sK h (a := 162) rfl (by decide) (by decide)
set_option maxRecDepth 100000 in
theorem sK_163 {H : jH} (h : jsh H) : jK H 163 = (103, 10) := sK h (a := 163) rfl (by decide) (by decide)
set_option maxRecDepth 100000 in
theorem sK_164 {H : jH} (h : jsh H) : jK H 164 = (5, 4) := sK h (a := 164) rfl (by decide) (by decide)
set_option maxRecDepth 100000 in
theorem sK_165 {H : jH} (h : jsh H) : jK H 165 = (103, 10) := sK h (a := 165) rfl (by decide) (by decide)
set_option maxRecDepth 100000 in
theorem sK_166 {H : jH} (h : jsh H) : jK H 166 = (103, 10) := sK h (a := 166) rfl (by decide) (by decide)
set_option maxRecDepth 100000 in
theorem sK_167 {H : jH} (h : jsh H) : jK H 167 = (103, 10) := sK h (a := 167) rfl (by decide) (by decide)
set_option maxRecDepth 100000 in
theorem sK_168 {H : jH} (h : jsh H) : jK H 168 = (101, 2400) := sK h (a := 168) rfl (by decide) (by decide)
set_option maxRecDepth 100000 in
theorem sK_169 {H : jH} (h : jsh H) : jK H 169 = (101, 32) := sK h (a := 169) rfl (by decide) (by decide)
set_option maxRecDepth 100000 in
theorem sK_170 {H : jH} (h : jsh H) : jK H 170 = (4, 20) := sK h (a := 170) rfl (by decide) (by decide)
set_option maxRecDepth 100000 in
theorem sK_171 {H : jH} (h : jsh H) : jK H 171 = (9, 3) := sK h (a := 171) rfl (by decide) (by decide)
set_option maxRecDepth 100000 in
theorem sK_172 {H : jH} (h : jsh H) : jK H 172 = (110, 70) := sK h (a := 172) rfl (by decide) (by decide)
set_option maxRecDepth 100000 in
theorem sK_173 {H : jH} (h : jsh H) : jK H 173 = (101, 120) := sK h (a := 173) rfl (by decide) (by decide)
set_option maxRecDepth 100000 in
theorem sK_174 {H : jH} (h : jsh H) : jK H 174 = (101, 120) := sK h (a := 174) rfl (by decide) (by decide)
set_option maxRecDepth 100000 in
theorem sK_175 {H : jH} (h : jsh H) : jK H 175 = (101, 120) := sK h (a := 175) rfl (by decide) (by decide)
set_option maxRecDepth 100000 in
theorem sK_176 {H : jH} (h : jsh H) : jK H 176 = (101, 120) := sK h (a := 176) rfl (by decide) (by decide)
set_option maxRecDepth 100000 in
theorem sK_177 {H : jH} (h : jsh H) : jK H 177 = (101, 120) := sK h (a := 177) rfl (by decide) (by decide)
set_option maxRecDepth 100000 in
theorem sK_178 {H : jH} (h : jsh H) : jK H 178 = (101, 120) := sK h (a := 178) rfl (by decide) (by decide)
set_option maxRecDepth 100000 in
theorem sK_179 {H : jH} (h : jsh H) : jK H 179 = (101, 120) := sK h (a := 179) rfl (by decide) (by decide)
set_option maxRecDepth 100000 in
theorem sK_180 {H : jH} (h : jsh H) : jK H 180 = (101, 120) := sK h (a := 180) rfl (by decide) (by decide)
set_option maxRecDepth 100000 in
theorem sK_181 {H : jH} (h : jsh H) : jK H 181 = (101, 120) := sK h (a := 181) rfl (by decide) (by decide)
set_option maxRecDepth 100000 in
theorem sK_182 {H : jH} (h : jsh H) : jK H 182 = (101, 120) := sK h (a := 182) rfl (by decide) (by decide)
set_option maxRecDepth 100000 in
theorem sK_183 {H : jH} (h : jsh H) : jK H 183 = (101, 120) := sK h (a := 183) rfl (by decide) (by decide)
set_option maxRecDepth 100000 in
theorem sK_184 {H : jH} (h : jsh H) : jK H 184 = (101, 120) := sK h (a := 184) rfl (by decide) (by decide)
set_option maxRecDepth 100000 in
theorem sK_185 {H : jH} (h : jsh H) : jK H 185 = (101, 120) := sK h (a := 185) rfl (by decide) (by decide)
set_option maxRecDepth 100000 in
theorem sK_186 {H : jH} (h : jsh H) : jK H 186 = (101, 120) := sK h (a := 186) rfl (by decide) (by decide)
set_option maxRecDepth 100000 in
theorem sK_187 {H : jH} (h : jsh H) : jK H 187 = (101, 120) := sK h (a := 187) rfl (by decide) (by decide)
set_option maxRecDepth 100000 in
theorem sK_188 {H : jH} (h : jsh H) : jK H 188 = (101, 120) := sK h (a := 188) rfl (by decide) (by decide)
set_option maxRecDepth 100000 in
theorem sK_189 {H : jH} (h : jsh H) : jK H 189 = (101, 120) := sK h (a := 189) rfl (by decide) (by decide)
set_option maxRecDepth 100000 in
theorem sK_190 {H : jH} (h : jsh H) : jK H 190 = (101, 120) := sK h (a := 190) rfl (by decide) (by decide)
set_option maxRecDepth 100000 in
theorem sK_191 {H : jH} (h : jsh H) : jK H 191 = (101, 120) := sK h (a := 191) rfl (by decide) (by decide)
set_option maxRecDepth 100000 in
theorem sK_192 {H : jH} (h : jsh H) : jK H 192 = (101, 120) := sK h (a := 192) rfl (by decide) (by decide)
set_option maxRecDepth 100000 in
theorem sK_193 {H : jH} (h : jsh H) : jK H 193 = (101, 120) := sK h (a := 193) rfl (by decide) (by decide)
set_option maxRecDepth 100000 in
theorem sK_194 {H : jH} (h : jsh H) : jK H 194 = (101, 120) := sK h (a := 194) rfl (by decide) (by decide)
set_option maxRecDepth 100000 in
theorem sK_195 {H : jH} (h : jsh H) : jK H 195 = (101, 120) := sK h (a := 195) rfl (by decide) (by decide)
set_option maxRecDepth 100000 in
theorem sK_196 {H : jH} (h : jsh H) : jK H 196 = (101, 120) := sK h (a := 196) rfl (by decide) (by decide)
set_option maxRecDepth 100000 in
theorem sK_197 {H : jH} (h : jsh H) : jK H 197 = (101, 120) := sK h (a := 197) rfl (by decide) (by decide)
set_option maxRecDepth 100000 in
theorem sK_198 {H : jH} (h : jsh H) : jK H 198 = (101, 120) := sK h (a := 198) rfl (by decide) (by decide)
set_option maxRecDepth 100000 in
theorem sK_199 {H : jH} (h : jsh H) : jK H 199 = (101, 120) := sK h (a := 199) rfl (by decide) (by decide)
set_option maxRecDepth 100000 in
theorem sK_200 {H : jH} (h : jsh H) : jK H 200 = (101, 120) := sK h (a := 200) rfl (by decide) (by decide)
set_option maxRecDepth 100000 in
theorem sK_201 {H : jH} (h : jsh H) : jK H 201 = (101, 120) := sK h (a := 201) rfl (by decide) (by decide)
set_option maxRecDepth 100000 in
theorem sK_202 {H : jH} (h : jsh H) : jK H 202 = (101, 120) := sK h (a := 202) rfl (by decide) (by decide)
set_option maxRecDepth 100000 in
theorem sK_203 {H : jH} (h : jsh H) : jK H 203 = (101, 120) := sK h (a := 203) rfl (by decide) (by decide)
set_option maxRecDepth 100000 in
theorem sK_204 {H : jH} (h : jsh H) : jK H 204 = (101, 120) := sK h (a := 204) rfl (by decide) (by decide)
set_option maxRecDepth 100000 in
theorem sK_205 {H : jH} (h : jsh H) : jK H 205 = (101, 120) := sK h (a := 205) rfl (by decide) (by decide)
set_option maxRecDepth 100000 in
theorem sK_206 {H : jH} (h : jsh H) : jK H 206 = (101, 120) := sK h (a := 206) rfl (by decide) (by decide)
set_option maxRecDepth 100000 in
theorem sK_207 {H : jH} (h : jsh H) : jK H 207 = (101, 120) := sK h (a := 207) rfl (by decide) (by decide)
set_option maxRecDepth 100000 in
theorem sK_208 {H : jH} (h : jsh H) : jK H 208 = (101, 120) := sK h (a := 208) rfl (by decide) (by decide)
set_option maxRecDepth 100000 in
theorem sK_209 {H : jH} (h : jsh H) : jK H 209 = (101, 120) := sK h (a := 209) rfl (by decide) (by decide)
set_option maxRecDepth 100000 in
theorem sK_210 {H : jH} (h : jsh H) : jK H 210 = (101, 120) := sK h (a := 210) rfl (by decide) (by decide)
set_option maxRecDepth 100000 in
theorem sK_211 {H : jH} (h : jsh H) : jK H 211 = (101, 120) := sK h (a := 211) rfl (by decide) (by decide)
set_option maxRecDepth 100000 in
theorem sK_212 {H : jH} (h : jsh H) : jK H 212 = (101, 120) := sK h (a := 212) rfl (by decide) (by decide)
set_option maxRecDepth 100000 in
theorem sK_213 {H : jH} (h : jsh H) : jK H 213 = (101, 120) := sK h (a := 213) rfl (by decide) (by decide)
set_option maxRecDepth 100000 in
theorem sK_214 {H : jH} (h : jsh H) : jK H 214 = (101, 120) := sK h (a := 214) rfl (by decide) (by decide)
set_option maxRecDepth 100000 in
theorem sK_215 {H : jH} (h : jsh H) : jK H 215 = (101, 120) := sK h (a := 215) rfl (by decide) (by decide)
set_option maxRecDepth 100000 in
theorem sK_216 {H : jH} (h : jsh H) : jK H 216 = (101, 120) := sK h (a := 216) rfl (by decide) (by decide)
set_option maxRecDepth 100000 in
theorem sK_217 {H : jH} (h : jsh H) : jK H 217 = (101, 120) := sK h (a := 217) rfl (by decide) (by decide)
set_option maxRecDepth 100000 in
theorem sK_218 {H : jH} (h : jsh H) : jK H 218 = (101, 120) := sK h (a := 218) rfl (by decide) (by decide)
set_option maxRecDepth 100000 in
theorem sK_219 {H : jH} (h : jsh H) : jK H 219 = (101, 120) := sK h (a := 219) rfl (by decide) (by decide)
set_option maxRecDepth 100000 in
theorem sK_220 {H : jH} (h : jsh H) : jK H 220 = (101, 120) := sK h (a := 220) rfl (by decide) (by decide)
set_option maxRecDepth 100000 in
theorem sK_221 {H : jH} (h : jsh H) : jK H 221 = (101, 120) := sK h (a := 221) rfl (by decide) (by decide)
set_option maxRecDepth 100000 in
theorem sK_222 {H : jH} (h : jsh H) : jK H 222 = (101, 120) := sK h (a := 222) rfl (by decide) (by decide)
set_option maxRecDepth 100000 in
theorem sK_223 {H : jH} (h : jsh H) : jK H 223 = (101, 120) := sK h (a := 223) rfl (by decide) (by decide)
set_option maxRecDepth 100000 in
theorem sK_224 {H : jH} (h : jsh H) : jK H 224 = (101, 120) := sK h (a := 224) rfl (by decide) (by decide)
set_option maxRecDepth 100000 in
theorem sK_225 {H : jH} (h : jsh H) : jK H 225 = (101, 120) := sK h (a := 225) rfl (by decide) (by decide)
set_option maxRecDepth 100000 in
theorem sK_226 {H : jH} (h : jsh H) : jK H 226 = (101, 120) := sK h (a := 226) rfl (by decide) (by decide)
set_option maxRecDepth 100000 in
theorem sK_227 {H : jH} (h : jsh H) : jK H 227 = (101, 120) := sK h (a := 227) rfl (by decide) (by decide)
set_option maxRecDepth 100000 in
theorem sK_228 {H : jH} (h : jsh H) : jK H 228 = (101, 120) := sK h (a := 228) rfl (by decide) (by decide)
set_option maxRecDepth 100000 in
theorem sK_229 {H : jH} (h : jsh H) : jK H 229 = (101, 120) := sK h (a := 229) rfl (by decide) (by decide)
set_option maxRecDepth 100000 in
theorem sK_230 {H : jH} (h : jsh H) : jK H 230 = (101, 120) := sK h (a := 230) rfl (by decide) (by decide)
set_option maxRecDepth 100000 in
theorem sK_231 {H : jH} (h : jsh H) : jK H 231 = (101, 120) := sK h (a := 231) rfl (by decide) (by decide)
set_option maxRecDepth 100000 in
theorem sK_232 {H : jH} (h : jsh H) : jK H 232 = (101, 120) := sK h (a := 232) rfl (by decide) (by decide)
set_option maxRecDepth 100000 in
theorem sK_233 {H : jH} (h : jsh H) : jK H 233 = (101, 120) := sK h (a := 233) rfl (by decide) (by decide)
set_option maxRecDepth 100000 in
theorem sK_234 {H : jH} (h : jsh H) : jK H 234 = (101, 120) := sK h (a := 234) rfl (by decide) (by decide)
set_option maxRecDepth 100000 in
theorem sK_235 {H : jH} (h : jsh H) : jK H 235 = (101, 120) := sK h (a := 235) rfl (by decide) (by decide)
set_option maxRecDepth 100000 in
theorem sK_236 {H : jH} (h : jsh H) : jK H 236 = (101, 120) := sK h (a := 236) rfl (by decide) (by decide)
set_option maxRecDepth 100000 in
theorem sK_237 {H : jH} (h : jsh H) : jK H 237 = (101, 120) := sK h (a := 237) rfl (by decide) (by decide)
set_option maxRecDepth 100000 in
theorem sK_238 {H : jH} (h : jsh H) : jK H 238 = (101, 120) := sK h (a := 238) rfl (by decide) (by decide)
set_option maxRecDepth 100000 in
theorem sK_239 {H : jH} (h : jsh H) : jK H 239 = (101, 120) := sK h (a := 239) rfl (by decide) (by decide)
set_option maxRecDepth 100000 in
theorem sK_240 {H : jH} (h : jsh H) : jK H 240 = (101, 120) := sK h (a := 240) rfl (by decide) (by decide)
set_option maxRecDepth 100000 in
theorem sK_241 {H : jH} (h : jsh H) : jK H 241 = (101, 120) := sK h (a := 241) rfl (by decide) (by decide)
set_option maxRecDepth 100000 in
theorem sK_242 {H : jH} (h : jsh H) : jK H 242 = (101, 120) := sK h (a := 242) rfl (by decide) (by decide)
set_option maxRecDepth 100000 in
theorem sK_243 {H : jH} (h : jsh H) : jK H 243 = (100, 70) := sK h (a := 243) rfl (by decide) (by decide)
set_option maxRecDepth 100000 in
theorem sK_244 {H : jH} (h : jsh H) : jK H 244 = (9, 3) := sK h (a := 244) rfl (by decide) (by decide)
set_option maxRecDepth 100000 in
theorem sK_245 {H : jH} (h : jsh H) : jK H 245 = (110, 70) := sK h (a := 245) rfl (by decide) (by decide)
set_option maxRecDepth 100000 in
theorem sK_246 {H : jH} (h : jsh H) : jK H 246 = (101, 120) := sK h (a := 246) rfl (by decide) (by decide)
set_option maxRecDepth 100000 in
theorem sK_247 {H : jH} (h : jsh H) : jK H 247 = (101, 120) := sK h (a := 247) rfl (by decide) (by decide)
set_option maxRecDepth 100000 in
theorem sK_248 {H : jH} (h : jsh H) : jK H 248 = (101, 120) := sK h (a := 248) rfl (by decide) (by decide)
set_option maxRecDepth 100000 in
theorem sK_249 {H : jH} (h : jsh H) : jK H 249 = (101, 120) := sK h (a := 249) rfl (by decide) (by decide)
set_option maxRecDepth 100000 in
theorem sK_250 {H : jH} (h : jsh H) : jK H 250 = (101, 120) := sK h (a := 250) rfl (by decide) (by decide)
set_option maxRecDepth 100000 in
theorem sK_251 {H : jH} (h : jsh H) : jK H 251 = (101, 120) := sK h (a := 251) rfl (by decide) (by decide)
set_option maxRecDepth 100000 in
theorem sK_252 {H : jH} (h : jsh H) : jK H 252 = (101, 120) := sK h (a := 252) rfl (by decide) (by decide)
set_option maxRecDepth 100000 in
theorem sK_253 {H : jH} (h : jsh H) : jK H 253 = (101, 120) := sK h (a := 253) rfl (by decide) (by decide)
set_option maxRecDepth 100000 in
theorem sK_254 {H : jH} (h : jsh H) : jK H 254 = (101, 120) := sK h (a := 254) rfl (by decide) (by decide)
set_option maxRecDepth 100000 in
theorem sK_255 {H : jH} (h : jsh H) : jK H 255 = (101, 120) := sK h (a := 255) rfl (by decide) (by decide)
set_option maxRecDepth 100000 in
theorem sK_256 {H : jH} (h : jsh H) : jK H 256 = (101, 120) := sK h (a := 256) rfl (by decide) (by decide)
set_option maxRecDepth 100000 in
theorem sK_257 {H : jH} (h : jsh H) : jK H 257 = (101, 120) := sK h (a := 257) rfl (by decide) (by decide)
set_option maxRecDepth 100000 in
theorem sK_258 {H : jH} (h : jsh H) : jK H 258 = (101, 120) := sK h (a := 258) rfl (by decide) (by decide)
set_option maxRecDepth 100000 in
theorem sK_259 {H : jH} (h : jsh H) : jK H 259 = (101, 120) := sK h (a := 259) rfl (by decide) (by decide)
set_option maxRecDepth 100000 in
theorem sK_260 {H : jH} (h : jsh H) : jK H 260 = (101, 120) := sK h (a := 260) rfl (by decide) (by decide)
set_option maxRecDepth 100000 in
theorem sK_261 {H : jH} (h : jsh H) : jK H 261 = (101, 120) := sK h (a := 261) rfl (by decide) (by decide)
set_option maxRecDepth 100000 in
theorem sK_262 {H : jH} (h : jsh H) : jK H 262 = (101, 120) := sK h (a := 262) rfl (by decide) (by decide)
set_option maxRecDepth 100000 in
theorem sK_263 {H : jH} (h : jsh H) : jK H 263 = (101, 120) := sK h (a := 263) rfl (by decide) (by decide)
set_option maxRecDepth 100000 in
theorem sK_264 {H : jH} (h : jsh H) : jK H 264 = (101, 120) := sK h (a := 264) rfl (by decide) (by decide)
set_option maxRecDepth 100000 in
theorem sK_265 {H : jH} (h : jsh H) : jK H 265 = (101, 120) := sK h (a := 265) rfl (by decide) (by decide)
set_option maxRecDepth 100000 in
theorem sK_266 {H : jH} (h : jsh H) : jK H 266 = (101, 120) := sK h (a := 266) rfl (by decide) (by decide)
set_option maxRecDepth 100000 in
theorem sK_267 {H : jH} (h : jsh H) : jK H 267 = (101, 120) := sK h (a := 267) rfl (by decide) (by decide)
set_option maxRecDepth 100000 in
theorem sK_268 {H : jH} (h : jsh H) : jK H 268 = (101, 120) := sK h (a := 268) rfl (by decide) (by decide)
set_option maxRecDepth 100000 in
theorem sK_269 {H : jH} (h : jsh H) : jK H 269 = (101, 120) := sK h (a := 269) rfl (by decide) (by decide)
set_option maxRecDepth 100000 in
theorem sK_270 {H : jH} (h : jsh H) : jK H 270 = (101, 120) := sK h (a := 270) rfl (by decide) (by decide)
set_option maxRecDepth 100000 in
theorem sK_271 {H : jH} (h : jsh H) : jK H 271 = (101, 120) := sK h (a := 271) rfl (by decide) (by decide)
set_option maxRecDepth 100000 in
theorem sK_272 {H : jH} (h : jsh H) : jK H 272 = (101, 120) := sK h (a := 272) rfl (by decide) (by decide)
set_option maxRecDepth 100000 in
theorem sK_273 {H : jH} (h : jsh H) : jK H 273 = (101, 120) := sK h (a := 273) rfl (by decide) (by decide)
set_option maxRecDepth 100000 in
theorem sK_274 {H : jH} (h : jsh H) : jK H 274 = (101, 120) := sK h (a := 274) rfl (by decide) (by decide)
set_option maxRecDepth 100000 in
theorem sK_275 {H : jH} (h : jsh H) : jK H 275 = (101, 120) := sK h (a := 275) rfl (by decide) (by decide)
set_option maxRecDepth 100000 in
theorem sK_276 {H : jH} (h : jsh H) : jK H 276 = (101, 120) := sK h (a := 276) rfl (by decide) (by decide)
set_option maxRecDepth 100000 in
theorem sK_277 {H : jH} (h : jsh H) : jK H 277 = (101, 120) := sK h (a := 277) rfl (by decide) (by decide)
set_option maxRecDepth 100000 in
theorem sK_278 {H : jH} (h : jsh H) : jK H 278 = (101, 120) := sK h (a := 278) rfl (by decide) (by decide)
set_option maxRecDepth 100000 in
theorem sK_279 {H : jH} (h : jsh H) : jK H 279 = (101, 120) := sK h (a := 279) rfl (by decide) (by decide)
set_option maxRecDepth 100000 in
theorem sK_280 {H : jH} (h : jsh H) : jK H 280 = (101, 120) := sK h (a := 280) rfl (by decide) (by decide)
set_option maxRecDepth 100000 in
theorem sK_281 {H : jH} (h : jsh H) : jK H 281 = (101, 120) := sK h (a := 281) rfl (by decide) (by decide)
set_option maxRecDepth 100000 in
theorem sK_282 {H : jH} (h : jsh H) : jK H 282 = (101, 120) := sK h (a := 282) rfl (by decide) (by decide)
set_option maxRecDepth 100000 in
theorem sK_283 {H : jH} (h : jsh H) : jK H 283 = (101, 120) := sK h (a := 283) rfl (by decide) (by decide)
set_option maxRecDepth 100000 in
theorem sK_284 {H : jH} (h : jsh H) : jK H 284 = (101, 120) := sK h (a := 284) rfl (by decide) (by decide)
set_option maxRecDepth 100000 in
theorem sK_285 {H : jH} (h : jsh H) : jK H 285 = (101, 120) := sK h (a := 285) rfl (by decide) (by decide)
set_option maxRecDepth 100000 in
theorem sK_286 {H : jH} (h : jsh H) : jK H 286 = (101, 120) := sK h (a := 286) rfl (by decide) (by decide)
set_option maxRecDepth 100000 in
theorem sK_287 {H : jH} (h : jsh H) : jK H 287 = (101, 120) := sK h (a := 287) rfl (by decide) (by decide)
set_option maxRecDepth 100000 in
theorem sK_288 {H : jH} (h : jsh H) : jK H 288 = (101, 120) := sK h (a := 288) rfl (by decide) (by decide)
set_option maxRecDepth 100000 in
theorem sK_289 {H : jH} (h : jsh H) : jK H 289 = (101, 120) := sK h (a := 289) rfl (by decide) (by decide)
set_option maxRecDepth 100000 in
theorem sK_290 {H : jH} (h : jsh H) : jK H 290 = (101, 120) := sK h (a := 290) rfl (by decide) (by decide)
set_option maxRecDepth 100000 in
theorem sK_291 {H : jH} (h : jsh H) : jK H 291 = (101, 120) := sK h (a := 291) rfl (by decide) (by decide)
set_option maxRecDepth 100000 in
theorem sK_292 {H : jH} (h : jsh H) : jK H 292 = (101, 120) := sK h (a := 292) rfl (by decide) (by decide)
set_option maxRecDepth 100000 in
theorem sK_293 {H : jH} (h : jsh H) : jK H 293 = (101, 120) := sK h (a := 293) rfl (by decide) (by decide)
set_option maxRecDepth 100000 in
theorem sK_294 {H : jH} (h : jsh H) : jK H 294 = (101, 120) := sK h (a := 294) rfl (by decide) (by decide)
set_option maxRecDepth 100000 in
theorem sK_295 {H : jH} (h : jsh H) : jK H 295 = (101, 120) := sK h (a := 295) rfl (by decide) (by decide)
set_option maxRecDepth 100000 in
theorem sK_296 {H : jH} (h : jsh H) : jK H 296 = (101, 120) := sK h (a := 296) rfl (by decide) (by decide)
set_option maxRecDepth 100000 in
theorem sK_297 {H : jH} (h : jsh H) : jK H 297 = (101, 120) := sK h (a := 297) rfl (by decide) (by decide)
set_option maxRecDepth 100000 in
theorem sK_298 {H : jH} (h : jsh H) : jK H 298 = (101, 120) := sK h (a := 298) rfl (by decide) (by decide)
set_option maxRecDepth 100000 in
theorem sK_299 {H : jH} (h : jsh H) : jK H 299 = (101, 120) := sK h (a := 299) rfl (by decide) (by decide)
set_option maxRecDepth 100000 in
theorem sK_300 {H : jH} (h : jsh H) : jK H 300 = (101, 120) := sK h (a := 300) rfl (by decide) (by decide)
set_option maxRecDepth 100000 in
theorem sK_301 {H : jH} (h : jsh H) : jK H 301 = (101, 120) := sK h (a := 301) rfl (by decide) (by decide)
set_option maxRecDepth 100000 in
theorem sK_302 {H : jH} (h : jsh H) : jK H 302 = (101, 120) := sK h (a := 302) rfl (by decide) (by decide)
set_option maxRecDepth 100000 in
theorem sK_303 {H : jH} (h : jsh H) : jK H 303 = (101, 120) := sK h (a := 303) rfl (by decide) (by decide)
set_option maxRecDepth 100000 in
theorem sK_304 {H : jH} (h : jsh H) : jK H 304 = (101, 120) := sK h (a := 304) rfl (by decide) (by decide)
set_option maxRecDepth 100000 in
theorem sK_305 {H : jH} (h : jsh H) : jK H 305 = (101, 120) := sK h (a := 305) rfl (by decide) (by decide)
set_option maxRecDepth 100000 in
theorem sK_306 {H : jH} (h : jsh H) : jK H 306 = (101, 120) := sK h (a := 306) rfl (by decide) (by decide)
set_option maxRecDepth 100000 in
theorem sK_307 {H : jH} (h : jsh H) : jK H 307 = (101, 120) := sK h (a := 307) rfl (by decide) (by decide)
set_option maxRecDepth 100000 in
theorem sK_308 {H : jH} (h : jsh H) : jK H 308 = (101, 120) := sK h (a := 308) rfl (by decide) (by decide)
set_option maxRecDepth 100000 in
theorem sK_309 {H : jH} (h : jsh H) : jK H 309 = (101, 120) := sK h (a := 309) rfl (by decide) (by decide)
set_option maxRecDepth 100000 in
theorem sK_310 {H : jH} (h : jsh H) : jK H 310 = (101, 120) := sK h (a := 310) rfl (by decide) (by decide)
set_option maxRecDepth 100000 in
theorem sK_311 {H : jH} (h : jsh H) : jK H 311 = (101, 120) := sK h (a := 311) rfl (by decide) (by decide)
set_option maxRecDepth 100000 in
theorem sK_312 {H : jH} (h : jsh H) : jK H 312 = (101, 120) := sK h (a := 312) rfl (by decide) (by decide)
set_option maxRecDepth 100000 in
theorem sK_313 {H : jH} (h : jsh H) : jK H 313 = (101, 120) := sK h (a := 313) rfl (by decide) (by decide)
set_option maxRecDepth 100000 in
theorem sK_314 {H : jH} (h : jsh H) : jK H 314 = (101, 120) := sK h (a := 314) rfl (by decide) (by decide)
set_option maxRecDepth 100000 in
theorem sK_315 {H : jH} (h : jsh H) : jK H 315 = (101, 120) := sK h (a := 315) rfl (by decide) (by decide)
set_option maxRecDepth 100000 in
theorem sK_316 {H : jH} (h : jsh H) : jK H 316 = (100, 70) := sK h (a := 316) rfl (by decide) (by decide)
set_option maxRecDepth 100000 in
theorem sK_317 {H : jH} (h : jsh H) : jK H 317 = (9, 3) := sK h (a := 317) rfl (by decide) (by decide)
set_option maxRecDepth 100000 in
theorem sK_318 {H : jH} (h : jsh H) : jK H 318 = (110, 70) := sK h (a := 318) rfl (by decide) (by decide)
set_option maxRecDepth 100000 in
theorem sK_319 {H : jH} (h : jsh H) : jK H 319 = (101, 120) := sK h (a := 319) rfl (by decide) (by decide)
set_option maxRecDepth 100000 in
theorem sK_320 {H : jH} (h : jsh H) : jK H 320 = (101, 120) := sK h (a := 320) rfl (by decide) (by decide)
set_option maxRecDepth 100000 in
theorem sK_321 {H : jH} (h : jsh H) : jK H 321 = (101, 120) := sK h (a := 321) rfl (by decide) (by decide)
set_option maxRecDepth 100000 in
theorem sK_322 {H : jH} (h : jsh H) : jK H 322 = (101, 120) := sK h (a := 322) rfl (by decide) (by decide)
set_option maxRecDepth 100000 in
theorem sK_323 {H : jH} (h : jsh H) : jK H 323 = (101, 120) := sK h (a := 323) rfl (by decide) (by decide)
set_option maxRecDepth 100000 in
theorem sK_324 {H : jH} (h : jsh H) : jK H 324 = (101, 120) := sK h (a := 324) rfl (by decide) (by decide)
set_option maxRecDepth 100000 in
theorem sK_325 {H : jH} (h : jsh H) : jK H 325 = (101, 120) := sK h (a := 325) rfl (by decide) (by decide)
set_option maxRecDepth 100000 in
theorem sK_326 {H : jH} (h : jsh H) : jK H 326 = (101, 120) := sK h (a := 326) rfl (by decide) (by decide)
set_option maxRecDepth 100000 in
theorem sK_327 {H : jH} (h : jsh H) : jK H 327 = (101, 120) := sK h (a := 327) rfl (by decide) (by decide)
set_option maxRecDepth 100000 in
theorem sK_328 {H : jH} (h : jsh H) : jK H 328 = (101, 120) := sK h (a := 328) rfl (by decide) (by decide)
set_option maxRecDepth 100000 in
theorem sK_329 {H : jH} (h : jsh H) : jK H 329 = (101, 120) := sK h (a := 329) rfl (by decide) (by decide)
set_option maxRecDepth 100000 in
theorem sK_330 {H : jH} (h : jsh H) : jK H 330 = (101, 120) := sK h (a := 330) rfl (by decide) (by decide)
set_option maxRecDepth 100000 in
theorem sK_331 {H : jH} (h : jsh H) : jK H 331 = (101, 120) := sK h (a := 331) rfl (by decide) (by decide)
set_option maxRecDepth 100000 in
theorem sK_332 {H : jH} (h : jsh H) : jK H 332 = (101, 120) := sK h (a := 332) rfl (by decide) (by decide)
set_option maxRecDepth 100000 in
theorem sK_333 {H : jH} (h : jsh H) : jK H 333 = (101, 120) := sK h (a := 333) rfl (by decide) (by decide)
set_option maxRecDepth 100000 in
theorem sK_334 {H : jH} (h : jsh H) : jK H 334 = (101, 120) := sK h (a := 334) rfl (by decide) (by decide)
set_option maxRecDepth 100000 in
theorem sK_335 {H : jH} (h : jsh H) : jK H 335 = (101, 120) := sK h (a := 335) rfl (by decide) (by decide)
set_option maxRecDepth 100000 in
theorem sK_336 {H : jH} (h : jsh H) : jK H 336 = (101, 120) := sK h (a := 336) rfl (by decide) (by decide)
set_option maxRecDepth 100000 in
theorem sK_337 {H : jH} (h : jsh H) : jK H 337 = (101, 120) := sK h (a := 337) rfl (by decide) (by decide)
set_option maxRecDepth 100000 in
theorem sK_338 {H : jH} (h : jsh H) : jK H 338 = (101, 120) := sK h (a := 338) rfl (by decide) (by decide)
set_option maxRecDepth 100000 in
theorem sK_339 {H : jH} (h : jsh H) : jK H 339 = (101, 120) := sK h (a := 339) rfl (by decide) (by decide)
set_option maxRecDepth 100000 in
theorem sK_340 {H : jH} (h : jsh H) : jK H 340 = (101, 120) := sK h (a := 340) rfl (by decide) (by decide)
set_option maxRecDepth 100000 in
theorem sK_341 {H : jH} (h : jsh H) : jK H 341 = (101, 120) := sK h (a := 341) rfl (by decide) (by decide)
set_option maxRecDepth 100000 in
theorem sK_342 {H : jH} (h : jsh H) : jK H 342 = (101, 120) := sK h (a := 342) rfl (by decide) (by decide)
set_option maxRecDepth 100000 in
theorem sK_343 {H : jH} (h : jsh H) : jK H 343 = (101, 120) := sK h (a := 343) rfl (by decide) (by decide)
set_option maxRecDepth 100000 in
theorem sK_344 {H : jH} (h : jsh H) : jK H 344 = (101, 120) := sK h (a := 344) rfl (by decide) (by decide)
set_option maxRecDepth 100000 in
theorem sK_345 {H : jH} (h : jsh H) : jK H 345 = (101, 120) := sK h (a := 345) rfl (by decide) (by decide)
set_option maxRecDepth 100000 in
theorem sK_346 {H : jH} (h : jsh H) : jK H 346 = (101, 120) := sK h (a := 346) rfl (by decide) (by decide)
set_option maxRecDepth 100000 in
theorem sK_347 {H : jH} (h : jsh H) : jK H 347 = (101, 120) := sK h (a := 347) rfl (by decide) (by decide)
set_option maxRecDepth 100000 in
theorem sK_348 {H : jH} (h : jsh H) : jK H 348 = (101, 120) := sK h (a := 348) rfl (by decide) (by decide)
set_option maxRecDepth 100000 in
theorem sK_349 {H : jH} (h : jsh H) : jK H 349 = (101, 120) := sK h (a := 349) rfl (by decide) (by decide)
set_option maxRecDepth 100000 in
theorem sK_350 {H : jH} (h : jsh H) : jK H 350 = (101, 120) := sK h (a := 350) rfl (by decide) (by decide)
set_option maxRecDepth 100000 in
theorem sK_351 {H : jH} (h : jsh H) : jK H 351 = (101, 120) := sK h (a := 351) rfl (by decide) (by decide)
set_option maxRecDepth 100000 in
theorem sK_352 {H : jH} (h : jsh H) : jK H 352 = (101, 120) := sK h (a := 352) rfl (by decide) (by decide)
set_option maxRecDepth 100000 in
theorem sK_353 {H : jH} (h : jsh H) : jK H 353 = (101, 120) := sK h (a := 353) rfl (by decide) (by decide)
set_option maxRecDepth 100000 in
theorem sK_354 {H : jH} (h : jsh H) : jK H 354 = (101, 120) := sK h (a := 354) rfl (by decide) (by decide)
set_option maxRecDepth 100000 in
theorem sK_355 {H : jH} (h : jsh H) : jK H 355 = (101, 120) := sK h (a := 355) rfl (by decide) (by decide)
set_option maxRecDepth 100000 in
theorem sK_356 {H : jH} (h : jsh H) : jK H 356 = (101, 120) := sK h (a := 356) rfl (by decide) (by decide)
set_option maxRecDepth 100000 in
theorem sK_357 {H : jH} (h : jsh H) : jK H 357 = (101, 120) := sK h (a := 357) rfl (by decide) (by decide)
set_option maxRecDepth 100000 in
theorem sK_358 {H : jH} (h : jsh H) : jK H 358 = (101, 120) := sK h (a := 358) rfl (by decide) (by decide)
set_option maxRecDepth 100000 in
theorem sK_359 {H : jH} (h : jsh H) : jK H 359 = (101, 120) := sK h (a := 359) rfl (by decide) (by decide)
set_option maxRecDepth 100000 in
theorem sK_360 {H : jH} (h : jsh H) : jK H 360 = (101, 120) := sK h (a := 360) rfl (by decide) (by decide)
set_option maxRecDepth 100000 in
theorem sK_361 {H : jH} (h : jsh H) : jK H 361 = (101, 120) := sK h (a := 361) rfl (by decide) (by decide)
set_option maxRecDepth 100000 in
theorem sK_362 {H : jH} (h : jsh H) : jK H 362 = (101, 120) := sK h (a := 362) rfl (by decide) (by decide)
set_option maxRecDepth 100000 in
theorem sK_363 {H : jH} (h : jsh H) : jK H 363 = (101, 120) := sK h (a := 363) rfl (by decide) (by decide)
set_option maxRecDepth 100000 in
theorem sK_364 {H : jH} (h : jsh H) : jK H 364 = (101, 120) := sK h (a := 364) rfl (by decide) (by decide)
set_option maxRecDepth 100000 in
theorem sK_365 {H : jH} (h : jsh H) : jK H 365 = (101, 120) := sK h (a := 365) rfl (by decide) (by decide)
set_option maxRecDepth 100000 in
theorem sK_366 {H : jH} (h : jsh H) : jK H 366 = (101, 120) := sK h (a := 366) rfl (by decide) (by decide)
set_option maxRecDepth 100000 in
theorem sK_367 {H : jH} (h : jsh H) : jK H 367 = (101, 120) := sK h (a := 367) rfl (by decide) (by decide)
set_option maxRecDepth 100000 in
theorem sK_368 {H : jH} (h : jsh H) : jK H 368 = (101, 120) := sK h (a := 368) rfl (by decide) (by decide)
set_option maxRecDepth 100000 in
theorem sK_369 {H : jH} (h : jsh H) : jK H 369 = (101, 120) := sK h (a := 369) rfl (by decide) (by decide)
set_option maxRecDepth 100000 in
theorem sK_370 {H : jH} (h : jsh H) : jK H 370 = (101, 120) := sK h (a := 370) rfl (by decide) (by decide)
set_option maxRecDepth 100000 in
theorem sK_371 {H : jH} (h : jsh H) : jK H 371 = (101, 120) := sK h (a := 371) rfl (by decide) (by decide)
set_option maxRecDepth 100000 in
theorem sK_372 {H : jH} (h : jsh H) : jK H 372 = (101, 120) := sK h (a := 372) rfl (by decide) (by decide)
set_option maxRecDepth 100000 in
theorem sK_373 {H : jH} (h : jsh H) : jK H 373 = (101, 120) := sK h (a := 373) rfl (by decide) (by decide)
set_option maxRecDepth 100000 in
theorem sK_374 {H : jH} (h : jsh H) : jK H 374 = (101, 120) := sK h (a := 374) rfl (by decide) (by decide)
set_option maxRecDepth 100000 in
theorem sK_375 {H : jH} (h : jsh H) : jK H 375 = (101, 120) := sK h (a := 375) rfl (by decide) (by decide)
set_option maxRecDepth 100000 in
theorem sK_376 {H : jH} (h : jsh H) : jK H 376 = (101, 120) := sK h (a := 376) rfl (by decide) (by decide)
set_option maxRecDepth 100000 in
theorem sK_377 {H : jH} (h : jsh H) : jK H 377 = (101, 120) := sK h (a := 377) rfl (by decide) (by decide)
set_option maxRecDepth 100000 in
theorem sK_378 {H : jH} (h : jsh H) : jK H 378 = (101, 120) := sK h (a := 378) rfl (by decide) (by decide)
set_option maxRecDepth 100000 in
theorem sK_379 {H : jH} (h : jsh H) : jK H 379 = (101, 120) := sK h (a := 379) rfl (by decide) (by decide)
set_option maxRecDepth 100000 in
theorem sK_380 {H : jH} (h : jsh H) : jK H 380 = (101, 120) := sK h (a := 380) rfl (by decide) (by decide)
set_option maxRecDepth 100000 in
theorem sK_381 {H : jH} (h : jsh H) : jK H 381 = (101, 120) := sK h (a := 381) rfl (by decide) (by decide)
set_option maxRecDepth 100000 in
theorem sK_382 {H : jH} (h : jsh H) : jK H 382 = (101, 120) := sK h (a := 382) rfl (by decide) (by decide)
set_option maxRecDepth 100000 in
theorem sK_383 {H : jH} (h : jsh H) : jK H 383 = (101, 120) := sK h (a := 383) rfl (by decide) (by decide)
set_option maxRecDepth 100000 in
theorem sK_384 {H : jH} (h : jsh H) : jK H 384 = (101, 120) := sK h (a := 384) rfl (by decide) (by decide)
set_option maxRecDepth 100000 in
theorem sK_385 {H : jH} (h : jsh H) : jK H 385 = (101, 120) := sK h (a := 385) rfl (by decide) (by decide)
set_option maxRecDepth 100000 in
theorem sK_386 {H : jH} (h : jsh H) : jK H 386 = (101, 120) := sK h (a := 386) rfl (by decide) (by decide)
set_option maxRecDepth 100000 in
theorem sK_387 {H : jH} (h : jsh H) : jK H 387 = (101, 120) := sK h (a := 387) rfl (by decide) (by decide)
set_option maxRecDepth 100000 in
theorem sK_388 {H : jH} (h : jsh H) : jK H 388 = (101, 120) := sK h (a := 388) rfl (by decide) (by decide)
set_option maxRecDepth 100000 in
theorem sK_389 {H : jH} (h : jsh H) : jK H 389 = (100, 70) := sK h (a := 389) rfl (by decide) (by decide)
set_option maxRecDepth 100000 in
theorem sK_390 {H : jH} (h : jsh H) : jK H 390 = (101, 32) := sK h (a := 390) rfl (by decide) (by decide)
set_option maxRecDepth 100000 in
theorem sK_391 {H : jH} (h : jsh H) : jK H 391 = (102, 200) := sK h (a := 391) rfl (by decide) (by decide)
set_option maxRecDepth 100000 in
theorem sK_392 {H : jH} (h : jsh H) : jK H 392 = (2, 9) := sK h (a := 392) rfl (by decide) (by decide)
set_option maxRecDepth 100000 in
theorem sK_393 {H : jH} (h : jsh H) : jK H 393 = (113, 1500) := sK h (a := 393) rfl (by decide) (by decide)
set_option maxRecDepth 100000 in
theorem sK_394 {H : jH} (h : jsh H) : jK H 394 = (100, 1500) := sK h (a := 394) rfl (by decide) (by decide)
set_option maxRecDepth 100000 in
theorem sK_395 {H : jH} (h : jsh H) : jK H 395 = (100, 1500) := sK h (a := 395) rfl (by decide) (by decide)
set_option maxRecDepth 100000 in
theorem sK_396 {H : jH} (h : jsh H) : jK H 396 = (113, 8) := sK h (a := 396) rfl (by decide) (by decide)
set_option maxRecDepth 100000 in
theorem sK_397 {H : jH} (h : jsh H) : jK H 397 = (100, 8) := sK h (a := 397) rfl (by decide) (by decide)
set_option maxRecDepth 100000 in
theorem sK_398 {H : jH} (h : jsh H) : jK H 398 = (1, 17) := sK h (a := 398) rfl (by decide) (by decide)
set_option maxRecDepth 100000 in
theorem sK_399 {H : jH} (h : jsh H) : jK H 399 = (114, 300) := sK h (a := 399) rfl (by decide) (by decide)
set_option maxRecDepth 100000 in
theorem sK_400 {H : jH} (h : jsh H) : jK H 400 = (114, 300) := sK h (a := 400) rfl (by decide) (by decide)
set_option maxRecDepth 100000 in
theorem sK_401 {H : jH} (h : jsh H) : jK H 401 = (114, 300) := sK h (a := 401) rfl (by decide) (by decide)
set_option maxRecDepth 100000 in
theorem sK_402 {H : jH} (h : jsh H) : jK H 402 = (114, 300) := sK h (a := 402) rfl (by decide) (by decide)
set_option maxRecDepth 100000 in
theorem sK_403 {H : jH} (h : jsh H) : jK H 403 = (100, 9) := sK h (a := 403) rfl (by decide) (by decide)
set_option maxRecDepth 100000 in
theorem sK_404 {H : jH} (h : jsh H) : jK H 404 = (100, 9) := sK h (a := 404) rfl (by decide) (by decide)
set_option maxRecDepth 100000 in
theorem sK_405 {H : jH} (h : jsh H) : jK H 405 = (100, 9) := sK h (a := 405) rfl (by decide) (by decide)
set_option maxRecDepth 100000 in
theorem sK_406 {H : jH} (h : jsh H) : jK H 406 = (103, 11) := sK h (a := 406) rfl (by decide) (by decide)
set_option maxRecDepth 100000 in
theorem sK_407 {H : jH} (h : jsh H) : jK H 407 = (101, 416) := sK h (a := 407) rfl (by decide) (by decide)
set_option maxRecDepth 100000 in
theorem sK_408 {H : jH} (h : jsh H) : jK H 408 = (101, 32) := sK h (a := 408) rfl (by decide) (by decide)
set_option maxRecDepth 100000 in
theorem sK_409 {H : jH} (h : jsh H) : jK H 409 = (101, 82) := sK h (a := 409) rfl (by decide) (by decide)
set_option maxRecDepth 100000 in
theorem sK_410 {H : jH} (h : jsh H) : jK H 410 = (0, 9) := sK h (a := 410) rfl (by decide) (by decide)
set_option maxRecDepth 100000 in
theorem sK_411 {H : jH} (h : jsh H) : jK H 411 = (101, 32) := sK h (a := 411) rfl (by decide) (by decide)
set_option maxRecDepth 100000 in
theorem sK_412 {H : jH} (h : jsh H) : jK H 412 = (113, 0) := sK h (a := 412) rfl (by decide) (by decide)
set_option maxRecDepth 100000 in
theorem sK_413 {H : jH} (h : jsh H) : jK H 413 = (100, 8) := sK h (a := 413) rfl (by decide) (by decide)
set_option maxRecDepth 100000 in
theorem sK_414 {H : jH} (h : jsh H) : jK H 414 = (6, 10) := sK h (a := 414) rfl (by decide) (by decide)
set_option maxRecDepth 100000 in
theorem sK_415 {H : jH} (h : jsh H) : jK H 415 = (113, 41) := sK h (a := 415) rfl (by decide) (by decide)
set_option maxRecDepth 100000 in
theorem sK_416 {H : jH} (h : jsh H) : jK H 416 = (103, 41) := sK h (a := 416) rfl (by decide) (by decide)
set_option maxRecDepth 100000 in
theorem sK_417 {H : jH} (h : jsh H) : jK H 417 = (113, 41) := sK h (a := 417) rfl (by decide) (by decide)
set_option maxRecDepth 100000 in
theorem sK_418 {H : jH} (h : jsh H) : jK H 418 = (102, 41) := sK h (a := 418) rfl (by decide) (by decide)
set_option maxRecDepth 100000 in
theorem sK_419 {H : jH} (h : jsh H) : jK H 419 = (113, 8) := sK h (a := 419) rfl (by decide) (by decide)
set_option maxRecDepth 100000 in
theorem sK_420 {H : jH} (h : jsh H) : jK H 420 = (100, 8) := sK h (a := 420) rfl (by decide) (by decide)
set_option maxRecDepth 100000 in
theorem sK_421 {H : jH} (h : jsh H) : jK H 421 = (18, 61) := sK h (a := 421) rfl (by decide) (by decide)
set_option maxRecDepth 100000 in
theorem sK_422 {H : jH} (h : jsh H) : jK H 422 = (12, 4) := sK h (a := 422) rfl (by decide) (by decide)
set_option maxRecDepth 100000 in
theorem sK_423 {H : jH} (h : jsh H) : jK H 423 = (100, 64) := sK h (a := 423) rfl (by decide) (by decide)
set_option maxRecDepth 100000 in
theorem sK_424 {H : jH} (h : jsh H) : jK H 424 = (100, 8) := sK h (a := 424) rfl (by decide) (by decide)
set_option maxRecDepth 100000 in
theorem sK_425 {H : jH} (h : jsh H) : jK H 425 = (100, 10) := sK h (a := 425) rfl (by decide) (by decide)
set_option maxRecDepth 100000 in
theorem sK_426 {H : jH} (h : jsh H) : jK H 426 = (101, 32) := sK h (a := 426) rfl (by decide) (by decide)
set_option maxRecDepth 100000 in
theorem sK_427 {H : jH} (h : jsh H) : jK H 427 = (15, 10) := sK h (a := 427) rfl (by decide) (by decide)
set_option maxRecDepth 100000 in
theorem sK_428 {H : jH} (h : jsh H) : jK H 428 = (13, 7) := sK h (a := 428) rfl (by decide) (by decide)
set_option maxRecDepth 100000 in
theorem sK_429 {H : jH} (h : jsh H) : jK H 429 = (100, 480) := sK h (a := 429) rfl (by decide) (by decide)
set_option maxRecDepth 100000 in
theorem sK_430 {H : jH} (h : jsh H) : jK H 430 = (103, 22) := sK h (a := 430) rfl (by decide) (by decide)
set_option maxRecDepth 100000 in
theorem sK_431 {H : jH} (h : jsh H) : jK H 431 = (103, 22) := sK h (a := 431) rfl (by decide) (by decide)
set_option maxRecDepth 100000 in
theorem sK_432 {H : jH} (h : jsh H) : jK H 432 = (100, 20) := sK h (a := 432) rfl (by decide) (by decide)
set_option maxRecDepth 100000 in
theorem sK_433 {H : jH} (h : jsh H) : jK H 433 = (102, 4) := sK h (a := 433) rfl (by decide) (by decide)
set_option maxRecDepth 100000 in
theorem sK_434 {H : jH} (h : jsh H) : jK H 434 = (100, 100) := sK h (a := 434) rfl (by decide) (by decide)
set_option maxRecDepth 100000 in
theorem sK_435 {H : jH} (h : jsh H) : jK H 435 = (101, 4000) := sK h (a := 435) rfl (by decide) (by decide)
set_option maxRecDepth 100000 in
theorem sK_436 {H : jH} (h : jsh H) : jK H 436 = (101, 32) := sK h (a := 436) rfl (by decide) (by decide)
set_option maxRecDepth 100000 in
theorem sK_437 {H : jH} (h : jsh H) : jK H 437 = (14, 17) := sK h (a := 437) rfl (by decide) (by decide)
set_option maxRecDepth 100000 in
theorem sK_438 {H : jH} (h : jsh H) : jK H 438 = (100, 16800) := sK h (a := 438) rfl (by decide) (by decide)
set_option maxRecDepth 100000 in
theorem sK_439 {H : jH} (h : jsh H) : jK H 439 = (100, 140) := sK h (a := 439) rfl (by decide) (by decide)
set_option maxRecDepth 100000 in
theorem sK_440 {H : jH} (h : jsh H) : jK H 440 = (100, 200) := sK h (a := 440) rfl (by decide) (by decide)
set_option maxRecDepth 100000 in
theorem sK_441 {H : jH} (h : jsh H) : jK H 441 = (100, 201) := sK h (a := 441) rfl (by decide) (by decide)
set_option maxRecDepth 100000 in
theorem sK_442 {H : jH} (h : jsh H) : jK H 442 = (101, 120) := sK h (a := 442) rfl (by decide) (by decide)
set_option maxRecDepth 100000 in
theorem sK_443 {H : jH} (h : jsh H) : jK H 443 = (101, 120) := sK h (a := 443) rfl (by decide) (by decide)
set_option maxRecDepth 100000 in
theorem sK_444 {H : jH} (h : jsh H) : jK H 444 = (101, 32) := sK h (a := 444) rfl (by decide) (by decide)
set_option maxRecDepth 100000 in
theorem sK_445 {H : jH} (h : jsh H) : jK H 445 = (16, 12) := sK h (a := 445) rfl (by decide) (by decide)
set_option maxRecDepth 100000 in
theorem sK_446 {H : jH} (h : jsh H) : jK H 446 = (100, 300) := sK h (a := 446) rfl (by decide) (by decide)
set_option maxRecDepth 100000 in
theorem sK_447 {H : jH} (h : jsh H) : jK H 447 = (100, 300) := sK h (a := 447) rfl (by decide) (by decide)
set_option maxRecDepth 100000 in
theorem sK_448 {H : jH} (h : jsh H) : jK H 448 = (103, 300) := sK h (a := 448) rfl (by decide) (by decide)
set_option maxRecDepth 100000 in
theorem sK_449 {H : jH} (h : jsh H) : jK H 449 = (103, 300) := sK h (a := 449) rfl (by decide) (by decide)
set_option maxRecDepth 100000 in
theorem sK_450 {H : jH} (h : jsh H) : jK H 450 = (102, 300) := sK h (a := 450) rfl (by decide) (by decide)
set_option maxRecDepth 100000 in
theorem sK_451 {H : jH} (h : jsh H) : jK H 451 = (100, 12000) := sK h (a := 451) rfl (by decide) (by decide)
set_option maxRecDepth 100000 in
theorem sK_452 {H : jH} (h : jsh H) : jK H 452 = (100, 40) := sK h (a := 452) rfl (by decide) (by decide)
set_option maxRecDepth 100000 in
theorem sK_453 {H : jH} (h : jsh H) : jK H 453 = (100, 40) := sK h (a := 453) rfl (by decide) (by decide)
set_option maxRecDepth 100000 in
theorem sK_454 {H : jH} (h : jsh H) : jK H 454 = (100, 40) := sK h (a := 454) rfl (by decide) (by decide)
set_option maxRecDepth 100000 in
theorem sK_455 {H : jH} (h : jsh H) : jK H 455 = (103, 11) := sK h (a := 455) rfl (by decide) (by decide)
set_option maxRecDepth 100000 in
theorem sK_456 {H : jH} (h : jsh H) : jK H 456 = (17, 15) := sK h (a := 456) rfl (by decide) (by decide)
set_option maxRecDepth 100000 in
theorem sK_457 {H : jH} (h : jsh H) : jK H 457 = (100, 8) := sK h (a := 457) rfl (by decide) (by decide)
set_option maxRecDepth 100000 in
theorem sK_458 {H : jH} (h : jsh H) : jK H 458 = (103, 8) := sK h (a := 458) rfl (by decide) (by decide)
set_option maxRecDepth 100000 in
theorem sK_459 {H : jH} (h : jsh H) : jK H 459 = (100, 8) := sK h (a := 459) rfl (by decide) (by decide)
set_option maxRecDepth 100000 in
theorem sK_460 {H : jH} (h : jsh H) : jK H 460 = (100, 8) := sK h (a := 460) rfl (by decide) (by decide)
set_option maxRecDepth 100000 in
theorem sK_461 {H : jH} (h : jsh H) : jK H 461 = (100, 8) := sK h (a := 461) rfl (by decide) (by decide)
set_option maxRecDepth 100000 in
theorem sK_462 {H : jH} (h : jsh H) : jK H 462 = (103, 8) := sK h (a := 462) rfl (by decide) (by decide)
set_option maxRecDepth 100000 in
theorem sK_463 {H : jH} (h : jsh H) : jK H 463 = (100, 8) := sK h (a := 463) rfl (by decide) (by decide)
set_option maxRecDepth 100000 in
theorem sK_464 {H : jH} (h : jsh H) : jK H 464 = (100, 8) := sK h (a := 464) rfl (by decide) (by decide)
set_option maxRecDepth 100000 in
theorem sK_465 {H : jH} (h : jsh H) : jK H 465 = (17, 15) := sK h (a := 465) rfl (by decide) (by decide)
set_option maxRecDepth 100000 in
theorem sK_466 {H : jH} (h : jsh H) : jK H 466 = (100, 8) := sK h (a := 466) rfl (by decide) (by decide)
set_option maxRecDepth 100000 in
theorem sK_467 {H : jH} (h : jsh H) : jK H 467 = (103, 8) := sK h (a := 467) rfl (by decide) (by decide)
set_option maxRecDepth 100000 in
theorem sK_468 {H : jH} (h : jsh H) : jK H 468 = (100, 8) := sK h (a := 468) rfl (by decide) (by decide)
set_option maxRecDepth 100000 in
theorem sK_469 {H : jH} (h : jsh H) : jK H 469 = (100, 8) := sK h (a := 469) rfl (by decide) (by decide)
set_option maxRecDepth 100000 in
theorem sK_470 {H : jH} (h : jsh H) : jK H 470 = (100, 8) := sK h (a := 470) rfl (by decide) (by decide)
set_option maxRecDepth 100000 in
theorem sK_471 {H : jH} (h : jsh H) : jK H 471 = (103, 8) := sK h (a := 471) rfl (by decide) (by decide)
set_option maxRecDepth 100000 in
theorem sK_472 {H : jH} (h : jsh H) : jK H 472 = (100, 8) := sK h (a := 472) rfl (by decide) (by decide)
set_option maxRecDepth 100000 in
theorem sK_473 {H : jH} (h : jsh H) : jK H 473 = (100, 8) := sK h (a := 473) rfl (by decide) (by decide)
set_option maxRecDepth 100000 in
theorem sK_474 {H : jH} (h : jsh H) : jK H 474 = (101, 600000) := sK h (a := 474) rfl (by decide) (by decide)
set_option maxRecDepth 100000 in
theorem sK_475 {H : jH} (h : jsh H) : jK H 475 = (100, 300) := sK h (a := 475) rfl (by decide) (by decide)
set_option maxRecDepth 100000 in
theorem sK_476 {H : jH} (h : jsh H) : jK H 476 = (101, 9600) := sK h (a := 476) rfl (by decide) (by decide)
set_option maxRecDepth 100000 in
theorem sK_477 {H : jH} (h : jsh H) : jK H 477 = (100, 300) := sK h (a := 477) rfl (by decide) (by decide)
set_option maxRecDepth 100000 in
theorem sK_478 {H : jH} (h : jsh H) : jK H 478 = (100, 300) := sK h (a := 478) rfl (by decide) (by decide)
set_option maxRecDepth 100000 in
theorem sK_479 {H : jH} (h : jsh H) : jK H 479 = (101, 115200) := sK h (a := 479) rfl (by decide) (by decide)
set_option maxRecDepth 100000 in
theorem sK_480 {H : jH} (h : jsh H) : jK H 480 = (101, 384) := sK h (a := 480) rfl (by decide) (by decide)
set_option maxRecDepth 100000 in
theorem sK_481 {H : jH} (h : jsh H) : jK H 481 = (100, 13) := sK h (a := 481) rfl (by decide) (by decide)
set_option maxRecDepth 100000 in
theorem sK_482 {H : jH} (h : jsh H) : jK H 482 = (101, 54400) := sK h (a := 482) rfl (by decide) (by decide)
set_option maxRecDepth 100000 in
theorem sK_483 {H : jH} (h : jsh H) : jK H 483 = (103, 1700) := sK h (a := 483) rfl (by decide) (by decide)
set_option maxRecDepth 100000 in
theorem sK_484 {H : jH} (h : jsh H) : jK H 484 = (103, 1700) := sK h (a := 484) rfl (by decide) (by decide)
set_option maxRecDepth 100000 in
theorem sK_485 {H : jH} (h : jsh H) : jK H 485 = (100, 1700) := sK h (a := 485) rfl (by decide) (by decide)
set_option maxRecDepth 100000 in
theorem sK_486 {H : jH} (h : jsh H) : jK H 486 = (102, 1700) := sK h (a := 486) rfl (by decide) (by decide)
set_option maxRecDepth 100000 in
theorem sK_487 {H : jH} (h : jsh H) : jK H 487 = (100, 1700) := sK h (a := 487) rfl (by decide) (by decide)
set_option maxRecDepth 100000 in
theorem sK_488 {H : jH} (h : jsh H) : jK H 488 = (100, 1700) := sK h (a := 488) rfl (by decide) (by decide)
set_option maxRecDepth 100000 in
theorem sK_489 {H : jH} (h : jsh H) : jK H 489 = (101, 54400) := sK h (a := 489) rfl (by decide) (by decide)
set_option maxRecDepth 100000 in
theorem sK_490 {H : jH} (h : jsh H) : jK H 490 = (103, 1700) := sK h (a := 490) rfl (by decide) (by decide)
set_option maxRecDepth 100000 in
theorem sK_491 {H : jH} (h : jsh H) : jK H 491 = (103, 1700) := sK h (a := 491) rfl (by decide) (by decide)
set_option maxRecDepth 100000 in
theorem sK_492 {H : jH} (h : jsh H) : jK H 492 = (100, 1700) := sK h (a := 492) rfl (by decide) (by decide)
set_option maxRecDepth 100000 in
theorem sK_493 {H : jH} (h : jsh H) : jK H 493 = (102, 1700) := sK h (a := 493) rfl (by decide) (by decide)
set_option maxRecDepth 100000 in
theorem sK_494 {H : jH} (h : jsh H) : jK H 494 = (100, 1700) := sK h (a := 494) rfl (by decide) (by decide)
set_option maxRecDepth 100000 in
theorem sK_495 {H : jH} (h : jsh H) : jK H 495 = (100, 1700) := sK h (a := 495) rfl (by decide) (by decide)
set_option maxRecDepth 100000 in
theorem sK_496 {H : jH} (h : jsh H) : jK H 496 = (101, 84000) := sK h (a := 496) rfl (by decide) (by decide)
set_option maxRecDepth 100000 in
theorem sK_497 {H : jH} (h : jsh H) : jK H 497 = (100, 42) := sK h (a := 497) rfl (by decide) (by decide)
set_option maxRecDepth 100000 in
theorem sK_498 {H : jH} (h : jsh H) : jK H 498 = (101, 1344) := sK h (a := 498) rfl (by decide) (by decide)
set_option maxRecDepth 100000 in
theorem sK_499 {H : jH} (h : jsh H) : jK H 499 = (103, 42) := sK h (a := 499) rfl (by decide) (by decide)
set_option maxRecDepth 100000 in
theorem sK_500 {H : jH} (h : jsh H) : jK H 500 = (100, 42) := sK h (a := 500) rfl (by decide) (by decide)
set_option maxRecDepth 100000 in
theorem sK_501 {H : jH} (h : jsh H) : jK H 501 = (100, 336) := sK h (a := 501) rfl (by decide) (by decide)
set_option maxRecDepth 100000 in
theorem sK_502 {H : jH} (h : jsh H) : jK H 502 = (103, 336) := sK h (a := 502) rfl (by decide) (by decide)
set_option maxRecDepth 100000 in
theorem sK_503 {H : jH} (h : jsh H) : jK H 503 = (102, 42) := sK h (a := 503) rfl (by decide) (by decide)
set_option maxRecDepth 100000 in
theorem sK_504 {H : jH} (h : jsh H) : jK H 504 = (101, 84000) := sK h (a := 504) rfl (by decide) (by decide)
set_option maxRecDepth 100000 in
theorem sK_505 {H : jH} (h : jsh H) : jK H 505 = (100, 42) := sK h (a := 505) rfl (by decide) (by decide)
set_option maxRecDepth 100000 in
theorem sK_506 {H : jH} (h : jsh H) : jK H 506 = (101, 2000) := sK h (a := 506) rfl (by decide) (by decide)
set_option maxRecDepth 100000 in
theorem sK_507 {H : jH} (h : jsh H) : jK H 507 = (101, 32) := sK h (a := 507) rfl (by decide) (by decide)
set_option maxRecDepth 100000 in
theorem sK_508 {H : jH} (h : jsh H) : jK H 508 = (101, 448) := sK h (a := 508) rfl (by decide) (by decide)
set_option maxRecDepth 100000 in
theorem sK_509 {H : jH} (h : jsh H) : jK H 509 = (101, 32) := sK h (a := 509) rfl (by decide) (by decide)
set_option maxRecDepth 100000 in
theorem sK_510 {H : jH} (h : jsh H) : jK H 510 = (101, 32000) := sK h (a := 510) rfl (by decide) (by decide)
set_option maxRecDepth 100000 in
theorem sK_511 {H : jH} (h : jsh H) : jK H 511 = (100, 4) := sK h (a := 511) rfl (by decide) (by decide)
set_option maxRecDepth 100000 in
theorem sK_512 {H : jH} (h : jsh H) : jK H 512 = (101, 2200) := sK h (a := 512) rfl (by decide) (by decide)
