/-! The constructors: what stands where while objects are made. -/
def jRL (l : List (Nat × Nat × Nat)) (a j : Nat) : Nat := l.foldl (fun r q => if q.1 = a ∧ q.2.1 = j then q.2.2 else r) 0
theorem jRL_app (l : List (Nat × Nat × Nat)) (q : Nat × Nat × Nat) (a j : Nat) : jRL (l ++ [q]) a j = if q.1 = a ∧ q.2.1 = j then q.2.2 else jRL l a j := by
  unfold jRL
  rw [List.foldl_append]
  rfl
theorem jRL_none (l : List (Nat × Nat × Nat)) (a j : Nat) (h : ∀ q ∈ l, q.1 < a) : jRL l a j = 0 := by
  unfold jRL
  suffices h2 : ∀ r, l.foldl (fun r q => if q.1 = a ∧ q.2.1 = j then q.2.2 else r) r = r from h2 0
  induction l with
  | nil => exact fun r => rfl
  | cons q l ih =>
    intro r
    rw [List.foldl_cons, if_neg (fun hq => by have := h q List.mem_cons_self; omega)]
    exact ih (fun q hq => h q (List.mem_cons_of_mem _ hq)) r
def jWs : List (Nat × Nat × Nat) := [(32, 0, 33), (32, 2, 34), (35, 0, 36), (35, 1, 37), (35, 2, 38), (35, 3, 39), (32, 4, 35), (32, 5, 40), (32, 6, 41), (32, 7, 42), (43, 0, 44), (43, 2, 45), (43, 3, 46), (43, 4, 47), (43, 5, 48), (32, 9, 43), (50, 1, 51), (50, 2, 52), (50, 3, 53), (50, 4, 54), (50, 5, 55), (50, 6, 56), (50, 7, 57), (58, 0, 59), (58, 1, 60), (58, 2, 61), (58, 3, 62), (58, 4, 63), (58, 5, 64), (58, 6, 65), (58, 7, 66), (58, 8, 67), (58, 9, 68), (58, 10, 69), (58, 11, 70), (58, 12, 71), (58, 13, 72), (58, 14, 73), (58, 15, 74), (50, 8, 58), (75, 0, 76), (75, 1, 77), (75, 2, 78), (75, 3, 79), (75, 4, 80), (75, 5, 81), (75, 6, 82), (75, 7, 83), (75, 8, 84), (75, 9, 85), (75, 10, 86), (75, 11, 87), (75, 12, 88), (75, 13, 89), (75, 14, 90), (75, 15, 91), (50, 9, 75), (50, 10, 92), (50, 11, 93), (50, 12, 94), (50, 13, 95), (96, 0, 97), (96, 1, 98), (96, 2, 99), (50, 14, 96), (100, 0, 101), (100, 1, 102), (100, 2, 103), (50, 15, 100), (104, 0, 105), (104, 1, 106), (104, 2, 107), (94, 0, 104), (108, 0, 109), (108, 1, 110), (108, 2, 111), (95, 0, 108), (112, 0, 113), (112, 1, 114), (112, 2, 115), (94, 1, 112), (116, 0, 117), (116, 1, 118), (116, 2, 119), (95, 1, 116), (120, 0, 121), (120, 1, 122), (120, 2, 123), (94, 2, 120), (124, 0, 125), (124, 1, 126), (124, 2, 127), (95, 2, 124), (128, 0, 129), (128, 1, 130), (128, 2, 131), (94, 3, 128), (132, 0, 133), (132, 1, 134), (132, 2, 135), (95, 3, 132), (136, 0, 137), (136, 1, 138), (136, 2, 139), (94, 4, 136), (140, 0, 141), (140, 1, 142), (140, 2, 143), (95, 4, 140), (144, 0, 145), (144, 1, 146), (144, 2, 147), (94, 5, 144), (148, 0, 149), (148, 1, 150), (148, 2, 151), (95, 5, 148), (152, 0, 153), (152, 1, 154), (152, 2, 155), (94, 6, 152), (156, 0, 157), (156, 1, 158), (156, 2, 159), (95, 6, 156), (160, 0, 161), (160, 1, 162), (160, 2, 163), (94, 7, 160), (164, 0, 165), (164, 1, 166), (164, 2, 167), (95, 7, 164), (49, 2, 50), (49, 3, 168), (49, 5, 169), (49, 0, 43), (172, 0, 173), (172, 1, 174), (172, 2, 175), (172, 3, 176), (172, 4, 177), (172, 5, 178), (172, 6, 179), (172, 7, 180), (172, 8, 181), (172, 9, 182), (172, 10, 183), (172, 11, 184), (172, 12, 185), (172, 13, 186), (172, 14, 187), (172, 15, 188), (172, 16, 189), (172, 17, 190), (172, 18, 191), (172, 19, 192), (172, 20, 193), (172, 21, 194), (172, 22, 195), (172, 23, 196), (172, 24, 197), (172, 25, 198), (172, 26, 199), (172, 27, 200), (172, 28, 201), (172, 29, 202), (172, 30, 203), (172, 31, 204), (172, 32, 205), (172, 33, 206), (172, 34, 207), (172, 35, 208), (172, 36, 209), (172, 37, 210), (172, 38, 211), (172, 39, 212), (172, 40, 213), (172, 41, 214), (172, 42, 215), (172, 43, 216), (172, 44, 217), (172, 45, 218), (172, 46, 219), (172, 47, 220), (172, 48, 221), (172, 49, 222), (172, 50, 223), (172, 51, 224), (172, 52, 225), (172, 53, 226), (172, 54, 227), (172, 55, 228), (172, 56, 229), (172, 57, 230), (172, 58, 231), (172, 59, 232), (172, 60, 233), (172, 61, 234), (172, 62, 235), (172, 63, 236), (172, 64, 237), (172, 65, 238), (172, 66, 239), (172, 67, 240), (172, 68, 241), (172, 69, 242), (171, 0, 172), (171, 1, 243), (170, 1, 171), (245, 0, 246), (245, 1, 247), (245, 2, 248), (245, 3, 249), (245, 4, 250), (245, 5, 251), (245, 6, 252), (245, 7, 253), (245, 8, 254), (245, 9, 255), (245, 10, 256), (245, 11, 257), (245, 12, 258), (245, 13, 259), (245, 14, 260), (245, 15, 261), (245, 16, 262), (245, 17, 263), (245, 18, 264), (245, 19, 265), (245, 20, 266), (245, 21, 267), (245, 22, 268), (245, 23, 269), (245, 24, 270), (245, 25, 271), (245, 26, 272), (245, 27, 273), (245, 28, 274), (245, 29, 275), (245, 30, 276), (245, 31, 277), (245, 32, 278), (245, 33, 279), (245, 34, 280), (245, 35, 281), (245, 36, 282), (245, 37, 283), (245, 38, 284), (245, 39, 285), (245, 40, 286), (245, 41, 287), (245, 42, 288), (245, 43, 289), (245, 44, 290), (245, 45, 291), (245, 46, 292), (245, 47, 293), (245, 48, 294), (245, 49, 295), (245, 50, 296), (245, 51, 297), (245, 52, 298), (245, 53, 299), (245, 54, 300), (245, 55, 301), (245, 56, 302), (245, 57, 303), (245, 58, 304), (245, 59, 305), (245, 60, 306), (245, 61, 307), (245, 62, 308), (245, 63, 309), (245, 64, 310), (245, 65, 311), (245, 66, 312), (245, 67, 313), (245, 68, 314), (245, 69, 315), (244, 0, 245), (244, 1, 316), (170, 2, 244), (318, 0, 319), (318, 1, 320), (318, 2, 321), (318, 3, 322), (318, 4, 323), (318, 5, 324), (318, 6, 325), (318, 7, 326), (318, 8, 327), (318, 9, 328), (318, 10, 329), (318, 11, 330), (318, 12, 331), (318, 13, 332), (318, 14, 333), (318, 15, 334), (318, 16, 335), (318, 17, 336), (318, 18, 337), (318, 19, 338), (318, 20, 339), (318, 21, 340), (318, 22, 341), (318, 23, 342), (318, 24, 343), (318, 25, 344), (318, 26, 345), (318, 27, 346), (318, 28, 347), (318, 29, 348), (318, 30, 349), (318, 31, 350), (318, 32, 351), (318, 33, 352), (318, 34, 353), (318, 35, 354), (318, 36, 355), (318, 37, 356), (318, 38, 357), (318, 39, 358), (318, 40, 359), (318, 41, 360), (318, 42, 361), (318, 43, 362), (318, 44, 363), (318, 45, 364), (318, 46, 365), (318, 47, 366), (318, 48, 367), (318, 49, 368), (318, 50, 369), (318, 51, 370), (318, 52, 371), (318, 53, 372), (318, 54, 373), (318, 55, 374), (318, 56, 375), (318, 57, 376), (318, 58, 377), (318, 59, 378), (318, 60, 379), (318, 61, 380), (318, 62, 381), (318, 63, 382), (318, 64, 383), (318, 65, 384), (318, 66, 385), (318, 67, 386), (318, 68, 387), (318, 69, 388), (317, 0, 318), (317, 1, 389), (170, 3, 317), (170, 4, 390), (170, 5, 390), (170, 11, 391), (170, 0, 43), (49, 1, 170), (32, 10, 49), (392, 0, 393), (392, 1, 394), (392, 2, 395), (392, 6, 396), (392, 7, 397), (32, 11, 392), (398, 3, 399), (398, 7, 400), (398, 8, 401), (398, 9, 402), (398, 11, 403), (398, 12, 404), (398, 13, 405), (398, 14, 406), (398, 15, 407), (398, 16, 408), (398, 0, 43), (398, 1, 392), (398, 2, 49), (410, 1, 411), (410, 4, 412), (410, 8, 413), (410, 0, 409), (399, 0, 410), (400, 0, 410), (398, 6, 410), (32, 12, 398), (414, 2, 415), (414, 3, 416), (414, 5, 417), (414, 6, 418), (414, 7, 419), (414, 8, 420), (414, 0, 392), (414, 1, 49), (32, 13, 414)]
/-- where the constructors lay more than references and zeros -/
def jEx (a j : Nat) : Bool := [44, 45, 46, 48, 409, 411, 423, 424, 425, 426, 429, 432, 433, 446, 447, 448, 449, 450, 451, 452, 453, 454, 476].contains a || ([(43, 1), (398, 4), (410, 2), (410, 3), (445, 0), (445, 1), (474, 0), (474, 68), (474, 69), (474, 70), (474, 71), (474, 72), (474, 73), (474, 74), (474, 75), (475, 0), (477, 0), (96, 3), (100, 3), (104, 3), (108, 3), (112, 3), (116, 3), (120, 3), (124, 3), (128, 3), (132, 3), (136, 3), (140, 3), (144, 3), (148, 3), (152, 3), (156, 3), (160, 3), (164, 3)] : List (Nat × Nat)).contains (a, j)
def jPt (_ : jH) : Prop := True
theorem jPt_eq {H H' : jH} (_ : jPt H) (_ : ∀ j, jI H' 429 j = jI H 429 j ∧ jI H' 432 j = jI H 432 j) : jPt H' := trivial
def jcs (n s m : Nat) (Hb : jH) (nb : Nat) (H : jH) : Prop :=
  jn H = n ∧ js H = s ∧ (∀ a q, a < n → a ≠ 18 → jKs[a]? = some q → jK H a = q) ∧ (∀ a j, 32 ≤ a → a < n → jEx a j = false → jR H a j = jRL (jWs.take m) a j) ∧
  (∀ a j, a < nb → jI H a j = jI Hb a j ∧ jL H a j = jL Hb a j ∧ jB H a j = jB Hb a j) ∧ (∀ a j, nb ≤ a → jEx a j = false → jI H a j = 0 ∧ jL H a j = 0 ∧ jB H a j = 0) ∧
  (∀ a, a < 18 → ∀ j, jI H a j = (jvals.getD a []).getD j 0) ∧ 32 ≤ nb ∧ nb ≤ n ∧ (∀ q ∈ jWs.take m, q.1 < n) ∧ jK H 18 = jK Hb 18 ∧ (436 ≤ n → jPt H) ∧ ∀ a, n ≤ a → (jK H a).1 = 99
section JCS
variable {n s m nb : Nat} {Hb H : jH} {α : Type} {Q : α → jH → Prop}
theorem c_Kf (h : jcs n s m Hb nb H) {a : Nat} {q : Nat × Nat} (e : a < n ∧ a ≠ 18 ∧ jKs[a]? = some q) : jK H a = q := h.2.2.1 a q e.1 e.2.1 e.2.2
theorem c_K (h : jcs n s m Hb nb H) {a t : Nat} (e : a < n ∧ a ≠ 18 ∧ (jKs[a]?).map (·.1) = some t) : (jK H a).1 = t := by
  obtain ⟨e1, e2, e3⟩ := e
  match hq : jKs[a]? with
  | none => rw [hq] at e3; exact absurd e3 (by simp)
  | some q =>
    rw [hq] at e3
    rw [h.2.2.1 a q e1 e2 hq]
    exact Option.some.inj e3
theorem c_R (h : jcs n s m Hb nb H) {a j v : Nat} (e : 32 ≤ a ∧ a < n ∧ jEx a j = false ∧ jRL (jWs.take m) a j = v) : jR H a j = v := (h.2.2.2.1 a j e.1 e.2.1 e.2.2.1).trans e.2.2.2
theorem c_0 (h : jcs n s m Hb nb H) {a j : Nat} (e : nb ≤ a ∧ jEx a j = false) : jI H a j = 0 ∧ jL H a j = 0 ∧ jB H a j = 0 := h.2.2.2.2.2.1 a j e.1 e.2
theorem c_old (h : jcs n s m Hb nb H) {a j : Nat} (e : a < nb) : jI H a j = jI Hb a j ∧ jL H a j = jL Hb a j ∧ jB H a j = jB Hb a j := h.2.2.2.2.1 a j e
theorem c_rebase (h : jcs n s m Hb nb H) (h32 : 32 ≤ n) : jcs n s m H n H :=
  ⟨h.1, h.2.1, h.2.2.1, h.2.2.2.1, fun a j _ => ⟨rfl, rfl, rfl⟩, fun a j ha => h.2.2.2.2.2.1 a j (Nat.le_trans h.2.2.2.2.2.2.2.2.1 ha), h.2.2.2.2.2.2.1, h32, Nat.le_refl n, h.2.2.2.2.2.2.2.2.2.1, rfl, h.2.2.2.2.2.2.2.2.2.2.2⟩
theorem c_nw (h : jcs n s m Hb nb H) {t k0 : Nat} {kk : Nat → jH → Option (α × jH)} (k n' s' : Nat) (e : jKs[n]? = some (t, k) ∧ k0 = k ∧ n + 1 = n' ∧ s + k = s') (hk : ∀ H', jcs n' s' m Hb nb H' → jT (kk n H') Q) (e435 : n ≠ 435 ∨ jPt H := by exact Or.inl (by decide)) : jT (jnw H t k0 kk) Q := by
  obtain ⟨e1, rfl, rfl, rfl⟩ := e
  obtain ⟨h1, h2, h3, h4, h5, h6, h7, h8, h9, h10, h18, hP, hX⟩ := h
  have hk2 := hk (jnew H t k0)
  refine jT_nw ?_
  rw [h1]
  have hz : ∀ a j, jI (jnew H t k0) a j = if a = jn H then 0 else jI H a j := fun a j => rfl
  have hzL : ∀ a j, jL (jnew H t k0) a j = if a = jn H then 0 else jL H a j := fun a j => rfl
  have hzB : ∀ a j, jB (jnew H t k0) a j = if a = jn H then 0 else jB H a j := fun a j => rfl
  have hzR : ∀ a j, jR (jnew H t k0) a j = if a = jn H then 0 else jR H a j := fun a j => rfl
  have hzK : ∀ a, jK (jnew H t k0) a = if a = jn H then (t, k0) else jK H a := fun a => rfl
  refine hk2 ⟨?_, ?_, fun a q ha hne hq => ?_, fun a j ha ha2 hx => ?_, fun a j ha => ?_, fun a j ha hx => ?_, fun a ha j => ?_, h8, by omega, fun q hq => Nat.lt_succ_of_lt (h10 q hq), by rw [hzK, if_neg (by omega)]; exact h18, fun hn => ?_, fun a ha => by rw [hzK, if_neg (by omega)]; exact hX a (by omega)⟩
  · show jn H + 1 = n + 1
    rw [h1]
  · show js H + k0 = s + k0
    rw [h2]
  · rw [hzK]
    by_cases hn : a = jn H
    · rw [if_pos hn]
      rw [hn, h1, e1] at hq
      exact Option.some.inj hq
    · rw [if_neg hn]
      exact h3 a q (by omega) hne hq
  · rw [hzR]
    by_cases hn : a = jn H
    · rw [if_pos hn, jRL_none]
      intro q hq
      have := h10 q hq
      omega
    · rw [if_neg hn]
      exact h4 a j ha (by omega) hx
  · rw [hz, hzL, hzB, if_neg (by omega), if_neg (by omega), if_neg (by omega)]
    exact h5 a j ha
  · rw [hz, hzL, hzB]
    by_cases hn : a = jn H
    · rw [if_pos hn, if_pos hn, if_pos hn]
      exact ⟨rfl, rfl, rfl⟩
    · rw [if_neg hn, if_neg hn, if_neg hn]
      exact h6 a j ha hx
  · rw [hz, if_neg (by omega)]
    exact h7 a ha j
  · refine jPt_eq (H := H) (e435.elim (fun q => hP (by omega)) id) fun j => ?_
    rw [hz, hz, if_neg (by omega), if_neg (by omega)]
    exact ⟨rfl, rfl⟩
theorem c_set {H' : jH} (h : jcs n s m Hb nb H) (eP : 436 ≤ n → ∀ j, jI H' 429 j = jI H 429 j ∧ jI H' 432 j = jI H 432 j) (e1 : jn H' = jn H) (e2 : js H' = js H) (e3 : jK H' = jK H) (e4 : jR H' = jR H) (e5 : ∀ a j, a < nb ∨ (nb ≤ a ∧ jEx a j = false) → jI H' a j = jI H a j ∧ jL H' a j = jL H a j ∧ jB H' a j = jB H a j) : jcs n s m Hb nb H' := by
  obtain ⟨h1, h2, h3, h4, h5, h6, h7, h8, h9, h10, h18, hP, hX⟩ := h
  refine ⟨e1.trans h1, e2.trans h2, fun a q ha hne hq => by rw [e3]; exact h3 a q ha hne hq, fun a j ha ha2 hx => by rw [e4]; exact h4 a j ha ha2 hx, fun a j ha => ?_, fun a j ha hx => ?_, fun a ha j => ?_, h8, h9, h10, by rw [e3]; exact h18, fun hn => jPt_eq (hP hn) (eP hn), by rw [e3]; exact hX⟩
  · obtain ⟨q1, q2, q3⟩ := e5 a j (Or.inl ha)
    rw [q1, q2, q3]
    exact h5 a j ha
  · obtain ⟨q1, q2, q3⟩ := e5 a j (Or.inr ⟨ha, hx⟩)
    rw [q1, q2, q3]
    exact h6 a j ha hx
  · rw [(e5 a j (Or.inl (by omega))).1]
    exact h7 a ha j
theorem c_fr {H' : jH} {S : Nat → Nat → Prop} (h : jcs n s m Hb nb H) (hf : jfr S H H') (hS : ∀ a j, S a j → nb ≤ a ∧ jEx a j = true) (eP : n < 436 ∨ ∀ j, ¬ S 429 j ∧ ¬ S 432 j := by exact Or.inl (by decide)) : jcs n s m Hb nb H' := by
  obtain ⟨h1, h2, h3, h4, h5, h6, h7, h8, h9, h10, h18, hP, hX⟩ := h
  have hno : ∀ a j, a < nb → ¬ S a j := fun a j ha hs => by have := (hS a j hs).1; omega
  have hnx : ∀ a j, jEx a j = false → ¬ S a j := fun a j hx hs => by rw [(hS a j hs).2] at hx; exact absurd hx (by decide)
  refine ⟨hf.2.1.trans h1, hf.2.2.1.trans h2, fun a q ha hne hq => by rw [hf.1]; exact h3 a q ha hne hq, fun a j ha ha2 hx => by rw [jfr_R hf (hnx a j hx)]; exact h4 a j ha ha2 hx, fun a j ha => ?_, fun a j ha hx => ?_, fun a ha j => ?_, h8, h9, h10, by rw [hf.1]; exact h18, fun hn => jPt_eq (hP hn) fun j => eP.elim (fun q => absurd q (by omega)) fun q => ⟨jfr_I hf (q j).1, jfr_I hf (q j).2⟩, by rw [hf.1]; exact hX⟩
  · rw [jfr_I hf (hno a j ha), jfr_L hf (hno a j ha), jfr_B hf (hno a j ha)]
    exact h5 a j ha
  · rw [jfr_I hf (hnx a j hx), jfr_L hf (hnx a j hx), jfr_B hf (hnx a j hx)]
    exact h6 a j ha hx
  · rw [jfr_I hf (hno a j (by omega))]
    exact h7 a ha j
theorem c_ne {a i b j : Nat} (h : nb ≤ a ∧ jEx a i = true) (e : b < nb ∨ (nb ≤ b ∧ jEx b j = false)) : ¬ (b = a ∧ j = i) := by
  rintro ⟨rfl, rfl⟩
  rcases e with e | e
  · omega
  · rw [h.2] at e
    exact absurd e.2 (by decide)
theorem c_sI {P : Prop} [Decidable P] {a i : Nat} {v : Int32} {kk : jH → Option (α × jH)} (h : jcs n s m Hb nb H) (hP : P) (e : nb ≤ a ∧ jEx a i = true) (hk : ∀ H', jcs n s m Hb nb H' → jT (kk H') Q) (eP : n < 436 ∨ (a ≠ 429 ∧ a ≠ 432) := by decide) : jT (jg P (jl (jsI H a i v) kk)) Q :=
  jT_g hP (jT_l (hk _ (c_set h (fun hn j => eP.elim (fun q => absurd q (by omega)) fun q => ⟨jup_a q.1.symm, jup_a q.2.symm⟩) rfl rfl rfl rfl fun b j hb => ⟨jup_ne (c_ne e hb), rfl, rfl⟩)))
theorem c_sR {P : Prop} [Decidable P] {A J V : Nat} {kk : jH → Option (α × jH)} (h : jcs n s m Hb nb H) (hP : P) (a j v m' : Nat) (eA : A = a) (eJ : J = j) (eV : V = v) (e : jWs[m]? = some (a, j, v) ∧ m + 1 = m' ∧ 32 ≤ a ∧ a < n) (hk : ∀ H', jcs n s m' Hb nb H' → jT (kk H') Q) : jT (jg P (jl (jsR H A J V) kk)) Q := by
  subst eA eJ eV
  obtain ⟨e1, rfl, e3, e4⟩ := e
  obtain ⟨h1, h2, h3, h4, h5, h6, h7, h8, h9, h10, h18, hPt, hX⟩ := h
  have ht : jWs.take (m + 1) = jWs.take m ++ [(A, J, V)] := by rw [List.take_add_one, e1]; rfl
  refine jT_g hP (jT_l (hk _ ⟨h1, h2, h3, fun a j ha ha2 hx => ?_, h5, h6, h7, h8, h9, fun q hq => ?_, h18, fun hn => jPt_eq (hPt hn) fun j => ⟨rfl, rfl⟩, hX⟩))
  · rw [ht, jRL_app]
    by_cases hq : A = a ∧ J = j
    · rw [if_pos hq, ← hq.1, ← hq.2]
      exact jup_eq
    · rw [if_neg hq, ← h4 a j ha ha2 hx]
      exact jup_ne fun q => hq ⟨q.1.symm, q.2.symm⟩
  · rw [ht] at hq
    rcases List.mem_append.mp hq with hq | hq
    · exact h10 q hq
    · rw [List.mem_singleton.mp hq]
      exact e4
theorem jRL_rng (l : List (Nat × Nat × Nat)) (n0 k a j : Nat) (hl : ∀ q ∈ l, q.1 < n0) : jRL (l ++ (List.range k).map fun i => (n0, i, n0 + 1 + i)) a j = if a = n0 then (if j < k then n0 + 1 + j else 0) else jRL l a j := by
  induction k with
  | zero =>
    rw [List.range_zero, List.map_nil, List.append_nil]
    by_cases h : a = n0
    · rw [if_pos h, if_neg (Nat.not_lt_zero j), jRL_none]
      intro q hq
      rw [h]
      exact hl q hq
    · rw [if_neg h]
  | succ k ih =>
    rw [List.range_succ, List.map_append, ← List.append_assoc, List.map_singleton, jRL_app, ih]
    by_cases h : a = n0
    · subst h
      rw [if_pos rfl, if_pos rfl]
      by_cases h2 : k = j
      · subst h2
        rw [if_pos ⟨rfl, rfl⟩, if_pos (Nat.lt_succ_self k)]
      · rw [if_neg (fun q => h2 q.2)]
        by_cases h3 : j < k
        · rw [if_pos h3, if_pos (by omega)]
        · rw [if_neg h3, if_neg (by omega)]
    · rw [if_neg (fun q => h q.1.symm), if_neg h, if_neg h]
theorem c_nm (h : jcs n s m Hb nb H) {t1 t2 k1 k2 : Nat} {kk : Nat → jH → Option (α × jH)} (K1 K2 n' s' m' : Nat)
    (e : k1 = K1 ∧ k2 = K2 ∧ jKs[n]? = some (t1, K1) ∧ (jKs.drop (n + 1)).take K1 = List.replicate K1 (t2, K2) ∧ n + 1 + K1 = n' ∧ s + K1 + K1 * K2 = s' ∧ (jWs.drop m).take K1 = (List.range K1).map (fun i => (n, i, n + 1 + i)) ∧ m + K1 = m')
    (hk : ∀ H', jcs n' s' m' Hb nb H' → jT (kk n H') Q) (e435 : n' < 436 := by decide) : jT (jnm H t1 t2 k1 k2 kk) Q := by
  obtain ⟨rfl, rfl, e1, e2, rfl, rfl, e3, rfl⟩ := e
  obtain ⟨h1, h2, h3, h4, h5, h6, h7, h8, h9, h10, h18, hP, hX⟩ := h
  show jT (kk (jn H) (jmul H t1 t2 k1 k2)) Q
  rw [h1]
  have hI : ∀ a j, jI (jmul H t1 t2 k1 k2) a j = if jn H ≤ a ∧ a ≤ jn H + k1 then 0 else jI H a j := fun a j => rfl
  have hL : ∀ a j, jL (jmul H t1 t2 k1 k2) a j = if jn H ≤ a ∧ a ≤ jn H + k1 then 0 else jL H a j := fun a j => rfl
  have hB : ∀ a j, jB (jmul H t1 t2 k1 k2) a j = if jn H ≤ a ∧ a ≤ jn H + k1 then 0 else jB H a j := fun a j => rfl
  have hR : ∀ a j, jR (jmul H t1 t2 k1 k2) a j = if a = jn H then (if j < k1 then jn H + 1 + j else 0) else if jn H < a ∧ a ≤ jn H + k1 then 0 else jR H a j := fun a j => rfl
  have hK : ∀ a, jK (jmul H t1 t2 k1 k2) a = if a = jn H then (t1, k1) else if jn H < a ∧ a ≤ jn H + k1 then (t2, k2) else jK H a := fun a => rfl
  have ht : jWs.take (m + k1) = jWs.take m ++ (List.range k1).map (fun i => (n, i, n + 1 + i)) := by rw [List.take_add, e3]
  have hmem : ∀ q ∈ jWs.take (m + k1), q.1 < n + 1 + k1 := by
    intro q hq
    rw [ht] at hq
    rcases List.mem_append.mp hq with hq | hq
    · have := h10 q hq
      omega
    · obtain ⟨i, hi, rfl⟩ := List.mem_map.mp hq
      show n < n + 1 + k1
      omega
  refine hk _ ⟨?_, ?_, fun a q ha hne hq => ?_, fun a j ha ha2 hx => ?_, fun a j ha => ?_, fun a j ha hx => ?_, fun a ha j => ?_, h8, by omega, hmem, by rw [hK, if_neg (by omega), if_neg (by omega)]; exact h18, fun hn => absurd hn (by omega), fun a ha => by rw [hK, if_neg (by omega), if_neg (by omega)]; exact hX a (by omega)⟩
  · show jn H + 1 + k1 = _
    rw [h1]
  · show js H + k1 + k1 * k2 = _
    rw [h2]
  · rw [hK]
    by_cases hn : a = jn H
    · rw [if_pos hn]
      rw [hn, h1, e1] at hq
      exact Option.some.inj hq
    · rw [if_neg hn]
      by_cases hn2 : jn H < a ∧ a ≤ jn H + k1
      · rw [if_pos hn2]
        have h12 : a - (n + 1) < k1 := by omega
        have := congrArg (fun l => l[a - (n + 1)]?) e2
        simp only [List.getElem?_take, List.getElem?_drop, List.getElem?_replicate, if_pos h12] at this
        rw [show n + 1 + (a - (n + 1)) = a by omega, hq] at this
        exact (Option.some.inj this).symm
      · rw [if_neg hn2]
        exact h3 a q (by omega) hne hq
  · rw [hR, ht, jRL_rng _ _ _ _ _ h10, h1]
    by_cases hn : a = n
    · rw [if_pos hn, if_pos hn]
    · rw [if_neg hn, if_neg hn]
      by_cases hn2 : n < a ∧ a ≤ n + k1
      · rw [if_pos hn2, jRL_none]
        intro q hq
        have := h10 q hq
        omega
      · rw [if_neg hn2]
        exact h4 a j ha (by omega) hx
  · rw [hI, hL, hB, if_neg (by omega), if_neg (by omega), if_neg (by omega)]
    exact h5 a j ha
  · rw [hI, hL, hB]
    by_cases hn : jn H ≤ a ∧ a ≤ jn H + k1
    · rw [if_pos hn, if_pos hn, if_pos hn]
      exact ⟨rfl, rfl, rfl⟩
    · rw [if_neg hn, if_neg hn, if_neg hn]
      exact h6 a j ha hx
  · rw [hI, if_neg (by omega)]
    exact h7 a ha j
theorem c_sB {P : Prop} [Decidable P] {a i : Nat} {v : UInt8} {kk : jH → Option (α × jH)} (h : jcs n s m Hb nb H) (hP : P) (e : nb ≤ a ∧ jEx a i = true) (hk : ∀ H', jcs n s m Hb nb H' → (∀ j, jB H' a j = if j = i then v else jB H a j) → jT (kk H') Q) : jT (jg P (jl (jsB H a i v) kk)) Q := by
  refine jT_g hP (jT_l (hk _ (c_set h (fun _ j => ⟨rfl, rfl⟩) rfl rfl rfl rfl fun b j hb => ⟨rfl, rfl, jup_ne (c_ne e hb)⟩) fun j => ?_))
  by_cases hj : j = i
  · rw [if_pos hj, hj]
    exact jB_sBe
  · rw [if_neg hj]
    exact jB_sBn hj
theorem c_nw0 (h : jcs n s m Hb nb H) {t k0 : Nat} {kk : Nat → jH → Option (α × jH)} (k n' s' : Nat) (e : jKs[n]? = some (t, k) ∧ k0 = k ∧ n + 1 = n' ∧ s + k = s') (hk : ∀ H', jcs n' s' m Hb nb H' → (∀ j, jB H' n j = 0) → jT (kk n H') Q) (e435 : n ≠ 435 ∨ jPt H := by exact Or.inl (by decide)) : jT (jnw H t k0 kk) Q := by
  refine c_nw (kk := fun r h => kk r (jnew H t k0)) h k n' s' e (fun H' hc' => ?_) e435
  have h2 : jcs n' s' m Hb nb (jnew H t k0) := by
    have q : jT (jnw H t k0 fun _ h => some ((), h)) (fun _ h => jcs n' s' m Hb nb h) := c_nw h k n' s' e (fun H' hc' => jT_ret hc') e435
    obtain ⟨x, hx, hQ⟩ := q
    have : x.2 = jnew H t k0 := (congrArg (fun o => o.map (·.2)) hx |> Option.some.inj).symm
    rw [this] at hQ
    exact hQ
  refine hk _ h2 fun j => ?_
  have : jn H = n := h.1
  show (if n = jn H then 0 else jB H n j) = 0
  rw [if_pos this.symm]
theorem c_sIf {P : Prop} [Decidable P] {a i : Nat} {v : Int32} {kk : jH → Option (α × jH)} (h : jcs n s m Hb nb H) (hP : P) (e : nb ≤ a ∧ jEx a i = true) (hk : ∀ H', jcs n s m Hb nb H' → jI H' a i = v → ((∀ b j, ¬ (b = a ∧ j = i) → jI H' b j = jI H b j) ∧ jL H' = jL H ∧ jB H' = jB H) → jT (kk H') Q) (eP : n < 436 ∨ (a ≠ 429 ∧ a ≠ 432) := by decide) : jT (jg P (jl (jsI H a i v) kk)) Q :=
  jT_g hP (jT_l (hk _ (c_set h (fun hn j => eP.elim (fun q => absurd q (by omega)) fun q => ⟨jup_a q.1.symm, jup_a q.2.symm⟩) rfl rfl rfl rfl fun b j hb => ⟨jup_ne (c_ne e hb), rfl, rfl⟩) jup_eq ⟨fun b j hb => jup_ne hb, rfl, rfl⟩))
theorem c_sL {P : Prop} [Decidable P] {a i : Nat} {v : Int64} {kk : jH → Option (α × jH)} (h : jcs n s m Hb nb H) (hP : P) (e : nb ≤ a ∧ jEx a i = true) (hk : ∀ H', jcs n s m Hb nb H' → jL H' a i = v → (jI H' = jI H ∧ jB H' = jB H) → jT (kk H') Q) : jT (jg P (jl (jsL H a i v) kk)) Q :=
  jT_g hP (jT_l (hk _ (c_set h (fun _ j => ⟨rfl, rfl⟩) rfl rfl rfl rfl fun b j hb => ⟨rfl, jup_ne (c_ne e hb), rfl⟩) jup_eq ⟨rfl, rfl⟩))
theorem c_sRf {P : Prop} [Decidable P] {A J V : Nat} {kk : jH → Option (α × jH)} (h : jcs n s m Hb nb H) (hP : P) (a j v m' : Nat) (eA : A = a) (eJ : J = j) (eV : V = v) (e : jWs[m]? = some (a, j, v) ∧ m + 1 = m' ∧ 32 ≤ a ∧ a < n) (hk : ∀ H', jcs n s m' Hb nb H' → (jI H' = jI H ∧ jL H' = jL H ∧ jB H' = jB H) → jT (kk H') Q) : jT (jg P (jl (jsR H A J V) kk)) Q := by
  have h2 : jcs n s m' Hb nb (jsR H A J V) := by
    have q : jT (jg True (jl (jsR H A J V) fun h => some ((), h))) (fun _ h => jcs n s m' Hb nb h) := c_sR h trivial a j v m' eA eJ eV e fun H' hc' => jT_ret hc'
    obtain ⟨x, hx, hQ⟩ := q
    have : x.2 = jsR H A J V := (congrArg (fun o => o.map (·.2)) hx |> Option.some.inj).symm
    rw [this] at hQ
    exact hQ
  exact jT_g hP (jT_l (hk _ h2 ⟨rfl, rfl, rfl⟩))
theorem c_trans {n0 s0 m0 : Nat} {H1 : jH} (h1 : jcs n0 s0 m0 Hb nb H1) (h : jcs n s m H1 n0 H) : jcs n s m Hb nb H := by
  obtain ⟨a1, a2, a3, a4, a5, a6, a7, a8, a9, a10, a18, aP⟩ := h1
  obtain ⟨b1, b2, b3, b4, b5, b6, b7, b8, b9, b10, b18, bP, bX⟩ := h
  refine ⟨b1, b2, b3, b4, fun a j ha => ?_, fun a j ha hx => ?_, b7, a8, by omega, b10, b18.trans a18, bP, bX⟩
  · obtain ⟨p1, p2, p3⟩ := b5 a j (by omega)
    obtain ⟨q1, q2, q3⟩ := a5 a j ha
    exact ⟨p1.trans q1, p2.trans q2, p3.trans q3⟩
  · by_cases hn : a < n0
    · obtain ⟨p1, p2, p3⟩ := b5 a j hn
      obtain ⟨q1, q2, q3⟩ := a6 a j ha hx
      exact ⟨p1.trans q1, p2.trans q2, p3.trans q3⟩
    · exact b6 a j (by omega) hx
theorem c_sp (h : jcs n s m Hb nb H) (hn : 49 ≤ n) (e : (jRs.all fun q => !(n == 422 || q.1 == 43) || (decide (32 ≤ q.1) && decide (q.1 < n) && !(jEx q.1 q.2.1) && jRL (jWs.take m) q.1 q.2.1 == q.2.2)) = true) : jsp n H := by
  refine ⟨hn, fun a q ha hne hq => h.2.2.1 a q ha hne hq, h.2.2.2.2.2.2.1, fun q hq hc => ?_, Nat.le_of_eq h.1.symm, fun a ha => h.2.2.2.2.2.2.2.2.2.2.2.2 a (by rw [← h.1]; exact ha)⟩
  have := List.all_eq_true.mp e q hq
  have hb : (n == 422 || q.1 == 43) = true := by
    rcases hc with hc | hc
    · rw [hc]; rfl
    · rw [hc]; simp
  rw [hb] at this
  simp only [Bool.not_true, Bool.false_or, Bool.and_eq_true, decide_eq_true_eq, Bool.not_eq_true', beq_iff_eq] at this
  obtain ⟨⟨⟨t1, t2⟩, t3⟩, t4⟩ := this
  exact (h.2.2.2.1 q.1 q.2.1 t1 t2 t3).trans t4
theorem c_18 (h : jcs n s m Hb nb H) : jK H 18 = jK Hb 18 := h.2.2.2.2.2.2.2.2.2.2.1
theorem c_new (h : jcs n s m Hb nb H) : ∀ a, jn H ≤ a → (jK H a).1 = 99 := fun a ha => h.2.2.2.2.2.2.2.2.2.2.2.2 a (by rw [← h.1]; exact ha)
end JCS
/-- four bytes, the lowest first -/
def zlow (b : Nat → UInt8) (i : Nat) : Int32 := (((((jbs (b i)) &&& 255) ||| (jshl ((jbs (b (i + 1))) &&& 255) 8)) ||| (jshl ((jbs (b (i + 2))) &&& 255) 16)) ||| (jshl (jbs (b (i + 3))) 24))
theorem z10_low {a len at_ : Nat} {H : jH} (hk : jK H a = (101, len)) (hl : at_ + 4 ≤ len) (hlen : len < 2147483648) : F_10_low a (Int32.ofNat at_) H = some (zlow (jB H a) at_, H) := by
  unfold F_10_low
  have e4 : Int32.ofNat at_ + 4 = Int32.ofNat (at_ + 4) := jo_add (a := at_) (b := 4)
  have e1 : Int32.ofNat at_ + 1 = Int32.ofNat (at_ + 1) := jo_add (a := at_) (b := 1)
  have e2 : Int32.ofNat at_ + 2 = Int32.ofNat (at_ + 2) := jo_add (a := at_) (b := 2)
  have e3 : Int32.ofNat at_ + 3 = Int32.ofNat (at_ + 3) := jo_add (a := at_) (b := 3)
  rw [if_neg (by rw [show (0 : Int32) = Int32.ofNat 0 from rfl, jo_lt (by omega) (by omega)]; omega), hk, jg_t rfl, e4, if_pos (by rw [jo_le (by omega) (by omega)]; exact hl), e1, e2, e3, jg_t ⟨rfl, jo_in (by omega) (by show _ < len; omega)⟩, jg_t ⟨rfl, jo_in (by omega) (by show _ < len; omega)⟩, jg_t ⟨rfl, jo_in (by omega) (by show _ < len; omega)⟩, jg_t ⟨rfl, jo_in (by omega) (by show _ < len; omega)⟩, jo_nat (n := at_) (by omega), jo_nat (n := at_ + 1) (by omega), jo_nat (n := at_ + 2) (by omega), jo_nat (n := at_ + 3) (by omega)]
  rfl
theorem znm_eq {b c : Nat → UInt8} {n : Nat} (h : ∀ i, i < n → b i = c i) : znm b n = znm c n := by
  have e : zsha b n = zsha c n := by
    funext i
    unfold zsha
    rw [zpad_eq h]
  funext i
  unfold znm
  rw [e]
