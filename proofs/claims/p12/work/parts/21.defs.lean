def B_5_normalize_50 (k2 : Nat → Int32 → jH → Option (Int32 × jH)) (k50 : Nat → Int32 → Int32 → jH → Option (Int32 × jH)) (a0 : Nat) (a1 : Int32) (a4 : Int32) (H : jH) : Option (Int32 × jH) :=
(if (9 : Int32) ≤ (a4 : Int32) then
jl (a1 + 1) fun x1 =>
k2 a0 x1 H
else
jg ((jK H a0).1 = 103 ∧ jin ((a4 + 1)) (jK H a0).2) (
jg ((jK H a0).1 = 103 ∧ jin (a4) (jK H a0).2) (
jg ((jK H a0).1 = 103 ∧ jin ((a4 + 1)) (jK H a0).2) (
jl (jsL H a0 ((a4 + 1) : Int32).toNatClampNeg ((jL H a0 ((a4 + 1) : Int32).toNatClampNeg) + (jshrL (jL H a0 (a4 : Int32).toNatClampNeg) 26))) fun h2 =>
jg ((jK h2 a0).1 = 103 ∧ jin (a4) (jK h2 a0).2) (
jg ((jK h2 a0).1 = 103 ∧ jin (a4) (jK h2 a0).2) (
jl (jsL h2 a0 (a4 : Int32).toNatClampNeg ((jL h2 a0 (a4 : Int32).toNatClampNeg) &&& 67108863)) fun h3 =>
jl (a4 + 1) fun x4 =>
k50 a0 a1 x4 h3))))))
def F_5_normalize_50 (k2 : Nat → Int32 → jH → Option (Int32 × jH)) : Nat → Nat → Int32 → Int32 → jH → Option (Int32 × jH)
  | 0 => fun _ _ _ _ => none
  | n + 1 => fun a0 a1 a4 H => B_5_normalize_50 k2 (F_5_normalize_50 k2 n) a0 a1 a4 H
def B_5_normalize_259  (s0 : Int32) (H : jH) : Option (Int32 × jH) :=
jg ((s0 : Int32) = 0 ∨ (s0 : Int32) = 1) (some (s0, H))
def B_5_normalize_228 (k228 : Nat → Int64 → Int32 → jH → Option (Int32 × jH)) (a0 : Nat) (a3 : Int64) (a5 : Int32) (H : jH) : Option (Int32 × jH) :=
(if (9 : Int32) ≤ (a5 : Int32) then
(if ¬ (a3 : Int64) = 0 then
B_5_normalize_259 0 H
else
B_5_normalize_259 1 H)
else
jg ((jK H a0).1 = 103 ∧ jin (a5) (jK H a0).2) (
jl (a3 ||| (jL H a0 (a5 : Int32).toNatClampNeg)) fun x5 =>
jl (a5 + 1) fun x6 =>
k228 a0 x5 x6 H))
def F_5_normalize_228  : Nat → Nat → Int64 → Int32 → jH → Option (Int32 × jH)
  | 0 => fun _ _ _ _ => none
  | n + 1 => fun a0 a3 a5 H => B_5_normalize_228 (F_5_normalize_228  n) a0 a3 a5 H
def B_5_normalize_220  (a0 : Nat) (H : jH) : Option (Int32 × jH) :=
jg ((jK H a0).1 = 103 ∧ jin (9) (jK H a0).2) (
jl (jL H a0 (9 : Int32).toNatClampNeg) fun x7 =>
F_5_normalize_228 jfuel a0 x7 0 H)
def B_5_normalize_175 (k175 : Nat → Int32 → jH → Option (Int32 × jH)) (a0 : Nat) (a3 : Int32) (H : jH) : Option (Int32 × jH) :=
(if (9 : Int32) ≤ (a3 : Int32) then
jg ((jK H a0).1 = 103 ∧ jin (9) (jK H a0).2) (
jg ((jK H a0).1 = 103 ∧ jin (9) (jK H a0).2) (
jl (jsL H a0 (9 : Int32).toNatClampNeg ((jL H a0 (9 : Int32).toNatClampNeg) &&& 4194303)) fun h8 =>
B_5_normalize_220 a0 h8))
else
jg ((jK H a0).1 = 103 ∧ jin ((a3 + 1)) (jK H a0).2) (
jg ((jK H a0).1 = 103 ∧ jin (a3) (jK H a0).2) (
jg ((jK H a0).1 = 103 ∧ jin ((a3 + 1)) (jK H a0).2) (
jl (jsL H a0 ((a3 + 1) : Int32).toNatClampNeg ((jL H a0 ((a3 + 1) : Int32).toNatClampNeg) + (jshrL (jL H a0 (a3 : Int32).toNatClampNeg) 26))) fun h9 =>
jg ((jK h9 a0).1 = 103 ∧ jin (a3) (jK h9 a0).2) (
jg ((jK h9 a0).1 = 103 ∧ jin (a3) (jK h9 a0).2) (
jl (jsL h9 a0 (a3 : Int32).toNatClampNeg ((jL h9 a0 (a3 : Int32).toNatClampNeg) &&& 67108863)) fun h10 =>
jl (a3 + 1) fun x11 =>
k175 a0 x11 h10))))))
def F_5_normalize_175  : Nat → Nat → Int32 → jH → Option (Int32 × jH)
  | 0 => fun _ _ _ => none
  | n + 1 => fun a0 a3 H => B_5_normalize_175 (F_5_normalize_175  n) a0 a3 H
def B_5_normalize_121 (k121 : Nat → Int64 → Int32 → jH → Option (Int32 × jH)) (a0 : Nat) (a1 : Int64) (a3 : Int32) (H : jH) : Option (Int32 × jH) :=
(if (9 : Int32) ≤ (a3 : Int32) then
jg ((jK H a0).1 = 103 ∧ jin (9) (jK H a0).2) (
(if (((jL H a0 (9 : Int32).toNatClampNeg) + a1) : Int64) ≤ 4194303 then
B_5_normalize_220 a0 H
else
jg ((jK H a0).1 = 103 ∧ jin (0) (jK H a0).2) (
jg ((jK H a0).1 = 103 ∧ jin (0) (jK H a0).2) (
jl (jsL H a0 (0 : Int32).toNatClampNeg ((jL H a0 (0 : Int32).toNatClampNeg) + 977)) fun h12 =>
jg ((jK h12 a0).1 = 103 ∧ jin (1) (jK h12 a0).2) (
jg ((jK h12 a0).1 = 103 ∧ jin (1) (jK h12 a0).2) (
jl (jsL h12 a0 (1 : Int32).toNatClampNeg ((jL h12 a0 (1 : Int32).toNatClampNeg) + 64)) fun h13 =>
F_5_normalize_175 jfuel a0 0 h13))))))
else
jg ((jK H a0).1 = 103 ∧ jin (a3) (jK H a0).2) (
jl (jshrL ((jL H a0 (a3 : Int32).toNatClampNeg) + a1) 26) fun x14 =>
jl (a3 + 1) fun x15 =>
k121 a0 x14 x15 H))
def F_5_normalize_121  : Nat → Nat → Int64 → Int32 → jH → Option (Int32 × jH)
  | 0 => fun _ _ _ _ => none
  | n + 1 => fun a0 a1 a3 H => B_5_normalize_121 (F_5_normalize_121  n) a0 a1 a3 H
def B_5_normalize_2 (k2 : Nat → Int32 → jH → Option (Int32 × jH)) (a0 : Nat) (a1 : Int32) (H : jH) : Option (Int32 × jH) :=
(if (4 : Int32) ≤ (a1 : Int32) then
jg ((jK H a0).1 = 103 ∧ jin (0) (jK H a0).2) (
jl (jshrL ((jL H a0 (0 : Int32).toNatClampNeg) + 977) 26) fun x16 =>
jg ((jK H a0).1 = 103 ∧ jin (1) (jK H a0).2) (
jl (jshrL (((jL H a0 (1 : Int32).toNatClampNeg) + 64) + x16) 26) fun x17 =>
F_5_normalize_121 jfuel a0 x17 2 H))
else
jg ((jK H a0).1 = 103 ∧ jin (9) (jK H a0).2) (
jl (jshrL (jL H a0 (9 : Int32).toNatClampNeg) 22) fun x18 =>
jg ((jK H a0).1 = 103 ∧ jin (9) (jK H a0).2) (
jg ((jK H a0).1 = 103 ∧ jin (9) (jK H a0).2) (
jl (jsL H a0 (9 : Int32).toNatClampNeg ((jL H a0 (9 : Int32).toNatClampNeg) &&& 4194303)) fun h19 =>
jg ((jK h19 a0).1 = 103 ∧ jin (0) (jK h19 a0).2) (
jg ((jK h19 a0).1 = 103 ∧ jin (0) (jK h19 a0).2) (
jl (jsL h19 a0 (0 : Int32).toNatClampNeg ((jL h19 a0 (0 : Int32).toNatClampNeg) + (x18 * 977))) fun h20 =>
jg ((jK h20 a0).1 = 103 ∧ jin (1) (jK h20 a0).2) (
jg ((jK h20 a0).1 = 103 ∧ jin (1) (jK h20 a0).2) (
jl (jsL h20 a0 (1 : Int32).toNatClampNeg ((jL h20 a0 (1 : Int32).toNatClampNeg) + (x18 * 64))) fun h21 =>
F_5_normalize_50 k2 jfuel a0 a1 0 h21))))))))
def F_5_normalize_2  : Nat → Nat → Int32 → jH → Option (Int32 × jH)
  | 0 => fun _ _ _ => none
  | n + 1 => fun a0 a1 H => B_5_normalize_2 (F_5_normalize_2  n) a0 a1 H
def F_5_normalize (a0 : Nat) (H : jH) : Option (Int32 × jH) :=
F_5_normalize_2 jfuel a0 0 H
def B_5_set_45 (k2 : Nat → Nat → Int32 → Int32 → jH → Option (Unit × jH)) (a0 : Nat) (a1 : Nat) (a2 : Int32) (a3 : Int32) (s0 : Nat) (s1 : Int32) (s2 : Int64) (H : jH) : Option (Unit × jH) :=
jg ((jK H s0).1 = 103 ∧ jin (s1) (jK H s0).2) (
jl (jsL H s0 (s1 : Int32).toNatClampNeg s2) fun h1 =>
jg ((jK h1 a0).1 = 5) (
jg ((jK h1 a1).1 = 5) (
jg ((jK h1 (jR h1 a1 2)).1 = 103 ∧ jin (a3) (jK h1 (jR h1 a1 2)).2) (
jg ((jK h1 (jR h1 a0 2)).1 = 103 ∧ jin (a3) (jK h1 (jR h1 a0 2)).2) (
jl (jsL h1 (jR h1 a0 2) (a3 : Int32).toNatClampNeg (jL h1 (jR h1 a1 2) (a3 : Int32).toNatClampNeg)) fun h2 =>
jl (a3 + 1) fun x3 =>
k2 a0 a1 a2 x3 h2)))))
def B_5_set_2 (k2 : Nat → Nat → Int32 → Int32 → jH → Option (Unit × jH)) (a0 : Nat) (a1 : Nat) (a2 : Int32) (a3 : Int32) (H : jH) : Option (Unit × jH) :=
(if (10 : Int32) ≤ (a3 : Int32) then
jg ((jK H a1).1 = 5) (
jg ((jK H a0).1 = 5 ∧ (((jI H a1 3) : Int32) = 0 ∨ ((jI H a1 3) : Int32) = 1)) (
jl (jsI H a0 3 (jI H a1 3)) fun h4 =>
some ((), h4)))
else
jg ((jK H a0).1 = 5) (
jg ((jK H a1).1 = 5) (
jg ((jK H (jR H a1 0)).1 = 103 ∧ jin (a3) (jK H (jR H a1 0)).2) (
jg ((jK H (jR H a0 0)).1 = 103 ∧ jin (a3) (jK H (jR H a0 0)).2) (
jl (jsL H (jR H a0 0) (a3 : Int32).toNatClampNeg (jL H (jR H a1 0) (a3 : Int32).toNatClampNeg)) fun h5 =>
jg ((jK h5 a0).1 = 5) (
(if (a2 : Int32) = 0 then
jg ((jK h5 a1).1 = 5) (
jg ((jK h5 (jR h5 a1 1)).1 = 103 ∧ jin (a3) (jK h5 (jR h5 a1 1)).2) (
B_5_set_45 k2 a0 a1 a2 a3 (jR h5 a0 1) a3 (jL h5 (jR h5 a1 1) (a3 : Int32).toNatClampNeg) h5))
else
jg ((jK h5 a1).1 = 5) (
jg ((jK h5 (jR h5 a1 1)).1 = 103 ∧ jin (a3) (jK h5 (jR h5 a1 1)).2) (
B_5_set_45 k2 a0 a1 a2 a3 (jR h5 a0 1) a3 (-(jL h5 (jR h5 a1 1) (a3 : Int32).toNatClampNeg)) h5)))))))))
def F_5_set_2  : Nat → Nat → Nat → Int32 → Int32 → jH → Option (Unit × jH)
  | 0 => fun _ _ _ _ _ => none
  | n + 1 => fun a0 a1 a2 a3 H => B_5_set_2 (F_5_set_2  n) a0 a1 a2 a3 H
def F_5_set (a0 : Nat) (a1 : Nat) (a2 : Int32) (H : jH) : Option (Unit × jH) :=
F_5_set_2 jfuel a0 a1 a2 0 H
def B_5_settle_2 (k2 : Nat → Int32 → jH → Option (Unit × jH)) (a0 : Nat) (a1 : Int32) (H : jH) : Option (Unit × jH) :=
(if (9 : Int32) ≤ (a1 : Int32) then
jg ((jK H a0).1 = 103 ∧ jin (9) (jK H a0).2) (
jl (jshrL (jL H a0 (9 : Int32).toNatClampNeg) 26) fun x1 =>
jg ((jK H a0).1 = 103 ∧ jin (9) (jK H a0).2) (
jg ((jK H a0).1 = 103 ∧ jin (9) (jK H a0).2) (
jl (jsL H a0 (9 : Int32).toNatClampNeg ((jL H a0 (9 : Int32).toNatClampNeg) &&& 67108863)) fun h2 =>
jg ((jK h2 a0).1 = 103 ∧ jin (0) (jK h2 a0).2) (
jg ((jK h2 a0).1 = 103 ∧ jin (0) (jK h2 a0).2) (
jl (jsL h2 a0 (0 : Int32).toNatClampNeg ((jL h2 a0 (0 : Int32).toNatClampNeg) + (x1 * 15632))) fun h3 =>
jg ((jK h3 a0).1 = 103 ∧ jin (1) (jK h3 a0).2) (
jg ((jK h3 a0).1 = 103 ∧ jin (1) (jK h3 a0).2) (
jl (jsL h3 a0 (1 : Int32).toNatClampNeg ((jL h3 a0 (1 : Int32).toNatClampNeg) + (x1 * 1024))) fun h4 =>
some ((), h4))))))))
else
jg ((jK H a0).1 = 103 ∧ jin ((a1 + 1)) (jK H a0).2) (
jg ((jK H a0).1 = 103 ∧ jin (a1) (jK H a0).2) (
jg ((jK H a0).1 = 103 ∧ jin ((a1 + 1)) (jK H a0).2) (
jl (jsL H a0 ((a1 + 1) : Int32).toNatClampNeg ((jL H a0 ((a1 + 1) : Int32).toNatClampNeg) + (jshrL (jL H a0 (a1 : Int32).toNatClampNeg) 26))) fun h5 =>
jg ((jK h5 a0).1 = 103 ∧ jin (a1) (jK h5 a0).2) (
jg ((jK h5 a0).1 = 103 ∧ jin (a1) (jK h5 a0).2) (
jl (jsL h5 a0 (a1 : Int32).toNatClampNeg ((jL h5 a0 (a1 : Int32).toNatClampNeg) &&& 67108863)) fun h6 =>
jl (a1 + 1) fun x7 =>
k2 a0 x7 h6))))))
def F_5_settle_2  : Nat → Nat → Int32 → jH → Option (Unit × jH)
  | 0 => fun _ _ _ => none
  | n + 1 => fun a0 a1 H => B_5_settle_2 (F_5_settle_2  n) a0 a1 H
def F_5_settle (a0 : Nat) (H : jH) : Option (Unit × jH) :=
F_5_settle_2 jfuel a0 0 H
def B_5_add_14   (H : jH) : Option (Int32 × jH) :=
jg ((1 : Int32) = 0 ∨ (1 : Int32) = 1) (some (1, H))
def B_5_add_241  (a0 : Nat) (s0 : Nat) (s1 : Int32) (H : jH) : Option (Int32 × jH) :=
jg ((jK H s0).1 = 5 ∧ ((s1 : Int32) = 0 ∨ (s1 : Int32) = 1)) (
jl (jsI H s0 3 s1) fun h1 =>
jg ((jK h1 a0).1 = 5) (
jg (((jI h1 a0 3) : Int32) = 0 ∨ ((jI h1 a0 3) : Int32) = 1) (some ((jI h1 a0 3), h1))))
def B_5_add_181  (a0 : Nat) (a1 : Nat) (a3 : Nat) (a4 : Nat) (a5 : Nat) (a6 : Nat) (a7 : Nat) (a8 : Nat) (a9 : Nat) (s0 : Nat) (s1 : Nat) (s2 : Int64) (H : jH) : Option (Int32 × jH) :=
jb (F_5_mix s0 s1 s2 a8 (-1) H) fun x2 h3 =>
jg ((jK h3 a3).1 = 112 ∧ jin (6) (jK h3 a3).2) (
jb (F_5_mix (jR h3 a3 (6 : Int32).toNatClampNeg) a7 1 a7 0 h3) fun x4 h5 =>
jg ((jK h5 a3).1 = 112 ∧ jin (6) (jK h5 a3).2) (
jb (F_5_normalize (jR h5 a3 (6 : Int32).toNatClampNeg) h5) fun x6 h7 =>
(if (x6 : Int32) = 0 then
jg ((jK h7 a0).1 = 5) (
jg ((jK h7 a0).1 = 5) (
jg ((jK h7 a1).1 = 5) (
jb (F_5_multiply (jR h7 a0 2) (jR h7 a0 2) (jR h7 a1 2) h7) fun x8 h9 =>
jg ((jK h9 a0).1 = 5) (
jg ((jK h9 a0).1 = 5) (
jb (F_5_multiply (jR h9 a0 2) (jR h9 a0 2) a7 h9) fun x10 h11 =>
jb (F_5_multiply a4 a7 a7 h11) fun x12 h13 =>
jb (F_5_multiply a5 a4 a7 h13) fun x14 h15 =>
jb (F_5_multiply a6 a6 a4 h15) fun x16 h17 =>
jb (F_5_multiply a4 a9 a9 h17) fun x18 h19 =>
jg ((jK h19 a0).1 = 5) (
jb (F_5_mix (jR h19 a0 0) a4 1 a5 (-1) h19) fun x20 h21 =>
jg ((jK h21 a0).1 = 5) (
jg ((jK h21 a0).1 = 5) (
jb (F_5_mix (jR h21 a0 0) (jR h21 a0 0) 1 a6 (-2) h21) fun x22 h23 =>
jg ((jK h23 a0).1 = 5) (
jb (F_5_settle (jR h23 a0 0) h23) fun x24 h25 =>
jg ((jK h25 a0).1 = 5) (
jb (F_5_mix a6 a6 1 (jR h25 a0 0) (-1) h25) fun x26 h27 =>
jb (F_5_multiply a6 a6 a9 h27) fun x28 h29 =>
jb (F_5_multiply a8 a8 a5 h29) fun x30 h31 =>
jg ((jK h31 a0).1 = 5) (
jb (F_5_mix (jR h31 a0 1) a6 1 a8 (-1) h31) fun x32 h33 =>
jg ((1 : Int32) = 0 ∨ (1 : Int32) = 1) (some (1, h33)))))))))))))
else
jg ((jK h7 a3).1 = 112 ∧ jin (7) (jK h7 a3).2) (
jb (F_5_mix (jR h7 a3 (7 : Int32).toNatClampNeg) a9 1 a9 0 h7) fun x34 h35 =>
jg ((jK h35 a3).1 = 112 ∧ jin (7) (jK h35 a3).2) (
jb (F_5_normalize (jR h35 a3 (7 : Int32).toNatClampNeg) h35) fun x36 h37 =>
(if ¬ (x36 : Int32) = 0 then
B_5_add_241 a0 a0 0 h37
else
B_5_add_241 a0 a0 1 h37))))))
def F_5_add (a0 : Nat) (a1 : Nat) (a2 : Int32) (a3 : Nat) (H : jH) : Option (Int32 × jH) :=
jg ((jK H a1).1 = 5) (
(if ¬ ((jI H a1 3) : Int32) = 0 then
B_5_add_14 H
else
jg ((jK H a3).1 = 112) (
(if (8 : Int32) ≤ ((Int32.ofNat (jK H a3).2) : Int32) then
jg ((jK H a0).1 = 5) (
(if ((jI H a0 3) : Int32) = 0 then
jg ((jK H a3).1 = 112 ∧ jin (0) (jK H a3).2) (
jl (jR H a3 (0 : Int32).toNatClampNeg) fun x38 =>
jg ((jK H a3).1 = 112 ∧ jin (1) (jK H a3).2) (
jl (jR H a3 (1 : Int32).toNatClampNeg) fun x39 =>
jg ((jK H a3).1 = 112 ∧ jin (2) (jK H a3).2) (
jl (jR H a3 (2 : Int32).toNatClampNeg) fun x40 =>
jg ((jK H a3).1 = 112 ∧ jin (3) (jK H a3).2) (
jl (jR H a3 (3 : Int32).toNatClampNeg) fun x41 =>
jg ((jK H a3).1 = 112 ∧ jin (4) (jK H a3).2) (
jl (jR H a3 (4 : Int32).toNatClampNeg) fun x42 =>
jg ((jK H a3).1 = 112 ∧ jin (5) (jK H a3).2) (
jl (jR H a3 (5 : Int32).toNatClampNeg) fun x43 =>
jg ((jK H a0).1 = 5) (
jg ((jK H a0).1 = 5) (
jb (F_5_multiply x38 (jR H a0 2) (jR H a0 2) H) fun x44 h45 =>
jg ((jK h45 a1).1 = 5) (
jg ((jK h45 a1).1 = 5) (
jb (F_5_multiply x39 (jR h45 a1 2) (jR h45 a1 2) h45) fun x46 h47 =>
jg ((jK h47 a0).1 = 5) (
jb (F_5_multiply x40 (jR h47 a0 0) x39 h47) fun x48 h49 =>
jg ((jK h49 a1).1 = 5) (
jb (F_5_multiply x41 (jR h49 a1 0) x38 h49) fun x50 h51 =>
jb (F_5_mix x41 x41 1 x40 (-1) h51) fun x52 h53 =>
jg ((jK h53 a1).1 = 5) (
jb (F_5_multiply x42 x39 (jR h53 a1 2) h53) fun x54 h55 =>
jg ((jK h55 a0).1 = 5) (
jb (F_5_multiply x42 x42 (jR h55 a0 1) h55) fun x56 h57 =>
jg ((jK h57 a0).1 = 5) (
jb (F_5_multiply x43 x38 (jR h57 a0 2) h57) fun x58 h59 =>
jg ((jK h59 a1).1 = 5) (
jb (F_5_multiply x43 x43 (jR h59 a1 1) h59) fun x60 h61 =>
(if (a2 : Int32) = 0 then
B_5_add_181 a0 a1 a3 x38 x39 x40 x41 x42 x43 x43 x43 1 h61
else
B_5_add_181 a0 a1 a3 x38 x39 x40 x41 x42 x43 x43 x43 (-1) h61)))))))))))))))))
else
jg ((jK H a0).1 = 5) (
jb (F_5_set a0 a1 a2 H) fun x62 h63 =>
jg ((1 : Int32) = 0 ∨ (1 : Int32) = 1) (some (1, h63)))))
else
B_5_add_14 H))))
def B_5_twice_14   (H : jH) : Option (Unit × jH) :=
some ((), H)
def F_5_twice (a0 : Nat) (a1 : Nat) (H : jH) : Option (Unit × jH) :=
jg ((jK H a0).1 = 5) (
(if ¬ ((jI H a0 3) : Int32) = 0 then
B_5_twice_14 H
else
jg ((jK H a1).1 = 112) (
(if (6 : Int32) ≤ ((Int32.ofNat (jK H a1).2) : Int32) then
jg ((jK H a1).1 = 112 ∧ jin (0) (jK H a1).2) (
jl (jR H a1 (0 : Int32).toNatClampNeg) fun x1 =>
jg ((jK H a1).1 = 112 ∧ jin (1) (jK H a1).2) (
jl (jR H a1 (1 : Int32).toNatClampNeg) fun x2 =>
jg ((jK H a1).1 = 112 ∧ jin (2) (jK H a1).2) (
jl (jR H a1 (2 : Int32).toNatClampNeg) fun x3 =>
jg ((jK H a1).1 = 112 ∧ jin (3) (jK H a1).2) (
jl (jR H a1 (3 : Int32).toNatClampNeg) fun x4 =>
jg ((jK H a0).1 = 5) (
jg ((jK H a0).1 = 5) (
jb (F_5_multiply x1 (jR H a0 0) (jR H a0 0) H) fun x5 h6 =>
jg ((jK h6 a0).1 = 5) (
jg ((jK h6 a0).1 = 5) (
jb (F_5_multiply x2 (jR h6 a0 1) (jR h6 a0 1) h6) fun x7 h8 =>
jg ((jK h8 a0).1 = 5) (
jb (F_5_multiply x3 (jR h8 a0 0) x2 h8) fun x9 h10 =>
jg ((jK h10 a0).1 = 5) (
jg ((jK h10 a0).1 = 5) (
jg ((jK h10 a0).1 = 5) (
jb (F_5_multiply (jR h10 a0 2) (jR h10 a0 1) (jR h10 a0 2) h10) fun x11 h12 =>
jg ((jK h12 a0).1 = 5) (
jg ((jK h12 a0).1 = 5) (
jg ((jK h12 a0).1 = 5) (
jb (F_5_mix (jR h12 a0 2) (jR h12 a0 2) 2 (jR h12 a0 2) 0 h12) fun x13 h14 =>
jb (F_5_multiply x4 x1 x1 h14) fun x15 h16 =>
jg ((jK h16 a0).1 = 5) (
jb (F_5_mix (jR h16 a0 0) x4 9 x3 (-8) h16) fun x17 h18 =>
jg ((jK h18 a0).1 = 5) (
jb (F_5_settle (jR h18 a0 0) h18) fun x19 h20 =>
jg ((jK h20 a0).1 = 5) (
jb (F_5_mix x4 x3 4 (jR h20 a0 0) (-1) h20) fun x21 h22 =>
jb (F_5_multiply x4 x4 x1 h22) fun x23 h24 =>
jb (F_5_multiply x2 x2 x2 h24) fun x25 h26 =>
jg ((jK h26 a0).1 = 5) (
jb (F_5_mix (jR h26 a0 1) x4 3 x2 (-8) h26) fun x27 h28 =>
jg ((jK h28 a0).1 = 5) (
jb (F_5_settle (jR h28 a0 1) h28) fun x29 h30 =>
some ((), h30)))))))))))))))))))))
else
B_5_twice_14 H))))
def B_A_fill_5 (k5 : Nat → Int32 → Int32 → Int32 → jH → Option (Unit × jH)) (a0 : Nat) (a1 : Int32) (a2 : Int32) (a3 : Int32) (H : jH) : Option (Unit × jH) :=
(if (a3 : Int32) ≤ (a2 : Int32) then
some ((), H)
else
jg ((jK H a0).1 = 100 ∧ jF0 ≤ a0 ∧ jin (a2) (jK H a0).2) (
jl (jsI H a0 (a2 : Int32).toNatClampNeg a1) fun h1 =>
jl (a2 + 1) fun x2 =>
k5 a0 a1 x2 a3 h1))
def F_A_fill_5  : Nat → Nat → Int32 → Int32 → Int32 → jH → Option (Unit × jH)
  | 0 => fun _ _ _ _ _ => none
  | n + 1 => fun a0 a1 a2 a3 H => B_A_fill_5 (F_A_fill_5  n) a0 a1 a2 a3 H
def F_A_fill (a0 : Nat) (a1 : Int32) (H : jH) : Option (Unit × jH) :=
jg ((jK H a0).1 = 100) (
jl (Int32.ofNat (jK H a0).2) fun x3 =>
F_A_fill_5 jfuel a0 a1 0 x3 H)
def B_8_multiply_24 (k11 : Nat → Nat → Nat → Nat → Int32 → jH → Option (Unit × jH)) (k24 : Nat → Nat → Nat → Nat → Int32 → Int64 → Int32 → jH → Option (Unit × jH)) (a0 : Nat) (a1 : Nat) (a2 : Nat) (a3 : Nat) (a4 : Int32) (a5 : Int64) (a7 : Int32) (H : jH) : Option (Unit × jH) :=
(if (8 : Int32) ≤ (a7 : Int32) then
jg ((jK H a0).1 = 8) (
jg ((jK H (jR H a0 6)).1 = 100 ∧ jF0 ≤ (jR H a0 6) ∧ jin ((a4 + 8)) (jK H (jR H a0 6)).2) (
jl (jsI H (jR H a0 6) ((a4 + 8) : Int32).toNatClampNeg (Int64.toInt32 a5)) fun h1 =>
jl (a4 + 1) fun x2 =>
k11 a0 a1 a2 a3 x2 h1))
else
jg ((jK H a2).1 = 100 ∧ jin (a4) (jK H a2).2) (
jg ((jK H a3).1 = 100 ∧ jin (a7) (jK H a3).2) (
jg ((jK H a0).1 = 8) (
jg ((jK H (jR H a0 6)).1 = 100 ∧ jin ((a4 + a7)) (jK H (jR H a0 6)).2) (
jl (a5 + ((((Int32.toInt64 (jI H a2 (a4 : Int32).toNatClampNeg)) &&& 4294967295) * ((Int32.toInt64 (jI H a3 (a7 : Int32).toNatClampNeg)) &&& 4294967295)) + ((Int32.toInt64 (jI H (jR H a0 6) ((a4 + a7) : Int32).toNatClampNeg)) &&& 4294967295))) fun x3 =>
jg ((jK H a0).1 = 8) (
jg ((jK H (jR H a0 6)).1 = 100 ∧ jF0 ≤ (jR H a0 6) ∧ jin ((a4 + a7)) (jK H (jR H a0 6)).2) (
jl (jsI H (jR H a0 6) ((a4 + a7) : Int32).toNatClampNeg (Int64.toInt32 x3)) fun h4 =>
jl (jushrL x3 32) fun x5 =>
jl (a7 + 1) fun x6 =>
k24 a0 a1 a2 a3 a4 x5 x6 h4)))))))
def F_8_multiply_24 (k11 : Nat → Nat → Nat → Nat → Int32 → jH → Option (Unit × jH)) : Nat → Nat → Nat → Nat → Nat → Int32 → Int64 → Int32 → jH → Option (Unit × jH)
  | 0 => fun _ _ _ _ _ _ _ _ => none
  | n + 1 => fun a0 a1 a2 a3 a4 a5 a7 H => B_8_multiply_24 k11 (F_8_multiply_24 k11 n) a0 a1 a2 a3 a4 a5 a7 H
def B_8_multiply_192 (k140 : Nat → Nat → Int32 → Int32 → Int32 → jH → Option (Unit × jH)) (a0 : Nat) (a1 : Nat) (a5 : Int32) (a6 : Int32) (s0 : Int32) (s1 : Int32) (H : jH) : Option (Unit × jH) :=
jl (s0 ||| s1) fun x7 =>
jl (a6 + 1) fun x8 =>
k140 a0 a1 x7 a5 x8 H
def B_8_multiply_282 (k222 : Nat → Nat → Int32 → Int32 → Int32 → Int64 → Int32 → jH → Option (Unit × jH)) (a0 : Nat) (a1 : Nat) (a4 : Int32) (a5 : Int32) (a6 : Int32) (a7 : Int64) (a9 : Int32) (s0 : Int64) (H : jH) : Option (Unit × jH) :=
jg ((jK H a0).1 = 8) (
jg ((jK H (jR H a0 7)).1 = 100 ∧ jin (a6) (jK H (jR H a0 7)).2) (
jg ((jK H a0).1 = 8) (
jg ((jK H (jR H a0 6)).1 = 100 ∧ jin ((a6 + a9)) (jK H (jR H a0 6)).2) (
jl (a7 + ((((Int32.toInt64 (jI H (jR H a0 7) (a6 : Int32).toNatClampNeg)) &&& 4294967295) * s0) + ((Int32.toInt64 (jI H (jR H a0 6) ((a6 + a9) : Int32).toNatClampNeg)) &&& 4294967295))) fun x9 =>
jg ((jK H a0).1 = 8) (
jg ((jK H (jR H a0 6)).1 = 100 ∧ jF0 ≤ (jR H a0 6) ∧ jin ((a6 + a9)) (jK H (jR H a0 6)).2) (
jl (jsI H (jR H a0 6) ((a6 + a9) : Int32).toNatClampNeg (Int64.toInt32 x9)) fun h10 =>
jl (jushrL x9 32) fun x11 =>
jl (a9 + 1) fun x12 =>
k222 a0 a1 a4 a5 a6 x11 x12 h10))))))
def B_8_multiply_258 (k222 : Nat → Nat → Int32 → Int32 → Int32 → Int64 → Int32 → jH → Option (Unit × jH)) (a0 : Nat) (a1 : Nat) (a4 : Int32) (a5 : Int32) (a6 : Int32) (a7 : Int64) (a9 : Int32) (H : jH) : Option (Unit × jH) :=
jg ((jK H 9).1 = 100) (
(if ((Int32.ofNat (jK H 9).2) : Int32) ≤ (a9 : Int32) then
B_8_multiply_282 k222 a0 a1 a4 a5 a6 a7 a9 0 H
else
jg ((jK H 9).1 = 100 ∧ jin (a9) (jK H 9).2) (
B_8_multiply_282 k222 a0 a1 a4 a5 a6 a7 a9 ((Int32.toInt64 (jI H 9 (a9 : Int32).toNatClampNeg)) &&& 4294967295) H)))
def B_8_multiply_346 (k204 : Nat → Nat → Int32 → Int32 → Int32 → jH → Option (Unit × jH)) (a0 : Nat) (a1 : Nat) (a4 : Int32) (a5 : Int32) (a6 : Int32) (H : jH) : Option (Unit × jH) :=
jl (a6 + 1) fun x13 =>
k204 a0 a1 a4 a5 x13 H
def B_8_multiply_222 (k204 : Nat → Nat → Int32 → Int32 → Int32 → jH → Option (Unit × jH)) (k222 : Nat → Nat → Int32 → Int32 → Int32 → Int64 → Int32 → jH → Option (Unit × jH)) (a0 : Nat) (a1 : Nat) (a4 : Int32) (a5 : Int32) (a6 : Int32) (a7 : Int64) (a9 : Int32) (H : jH) : Option (Unit × jH) :=
(if (16 : Int32) ≤ ((a6 + a9) : Int32) then
B_8_multiply_346 k204 a0 a1 a4 a5 a6 H
else
jg ((jK H a0).1 = 8) (
jg ((jK H (jR H a0 7)).1 = 100 ∧ jin (a6) (jK H (jR H a0 7)).2) (
(if ((jI H (jR H a0 7) (a6 : Int32).toNatClampNeg) : Int32) = 0 then
B_8_multiply_346 k204 a0 a1 a4 a5 a6 H
else
jg ((jK H 9).1 = 100) (
(if (a9 : Int32) < ((Int32.ofNat (jK H 9).2) : Int32) then
B_8_multiply_258 k222 a0 a1 a4 a5 a6 a7 a9 H
else
(if (a7 : Int64) = 0 then
B_8_multiply_346 k204 a0 a1 a4 a5 a6 H
else
B_8_multiply_258 k222 a0 a1 a4 a5 a6 a7 a9 H)))))))
def F_8_multiply_222 (k204 : Nat → Nat → Int32 → Int32 → Int32 → jH → Option (Unit × jH)) : Nat → Nat → Nat → Int32 → Int32 → Int32 → Int64 → Int32 → jH → Option (Unit × jH)
  | 0 => fun _ _ _ _ _ _ _ _ => none
  | n + 1 => fun a0 a1 a4 a5 a6 a7 a9 H => B_8_multiply_222 k204 (F_8_multiply_222 k204 n) a0 a1 a4 a5 a6 a7 a9 H
def B_8_multiply_352 (k122 : Nat → Nat → Int32 → Int32 → jH → Option (Unit × jH)) (a0 : Nat) (a1 : Nat) (a4 : Int32) (a5 : Int32) (H : jH) : Option (Unit × jH) :=
jl (a5 + 1) fun x14 =>
k122 a0 a1 a4 x14 H
def B_8_multiply_204 (k122 : Nat → Nat → Int32 → Int32 → jH → Option (Unit × jH)) (k204 : Nat → Nat → Int32 → Int32 → Int32 → jH → Option (Unit × jH)) (a0 : Nat) (a1 : Nat) (a4 : Int32) (a5 : Int32) (a6 : Int32) (H : jH) : Option (Unit × jH) :=
(if (8 : Int32) ≤ (a6 : Int32) then
B_8_multiply_352 k122 a0 a1 a4 a5 H
else
(if (a4 : Int32) = 0 then
B_8_multiply_352 k122 a0 a1 a4 a5 H
else
F_8_multiply_222 k204 jfuel a0 a1 a4 a5 a6 0 0 H))
def F_8_multiply_204 (k122 : Nat → Nat → Int32 → Int32 → jH → Option (Unit × jH)) : Nat → Nat → Nat → Int32 → Int32 → Int32 → jH → Option (Unit × jH)
  | 0 => fun _ _ _ _ _ _ => none
  | n + 1 => fun a0 a1 a4 a5 a6 H => B_8_multiply_204 k122 (F_8_multiply_204 k122 n) a0 a1 a4 a5 a6 H
def B_8_multiply_140 (k122 : Nat → Nat → Int32 → Int32 → jH → Option (Unit × jH)) (k140 : Nat → Nat → Int32 → Int32 → Int32 → jH → Option (Unit × jH)) (a0 : Nat) (a1 : Nat) (a4 : Int32) (a5 : Int32) (a6 : Int32) (H : jH) : Option (Unit × jH) :=
(if (8 : Int32) ≤ (a6 : Int32) then
F_8_multiply_204 k122 jfuel a0 a1 a4 a5 0 H
else
jg ((jK H a0).1 = 8) (
jg ((jK H a0).1 = 8) (
jg ((jK H (jR H a0 6)).1 = 100 ∧ jin ((a6 + 8)) (jK H (jR H a0 6)).2) (
jg ((jK H (jR H a0 7)).1 = 100 ∧ jF0 ≤ (jR H a0 7) ∧ jin (a6) (jK H (jR H a0 7)).2) (
jl (jsI H (jR H a0 7) (a6 : Int32).toNatClampNeg (jI H (jR H a0 6) ((a6 + 8) : Int32).toNatClampNeg)) fun h15 =>
jg ((jK h15 a0).1 = 8) (
jg ((jK h15 (jR h15 a0 6)).1 = 100 ∧ jF0 ≤ (jR h15 a0 6) ∧ jin ((a6 + 8)) (jK h15 (jR h15 a0 6)).2) (
jl (jsI h15 (jR h15 a0 6) ((a6 + 8) : Int32).toNatClampNeg 0) fun h16 =>
jg ((jK h16 a0).1 = 8) (
jg ((jK h16 (jR h16 a0 7)).1 = 100 ∧ jin (a6) (jK h16 (jR h16 a0 7)).2) (
(if ((jI h16 (jR h16 a0 7) (a6 : Int32).toNatClampNeg) : Int32) = 0 then
B_8_multiply_192 k140 a0 a1 a5 a6 a4 0 h16
else
B_8_multiply_192 k140 a0 a1 a5 a6 a4 1 h16))))))))))
def F_8_multiply_140 (k122 : Nat → Nat → Int32 → Int32 → jH → Option (Unit × jH)) : Nat → Nat → Nat → Int32 → Int32 → Int32 → jH → Option (Unit × jH)
  | 0 => fun _ _ _ _ _ _ => none
  | n + 1 => fun a0 a1 a4 a5 a6 H => B_8_multiply_140 k122 (F_8_multiply_140 k122 n) a0 a1 a4 a5 a6 H
def B_8_multiply_439   (H : jH) : Option (Unit × jH) :=
some ((), H)
def B_8_multiply_364 (k364 : Nat → Nat → Int64 → Int32 → jH → Option (Unit × jH)) (a0 : Nat) (a1 : Nat) (a5 : Int64) (a7 : Int32) (H : jH) : Option (Unit × jH) :=
(if (8 : Int32) ≤ (a7 : Int32) then
(if (a5 : Int64) = 0 then
B_8_multiply_439 H
else
jg ((jK H a0).1 = 8) (
jg (jcg H 100 (jR H a0 6) (0) a1 (0) (8)) (
jl (jcpI H (jR H a0 6) (0 : Int32).toNatClampNeg a1 (0 : Int32).toNatClampNeg (8 : Int32).toNatClampNeg) fun h17 =>
B_8_multiply_439 h17)))
else
jg ((jK H a0).1 = 8) (
jg ((jK H (jR H a0 6)).1 = 100 ∧ jin (a7) (jK H (jR H a0 6)).2) (
jg ((jK H 8).1 = 100 ∧ jin (a7) (jK H 8).2) (
jl (a5 + (((Int32.toInt64 (jI H (jR H a0 6) (a7 : Int32).toNatClampNeg)) &&& 4294967295) - ((Int32.toInt64 (jI H 8 (a7 : Int32).toNatClampNeg)) &&& 4294967295))) fun x18 =>
jg ((jK H a1).1 = 100 ∧ jF0 ≤ a1 ∧ jin (a7) (jK H a1).2) (
jl (jsI H a1 (a7 : Int32).toNatClampNeg (Int64.toInt32 x18)) fun h19 =>
jl (jshrL x18 32) fun x20 =>
jl (a7 + 1) fun x21 =>
k364 a0 a1 x20 x21 h19)))))
def F_8_multiply_364  : Nat → Nat → Nat → Int64 → Int32 → jH → Option (Unit × jH)
  | 0 => fun _ _ _ _ _ => none
  | n + 1 => fun a0 a1 a5 a7 H => B_8_multiply_364 (F_8_multiply_364  n) a0 a1 a5 a7 H
def B_8_multiply_358  (a0 : Nat) (a1 : Nat) (H : jH) : Option (Unit × jH) :=
F_8_multiply_364 jfuel a0 a1 0 0 H
def B_8_multiply_122 (k122 : Nat → Nat → Int32 → Int32 → jH → Option (Unit × jH)) (a0 : Nat) (a1 : Nat) (a4 : Int32) (a5 : Int32) (H : jH) : Option (Unit × jH) :=
(if (8 : Int32) ≤ (a5 : Int32) then
B_8_multiply_358 a0 a1 H
else
(if (a4 : Int32) = 0 then
B_8_multiply_358 a0 a1 H
else
F_8_multiply_140 k122 jfuel a0 a1 0 a5 0 H))
def F_8_multiply_122  : Nat → Nat → Nat → Int32 → Int32 → jH → Option (Unit × jH)
  | 0 => fun _ _ _ _ _ => none
  | n + 1 => fun a0 a1 a4 a5 H => B_8_multiply_122 (F_8_multiply_122  n) a0 a1 a4 a5 H
def B_8_multiply_11 (k11 : Nat → Nat → Nat → Nat → Int32 → jH → Option (Unit × jH)) (a0 : Nat) (a1 : Nat) (a2 : Nat) (a3 : Nat) (a4 : Int32) (H : jH) : Option (Unit × jH) :=
(if (8 : Int32) ≤ (a4 : Int32) then
F_8_multiply_122 jfuel a0 a1 1 0 H
else
F_8_multiply_24 k11 jfuel a0 a1 a2 a3 a4 0 0 H)
def F_8_multiply_11  : Nat → Nat → Nat → Nat → Nat → Int32 → jH → Option (Unit × jH)
  | 0 => fun _ _ _ _ _ _ => none
  | n + 1 => fun a0 a1 a2 a3 a4 H => B_8_multiply_11 (F_8_multiply_11  n) a0 a1 a2 a3 a4 H
def F_8_multiply (a0 : Nat) (a1 : Nat) (a2 : Nat) (a3 : Nat) (H : jH) : Option (Unit × jH) :=
jg ((jK H a0).1 = 8) (
jb (F_A_fill (jR H a0 6) 0 H) fun x22 h23 =>
F_8_multiply_11 jfuel a0 a1 a2 a3 0 h23)
def B_8_invert_118 (k70 : Nat → Nat → Int32 → jH → Option (Unit × jH)) (a0 : Nat) (a1 : Nat) (a2 : Int32) (s0 : Int32) (H : jH) : Option (Unit × jH) :=
jg ((jK H a0).1 = 8) (
jg (¬ (32 : Int32) = 0) (
jg ((jK H (jR H a0 8)).1 = 111 ∧ jin (((jushr s0 (jrem a2 32)) &&& 15)) (jK H (jR H a0 8)).2) (
jg ((jK H a0).1 = 8) (
jb (F_8_multiply a0 a1 a1 (jR H (jR H a0 8) (((jushr s0 (jrem a2 32)) &&& 15) : Int32).toNatClampNeg) H) fun x1 h2 =>
jl (a2 + (-4)) fun x3 =>
k70 a0 a1 x3 h2))))
def B_8_invert_76 (k70 : Nat → Nat → Int32 → jH → Option (Unit × jH)) (k76 : Nat → Nat → Int32 → Int32 → jH → Option (Unit × jH)) (a0 : Nat) (a1 : Nat) (a2 : Int32) (a3 : Int32) (H : jH) : Option (Unit × jH) :=
(if (4 : Int32) ≤ (a3 : Int32) then
(if (32 : Int32) ≤ (a2 : Int32) then
jg (¬ (32 : Int32) = 0) (
jg ((jK H 8).1 = 100 ∧ jin ((a2 / 32)) (jK H 8).2) (
B_8_invert_118 k70 a0 a1 a2 (jI H 8 ((a2 / 32) : Int32).toNatClampNeg) H))
else
jg ((jK H 8).1 = 100 ∧ jin (0) (jK H 8).2) (
B_8_invert_118 k70 a0 a1 a2 ((jI H 8 (0 : Int32).toNatClampNeg) - 2) H))
else
jg ((jK H a0).1 = 8) (
jb (F_8_multiply a0 a1 a1 a1 H) fun x4 h5 =>
jl (a3 + 1) fun x6 =>
k76 a0 a1 a2 x6 h5))
def F_8_invert_76 (k70 : Nat → Nat → Int32 → jH → Option (Unit × jH)) : Nat → Nat → Nat → Int32 → Int32 → jH → Option (Unit × jH)
  | 0 => fun _ _ _ _ _ => none
  | n + 1 => fun a0 a1 a2 a3 H => B_8_invert_76 k70 (F_8_invert_76 k70 n) a0 a1 a2 a3 H
def B_8_invert_70 (k70 : Nat → Nat → Int32 → jH → Option (Unit × jH)) (a0 : Nat) (a1 : Nat) (a2 : Int32) (H : jH) : Option (Unit × jH) :=
(if (a2 : Int32) < 0 then
some ((), H)
else
F_8_invert_76 k70 jfuel a0 a1 a2 0 H)
def F_8_invert_70  : Nat → Nat → Nat → Int32 → jH → Option (Unit × jH)
  | 0 => fun _ _ _ _ => none
  | n + 1 => fun a0 a1 a2 H => B_8_invert_70 (F_8_invert_70  n) a0 a1 a2 H
def B_8_invert_21 (k21 : Nat → Nat → Int32 → jH → Option (Unit × jH)) (a0 : Nat) (a1 : Nat) (a2 : Int32) (H : jH) : Option (Unit × jH) :=
(if (16 : Int32) ≤ (a2 : Int32) then
jg ((jK H a0).1 = 8) (
jg ((jK H (jR H a0 8)).1 = 111 ∧ jin (0) (jK H (jR H a0 8)).2) (
jg (jcg H 100 (jR H (jR H a0 8) (0 : Int32).toNatClampNeg) (0) a1 (0) (8)) (
jl (jcpI H (jR H (jR H a0 8) (0 : Int32).toNatClampNeg) (0 : Int32).toNatClampNeg a1 (0 : Int32).toNatClampNeg (8 : Int32).toNatClampNeg) fun h7 =>
F_8_invert_70 jfuel a0 a1 252 h7)))
else
jg ((jK H a0).1 = 8) (
jg ((jK H (jR H a0 8)).1 = 111 ∧ jin (a2) (jK H (jR H a0 8)).2) (
jg ((jK H a0).1 = 8) (
jg ((jK H (jR H a0 8)).1 = 111 ∧ jin ((a2 - 1)) (jK H (jR H a0 8)).2) (
jg ((jK H a0).1 = 8) (
jb (F_8_multiply a0 (jR H (jR H a0 8) (a2 : Int32).toNatClampNeg) (jR H (jR H a0 8) ((a2 - 1) : Int32).toNatClampNeg) a1 H) fun x8 h9 =>
jl (a2 + 1) fun x10 =>
k21 a0 a1 x10 h9))))))
def F_8_invert_21  : Nat → Nat → Nat → Int32 → jH → Option (Unit × jH)
  | 0 => fun _ _ _ _ => none
  | n + 1 => fun a0 a1 a2 H => B_8_invert_21 (F_8_invert_21  n) a0 a1 a2 H
def F_8_invert (a0 : Nat) (a1 : Nat) (H : jH) : Option (Unit × jH) :=
jg ((jK H a0).1 = 8) (
jg ((jK H (jR H a0 8)).1 = 111 ∧ jin (0) (jK H (jR H a0 8)).2) (
jb (F_A_fill (jR H (jR H a0 8) (0 : Int32).toNatClampNeg) 0 H) fun x11 h12 =>
jg ((jK h12 a0).1 = 8) (
jg ((jK h12 (jR h12 a0 8)).1 = 111 ∧ jin (0) (jK h12 (jR h12 a0 8)).2) (
jg ((jK h12 (jR h12 (jR h12 a0 8) (0 : Int32).toNatClampNeg)).1 = 100 ∧ jF0 ≤ (jR h12 (jR h12 a0 8) (0 : Int32).toNatClampNeg) ∧ jin (0) (jK h12 (jR h12 (jR h12 a0 8) (0 : Int32).toNatClampNeg)).2) (
jl (jsI h12 (jR h12 (jR h12 a0 8) (0 : Int32).toNatClampNeg) (0 : Int32).toNatClampNeg 1) fun h13 =>
F_8_invert_21 jfuel a0 a1 1 h13)))))
def B_8_isBelow_48  (s0 : Int32) (H : jH) : Option (Int32 × jH) :=
jg ((s0 : Int32) = 0 ∨ (s0 : Int32) = 1) (some (s0, H))
def B_8_isBelow_10 (k10 : Nat → Nat → Int32 → jH → Option (Int32 × jH)) (a0 : Nat) (a1 : Nat) (a2 : Int32) (H : jH) : Option (Int32 × jH) :=
(if (a2 : Int32) < 0 then
jg ((0 : Int32) = 0 ∨ (0 : Int32) = 1) (some (0, H))
else
jg ((jK H a0).1 = 100 ∧ jin (a2) (jK H a0).2) (
jg ((jK H a1).1 = 100 ∧ jin (a2) (jK H a1).2) (
(if ((jI H a0 (a2 : Int32).toNatClampNeg) : Int32) = ((jI H a1 (a2 : Int32).toNatClampNeg) : Int32) then
jl (a2 + (-1)) fun x1 =>
k10 a0 a1 x1 H
else
jg ((jK H a0).1 = 100 ∧ jin (a2) (jK H a0).2) (
jg ((jK H a1).1 = 100 ∧ jin (a2) (jK H a1).2) (
(if ((Int32.toInt64 (jI H a1 (a2 : Int32).toNatClampNeg)) &&& 4294967295) ≤ (((Int32.toInt64 (jI H a0 (a2 : Int32).toNatClampNeg)) &&& 4294967295) : Int64) then
B_8_isBelow_48 0 H
else
B_8_isBelow_48 1 H)))))))
def F_8_isBelow_10  : Nat → Nat → Nat → Int32 → jH → Option (Int32 × jH)
  | 0 => fun _ _ _ _ => none
  | n + 1 => fun a0 a1 a2 H => B_8_isBelow_10 (F_8_isBelow_10  n) a0 a1 a2 H
def F_8_isBelow (a0 : Nat) (a1 : Nat) (H : jH) : Option (Int32 × jH) :=
jg ((jK H a0).1 = 100) (
jg ((jK H a1).1 = 100) (
jl ((jminI (Int32.ofNat (jK H a0).2) (Int32.ofNat (jK H a1).2)) - 1) fun x2 =>
F_8_isBelow_10 jfuel a0 a1 x2 H))
def B_8_spread_76 (k2 : Nat → Nat → Int32 → jH → Option (Unit × jH)) (a0 : Nat) (a1 : Nat) (a2 : Int32) (a5 : Int64) (s0 : Int64) (H : jH) : Option (Unit × jH) :=
jg ((jK H a1).1 = 103 ∧ jin (a2) (jK H a1).2) (
jl (jsL H a1 (a2 : Int32).toNatClampNeg ((a5 ||| s0) &&& 67108863)) fun h1 =>
jl (a2 + 1) fun x2 =>
k2 a0 a1 x2 h1)
def B_8_spread_46 (k2 : Nat → Nat → Int32 → jH → Option (Unit × jH)) (a0 : Nat) (a1 : Nat) (a2 : Int32) (a3 : Int32) (a4 : Int32) (s0 : Int64) (H : jH) : Option (Unit × jH) :=
jg ((jK H a0).1 = 100) (
(if ((Int32.ofNat (jK H a0).2) : Int32) ≤ ((a3 + 1) : Int32) then
B_8_spread_76 k2 a0 a1 a2 s0 0 H
else
jg ((jK H a0).1 = 100 ∧ jin ((a3 + 1)) (jK H a0).2) (
B_8_spread_76 k2 a0 a1 a2 s0 (jshlL ((Int32.toInt64 (jI H a0 ((a3 + 1) : Int32).toNatClampNeg)) &&& 4294967295) (32 - a4)) H)))
def B_8_spread_2 (k2 : Nat → Nat → Int32 → jH → Option (Unit × jH)) (a0 : Nat) (a1 : Nat) (a2 : Int32) (H : jH) : Option (Unit × jH) :=
jg ((jK H a1).1 = 103) (
(if ((Int32.ofNat (jK H a1).2) : Int32) ≤ (a2 : Int32) then
some ((), H)
else
jg (¬ (32 : Int32) = 0) (
jl ((26 * a2) / 32) fun x3 =>
jg (¬ (32 : Int32) = 0) (
jl (jrem (26 * a2) 32) fun x4 =>
jg ((jK H a0).1 = 100) (
(if ((Int32.ofNat (jK H a0).2) : Int32) ≤ (x3 : Int32) then
B_8_spread_46 k2 a0 a1 a2 x3 x4 0 H
else
jg ((jK H a0).1 = 100 ∧ jin (x3) (jK H a0).2) (
B_8_spread_46 k2 a0 a1 a2 x3 x4 (jushrL ((Int32.toInt64 (jI H a0 (x3 : Int32).toNatClampNeg)) &&& 4294967295) x4) H)))))))
def F_8_spread_2  : Nat → Nat → Nat → Int32 → jH → Option (Unit × jH)
  | 0 => fun _ _ _ _ => none
  | n + 1 => fun a0 a1 a2 H => B_8_spread_2 (F_8_spread_2  n) a0 a1 a2 H
def F_8_spread (a0 : Nat) (a1 : Nat) (H : jH) : Option (Unit × jH) :=
F_8_spread_2 jfuel a0 a1 0 H
def B_8_isAtX_182   (H : jH) : Option (Int32 × jH) :=
jg ((0 : Int32) = 0 ∨ (0 : Int32) = 1) (some (0, H))
def B_8_isAtX_109 (k25 : Nat → Int32 → jH → Option (Int32 × jH)) (k109 : Nat → Int32 → Int64 → Int32 → jH → Option (Int32 × jH)) (a0 : Nat) (a1 : Int32) (a2 : Int64) (a4 : Int32) (H : jH) : Option (Int32 × jH) :=
(if (8 : Int32) ≤ (a4 : Int32) then
(if ¬ (a2 : Int64) = 0 then
B_8_isAtX_182 H
else
jg ((jK H a0).1 = 8) (
jb (F_8_isBelow (jR H a0 1) 7 H) fun x1 h2 =>
(if ¬ (x1 : Int32) = 0 then
jl (a1 + 1) fun x3 =>
k25 a0 x3 h2
else
B_8_isAtX_182 h2)))
else
jg ((jK H a0).1 = 8) (
jg ((jK H (jR H a0 1)).1 = 100 ∧ jin (a4) (jK H (jR H a0 1)).2) (
jg ((jK H 8).1 = 100 ∧ jin (a4) (jK H 8).2) (
jl (a2 + (((Int32.toInt64 (jI H (jR H a0 1) (a4 : Int32).toNatClampNeg)) &&& 4294967295) + ((Int32.toInt64 (jI H 8 (a4 : Int32).toNatClampNeg)) &&& 4294967295))) fun x4 =>
jg ((jK H a0).1 = 8) (
jg ((jK H (jR H a0 1)).1 = 100 ∧ jF0 ≤ (jR H a0 1) ∧ jin (a4) (jK H (jR H a0 1)).2) (
jl (jsI H (jR H a0 1) (a4 : Int32).toNatClampNeg (Int64.toInt32 x4)) fun h5 =>
jl (jushrL x4 32) fun x6 =>
jl (a4 + 1) fun x7 =>
k109 a0 a1 x6 x7 h5))))))
def F_8_isAtX_109 (k25 : Nat → Int32 → jH → Option (Int32 × jH)) : Nat → Nat → Int32 → Int64 → Int32 → jH → Option (Int32 × jH)
  | 0 => fun _ _ _ _ _ => none
  | n + 1 => fun a0 a1 a2 a4 H => B_8_isAtX_109 k25 (F_8_isAtX_109 k25 n) a0 a1 a2 a4 H
def B_8_isAtX_25 (k25 : Nat → Int32 → jH → Option (Int32 × jH)) (a0 : Nat) (a1 : Int32) (H : jH) : Option (Int32 × jH) :=
(if (2 : Int32) ≤ (a1 : Int32) then
jg ((0 : Int32) = 0 ∨ (0 : Int32) = 1) (some (0, H))
else
jg ((jK H a0).1 = 8) (
jg ((jK H a0).1 = 8) (
jg ((jK H (jR H a0 9)).1 = 112 ∧ jin (1) (jK H (jR H a0 9)).2) (
jb (F_8_spread (jR H a0 1) (jR H (jR H a0 9) (1 : Int32).toNatClampNeg) H) fun x8 h9 =>
jg ((jK h9 a0).1 = 8) (
jg ((jK h9 (jR h9 a0 9)).1 = 112 ∧ jin (1) (jK h9 (jR h9 a0 9)).2) (
jg ((jK h9 a0).1 = 8) (
jg ((jK h9 (jR h9 a0 9)).1 = 112 ∧ jin (1) (jK h9 (jR h9 a0 9)).2) (
jg ((jK h9 a0).1 = 8) (
jg ((jK h9 (jR h9 a0 9)).1 = 112 ∧ jin (0) (jK h9 (jR h9 a0 9)).2) (
jb (F_5_multiply (jR h9 (jR h9 a0 9) (1 : Int32).toNatClampNeg) (jR h9 (jR h9 a0 9) (1 : Int32).toNatClampNeg) (jR h9 (jR h9 a0 9) (0 : Int32).toNatClampNeg) h9) fun x10 h11 =>
jg ((jK h11 a0).1 = 8) (
jg ((jK h11 (jR h11 a0 9)).1 = 112 ∧ jin (1) (jK h11 (jR h11 a0 9)).2) (
jg ((jK h11 a0).1 = 8) (
jg ((jK h11 (jR h11 a0 9)).1 = 112 ∧ jin (1) (jK h11 (jR h11 a0 9)).2) (
jg ((jK h11 a0).1 = 8) (
jg ((jK h11 (jR h11 a0 15)).1 = 5) (
jb (F_5_mix (jR h11 (jR h11 a0 9) (1 : Int32).toNatClampNeg) (jR h11 (jR h11 a0 9) (1 : Int32).toNatClampNeg) 1 (jR h11 (jR h11 a0 15) 0) (-1) h11) fun x12 h13 =>
jg ((jK h13 a0).1 = 8) (
jg ((jK h13 (jR h13 a0 9)).1 = 112 ∧ jin (1) (jK h13 (jR h13 a0 9)).2) (
jb (F_5_normalize (jR h13 (jR h13 a0 9) (1 : Int32).toNatClampNeg) h13) fun x14 h15 =>
(if (x14 : Int32) = 0 then
F_8_isAtX_109 k25 jfuel a0 a1 0 0 h15
else
jg ((1 : Int32) = 0 ∨ (1 : Int32) = 1) (some (1, h15)))))))))))))))))))))
def F_8_isAtX_25  : Nat → Nat → Int32 → jH → Option (Int32 × jH)
  | 0 => fun _ _ _ => none
  | n + 1 => fun a0 a1 H => B_8_isAtX_25 (F_8_isAtX_25  n) a0 a1 H
def F_8_isAtX (a0 : Nat) (H : jH) : Option (Int32 × jH) :=
jg ((jK H a0).1 = 8) (
jg ((jK H (jR H a0 9)).1 = 112 ∧ jin (0) (jK H (jR H a0 9)).2) (
jg ((jK H a0).1 = 8) (
jg ((jK H (jR H a0 15)).1 = 5) (
jg ((jK H a0).1 = 8) (
jg ((jK H (jR H a0 15)).1 = 5) (
jb (F_5_multiply (jR H (jR H a0 9) (0 : Int32).toNatClampNeg) (jR H (jR H a0 15) 2) (jR H (jR H a0 15) 2) H) fun x16 h17 =>
F_8_isAtX_25 jfuel a0 0 h17))))))
def B_8_set_68 (k8 : Nat → Nat → Int32 → Int32 → Int32 → jH → Option (Unit × jH)) (a0 : Nat) (a1 : Nat) (a2 : Int32) (a3 : Int32) (a4 : Int32) (H : jH) : Option (Unit × jH) :=
jl (a4 + 1) fun x1 =>
k8 a0 a1 a2 a3 x1 H
def B_8_set_74   (H : jH) : Option (Unit × jH) :=
some ((), H)
def B_8_set_8 (k8 : Nat → Nat → Int32 → Int32 → Int32 → jH → Option (Unit × jH)) (a0 : Nat) (a1 : Nat) (a2 : Int32) (a3 : Int32) (a4 : Int32) (H : jH) : Option (Unit × jH) :=
(if (a3 : Int32) ≤ (a4 : Int32) then
B_8_set_74 H
else
(if (32 : Int32) ≤ (a4 : Int32) then
B_8_set_74 H
else
jl (((a2 + a3) - 1) - a4) fun x2 =>
(if (x2 : Int32) < 0 then
B_8_set_68 k8 a0 a1 a2 a3 a4 H
else
jg ((jK H a1).1 = 101) (
(if ((Int32.ofNat (jK H a1).2) : Int32) ≤ (x2 : Int32) then
B_8_set_68 k8 a0 a1 a2 a3 a4 H
else
jg (¬ (4 : Int32) = 0) (
jg ((jK H a0).1 = 100 ∧ jin ((a4 / 4)) (jK H a0).2) (
jg ((jK H a1).1 = 101 ∧ jin (x2) (jK H a1).2) (
jg (¬ (4 : Int32) = 0) (
jg ((jK H a0).1 = 100 ∧ jF0 ≤ a0 ∧ jin ((a4 / 4)) (jK H a0).2) (
jl (jsI H a0 ((a4 / 4) : Int32).toNatClampNeg ((jI H a0 ((a4 / 4) : Int32).toNatClampNeg) ||| (jshl ((jbs (jB H a1 (x2 : Int32).toNatClampNeg)) &&& 255) (8 * (jrem a4 4))))) fun h3 =>
B_8_set_68 k8 a0 a1 a2 a3 a4 h3))))))))))
def F_8_set_8  : Nat → Nat → Nat → Int32 → Int32 → Int32 → jH → Option (Unit × jH)
  | 0 => fun _ _ _ _ _ _ => none
  | n + 1 => fun a0 a1 a2 a3 a4 H => B_8_set_8 (F_8_set_8  n) a0 a1 a2 a3 a4 H
def F_8_set (a0 : Nat) (a1 : Nat) (a2 : Int32) (a3 : Int32) (H : jH) : Option (Unit × jH) :=
jb (F_A_fill a0 0 H) fun x4 h5 =>
F_8_set_8 jfuel a0 a1 a2 a3 0 h5
def B_8_setDigits_135 (k12 : Nat → Nat → Int32 → Int32 → Int32 → jH → Option (Unit × jH)) (a0 : Nat) (a1 : Nat) (a2 : Int32) (a3 : Int32) (a4 : Int32) (H : jH) : Option (Unit × jH) :=
jl (a4 + 1) fun x1 =>
k12 a0 a1 a2 a3 x1 H
def B_8_setDigits_81 (k12 : Nat → Nat → Int32 → Int32 → Int32 → jH → Option (Unit × jH)) (a0 : Nat) (a1 : Nat) (a2 : Int32) (a3 : Int32) (a4 : Int32) (s0 : Int64) (s1 : Int64) (H : jH) : Option (Unit × jH) :=
jl (s0 ||| s1) fun x2 =>
jg (¬ (32 : Int32) = 0) (
jl ((Int64.toInt32 (jushrL x2 (jrem a3 32))) &&& 31) fun x3 =>
(if ¬ ((x3 &&& 1) : Int32) = (a2 : Int32) then
jl (x3 + a2) fun x4 =>
jl (jshr x4 4) fun x5 =>
jg ((jK H a0).1 = 100 ∧ jF0 ≤ a0 ∧ jin (a3) (jK H a0).2) (
jl (jsI H a0 (a3 : Int32).toNatClampNeg (x4 - (32 * x5))) fun h6 =>
jl (a3 + 5) fun x7 =>
B_8_setDigits_135 k12 a0 a1 x5 x7 a4 h6)
else
jl (a3 + 1) fun x8 =>
B_8_setDigits_135 k12 a0 a1 a2 x8 a4 H))
def B_8_setDigits_52 (k12 : Nat → Nat → Int32 → Int32 → Int32 → jH → Option (Unit × jH)) (a0 : Nat) (a1 : Nat) (a2 : Int32) (a3 : Int32) (a4 : Int32) (a5 : Int32) (s0 : Int64) (H : jH) : Option (Unit × jH) :=
(if (7 : Int32) ≤ (a5 : Int32) then
B_8_setDigits_81 k12 a0 a1 a2 a3 a4 s0 0 H
else
jg ((jK H a1).1 = 100 ∧ jin ((a5 + 1)) (jK H a1).2) (
B_8_setDigits_81 k12 a0 a1 a2 a3 a4 s0 (jshlL ((Int32.toInt64 (jI H a1 ((a5 + 1) : Int32).toNatClampNeg)) &&& 4294967295) 32) H))
def B_8_setDigits_141   (H : jH) : Option (Unit × jH) :=
some ((), H)
def B_8_setDigits_12 (k12 : Nat → Nat → Int32 → Int32 → Int32 → jH → Option (Unit × jH)) (a0 : Nat) (a1 : Nat) (a2 : Int32) (a3 : Int32) (a4 : Int32) (H : jH) : Option (Unit × jH) :=
(if (257 : Int32) ≤ (a4 : Int32) then
B_8_setDigits_141 H
else
jg ((jK H a0).1 = 100) (
(if ((Int32.ofNat (jK H a0).2) : Int32) ≤ (a3 : Int32) then
B_8_setDigits_141 H
else
jg (¬ (32 : Int32) = 0) (
jl (a3 / 32) fun x9 =>
(if (8 : Int32) ≤ (x9 : Int32) then
B_8_setDigits_52 k12 a0 a1 a2 a3 a4 x9 0 H
else
jg ((jK H a1).1 = 100 ∧ jin (x9) (jK H a1).2) (
B_8_setDigits_52 k12 a0 a1 a2 a3 a4 x9 ((Int32.toInt64 (jI H a1 (x9 : Int32).toNatClampNeg)) &&& 4294967295) H))))))
def F_8_setDigits_12  : Nat → Nat → Nat → Int32 → Int32 → Int32 → jH → Option (Unit × jH)
  | 0 => fun _ _ _ _ _ _ => none
  | n + 1 => fun a0 a1 a2 a3 a4 H => B_8_setDigits_12 (F_8_setDigits_12  n) a0 a1 a2 a3 a4 H
def F_8_setDigits (a0 : Nat) (a1 : Nat) (H : jH) : Option (Unit × jH) :=
jb (F_A_fill a0 0 H) fun x10 h11 =>
F_8_setDigits_12 jfuel a0 a1 0 0 0 h11
def B_8_holds_239 (k129 : Nat → Int32 → Int32 → jH → Option (Int32 × jH)) (a0 : Nat) (a3 : Int32) (a4 : Int32) (H : jH) : Option (Int32 × jH) :=
jl (a4 + 1) fun x1 =>
k129 a0 a3 x1 H
def B_8_holds_218 (k129 : Nat → Int32 → Int32 → jH → Option (Int32 × jH)) (a0 : Nat) (a3 : Int32) (a4 : Int32) (s0 : Nat) (s1 : Nat) (s2 : Int32) (H : jH) : Option (Int32 × jH) :=
jg ((jK H a0).1 = 8) (
jg ((jK H s0).1 = 5) (
jb (F_5_add s0 s1 s2 (jR H a0 9) H) fun x2 h3 =>
(if ¬ (x2 : Int32) = 0 then
B_8_holds_239 k129 a0 a3 a4 h3
else
jg ((jK h3 a0).1 = 8) (
jg ((jK h3 a0).1 = 8) (
jg ((jK h3 (jR h3 a0 15)).1 = 5) (
jb (F_5_twice (jR h3 a0 15) (jR h3 a0 9) h3) fun x4 h5 =>
B_8_holds_239 k129 a0 a3 a4 h5))))))
def B_8_holds_200 (k129 : Nat → Int32 → Int32 → jH → Option (Int32 × jH)) (a0 : Nat) (a3 : Int32) (a4 : Int32) (a5 : Int32) (s0 : Nat) (H : jH) : Option (Int32 × jH) :=
jg ((jK H a0).1 = 8) (
(if 0 ≤ (a5 : Int32) then
B_8_holds_218 k129 a0 a3 a4 (jR H a0 15) s0 0 H
else
B_8_holds_218 k129 a0 a3 a4 (jR H a0 15) s0 1 H))
def B_8_holds_155 (k129 : Nat → Int32 → Int32 → jH → Option (Int32 × jH)) (a0 : Nat) (a3 : Int32) (a4 : Int32) (s0 : Int32) (H : jH) : Option (Int32 × jH) :=
jg (¬ (2 : Int32) = 0) (
jl ((jabsI s0) / 2) fun x6 =>
(if (s0 : Int32) = 0 then
B_8_holds_239 k129 a0 a3 a4 H
else
(if (8 : Int32) ≤ (x6 : Int32) then
B_8_holds_239 k129 a0 a3 a4 H
else
(if ¬ (a4 : Int32) = 0 then
jg ((jK H a0).1 = 8) (
jg ((jK H (jR H a0 13)).1 = 115 ∧ jin (x6) (jK H (jR H a0 13)).2) (
B_8_holds_200 k129 a0 a3 a4 s0 (jR H (jR H a0 13) (x6 : Int32).toNatClampNeg) H))
else
jg ((jK H a0).1 = 8) (
jg ((jK H (jR H a0 12)).1 = 115 ∧ jin (x6) (jK H (jR H a0 12)).2) (
B_8_holds_200 k129 a0 a3 a4 s0 (jR H (jR H a0 12) (x6 : Int32).toNatClampNeg) H))))))
def B_8_holds_129 (k111 : Nat → Int32 → jH → Option (Int32 × jH)) (k129 : Nat → Int32 → Int32 → jH → Option (Int32 × jH)) (a0 : Nat) (a3 : Int32) (a4 : Int32) (H : jH) : Option (Int32 × jH) :=
(if (2 : Int32) ≤ (a4 : Int32) then
jl (a3 + (-1)) fun x7 =>
k111 a0 x7 H
else
(if ¬ (a4 : Int32) = 0 then
jg ((jK H a0).1 = 8) (
jg ((jK H (jR H a0 11)).1 = 100 ∧ jin (a3) (jK H (jR H a0 11)).2) (
B_8_holds_155 k129 a0 a3 a4 (jI H (jR H a0 11) (a3 : Int32).toNatClampNeg) H))
else
jg ((jK H a0).1 = 8) (
jg ((jK H (jR H a0 10)).1 = 100 ∧ jin (a3) (jK H (jR H a0 10)).2) (
B_8_holds_155 k129 a0 a3 a4 (jI H (jR H a0 10) (a3 : Int32).toNatClampNeg) H))))
def F_8_holds_129 (k111 : Nat → Int32 → jH → Option (Int32 × jH)) : Nat → Nat → Int32 → Int32 → jH → Option (Int32 × jH)
  | 0 => fun _ _ _ _ => none
  | n + 1 => fun a0 a3 a4 H => B_8_holds_129 k111 (F_8_holds_129 k111 n) a0 a3 a4 H
def B_8_holds_273  (s0 : Int32) (H : jH) : Option (Int32 × jH) :=
jg ((s0 : Int32) = 0 ∨ (s0 : Int32) = 1) (some (s0, H))
def B_8_holds_272   (H : jH) : Option (Int32 × jH) :=
B_8_holds_273 0 H
def B_8_holds_111 (k111 : Nat → Int32 → jH → Option (Int32 × jH)) (a0 : Nat) (a3 : Int32) (H : jH) : Option (Int32 × jH) :=
(if (a3 : Int32) < 0 then
jg ((jK H a0).1 = 8) (
jg ((jK H (jR H a0 15)).1 = 5) (
(if ¬ ((jI H (jR H a0 15) 3) : Int32) = 0 then
B_8_holds_272 H
else
jg ((jK H a0).1 = 8) (
jb (F_8_isAtX a0 H) fun x8 h9 =>
(if (x8 : Int32) = 0 then
B_8_holds_272 h9
else
B_8_holds_273 1 h9)))))
else
jg ((jK H a0).1 = 8) (
jg ((jK H a0).1 = 8) (
jg ((jK H (jR H a0 15)).1 = 5) (
jb (F_5_twice (jR H a0 15) (jR H a0 9) H) fun x10 h11 =>
F_8_holds_129 k111 jfuel a0 a3 0 h11))))
def F_8_holds_111  : Nat → Nat → Int32 → jH → Option (Int32 × jH)
  | 0 => fun _ _ _ => none
  | n + 1 => fun a0 a3 H => B_8_holds_111 (F_8_holds_111  n) a0 a3 H
def B_8_holds_35  (a0 : Nat) (s0 : Nat) (s1 : Int32) (s2 : Int32) (s3 : Int32) (H : jH) : Option (Int32 × jH) :=
jg ((jK H s0).1 = 100 ∧ jF0 ≤ s0 ∧ jin (s1) (jK H s0).2) (
jl (jsI H s0 (s1 : Int32).toNatClampNeg (s2 ||| s3)) fun h12 =>
jg ((jK h12 a0).1 = 8) (
jg ((jK h12 a0).1 = 8) (
jb (F_8_invert a0 (jR h12 a0 2) h12) fun x13 h14 =>
jg ((jK h14 a0).1 = 8) (
jg ((jK h14 a0).1 = 8) (
jg ((jK h14 a0).1 = 8) (
jg ((jK h14 a0).1 = 8) (
jb (F_8_multiply a0 (jR h14 a0 3) (jR h14 a0 5) (jR h14 a0 2) h14) fun x15 h16 =>
jg ((jK h16 a0).1 = 8) (
jg ((jK h16 a0).1 = 8) (
jg ((jK h16 a0).1 = 8) (
jg ((jK h16 a0).1 = 8) (
jb (F_8_multiply a0 (jR h16 a0 4) (jR h16 a0 1) (jR h16 a0 2) h16) fun x17 h18 =>
jg ((jK h18 a0).1 = 8) (
jg ((jK h18 a0).1 = 8) (
jb (F_8_setDigits (jR h18 a0 10) (jR h18 a0 3) h18) fun x19 h20 =>
jg ((jK h20 a0).1 = 8) (
jg ((jK h20 a0).1 = 8) (
jb (F_8_setDigits (jR h20 a0 11) (jR h20 a0 4) h20) fun x21 h22 =>
jg ((jK h22 a0).1 = 8) (
jg ((jK h22 (jR h22 a0 15)).1 = 5 ∧ ((1 : Int32) = 0 ∨ (1 : Int32) = 1)) (
jl (jsI h22 (jR h22 a0 15) 3 1) fun h23 =>
F_8_holds_111 jfuel a0 256 h23)))))))))))))))))
def B_8_holds_16  (a0 : Nat) (a2 : Int32) (s0 : Nat) (s1 : Nat) (s2 : Int32) (s3 : Int32) (H : jH) : Option (Int32 × jH) :=
jb (F_8_set s0 s1 s2 s3 H) fun x24 h25 =>
jg ((jK h25 a0).1 = 8) (
jg ((jK h25 (jR h25 a0 5)).1 = 100 ∧ jin (0) (jK h25 (jR h25 a0 5)).2) (
(if (a2 : Int32) = 0 then
B_8_holds_35 a0 (jR h25 a0 5) 0 (jI h25 (jR h25 a0 5) (0 : Int32).toNatClampNeg) 0 h25
else
B_8_holds_35 a0 (jR h25 a0 5) 0 (jI h25 (jR h25 a0 5) (0 : Int32).toNatClampNeg) 1 h25)))
def F_8_holds (a0 : Nat) (a1 : Nat) (a2 : Int32) (H : jH) : Option (Int32 × jH) :=
jg ((jK H a0).1 = 8) (
(if (a2 : Int32) = 0 then
B_8_holds_16 a0 a2 (jR H a0 5) a1 0 32 H
else
B_8_holds_16 a0 a2 (jR H a0 5) a1 0 0 H))
def B_A_fill_2_6 (k6 : Nat → Int64 → Int32 → Int32 → jH → Option (Unit × jH)) (a0 : Nat) (a1 : Int64) (a3 : Int32) (a4 : Int32) (H : jH) : Option (Unit × jH) :=
(if (a4 : Int32) ≤ (a3 : Int32) then
some ((), H)
else
jg ((jK H a0).1 = 103 ∧ jin (a3) (jK H a0).2) (
jl (jsL H a0 (a3 : Int32).toNatClampNeg a1) fun h1 =>
jl (a3 + 1) fun x2 =>
k6 a0 a1 x2 a4 h1))
def F_A_fill_2_6  : Nat → Nat → Int64 → Int32 → Int32 → jH → Option (Unit × jH)
  | 0 => fun _ _ _ _ _ => none
  | n + 1 => fun a0 a1 a3 a4 H => B_A_fill_2_6 (F_A_fill_2_6  n) a0 a1 a3 a4 H
def F_A_fill_2 (a0 : Nat) (a1 : Int64) (H : jH) : Option (Unit × jH) :=
jg ((jK H a0).1 = 103) (
jl (Int32.ofNat (jK H a0).2) fun x3 =>
F_A_fill_2_6 jfuel a0 a1 0 x3 H)
def F_5_unit (a0 : Nat) (H : jH) : Option (Unit × jH) :=
jg ((jK H a0).1 = 5) (
jb (F_A_fill_2 (jR H a0 2) 0 H) fun x1 h2 =>
jg ((jK h2 a0).1 = 5) (
jg ((jK h2 (jR h2 a0 2)).1 = 103 ∧ jin (0) (jK h2 (jR h2 a0 2)).2) (
jl (jsL h2 (jR h2 a0 2) (0 : Int32).toNatClampNeg 1) fun h3 =>
jg ((jK h3 a0).1 = 5 ∧ ((0 : Int32) = 0 ∨ (0 : Int32) = 1)) (
jl (jsI h3 a0 3 0) fun h4 =>
some ((), h4)))))
def B_8_setBase_74 (k74 : Nat → Int32 → jH → Option (Unit × jH)) (a0 : Nat) (a1 : Int32) (H : jH) : Option (Unit × jH) :=
(if (8 : Int32) ≤ (a1 : Int32) then
jg ((jK H a0).1 = 8 ∧ ((1 : Int32) = 0 ∨ (1 : Int32) = 1)) (
jl (jsI H a0 16 1) fun h1 =>
some ((), h1))
else
jg ((jK H a0).1 = 8) (
jg ((jK H (jR H a0 12)).1 = 115 ∧ jin (a1) (jK H (jR H a0 12)).2) (
jg ((jK H a0).1 = 8) (
jg ((jK H (jR H a0 12)).1 = 115 ∧ jin ((a1 - 1)) (jK H (jR H a0 12)).2) (
jg ((jK H (jR H (jR H a0 12) (a1 : Int32).toNatClampNeg)).1 = 5) (
jb (F_5_set (jR H (jR H a0 12) (a1 : Int32).toNatClampNeg) (jR H (jR H a0 12) ((a1 - 1) : Int32).toNatClampNeg) 0 H) fun x2 h3 =>
jg ((jK h3 a0).1 = 8) (
jg ((jK h3 (jR h3 a0 12)).1 = 115 ∧ jin (a1) (jK h3 (jR h3 a0 12)).2) (
jg ((jK h3 a0).1 = 8) (
jg ((jK h3 a0).1 = 8) (
jg ((jK h3 (jR h3 (jR h3 a0 12) (a1 : Int32).toNatClampNeg)).1 = 5) (
jb (F_5_add (jR h3 (jR h3 a0 12) (a1 : Int32).toNatClampNeg) (jR h3 a0 14) 0 (jR h3 a0 9) h3) fun x4 h5 =>
jl (a1 + 1) fun x6 =>
k74 a0 x6 h5)))))))))))
def F_8_setBase_74  : Nat → Nat → Int32 → jH → Option (Unit × jH)
  | 0 => fun _ _ _ => none
  | n + 1 => fun a0 a1 H => B_8_setBase_74 (F_8_setBase_74  n) a0 a1 H
def F_8_setBase (a0 : Nat) (H : jH) : Option (Unit × jH) :=
jg ((jK H a0).1 = 8) (
(if ((jI H a0 16) : Int32) = 0 then
jg ((jK H a0).1 = 8) (
jg ((jK H (jR H a0 12)).1 = 115 ∧ jin (0) (jK H (jR H a0 12)).2) (
jg ((jK H (jR H (jR H a0 12) (0 : Int32).toNatClampNeg)).1 = 5) (
jb (F_8_spread 10 (jR H (jR H (jR H a0 12) (0 : Int32).toNatClampNeg) 0) H) fun x7 h8 =>
jg ((jK h8 a0).1 = 8) (
jg ((jK h8 (jR h8 a0 12)).1 = 115 ∧ jin (0) (jK h8 (jR h8 a0 12)).2) (
jg ((jK h8 (jR h8 (jR h8 a0 12) (0 : Int32).toNatClampNeg)).1 = 5) (
jb (F_8_spread 11 (jR h8 (jR h8 (jR h8 a0 12) (0 : Int32).toNatClampNeg) 1) h8) fun x9 h10 =>
jg ((jK h10 a0).1 = 8) (
jg ((jK h10 (jR h10 a0 12)).1 = 115 ∧ jin (0) (jK h10 (jR h10 a0 12)).2) (
jg ((jK h10 (jR h10 (jR h10 a0 12) (0 : Int32).toNatClampNeg)).1 = 5) (
jb (F_5_unit (jR h10 (jR h10 a0 12) (0 : Int32).toNatClampNeg) h10) fun x11 h12 =>
jg ((jK h12 a0).1 = 8) (
jg ((jK h12 a0).1 = 8) (
jg ((jK h12 (jR h12 a0 12)).1 = 115 ∧ jin (0) (jK h12 (jR h12 a0 12)).2) (
jg ((jK h12 (jR h12 a0 14)).1 = 5) (
jb (F_5_set (jR h12 a0 14) (jR h12 (jR h12 a0 12) (0 : Int32).toNatClampNeg) 0 h12) fun x13 h14 =>
jg ((jK h14 a0).1 = 8) (
jg ((jK h14 a0).1 = 8) (
jg ((jK h14 (jR h14 a0 14)).1 = 5) (
jb (F_5_twice (jR h14 a0 14) (jR h14 a0 9) h14) fun x15 h16 =>
F_8_setBase_74 jfuel a0 1 h16))))))))))))))))
else
some ((), H)))
def B_5_root_59 (k20 : Nat → Nat → Nat → Int32 → jH → Option (Unit × jH)) (k59 : Nat → Nat → Nat → Int32 → Nat → Int32 → jH → Option (Unit × jH)) (a0 : Nat) (a1 : Nat) (a2 : Nat) (a3 : Int32) (a4 : Nat) (a5 : Int32) (H : jH) : Option (Unit × jH) :=
jg ((jK H 12).1 = 100 ∧ jin ((a3 + 1)) (jK H 12).2) (
(if ((jI H 12 ((a3 + 1) : Int32).toNatClampNeg) : Int32) ≤ (a5 : Int32) then
jg ((jK H 12).1 = 100 ∧ jin ((a3 + 2)) (jK H 12).2) (
jg ((jK H a2).1 = 112 ∧ jin ((jI H 12 ((a3 + 2) : Int32).toNatClampNeg)) (jK H a2).2) (
jb (F_5_multiply a4 a4 (jR H a2 ((jI H 12 ((a3 + 2) : Int32).toNatClampNeg) : Int32).toNatClampNeg) H) fun x1 h2 =>
jl (a3 + 4) fun x3 =>
k20 a0 a1 a2 x3 h2))
else
jb (F_5_multiply a4 a4 a4 H) fun x4 h5 =>
jl (a5 + 1) fun x6 =>
k59 a0 a1 a2 a3 a4 x6 h5))
def F_5_root_59 (k20 : Nat → Nat → Nat → Int32 → jH → Option (Unit × jH)) : Nat → Nat → Nat → Nat → Int32 → Nat → Int32 → jH → Option (Unit × jH)
  | 0 => fun _ _ _ _ _ _ _ => none
  | n + 1 => fun a0 a1 a2 a3 a4 a5 H => B_5_root_59 k20 (F_5_root_59 k20 n) a0 a1 a2 a3 a4 a5 H
def B_5_root_20 (k20 : Nat → Nat → Nat → Int32 → jH → Option (Unit × jH)) (a0 : Nat) (a1 : Nat) (a2 : Nat) (a3 : Int32) (H : jH) : Option (Unit × jH) :=
jg ((jK H 12).1 = 100) (
(if ((Int32.ofNat (jK H 12).2) : Int32) ≤ ((a3 + 3) : Int32) then
jg ((jK H a2).1 = 112 ∧ jin (13) (jK H a2).2) (
jg ((jK H a2).1 = 112 ∧ jin (13) (jK H a2).2) (
jb (F_5_multiply a0 (jR H a2 (13 : Int32).toNatClampNeg) (jR H a2 (13 : Int32).toNatClampNeg) H) fun x7 h8 =>
jb (F_5_multiply a0 a0 a0 h8) fun x9 h10 =>
some ((), h10)))
else
jg ((jK H 12).1 = 100 ∧ jin ((a3 + 3)) (jK H 12).2) (
jg ((jK H a2).1 = 112 ∧ jin ((jI H 12 ((a3 + 3) : Int32).toNatClampNeg)) (jK H a2).2) (
jl (jR H a2 ((jI H 12 ((a3 + 3) : Int32).toNatClampNeg) : Int32).toNatClampNeg) fun x11 =>
jg ((jK H 12).1 = 100 ∧ jin (a3) (jK H 12).2) (
jg ((jK H a2).1 = 112 ∧ jin ((jI H 12 (a3 : Int32).toNatClampNeg)) (jK H a2).2) (
jb (F_5_mix x11 (jR H a2 ((jI H 12 (a3 : Int32).toNatClampNeg) : Int32).toNatClampNeg) 1 a1 0 H) fun x12 h13 =>
F_5_root_59 k20 jfuel a0 a1 a2 a3 x11 0 h13))))))
def F_5_root_20  : Nat → Nat → Nat → Nat → Int32 → jH → Option (Unit × jH)
  | 0 => fun _ _ _ _ _ => none
  | n + 1 => fun a0 a1 a2 a3 H => B_5_root_20 (F_5_root_20  n) a0 a1 a2 a3 H
def F_5_root (a0 : Nat) (a1 : Nat) (a2 : Nat) (H : jH) : Option (Unit × jH) :=
jg ((jK H a2).1 = 112) (
(if (14 : Int32) ≤ ((Int32.ofNat (jK H a2).2) : Int32) then
jg ((jK H a2).1 = 112 ∧ jin (0) (jK H a2).2) (
jb (F_5_mix (jR H a2 (0 : Int32).toNatClampNeg) a1 1 a1 0 H) fun x14 h15 =>
F_5_root_20 jfuel a0 a1 a2 0 h15)
else
some ((), H)))
def B_8_setKey_371 (k371 : Nat → Int32 → jH → Option (Int32 × jH)) (a0 : Nat) (a8 : Int32) (H : jH) : Option (Int32 × jH) :=
(if (8 : Int32) ≤ (a8 : Int32) then
jg ((1 : Int32) = 0 ∨ (1 : Int32) = 1) (some (1, H))
else
jg ((jK H a0).1 = 8) (
jg ((jK H (jR H a0 13)).1 = 115 ∧ jin (a8) (jK H (jR H a0 13)).2) (
jg ((jK H a0).1 = 8) (
jg ((jK H (jR H a0 13)).1 = 115 ∧ jin ((a8 - 1)) (jK H (jR H a0 13)).2) (
jg ((jK H (jR H (jR H a0 13) (a8 : Int32).toNatClampNeg)).1 = 5) (
jb (F_5_set (jR H (jR H a0 13) (a8 : Int32).toNatClampNeg) (jR H (jR H a0 13) ((a8 - 1) : Int32).toNatClampNeg) 0 H) fun x1 h2 =>
jg ((jK h2 a0).1 = 8) (
jg ((jK h2 (jR h2 a0 13)).1 = 115 ∧ jin (a8) (jK h2 (jR h2 a0 13)).2) (
jg ((jK h2 a0).1 = 8) (
jg ((jK h2 a0).1 = 8) (
jg ((jK h2 (jR h2 (jR h2 a0 13) (a8 : Int32).toNatClampNeg)).1 = 5) (
jb (F_5_add (jR h2 (jR h2 a0 13) (a8 : Int32).toNatClampNeg) (jR h2 a0 14) 0 (jR h2 a0 9) h2) fun x3 h4 =>
jl (a8 + 1) fun x5 =>
k371 a0 x5 h4)))))))))))
def F_8_setKey_371  : Nat → Nat → Int32 → jH → Option (Int32 × jH)
  | 0 => fun _ _ _ => none
  | n + 1 => fun a0 a8 H => B_8_setKey_371 (F_8_setKey_371  n) a0 a8 H
def B_8_setKey_342  (a0 : Nat) (a5 : Nat) (H : jH) : Option (Int32 × jH) :=
jg ((jK H a5).1 = 5) (
jb (F_5_unit a5 H) fun x6 h7 =>
jg ((jK h7 a0).1 = 8) (
jg ((jK h7 (jR h7 a0 14)).1 = 5) (
jb (F_5_set (jR h7 a0 14) a5 0 h7) fun x8 h9 =>
jg ((jK h9 a0).1 = 8) (
jg ((jK h9 a0).1 = 8) (
jg ((jK h9 (jR h9 a0 14)).1 = 5) (
jb (F_5_twice (jR h9 a0 14) (jR h9 a0 9) h9) fun x10 h11 =>
F_8_setKey_371 jfuel a0 1 h11))))))
def B_8_setKey_336  (a0 : Nat) (a5 : Nat) (a6 : Nat) (s0 : Nat) (s1 : Nat) (s2 : Int64) (H : jH) : Option (Int32 × jH) :=
jb (F_5_mix s0 s1 s2 a6 0 H) fun x12 h13 =>
B_8_setKey_342 a0 a5 h13
def B_8_setKey_326  (a0 : Nat) (a5 : Nat) (a6 : Nat) (s0 : Nat) (s1 : Nat) (s2 : Int32) (s3 : Int32) (H : jH) : Option (Int32 × jH) :=
(if ¬ (s2 : Int32) = (s3 : Int32) then
B_8_setKey_336 a0 a5 a6 s0 s1 (-1) H
else
B_8_setKey_336 a0 a5 a6 s0 s1 1 H)
def B_8_setKey_300  (a0 : Nat) (a1 : Nat) (a5 : Nat) (a6 : Nat) (s0 : Int32) (H : jH) : Option (Int32 × jH) :=
jg ((jK H a5).1 = 5) (
jg ((jK H a5).1 = 5) (
jg ((jK H a1).1 = 101 ∧ jin (0) (jK H a1).2) (
(if ¬ ((jbs (jB H a1 (0 : Int32).toNatClampNeg)) : Int32) = (3 : Int32) then
B_8_setKey_326 a0 a5 a6 (jR H a5 1) (jR H a5 1) s0 0 H
else
B_8_setKey_326 a0 a5 a6 (jR H a5 1) (jR H a5 1) s0 1 H))))
def B_8_setKey_230  (a0 : Nat) (a1 : Nat) (a3 : Int32) (a5 : Nat) (a6 : Nat) (a7 : Nat) (H : jH) : Option (Int32 × jH) :=
jg ((jK H a5).1 = 5) (
jg ((jK H a5).1 = 5) (
jb (F_5_multiply a7 (jR H a5 1) (jR H a5 1) H) fun x14 h15 =>
jb (F_5_mix a7 a7 1 a6 (-1) h15) fun x16 h17 =>
jb (F_5_normalize a7 h17) fun x18 h19 =>
(if ¬ (x18 : Int32) = 0 then
(if (a3 : Int32) = 0 then
B_8_setKey_342 a0 a5 h19
else
jg ((jK h19 a5).1 = 5) (
jb (F_5_normalize (jR h19 a5 1) h19) fun x20 h21 =>
jg ((jK h21 a5).1 = 5) (
jg ((jK h21 (jR h21 a5 1)).1 = 103 ∧ jin (0) (jK h21 (jR h21 a5 1)).2) (
(if ¬ (((jL h21 (jR h21 a5 1) (0 : Int32).toNatClampNeg) &&& 1) : Int64) = 1 then
B_8_setKey_300 a0 a1 a5 a6 0 h21
else
B_8_setKey_300 a0 a1 a5 a6 1 h21)))))
else
jg ((0 : Int32) = 0 ∨ (0 : Int32) = 1) (some (0, h19)))))
def B_8_setKey_71  (a0 : Nat) (a1 : Nat) (a3 : Int32) (a4 : Int32) (H : jH) : Option (Int32 × jH) :=
jg ((jK H a0).1 = 8) (
jg ((jK H (jR H a0 13)).1 = 115 ∧ jin (0) (jK H (jR H a0 13)).2) (
jl (jR H (jR H a0 13) (0 : Int32).toNatClampNeg) fun x22 =>
jg ((jK H a0).1 = 8) (
jb (F_8_set (jR H a0 3) a1 1 32 H) fun x23 h24 =>
jg ((jK h24 a0).1 = 8) (
jg ((jK h24 x22).1 = 5) (
jb (F_8_spread (jR h24 a0 3) (jR h24 x22 0) h24) fun x25 h26 =>
jg ((jK h26 a0).1 = 8) (
jb (F_8_isBelow (jR h26 a0 3) 7 h26) fun x27 h28 =>
(if ¬ (x27 : Int32) = 0 then
jg ((jK h28 a0).1 = 8) (
jg ((jK h28 (jR h28 a0 9)).1 = 112 ∧ jin (14) (jK h28 (jR h28 a0 9)).2) (
jl (jR h28 (jR h28 a0 9) (14 : Int32).toNatClampNeg) fun x29 =>
jg ((jK h28 a0).1 = 8) (
jg ((jK h28 (jR h28 a0 9)).1 = 112 ∧ jin (15) (jK h28 (jR h28 a0 9)).2) (
jl (jR h28 (jR h28 a0 9) (15 : Int32).toNatClampNeg) fun x30 =>
jg ((jK h28 x22).1 = 5) (
jg ((jK h28 x22).1 = 5) (
jb (F_5_multiply x29 (jR h28 x22 0) (jR h28 x22 0) h28) fun x31 h32 =>
jg ((jK h32 x22).1 = 5) (
jb (F_5_multiply x29 x29 (jR h32 x22 0) h32) fun x33 h34 =>
jg ((jK h34 x29).1 = 103 ∧ jin (0) (jK h34 x29).2) (
jg ((jK h34 x29).1 = 103 ∧ jin (0) (jK h34 x29).2) (
jl (jsL h34 x29 (0 : Int32).toNatClampNeg ((jL h34 x29 (0 : Int32).toNatClampNeg) + 7)) fun h35 =>
(if (a4 : Int32) = 0 then
jg ((jK h35 x22).1 = 5) (
jg ((jK h35 a0).1 = 8) (
jb (F_5_root (jR h35 x22 1) x29 (jR h35 a0 9) h35) fun x36 h37 =>
B_8_setKey_230 a0 a1 a3 x22 x29 x30 h37))
else
jg ((jK h35 a0).1 = 8) (
jb (F_8_set (jR h35 a0 4) a1 33 32 h35) fun x38 h39 =>
jg ((jK h39 a0).1 = 8) (
jg ((jK h39 x22).1 = 5) (
jb (F_8_spread (jR h39 a0 4) (jR h39 x22 1) h39) fun x40 h41 =>
jg ((jK h41 a0).1 = 8) (
jb (F_8_isBelow (jR h41 a0 4) 7 h41) fun x42 h43 =>
(if ¬ (x42 : Int32) = 0 then
B_8_setKey_230 a0 a1 a3 x22 x29 x30 h43
else
jg ((0 : Int32) = 0 ∨ (0 : Int32) = 1) (some (0, h43)))))))))))))))))
else
jg ((0 : Int32) = 0 ∨ (0 : Int32) = 1) (some (0, h28)))))))))
def B_8_setKey_58  (a0 : Nat) (a1 : Nat) (a3 : Int32) (s0 : Int32) (H : jH) : Option (Int32 × jH) :=
(if ¬ (a3 : Int32) = 0 then
B_8_setKey_71 a0 a1 a3 s0 H
else
(if ¬ (s0 : Int32) = 0 then
B_8_setKey_71 a0 a1 a3 s0 H
else
jg ((0 : Int32) = 0 ∨ (0 : Int32) = 1) (some (0, H))))
def B_8_setKey_57  (a0 : Nat) (a1 : Nat) (a3 : Int32) (H : jH) : Option (Int32 × jH) :=
B_8_setKey_58 a0 a1 a3 0 H
def B_8_setKey_32  (a0 : Nat) (a1 : Nat) (a2 : Int32) (s0 : Int32) (H : jH) : Option (Int32 × jH) :=
(if ¬ (a2 : Int32) = (65 : Int32) then
B_8_setKey_57 a0 a1 s0 H
else
jg ((jK H a1).1 = 101) (
(if ((Int32.ofNat (jK H a1).2) : Int32) < (65 : Int32) then
B_8_setKey_57 a0 a1 s0 H
else
jg ((jK H a1).1 = 101 ∧ jin (0) (jK H a1).2) (
(if ¬ ((jbs (jB H a1 (0 : Int32).toNatClampNeg)) : Int32) = (4 : Int32) then
B_8_setKey_57 a0 a1 s0 H
else
B_8_setKey_58 a0 a1 s0 1 H)))))
def B_8_setKey_27  (a0 : Nat) (a1 : Nat) (a2 : Int32) (H : jH) : Option (Int32 × jH) :=
B_8_setKey_32 a0 a1 a2 1 H
def B_8_setKey_31  (a0 : Nat) (a1 : Nat) (a2 : Int32) (H : jH) : Option (Int32 × jH) :=
B_8_setKey_32 a0 a1 a2 0 H
def F_8_setKey (a0 : Nat) (a1 : Nat) (a2 : Int32) (H : jH) : Option (Int32 × jH) :=
(if ¬ (a2 : Int32) = (33 : Int32) then
B_8_setKey_31 a0 a1 a2 H
else
jg ((jK H a1).1 = 101) (
(if ((Int32.ofNat (jK H a1).2) : Int32) < (33 : Int32) then
B_8_setKey_31 a0 a1 a2 H
else
jg ((jK H a1).1 = 101 ∧ jin (0) (jK H a1).2) (
(if ((jbs (jB H a1 (0 : Int32).toNatClampNeg)) : Int32) = (2 : Int32) then
B_8_setKey_27 a0 a1 a2 H
else
jg ((jK H a1).1 = 101 ∧ jin (0) (jK H a1).2) (
(if ¬ ((jbs (jB H a1 (0 : Int32).toNatClampNeg)) : Int32) = (3 : Int32) then
B_8_setKey_31 a0 a1 a2 H
else
B_8_setKey_27 a0 a1 a2 H)))))))
def B_8_isNothing_31  (s0 : Int32) (H : jH) : Option (Int32 × jH) :=
jg ((s0 : Int32) = 0 ∨ (s0 : Int32) = 1) (some (s0, H))
def B_8_isNothing_4 (k4 : Nat → Int32 → Int32 → jH → Option (Int32 × jH)) (a0 : Nat) (a1 : Int32) (a2 : Int32) (H : jH) : Option (Int32 × jH) :=
jg ((jK H a0).1 = 100) (
(if ((Int32.ofNat (jK H a0).2) : Int32) ≤ (a2 : Int32) then
(if ¬ (a1 : Int32) = 0 then
B_8_isNothing_31 0 H
else
B_8_isNothing_31 1 H)
else
jg ((jK H a0).1 = 100 ∧ jin (a2) (jK H a0).2) (
jl (a1 ||| (jI H a0 (a2 : Int32).toNatClampNeg)) fun x1 =>
jl (a2 + 1) fun x2 =>
k4 a0 x1 x2 H)))
def F_8_isNothing_4  : Nat → Nat → Int32 → Int32 → jH → Option (Int32 × jH)
  | 0 => fun _ _ _ _ => none
  | n + 1 => fun a0 a1 a2 H => B_8_isNothing_4 (F_8_isNothing_4  n) a0 a1 a2 H
def F_8_isNothing (a0 : Nat) (H : jH) : Option (Int32 × jH) :=
F_8_isNothing_4 jfuel a0 0 0 H
def B_8_setNumber_49   (H : jH) : Option (Int32 × jH) :=
jg ((0 : Int32) = 0 ∨ (0 : Int32) = 1) (some (0, H))
def B_8_setNumber_80  (s0 : Int32) (H : jH) : Option (Int32 × jH) :=
jg ((s0 : Int32) = 0 ∨ (s0 : Int32) = 1) (some (s0, H))
def B_8_setNumber_79   (H : jH) : Option (Int32 × jH) :=
B_8_setNumber_80 0 H
def B_8_setNumber_51  (a0 : Nat) (a1 : Nat) (a2 : Int32) (a3 : Int32) (H : jH) : Option (Int32 × jH) :=
jb (F_8_set a0 a1 a2 a3 H) fun x1 h2 =>
jb (F_8_isNothing a0 h2) fun x3 h4 =>
(if ¬ (x3 : Int32) = 0 then
B_8_setNumber_79 h4
else
jb (F_8_isBelow a0 8 h4) fun x5 h6 =>
(if (x5 : Int32) = 0 then
B_8_setNumber_79 h6
else
B_8_setNumber_80 1 h6))
def B_8_setNumber_24  (a0 : Nat) (a1 : Nat) (a2 : Int32) (a3 : Int32) (s0 : Int32) (H : jH) : Option (Int32 × jH) :=
jg ((jK H a1).1 = 101 ∧ jin (a2) (jK H a1).2) (
(if ((jbs (jB H a1 (a2 : Int32).toNatClampNeg)) : Int32) < 0 then
B_8_setNumber_49 H
else
(if ¬ (s0 : Int32) = 0 then
B_8_setNumber_49 H
else
(if ¬ (a3 : Int32) = (33 : Int32) then
B_8_setNumber_51 a0 a1 a2 a3 H
else
jg ((jK H a1).1 = 101 ∧ jin (a2) (jK H a1).2) (
(if ((jbs (jB H a1 (a2 : Int32).toNatClampNeg)) : Int32) = 0 then
B_8_setNumber_51 a0 a1 a2 a3 H
else
B_8_setNumber_49 H))))))
def B_8_setNumber_23  (a0 : Nat) (a1 : Nat) (a2 : Int32) (a3 : Int32) (H : jH) : Option (Int32 × jH) :=
B_8_setNumber_24 a0 a1 a2 a3 0 H
def F_8_setNumber (a0 : Nat) (a1 : Nat) (a2 : Int32) (a3 : Int32) (H : jH) : Option (Int32 × jH) :=
jg ((jK H a1).1 = 101 ∧ jin (a2) (jK H a1).2) (
(if ¬ ((jbs (jB H a1 (a2 : Int32).toNatClampNeg)) : Int32) = 0 then
B_8_setNumber_23 a0 a1 a2 a3 H
else
(if (a3 : Int32) ≤ (1 : Int32) then
B_8_setNumber_23 a0 a1 a2 a3 H
else
jg ((jK H a1).1 = 101 ∧ jin ((a2 + 1)) (jK H a1).2) (
(if ((jbs (jB H a1 ((a2 + 1) : Int32).toNatClampNeg)) : Int32) < 0 then
B_8_setNumber_23 a0 a1 a2 a3 H
else
B_8_setNumber_24 a0 a1 a2 a3 1 H)))))
def B_8_setSignature_29   (H : jH) : Option (Int32 × jH) :=
jg ((0 : Int32) = 0 ∨ (0 : Int32) = 1) (some (0, H))
def B_8_setSignature_70   (H : jH) : Option (Int32 × jH) :=
jg ((0 : Int32) = 0 ∨ (0 : Int32) = 1) (some (0, H))
def B_8_setSignature_103   (H : jH) : Option (Int32 × jH) :=
jg ((0 : Int32) = 0 ∨ (0 : Int32) = 1) (some (0, H))
def B_8_setSignature_153  (s0 : Int32) (H : jH) : Option (Int32 × jH) :=
jg ((s0 : Int32) = 0 ∨ (s0 : Int32) = 1) (some (s0, H))
def B_8_setSignature_152   (H : jH) : Option (Int32 × jH) :=
B_8_setSignature_153 0 H
def F_8_setSignature (a0 : Nat) (a1 : Nat) (a2 : Int32) (H : jH) : Option (Int32 × jH) :=
(if (a2 : Int32) < (9 : Int32) then
B_8_setSignature_29 H
else
jg ((jK H a1).1 = 101) (
(if ((Int32.ofNat (jK H a1).2) : Int32) < (a2 : Int32) then
B_8_setSignature_29 H
else
jg ((jK H a1).1 = 101 ∧ jin (0) (jK H a1).2) (
(if ¬ ((jbs (jB H a1 (0 : Int32).toNatClampNeg)) : Int32) = (48 : Int32) then
B_8_setSignature_29 H
else
jg ((jK H a1).1 = 101 ∧ jin (1) (jK H a1).2) (
(if ((jbs (jB H a1 (1 : Int32).toNatClampNeg)) : Int32) = ((a2 - 3) : Int32) then
jg ((jK H a1).1 = 101 ∧ jin (3) (jK H a1).2) (
jl (jbs (jB H a1 (3 : Int32).toNatClampNeg)) fun x1 =>
jg ((jK H a1).1 = 101 ∧ jin (2) (jK H a1).2) (
(if ¬ ((jbs (jB H a1 (2 : Int32).toNatClampNeg)) : Int32) = (2 : Int32) then
B_8_setSignature_70 H
else
(if (x1 : Int32) < (1 : Int32) then
B_8_setSignature_70 H
else
(if (33 : Int32) < (x1 : Int32) then
B_8_setSignature_70 H
else
(if (a2 : Int32) ≤ ((6 + x1) : Int32) then
B_8_setSignature_70 H
else
jg ((jK H a1).1 = 101 ∧ jin ((4 + x1)) (jK H a1).2) (
(if ((jbs (jB H a1 ((4 + x1) : Int32).toNatClampNeg)) : Int32) = (2 : Int32) then
jg ((jK H a1).1 = 101 ∧ jin ((5 + x1)) (jK H a1).2) (
jl (jbs (jB H a1 ((5 + x1) : Int32).toNatClampNeg)) fun x2 =>
(if (x2 : Int32) < (1 : Int32) then
B_8_setSignature_103 H
else
(if (33 : Int32) < (x2 : Int32) then
B_8_setSignature_103 H
else
(if (((7 + x1) + x2) : Int32) = (a2 : Int32) then
jg ((jK H a1).1 = 101 ∧ jin ((a2 - 1)) (jK H a1).2) (
jg ((jK H a0).1 = 8) (
jl (jsI H a0 0 ((jbs (jB H a1 ((a2 - 1) : Int32).toNatClampNeg)) &&& 255)) fun h3 =>
jg ((jK h3 a0).1 = 8) (
jb (F_8_setNumber (jR h3 a0 1) a1 4 x1 h3) fun x4 h5 =>
(if (x4 : Int32) = 0 then
B_8_setSignature_152 h5
else
jg ((jK h5 a0).1 = 8) (
jb (F_8_setNumber (jR h5 a0 2) a1 (6 + x1) x2 h5) fun x6 h7 =>
(if (x6 : Int32) = 0 then
B_8_setSignature_152 h7
else
B_8_setSignature_153 1 h7))))))
else
B_8_setSignature_103 H))))
else
B_8_setSignature_70 H))))))))
else
B_8_setSignature_29 H)))))))
def B_7_pass_34   (H : jH) : Option (Int32 × jH) :=
jg ((0 : Int32) = 0 ∨ (0 : Int32) = 1) (some (0, H))
def B_7_pass_319 (k90 : Nat → Nat → Nat → Nat → Int32 → Nat → Int32 → Int32 → jH → Option (Int32 × jH)) (a0 : Nat) (a1 : Nat) (a2 : Nat) (a3 : Nat) (a4 : Int32) (a5 : Nat) (a6 : Int32) (a7 : Int32) (H : jH) : Option (Int32 × jH) :=
jl (a7 + 1) fun x1 =>
k90 a0 a1 a2 a3 a4 a5 a6 x1 H
def B_7_pass_273 (k90 : Nat → Nat → Nat → Nat → Int32 → Nat → Int32 → Int32 → jH → Option (Int32 × jH)) (a0 : Nat) (a1 : Nat) (a2 : Nat) (a3 : Nat) (a4 : Int32) (a5 : Nat) (a6 : Int32) (a7 : Int32) (a8 : Int32) (H : jH) : Option (Int32 × jH) :=
jg ((jK H a0).1 = 7) (
jg ((jK H (jR H a0 1)).1 = 4) (
jb (F_4_answer (jR H a0 1) a8 H) fun x2 h3 =>
B_7_pass_319 k90 a0 a1 a2 a3 a4 a5 a6 a7 h3))
def B_7_pass_268 (k90 : Nat → Nat → Nat → Nat → Int32 → Nat → Int32 → Int32 → jH → Option (Int32 × jH)) (a0 : Nat) (a1 : Nat) (a2 : Nat) (a3 : Nat) (a4 : Int32) (a5 : Nat) (a6 : Int32) (a7 : Int32) (s0 : Nat) (s1 : Nat) (s2 : Int32) (H : jH) : Option (Int32 × jH) :=
jg ((jK H s0).1 = 8) (
jb (F_8_holds s0 s1 s2 H) fun x4 h5 =>
B_7_pass_273 k90 a0 a1 a2 a3 a4 a5 a6 a7 x4 h5)
def B_7_pass_196 (k90 : Nat → Nat → Nat → Nat → Int32 → Nat → Int32 → Int32 → jH → Option (Int32 × jH)) (a0 : Nat) (a1 : Nat) (a2 : Nat) (a3 : Nat) (a4 : Int32) (a5 : Nat) (a6 : Int32) (a7 : Int32) (s0 : Int32) (H : jH) : Option (Int32 × jH) :=
(if (s0 : Int32) = 0 then
B_7_pass_273 k90 a0 a1 a2 a3 a4 a5 a6 a7 s0 H
else
jg ((jK H a0).1 = 7) (
jg ((jK H (jR H a0 2)).1 = 8) (
jg ((jK H a0).1 = 7) (
jb (F_7_write a0 a1 a4 a5 a6 (jI H (jR H a0 2) 0) H) fun x6 h7 =>
jg ((jK h7 a0).1 = 7) (
jg ((jK h7 a0).1 = 7) (
jg ((jK h7 a0).1 = 7) (
jg ((jK h7 a0).1 = 7) (
jg ((jK h7 (jR h7 a0 0)).1 = 3) (
jb (F_3_name (jR h7 a0 0) (jR h7 a0 3) 0 (jI h7 a0 4) (jR h7 a0 5) h7) fun x8 h9 =>
jg ((jK h9 a0).1 = 7) (
jg ((jK h9 (jR h9 a0 2)).1 = 8) (
jb (F_8_setBase (jR h9 a0 2) h9) fun x10 h11 =>
jg ((jK h11 a0).1 = 7) (
jg ((jK h11 a0).1 = 7) (
jg ((jK h11 a0).1 = 7) (
(if ¬ ((jI h11 a0 4) : Int32) = 0 then
B_7_pass_268 k90 a0 a1 a2 a3 a4 a5 a6 a7 (jR h11 a0 2) (jR h11 a0 5) 0 h11
else
B_7_pass_268 k90 a0 a1 a2 a3 a4 a5 a6 a7 (jR h11 a0 2) (jR h11 a0 5) 1 h11)))))))))))))))
def B_7_pass_195 (k90 : Nat → Nat → Nat → Nat → Int32 → Nat → Int32 → Int32 → jH → Option (Int32 × jH)) (a0 : Nat) (a1 : Nat) (a2 : Nat) (a3 : Nat) (a4 : Int32) (a5 : Nat) (a6 : Int32) (a7 : Int32) (H : jH) : Option (Int32 × jH) :=
B_7_pass_196 k90 a0 a1 a2 a3 a4 a5 a6 a7 0 H
def B_7_pass_325 (k3 : Nat → Nat → Nat → Nat → Int32 → jH → Option (Int32 × jH)) (a0 : Nat) (a1 : Nat) (a2 : Nat) (a3 : Nat) (a4 : Int32) (H : jH) : Option (Int32 × jH) :=
jg ((jK H a0).1 = 7) (
jg ((jK H (jR H a0 1)).1 = 4) (
jb (F_4_isHappy (jR H a0 1) H) fun x12 h13 =>
(if ¬ (x12 : Int32) = 0 then
jl (a4 + 1) fun x14 =>
k3 a0 a1 a2 a3 x14 h13
else
jg ((0 : Int32) = 0 ∨ (0 : Int32) = 1) (some (0, h13)))))
def B_7_pass_90 (k3 : Nat → Nat → Nat → Nat → Int32 → jH → Option (Int32 × jH)) (k90 : Nat → Nat → Nat → Nat → Int32 → Nat → Int32 → Int32 → jH → Option (Int32 × jH)) (a0 : Nat) (a1 : Nat) (a2 : Nat) (a3 : Nat) (a4 : Int32) (a5 : Nat) (a6 : Int32) (a7 : Int32) (H : jH) : Option (Int32 × jH) :=
(if (200 : Int32) ≤ (a7 : Int32) then
B_7_pass_325 k3 a0 a1 a2 a3 a4 H
else
jg ((jK H a0).1 = 7) (
jg ((jK H (jR H a0 1)).1 = 4) (
jb (F_4_run (jR H a0 1) H) fun x15 h16 =>
(if (x15 : Int32) = (2 : Int32) then
B_7_pass_325 k3 a0 a1 a2 a3 a4 h16
else
jg ((jK h16 a0).1 = 7) (
jg ((jK h16 (jR h16 a0 1)).1 = 4) (
(if ¬ ((jI h16 (jR h16 a0 1) 9) : Int32) = (3 : Int32) then
jg ((jK h16 a0).1 = 7) (
jg ((jK h16 (jR h16 a0 1)).1 = 4) (
(if ((jI h16 (jR h16 a0 1) 8) : Int32) = 0 then
jg ((jK h16 a0).1 = 7) (
jg ((jK h16 a5).1 = 10) (
jg ((jK h16 a5).1 = 10) (
jb (F_10_scriptSize a5 a6 h16) fun x17 h18 =>
jg ((jK h18 (jR h16 a0 1)).1 = 4) (
jb (F_4_openLast (jR h16 a0 1) (jR h16 a5 0) a6 x17 h18) fun x19 h20 =>
B_7_pass_319 k90 a0 a1 a2 a3 a4 a5 a6 a7 h20))))
else
B_7_pass_325 k3 a0 a1 a2 a3 a4 h16)))
else
jg ((jK h16 a0).1 = 7) (
jg ((jK h16 a0).1 = 7) (
jl (jsI h16 a0 6 ((jI h16 a0 6) + 1)) fun h21 =>
jg ((jK h21 a0).1 = 7) (
jg ((jK h21 a0).1 = 7) (
(if ((jI h21 a0 6) : Int32) ≤ ((jI h21 a0 7) : Int32) then
jg ((jK h21 a0).1 = 7) (
jg ((jK h21 a0).1 = 7) (
jg ((jK h21 (jR h21 a0 1)).1 = 4) (
jb (F_4_signature (jR h21 a0 1) h21) fun x22 h23 =>
jg ((jK h23 a0).1 = 7) (
jg ((jK h23 (jR h23 a0 1)).1 = 4) (
jb (F_4_signatureSize (jR h23 a0 1) h23) fun x24 h25 =>
jg ((jK h25 (jR h21 a0 2)).1 = 8) (
jb (F_8_setSignature (jR h21 a0 2) x22 x24 h25) fun x26 h27 =>
(if (x26 : Int32) = 0 then
B_7_pass_195 k90 a0 a1 a2 a3 a4 a5 a6 a7 h27
else
jg ((jK h27 a0).1 = 7) (
jg ((jK h27 a0).1 = 7) (
jg ((jK h27 (jR h27 a0 1)).1 = 4) (
jb (F_4_publicKey (jR h27 a0 1) h27) fun x28 h29 =>
jg ((jK h29 a0).1 = 7) (
jg ((jK h29 (jR h29 a0 1)).1 = 4) (
jb (F_4_publicKeySize (jR h29 a0 1) h29) fun x30 h31 =>
jg ((jK h31 (jR h27 a0 2)).1 = 8) (
jb (F_8_setKey (jR h27 a0 2) x28 x30 h31) fun x32 h33 =>
(if (x32 : Int32) = 0 then
B_7_pass_195 k90 a0 a1 a2 a3 a4 a5 a6 a7 h33
else
B_7_pass_196 k90 a0 a1 a2 a3 a4 a5 a6 a7 1 h33))))))))))))))
else
jg ((0 : Int32) = 0 ∨ (0 : Int32) = 1) (some (0, h21))))))))))))))
def F_7_pass_90 (k3 : Nat → Nat → Nat → Nat → Int32 → jH → Option (Int32 × jH)) : Nat → Nat → Nat → Nat → Nat → Int32 → Nat → Int32 → Int32 → jH → Option (Int32 × jH)
  | 0 => fun _ _ _ _ _ _ _ _ _ => none
  | n + 1 => fun a0 a1 a2 a3 a4 a5 a6 a7 H => B_7_pass_90 k3 (F_7_pass_90 k3 n) a0 a1 a2 a3 a4 a5 a6 a7 H
def B_7_pass_3 (k3 : Nat → Nat → Nat → Nat → Int32 → jH → Option (Int32 × jH)) (a0 : Nat) (a1 : Nat) (a2 : Nat) (a3 : Nat) (a4 : Int32) (H : jH) : Option (Int32 × jH) :=
jg ((jK H a1).1 = 10) (
jg ((jK H (jR H a1 4)).1 = 100) (
(if ((Int32.ofNat (jK H (jR H a1 4)).2) : Int32) ≤ (a4 : Int32) then
jg ((1 : Int32) = 0 ∨ (1 : Int32) = 1) (some (1, H))
else
jg ((jK H a2).1 = 113) (
(if ((Int32.ofNat (jK H a2).2) : Int32) ≤ (a4 : Int32) then
B_7_pass_34 H
else
jg ((jK H a3).1 = 100) (
(if ((Int32.ofNat (jK H a3).2) : Int32) ≤ (a4 : Int32) then
B_7_pass_34 H
else
jg ((jK H a2).1 = 113 ∧ jin (a4) (jK H a2).2) (
(if ¬ (jR H a2 (a4 : Int32).toNatClampNeg) = 0 then
jg ((jK H a2).1 = 113 ∧ jin (a4) (jK H a2).2) (
jl (jR H a2 (a4 : Int32).toNatClampNeg) fun x34 =>
jg ((jK H a3).1 = 100 ∧ jin (a4) (jK H a3).2) (
jg ((jK H x34).1 = 10) (
jb (F_10_outputScript x34 (jI H a3 (a4 : Int32).toNatClampNeg) H) fun x35 h36 =>
jg ((jK h36 a0).1 = 7) (
jg ((jK h36 (jR h36 a0 1)).1 = 4) (
jb (F_4_clear (jR h36 a0 1) h36) fun x37 h38 =>
jg ((jK h38 a0).1 = 7) (
jg ((jK h38 a1).1 = 10) (
jg ((jK h38 a1).1 = 10) (
jb (F_10_inputScript a1 a4 h38) fun x39 h40 =>
jg ((jK h40 a1).1 = 10) (
jb (F_10_inputScript a1 a4 h40) fun x41 h42 =>
jg ((jK h42 a1).1 = 10) (
jb (F_10_scriptSize a1 x41 h42) fun x43 h44 =>
jg ((jK h44 (jR h38 a0 1)).1 = 4) (
jb (F_4_open (jR h38 a0 1) (jR h38 a1 0) x39 x43 h44) fun x45 h46 =>
F_7_pass_90 k3 jfuel a0 a1 a2 a3 a4 x34 x35 0 h46)))))))))))
else
B_7_pass_34 H)))))))))
def F_7_pass_3  : Nat → Nat → Nat → Nat → Nat → Int32 → jH → Option (Int32 × jH)
  | 0 => fun _ _ _ _ _ _ => none
  | n + 1 => fun a0 a1 a2 a3 a4 H => B_7_pass_3 (F_7_pass_3  n) a0 a1 a2 a3 a4 H
def F_7_pass (a0 : Nat) (a1 : Nat) (a2 : Nat) (a3 : Nat) (H : jH) : Option (Int32 × jH) :=
F_7_pass_3 jfuel a0 a1 a2 a3 0 H
def B_10_isTooMuch_36   (H : jH) : Option (Int32 × jH) :=
jg ((1 : Int32) = 0 ∨ (1 : Int32) = 1) (some (1, H))
def B_10_isTooMuch_62  (s0 : Int32) (H : jH) : Option (Int32 × jH) :=
jg ((s0 : Int32) = 0 ∨ (s0 : Int32) = 1) (some (s0, H))
def B_10_isTooMuch_4 (k4 : Nat → Int64 → Int32 → jH → Option (Int32 × jH)) (a0 : Nat) (a1 : Int64) (a3 : Int32) (H : jH) : Option (Int32 × jH) :=
jg ((jK H a0).1 = 10) (
jg ((jK H (jR H a0 5)).1 = 100) (
(if ((Int32.ofNat (jK H (jR H a0 5)).2) : Int32) ≤ (a3 : Int32) then
(if (a1 : Int64) ≤ 2100000000000000 then
B_10_isTooMuch_62 0 H
else
B_10_isTooMuch_62 1 H)
else
jg ((jK H a0).1 = 10) (
jb (F_10_worth a0 a3 H) fun x1 h2 =>
(if (x1 : Int64) < 0 then
B_10_isTooMuch_36 h2
else
(if (x1 : Int64) ≤ 2100000000000000 then
jl (a1 + x1) fun x3 =>
jl (a3 + 1) fun x4 =>
k4 a0 x3 x4 h2
else
B_10_isTooMuch_36 h2))))))
def F_10_isTooMuch_4  : Nat → Nat → Int64 → Int32 → jH → Option (Int32 × jH)
  | 0 => fun _ _ _ _ => none
  | n + 1 => fun a0 a1 a3 H => B_10_isTooMuch_4 (F_10_isTooMuch_4  n) a0 a1 a3 H
def F_10_isTooMuch (a0 : Nat) (H : jH) : Option (Int32 × jH) :=
F_10_isTooMuch_4 jfuel a0 0 0 H
def B_10_fault_16   (H : jH) : Option (Int32 × jH) :=
some (2, H)
def B_10_fault_86 (k40 : Nat → Int32 → Int32 → jH → Option (Int32 × jH)) (a0 : Nat) (a1 : Int32) (a2 : Int32) (H : jH) : Option (Int32 × jH) :=
jl (a2 + 1) fun x1 =>
k40 a0 a1 x1 H
def B_10_fault_40 (k29 : Nat → Int32 → jH → Option (Int32 × jH)) (k40 : Nat → Int32 → Int32 → jH → Option (Int32 × jH)) (a0 : Nat) (a1 : Int32) (a2 : Int32) (H : jH) : Option (Int32 × jH) :=
(if (a1 : Int32) ≤ (a2 : Int32) then
jl (a1 + 1) fun x2 =>
k29 a0 x2 H
else
jg ((jK H a0).1 = 10) (
jb (F_10_index a0 a1 H) fun x3 h4 =>
jg ((jK h4 a0).1 = 10) (
jb (F_10_index a0 a2 h4) fun x5 h6 =>
(if ¬ (x3 : Int32) = (x5 : Int32) then
B_10_fault_86 k40 a0 a1 a2 h6
else
jg ((jK h6 a0).1 = 10) (
jg ((jK h6 a0).1 = 10) (
jg ((jK h6 (jR h6 a0 4)).1 = 100 ∧ jin (a1) (jK h6 (jR h6 a0 4)).2) (
jg ((jK h6 a0).1 = 10) (
jg ((jK h6 a0).1 = 10) (
jg ((jK h6 (jR h6 a0 4)).1 = 100 ∧ jin (a2) (jK h6 (jR h6 a0 4)).2) (
jb (F_3_same (jR h6 a0 0) (jI h6 (jR h6 a0 4) (a1 : Int32).toNatClampNeg) (jR h6 a0 0) (jI h6 (jR h6 a0 4) (a2 : Int32).toNatClampNeg) h6) fun x7 h8 =>
(if (x7 : Int32) = 0 then
B_10_fault_86 k40 a0 a1 a2 h8
else
some (4, h8))))))))))))
def F_10_fault_40 (k29 : Nat → Int32 → jH → Option (Int32 × jH)) : Nat → Nat → Int32 → Int32 → jH → Option (Int32 × jH)
  | 0 => fun _ _ _ _ => none
  | n + 1 => fun a0 a1 a2 H => B_10_fault_40 k29 (F_10_fault_40 k29 n) a0 a1 a2 H
def B_10_fault_29 (k29 : Nat → Int32 → jH → Option (Int32 × jH)) (a0 : Nat) (a1 : Int32) (H : jH) : Option (Int32 × jH) :=
jg ((jK H a0).1 = 10) (
jg ((jK H (jR H a0 4)).1 = 100) (
(if ((Int32.ofNat (jK H (jR H a0 4)).2) : Int32) ≤ (a1 : Int32) then
some (0, H)
else
F_10_fault_40 k29 jfuel a0 a1 0 H)))
def F_10_fault_29  : Nat → Nat → Int32 → jH → Option (Int32 × jH)
  | 0 => fun _ _ _ => none
  | n + 1 => fun a0 a1 H => B_10_fault_29 (F_10_fault_29  n) a0 a1 H
def F_10_fault (a0 : Nat) (H : jH) : Option (Int32 × jH) :=
jg ((jK H a0).1 = 10) (
jg ((jK H (jR H a0 4)).1 = 100) (
(if ((Int32.ofNat (jK H (jR H a0 4)).2) : Int32) = 0 then
B_10_fault_16 H
else
jg ((jK H a0).1 = 10) (
jg ((jK H (jR H a0 5)).1 = 100) (
(if ¬ ((Int32.ofNat (jK H (jR H a0 5)).2) : Int32) = 0 then
jg ((jK H a0).1 = 10) (
jb (F_10_isTooMuch a0 H) fun x9 h10 =>
(if (x9 : Int32) = 0 then
F_10_fault_29 jfuel a0 0 h10
else
some (3, h10)))
else
B_10_fault_16 H))))))
def B_6_offer_113  (a4 : Int32) (H : jH) : Option (Int32 × jH) :=
some (a4, H)
def B_6_offer_177  (s0 : Int32) (H : jH) : Option (Int32 × jH) :=
some (s0, H)
def B_6_offer_176   (H : jH) : Option (Int32 × jH) :=
B_6_offer_177 0 H
def B_6_offer_99  (a0 : Nat) (a1 : Nat) (a4 : Int32) (H : jH) : Option (Int32 × jH) :=
(if ¬ (a4 : Int32) = 0 then
B_6_offer_113 a4 H
else
jg ((jK H a0).1 = 6) (
(if ((jI H a0 4) : Int32) ≤ (40 : Int32) then
jg ((jK H a0).1 = 6) (
jg ((jK H a0).1 = 6) (
jg ((jK H (jR H a0 2)).1 = 113 ∧ jin ((jI H a0 4)) (jK H (jR H a0 2)).2 ∧ (a1 = 0 ∨ (jK H a1).1 = 10)) (
jl (jsR H (jR H a0 2) ((jI H a0 4) : Int32).toNatClampNeg a1) fun h1 =>
jg ((jK h1 a0).1 = 6) (
jg ((jK h1 a0).1 = 6) (
jg ((jK h1 a0).1 = 6) (
jg ((jK h1 a1).1 = 10) (
jg ((jK h1 (jR h1 a0 3)).1 = 103 ∧ jin ((jI h1 a0 4)) (jK h1 (jR h1 a0 3)).2) (
jl (jsL h1 (jR h1 a0 3) ((jI h1 a0 4) : Int32).toNatClampNeg ((jL h1 a0 9) - (jL h1 a1 6))) fun h2 =>
jg ((jK h2 a0).1 = 6) (
jg ((jK h2 a0).1 = 6) (
jl (jsI h2 a0 4 ((jI h2 a0 4) + 1)) fun h3 =>
jg ((jK h3 a0).1 = 6) (
(if ((jI h3 a0 4) : Int32) ≤ (40 : Int32) then
B_6_offer_176 h3
else
jg ((jK h3 a0).1 = 6) (
jb (F_6_dropLeast a0 a1 h3) fun x4 h5 =>
(if (x4 : Int32) = 0 then
B_6_offer_176 h5
else
B_6_offer_177 11 h5))))))))))))))
else
B_6_offer_113 a4 H)))
def B_6_offer_87  (a0 : Nat) (a1 : Nat) (a4 : Int32) (H : jH) : Option (Int32 × jH) :=
(if ¬ (a4 : Int32) = 0 then
B_6_offer_99 a0 a1 a4 H
else
jg ((jK H a0).1 = 6) (
jb (F_6_knot a0 a1 H) fun x6 h7 =>
B_6_offer_99 a0 a1 x6 h7))
def B_6_offer_85  (a0 : Nat) (a1 : Nat) (s0 : Int32) (H : jH) : Option (Int32 × jH) :=
B_6_offer_87 a0 a1 s0 H
def B_6_offer_42  (a0 : Nat) (a1 : Nat) (a3 : Int32) (a4 : Int32) (H : jH) : Option (Int32 × jH) :=
(if ¬ (a4 : Int32) = 0 then
B_6_offer_87 a0 a1 a4 H
else
(if (a3 : Int32) = 0 then
B_6_offer_87 a0 a1 a4 H
else
jg ((jK H a0).1 = 6) (
jg ((jK H (jR H a0 1)).1 = 7) (
jb (F_7_begin (jR H a0 1) 8 H) fun x8 h9 =>
jg ((jK h9 a0).1 = 6) (
jg ((jK h9 a0).1 = 6) (
jg ((jK h9 a0).1 = 6) (
jg ((jK h9 (jR h9 a0 1)).1 = 7) (
jb (F_7_pass (jR h9 a0 1) a1 (jR h9 a0 7) (jR h9 a0 8) h9) fun x10 h11 =>
(if (x10 : Int32) = 0 then
B_6_offer_85 a0 a1 10 h11
else
B_6_offer_85 a0 a1 0 h11)))))))))
def B_6_offer_29  (a0 : Nat) (a1 : Nat) (a2 : Int32) (a3 : Int32) (a4 : Int32) (H : jH) : Option (Int32 × jH) :=
(if ¬ (a4 : Int32) = 0 then
B_6_offer_42 a0 a1 a3 a4 H
else
jg ((jK H a0).1 = 6) (
jb (F_6_take a0 a1 a2 H) fun x12 h13 =>
B_6_offer_42 a0 a1 a3 x12 h13))
def B_6_offer_27  (a0 : Nat) (a1 : Nat) (a2 : Int32) (a3 : Int32) (s0 : Int32) (H : jH) : Option (Int32 × jH) :=
B_6_offer_29 a0 a1 a2 a3 s0 H
def F_6_offer (a0 : Nat) (a1 : Nat) (a2 : Int32) (a3 : Int32) (H : jH) : Option (Int32 × jH) :=
jg ((jK H a1).1 = 10) (
jb (F_10_fault a1 H) fun x14 h15 =>
(if ¬ (x14 : Int32) = 0 then
B_6_offer_29 a0 a1 a2 a3 x14 h15
else
jg ((jK h15 a1).1 = 10) (
(if ((jI h15 a1 7) : Int32) = 0 then
jg ((jK h15 a0).1 = 6) (
jb (F_6_clash a0 a1 h15) fun x16 h17 =>
B_6_offer_27 a0 a1 a2 a3 x16 h17)
else
B_6_offer_27 a0 a1 a2 a3 5 h15))))
def F_10_init (a0 : Nat) (a1 : Nat) (a2 : Int32) (H : jH) : Option (Unit × jH) :=
jg (jF0 ≤ a0) (
jg (jgn (32)) (
jnw H 101 (32 : Int32).toNatClampNeg fun r1 h2 =>
jg ((jK h2 a0).1 = 10) (
jl (jsR h2 a0 3 r1) fun h3 =>
jg (jgn (0)) (
jnw h3 100 (0 : Int32).toNatClampNeg fun r4 h5 =>
jg ((jK h5 a0).1 = 10) (
jl (jsR h5 a0 4 r4) fun h6 =>
jg (jgn (0)) (
jnw h6 100 (0 : Int32).toNatClampNeg fun r7 h8 =>
jg ((jK h8 a0).1 = 10) (
jl (jsR h8 a0 5 r7) fun h9 =>
jg ((jK h9 a0).1 = 10) (
jl (jsR h9 a0 0 a1) fun h10 =>
jg ((jK h10 a0).1 = 10) (
jl (jsI h10 a0 1 a2) fun h11 =>
some ((), h11))))))))))
def B_10_isRootInput_47   (H : jH) : Option (Int32 × jH) :=
jg ((0 : Int32) = 0 ∨ (0 : Int32) = 1) (some (0, H))
def B_10_isRootInput_19 (k2 : Nat → Int32 → Int32 → jH → Option (Int32 × jH)) (a0 : Nat) (a1 : Int32) (a2 : Int32) (s0 : Int32) (H : jH) : Option (Int32 × jH) :=
(if (a1 : Int32) < 0 then
B_10_isRootInput_47 H
else
jg ((jK H a0).1 = 10) (
jg ((jK H (jR H a0 0)).1 = 101) (
(if ((Int32.ofNat (jK H (jR H a0 0)).2) : Int32) ≤ ((a1 + a2) : Int32) then
B_10_isRootInput_47 H
else
jg ((jK H a0).1 = 10) (
jg ((jK H (jR H a0 0)).1 = 101 ∧ jin ((a1 + a2)) (jK H (jR H a0 0)).2) (
(if ((jbs (jB H (jR H a0 0) ((a1 + a2) : Int32).toNatClampNeg)) : Int32) = (s0 : Int32) then
jl (a2 + 1) fun x1 =>
k2 a0 a1 x1 H
else
B_10_isRootInput_47 H)))))))
def B_10_isRootInput_2 (k2 : Nat → Int32 → Int32 → jH → Option (Int32 × jH)) (a0 : Nat) (a1 : Int32) (a2 : Int32) (H : jH) : Option (Int32 × jH) :=
(if (36 : Int32) ≤ (a2 : Int32) then
jg ((1 : Int32) = 0 ∨ (1 : Int32) = 1) (some (1, H))
else
(if (32 : Int32) ≤ (a2 : Int32) then
B_10_isRootInput_19 k2 a0 a1 a2 (-1) H
else
B_10_isRootInput_19 k2 a0 a1 a2 0 H))
def F_10_isRootInput_2  : Nat → Nat → Int32 → Int32 → jH → Option (Int32 × jH)
  | 0 => fun _ _ _ _ => none
  | n + 1 => fun a0 a1 a2 H => B_10_isRootInput_2 (F_10_isRootInput_2  n) a0 a1 a2 H
def F_10_isRootInput (a0 : Nat) (a1 : Int32) (H : jH) : Option (Int32 × jH) :=
F_10_isRootInput_2 jfuel a0 a1 0 H
def B_10_sizeAt_10   (H : jH) : Option (Int32 × jH) :=
some ((-1), H)
def B_10_sizeAt_30  (s0 : Int32) (H : jH) : Option (Int32 × jH) :=
some (s0, H)
def F_10_sizeAt (a0 : Nat) (a1 : Int32) (a2 : Int32) (H : jH) : Option (Int32 × jH) :=
(if (a1 : Int32) < 0 then
B_10_sizeAt_10 H
else
jg ((jK H a0).1 = 101) (
(if (a1 : Int32) < ((Int32.ofNat (jK H a0).2) : Int32) then
jg ((jK H a0).1 = 101 ∧ jin (a1) (jK H a0).2) (
jl ((jbs (jB H a0 (a1 : Int32).toNatClampNeg)) &&& 255) fun x1 =>
(if (x1 : Int32) ≤ (a2 : Int32) then
B_10_sizeAt_30 x1 H
else
B_10_sizeAt_30 (-1) H))
else
B_10_sizeAt_10 H)))
def B_10_readInputs_32 (k32 : Nat → Int32 → Int32 → Int32 → jH → Option (Int32 × jH)) (a0 : Nat) (a2 : Int32) (a3 : Int32) (a4 : Int32) (H : jH) : Option (Int32 × jH) :=
(if (a2 : Int32) ≤ (a4 : Int32) then
some (a3, H)
else
jg ((jK H a0).1 = 10) (
jb (F_10_sizeAt (jR H a0 0) (a3 + 36) 200 H) fun x1 h2 =>
(if ¬ (x1 : Int32) = ((-1) : Int32) then
jg ((jK h2 a0).1 = 10) (
jg ((jK h2 (jR h2 a0 4)).1 = 100 ∧ jF0 ≤ (jR h2 a0 4) ∧ jin (a4) (jK h2 (jR h2 a0 4)).2) (
jl (jsI h2 (jR h2 a0 4) (a4 : Int32).toNatClampNeg a3) fun h3 =>
jg ((jK h3 a0).1 = 10) (
jg ((jK h3 a0).1 = 10) (
jb (F_10_isRootInput a0 a3 h3) fun x4 h5 =>
jg ((jK h5 a0).1 = 10 ∧ ((((jI h3 a0 7) ||| x4) : Int32) = 0 ∨ (((jI h3 a0 7) ||| x4) : Int32) = 1)) (
jl (jsI h5 a0 7 ((jI h3 a0 7) ||| x4)) fun h6 =>
jl (a3 + ((37 + x1) + 4)) fun x7 =>
jl (a4 + 1) fun x8 =>
k32 a0 a2 x7 x8 h6)))))
else
some ((-1), h2))))
def F_10_readInputs_32  : Nat → Nat → Int32 → Int32 → Int32 → jH → Option (Int32 × jH)
  | 0 => fun _ _ _ _ _ => none
  | n + 1 => fun a0 a2 a3 a4 H => B_10_readInputs_32 (F_10_readInputs_32  n) a0 a2 a3 a4 H
def F_10_readInputs (a0 : Nat) (a1 : Int32) (H : jH) : Option (Int32 × jH) :=
jg ((jK H a0).1 = 10) (
jb (F_10_sizeAt (jR H a0 0) a1 8 H) fun x9 h10 =>
(if ¬ (x9 : Int32) = ((-1) : Int32) then
jg (jgn (x9)) (
jnw h10 100 (x9 : Int32).toNatClampNeg fun r11 h12 =>
jg ((jK h12 a0).1 = 10) (
jl (jsR h12 a0 4 r11) fun h13 =>
jl (a1 + 1) fun x14 =>
F_10_readInputs_32 jfuel a0 x9 x14 0 h13))
else
some ((-1), h10)))
def B_10_readOutputs_32 (k32 : Nat → Int32 → Int32 → Int32 → jH → Option (Int32 × jH)) (a0 : Nat) (a2 : Int32) (a3 : Int32) (a4 : Int32) (H : jH) : Option (Int32 × jH) :=
(if (a2 : Int32) ≤ (a4 : Int32) then
some (a3, H)
else
jg ((jK H a0).1 = 10) (
jb (F_10_sizeAt (jR H a0 0) (a3 + 8) 200 H) fun x1 h2 =>
(if ¬ (x1 : Int32) = ((-1) : Int32) then
jg ((jK h2 a0).1 = 10) (
jg ((jK h2 (jR h2 a0 5)).1 = 100 ∧ jF0 ≤ (jR h2 a0 5) ∧ jin (a4) (jK h2 (jR h2 a0 5)).2) (
jl (jsI h2 (jR h2 a0 5) (a4 : Int32).toNatClampNeg a3) fun h3 =>
jg ((jK h3 a0).1 = 10) (
jg ((jK h3 a0).1 = 10) (
jb (F_10_worth a0 a4 h3) fun x4 h5 =>
jg ((jK h5 a0).1 = 10) (
jl (jsL h5 a0 6 ((jL h3 a0 6) + x4)) fun h6 =>
jl (a3 + (9 + x1)) fun x7 =>
jl (a4 + 1) fun x8 =>
k32 a0 a2 x7 x8 h6)))))
else
some ((-1), h2))))
def F_10_readOutputs_32  : Nat → Nat → Int32 → Int32 → Int32 → jH → Option (Int32 × jH)
  | 0 => fun _ _ _ _ _ => none
  | n + 1 => fun a0 a2 a3 a4 H => B_10_readOutputs_32 (F_10_readOutputs_32  n) a0 a2 a3 a4 H
def F_10_readOutputs (a0 : Nat) (a1 : Int32) (H : jH) : Option (Int32 × jH) :=
jg ((jK H a0).1 = 10) (
jb (F_10_sizeAt (jR H a0 0) a1 8 H) fun x9 h10 =>
(if ¬ (x9 : Int32) = ((-1) : Int32) then
jg (jgn (x9)) (
jnw h10 100 (x9 : Int32).toNatClampNeg fun r11 h12 =>
jg ((jK h12 a0).1 = 10) (
jl (jsR h12 a0 5 r11) fun h13 =>
jl (a1 + 1) fun x14 =>
F_10_readOutputs_32 jfuel a0 x9 x14 0 h13))
else
some ((-1), h10)))
def B_10_read_46   (H : jH) : Option (Nat × jH) :=
some (0, H)
def B_10_read_32  (a0 : Nat) (a1 : Int32) (a2 : Nat) (s0 : Int32) (H : jH) : Option (Nat × jH) :=
(if (s0 : Int32) = ((-1) : Int32) then
B_10_read_46 H
else
jg ((jK H a0).1 = 101) (
(if ((s0 + 4) : Int32) ≤ ((Int32.ofNat (jK H a0).2) : Int32) then
jg ((jK H a2).1 = 10) (
jl (jsI H a2 2 ((s0 + 4) - a1)) fun h1 =>
some (a2, h1))
else
B_10_read_46 H)))
def F_10_read (a0 : Nat) (a1 : Int32) (H : jH) : Option (Nat × jH) :=
jnw H 10 8 fun r2 h3 =>
jg (jF0 ≤ r2) (
jb (F_10_init r2 a0 a1 h3) fun x4 h5 =>
jg ((jK h5 r2).1 = 10) (
jb (F_10_readInputs r2 (a1 + 4) h5) fun x6 h7 =>
(if ¬ (x6 : Int32) = ((-1) : Int32) then
jg ((jK h7 r2).1 = 10) (
jb (F_10_readOutputs r2 x6 h7) fun x8 h9 =>
B_10_read_32 a0 a1 r2 x8 h9)
else
B_10_read_32 a0 a1 r2 (-1) h7)))
def B_11_takeTransaction_21  (a0 : Nat) (a1 : Int32) (H : jH) : Option (Unit × jH) :=
jg ((jK H a0).1 = 11) (
jb (F_11_answerVerdict a0 a1 1 0 H) fun x1 h2 =>
some ((), h2))
def B_11_takeTransaction_95   (H : jH) : Option (Unit × jH) :=
some ((), H)
def F_11_takeTransaction (a0 : Nat) (a1 : Int32) (a2 : Nat) (H : jH) : Option (Unit × jH) :=
jb (F_10_read a2 1 H) fun x3 h4 =>
(if x3 = 0 then
B_11_takeTransaction_21 a0 a1 h4
else
jg ((jK h4 x3).1 = 10) (
jg ((jK h4 a2).1 = 101) (
(if ((1 + (jI h4 x3 2)) : Int32) = ((Int32.ofNat (jK h4 a2).2) : Int32) then
jg ((jK h4 a0).1 = 11) (
jg ((jK h4 x3).1 = 10) (
jg ((jK h4 x3).1 = 10) (
jg ((jK h4 (jR h4 a0 9)).1 = 3) (
jb (F_3_name (jR h4 a0 9) a2 1 (jI h4 x3 2) (jR h4 x3 3) h4) fun x5 h6 =>
jg ((jK h6 a0).1 = 11) (
jg ((jK h6 a0).1 = 11) (
jg ((jK h6 (jR h6 a0 12)).1 = 1) (
jg ((jK h6 (jR h6 (jR h6 a0 12) 6)).1 = 0) (
jg ((jK h6 (jR h6 a0 13)).1 = 6) (
jb (F_6_offer (jR h6 a0 13) x3 ((jI h6 (jR h6 (jR h6 a0 12) 6) 6) + 1) 1 h6) fun x7 h8 =>
jg ((jK h8 x3).1 = 10) (
jg ((jK h8 a0).1 = 11) (
jb (F_11_answerVerdict a0 a1 x7 (jR h8 x3 3) h8) fun x9 h10 =>
(if ¬ (x7 : Int32) = 0 then
B_11_takeTransaction_95 h10
else
jg ((jK h10 x3).1 = 10) (
jg ((jK h10 a0).1 = 11) (
jb (F_11_tellOthers a0 a1 1 (jR h10 x3 3) h10) fun x11 h12 =>
B_11_takeTransaction_95 h12))))))))))))))
else
B_11_takeTransaction_21 a0 a1 h4))))
def B_0_read_39 (k39 : Nat → Nat → Int32 → Nat → Int32 → Int32 → jH → Option (Nat × jH)) (a0 : Nat) (a1 : Nat) (a2 : Int32) (a3 : Nat) (a4 : Int32) (a5 : Int32) (H : jH) : Option (Nat × jH) :=
(if (a2 : Int32) ≤ (a5 : Int32) then
jg ((jK H a0).1 = 101) (
(if (a4 : Int32) = ((Int32.ofNat (jK H a0).2) : Int32) then
jg ((jK H a3).1 = 0) (
jg ((jK H a1).1 = 3) (
jb (F_3_name a1 a0 1 80 (jR H a3 1) H) fun x1 h2 =>
some (a3, h2)))
else
some (0, H)))
else
jb (F_10_read a0 a4 H) fun x3 h4 =>
(if ¬ x3 = 0 then
jg ((jK h4 x3).1 = 10) (
jg ((jK h4 x3).1 = 10) (
jg ((jK h4 a1).1 = 3) (
jb (F_3_name a1 a0 a4 (jI h4 x3 2) (jR h4 x3 3) h4) fun x5 h6 =>
jg ((jK h6 a3).1 = 0) (
jg ((jK h6 (jR h6 a3 4)).1 = 113 ∧ jin (a5) (jK h6 (jR h6 a3 4)).2 ∧ (x3 = 0 ∨ (jK h6 x3).1 = 10)) (
jl (jsR h6 (jR h6 a3 4) (a5 : Int32).toNatClampNeg x3) fun h7 =>
jg ((jK h7 x3).1 = 10) (
jl (a4 + (jI h7 x3 2)) fun x8 =>
jl (a5 + 1) fun x9 =>
k39 a0 a1 a2 a3 x8 x9 h7))))))
else
some (0, h4)))
def F_0_read_39  : Nat → Nat → Nat → Int32 → Nat → Int32 → Int32 → jH → Option (Nat × jH)
  | 0 => fun _ _ _ _ _ _ _ => none
  | n + 1 => fun a0 a1 a2 a3 a4 a5 H => B_0_read_39 (F_0_read_39  n) a0 a1 a2 a3 a4 a5 H
def F_0_read (a0 : Nat) (a1 : Nat) (H : jH) : Option (Nat × jH) :=
jb (F_10_sizeAt a0 81 12 H) fun x10 h11 =>
(if 0 ≤ (x10 : Int32) then
jnw h11 0 9 fun r12 h13 =>
jg (jF0 ≤ r12) (
jb (F_0_init r12 a0 h13) fun x14 h15 =>
jg (jgn (x10)) (
jnw h15 113 (x10 : Int32).toNatClampNeg fun r16 h17 =>
jg ((jK h17 r12).1 = 0) (
jl (jsR h17 r12 4 r16) fun h18 =>
F_0_read_39 jfuel a0 a1 x10 r12 82 0 h18)))
else
some (0, h11))
def B_1_compare_48  (s0 : Int32) (H : jH) : Option (Int32 × jH) :=
some (s0, H)
def B_1_compare_10 (k10 : Nat → Nat → Int32 → jH → Option (Int32 × jH)) (a0 : Nat) (a1 : Nat) (a2 : Int32) (H : jH) : Option (Int32 × jH) :=
(if (a2 : Int32) < 0 then
some (0, H)
else
jg ((jK H a0).1 = 100 ∧ jin (a2) (jK H a0).2) (
jg ((jK H a1).1 = 100 ∧ jin (a2) (jK H a1).2) (
(if ((jI H a0 (a2 : Int32).toNatClampNeg) : Int32) = ((jI H a1 (a2 : Int32).toNatClampNeg) : Int32) then
jl (a2 + (-1)) fun x1 =>
k10 a0 a1 x1 H
else
jg ((jK H a0).1 = 100 ∧ jin (a2) (jK H a0).2) (
jg ((jK H a1).1 = 100 ∧ jin (a2) (jK H a1).2) (
(if ((Int32.toInt64 (jI H a1 (a2 : Int32).toNatClampNeg)) &&& 4294967295) ≤ (((Int32.toInt64 (jI H a0 (a2 : Int32).toNatClampNeg)) &&& 4294967295) : Int64) then
B_1_compare_48 1 H
else
B_1_compare_48 (-1) H)))))))
def F_1_compare_10  : Nat → Nat → Nat → Int32 → jH → Option (Int32 × jH)
  | 0 => fun _ _ _ _ => none
  | n + 1 => fun a0 a1 a2 H => B_1_compare_10 (F_1_compare_10  n) a0 a1 a2 H
def F_1_compare (a0 : Nat) (a1 : Nat) (H : jH) : Option (Int32 × jH) :=
jg ((jK H a0).1 = 100) (
jg ((jK H a1).1 = 100) (
jl ((jminI (Int32.ofNat (jK H a0).2) (Int32.ofNat (jK H a1).2)) - 1) fun x2 =>
F_1_compare_10 jfuel a0 a1 x2 H))
def B_1_best_53 (k7 : Nat → Nat → Int32 → jH → Option (Nat × jH)) (a0 : Nat) (a1 : Nat) (a2 : Int32) (H : jH) : Option (Nat × jH) :=
jl (a2 + 1) fun x1 =>
k7 a0 a1 x1 H
def B_1_best_44 (k7 : Nat → Nat → Int32 → jH → Option (Nat × jH)) (a0 : Nat) (a1 : Nat) (a2 : Int32) (a3 : Nat) (s0 : Int32) (H : jH) : Option (Nat × jH) :=
(if (s0 : Int32) ≤ 0 then
B_1_best_53 k7 a0 a1 a2 H
else
B_1_best_53 k7 a0 a3 a2 H)
def B_1_best_7 (k7 : Nat → Nat → Int32 → jH → Option (Nat × jH)) (a0 : Nat) (a1 : Nat) (a2 : Int32) (H : jH) : Option (Nat × jH) :=
jg ((jK H a0).1 = 1) (
(if ((jI H a0 4) : Int32) ≤ (a2 : Int32) then
some (a1, H)
else
jg ((jK H a0).1 = 1) (
jg ((jK H (jR H a0 3)).1 = 114 ∧ jin (a2) (jK H (jR H a0 3)).2) (
jl (jR H (jR H a0 3) (a2 : Int32).toNatClampNeg) fun x2 =>
jg ((jK H x2).1 = 0) (
(if ((jI H x2 7) : Int32) = 0 then
jg ((jK H x2).1 = 0) (
jg ((jK H a1).1 = 0) (
jb (F_1_compare (jR H x2 8) (jR H a1 8) H) fun x3 h4 =>
B_1_best_44 k7 a0 a1 a2 x2 x3 h4))
else
B_1_best_44 k7 a0 a1 a2 x2 (-1) H))))))
def F_1_best_7  : Nat → Nat → Nat → Int32 → jH → Option (Nat × jH)
  | 0 => fun _ _ _ _ => none
  | n + 1 => fun a0 a1 a2 H => B_1_best_7 (F_1_best_7  n) a0 a1 a2 H
def F_1_best (a0 : Nat) (H : jH) : Option (Nat × jH) :=
jg ((jK H a0).1 = 1) (
jl (jR H a0 6) fun x5 =>
F_1_best_7 jfuel a0 x5 0 H)
def B_1_condemn_66 (k12 : Nat → Int32 → jH → Option (Unit × jH)) (a0 : Nat) (a2 : Int32) (H : jH) : Option (Unit × jH) :=
jl (a2 + 1) fun x1 =>
k12 a0 x1 H
def B_1_condemn_49 (k12 : Nat → Int32 → jH → Option (Unit × jH)) (a0 : Nat) (a2 : Int32) (a3 : Nat) (H : jH) : Option (Unit × jH) :=
jg ((jK H a3).1 = 0) (
(if ((jI H a3 7) : Int32) = 0 then
B_1_condemn_66 k12 a0 a2 H
else
jg ((jK H a0).1 = 1) (
jg ((jK H a0).1 = 1) (
jl (jsI H a0 5 ((jI H a0 5) + 1)) fun h2 =>
B_1_condemn_66 k12 a0 a2 h2))))
def B_1_condemn_12 (k12 : Nat → Int32 → jH → Option (Unit × jH)) (a0 : Nat) (a2 : Int32) (H : jH) : Option (Unit × jH) :=
jg ((jK H a0).1 = 1) (
(if ((jI H a0 4) : Int32) ≤ (a2 : Int32) then
some ((), H)
else
jg ((jK H a0).1 = 1) (
jg ((jK H (jR H a0 3)).1 = 114 ∧ jin (a2) (jK H (jR H a0 3)).2) (
jl (jR H (jR H a0 3) (a2 : Int32).toNatClampNeg) fun x3 =>
jg ((jK H x3).1 = 0) (
(if (jR H x3 5) = 0 then
B_1_condemn_49 k12 a0 a2 x3 H
else
jg ((jK H x3).1 = 0) (
jg ((jK H (jR H x3 5)).1 = 0) (
(if ((jI H (jR H x3 5) 7) : Int32) = 0 then
B_1_condemn_49 k12 a0 a2 x3 H
else
jg ((jK H x3).1 = 0 ∧ ((1 : Int32) = 0 ∨ (1 : Int32) = 1)) (
jl (jsI H x3 7 1) fun h4 =>
B_1_condemn_49 k12 a0 a2 x3 h4))))))))))
def F_1_condemn_12  : Nat → Nat → Int32 → jH → Option (Unit × jH)
  | 0 => fun _ _ _ => none
  | n + 1 => fun a0 a2 H => B_1_condemn_12 (F_1_condemn_12  n) a0 a2 H
def F_1_condemn (a0 : Nat) (a1 : Nat) (H : jH) : Option (Unit × jH) :=
jg ((jK H a1).1 = 0 ∧ ((1 : Int32) = 0 ∨ (1 : Int32) = 1)) (
jl (jsI H a1 7 1) fun h5 =>
jg ((jK h5 a0).1 = 1) (
jl (jsI h5 a0 5 0) fun h6 =>
F_1_condemn_12 jfuel a0 0 h6))
def B_1_layWay_57 (k4 : Nat → Nat → Int32 → jH → Option (Int32 × jH)) (a0 : Nat) (a2 : Nat) (a3 : Int32) (H : jH) : Option (Int32 × jH) :=
jg ((jK H a2).1 = 0) (
jl (jR H a2 5) fun x1 =>
jl (a3 + 1) fun x2 =>
k4 a0 x1 x2 H)
def B_1_layWay_68  (a2 : Nat) (H : jH) : Option (Int32 × jH) :=
jg ((jK H a2).1 = 0) (
some ((jI H a2 6), H))
def B_1_layWay_4 (k4 : Nat → Nat → Int32 → jH → Option (Int32 × jH)) (a0 : Nat) (a2 : Nat) (a3 : Int32) (H : jH) : Option (Int32 × jH) :=
(if (300 : Int32) ≤ (a3 : Int32) then
B_1_layWay_68 a2 H
else
jg ((jK H a2).1 = 0) (
(if (jR H a2 5) = 0 then
B_1_layWay_68 a2 H
else
jg ((jK H a2).1 = 0) (
jg ((jK H a0).1 = 1) (
jb (F_1_at a0 (jI H a2 6) H) fun x3 h4 =>
jg ((x3 = 0 ∨ jF0 ≤ x3) ∧ (a2 = 0 ∨ jF0 ≤ a2)) (
(if x3 = a2 then
B_1_layWay_68 a2 h4
else
jg ((jK h4 a2).1 = 0) (
(if ((jI h4 a2 6) : Int32) < 0 then
B_1_layWay_57 k4 a0 a2 a3 h4
else
jg ((jK h4 a2).1 = 0) (
(if (300 : Int32) ≤ ((jI h4 a2 6) : Int32) then
B_1_layWay_57 k4 a0 a2 a3 h4
else
jg ((jK h4 a0).1 = 1) (
jg ((jK h4 a2).1 = 0) (
jg ((jK h4 (jR h4 a0 8)).1 = 114 ∧ jin ((jI h4 a2 6)) (jK h4 (jR h4 a0 8)).2 ∧ (a2 = 0 ∨ (jK h4 a2).1 = 0)) (
jl (jsR h4 (jR h4 a0 8) ((jI h4 a2 6) : Int32).toNatClampNeg a2) fun h5 =>
B_1_layWay_57 k4 a0 a2 a3 h5))))))))))))))
def F_1_layWay_4  : Nat → Nat → Nat → Int32 → jH → Option (Int32 × jH)
  | 0 => fun _ _ _ _ => none
  | n + 1 => fun a0 a2 a3 H => B_1_layWay_4 (F_1_layWay_4  n) a0 a2 a3 H
def F_1_layWay (a0 : Nat) (a1 : Nat) (H : jH) : Option (Int32 × jH) :=
F_1_layWay_4 jfuel a0 a1 0 H
def B_1_move_90  (a0 : Nat) (a2 : Nat) (H : jH) : Option (Unit × jH) :=
jg ((jK H a0).1 = 1) (
jl (jsR H a0 6 a2) fun h1 =>
some ((), h1))
def B_1_move_57 (k57 : Nat → Nat → Int32 → jH → Option (Unit × jH)) (a0 : Nat) (a2 : Nat) (a3 : Int32) (H : jH) : Option (Unit × jH) :=
jg ((jK H a2).1 = 0) (
(if ((jI H a2 6) : Int32) < (a3 : Int32) then
B_1_move_90 a0 a2 H
else
(if (300 : Int32) ≤ (a3 : Int32) then
B_1_move_90 a0 a2 H
else
jg ((jK H a0).1 = 1) (
jg ((jK H a0).1 = 1) (
jg ((jK H (jR H a0 8)).1 = 114 ∧ jin (a3) (jK H (jR H a0 8)).2) (
jg ((jK H (jR H a0 7)).1 = 114 ∧ jin (a3) (jK H (jR H a0 7)).2 ∧ ((jR H (jR H a0 8) (a3 : Int32).toNatClampNeg) = 0 ∨ (jK H (jR H (jR H a0 8) (a3 : Int32).toNatClampNeg)).1 = 0)) (
jl (jsR H (jR H a0 7) (a3 : Int32).toNatClampNeg (jR H (jR H a0 8) (a3 : Int32).toNatClampNeg)) fun h2 =>
jl (a3 + 1) fun x3 =>
k57 a0 a2 x3 h2)))))))
def F_1_move_57  : Nat → Nat → Nat → Int32 → jH → Option (Unit × jH)
  | 0 => fun _ _ _ _ => none
  | n + 1 => fun a0 a2 a3 H => B_1_move_57 (F_1_move_57  n) a0 a2 a3 H
def B_1_move_53  (a0 : Nat) (a1 : Int32) (a2 : Nat) (H : jH) : Option (Unit × jH) :=
jl (a1 + 1) fun x4 =>
F_1_move_57 jfuel a0 a2 x4 H
def B_1_move_4 (k4 : Nat → Int32 → Nat → Int32 → jH → Option (Unit × jH)) (a0 : Nat) (a1 : Int32) (a2 : Nat) (a3 : Int32) (H : jH) : Option (Unit × jH) :=
jg ((jK H a0).1 = 1) (
jg ((jK H (jR H a0 6)).1 = 0) (
(if ((jI H (jR H a0 6) 6) : Int32) < (a3 : Int32) then
B_1_move_53 a0 a1 a2 H
else
(if (300 : Int32) ≤ (a3 : Int32) then
B_1_move_53 a0 a1 a2 H
else
jg ((jK H a0).1 = 1) (
jg ((jK H a0).1 = 1) (
jg ((jK H a0).1 = 1) (
jg ((jK H (jR H a0 7)).1 = 114 ∧ jin (a3) (jK H (jR H a0 7)).2) (
jg ((jK H (jR H a0 9)).1 = 114 ∧ jin ((jI H a0 10)) (jK H (jR H a0 9)).2 ∧ ((jR H (jR H a0 7) (a3 : Int32).toNatClampNeg) = 0 ∨ (jK H (jR H (jR H a0 7) (a3 : Int32).toNatClampNeg)).1 = 0)) (
jl (jsR H (jR H a0 9) ((jI H a0 10) : Int32).toNatClampNeg (jR H (jR H a0 7) (a3 : Int32).toNatClampNeg)) fun h5 =>
jg ((jK h5 a0).1 = 1) (
jg ((jK h5 a0).1 = 1) (
jl (jsI h5 a0 10 ((jI h5 a0 10) + 1)) fun h6 =>
jl (a3 + 1) fun x7 =>
k4 a0 a1 a2 x7 h6)))))))))))
def F_1_move_4  : Nat → Nat → Int32 → Nat → Int32 → jH → Option (Unit × jH)
  | 0 => fun _ _ _ _ _ => none
  | n + 1 => fun a0 a1 a2 a3 H => B_1_move_4 (F_1_move_4  n) a0 a1 a2 a3 H
def F_1_move (a0 : Nat) (a1 : Int32) (a2 : Nat) (H : jH) : Option (Unit × jH) :=
jl (a1 + 1) fun x8 =>
F_1_move_4 jfuel a0 a1 a2 x8 H
def B_2_change_139 (k3 : Nat → Nat → Int32 → Int32 → Int32 → jH → Option (Unit × jH)) (a0 : Nat) (a1 : Nat) (a2 : Int32) (a3 : Int32) (a4 : Int32) (H : jH) : Option (Unit × jH) :=
jl (a4 + 1) fun x1 =>
k3 a0 a1 a2 a3 x1 H
def B_2_change_230   (H : jH) : Option (Unit × jH) :=
some ((), H)
def B_2_change_148 (k148 : Nat → Nat → Int32 → Int32 → jH → Option (Unit × jH)) (a0 : Nat) (a1 : Nat) (a2 : Int32) (a4 : Int32) (H : jH) : Option (Unit × jH) :=
jg ((jK H a1).1 = 10) (
jg ((jK H (jR H a1 5)).1 = 100) (
(if ((Int32.ofNat (jK H (jR H a1 5)).2) : Int32) ≤ (a4 : Int32) then
B_2_change_230 H
else
jg ((jK H a0).1 = 2) (
(if (1500 : Int32) ≤ ((jI H a0 3) : Int32) then
B_2_change_230 H
else
jg ((jK H a0).1 = 2) (
jg ((jK H a0).1 = 2) (
jg ((jK H (jR H a0 0)).1 = 113 ∧ jin ((jI H a0 3)) (jK H (jR H a0 0)).2 ∧ (a1 = 0 ∨ (jK H a1).1 = 10)) (
jl (jsR H (jR H a0 0) ((jI H a0 3) : Int32).toNatClampNeg a1) fun h2 =>
jg ((jK h2 a0).1 = 2) (
jg ((jK h2 a0).1 = 2) (
jg ((jK h2 (jR h2 a0 1)).1 = 100 ∧ jF0 ≤ (jR h2 a0 1) ∧ jin ((jI h2 a0 3)) (jK h2 (jR h2 a0 1)).2) (
jl (jsI h2 (jR h2 a0 1) ((jI h2 a0 3) : Int32).toNatClampNeg a4) fun h3 =>
jg ((jK h3 a0).1 = 2) (
jg ((jK h3 a0).1 = 2) (
jg ((jK h3 (jR h3 a0 2)).1 = 100 ∧ jF0 ≤ (jR h3 a0 2) ∧ jin ((jI h3 a0 3)) (jK h3 (jR h3 a0 2)).2) (
jl (jsI h3 (jR h3 a0 2) ((jI h3 a0 3) : Int32).toNatClampNeg a2) fun h4 =>
jg ((jK h4 a0).1 = 2) (
jg ((jK h4 a0).1 = 2) (
jl (jsI h4 a0 3 ((jI h4 a0 3) + 1)) fun h5 =>
jg ((jK h5 a0).1 = 2) (
jg ((jK h5 a1).1 = 10) (
jb (F_10_worth a1 a4 h5) fun x6 h7 =>
jg ((jK h7 a0).1 = 2) (
jl (jsL h7 a0 5 ((jL h5 a0 5) + x6)) fun h8 =>
jl (a4 + 1) fun x9 =>
k148 a0 a1 a2 x9 h8)))))))))))))))))))
def F_2_change_148  : Nat → Nat → Nat → Int32 → Int32 → jH → Option (Unit × jH)
  | 0 => fun _ _ _ _ _ => none
  | n + 1 => fun a0 a1 a2 a4 H => B_2_change_148 (F_2_change_148  n) a0 a1 a2 a4 H
def B_2_change_145  (a0 : Nat) (a1 : Nat) (a2 : Int32) (H : jH) : Option (Unit × jH) :=
F_2_change_148 jfuel a0 a1 a2 0 H
def B_2_change_3 (k3 : Nat → Nat → Int32 → Int32 → Int32 → jH → Option (Unit × jH)) (a0 : Nat) (a1 : Nat) (a2 : Int32) (a3 : Int32) (a4 : Int32) (H : jH) : Option (Unit × jH) :=
(if ¬ (a3 : Int32) = 0 then
B_2_change_145 a0 a1 a2 H
else
jg ((jK H a1).1 = 10) (
jg ((jK H (jR H a1 4)).1 = 100) (
(if ((Int32.ofNat (jK H (jR H a1 4)).2) : Int32) ≤ (a4 : Int32) then
B_2_change_145 a0 a1 a2 H
else
jg ((jK H a1).1 = 10) (
jg ((jK H a1).1 = 10) (
jg ((jK H (jR H a1 4)).1 = 100 ∧ jin (a4) (jK H (jR H a1 4)).2) (
jg ((jK H a1).1 = 10) (
jb (F_10_index a1 a4 H) fun x10 h11 =>
jg ((jK h11 a0).1 = 2) (
jb (F_2_find a0 (jR H a1 0) (jI H (jR H a1 4) (a4 : Int32).toNatClampNeg) x10 h11) fun x12 h13 =>
(if (x12 : Int32) < 0 then
B_2_change_139 k3 a0 a1 a2 a3 a4 h13
else
jg ((jK h13 a0).1 = 2) (
jg ((jK h13 a0).1 = 2) (
jg ((jK h13 (jR h13 a0 0)).1 = 113 ∧ jin (x12) (jK h13 (jR h13 a0 0)).2) (
jg ((jK h13 a0).1 = 2) (
jg ((jK h13 (jR h13 a0 1)).1 = 100 ∧ jin (x12) (jK h13 (jR h13 a0 1)).2) (
jg ((jK h13 (jR h13 (jR h13 a0 0) (x12 : Int32).toNatClampNeg)).1 = 10) (
jb (F_10_worth (jR h13 (jR h13 a0 0) (x12 : Int32).toNatClampNeg) (jI h13 (jR h13 a0 1) (x12 : Int32).toNatClampNeg) h13) fun x14 h15 =>
jg ((jK h15 a0).1 = 2) (
jl (jsL h15 a0 5 ((jL h13 a0 5) - x14)) fun h16 =>
jg ((jK h16 a0).1 = 2) (
jg ((jK h16 a0).1 = 2) (
jl (jsI h16 a0 4 ((jI h16 a0 4) + 1)) fun h17 =>
jg ((jK h17 a0).1 = 2) (
jg ((jK h17 a0).1 = 2) (
jl (jsI h17 a0 3 ((jI h17 a0 3) - 1)) fun h18 =>
jg ((jK h18 a0).1 = 2) (
jg ((jK h18 a0).1 = 2) (
jg ((jK h18 a0).1 = 2) (
jg ((jK h18 (jR h18 a0 0)).1 = 113 ∧ jin ((jI h18 a0 3)) (jK h18 (jR h18 a0 0)).2) (
jg ((jK h18 (jR h18 a0 0)).1 = 113 ∧ jin (x12) (jK h18 (jR h18 a0 0)).2 ∧ ((jR h18 (jR h18 a0 0) ((jI h18 a0 3) : Int32).toNatClampNeg) = 0 ∨ (jK h18 (jR h18 (jR h18 a0 0) ((jI h18 a0 3) : Int32).toNatClampNeg)).1 = 10)) (
jl (jsR h18 (jR h18 a0 0) (x12 : Int32).toNatClampNeg (jR h18 (jR h18 a0 0) ((jI h18 a0 3) : Int32).toNatClampNeg)) fun h19 =>
jg ((jK h19 a0).1 = 2) (
jg ((jK h19 a0).1 = 2) (
jg ((jK h19 a0).1 = 2) (
jg ((jK h19 (jR h19 a0 1)).1 = 100 ∧ jin ((jI h19 a0 3)) (jK h19 (jR h19 a0 1)).2) (
jg ((jK h19 (jR h19 a0 1)).1 = 100 ∧ jF0 ≤ (jR h19 a0 1) ∧ jin (x12) (jK h19 (jR h19 a0 1)).2) (
jl (jsI h19 (jR h19 a0 1) (x12 : Int32).toNatClampNeg (jI h19 (jR h19 a0 1) ((jI h19 a0 3) : Int32).toNatClampNeg)) fun h20 =>
jg ((jK h20 a0).1 = 2) (
jg ((jK h20 a0).1 = 2) (
jg ((jK h20 a0).1 = 2) (
jg ((jK h20 (jR h20 a0 2)).1 = 100 ∧ jin ((jI h20 a0 3)) (jK h20 (jR h20 a0 2)).2) (
jg ((jK h20 (jR h20 a0 2)).1 = 100 ∧ jF0 ≤ (jR h20 a0 2) ∧ jin (x12) (jK h20 (jR h20 a0 2)).2) (
jl (jsI h20 (jR h20 a0 2) (x12 : Int32).toNatClampNeg (jI h20 (jR h20 a0 2) ((jI h20 a0 3) : Int32).toNatClampNeg)) fun h21 =>
B_2_change_139 k3 a0 a1 a2 a3 a4 h21))))))))))))))))))))))))))))))))))))
def F_2_change_3  : Nat → Nat → Nat → Int32 → Int32 → Int32 → jH → Option (Unit × jH)
  | 0 => fun _ _ _ _ _ _ => none
  | n + 1 => fun a0 a1 a2 a3 a4 H => B_2_change_3 (F_2_change_3  n) a0 a1 a2 a3 a4 H
def F_2_change (a0 : Nat) (a1 : Nat) (a2 : Int32) (a3 : Int32) (H : jH) : Option (Unit × jH) :=
F_2_change_3 jfuel a0 a1 a2 a3 0 H
def B_2_apply_31 (k2 : Nat → Nat → Int32 → jH → Option (Unit × jH)) (a0 : Nat) (a1 : Nat) (a2 : Int32) (s0 : Nat) (s1 : Nat) (s2 : Int32) (s3 : Int32) (H : jH) : Option (Unit × jH) :=
jg ((jK H s0).1 = 2) (
jb (F_2_change s0 s1 s2 s3 H) fun x1 h2 =>
jl (a2 + 1) fun x3 =>
k2 a0 a1 x3 h2)
def B_2_apply_2 (k2 : Nat → Nat → Int32 → jH → Option (Unit × jH)) (a0 : Nat) (a1 : Nat) (a2 : Int32) (H : jH) : Option (Unit × jH) :=
jg ((jK H a1).1 = 0) (
jg ((jK H (jR H a1 4)).1 = 113) (
(if ((Int32.ofNat (jK H (jR H a1 4)).2) : Int32) ≤ (a2 : Int32) then
some ((), H)
else
jg ((jK H a1).1 = 0) (
jg ((jK H (jR H a1 4)).1 = 113 ∧ jin (a2) (jK H (jR H a1 4)).2) (
jg ((jK H a1).1 = 0) (
(if ¬ (a2 : Int32) = 0 then
B_2_apply_31 k2 a0 a1 a2 a0 (jR H (jR H a1 4) (a2 : Int32).toNatClampNeg) (jI H a1 6) 0 H
else
B_2_apply_31 k2 a0 a1 a2 a0 (jR H (jR H a1 4) (a2 : Int32).toNatClampNeg) (jI H a1 6) 1 H)))))))
def F_2_apply_2  : Nat → Nat → Nat → Int32 → jH → Option (Unit × jH)
  | 0 => fun _ _ _ _ => none
  | n + 1 => fun a0 a1 a2 H => B_2_apply_2 (F_2_apply_2  n) a0 a1 a2 H
def F_2_apply (a0 : Nat) (a1 : Nat) (H : jH) : Option (Unit × jH) :=
F_2_apply_2 jfuel a0 a1 0 H
def F_2_clear (a0 : Nat) (H : jH) : Option (Unit × jH) :=
jg ((jK H a0).1 = 2) (
jl (jsI H a0 3 0) fun h1 =>
jg ((jK h1 a0).1 = 2) (
jl (jsI h1 a0 4 0) fun h2 =>
jg ((jK h2 a0).1 = 2) (
jl (jsL h2 a0 5 0) fun h3 =>
some ((), h3))))
def B_1_replay_40   (H : jH) : Option (Unit × jH) :=
some ((), H)
def B_1_replay_9 (k9 : Nat → Int32 → Int32 → jH → Option (Unit × jH)) (a0 : Nat) (a1 : Int32) (a2 : Int32) (H : jH) : Option (Unit × jH) :=
(if (a1 : Int32) < (a2 : Int32) then
B_1_replay_40 H
else
(if (300 : Int32) ≤ (a2 : Int32) then
B_1_replay_40 H
else
jg ((jK H a0).1 = 1) (
jg ((jK H a0).1 = 1) (
jg ((jK H (jR H a0 7)).1 = 114 ∧ jin (a2) (jK H (jR H a0 7)).2) (
jg ((jK H (jR H a0 1)).1 = 2) (
jb (F_2_apply (jR H a0 1) (jR H (jR H a0 7) (a2 : Int32).toNatClampNeg) H) fun x1 h2 =>
jl (a2 + 1) fun x3 =>
k9 a0 a1 x3 h2))))))
def F_1_replay_9  : Nat → Nat → Int32 → Int32 → jH → Option (Unit × jH)
  | 0 => fun _ _ _ _ => none
  | n + 1 => fun a0 a1 a2 H => B_1_replay_9 (F_1_replay_9  n) a0 a1 a2 H
def F_1_replay (a0 : Nat) (a1 : Int32) (H : jH) : Option (Unit × jH) :=
jg ((jK H a0).1 = 1) (
jg ((jK H (jR H a0 1)).1 = 2) (
jb (F_2_clear (jR H a0 1) H) fun x4 h5 =>
F_1_replay_9 jfuel a0 a1 1 h5))
def B_1_setTarget_74 (k18 : Nat → Int32 → Int32 → Int32 → jH → Option (Unit × jH)) (a0 : Nat) (a2 : Int32) (a3 : Int32) (a4 : Int32) (H : jH) : Option (Unit × jH) :=
jl (a4 + 1) fun x1 =>
k18 a0 a2 a3 x1 H
def B_1_setTarget_18 (k18 : Nat → Int32 → Int32 → Int32 → jH → Option (Unit × jH)) (a0 : Nat) (a2 : Int32) (a3 : Int32) (a4 : Int32) (H : jH) : Option (Unit × jH) :=
(if (3 : Int32) ≤ (a4 : Int32) then
some ((), H)
else
jl ((a2 - 3) + a4) fun x2 =>
(if (x2 : Int32) < 0 then
B_1_setTarget_74 k18 a0 a2 a3 a4 H
else
jg (¬ (4 : Int32) = 0) (
jg ((jK H a0).1 = 100) (
(if ((Int32.ofNat (jK H a0).2) : Int32) ≤ ((x2 / 4) : Int32) then
B_1_setTarget_74 k18 a0 a2 a3 a4 H
else
jg (¬ (4 : Int32) = 0) (
jg ((jK H a0).1 = 100 ∧ jin ((x2 / 4)) (jK H a0).2) (
jg (¬ (4 : Int32) = 0) (
jg ((jK H a0).1 = 100 ∧ jF0 ≤ a0 ∧ jin ((x2 / 4)) (jK H a0).2) (
jl (jsI H a0 ((x2 / 4) : Int32).toNatClampNeg ((jI H a0 ((x2 / 4) : Int32).toNatClampNeg) ||| (jshl ((jushr a3 (8 * a4)) &&& 255) (8 * (jrem x2 4))))) fun h3 =>
B_1_setTarget_74 k18 a0 a2 a3 a4 h3)))))))))
def F_1_setTarget_18  : Nat → Nat → Int32 → Int32 → Int32 → jH → Option (Unit × jH)
  | 0 => fun _ _ _ _ _ => none
  | n + 1 => fun a0 a2 a3 a4 H => B_1_setTarget_18 (F_1_setTarget_18  n) a0 a2 a3 a4 H
def F_1_setTarget (a0 : Nat) (a1 : Int32) (H : jH) : Option (Unit × jH) :=
jl (jushr a1 24) fun x4 =>
jl (a1 &&& 8388607) fun x5 =>
jb (F_A_fill a0 0 H) fun x6 h7 =>
F_1_setTarget_18 jfuel a0 x4 x5 0 h7
def B_1_setWork_50 (k15 : Nat → Nat → Int32 → Int32 → jH → Option (Unit × jH)) (a0 : Nat) (a1 : Nat) (a2 : Int32) (s0 : Int32) (H : jH) : Option (Unit × jH) :=
jl (a2 + 1) fun x1 =>
k15 a0 a1 x1 s0 H
def B_1_setWork_248 (k77 : Nat → Nat → Int32 → jH → Option (Unit × jH)) (a0 : Nat) (a1 : Nat) (a2 : Int32) (H : jH) : Option (Unit × jH) :=
jl (a2 + (-1)) fun x2 =>
k77 a0 a1 x2 H
def B_1_setWork_163 (k77 : Nat → Nat → Int32 → jH → Option (Unit × jH)) (k163 : Nat → Nat → Int32 → Int64 → Int32 → jH → Option (Unit × jH)) (a0 : Nat) (a1 : Nat) (a2 : Int32) (a4 : Int64) (a6 : Int32) (H : jH) : Option (Unit × jH) :=
(if (9 : Int32) ≤ (a6 : Int32) then
(if (256 : Int32) ≤ (a2 : Int32) then
B_1_setWork_248 k77 a0 a1 a2 H
else
jg ((jK H a1).1 = 0) (
jg (¬ (32 : Int32) = 0) (
jg ((jK H (jR H a1 8)).1 = 100 ∧ jin ((a2 / 32)) (jK H (jR H a1 8)).2) (
jg (¬ (32 : Int32) = 0) (
jg ((jK H (jR H a1 8)).1 = 100 ∧ jF0 ≤ (jR H a1 8) ∧ jin ((a2 / 32)) (jK H (jR H a1 8)).2) (
jl (jsI H (jR H a1 8) ((a2 / 32) : Int32).toNatClampNeg ((jI H (jR H a1 8) ((a2 / 32) : Int32).toNatClampNeg) ||| (jshl 1 (jrem a2 32)))) fun h3 =>
B_1_setWork_248 k77 a0 a1 a2 h3))))))
else
jg ((jK H a0).1 = 1) (
jg ((jK H (jR H a0 13)).1 = 100 ∧ jin (a6) (jK H (jR H a0 13)).2) (
jg ((jK H a0).1 = 1) (
jg ((jK H (jR H a0 11)).1 = 100 ∧ jin (a6) (jK H (jR H a0 11)).2) (
jl (a4 + (((Int32.toInt64 (jI H (jR H a0 13) (a6 : Int32).toNatClampNeg)) &&& 4294967295) - ((Int32.toInt64 (jI H (jR H a0 11) (a6 : Int32).toNatClampNeg)) &&& 4294967295))) fun x4 =>
jg ((jK H a0).1 = 1) (
jg ((jK H (jR H a0 13)).1 = 100 ∧ jF0 ≤ (jR H a0 13) ∧ jin (a6) (jK H (jR H a0 13)).2) (
jl (jsI H (jR H a0 13) (a6 : Int32).toNatClampNeg (Int64.toInt32 x4)) fun h5 =>
jl (jshrL x4 32) fun x6 =>
jl (a6 + 1) fun x7 =>
k163 a0 a1 a2 x6 x7 h5)))))))
def F_1_setWork_163 (k77 : Nat → Nat → Int32 → jH → Option (Unit × jH)) : Nat → Nat → Nat → Int32 → Int64 → Int32 → jH → Option (Unit × jH)
  | 0 => fun _ _ _ _ _ _ => none
  | n + 1 => fun a0 a1 a2 a4 a6 H => B_1_setWork_163 k77 (F_1_setWork_163 k77 n) a0 a1 a2 a4 a6 H
def B_1_setWork_97 (k77 : Nat → Nat → Int32 → jH → Option (Unit × jH)) (k97 : Nat → Nat → Int32 → Int32 → Int32 → jH → Option (Unit × jH)) (a0 : Nat) (a1 : Nat) (a2 : Int32) (a3 : Int32) (a4 : Int32) (H : jH) : Option (Unit × jH) :=
(if (9 : Int32) ≤ (a4 : Int32) then
jg ((jK H a0).1 = 1) (
jg ((jK H a0).1 = 1) (
jb (F_1_compare (jR H a0 13) (jR H a0 11) H) fun x8 h9 =>
(if (x8 : Int32) < 0 then
B_1_setWork_248 k77 a0 a1 a2 h9
else
F_1_setWork_163 k77 jfuel a0 a1 a2 0 0 h9)))
else
jg ((jK H a0).1 = 1) (
jg ((jK H (jR H a0 13)).1 = 100 ∧ jin (a4) (jK H (jR H a0 13)).2) (
jl (jushr (jI H (jR H a0 13) (a4 : Int32).toNatClampNeg) 31) fun x10 =>
jg ((jK H a0).1 = 1) (
jg ((jK H a0).1 = 1) (
jg ((jK H (jR H a0 13)).1 = 100 ∧ jin (a4) (jK H (jR H a0 13)).2) (
jg ((jK H (jR H a0 13)).1 = 100 ∧ jF0 ≤ (jR H a0 13) ∧ jin (a4) (jK H (jR H a0 13)).2) (
jl (jsI H (jR H a0 13) (a4 : Int32).toNatClampNeg ((jshl (jI H (jR H a0 13) (a4 : Int32).toNatClampNeg) 1) ||| a3)) fun h11 =>
jl (a4 + 1) fun x12 =>
k97 a0 a1 a2 x10 x12 h11)))))))
def F_1_setWork_97 (k77 : Nat → Nat → Int32 → jH → Option (Unit × jH)) : Nat → Nat → Nat → Int32 → Int32 → Int32 → jH → Option (Unit × jH)
  | 0 => fun _ _ _ _ _ _ => none
  | n + 1 => fun a0 a1 a2 a3 a4 H => B_1_setWork_97 k77 (F_1_setWork_97 k77 n) a0 a1 a2 a3 a4 H
def B_1_setWork_93 (k77 : Nat → Nat → Int32 → jH → Option (Unit × jH)) (a0 : Nat) (a1 : Nat) (a2 : Int32) (s0 : Int32) (H : jH) : Option (Unit × jH) :=
F_1_setWork_97 k77 jfuel a0 a1 a2 s0 0 H
def B_1_setWork_305 (k259 : Nat → Int64 → Int32 → jH → Option (Unit × jH)) (a1 : Nat) (a4 : Int32) (s0 : Int64) (s1 : Int64) (s2 : Int64) (H : jH) : Option (Unit × jH) :=
jl (s0 + (s1 + s2)) fun x13 =>
jg ((jK H a1).1 = 0) (
jg ((jK H (jR H a1 8)).1 = 100 ∧ jF0 ≤ (jR H a1 8) ∧ jin (a4) (jK H (jR H a1 8)).2) (
jl (jsI H (jR H a1 8) (a4 : Int32).toNatClampNeg (Int64.toInt32 x13)) fun h14 =>
jl (jushrL x13 32) fun x15 =>
jl (a4 + 1) fun x16 =>
k259 a1 x15 x16 h14))
def B_1_setWork_259 (k259 : Nat → Int64 → Int32 → jH → Option (Unit × jH)) (a1 : Nat) (a2 : Int64) (a4 : Int32) (H : jH) : Option (Unit × jH) :=
(if (8 : Int32) ≤ (a4 : Int32) then
some ((), H)
else
jg ((jK H a1).1 = 0) (
jg ((jK H (jR H a1 8)).1 = 100 ∧ jin (a4) (jK H (jR H a1 8)).2) (
jg ((jK H a1).1 = 0) (
(if ¬ (jR H a1 5) = 0 then
jg ((jK H a1).1 = 0) (
jg ((jK H (jR H a1 5)).1 = 0) (
jg ((jK H (jR H (jR H a1 5) 8)).1 = 100 ∧ jin (a4) (jK H (jR H (jR H a1 5) 8)).2) (
B_1_setWork_305 k259 a1 a4 a2 ((Int32.toInt64 (jI H (jR H a1 8) (a4 : Int32).toNatClampNeg)) &&& 4294967295) ((Int32.toInt64 (jI H (jR H (jR H a1 5) 8) (a4 : Int32).toNatClampNeg)) &&& 4294967295) H)))
else
B_1_setWork_305 k259 a1 a4 a2 ((Int32.toInt64 (jI H (jR H a1 8) (a4 : Int32).toNatClampNeg)) &&& 4294967295) 0 H)))))
def F_1_setWork_259  : Nat → Nat → Int64 → Int32 → jH → Option (Unit × jH)
  | 0 => fun _ _ _ _ => none
  | n + 1 => fun a1 a2 a4 H => B_1_setWork_259 (F_1_setWork_259  n) a1 a2 a4 H
def B_1_setWork_77 (k77 : Nat → Nat → Int32 → jH → Option (Unit × jH)) (a0 : Nat) (a1 : Nat) (a2 : Int32) (H : jH) : Option (Unit × jH) :=
(if (a2 : Int32) < 0 then
F_1_setWork_259 jfuel a1 0 0 H
else
(if ¬ (a2 : Int32) = (256 : Int32) then
B_1_setWork_93 k77 a0 a1 a2 0 H
else
B_1_setWork_93 k77 a0 a1 a2 1 H))
def F_1_setWork_77  : Nat → Nat → Nat → Int32 → jH → Option (Unit × jH)
  | 0 => fun _ _ _ _ => none
  | n + 1 => fun a0 a1 a2 H => B_1_setWork_77 (F_1_setWork_77  n) a0 a1 a2 H
def B_1_setWork_57  (a0 : Nat) (a1 : Nat) (H : jH) : Option (Unit × jH) :=
jg ((jK H a0).1 = 1) (
jb (F_A_fill (jR H a0 13) 0 H) fun x17 h18 =>
jg ((jK h18 a1).1 = 0) (
jb (F_A_fill (jR h18 a1 8) 0 h18) fun x19 h20 =>
F_1_setWork_77 jfuel a0 a1 256 h20))
def B_1_setWork_15 (k15 : Nat → Nat → Int32 → Int32 → jH → Option (Unit × jH)) (a0 : Nat) (a1 : Nat) (a2 : Int32) (a3 : Int32) (H : jH) : Option (Unit × jH) :=
(if (9 : Int32) ≤ (a2 : Int32) then
B_1_setWork_57 a0 a1 H
else
(if ¬ (a3 : Int32) = (1 : Int32) then
B_1_setWork_57 a0 a1 H
else
jg ((jK H a0).1 = 1) (
jg ((jK H (jR H a0 11)).1 = 100 ∧ jin (a2) (jK H (jR H a0 11)).2) (
jg ((jK H (jR H a0 11)).1 = 100 ∧ jF0 ≤ (jR H a0 11) ∧ jin (a2) (jK H (jR H a0 11)).2) (
jl (jsI H (jR H a0 11) (a2 : Int32).toNatClampNeg ((jI H (jR H a0 11) (a2 : Int32).toNatClampNeg) + 1)) fun h21 =>
jg ((jK h21 a0).1 = 1) (
jg ((jK h21 (jR h21 a0 11)).1 = 100 ∧ jin (a2) (jK h21 (jR h21 a0 11)).2) (
(if ¬ ((jI h21 (jR h21 a0 11) (a2 : Int32).toNatClampNeg) : Int32) = 0 then
B_1_setWork_50 k15 a0 a1 a2 0 h21
else
B_1_setWork_50 k15 a0 a1 a2 1 h21))))))))
def F_1_setWork_15  : Nat → Nat → Nat → Int32 → Int32 → jH → Option (Unit × jH)
  | 0 => fun _ _ _ _ _ => none
  | n + 1 => fun a0 a1 a2 a3 H => B_1_setWork_15 (F_1_setWork_15  n) a0 a1 a2 a3 H
def F_1_setWork (a0 : Nat) (a1 : Nat) (H : jH) : Option (Unit × jH) :=
jg ((jK H a0).1 = 1) (
jg ((jK H a1).1 = 0) (
jb (F_1_setTarget (jR H a0 11) (jI H a1 2) H) fun x22 h23 =>
F_1_setWork_15 jfuel a0 a1 0 1 h23))
def B_2_faultOfMaking_69  (s0 : Int32) (H : jH) : Option (Int32 × jH) :=
some (s0, H)
def B_2_faultOfMaking_63   (H : jH) : Option (Int32 × jH) :=
B_2_faultOfMaking_69 37 H
def B_2_faultOfMaking_2 (k2 : Nat → Nat → Int32 → Int32 → jH → Option (Int32 × jH)) (a0 : Nat) (a1 : Nat) (a2 : Int32) (a3 : Int32) (H : jH) : Option (Int32 × jH) :=
jg ((jK H a1).1 = 10) (
jg ((jK H (jR H a1 5)).1 = 100) (
(if ((Int32.ofNat (jK H (jR H a1 5)).2) : Int32) ≤ (a3 : Int32) then
jg ((jK H a0).1 = 2) (
jg ((jK H a1).1 = 10) (
jg ((jK H (jR H a1 5)).1 = 100) (
(if (1500 : Int32) < ((((jI H a0 3) - a2) + (Int32.ofNat (jK H (jR H a1 5)).2)) : Int32) then
B_2_faultOfMaking_63 H
else
jg ((jK H a0).1 = 2) (
(if (((jI H a0 4) + a2) : Int32) ≤ (3000 : Int32) then
B_2_faultOfMaking_69 0 H
else
B_2_faultOfMaking_63 H))))))
else
jg ((jK H a1).1 = 10) (
jg ((jK H a0).1 = 2) (
jb (F_2_find a0 (jR H a1 3) 0 a3 H) fun x1 h2 =>
(if (x1 : Int32) < 0 then
jl (a3 + 1) fun x3 =>
k2 a0 a1 a2 x3 h2
else
some (36, h2)))))))
def F_2_faultOfMaking_2  : Nat → Nat → Nat → Int32 → Int32 → jH → Option (Int32 × jH)
  | 0 => fun _ _ _ _ _ => none
  | n + 1 => fun a0 a1 a2 a3 H => B_2_faultOfMaking_2 (F_2_faultOfMaking_2  n) a0 a1 a2 a3 H
def F_2_faultOfMaking (a0 : Nat) (a1 : Nat) (a2 : Int32) (H : jH) : Option (Int32 × jH) :=
F_2_faultOfMaking_2 jfuel a0 a1 a2 0 H
def B_2_worth_31  (s0 : Int64) (H : jH) : Option (Int64 × jH) :=
some (s0, H)
def B_2_worth_12   (H : jH) : Option (Int64 × jH) :=
B_2_worth_31 0 H
def F_2_worth (a0 : Nat) (a1 : Int32) (H : jH) : Option (Int64 × jH) :=
(if (a1 : Int32) < 0 then
B_2_worth_12 H
else
jg ((jK H a0).1 = 2) (
(if (a1 : Int32) < ((jI H a0 3) : Int32) then
jg ((jK H a0).1 = 2) (
jg ((jK H (jR H a0 0)).1 = 113 ∧ jin (a1) (jK H (jR H a0 0)).2) (
jg ((jK H a0).1 = 2) (
jg ((jK H (jR H a0 1)).1 = 100 ∧ jin (a1) (jK H (jR H a0 1)).2) (
jg ((jK H (jR H (jR H a0 0) (a1 : Int32).toNatClampNeg)).1 = 10) (
jb (F_10_worth (jR H (jR H a0 0) (a1 : Int32).toNatClampNeg) (jI H (jR H a0 1) (a1 : Int32).toNatClampNeg) H) fun x1 h2 =>
B_2_worth_31 x1 h2)))))
else
B_2_worth_12 H)))
def B_2_take_144  (s0 : Int32) (H : jH) : Option (Int32 × jH) :=
some (s0, H)
def B_2_take_117  (a0 : Nat) (a1 : Nat) (a3 : Int32) (H : jH) : Option (Int32 × jH) :=
(if (a3 : Int32) = 0 then
jg ((jK H a1).1 = 10) (
jg ((jK H a0).1 = 2) (
(if ((jL H a1 6) : Int64) ≤ (jL H a0 8) then
B_2_take_144 0 H
else
B_2_take_144 33 H)))
else
B_2_take_144 32 H)
def B_2_take_10 (k10 : Nat → Nat → Int32 → Int32 → Int32 → jH → Option (Int32 × jH)) (a0 : Nat) (a1 : Nat) (a2 : Int32) (a3 : Int32) (a4 : Int32) (H : jH) : Option (Int32 × jH) :=
jg ((jK H a1).1 = 10) (
jg ((jK H (jR H a1 4)).1 = 100) (
(if ((Int32.ofNat (jK H (jR H a1 4)).2) : Int32) ≤ (a4 : Int32) then
B_2_take_117 a0 a1 a3 H
else
(if (8 : Int32) ≤ (a4 : Int32) then
B_2_take_117 a0 a1 a3 H
else
jg ((jK H a1).1 = 10) (
jg ((jK H a1).1 = 10) (
jg ((jK H (jR H a1 4)).1 = 100 ∧ jin (a4) (jK H (jR H a1 4)).2) (
jg ((jK H a1).1 = 10) (
jb (F_10_index a1 a4 H) fun x1 h2 =>
jg ((jK h2 a0).1 = 2) (
jb (F_2_find a0 (jR H a1 0) (jI H (jR H a1 4) (a4 : Int32).toNatClampNeg) x1 h2) fun x3 h4 =>
(if 0 ≤ (x3 : Int32) then
jg ((jK h4 a0).1 = 2) (
jb (F_2_isUnripe a0 x3 a2 h4) fun x5 h6 =>
jl (a3 ||| x5) fun x7 =>
jg ((jK h6 a0).1 = 2) (
jg ((jK h6 a0).1 = 2) (
jg ((jK h6 (jR h6 a0 0)).1 = 113 ∧ jin (x3) (jK h6 (jR h6 a0 0)).2) (
jg ((jK h6 (jR h6 a0 6)).1 = 113 ∧ jin (a4) (jK h6 (jR h6 a0 6)).2 ∧ ((jR h6 (jR h6 a0 0) (x3 : Int32).toNatClampNeg) = 0 ∨ (jK h6 (jR h6 (jR h6 a0 0) (x3 : Int32).toNatClampNeg)).1 = 10)) (
jl (jsR h6 (jR h6 a0 6) (a4 : Int32).toNatClampNeg (jR h6 (jR h6 a0 0) (x3 : Int32).toNatClampNeg)) fun h8 =>
jg ((jK h8 a0).1 = 2) (
jg ((jK h8 a0).1 = 2) (
jg ((jK h8 (jR h8 a0 1)).1 = 100 ∧ jin (x3) (jK h8 (jR h8 a0 1)).2) (
jg ((jK h8 (jR h8 a0 7)).1 = 100 ∧ jF0 ≤ (jR h8 a0 7) ∧ jin (a4) (jK h8 (jR h8 a0 7)).2) (
jl (jsI h8 (jR h8 a0 7) (a4 : Int32).toNatClampNeg (jI h8 (jR h8 a0 1) (x3 : Int32).toNatClampNeg)) fun h9 =>
jg ((jK h9 a0).1 = 2) (
jg ((jK h9 a0).1 = 2) (
jb (F_2_worth a0 x3 h9) fun x10 h11 =>
jg ((jK h11 a0).1 = 2) (
jl (jsL h11 a0 8 ((jL h9 a0 8) + x10)) fun h12 =>
jl (a4 + 1) fun x13 =>
k10 a0 a1 a2 x7 x13 h12))))))))))))
else
some (31, h4)))))))))))
def F_2_take_10  : Nat → Nat → Nat → Int32 → Int32 → Int32 → jH → Option (Int32 × jH)
  | 0 => fun _ _ _ _ _ _ => none
  | n + 1 => fun a0 a1 a2 a3 a4 H => B_2_take_10 (F_2_take_10  n) a0 a1 a2 a3 a4 H
def F_2_take (a0 : Nat) (a1 : Nat) (a2 : Int32) (H : jH) : Option (Int32 × jH) :=
jg ((jK H a0).1 = 2) (
jl (jsL H a0 8 0) fun h14 =>
F_2_take_10 jfuel a0 a1 a2 0 0 h14)
def B_2_judge_153 (k11 : Nat → Nat → Nat → Int64 → Int32 → jH → Option (Int32 × jH)) (a0 : Nat) (a1 : Nat) (a2 : Nat) (a3 : Int64) (a5 : Int32) (s0 : Nat) (s1 : Nat) (s2 : Int32) (s3 : Int32) (H : jH) : Option (Int32 × jH) :=
jg ((jK H s0).1 = 2) (
jb (F_2_change s0 s1 s2 s3 H) fun x1 h2 =>
jl (a5 + 1) fun x3 =>
k11 a0 a1 a2 a3 x3 h2)
def B_2_judge_136 (k11 : Nat → Nat → Nat → Int64 → Int32 → jH → Option (Int32 × jH)) (a0 : Nat) (a1 : Nat) (a2 : Nat) (a3 : Int64) (a5 : Int32) (a6 : Nat) (H : jH) : Option (Int32 × jH) :=
jg ((jK H a1).1 = 0) (
(if ¬ (a5 : Int32) = 0 then
B_2_judge_153 k11 a0 a1 a2 a3 a5 a0 a6 (jI H a1 6) 0 H
else
B_2_judge_153 k11 a0 a1 a2 a3 a5 a0 a6 (jI H a1 6) 1 H))
def B_2_judge_110 (k11 : Nat → Nat → Nat → Int64 → Int32 → jH → Option (Int32 × jH)) (a0 : Nat) (a1 : Nat) (a2 : Nat) (a3 : Int64) (a5 : Int32) (a6 : Nat) (a7 : Int32) (H : jH) : Option (Int32 × jH) :=
(if (a7 : Int32) = 0 then
(if (a5 : Int32) ≤ 0 then
B_2_judge_136 k11 a0 a1 a2 a3 a5 a6 H
else
jg ((jK H a0).1 = 2) (
jg ((jK H a6).1 = 10) (
jl (a3 + ((jL H a0 8) - (jL H a6 6))) fun x4 =>
B_2_judge_136 k11 a0 a1 a2 x4 a5 a6 H)))
else
some (a7, H))
def B_2_judge_105 (k11 : Nat → Nat → Nat → Int64 → Int32 → jH → Option (Int32 × jH)) (a0 : Nat) (a1 : Nat) (a2 : Nat) (a3 : Int64) (a5 : Int32) (a6 : Nat) (s0 : Nat) (s1 : Nat) (s2 : Int32) (H : jH) : Option (Int32 × jH) :=
jg ((jK H s0).1 = 2) (
jb (F_2_faultOfMaking s0 s1 s2 H) fun x5 h6 =>
B_2_judge_110 k11 a0 a1 a2 a3 a5 a6 x5 h6)
def B_2_judge_82 (k11 : Nat → Nat → Nat → Int64 → Int32 → jH → Option (Int32 × jH)) (a0 : Nat) (a1 : Nat) (a2 : Nat) (a3 : Int64) (a5 : Int32) (a6 : Nat) (a7 : Int32) (H : jH) : Option (Int32 × jH) :=
(if ¬ (a7 : Int32) = 0 then
B_2_judge_110 k11 a0 a1 a2 a3 a5 a6 a7 H
else
(if ¬ (a5 : Int32) = 0 then
jg ((jK H a6).1 = 10) (
jg ((jK H (jR H a6 4)).1 = 100) (
B_2_judge_105 k11 a0 a1 a2 a3 a5 a6 a0 a6 (Int32.ofNat (jK H (jR H a6 4)).2) H))
else
B_2_judge_105 k11 a0 a1 a2 a3 a5 a6 a0 a6 0 H))
def B_2_judge_49 (k11 : Nat → Nat → Nat → Int64 → Int32 → jH → Option (Int32 × jH)) (a0 : Nat) (a1 : Nat) (a2 : Nat) (a3 : Int64) (a5 : Int32) (a6 : Nat) (s0 : Int32) (H : jH) : Option (Int32 × jH) :=
(if ¬ (s0 : Int32) = 0 then
B_2_judge_82 k11 a0 a1 a2 a3 a5 a6 s0 H
else
(if (a5 : Int32) ≤ 0 then
B_2_judge_82 k11 a0 a1 a2 a3 a5 a6 s0 H
else
jg ((jK H a0).1 = 2) (
jg ((jK H a0).1 = 2) (
jg ((jK H a2).1 = 7) (
jb (F_7_pass a2 a6 (jR H a0 6) (jR H a0 7) H) fun x7 h8 =>
(if ¬ (x7 : Int32) = 0 then
B_2_judge_82 k11 a0 a1 a2 a3 a5 a6 s0 h8
else
B_2_judge_82 k11 a0 a1 a2 a3 a5 a6 34 h8))))))
def B_2_judge_221  (s0 : Int32) (H : jH) : Option (Int32 × jH) :=
some (s0, H)
def B_2_judge_220   (H : jH) : Option (Int32 × jH) :=
B_2_judge_221 0 H
def B_2_judge_188  (a1 : Nat) (a3 : Int64) (s0 : Int64) (H : jH) : Option (Int32 × jH) :=
jg ((jK H a1).1 = 0) (
jg ((jK H (jR H a1 4)).1 = 113) (
(if ((Int32.ofNat (jK H (jR H a1 4)).2) : Int32) ≤ 0 then
B_2_judge_220 H
else
jg ((jK H a1).1 = 0) (
jg ((jK H (jR H a1 4)).1 = 113 ∧ jin (0) (jK H (jR H a1 4)).2) (
jg ((jK H (jR H (jR H a1 4) (0 : Int32).toNatClampNeg)).1 = 10) (
(if ((jL H (jR H (jR H a1 4) (0 : Int32).toNatClampNeg) 6) : Int64) ≤ (s0 + a3) then
B_2_judge_220 H
else
B_2_judge_221 35 H)))))))
def B_2_judge_11 (k11 : Nat → Nat → Nat → Int64 → Int32 → jH → Option (Int32 × jH)) (a0 : Nat) (a1 : Nat) (a2 : Nat) (a3 : Int64) (a5 : Int32) (H : jH) : Option (Int32 × jH) :=
jg ((jK H a1).1 = 0) (
jg ((jK H (jR H a1 4)).1 = 113) (
(if ((Int32.ofNat (jK H (jR H a1 4)).2) : Int32) ≤ (a5 : Int32) then
jg ((jK H a1).1 = 0) (
jg (¬ (32 : Int32) = 0) (
jl ((jI H a1 6) / 32) fun x9 =>
(if (x9 : Int32) ≤ (62 : Int32) then
B_2_judge_188 a1 a3 (jshrL 5000000000 x9) H
else
B_2_judge_188 a1 a3 0 H)))
else
jg ((jK H a1).1 = 0) (
jg ((jK H (jR H a1 4)).1 = 113 ∧ jin (a5) (jK H (jR H a1 4)).2) (
jl (jR H (jR H a1 4) (a5 : Int32).toNatClampNeg) fun x10 =>
(if ¬ (a5 : Int32) = 0 then
jg ((jK H a1).1 = 0) (
jg ((jK H a0).1 = 2) (
jb (F_2_take a0 x10 (jI H a1 6) H) fun x11 h12 =>
B_2_judge_49 k11 a0 a1 a2 a3 a5 x10 x11 h12))
else
B_2_judge_49 k11 a0 a1 a2 a3 a5 x10 0 H))))))
def F_2_judge_11  : Nat → Nat → Nat → Nat → Int64 → Int32 → jH → Option (Int32 × jH)
  | 0 => fun _ _ _ _ _ _ => none
  | n + 1 => fun a0 a1 a2 a3 a5 H => B_2_judge_11 (F_2_judge_11  n) a0 a1 a2 a3 a5 H
def F_2_judge (a0 : Nat) (a1 : Nat) (a2 : Nat) (H : jH) : Option (Int32 × jH) :=
jg ((jK H a2).1 = 7) (
jb (F_7_begin a2 24 H) fun x13 h14 =>
F_2_judge_11 jfuel a0 a1 a2 0 0 h14)
def B_1_adopt_189 (k50 : Nat → Nat → Int32 → Int32 → Int32 → jH → Option (Int32 × jH)) (a0 : Nat) (a1 : Nat) (a3 : Int32) (a4 : Int32) (a8 : Int32) (s0 : Int32) (H : jH) : Option (Int32 × jH) :=
jg ((jK H a0).1 = 1) (
jg ((jK H (jR H a0 8)).1 = 114 ∧ jin (a8) (jK H (jR H a0 8)).2) (
jg ((jK H a0).1 = 1) (
jb (F_1_condemn a0 (jR H (jR H a0 8) (a8 : Int32).toNatClampNeg) H) fun x1 h2 =>
jl (a4 + 1) fun x3 =>
k50 a0 a1 s0 a3 x3 h2)))
def B_1_adopt_156 (k50 : Nat → Nat → Int32 → Int32 → Int32 → jH → Option (Int32 × jH)) (a0 : Nat) (a1 : Nat) (a2 : Int32) (a3 : Int32) (a4 : Int32) (a5 : Nat) (a6 : Int32) (a7 : Int32) (a8 : Int32) (H : jH) : Option (Int32 × jH) :=
(if ¬ (a7 : Int32) = 0 then
jg ((jK H a0).1 = 1) (
jg ((jK H (jR H a0 8)).1 = 114 ∧ jin (a8) (jK H (jR H a0 8)).2) (
jg (((jR H (jR H a0 8) (a8 : Int32).toNatClampNeg) = 0 ∨ jF0 ≤ (jR H (jR H a0 8) (a8 : Int32).toNatClampNeg)) ∧ (a1 = 0 ∨ jF0 ≤ a1)) (
(if ¬ (jR H (jR H a0 8) (a8 : Int32).toNatClampNeg) = a1 then
B_1_adopt_189 k50 a0 a1 a3 a4 a8 22 H
else
B_1_adopt_189 k50 a0 a1 a3 a4 a8 a7 H))))
else
jg ((jK H a0).1 = 1) (
jb (F_1_move a0 a6 a5 H) fun x4 h5 =>
some (a2, h5)))
def B_1_adopt_115 (k50 : Nat → Nat → Int32 → Int32 → Int32 → jH → Option (Int32 × jH)) (k115 : Nat → Nat → Int32 → Int32 → Int32 → Nat → Int32 → Int32 → Int32 → jH → Option (Int32 × jH)) (a0 : Nat) (a1 : Nat) (a2 : Int32) (a3 : Int32) (a4 : Int32) (a5 : Nat) (a6 : Int32) (a7 : Int32) (a8 : Int32) (H : jH) : Option (Int32 × jH) :=
(if ¬ (a7 : Int32) = 0 then
B_1_adopt_156 k50 a0 a1 a2 a3 a4 a5 a6 a7 a8 H
else
jg ((jK H a5).1 = 0) (
(if ((jI H a5 6) : Int32) ≤ (a8 : Int32) then
B_1_adopt_156 k50 a0 a1 a2 a3 a4 a5 a6 a7 a8 H
else
jl (a8 + 1) fun x6 =>
jg ((jK H a0).1 = 1) (
jg ((jK H a0).1 = 1) (
jg ((jK H (jR H a0 8)).1 = 114 ∧ jin (x6) (jK H (jR H a0 8)).2) (
jg ((jK H a0).1 = 1) (
jg ((jK H (jR H a0 1)).1 = 2) (
jb (F_2_judge (jR H a0 1) (jR H (jR H a0 8) (x6 : Int32).toNatClampNeg) (jR H a0 2) H) fun x7 h8 =>
k115 a0 a1 a2 a3 a4 a5 a6 x7 x6 h8))))))))
def F_1_adopt_115 (k50 : Nat → Nat → Int32 → Int32 → Int32 → jH → Option (Int32 × jH)) : Nat → Nat → Nat → Int32 → Int32 → Int32 → Nat → Int32 → Int32 → Int32 → jH → Option (Int32 × jH)
  | 0 => fun _ _ _ _ _ _ _ _ _ _ => none
  | n + 1 => fun a0 a1 a2 a3 a4 a5 a6 a7 a8 H => B_1_adopt_115 k50 (F_1_adopt_115 k50 n) a0 a1 a2 a3 a4 a5 a6 a7 a8 H
def B_1_adopt_106 (k50 : Nat → Nat → Int32 → Int32 → Int32 → jH → Option (Int32 × jH)) (a0 : Nat) (a1 : Nat) (a2 : Int32) (a4 : Int32) (a5 : Nat) (a6 : Int32) (H : jH) : Option (Int32 × jH) :=
F_1_adopt_115 k50 jfuel a0 a1 a2 1 a4 a5 a6 0 a6 H
def B_1_adopt_100 (k50 : Nat → Nat → Int32 → Int32 → Int32 → jH → Option (Int32 × jH)) (a0 : Nat) (a1 : Nat) (a2 : Int32) (a4 : Int32) (a5 : Nat) (a6 : Int32) (H : jH) : Option (Int32 × jH) :=
jg ((jK H a0).1 = 1) (
jb (F_1_replay a0 a6 H) fun x9 h10 =>
B_1_adopt_106 k50 a0 a1 a2 a4 a5 a6 h10)
def B_1_adopt_222  (a2 : Int32) (H : jH) : Option (Int32 × jH) :=
some (a2, H)
def B_1_adopt_207  (a0 : Nat) (a2 : Int32) (a3 : Int32) (H : jH) : Option (Int32 × jH) :=
(if (a3 : Int32) = 0 then
B_1_adopt_222 a2 H
else
jg ((jK H a0).1 = 1) (
jg ((jK H (jR H a0 6)).1 = 0) (
jg ((jK H a0).1 = 1) (
jb (F_1_replay a0 (jI H (jR H a0 6) 6) H) fun x11 h12 =>
B_1_adopt_222 a2 h12))))
def B_1_adopt_50 (k50 : Nat → Nat → Int32 → Int32 → Int32 → jH → Option (Int32 × jH)) (a0 : Nat) (a1 : Nat) (a2 : Int32) (a3 : Int32) (a4 : Int32) (H : jH) : Option (Int32 × jH) :=
(if (300 : Int32) ≤ (a4 : Int32) then
B_1_adopt_207 a0 a2 a3 H
else
jg ((jK H a0).1 = 1) (
jb (F_1_best a0 H) fun x13 h14 =>
jg ((jK h14 a0).1 = 1) (
jg ((x13 = 0 ∨ jF0 ≤ x13) ∧ ((jR h14 a0 6) = 0 ∨ jF0 ≤ (jR h14 a0 6))) (
(if ¬ x13 = (jR h14 a0 6) then
jg ((jK h14 a0).1 = 1) (
jb (F_1_layWay a0 x13 h14) fun x15 h16 =>
(if ¬ (a3 : Int32) = 0 then
B_1_adopt_100 k50 a0 a1 a2 a4 x13 x15 h16
else
jg ((jK h16 a0).1 = 1) (
jg ((jK h16 (jR h16 a0 6)).1 = 0) (
(if ((jI h16 (jR h16 a0 6) 6) : Int32) ≤ (x15 : Int32) then
B_1_adopt_106 k50 a0 a1 a2 a4 x13 x15 h16
else
B_1_adopt_100 k50 a0 a1 a2 a4 x13 x15 h16)))))
else
B_1_adopt_207 a0 a2 a3 h14)))))
def F_1_adopt_50  : Nat → Nat → Nat → Int32 → Int32 → Int32 → jH → Option (Int32 × jH)
  | 0 => fun _ _ _ _ _ _ => none
  | n + 1 => fun a0 a1 a2 a3 a4 H => B_1_adopt_50 (F_1_adopt_50  n) a0 a1 a2 a3 a4 H
def F_1_adopt (a0 : Nat) (a1 : Nat) (H : jH) : Option (Int32 × jH) :=
jg ((jK H a0).1 = 1) (
jl (jsI H a0 10 0) fun h17 =>
jg ((jK h17 a0).1 = 1) (
(if ((jI h17 a0 4) : Int32) < (300 : Int32) then
jg ((jK h17 a0).1 = 1) (
jb (F_1_setWork a0 a1 h17) fun x18 h19 =>
jg ((jK h19 a0).1 = 1) (
jg ((jK h19 a0).1 = 1) (
jg ((jK h19 (jR h19 a0 3)).1 = 114 ∧ jin ((jI h19 a0 4)) (jK h19 (jR h19 a0 3)).2 ∧ (a1 = 0 ∨ (jK h19 a1).1 = 0)) (
jl (jsR h19 (jR h19 a0 3) ((jI h19 a0 4) : Int32).toNatClampNeg a1) fun h20 =>
jg ((jK h20 a0).1 = 1) (
jg ((jK h20 a0).1 = 1) (
jl (jsI h20 a0 4 ((jI h20 a0 4) + 1)) fun h21 =>
F_1_adopt_50 jfuel a0 a1 0 0 0 h21))))))
else
some (30, h17))))
def B_0_isFaulty_57 (k2 : Nat → Int32 → jH → Option (Int32 × jH)) (a0 : Nat) (a1 : Int32) (s0 : Int32) (H : jH) : Option (Int32 × jH) :=
(if (s0 : Int32) = 0 then
jl (a1 + 1) fun x1 =>
k2 a0 x1 H
else
jg ((1 : Int32) = 0 ∨ (1 : Int32) = 1) (some (1, H)))
def B_0_isFaulty_37 (k2 : Nat → Int32 → jH → Option (Int32 × jH)) (a0 : Nat) (a1 : Int32) (H : jH) : Option (Int32 × jH) :=
B_0_isFaulty_57 k2 a0 a1 1 H
def B_0_isFaulty_2 (k2 : Nat → Int32 → jH → Option (Int32 × jH)) (a0 : Nat) (a1 : Int32) (H : jH) : Option (Int32 × jH) :=
jg ((jK H a0).1 = 0) (
jg ((jK H (jR H a0 4)).1 = 113) (
(if ((Int32.ofNat (jK H (jR H a0 4)).2) : Int32) ≤ (a1 : Int32) then
jg ((0 : Int32) = 0 ∨ (0 : Int32) = 1) (some (0, H))
else
jg ((jK H a0).1 = 0) (
jg ((jK H (jR H a0 4)).1 = 113 ∧ jin (a1) (jK H (jR H a0 4)).2) (
jl (jR H (jR H a0 4) (a1 : Int32).toNatClampNeg) fun x2 =>
(if ¬ (a1 : Int32) = 0 then
jg ((jK H x2).1 = 10) (
jb (F_10_fault x2 H) fun x3 h4 =>
(if (x3 : Int32) = 0 then
B_0_isFaulty_57 k2 a0 a1 0 h4
else
B_0_isFaulty_57 k2 a0 a1 1 h4))
else
jg ((jK H x2).1 = 10) (
jg ((jK H (jR H x2 5)).1 = 100) (
(if ((Int32.ofNat (jK H (jR H x2 5)).2) : Int32) = 0 then
B_0_isFaulty_37 k2 a0 a1 H
else
jg ((jK H x2).1 = 10) (
jb (F_10_isTooMuch x2 H) fun x5 h6 =>
(if (x5 : Int32) = 0 then
B_0_isFaulty_57 k2 a0 a1 0 h6
else
B_0_isFaulty_37 k2 a0 a1 h6)))))))))))
def F_0_isFaulty_2  : Nat → Nat → Int32 → jH → Option (Int32 × jH)
  | 0 => fun _ _ _ => none
  | n + 1 => fun a0 a1 H => B_0_isFaulty_2 (F_0_isFaulty_2  n) a0 a1 H
def F_0_isFaulty (a0 : Nat) (H : jH) : Option (Int32 × jH) :=
F_0_isFaulty_2 jfuel a0 0 H
def B_0_isRooted_169 (k83 : Nat → Nat → Nat → Nat → Int32 → Int32 → Int32 → Int32 → jH → Option (Int32 × jH)) (a0 : Nat) (a1 : Nat) (a2 : Nat) (a3 : Nat) (a4 : Int32) (a5 : Int32) (a6 : Int32) (a7 : Int32) (H : jH) : Option (Int32 × jH) :=
jg ((jK H a3).1 = 3) (
jb (F_3_name a3 a1 (32 * a7) 64 a2 H) fun x1 h2 =>
jg (jcg h2 101 a2 (0) a1 ((32 * a6)) (32)) (
jl (jcpB h2 a2 (0 : Int32).toNatClampNeg a1 ((32 * a6) : Int32).toNatClampNeg (32 : Int32).toNatClampNeg) fun h3 =>
jl (a6 + 1) fun x4 =>
jl (a7 + 2) fun x5 =>
k83 a0 a1 a2 a3 a4 a5 x4 x5 h3))
def B_0_isRooted_133 (k83 : Nat → Nat → Nat → Nat → Int32 → Int32 → Int32 → Int32 → jH → Option (Int32 × jH)) (a0 : Nat) (a1 : Nat) (a2 : Nat) (a3 : Nat) (a4 : Int32) (a5 : Int32) (a6 : Int32) (a7 : Int32) (a8 : Int32) (H : jH) : Option (Int32 × jH) :=
(if (a8 : Int32) = 0 then
B_0_isRooted_169 k83 a0 a1 a2 a3 a4 a5 a6 a7 H
else
jg ((jK H a1).1 = 101) (
(if ((Int32.ofNat (jK H a1).2) : Int32) < ((32 * (a7 + 2)) : Int32) then
B_0_isRooted_169 k83 a0 a1 a2 a3 a4 a5 a6 a7 H
else
jg (jcg H 101 a1 ((32 * a7)) a1 ((32 * (a7 + 1))) (32)) (
jl (jcpB H a1 ((32 * a7) : Int32).toNatClampNeg a1 ((32 * (a7 + 1)) : Int32).toNatClampNeg (32 : Int32).toNatClampNeg) fun h6 =>
B_0_isRooted_169 k83 a0 a1 a2 a3 a4 a5 a6 a7 h6))))
def B_0_isRooted_104 (k83 : Nat → Nat → Nat → Nat → Int32 → Int32 → Int32 → Int32 → jH → Option (Int32 × jH)) (a0 : Nat) (a1 : Nat) (a2 : Nat) (a3 : Nat) (a4 : Int32) (a5 : Int32) (a6 : Int32) (a7 : Int32) (s0 : Int32) (H : jH) : Option (Int32 × jH) :=
(if ¬ (s0 : Int32) = 0 then
B_0_isRooted_133 k83 a0 a1 a2 a3 a4 a5 a6 a7 s0 H
else
jb (F_3_same a1 (32 * a7) a1 (32 * (a7 + 1)) H) fun x7 h8 =>
(if (x7 : Int32) = 0 then
B_0_isRooted_133 k83 a0 a1 a2 a3 a4 a5 a6 a7 s0 h8
else
jg ((0 : Int32) = 0 ∨ (0 : Int32) = 1) (some (0, h8))))
def B_0_isRooted_83 (k64 : Nat → Nat → Nat → Nat → Int32 → Int32 → jH → Option (Int32 × jH)) (k83 : Nat → Nat → Nat → Nat → Int32 → Int32 → Int32 → Int32 → jH → Option (Int32 × jH)) (a0 : Nat) (a1 : Nat) (a2 : Nat) (a3 : Nat) (a4 : Int32) (a5 : Int32) (a6 : Int32) (a7 : Int32) (H : jH) : Option (Int32 × jH) :=
(if (a4 : Int32) ≤ (a7 : Int32) then
jl (a5 + 1) fun x9 =>
k64 a0 a1 a2 a3 a6 x9 H
else
(if ¬ ((a7 + 1) : Int32) = (a4 : Int32) then
B_0_isRooted_104 k83 a0 a1 a2 a3 a4 a5 a6 a7 0 H
else
B_0_isRooted_104 k83 a0 a1 a2 a3 a4 a5 a6 a7 1 H))
def F_0_isRooted_83 (k64 : Nat → Nat → Nat → Nat → Int32 → Int32 → jH → Option (Int32 × jH)) : Nat → Nat → Nat → Nat → Nat → Int32 → Int32 → Int32 → Int32 → jH → Option (Int32 × jH)
  | 0 => fun _ _ _ _ _ _ _ _ _ => none
  | n + 1 => fun a0 a1 a2 a3 a4 a5 a6 a7 H => B_0_isRooted_83 k64 (F_0_isRooted_83 k64 n) a0 a1 a2 a3 a4 a5 a6 a7 H
def B_0_isRooted_214  (a0 : Nat) (a1 : Nat) (H : jH) : Option (Int32 × jH) :=
jg ((jK H a0).1 = 0) (
jb (F_3_same a1 0 (jR H a0 0) 37 H) fun x10 h11 =>
jg ((x10 : Int32) = 0 ∨ (x10 : Int32) = 1) (some (x10, h11)))
def B_0_isRooted_64 (k64 : Nat → Nat → Nat → Nat → Int32 → Int32 → jH → Option (Int32 × jH)) (a0 : Nat) (a1 : Nat) (a2 : Nat) (a3 : Nat) (a4 : Int32) (a5 : Int32) (H : jH) : Option (Int32 × jH) :=
(if (12 : Int32) ≤ (a5 : Int32) then
B_0_isRooted_214 a0 a1 H
else
(if (a4 : Int32) ≤ (1 : Int32) then
B_0_isRooted_214 a0 a1 H
else
F_0_isRooted_83 k64 jfuel a0 a1 a2 a3 a4 a5 0 0 H))
def F_0_isRooted_64  : Nat → Nat → Nat → Nat → Nat → Int32 → Int32 → jH → Option (Int32 × jH)
  | 0 => fun _ _ _ _ _ _ _ => none
  | n + 1 => fun a0 a1 a2 a3 a4 a5 H => B_0_isRooted_64 (F_0_isRooted_64  n) a0 a1 a2 a3 a4 a5 H
def B_0_isRooted_26 (k26 : Nat → Nat → Nat → Nat → Int32 → Int32 → jH → Option (Int32 × jH)) (a0 : Nat) (a1 : Nat) (a2 : Nat) (a3 : Nat) (a4 : Int32) (a5 : Int32) (H : jH) : Option (Int32 × jH) :=
(if (a4 : Int32) ≤ (a5 : Int32) then
F_0_isRooted_64 jfuel a0 a1 a2 a3 a4 0 H
else
jg ((jK H a0).1 = 0) (
jg ((jK H (jR H a0 4)).1 = 113 ∧ jin (a5) (jK H (jR H a0 4)).2) (
jg ((jK H (jR H (jR H a0 4) (a5 : Int32).toNatClampNeg)).1 = 10) (
jg (jcg H 101 (jR H (jR H (jR H a0 4) (a5 : Int32).toNatClampNeg) 3) (0) a1 ((32 * a5)) (32)) (
jl (jcpB H (jR H (jR H (jR H a0 4) (a5 : Int32).toNatClampNeg) 3) (0 : Int32).toNatClampNeg a1 ((32 * a5) : Int32).toNatClampNeg (32 : Int32).toNatClampNeg) fun h12 =>
jl (a5 + 1) fun x13 =>
k26 a0 a1 a2 a3 a4 x13 h12)))))
def F_0_isRooted_26  : Nat → Nat → Nat → Nat → Nat → Int32 → Int32 → jH → Option (Int32 × jH)
  | 0 => fun _ _ _ _ _ _ _ => none
  | n + 1 => fun a0 a1 a2 a3 a4 a5 H => B_0_isRooted_26 (F_0_isRooted_26  n) a0 a1 a2 a3 a4 a5 H
def F_0_isRooted (a0 : Nat) (a1 : Nat) (a2 : Nat) (a3 : Nat) (H : jH) : Option (Int32 × jH) :=
jg ((jK H a0).1 = 0) (
jg ((jK H (jR H a0 4)).1 = 113) (
jg ((jK H a1).1 = 101) (
jg (¬ (32 : Int32) = 0) (
jl (jminI (Int32.ofNat (jK H (jR H a0 4)).2) ((Int32.ofNat (jK H a1).2) / 32)) fun x14 =>
(if (1 : Int32) ≤ (x14 : Int32) then
F_0_isRooted_26 jfuel a0 a1 a2 a3 x14 0 H
else
jg ((0 : Int32) = 0 ∨ (0 : Int32) = 1) (some (0, H)))))))
def B_0_isShaped_34   (H : jH) : Option (Int32 × jH) :=
jg ((0 : Int32) = 0 ∨ (0 : Int32) = 1) (some (0, H))
def B_0_isShaped_67   (H : jH) : Option (Int32 × jH) :=
jg ((0 : Int32) = 0 ∨ (0 : Int32) = 1) (some (0, H))
def B_0_isShaped_71 (k71 : Nat → Int32 → jH → Option (Int32 × jH)) (a0 : Nat) (a2 : Int32) (H : jH) : Option (Int32 × jH) :=
jg ((jK H a0).1 = 0) (
jg ((jK H (jR H a0 4)).1 = 113) (
(if ((Int32.ofNat (jK H (jR H a0 4)).2) : Int32) ≤ (a2 : Int32) then
jg ((1 : Int32) = 0 ∨ (1 : Int32) = 1) (some (1, H))
else
jg ((jK H a0).1 = 0) (
jg ((jK H (jR H a0 4)).1 = 113 ∧ jin (a2) (jK H (jR H a0 4)).2) (
jg ((jK H (jR H (jR H a0 4) (a2 : Int32).toNatClampNeg)).1 = 10) (
(if ((jI H (jR H (jR H a0 4) (a2 : Int32).toNatClampNeg) 7) : Int32) = 0 then
jl (a2 + 1) fun x1 =>
k71 a0 x1 H
else
jg ((0 : Int32) = 0 ∨ (0 : Int32) = 1) (some (0, H)))))))))
def F_0_isShaped_71  : Nat → Nat → Int32 → jH → Option (Int32 × jH)
  | 0 => fun _ _ _ => none
  | n + 1 => fun a0 a2 H => B_0_isShaped_71 (F_0_isShaped_71  n) a0 a2 H
def F_0_isShaped (a0 : Nat) (H : jH) : Option (Int32 × jH) :=
jg ((jK H a0).1 = 0) (
jg ((jK H (jR H a0 4)).1 = 113) (
(if ((Int32.ofNat (jK H (jR H a0 4)).2) : Int32) = 0 then
B_0_isShaped_34 H
else
jg ((jK H a0).1 = 0) (
jg ((jK H (jR H a0 4)).1 = 113 ∧ jin (0) (jK H (jR H a0 4)).2) (
jg ((jK H (jR H (jR H a0 4) (0 : Int32).toNatClampNeg)).1 = 10) (
jg ((jK H (jR H (jR H (jR H a0 4) (0 : Int32).toNatClampNeg) 4)).1 = 100) (
(if ¬ ((Int32.ofNat (jK H (jR H (jR H (jR H a0 4) (0 : Int32).toNatClampNeg) 4)).2) : Int32) = (1 : Int32) then
B_0_isShaped_34 H
else
jg ((jK H a0).1 = 0) (
jg ((jK H (jR H a0 4)).1 = 113 ∧ jin (0) (jK H (jR H a0 4)).2) (
jg ((jK H (jR H (jR H a0 4) (0 : Int32).toNatClampNeg)).1 = 10) (
(if ¬ ((jI H (jR H (jR H a0 4) (0 : Int32).toNatClampNeg) 7) : Int32) = 0 then
jg ((jK H a0).1 = 0) (
jg ((jK H (jR H a0 4)).1 = 113 ∧ jin (0) (jK H (jR H a0 4)).2) (
jg ((jK H a0).1 = 0) (
jg ((jK H (jR H a0 4)).1 = 113 ∧ jin (0) (jK H (jR H a0 4)).2) (
jg ((jK H (jR H (jR H a0 4) (0 : Int32).toNatClampNeg)).1 = 10) (
jb (F_10_inputScript (jR H (jR H a0 4) (0 : Int32).toNatClampNeg) 0 H) fun x2 h3 =>
jg ((jK h3 (jR H (jR H a0 4) (0 : Int32).toNatClampNeg)).1 = 10) (
jb (F_10_scriptSize (jR H (jR H a0 4) (0 : Int32).toNatClampNeg) x2 h3) fun x4 h5 =>
(if (x4 : Int32) < (2 : Int32) then
B_0_isShaped_67 h5
else
(if (x4 : Int32) ≤ (100 : Int32) then
F_0_isShaped_71 jfuel a0 1 h5
else
B_0_isShaped_67 h5))))))))
else
B_0_isShaped_34 H))))))))))))
def B_1_byteOf_32  (s0 : Int32) (H : jH) : Option (Int32 × jH) :=
some (s0, H)
def B_1_byteOf_12   (H : jH) : Option (Int32 × jH) :=
B_1_byteOf_32 0 H
def F_1_byteOf (a0 : Nat) (a1 : Int32) (H : jH) : Option (Int32 × jH) :=
(if (a1 : Int32) < 0 then
B_1_byteOf_12 H
else
jg (¬ (4 : Int32) = 0) (
jg ((jK H a0).1 = 100) (
(if ((a1 / 4) : Int32) < ((Int32.ofNat (jK H a0).2) : Int32) then
jg (¬ (4 : Int32) = 0) (
jg ((jK H a0).1 = 100 ∧ jin ((a1 / 4)) (jK H a0).2) (
jg (¬ (4 : Int32) = 0) (
B_1_byteOf_32 ((jushr (jI H a0 ((a1 / 4) : Int32).toNatClampNeg) (8 * (jrem a1 4))) &&& 255) H)))
else
B_1_byteOf_12 H))))
def B_1_compact_69  (a1 : Int32) (a2 : Int32) (H : jH) : Option (Int32 × jH) :=
some (((jshl a1 24) ||| a2), H)
def B_1_compact_25  (a0 : Nat) (a1 : Int32) (H : jH) : Option (Int32 × jH) :=
jb (F_1_byteOf a0 (a1 - 1) H) fun x1 h2 =>
jb (F_1_byteOf a0 (a1 - 2) h2) fun x3 h4 =>
jb (F_1_byteOf a0 (a1 - 3) h4) fun x5 h6 =>
jl (((jshl x1 16) ||| (jshl x3 8)) ||| x5) fun x7 =>
(if (x7 : Int32) < (8388608 : Int32) then
B_1_compact_69 a1 x7 h6
else
jl (jshr x7 8) fun x8 =>
jl (a1 + 1) fun x9 =>
B_1_compact_69 x9 x8 h6)
def B_1_compact_5 (k5 : Nat → Int32 → jH → Option (Int32 × jH)) (a0 : Nat) (a1 : Int32) (H : jH) : Option (Int32 × jH) :=
(if (a1 : Int32) ≤ 0 then
B_1_compact_25 a0 a1 H
else
jb (F_1_byteOf a0 (a1 - 1) H) fun x10 h11 =>
(if ¬ (x10 : Int32) = 0 then
B_1_compact_25 a0 a1 h11
else
jl (a1 + (-1)) fun x12 =>
k5 a0 x12 h11))
def F_1_compact_5  : Nat → Nat → Int32 → jH → Option (Int32 × jH)
  | 0 => fun _ _ _ => none
  | n + 1 => fun a0 a1 H => B_1_compact_5 (F_1_compact_5  n) a0 a1 H
def F_1_compact (a0 : Nat) (H : jH) : Option (Int32 × jH) :=
jg ((jK H a0).1 = 100) (
jl (4 * (Int32.ofNat (jK H a0).2)) fun x13 =>
F_1_compact_5 jfuel a0 x13 H)
def B_1_bitsBehind_227  (s0 : Nat) (H : jH) : Option (Int32 × jH) :=
jb (F_1_compact s0 H) fun x1 h2 =>
some (x1, h2)
def B_1_bitsBehind_140 (k140 : Nat → Int64 → Int32 → jH → Option (Int32 × jH)) (a0 : Nat) (a5 : Int64) (a7 : Int32) (H : jH) : Option (Int32 × jH) :=
(if (a7 : Int32) < 0 then
jg ((jK H a0).1 = 1) (
jb (F_1_setTarget (jR H a0 12) 545259519 H) fun x3 h4 =>
jg ((jK h4 a0).1 = 1) (
jg ((jK h4 a0).1 = 1) (
jb (F_1_compare (jR h4 a0 11) (jR h4 a0 12) h4) fun x5 h6 =>
(if (x5 : Int32) ≤ 0 then
jg ((jK h6 a0).1 = 1) (
B_1_bitsBehind_227 (jR h6 a0 11) h6)
else
jg ((jK h6 a0).1 = 1) (
B_1_bitsBehind_227 (jR h6 a0 12) h6)))))
else
jg ((jK H a0).1 = 1) (
jg ((jK H (jR H a0 11)).1 = 100 ∧ jin (a7) (jK H (jR H a0 11)).2) (
jl ((jshlL a5 32) ||| ((Int32.toInt64 (jI H (jR H a0 11) (a7 : Int32).toNatClampNeg)) &&& 4294967295)) fun x7 =>
jg ((jK H a0).1 = 1) (
jg (¬ (4800 : Int64) = 0) (
jg ((jK H (jR H a0 11)).1 = 100 ∧ jF0 ≤ (jR H a0 11) ∧ jin (a7) (jK H (jR H a0 11)).2) (
jl (jsI H (jR H a0 11) (a7 : Int32).toNatClampNeg (Int64.toInt32 (x7 / 4800))) fun h8 =>
jg (¬ (4800 : Int64) = 0) (
jl (jremL x7 4800) fun x9 =>
jl (a7 + (-1)) fun x10 =>
k140 a0 x9 x10 h8)))))))
def F_1_bitsBehind_140  : Nat → Nat → Int64 → Int32 → jH → Option (Int32 × jH)
  | 0 => fun _ _ _ _ => none
  | n + 1 => fun a0 a5 a7 H => B_1_bitsBehind_140 (F_1_bitsBehind_140  n) a0 a5 a7 H
def B_1_bitsBehind_84 (k84 : Nat → Int64 → Int64 → Int32 → jH → Option (Int32 × jH)) (a0 : Nat) (a3 : Int64) (a5 : Int64) (a7 : Int32) (H : jH) : Option (Int32 × jH) :=
(if (9 : Int32) ≤ (a7 : Int32) then
F_1_bitsBehind_140 jfuel a0 0 8 H
else
jg ((jK H a0).1 = 1) (
jg ((jK H (jR H a0 11)).1 = 100 ∧ jin (a7) (jK H (jR H a0 11)).2) (
jl (a5 + (((Int32.toInt64 (jI H (jR H a0 11) (a7 : Int32).toNatClampNeg)) &&& 4294967295) * a3)) fun x11 =>
jg ((jK H a0).1 = 1) (
jg ((jK H (jR H a0 11)).1 = 100 ∧ jF0 ≤ (jR H a0 11) ∧ jin (a7) (jK H (jR H a0 11)).2) (
jl (jsI H (jR H a0 11) (a7 : Int32).toNatClampNeg (Int64.toInt32 x11)) fun h12 =>
jl (jushrL x11 32) fun x13 =>
jl (a7 + 1) fun x14 =>
k84 a0 a3 x13 x14 h12)))))
def F_1_bitsBehind_84  : Nat → Nat → Int64 → Int64 → Int32 → jH → Option (Int32 × jH)
  | 0 => fun _ _ _ _ _ => none
  | n + 1 => fun a0 a3 a5 a7 H => B_1_bitsBehind_84 (F_1_bitsBehind_84  n) a0 a3 a5 a7 H
def B_1_bitsBehind_45  (a0 : Nat) (a1 : Nat) (a2 : Nat) (H : jH) : Option (Int32 × jH) :=
jg ((jK H a1).1 = 0) (
jg ((jK H a2).1 = 0) (
jl (jmaxL 1200 (jminL 19200 ((jL H a1 3) - (jL H a2 3)))) fun x15 =>
jg ((jK H a0).1 = 1) (
jg ((jK H a1).1 = 0) (
jb (F_1_setTarget (jR H a0 11) (jI H a1 2) H) fun x16 h17 =>
F_1_bitsBehind_84 jfuel a0 x15 0 0 h17))))
def B_1_bitsBehind_21 (k21 : Nat → Nat → Nat → Int32 → jH → Option (Int32 × jH)) (a0 : Nat) (a1 : Nat) (a2 : Nat) (a3 : Int32) (H : jH) : Option (Int32 × jH) :=
(if (7 : Int32) ≤ (a3 : Int32) then
B_1_bitsBehind_45 a0 a1 a2 H
else
jg ((jK H a2).1 = 0) (
(if (jR H a2 5) = 0 then
B_1_bitsBehind_45 a0 a1 a2 H
else
jg ((jK H a2).1 = 0) (
jl (jR H a2 5) fun x18 =>
jl (a3 + 1) fun x19 =>
k21 a0 a1 x18 x19 H))))
def F_1_bitsBehind_21  : Nat → Nat → Nat → Nat → Int32 → jH → Option (Int32 × jH)
  | 0 => fun _ _ _ _ _ => none
  | n + 1 => fun a0 a1 a2 a3 H => B_1_bitsBehind_21 (F_1_bitsBehind_21  n) a0 a1 a2 a3 H
def F_1_bitsBehind (a0 : Nat) (a1 : Nat) (H : jH) : Option (Int32 × jH) :=
jg ((jK H a1).1 = 0) (
jg (¬ (8 : Int32) = 0) (
(if ((jrem ((jI H a1 6) + 1) 8) : Int32) = 0 then
F_1_bitsBehind_21 jfuel a0 a1 a1 0 H
else
jg ((jK H a1).1 = 0) (
some ((jI H a1 2), H)))))
def B_1_isAbove_49  (s0 : Int32) (H : jH) : Option (Int32 × jH) :=
jg ((s0 : Int32) = 0 ∨ (s0 : Int32) = 1) (some (s0, H))
def B_1_isAbove_24 (k3 : Nat → Nat → Int32 → jH → Option (Int32 × jH)) (a0 : Nat) (a1 : Nat) (a2 : Int32) (s0 : Int32) (H : jH) : Option (Int32 × jH) :=
jb (F_1_byteOf a1 a2 H) fun x1 h2 =>
(if (s0 : Int32) = (x1 : Int32) then
jl (a2 + (-1)) fun x3 =>
k3 a0 a1 x3 h2
else
(if (s0 : Int32) ≤ (x1 : Int32) then
B_1_isAbove_49 0 h2
else
B_1_isAbove_49 1 h2))
def B_1_isAbove_3 (k3 : Nat → Nat → Int32 → jH → Option (Int32 × jH)) (a0 : Nat) (a1 : Nat) (a2 : Int32) (H : jH) : Option (Int32 × jH) :=
(if (a2 : Int32) < 0 then
jg ((0 : Int32) = 0 ∨ (0 : Int32) = 1) (some (0, H))
else
jg ((jK H a0).1 = 101) (
(if ((Int32.ofNat (jK H a0).2) : Int32) ≤ (a2 : Int32) then
B_1_isAbove_24 k3 a0 a1 a2 0 H
else
jg ((jK H a0).1 = 101 ∧ jin (a2) (jK H a0).2) (
B_1_isAbove_24 k3 a0 a1 a2 ((jbs (jB H a0 (a2 : Int32).toNatClampNeg)) &&& 255) H))))
def F_1_isAbove_3  : Nat → Nat → Nat → Int32 → jH → Option (Int32 × jH)
  | 0 => fun _ _ _ _ => none
  | n + 1 => fun a0 a1 a2 H => B_1_isAbove_3 (F_1_isAbove_3  n) a0 a1 a2 H
def F_1_isAbove (a0 : Nat) (a1 : Nat) (H : jH) : Option (Int32 × jH) :=
F_1_isAbove_3 jfuel a0 a1 31 H
def B_1_median_64 (k4 : Nat → Int32 → Nat → jH → Option (Int64 × jH)) (a0 : Nat) (a2 : Int32) (a3 : Nat) (a4 : Int32) (H : jH) : Option (Int64 × jH) :=
jg ((jK H a0).1 = 1) (
jg ((jK H a3).1 = 0) (
jg ((jK H (jR H a0 14)).1 = 103 ∧ jin (a4) (jK H (jR H a0 14)).2) (
jl (jsL H (jR H a0 14) (a4 : Int32).toNatClampNeg (jL H a3 3)) fun h1 =>
jl (a2 + 1) fun x2 =>
jg ((jK h1 a3).1 = 0) (
jl (jR h1 a3 5) fun x3 =>
k4 a0 x2 x3 h1))))
def B_1_median_20 (k4 : Nat → Int32 → Nat → jH → Option (Int64 × jH)) (k20 : Nat → Int32 → Nat → Int32 → jH → Option (Int64 × jH)) (a0 : Nat) (a2 : Int32) (a3 : Nat) (a4 : Int32) (H : jH) : Option (Int64 × jH) :=
(if (a4 : Int32) ≤ 0 then
B_1_median_64 k4 a0 a2 a3 a4 H
else
jg ((jK H a0).1 = 1) (
jg ((jK H (jR H a0 14)).1 = 103 ∧ jin ((a4 - 1)) (jK H (jR H a0 14)).2) (
jg ((jK H a3).1 = 0) (
(if ((jL H (jR H a0 14) ((a4 - 1) : Int32).toNatClampNeg) : Int64) ≤ (jL H a3 3) then
B_1_median_64 k4 a0 a2 a3 a4 H
else
jg ((jK H a0).1 = 1) (
jg ((jK H a0).1 = 1) (
jg ((jK H (jR H a0 14)).1 = 103 ∧ jin ((a4 - 1)) (jK H (jR H a0 14)).2) (
jg ((jK H (jR H a0 14)).1 = 103 ∧ jin (a4) (jK H (jR H a0 14)).2) (
jl (jsL H (jR H a0 14) (a4 : Int32).toNatClampNeg (jL H (jR H a0 14) ((a4 - 1) : Int32).toNatClampNeg)) fun h4 =>
jl (a4 + (-1)) fun x5 =>
k20 a0 a2 a3 x5 h4)))))))))
def F_1_median_20 (k4 : Nat → Int32 → Nat → jH → Option (Int64 × jH)) : Nat → Nat → Int32 → Nat → Int32 → jH → Option (Int64 × jH)
  | 0 => fun _ _ _ _ _ => none
  | n + 1 => fun a0 a2 a3 a4 H => B_1_median_20 k4 (F_1_median_20 k4 n) a0 a2 a3 a4 H
def B_1_median_108  (s0 : Nat) (s1 : Int32) (H : jH) : Option (Int64 × jH) :=
jg ((jK H s0).1 = 103 ∧ jin (s1) (jK H s0).2) (
some ((jL H s0 (s1 : Int32).toNatClampNeg), H))
def B_1_median_86  (a0 : Nat) (a2 : Int32) (H : jH) : Option (Int64 × jH) :=
jg ((jK H a0).1 = 1) (
jg (¬ (2 : Int32) = 0) (
jg ((jK H a0).1 = 1) (
jg ((jK H (jR H a0 14)).1 = 103) (
(if ((Int32.ofNat (jK H (jR H a0 14)).2) : Int32) ≤ ((a2 / 2) : Int32) then
B_1_median_108 (jR H a0 14) 0 H
else
jg (¬ (2 : Int32) = 0) (
B_1_median_108 (jR H a0 14) (a2 / 2) H))))))
def B_1_median_4 (k4 : Nat → Int32 → Nat → jH → Option (Int64 × jH)) (a0 : Nat) (a2 : Int32) (a3 : Nat) (H : jH) : Option (Int64 × jH) :=
(if a3 = 0 then
B_1_median_86 a0 a2 H
else
jg ((jK H a0).1 = 1) (
jg ((jK H (jR H a0 14)).1 = 103) (
(if ((Int32.ofNat (jK H (jR H a0 14)).2) : Int32) ≤ (a2 : Int32) then
B_1_median_86 a0 a2 H
else
F_1_median_20 k4 jfuel a0 a2 a3 a2 H))))
def F_1_median_4  : Nat → Nat → Int32 → Nat → jH → Option (Int64 × jH)
  | 0 => fun _ _ _ _ => none
  | n + 1 => fun a0 a2 a3 H => B_1_median_4 (F_1_median_4  n) a0 a2 a3 H
def F_1_median (a0 : Nat) (a1 : Nat) (H : jH) : Option (Int64 × jH) :=
F_1_median_4 jfuel a0 0 a1 H
def B_1_refusal_184  (s0 : Int32) (H : jH) : Option (Int32 × jH) :=
some (s0, H)
def B_1_refusal_178   (H : jH) : Option (Int32 × jH) :=
B_1_refusal_184 30 H
def F_1_refusal (a0 : Nat) (a1 : Nat) (H : jH) : Option (Int32 × jH) :=
jg ((jK H a1).1 = 0) (
jg ((jK H a0).1 = 1) (
jb (F_1_find a0 (jR H a1 1) 0 H) fun x1 h2 =>
(if x1 = 0 then
jg ((jK h2 a1).1 = 0) (
jg ((jK h2 a0).1 = 1) (
jb (F_1_find a0 (jR h2 a1 0) 5 h2) fun x3 h4 =>
(if ¬ x3 = 0 then
jg ((jK h4 a1).1 = 0) (
jl (jsR h4 a1 5 x3) fun h5 =>
jg ((jK h5 x3).1 = 0) (
jg ((jK h5 a1).1 = 0) (
jl (jsI h5 a1 6 ((jI h5 x3 6) + 1)) fun h6 =>
jg ((jK h6 x3).1 = 0) (
(if ((jI h6 x3 7) : Int32) = 0 then
jg ((jK h6 a1).1 = 0) (
jg ((jK h6 a0).1 = 1) (
jb (F_1_bitsBehind a0 x3 h6) fun x7 h8 =>
(if ((jI h6 a1 2) : Int32) = (x7 : Int32) then
jg ((jK h8 a1).1 = 0) (
jg ((jK h8 a0).1 = 1) (
jb (F_1_median a0 x3 h8) fun x9 h10 =>
(if x9 < ((jL h8 a1 3) : Int64) then
jg ((jK h10 a0).1 = 1) (
jg ((jK h10 a1).1 = 0) (
jb (F_1_setTarget (jR h10 a0 11) (jI h10 a1 2) h10) fun x11 h12 =>
jg ((jK h12 a1).1 = 0) (
jg ((jK h12 a0).1 = 1) (
jb (F_1_isAbove (jR h12 a1 1) (jR h12 a0 11) h12) fun x13 h14 =>
(if (x13 : Int32) = 0 then
jg ((jK h14 a1).1 = 0) (
jb (F_0_isShaped a1 h14) fun x15 h16 =>
(if ¬ (x15 : Int32) = 0 then
jg ((jK h16 a0).1 = 1) (
jg ((jK h16 a0).1 = 1) (
jg ((jK h16 a0).1 = 1) (
jg ((jK h16 a1).1 = 0) (
jb (F_0_isRooted a1 (jR h16 a0 15) (jR h16 a0 16) (jR h16 a0 0) h16) fun x17 h18 =>
(if ¬ (x17 : Int32) = 0 then
jg ((jK h18 a1).1 = 0) (
jb (F_0_isFaulty a1 h18) fun x19 h20 =>
(if (x19 : Int32) = 0 then
jg ((jK h20 a0).1 = 1) (
(if (300 : Int32) ≤ ((jI h20 a0 4) : Int32) then
B_1_refusal_178 h20
else
jg ((jK h20 a1).1 = 0) (
(if ((jI h20 a1 6) : Int32) < (300 : Int32) then
B_1_refusal_184 0 h20
else
B_1_refusal_178 h20))))
else
some (28, h20)))
else
some (27, h18))))))
else
some (26, h16)))
else
some (25, h14))))))
else
some (24, h10))))
else
some (23, h8))))
else
some (22, h6))))))
else
some (21, h4))))
else
some (20, h2))))
def B_6_makeAnew_45 (k29 : Nat → Nat → Int32 → Int32 → Int32 → Int32 → jH → Option (Unit × jH)) (k45 : Nat → Nat → Int32 → Int32 → Int32 → Int32 → Int32 → jH → Option (Unit × jH)) (a0 : Nat) (a1 : Nat) (a2 : Int32) (a3 : Int32) (a4 : Int32) (a5 : Int32) (a6 : Int32) (H : jH) : Option (Unit × jH) :=
jg ((jK H a1).1 = 114 ∧ jin (a5) (jK H a1).2) (
jg ((jK H (jR H a1 (a5 : Int32).toNatClampNeg)).1 = 0) (
jg ((jK H (jR H (jR H a1 (a5 : Int32).toNatClampNeg) 4)).1 = 113) (
(if ((Int32.ofNat (jK H (jR H (jR H a1 (a5 : Int32).toNatClampNeg) 4)).2) : Int32) ≤ (a6 : Int32) then
jl (a5 + 1) fun x1 =>
k29 a0 a1 a2 a3 a4 x1 H
else
jg ((jK H a1).1 = 114 ∧ jin (a5) (jK H a1).2) (
jg ((jK H (jR H a1 (a5 : Int32).toNatClampNeg)).1 = 0) (
jg ((jK H (jR H (jR H a1 (a5 : Int32).toNatClampNeg) 4)).1 = 113 ∧ jin (a6) (jK H (jR H (jR H a1 (a5 : Int32).toNatClampNeg) 4)).2) (
jg ((jK H a0).1 = 6) (
jb (F_6_offer a0 (jR H (jR H (jR H a1 (a5 : Int32).toNatClampNeg) 4) (a6 : Int32).toNatClampNeg) a3 0 H) fun x2 h3 =>
jl (a6 + 1) fun x4 =>
k45 a0 a1 a2 a3 a4 a5 x4 h3))))))))
def F_6_makeAnew_45 (k29 : Nat → Nat → Int32 → Int32 → Int32 → Int32 → jH → Option (Unit × jH)) : Nat → Nat → Nat → Int32 → Int32 → Int32 → Int32 → Int32 → jH → Option (Unit × jH)
  | 0 => fun _ _ _ _ _ _ _ _ => none
  | n + 1 => fun a0 a1 a2 a3 a4 a5 a6 H => B_6_makeAnew_45 k29 (F_6_makeAnew_45 k29 n) a0 a1 a2 a3 a4 a5 a6 H
def B_6_makeAnew_90 (k90 : Nat → Int32 → Int32 → Int32 → jH → Option (Unit × jH)) (a0 : Nat) (a3 : Int32) (a4 : Int32) (a5 : Int32) (H : jH) : Option (Unit × jH) :=
(if (a4 : Int32) ≤ (a5 : Int32) then
some ((), H)
else
jg ((jK H a0).1 = 6) (
jg ((jK H (jR H a0 5)).1 = 113 ∧ jin (a5) (jK H (jR H a0 5)).2) (
jg ((jK H a0).1 = 6) (
jb (F_6_offer a0 (jR H (jR H a0 5) (a5 : Int32).toNatClampNeg) a3 0 H) fun x5 h6 =>
jl (a5 + 1) fun x7 =>
k90 a0 a3 a4 x7 h6))))
def F_6_makeAnew_90  : Nat → Nat → Int32 → Int32 → Int32 → jH → Option (Unit × jH)
  | 0 => fun _ _ _ _ _ => none
  | n + 1 => fun a0 a3 a4 a5 H => B_6_makeAnew_90 (F_6_makeAnew_90  n) a0 a3 a4 a5 H
def B_6_makeAnew_87  (a0 : Nat) (a3 : Int32) (a4 : Int32) (H : jH) : Option (Unit × jH) :=
F_6_makeAnew_90 jfuel a0 a3 a4 0 H
def B_6_makeAnew_29 (k29 : Nat → Nat → Int32 → Int32 → Int32 → Int32 → jH → Option (Unit × jH)) (a0 : Nat) (a1 : Nat) (a2 : Int32) (a3 : Int32) (a4 : Int32) (a5 : Int32) (H : jH) : Option (Unit × jH) :=
(if (a2 : Int32) ≤ (a5 : Int32) then
B_6_makeAnew_87 a0 a3 a4 H
else
jg ((jK H a1).1 = 114) (
(if ((Int32.ofNat (jK H a1).2) : Int32) ≤ (a5 : Int32) then
B_6_makeAnew_87 a0 a3 a4 H
else
F_6_makeAnew_45 k29 jfuel a0 a1 a2 a3 a4 a5 1 H)))
def F_6_makeAnew_29  : Nat → Nat → Nat → Int32 → Int32 → Int32 → Int32 → jH → Option (Unit × jH)
  | 0 => fun _ _ _ _ _ _ _ => none
  | n + 1 => fun a0 a1 a2 a3 a4 a5 H => B_6_makeAnew_29 (F_6_makeAnew_29  n) a0 a1 a2 a3 a4 a5 H
def F_6_makeAnew (a0 : Nat) (a1 : Nat) (a2 : Int32) (a3 : Int32) (H : jH) : Option (Unit × jH) :=
jg ((jK H a0).1 = 6) (
jl (jI H a0 4) fun x8 =>
jg ((jK H a0).1 = 6) (
jg ((jK H a0).1 = 6) (
jg (jcgR H 113 10 (jR H a0 2) (0) (jR H a0 5) (0) (x8)) (
jl (jcpR H (jR H a0 2) (0 : Int32).toNatClampNeg (jR H a0 5) (0 : Int32).toNatClampNeg (x8 : Int32).toNatClampNeg) fun h9 =>
jg ((jK h9 a0).1 = 6) (
jl (jsI h9 a0 4 0) fun h10 =>
F_6_makeAnew_29 jfuel a0 a1 a2 a3 x8 0 h10)))))
def F_A_copyOf (a0 : Nat) (a1 : Int32) (H : jH) : Option (Nat × jH) :=
jg ((jK H a0).1 = 101) (
(if ¬ (a1 : Int32) = ((Int32.ofNat (jK H a0).2) : Int32) then
jg (jgn (a1)) (
jnw H 101 (a1 : Int32).toNatClampNeg fun r1 h2 =>
jg ((jK h2 a0).1 = 101) (
jg (jcg h2 101 a0 (0) r1 (0) ((jminI (Int32.ofNat (jK h2 a0).2) a1))) (
jl (jcpB h2 a0 (0 : Int32).toNatClampNeg r1 (0 : Int32).toNatClampNeg ((jminI (Int32.ofNat (jK h2 a0).2) a1) : Int32).toNatClampNeg) fun h3 =>
some (r1, h3))))
else
jg ((jK H a0).1 = 101) (
jcl_ H a0 fun r4 h5 =>
jg ((jK h5 r4).1 = 101) (
some (r4, h5)))))
def B_11_send_31   (H : jH) : Option (Int32 × jH) :=
jg ((0 : Int32) = 0 ∨ (0 : Int32) = 1) (some (0, H))
def B_11_send_265   (H : jH) : Option (Int32 × jH) :=
jg ((1 : Int32) = 0 ∨ (1 : Int32) = 1) (some (1, H))
def B_11_send_225  (s0 : Nat) (s1 : Int32) (s2 : Nat) (s3 : Int32) (s4 : Int32) (H : jH) : Option (Int32 × jH) :=
jg ((jK H s0).1 = 11) (
jb (F_11_answerBlock s0 s1 s2 s3 s4 H) fun x1 h2 =>
B_11_send_265 h2)
def B_11_send_202  (a0 : Nat) (a1 : Int32) (a4 : Nat) (a5 : Nat) (a6 : Int32) (H : jH) : Option (Int32 × jH) :=
jg ((jK H a0).1 = 11) (
jg ((jK H (jR H a0 12)).1 = 1) (
jg (((jR H (jR H a0 12) 6) = 0 ∨ jF0 ≤ (jR H (jR H a0 12) 6)) ∧ (a4 = 0 ∨ jF0 ≤ a4)) (
(if (jR H (jR H a0 12) 6) = a4 then
B_11_send_225 a0 a1 a5 a6 0 H
else
B_11_send_225 a0 a1 a5 a6 1 H))))
def B_11_send_157  (a0 : Nat) (a1 : Int32) (a4 : Nat) (a5 : Nat) (a6 : Int32) (H : jH) : Option (Int32 × jH) :=
jg ((jK H a0).1 = 11) (
jg ((jK H (jR H a0 12)).1 = 1) (
jg (((jR H (jR H a0 12) 6) = 0 ∨ jF0 ≤ (jR H (jR H a0 12) 6)) ∧ (a4 = 0 ∨ jF0 ≤ a4)) (
(if (jR H (jR H a0 12) 6) = a4 then
B_11_send_202 a0 a1 a4 a5 a6 H
else
jg ((jK H a0).1 = 11) (
jg ((jK H a0).1 = 11) (
jg ((jK H (jR H a0 12)).1 = 1) (
jg ((jK H a0).1 = 11) (
jg ((jK H (jR H a0 12)).1 = 1) (
jg ((jK H a0).1 = 11) (
jg ((jK H (jR H a0 12)).1 = 1) (
jg ((jK H (jR H (jR H a0 12) 6)).1 = 0) (
jg ((jK H (jR H a0 13)).1 = 6) (
jb (F_6_makeAnew (jR H a0 13) (jR H (jR H a0 12) 9) (jI H (jR H a0 12) 10) ((jI H (jR H (jR H a0 12) 6) 6) + 1) H) fun x3 h4 =>
B_11_send_202 a0 a1 a4 a5 a6 h4)))))))))))))
def B_11_send_134  (a0 : Nat) (a1 : Int32) (a4 : Nat) (a5 : Nat) (s0 : Int32) (H : jH) : Option (Int32 × jH) :=
(if a5 = 0 then
B_11_send_157 a0 a1 a4 a5 s0 H
else
(if ¬ (s0 : Int32) = 0 then
B_11_send_157 a0 a1 a4 a5 s0 H
else
jg ((jK H a0).1 = 11) (
jg ((jK H (jR H a0 12)).1 = 1) (
jb (F_1_adopt (jR H a0 12) a5 H) fun x5 h6 =>
B_11_send_157 a0 a1 a4 a5 x5 h6))))
def F_11_send (a0 : Nat) (a1 : Int32) (a2 : Int32) (H : jH) : Option (Int32 × jH) :=
(if (a1 : Int32) < 0 then
B_11_send_31 H
else
(if (4 : Int32) ≤ (a1 : Int32) then
B_11_send_31 H
else
(if (a2 : Int32) < (1 : Int32) then
B_11_send_31 H
else
jg ((jK H a0).1 = 11) (
(if ((jI H a0 1) : Int32) < (a2 : Int32) then
B_11_send_31 H
else
jg ((jK H a0).1 = 11) (
jg ((jK H (jR H a0 0)).1 = 101) (
(if (a2 : Int32) ≤ ((Int32.ofNat (jK H (jR H a0 0)).2) : Int32) then
jg ((jK H a0).1 = 11) (
jb (F_A_copyOf (jR H a0 0) a2 H) fun x7 h8 =>
jg ((jK h8 a0).1 = 11) (
jl (jsI h8 a0 1 0) fun h9 =>
jg ((jK h9 x7).1 = 101 ∧ jin (0) (jK h9 x7).2) (
(if ((jbs (jB h9 x7 (0 : Int32).toNatClampNeg)) : Int32) = 1 then
jg ((jK h9 a0).1 = 11) (
jb (F_11_takeTransaction a0 a1 x7 h9) fun x10 h11 =>
B_11_send_265 h11)
else if ((jbs (jB h9 x7 (0 : Int32).toNatClampNeg)) : Int32) = 2 then
jg ((jK h9 a0).1 = 11) (
jg ((jK h9 (jR h9 a0 12)).1 = 1) (
jl (jR h9 (jR h9 a0 12) 6) fun x12 =>
jg ((jK h9 a0).1 = 11) (
jb (F_0_read x7 (jR h9 a0 9) h9) fun x13 h14 =>
(if ¬ x13 = 0 then
jg ((jK h14 a0).1 = 11) (
jg ((jK h14 (jR h14 a0 12)).1 = 1) (
jb (F_1_refusal (jR h14 a0 12) x13 h14) fun x15 h16 =>
B_11_send_134 a0 a1 x12 x13 x15 h16))
else
B_11_send_134 a0 a1 x12 x13 1 h14))))
else if ((jbs (jB h9 x7 (0 : Int32).toNatClampNeg)) : Int32) = 3 then
jg ((jK h9 a0).1 = 11) (
jb (F_11_answerWhatIsBehind a0 a1 x7 h9) fun x17 h18 =>
B_11_send_265 h18)
else if ((jbs (jB h9 x7 (0 : Int32).toNatClampNeg)) : Int32) = 4 then
jg ((jK h9 a0).1 = 11) (
jb (F_11_answerGive a0 a1 x7 h9) fun x19 h20 =>
B_11_send_265 h20)
else if ((jbs (jB h9 x7 (0 : Int32).toNatClampNeg)) : Int32) = 5 then
jg ((jK h9 a0).1 = 11) (
jb (F_11_answerVerdict a0 a1 1 0 h9) fun x21 h22 =>
B_11_send_265 h22)
else if ((jbs (jB h9 x7 (0 : Int32).toNatClampNeg)) : Int32) = 6 then
jg ((jK h9 a0).1 = 11) (
jb (F_11_answerIHave a0 a1 x7 h9) fun x23 h24 =>
B_11_send_265 h24)
else 
jg ((jK h9 a0).1 = 11) (
jb (F_11_answerVerdict a0 a1 1 0 h9) fun x25 h26 =>
B_11_send_265 h26)))))
else
B_11_send_31 H))))))))
def B_11_fetch_9   (H : jH) : Option (Int64 × jH) :=
some (0, H)
def B_11_fetch_80 (k29 : Nat → Int32 → Int32 → Int64 → Int32 → jH → Option (Int64 × jH)) (a0 : Nat) (a1 : Int32) (a2 : Int32) (a3 : Int64) (a5 : Int32) (a6 : Int32) (H : jH) : Option (Int64 × jH) :=
jl ((jshlL a3 8) ||| (Int32.toInt64 a6)) fun x1 =>
jl (a5 + 1) fun x2 =>
k29 a0 a1 a2 x1 x2 H
def B_11_fetch_29 (k29 : Nat → Int32 → Int32 → Int64 → Int32 → jH → Option (Int64 × jH)) (a0 : Nat) (a1 : Int32) (a2 : Int32) (a3 : Int64) (a5 : Int32) (H : jH) : Option (Int64 × jH) :=
(if (7 : Int32) ≤ (a5 : Int32) then
jg ((jK H a0).1 = 11) (
jg ((jK H a0).1 = 11) (
jg ((jK H (jR H a0 5)).1 = 100 ∧ jin (a1) (jK H (jR H a0 5)).2) (
jg (¬ (8000 : Int32) = 0) (
jg ((jK H (jR H a0 5)).1 = 100 ∧ jF0 ≤ (jR H a0 5) ∧ jin (a1) (jK H (jR H a0 5)).2) (
jl (jsI H (jR H a0 5) (a1 : Int32).toNatClampNeg (jrem ((jI H (jR H a0 5) (a1 : Int32).toNatClampNeg) + a2) 8000)) fun h3 =>
jg ((jK h3 a0).1 = 11) (
jg ((jK h3 (jR h3 a0 6)).1 = 100 ∧ jin (a1) (jK h3 (jR h3 a0 6)).2) (
jg ((jK h3 (jR h3 a0 6)).1 = 100 ∧ jF0 ≤ (jR h3 a0 6) ∧ jin (a1) (jK h3 (jR h3 a0 6)).2) (
jl (jsI h3 (jR h3 a0 6) (a1 : Int32).toNatClampNeg ((jI h3 (jR h3 a0 6) (a1 : Int32).toNatClampNeg) - a2)) fun h4 =>
some (a3, h4)))))))))
else
jg ((jK H a0).1 = 11) (
jg ((jK H (jR H a0 5)).1 = 100 ∧ jin (a1) (jK H (jR H a0 5)).2) (
jg (¬ (8000 : Int32) = 0) (
jl (jrem ((jI H (jR H a0 5) (a1 : Int32).toNatClampNeg) + a5) 8000) fun x5 =>
(if (a2 : Int32) ≤ (a5 : Int32) then
B_11_fetch_80 k29 a0 a1 a2 a3 a5 0 H
else
(if (x5 : Int32) < 0 then
B_11_fetch_80 k29 a0 a1 a2 a3 a5 0 H
else
jg ((jK H a0).1 = 11) (
jg ((jK H (jR H a0 4)).1 = 110 ∧ jin (a1) (jK H (jR H a0 4)).2) (
jg ((jK H (jR H (jR H a0 4) (a1 : Int32).toNatClampNeg)).1 = 101 ∧ jin (x5) (jK H (jR H (jR H a0 4) (a1 : Int32).toNatClampNeg)).2) (
jl ((jbs (jB H (jR H (jR H a0 4) (a1 : Int32).toNatClampNeg) (x5 : Int32).toNatClampNeg)) &&& 255) fun x6 =>
B_11_fetch_80 k29 a0 a1 a2 a3 a5 x6 H)))))))))
def F_11_fetch_29  : Nat → Nat → Int32 → Int32 → Int64 → Int32 → jH → Option (Int64 × jH)
  | 0 => fun _ _ _ _ _ _ => none
  | n + 1 => fun a0 a1 a2 a3 a5 H => B_11_fetch_29 (F_11_fetch_29  n) a0 a1 a2 a3 a5 H
def F_11_fetch (a0 : Nat) (a1 : Int32) (H : jH) : Option (Int64 × jH) :=
(if (a1 : Int32) < 0 then
B_11_fetch_9 H
else
(if (a1 : Int32) < (4 : Int32) then
jg ((jK H a0).1 = 11) (
jg ((jK H (jR H a0 6)).1 = 100 ∧ jin (a1) (jK H (jR H a0 6)).2) (
jl (jminI 7 (jI H (jR H a0 6) (a1 : Int32).toNatClampNeg)) fun x7 =>
jl (Int32.toInt64 x7) fun x8 =>
F_11_fetch_29 jfuel a0 a1 x7 x8 0 H))
else
B_11_fetch_9 H))
def B_11_block_22   (H : jH) : Option (Int64 × jH) :=
some (0, H)
def B_11_block_30 (k30 : Int32 → Nat → Int64 → Int32 → jH → Option (Int64 × jH)) (a2 : Int32) (a3 : Nat) (a4 : Int64) (a6 : Int32) (H : jH) : Option (Int64 × jH) :=
(if (8 : Int32) ≤ (a6 : Int32) then
some (a4, H)
else
jg ((jK H a3).1 = 0) (
jg ((jK H (jR H a3 1)).1 = 101 ∧ jin (((8 * a2) + a6)) (jK H (jR H a3 1)).2) (
jl ((jshlL a4 8) ||| (Int32.toInt64 ((jbs (jB H (jR H a3 1) (((8 * a2) + a6) : Int32).toNatClampNeg)) &&& 255))) fun x1 =>
jl (a6 + 1) fun x2 =>
k30 a2 a3 x1 x2 H)))
def F_11_block_30  : Nat → Int32 → Nat → Int64 → Int32 → jH → Option (Int64 × jH)
  | 0 => fun _ _ _ _ _ => none
  | n + 1 => fun a2 a3 a4 a6 H => B_11_block_30 (F_11_block_30  n) a2 a3 a4 a6 H
def F_11_block (a0 : Nat) (a1 : Int32) (a2 : Int32) (H : jH) : Option (Int64 × jH) :=
jg ((jK H a0).1 = 11) (
jg ((jK H (jR H a0 12)).1 = 1) (
jb (F_1_at (jR H a0 12) a1 H) fun x3 h4 =>
(if x3 = 0 then
B_11_block_22 h4
else
(if (a2 : Int32) < 0 then
B_11_block_22 h4
else
(if (a2 : Int32) ≤ (3 : Int32) then
F_11_block_30 jfuel a2 x3 0 0 h4
else
B_11_block_22 h4)))))
def B_11_key_3 (k3 : Nat → Int64 → Int64 → Int64 → Int64 → Int32 → Int32 → jH → Option (Unit × jH)) (a0 : Nat) (a1 : Int64) (a3 : Int64) (a5 : Int64) (a7 : Int64) (a9 : Int32) (a10 : Int32) (H : jH) : Option (Unit × jH) :=
(if (8 : Int32) ≤ (a10 : Int32) then
jg ((jK H a0).1 = 11) (
jl (jsI H a0 3 a9) fun h1 =>
some ((), h1))
else
jl (56 - (8 * a10)) fun x2 =>
jg ((jK H a0).1 = 11) (
jg ((jK H (jR H a0 2)).1 = 101 ∧ jin (a10) (jK H (jR H a0 2)).2) (
jl (jsB H (jR H a0 2) (a10 : Int32).toNatClampNeg (jbu (ji2b (Int64.toInt32 (jushrL a1 x2))))) fun h3 =>
jg ((jK h3 a0).1 = 11) (
jg ((jK h3 (jR h3 a0 2)).1 = 101 ∧ jin ((8 + a10)) (jK h3 (jR h3 a0 2)).2) (
jl (jsB h3 (jR h3 a0 2) ((8 + a10) : Int32).toNatClampNeg (jbu (ji2b (Int64.toInt32 (jushrL a3 x2))))) fun h4 =>
jg ((jK h4 a0).1 = 11) (
jg ((jK h4 (jR h4 a0 2)).1 = 101 ∧ jin ((16 + a10)) (jK h4 (jR h4 a0 2)).2) (
jl (jsB h4 (jR h4 a0 2) ((16 + a10) : Int32).toNatClampNeg (jbu (ji2b (Int64.toInt32 (jushrL a5 x2))))) fun h5 =>
jg ((jK h5 a0).1 = 11) (
jg ((jK h5 (jR h5 a0 2)).1 = 101 ∧ jin ((24 + a10)) (jK h5 (jR h5 a0 2)).2) (
jl (jsB h5 (jR h5 a0 2) ((24 + a10) : Int32).toNatClampNeg (jbu (ji2b (Int64.toInt32 (jushrL a7 x2))))) fun h6 =>
jl (a10 + 1) fun x7 =>
k3 a0 a1 a3 a5 a7 a9 x7 h6)))))))))
def F_11_key_3  : Nat → Nat → Int64 → Int64 → Int64 → Int64 → Int32 → Int32 → jH → Option (Unit × jH)
  | 0 => fun _ _ _ _ _ _ _ _ => none
  | n + 1 => fun a0 a1 a3 a5 a7 a9 a10 H => B_11_key_3 (F_11_key_3  n) a0 a1 a3 a5 a7 a9 a10 H
def F_11_key (a0 : Nat) (a1 : Int64) (a3 : Int64) (a5 : Int64) (a7 : Int64) (a9 : Int32) (H : jH) : Option (Unit × jH) :=
F_11_key_3 jfuel a0 a1 a3 a5 a7 a9 0 H
def B_11_value_35  (s0 : Int64) (H : jH) : Option (Int64 × jH) :=
some (s0, H)
def F_11_value (a0 : Nat) (H : jH) : Option (Int64 × jH) :=
jg ((jK H a0).1 = 11) (
jg ((jK H a0).1 = 11) (
jg ((jK H a0).1 = 11) (
jg ((jK H (jR H a0 11)).1 = 2) (
jb (F_2_find (jR H a0 11) (jR H a0 2) 0 (jI H a0 3) H) fun x1 h2 =>
(if 0 ≤ (x1 : Int32) then
jg ((jK h2 a0).1 = 11) (
jg ((jK h2 (jR h2 a0 11)).1 = 2) (
jb (F_2_worth (jR h2 a0 11) x1 h2) fun x3 h4 =>
B_11_value_35 x3 h4))
else
B_11_value_35 (-1) h2)))))
def F_11_total (a0 : Nat) (H : jH) : Option (Int64 × jH) :=
jg ((jK H a0).1 = 11) (
jg ((jK H (jR H a0 11)).1 = 2) (
some ((jL H (jR H a0 11) 5), H)))
def F_11_count (a0 : Nat) (a1 : Int32) (H : jH) : Option (Int32 × jH) :=
(if (a1 : Int32) = 0 then
jg ((jK H a0).1 = 11) (
jg ((jK H (jR H a0 12)).1 = 1) (
some ((jI H (jR H a0 12) 4), H)))
else if (a1 : Int32) = 1 then
jg ((jK H a0).1 = 11) (
jg ((jK H (jR H a0 12)).1 = 1) (
jg ((jK H (jR H (jR H a0 12) 6)).1 = 0) (
some ((jI H (jR H (jR H a0 12) 6) 6), H))))
else if (a1 : Int32) = 2 then
jg ((jK H a0).1 = 11) (
jg ((jK H (jR H a0 11)).1 = 2) (
some ((jI H (jR H a0 11) 3), H)))
else if (a1 : Int32) = 3 then
jg ((jK H a0).1 = 11) (
jg ((jK H (jR H a0 13)).1 = 6) (
some ((jI H (jR H a0 13) 4), H)))
else if (a1 : Int32) = 4 then
jg ((jK H a0).1 = 11) (
some ((jI H a0 1), H))
else if (a1 : Int32) = 5 then
jg ((jK H a0).1 = 11) (
jg ((jK H (jR H a0 12)).1 = 1) (
some ((jI H (jR H a0 12) 5), H)))
else 
some ((-1), H))
def F_L_constant (a0 : Int32) (H : jH) : Option (Int32 × jH) :=
(if (a0 : Int32) = 0 then
some (1116352408, H)
else if (a0 : Int32) = 1 then
some (1899447441, H)
else if (a0 : Int32) = 2 then
some ((-1245643825), H)
else if (a0 : Int32) = 3 then
some ((-373957723), H)
else if (a0 : Int32) = 4 then
some (961987163, H)
else if (a0 : Int32) = 5 then
some (1508970993, H)
else if (a0 : Int32) = 6 then
some ((-1841331548), H)
else if (a0 : Int32) = 7 then
some ((-1424204075), H)
else if (a0 : Int32) = 8 then
some ((-670586216), H)
else if (a0 : Int32) = 9 then
some (310598401, H)
else if (a0 : Int32) = 10 then
some (607225278, H)
else if (a0 : Int32) = 11 then
some (1426881987, H)
else if (a0 : Int32) = 12 then
some (1925078388, H)
else if (a0 : Int32) = 13 then
some ((-2132889090), H)
else if (a0 : Int32) = 14 then
some ((-1680079193), H)
else if (a0 : Int32) = 15 then
some ((-1046744716), H)
else if (a0 : Int32) = 16 then
some ((-459576895), H)
else if (a0 : Int32) = 17 then
some ((-272742522), H)
else if (a0 : Int32) = 18 then
some (264347078, H)
else if (a0 : Int32) = 19 then
some (604807628, H)
else if (a0 : Int32) = 20 then
some (770255983, H)
else if (a0 : Int32) = 21 then
some (1249150122, H)
else if (a0 : Int32) = 22 then
some (1555081692, H)
else if (a0 : Int32) = 23 then
some (1996064986, H)
else if (a0 : Int32) = 24 then
some ((-1740746414), H)
else if (a0 : Int32) = 25 then
some ((-1473132947), H)
else if (a0 : Int32) = 26 then
some ((-1341970488), H)
else if (a0 : Int32) = 27 then
some ((-1084653625), H)
else if (a0 : Int32) = 28 then
some ((-958395405), H)
else if (a0 : Int32) = 29 then
some ((-710438585), H)
else if (a0 : Int32) = 30 then
some (113926993, H)
else if (a0 : Int32) = 31 then
some (338241895, H)
else if (a0 : Int32) = 32 then
some (666307205, H)
else if (a0 : Int32) = 33 then
some (773529912, H)
else if (a0 : Int32) = 34 then
some (1294757372, H)
else if (a0 : Int32) = 35 then
some (1396182291, H)
else if (a0 : Int32) = 36 then
some (1695183700, H)
else if (a0 : Int32) = 37 then
some (1986661051, H)
else if (a0 : Int32) = 38 then
some ((-2117940946), H)
else if (a0 : Int32) = 39 then
some ((-1838011259), H)
else if (a0 : Int32) = 40 then
some ((-1564481375), H)
else if (a0 : Int32) = 41 then
some ((-1474664885), H)
else if (a0 : Int32) = 42 then
some ((-1035236496), H)
else if (a0 : Int32) = 43 then
some ((-949202525), H)
else if (a0 : Int32) = 44 then
some ((-778901479), H)
else if (a0 : Int32) = 45 then
some ((-694614492), H)
else if (a0 : Int32) = 46 then
some ((-200395387), H)
else if (a0 : Int32) = 47 then
some (275423344, H)
else if (a0 : Int32) = 48 then
some (430227734, H)
else if (a0 : Int32) = 49 then
some (506948616, H)
else if (a0 : Int32) = 50 then
some (659060556, H)
else if (a0 : Int32) = 51 then
some (883997877, H)
else if (a0 : Int32) = 52 then
some (958139571, H)
else if (a0 : Int32) = 53 then
some (1322822218, H)
else if (a0 : Int32) = 54 then
some (1537002063, H)
else if (a0 : Int32) = 55 then
some (1747873779, H)
else if (a0 : Int32) = 56 then
some (1955562222, H)
else if (a0 : Int32) = 57 then
some (2024104815, H)
else if (a0 : Int32) = 58 then
some ((-2067236844), H)
else if (a0 : Int32) = 59 then
some ((-1933114872), H)
else if (a0 : Int32) = 60 then
some ((-1866530822), H)
else if (a0 : Int32) = 61 then
some ((-1538233109), H)
else if (a0 : Int32) = 62 then
some ((-1090935817), H)
else 
some ((-965641998), H))
def F_L_right (a0 : Int32) (a1 : Int32) (H : jH) : Option (Int32 × jH) :=
some (((jushr a0 a1) ||| (jshl a0 (32 - a1))), H)
def B_L_work_248 (k28 : Nat → Int32 → jH → Option (Unit × jH)) (k248 : Nat → Int32 → Int32 → Int32 → Int32 → jH → Option (Unit × jH)) (a0 : Nat) (a2 : Int32) (a6 : Int32) (a7 : Int32) (a8 : Int32) (H : jH) : Option (Unit × jH) :=
(if (a8 : Int32) ≤ 0 then
jg ((jK H a0).1 = 100 ∧ jin (44) (jK H a0).2) (
jg ((jK H a0).1 = 100 ∧ jF0 ≤ a0 ∧ jin (44) (jK H a0).2) (
jl (jsI H a0 (44 : Int32).toNatClampNeg ((jI H a0 (44 : Int32).toNatClampNeg) + a6)) fun h1 =>
jg ((jK h1 a0).1 = 100 ∧ jF0 ≤ a0 ∧ jin (40) (jK h1 a0).2) (
jl (jsI h1 a0 (40 : Int32).toNatClampNeg (a6 + a7)) fun h2 =>
jl (a2 + 1) fun x3 =>
k28 a0 x3 h2)))
else
jg ((jK H a0).1 = 100 ∧ jin ((39 + a8)) (jK H a0).2) (
jg ((jK H a0).1 = 100 ∧ jF0 ≤ a0 ∧ jin ((40 + a8)) (jK H a0).2) (
jl (jsI H a0 ((40 + a8) : Int32).toNatClampNeg (jI H a0 ((39 + a8) : Int32).toNatClampNeg)) fun h4 =>
jl (a8 + (-1)) fun x5 =>
k248 a0 a2 a6 a7 x5 h4)))
def F_L_work_248 (k28 : Nat → Int32 → jH → Option (Unit × jH)) : Nat → Nat → Int32 → Int32 → Int32 → Int32 → jH → Option (Unit × jH)
  | 0 => fun _ _ _ _ _ _ => none
  | n + 1 => fun a0 a2 a6 a7 a8 H => B_L_work_248 k28 (F_L_work_248 k28 n) a0 a2 a6 a7 a8 H
def B_L_work_125 (k28 : Nat → Int32 → jH → Option (Unit × jH)) (a0 : Nat) (a2 : Int32) (a3 : Int32) (H : jH) : Option (Unit × jH) :=
jg ((jK H a0).1 = 100 ∧ jin (44) (jK H a0).2) (
jl (jI H a0 (44 : Int32).toNatClampNeg) fun x6 =>
jg ((jK H a0).1 = 100 ∧ jin (40) (jK H a0).2) (
jl (jI H a0 (40 : Int32).toNatClampNeg) fun x7 =>
jg ((jK H a0).1 = 100 ∧ jin (47) (jK H a0).2) (
jb (F_L_right x6 6 H) fun x8 h9 =>
jb (F_L_right x6 11 h9) fun x10 h11 =>
jb (F_L_right x6 25 h11) fun x12 h13 =>
jg ((jK h13 a0).1 = 100 ∧ jin (45) (jK h13 a0).2) (
jg ((jK h13 a0).1 = 100 ∧ jin (46) (jK h13 a0).2) (
jb (F_L_constant a2 h13) fun x14 h15 =>
jg ((jK h15 a0).1 = 100 ∧ jin (a3) (jK h15 a0).2) (
jl (((((jI H a0 (47 : Int32).toNatClampNeg) + ((x8 ^^^ x10) ^^^ x12)) + ((x6 &&& (jI h13 a0 (45 : Int32).toNatClampNeg)) ^^^ ((x6 ^^^ (-1)) &&& (jI h13 a0 (46 : Int32).toNatClampNeg)))) + x14) + (jI h15 a0 (a3 : Int32).toNatClampNeg)) fun x16 =>
jb (F_L_right x7 2 h15) fun x17 h18 =>
jb (F_L_right x7 13 h18) fun x19 h20 =>
jb (F_L_right x7 22 h20) fun x21 h22 =>
jg ((jK h22 a0).1 = 100 ∧ jin (41) (jK h22 a0).2) (
jg ((jK h22 a0).1 = 100 ∧ jin (42) (jK h22 a0).2) (
jg ((jK h22 a0).1 = 100 ∧ jin (41) (jK h22 a0).2) (
jg ((jK h22 a0).1 = 100 ∧ jin (42) (jK h22 a0).2) (
jl (((x17 ^^^ x19) ^^^ x21) + (((x7 &&& (jI h22 a0 (41 : Int32).toNatClampNeg)) ^^^ (x7 &&& (jI h22 a0 (42 : Int32).toNatClampNeg))) ^^^ ((jI h22 a0 (41 : Int32).toNatClampNeg) &&& (jI h22 a0 (42 : Int32).toNatClampNeg)))) fun x23 =>
F_L_work_248 k28 jfuel a0 a2 x16 x23 7 h22))))))))))
def B_L_work_301 (k301 : Nat → Int32 → jH → Option (Unit × jH)) (a0 : Nat) (a2 : Int32) (H : jH) : Option (Unit × jH) :=
(if (8 : Int32) ≤ (a2 : Int32) then
some ((), H)
else
jg ((jK H a0).1 = 100 ∧ jin ((32 + a2)) (jK H a0).2) (
jg ((jK H a0).1 = 100 ∧ jin ((40 + a2)) (jK H a0).2) (
jg ((jK H a0).1 = 100 ∧ jF0 ≤ a0 ∧ jin ((32 + a2)) (jK H a0).2) (
jl (jsI H a0 ((32 + a2) : Int32).toNatClampNeg ((jI H a0 ((32 + a2) : Int32).toNatClampNeg) + (jI H a0 ((40 + a2) : Int32).toNatClampNeg))) fun h24 =>
jl (a2 + 1) fun x25 =>
k301 a0 x25 h24))))
def F_L_work_301  : Nat → Nat → Int32 → jH → Option (Unit × jH)
  | 0 => fun _ _ _ => none
  | n + 1 => fun a0 a2 H => B_L_work_301 (F_L_work_301  n) a0 a2 H
def B_L_work_28 (k28 : Nat → Int32 → jH → Option (Unit × jH)) (a0 : Nat) (a2 : Int32) (H : jH) : Option (Unit × jH) :=
(if (64 : Int32) ≤ (a2 : Int32) then
F_L_work_301 jfuel a0 0 H
else
jg (¬ (16 : Int32) = 0) (
jl (jrem a2 16) fun x26 =>
(if (a2 : Int32) ≤ (15 : Int32) then
B_L_work_125 k28 a0 a2 x26 H
else
jg (¬ (16 : Int32) = 0) (
jg ((jK H a0).1 = 100 ∧ jin ((jrem (a2 + 1) 16)) (jK H a0).2) (
jl (jI H a0 ((jrem (a2 + 1) 16) : Int32).toNatClampNeg) fun x27 =>
jg (¬ (16 : Int32) = 0) (
jg ((jK H a0).1 = 100 ∧ jin ((jrem (a2 + 14) 16)) (jK H a0).2) (
jl (jI H a0 ((jrem (a2 + 14) 16) : Int32).toNatClampNeg) fun x28 =>
jg ((jK H a0).1 = 100 ∧ jin (x26) (jK H a0).2) (
jb (F_L_right x27 7 H) fun x29 h30 =>
jb (F_L_right x27 18 h30) fun x31 h32 =>
jg (¬ (16 : Int32) = 0) (
jg ((jK h32 a0).1 = 100 ∧ jin ((jrem (a2 + 9) 16)) (jK h32 a0).2) (
jb (F_L_right x28 17 h32) fun x33 h34 =>
jb (F_L_right x28 19 h34) fun x35 h36 =>
jg ((jK h36 a0).1 = 100 ∧ jF0 ≤ a0 ∧ jin (x26) (jK h36 a0).2) (
jl (jsI h36 a0 (x26 : Int32).toNatClampNeg ((((jI H a0 (x26 : Int32).toNatClampNeg) + ((x29 ^^^ x31) ^^^ (jushr x27 3))) + (jI h32 a0 ((jrem (a2 + 9) 16) : Int32).toNatClampNeg)) + ((x33 ^^^ x35) ^^^ (jushr x28 10)))) fun h37 =>
B_L_work_125 k28 a0 a2 x26 h37)))))))))))
def F_L_work_28  : Nat → Nat → Int32 → jH → Option (Unit × jH)
  | 0 => fun _ _ _ => none
  | n + 1 => fun a0 a2 H => B_L_work_28 (F_L_work_28  n) a0 a2 H
def B_L_work_2 (k2 : Nat → Int32 → jH → Option (Unit × jH)) (a0 : Nat) (a2 : Int32) (H : jH) : Option (Unit × jH) :=
(if (8 : Int32) ≤ (a2 : Int32) then
F_L_work_28 jfuel a0 0 H
else
jg ((jK H a0).1 = 100 ∧ jin ((32 + a2)) (jK H a0).2) (
jg ((jK H a0).1 = 100 ∧ jF0 ≤ a0 ∧ jin ((40 + a2)) (jK H a0).2) (
jl (jsI H a0 ((40 + a2) : Int32).toNatClampNeg (jI H a0 ((32 + a2) : Int32).toNatClampNeg)) fun h38 =>
jl (a2 + 1) fun x39 =>
k2 a0 x39 h38)))
def F_L_work_2  : Nat → Nat → Int32 → jH → Option (Unit × jH)
  | 0 => fun _ _ _ => none
  | n + 1 => fun a0 a2 H => B_L_work_2 (F_L_work_2  n) a0 a2 H
def F_L_work (a0 : Nat) (a1 : Nat) (H : jH) : Option (Unit × jH) :=
F_L_work_2 jfuel a0 0 H
def F_L_begin (a0 : Nat) (H : jH) : Option (Unit × jH) :=
jg ((jK H a0).1 = 100 ∧ jF0 ≤ a0 ∧ jin (48) (jK H a0).2) (
jl (jsI H a0 (48 : Int32).toNatClampNeg 0) fun h1 =>
jg ((jK h1 a0).1 = 100 ∧ jF0 ≤ a0 ∧ jin (49) (jK h1 a0).2) (
jl (jsI h1 a0 (49 : Int32).toNatClampNeg 0) fun h2 =>
jg ((jK h2 a0).1 = 100 ∧ jF0 ≤ a0 ∧ jin (32) (jK h2 a0).2) (
jl (jsI h2 a0 (32 : Int32).toNatClampNeg 1779033703) fun h3 =>
jg ((jK h3 a0).1 = 100 ∧ jF0 ≤ a0 ∧ jin (33) (jK h3 a0).2) (
jl (jsI h3 a0 (33 : Int32).toNatClampNeg (-1150833019)) fun h4 =>
jg ((jK h4 a0).1 = 100 ∧ jF0 ≤ a0 ∧ jin (34) (jK h4 a0).2) (
jl (jsI h4 a0 (34 : Int32).toNatClampNeg 1013904242) fun h5 =>
jg ((jK h5 a0).1 = 100 ∧ jF0 ≤ a0 ∧ jin (35) (jK h5 a0).2) (
jl (jsI h5 a0 (35 : Int32).toNatClampNeg (-1521486534)) fun h6 =>
jg ((jK h6 a0).1 = 100 ∧ jF0 ≤ a0 ∧ jin (36) (jK h6 a0).2) (
jl (jsI h6 a0 (36 : Int32).toNatClampNeg 1359893119) fun h7 =>
jg ((jK h7 a0).1 = 100 ∧ jF0 ≤ a0 ∧ jin (37) (jK h7 a0).2) (
jl (jsI h7 a0 (37 : Int32).toNatClampNeg (-1694144372)) fun h8 =>
jg ((jK h8 a0).1 = 100 ∧ jF0 ≤ a0 ∧ jin (38) (jK h8 a0).2) (
jl (jsI h8 a0 (38 : Int32).toNatClampNeg 528734635) fun h9 =>
jg ((jK h9 a0).1 = 100 ∧ jF0 ≤ a0 ∧ jin (39) (jK h9 a0).2) (
jl (jsI h9 a0 (39 : Int32).toNatClampNeg 1541459225) fun h10 =>
some ((), h10)))))))))))
def B_L_add_75   (H : jH) : Option (Unit × jH) :=
some ((), H)
def F_L_add (a0 : Nat) (a1 : Nat) (a2 : Int32) (H : jH) : Option (Unit × jH) :=
jg ((jK H a0).1 = 100 ∧ jin (48) (jK H a0).2) (
jg (¬ (64 : Int32) = 0) (
jl (jrem (jI H a0 (48 : Int32).toNatClampNeg) 64) fun x1 =>
jg (¬ (4 : Int32) = 0) (
jg (¬ (4 : Int32) = 0) (
jg ((jK H a0).1 = 100 ∧ jin ((x1 / 4)) (jK H a0).2) (
jg (¬ (4 : Int32) = 0) (
jg (¬ (4 : Int32) = 0) (
jg ((jK H a0).1 = 100 ∧ jF0 ≤ a0 ∧ jin ((x1 / 4)) (jK H a0).2) (
jl (jsI H a0 ((x1 / 4) : Int32).toNatClampNeg (((jI H a0 ((x1 / 4) : Int32).toNatClampNeg) &&& ((jshl 255 (24 - (8 * (jrem x1 4)))) ^^^ (-1))) ||| (jshl (a2 &&& 255) (24 - (8 * (jrem x1 4)))))) fun h2 =>
jg ((jK h2 a0).1 = 100 ∧ jin (48) (jK h2 a0).2) (
jg ((jK h2 a0).1 = 100 ∧ jF0 ≤ a0 ∧ jin (48) (jK h2 a0).2) (
jl (jsI h2 a0 (48 : Int32).toNatClampNeg ((jI h2 a0 (48 : Int32).toNatClampNeg) + 1)) fun h3 =>
jg ((jK h3 a0).1 = 100 ∧ jin (48) (jK h3 a0).2) (
jg (¬ (64 : Int32) = 0) (
(if ¬ ((jrem (jI h3 a0 (48 : Int32).toNatClampNeg) 64) : Int32) = 0 then
B_L_add_75 h3
else
jb (F_L_work a0 a1 h3) fun x4 h5 =>
B_L_add_75 h5)))))))))))))
def B_L_end_65 (k39 : Nat → Nat → Int32 → Int32 → jH → Option (Unit × jH)) (a0 : Nat) (a1 : Nat) (a2 : Int32) (a3 : Int32) (s0 : Nat) (s1 : Nat) (s2 : Int32) (H : jH) : Option (Unit × jH) :=
jb (F_L_add s0 s1 s2 H) fun x1 h2 =>
jl (a3 + 1) fun x3 =>
k39 a0 a1 a2 x3 h2
def B_L_end_39 (k39 : Nat → Nat → Int32 → Int32 → jH → Option (Unit × jH)) (a0 : Nat) (a1 : Nat) (a2 : Int32) (a3 : Int32) (H : jH) : Option (Unit × jH) :=
(if (8 : Int32) ≤ (a3 : Int32) then
some ((), H)
else
(if (4 : Int32) ≤ (a3 : Int32) then
B_L_end_65 k39 a0 a1 a2 a3 a0 a1 (jshr a2 (56 - (8 * a3))) H
else
B_L_end_65 k39 a0 a1 a2 a3 a0 a1 0 H))
def F_L_end_39  : Nat → Nat → Nat → Int32 → Int32 → jH → Option (Unit × jH)
  | 0 => fun _ _ _ _ _ => none
  | n + 1 => fun a0 a1 a2 a3 H => B_L_end_39 (F_L_end_39  n) a0 a1 a2 a3 H
def B_L_end_16 (k16 : Nat → Nat → Int32 → jH → Option (Unit × jH)) (a0 : Nat) (a1 : Nat) (a2 : Int32) (H : jH) : Option (Unit × jH) :=
jg ((jK H a0).1 = 100 ∧ jin (48) (jK H a0).2) (
jg (¬ (64 : Int32) = 0) (
(if ((jrem (jI H a0 (48 : Int32).toNatClampNeg) 64) : Int32) = (56 : Int32) then
F_L_end_39 jfuel a0 a1 a2 0 H
else
jb (F_L_add a0 a1 0 H) fun x4 h5 =>
k16 a0 a1 a2 h5)))
def F_L_end_16  : Nat → Nat → Nat → Int32 → jH → Option (Unit × jH)
  | 0 => fun _ _ _ _ => none
  | n + 1 => fun a0 a1 a2 H => B_L_end_16 (F_L_end_16  n) a0 a1 a2 H
def F_L_end (a0 : Nat) (a1 : Nat) (H : jH) : Option (Unit × jH) :=
jg ((jK H a0).1 = 100 ∧ jin (48) (jK H a0).2) (
jl (8 * (jI H a0 (48 : Int32).toNatClampNeg)) fun x6 =>
jb (F_L_add a0 a1 128 H) fun x7 h8 =>
F_L_end_16 jfuel a0 a1 x6 h8)
def B_L_keep_2 (k2 : Nat → Nat → Int32 → Int32 → jH → Option (Unit × jH)) (a0 : Nat) (a1 : Nat) (a2 : Int32) (a3 : Int32) (H : jH) : Option (Unit × jH) :=
(if (4 : Int32) ≤ (a3 : Int32) then
some ((), H)
else
jg ((jK H a0).1 = 100 ∧ jin ((32 + (2 * a3))) (jK H a0).2) (
jg ((jK H a0).1 = 100 ∧ jin ((33 + (2 * a3))) (jK H a0).2) (
jg ((jK H a1).1 = 103 ∧ jin (((32 + (4 * a2)) + a3)) (jK H a1).2) (
jl (jsL H a1 (((32 + (4 * a2)) + a3) : Int32).toNatClampNeg ((jshlL (Int32.toInt64 (jI H a0 ((32 + (2 * a3)) : Int32).toNatClampNeg)) 32) ||| ((Int32.toInt64 (jI H a0 ((33 + (2 * a3)) : Int32).toNatClampNeg)) &&& 4294967295))) fun h1 =>
jl (a3 + 1) fun x2 =>
k2 a0 a1 a2 x2 h1))))
def F_L_keep_2  : Nat → Nat → Nat → Int32 → Int32 → jH → Option (Unit × jH)
  | 0 => fun _ _ _ _ _ => none
  | n + 1 => fun a0 a1 a2 a3 H => B_L_keep_2 (F_L_keep_2  n) a0 a1 a2 a3 H
def F_L_keep (a0 : Nat) (a1 : Nat) (a2 : Int32) (H : jH) : Option (Unit × jH) :=
F_L_keep_2 jfuel a0 a1 a2 0 H
def B_L_name_17 (k17 : Nat → Nat → Int32 → Int32 → jH → Option (Unit × jH)) (a0 : Nat) (a1 : Nat) (a2 : Int32) (a3 : Int32) (H : jH) : Option (Unit × jH) :=
(if (32 : Int32) ≤ (a3 : Int32) then
jb (F_L_end a0 a1 H) fun x1 h2 =>
jb (F_L_keep a0 a1 a2 h2) fun x3 h4 =>
some ((), h4)
else
jg (¬ (8 : Int32) = 0) (
jg ((jK H a1).1 = 103 ∧ jin (((32 + (4 * a2)) + (a3 / 8))) (jK H a1).2) (
jg (¬ (8 : Int32) = 0) (
jb (F_L_add a0 a1 (Int64.toInt32 (jshrL (jL H a1 (((32 + (4 * a2)) + (a3 / 8)) : Int32).toNatClampNeg) (56 - (8 * (jrem a3 8))))) H) fun x5 h6 =>
jl (a3 + 1) fun x7 =>
k17 a0 a1 a2 x7 h6))))
def F_L_name_17  : Nat → Nat → Nat → Int32 → Int32 → jH → Option (Unit × jH)
  | 0 => fun _ _ _ _ _ => none
  | n + 1 => fun a0 a1 a2 a3 H => B_L_name_17 (F_L_name_17  n) a0 a1 a2 a3 H
def F_L_name (a0 : Nat) (a1 : Nat) (a2 : Int32) (H : jH) : Option (Unit × jH) :=
jb (F_L_end a0 a1 H) fun x8 h9 =>
jb (F_L_keep a0 a1 a2 h9) fun x10 h11 =>
jb (F_L_begin a0 h11) fun x12 h13 =>
F_L_name_17 jfuel a0 a1 a2 0 h13
def F_L_fold (a0 : Int64) (a2 : Int64) (H : jH) : Option (Int64 × jH) :=
some ((((1000003 * a0) + a2) + 1), H)
def B_L_put_190 (k190 : Nat → Int32 → Int32 → jH → Option (Int32 × jH)) (a1 : Nat) (a6 : Int32) (a7 : Int32) (H : jH) : Option (Int32 × jH) :=
(if (56 : Int32) ≤ (a7 : Int32) then
jg ((a6 : Int32) = 0 ∨ (a6 : Int32) = 1) (some (a6, H))
else
jg ((jK H a1).1 = 100 ∧ jF0 ≤ a1 ∧ jin (a7) (jK H a1).2) (
jl (jsI H a1 (a7 : Int32).toNatClampNeg 0) fun h1 =>
jl (a7 + 1) fun x2 =>
k190 a1 a6 x2 h1))
def F_L_put_190  : Nat → Nat → Int32 → Int32 → jH → Option (Int32 × jH)
  | 0 => fun _ _ _ _ => none
  | n + 1 => fun a1 a6 a7 H => B_L_put_190 (F_L_put_190  n) a1 a6 a7 H
def B_L_put_104  (a0 : Nat) (a1 : Nat) (a3 : Int32) (a4 : Int32) (a5 : Int32) (s0 : Nat) (s1 : Int32) (s2 : Int32) (H : jH) : Option (Int32 × jH) :=
jg ((jK H s0).1 = 100 ∧ jF0 ≤ s0 ∧ jin (s1) (jK H s0).2) (
jl (jsI H s0 (s1 : Int32).toNatClampNeg s2) fun h3 =>
jg ((jK h3 a1).1 = 100 ∧ jin (a5) (jK h3 a1).2) (
jg (¬ (4 : Int32) = 0) (
jg ((jK h3 a1).1 = 100 ∧ jF0 ≤ a1 ∧ jin (a5) (jK h3 a1).2) (
jl (jsI h3 a1 (a5 : Int32).toNatClampNeg ((jI h3 a1 (a5 : Int32).toNatClampNeg) ||| (jshl (a3 &&& 255) (24 - (8 * (jrem a4 4)))))) fun h4 =>
jg ((jK h4 a1).1 = 100 ∧ jin (48) (jK h4 a1).2) (
jg ((jK h4 a1).1 = 100 ∧ jF0 ≤ a1 ∧ jin (48) (jK h4 a1).2) (
jl (jsI h4 a1 (48 : Int32).toNatClampNeg ((jI h4 a1 (48 : Int32).toNatClampNeg) + 1)) fun h5 =>
jg (¬ (20 : Int32) = 0) (
jg ((jK h5 a1).1 = 100 ∧ jF0 ≤ a1 ∧ jin (50) (jK h5 a1).2) (
jl (jsI h5 a1 (50 : Int32).toNatClampNeg (jrem (a4 + 1) 20)) fun h6 =>
(if (19 : Int32) ≤ (a4 : Int32) then
jg ((jK h6 a1).1 = 100 ∧ jin (51) (jK h6 a1).2) (
jg ((jK h6 a1).1 = 100 ∧ jin (52) (jK h6 a1).2) (
jg ((jK h6 a1).1 = 100 ∧ jin (53) (jK h6 a1).2) (
jg ((jK h6 a1).1 = 100 ∧ jin (54) (jK h6 a1).2) (
jg ((jK h6 a1).1 = 100 ∧ jin (55) (jK h6 a1).2) (
jg ((jK h6 a0).1 = 11) (
jb (F_11_feed a0 (jI h6 a1 (51 : Int32).toNatClampNeg) (jI h6 a1 (52 : Int32).toNatClampNeg) (jI h6 a1 (53 : Int32).toNatClampNeg) (jI h6 a1 (54 : Int32).toNatClampNeg) (jI h6 a1 (55 : Int32).toNatClampNeg) h6) fun x7 h8 =>
F_L_put_190 jfuel a1 x7 51 h8))))))
else
jg ((1 : Int32) = 0 ∨ (1 : Int32) = 1) (some (1, h6)))))))))))
def F_L_put (a0 : Nat) (a1 : Nat) (a2 : Nat) (a3 : Int32) (H : jH) : Option (Int32 × jH) :=
jg ((jK H a1).1 = 100 ∧ jin (49) (jK H a1).2) (
(if ¬ ((jI H a1 (49 : Int32).toNatClampNeg) : Int32) = 0 then
jg ((jK H a1).1 = 100 ∧ jin (49) (jK H a1).2) (
(if ¬ ((jI H a1 (49 : Int32).toNatClampNeg) : Int32) = (2 : Int32) then
jg ((jK H a1).1 = 100 ∧ jin (50) (jK H a1).2) (
jl (jI H a1 (50 : Int32).toNatClampNeg) fun x9 =>
jg (¬ (4 : Int32) = 0) (
jl (51 + (x9 / 4)) fun x10 =>
jg (¬ (4 : Int32) = 0) (
(if ¬ ((jrem x9 4) : Int32) = 0 then
jg ((jK H a1).1 = 100 ∧ jin (x10) (jK H a1).2) (
B_L_put_104 a0 a1 a3 x9 x10 a1 x10 (jI H a1 (x10 : Int32).toNatClampNeg) H)
else
B_L_put_104 a0 a1 a3 x9 x10 a1 x10 0 H))))
else
jg ((jK H a1).1 = 100 ∧ jin (56) (jK H a1).2) (
jg ((jK H a1).1 = 100 ∧ jin (57) (jK H a1).2) (
jb (F_L_fold ((jshlL (Int32.toInt64 (jI H a1 (56 : Int32).toNatClampNeg)) 32) ||| ((Int32.toInt64 (jI H a1 (57 : Int32).toNatClampNeg)) &&& 4294967295)) ((Int32.toInt64 a3) &&& 255) H) fun x11 h12 =>
jg ((jK h12 a1).1 = 100 ∧ jF0 ≤ a1 ∧ jin (56) (jK h12 a1).2) (
jl (jsI h12 a1 (56 : Int32).toNatClampNeg (Int64.toInt32 (jshrL x11 32))) fun h13 =>
jg ((jK h13 a1).1 = 100 ∧ jF0 ≤ a1 ∧ jin (57) (jK h13 a1).2) (
jl (jsI h13 a1 (57 : Int32).toNatClampNeg (Int64.toInt32 x11)) fun h14 =>
jg ((1 : Int32) = 0 ∨ (1 : Int32) = 1) (some (1, h14))))))))
else
jb (F_L_add a1 a2 a3 H) fun x15 h16 =>
jg ((1 : Int32) = 0 ∨ (1 : Int32) = 1) (some (1, h16))))
