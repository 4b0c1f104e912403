def B_13_signature_19   (H : jH) : Option (Int32 × jH) :=
some ((-1), H)
def B_13_signature_59   (H : jH) : Option (Int32 × jH) :=
some (0, H)
def B_13_signature_85   (H : jH) : Option (Int32 × jH) :=
some (0, H)
def F_13_signature (a0 : Nat) (a1 : Int32) (a2 : Int32) (H : jH) : Option (Int32 × jH) :=
jb (F_13_isRegister a1 H) fun x1 h2 =>
(if (x1 : Int32) = 0 then
B_13_signature_19 h2
else
jb (F_13_isRegister a2 h2) fun x3 h4 =>
(if (x3 : Int32) = 0 then
B_13_signature_19 h4
else
(if ¬ (a1 : Int32) = (a2 : Int32) then
jg ((jK h4 a0).1 = 13) (
jl (jI h4 a0 6) fun x5 =>
jg ((jK h4 a0).1 = 13) (
jl (jsI h4 a0 6 0) fun h6 =>
(if (x5 : Int32) < (2 : Int32) then
B_13_signature_59 h6
else
jg ((jK h6 a0).1 = 13) (
jg ((jK h6 (jR h6 a0 5)).1 = 100 ∧ jin (0) (jK h6 (jR h6 a0 5)).2) (
(if ¬ ((jI h6 (jR h6 a0 5) (0 : Int32).toNatClampNeg) : Int32) = (48 : Int32) then
B_13_signature_59 h6
else
jg ((jK h6 a0).1 = 13) (
jg ((jK h6 (jR h6 a0 5)).1 = 100 ∧ jin (1) (jK h6 (jR h6 a0 5)).2) (
(if ((jI h6 (jR h6 a0 5) (1 : Int32).toNatClampNeg) : Int32) = ((x5 - 2) : Int32) then
jg ((jK h6 a0).1 = 13) (
jb (F_13_numberEnd a0 2 x5 h6) fun x7 h8 =>
(if (x7 : Int32) < 0 then
B_13_signature_85 h8
else
jg ((jK h8 a0).1 = 13) (
jb (F_13_numberEnd a0 x7 x5 h8) fun x9 h10 =>
(if (x9 : Int32) = (x5 : Int32) then
jg ((jK h10 a0).1 = 13) (
jb (F_13_read a0 a1 4 (x7 - 4) h10) fun x11 h12 =>
jg ((jK h12 a0).1 = 13) (
jb (F_13_read a0 a2 (x7 + 2) ((x5 - x7) - 2) h12) fun x13 h14 =>
some (1, h14)))
else
B_13_signature_85 h10))))
else
B_13_signature_59 h6)))))))))
else
B_13_signature_19 h4)))
def B_15_word_5 (k5 : Nat → Int32 → Int64 → Int32 → jH → Option (Int64 × jH)) (a0 : Nat) (a1 : Int32) (a2 : Int64) (a4 : Int32) (H : jH) : Option (Int64 × jH) :=
(if (8 : Int32) ≤ (a4 : Int32) then
some (a2, H)
else
jg ((jK H a0).1 = 15) (
jg ((jK H (jR H a0 9)).1 = 101 ∧ jin (((8 * a1) + a4)) (jK H (jR H a0 9)).2) (
jl ((jshlL a2 8) ||| (Int32.toInt64 ((jbs (jB H (jR H a0 9) (((8 * a1) + a4) : Int32).toNatClampNeg)) &&& 255))) fun x1 =>
jl (a4 + 1) fun x2 =>
k5 a0 a1 x1 x2 H)))
def F_15_word_5  : Nat → Nat → Int32 → Int64 → Int32 → jH → Option (Int64 × jH)
  | 0 => fun _ _ _ _ _ => none
  | n + 1 => fun a0 a1 a2 a4 H => B_15_word_5 (F_15_word_5  n) a0 a1 a2 a4 H
def F_15_word (a0 : Nat) (a1 : Int32) (H : jH) : Option (Int64 × jH) :=
F_15_word_5 jfuel a0 a1 0 0 H
def B_15_copy_3 (k3 : Nat → Nat → Int32 → Int32 → Int32 → jH → Option (Unit × jH)) (a0 : Nat) (a1 : Nat) (a2 : Int32) (a3 : Int32) (a4 : Int32) (H : jH) : Option (Unit × jH) :=
(if (a3 : Int32) ≤ (a4 : Int32) then
jg ((jK H a0).1 = 15) (
jg ((jK H a0).1 = 15) (
jl (jsI H a0 8 ((jI H a0 8) + a3)) fun h1 =>
some ((), h1)))
else
jg ((jK H a0).1 = 15) (
jg ((jK H a0).1 = 15) (
jg ((jK H a1).1 = 101 ∧ jin ((a2 + a4)) (jK H a1).2) (
jg ((jK H (jR H a0 7)).1 = 101 ∧ jin (((jI H a0 8) + a4)) (jK H (jR H a0 7)).2) (
jl (jsB H (jR H a0 7) (((jI H a0 8) + a4) : Int32).toNatClampNeg (jbu (jbs (jB H a1 ((a2 + a4) : Int32).toNatClampNeg)))) fun h2 =>
jl (a4 + 1) fun x3 =>
k3 a0 a1 a2 a3 x3 h2)))))
def F_15_copy_3  : Nat → Nat → Nat → Int32 → Int32 → Int32 → jH → Option (Unit × jH)
  | 0 => fun _ _ _ _ _ _ => none
  | n + 1 => fun a0 a1 a2 a3 a4 H => B_15_copy_3 (F_15_copy_3  n) a0 a1 a2 a3 a4 H
def F_15_copy (a0 : Nat) (a1 : Nat) (a2 : Int32) (a3 : Int32) (H : jH) : Option (Unit × jH) :=
F_15_copy_3 jfuel a0 a1 a2 a3 0 H
def B_15_fill_2 (k2 : Nat → Int32 → Int32 → Int32 → jH → Option (Unit × jH)) (a0 : Nat) (a1 : Int32) (a2 : Int32) (a3 : Int32) (H : jH) : Option (Unit × jH) :=
(if (a2 : Int32) ≤ (a3 : Int32) then
jg ((jK H a0).1 = 15) (
jg ((jK H a0).1 = 15) (
jl (jsI H a0 8 ((jI H a0 8) + a2)) fun h1 =>
some ((), h1)))
else
jg ((jK H a0).1 = 15) (
jg ((jK H a0).1 = 15) (
jg ((jK H (jR H a0 7)).1 = 101 ∧ jin (((jI H a0 8) + a3)) (jK H (jR H a0 7)).2) (
jl (jsB H (jR H a0 7) (((jI H a0 8) + a3) : Int32).toNatClampNeg (jbu (ji2b a1))) fun h2 =>
jl (a3 + 1) fun x3 =>
k2 a0 a1 a2 x3 h2))))
def F_15_fill_2  : Nat → Nat → Int32 → Int32 → Int32 → jH → Option (Unit × jH)
  | 0 => fun _ _ _ _ _ => none
  | n + 1 => fun a0 a1 a2 a3 H => B_15_fill_2 (F_15_fill_2  n) a0 a1 a2 a3 H
def F_15_fill (a0 : Nat) (a1 : Int32) (a2 : Int32) (H : jH) : Option (Unit × jH) :=
F_15_fill_2 jfuel a0 a1 a2 0 H
def B_15_write_213 (k65 : Nat → Int32 → Int32 → Int32 → Int32 → jH → Option (Unit × jH)) (a0 : Nat) (a1 : Int32) (a2 : Int32) (a3 : Int32) (a4 : Int32) (H : jH) : Option (Unit × jH) :=
jl (a4 + 1) fun x1 =>
k65 a0 a1 a2 a3 x1 H
def B_15_write_182 (k65 : Nat → Int32 → Int32 → Int32 → Int32 → jH → Option (Unit × jH)) (a0 : Nat) (a1 : Int32) (a2 : Int32) (a3 : Int32) (a4 : Int32) (H : jH) : Option (Unit × jH) :=
jg ((jK H a0).1 = 15) (
jb (F_15_fill a0 0 4 H) fun x2 h3 =>
B_15_write_213 k65 a0 a1 a2 a3 a4 h3)
def B_15_write_191 (k65 : Nat → Int32 → Int32 → Int32 → Int32 → jH → Option (Unit × jH)) (a0 : Nat) (a1 : Int32) (a2 : Int32) (a3 : Int32) (a4 : Int32) (H : jH) : Option (Unit × jH) :=
jg ((jK H a0).1 = 15) (
jg ((jK H (jR H a0 2)).1 = 17) (
jg ((jK H a0).1 = 15) (
jg ((jK H (jR H a0 2)).1 = 17) (
jg ((jK H (jR H (jR H a0 2) 11)).1 = 100 ∧ jin (a4) (jK H (jR H (jR H a0 2) 11)).2) (
jg ((jK H a0).1 = 15) (
jb (F_15_copy a0 (jR H (jR H a0 2) 0) (jI H (jR H (jR H a0 2) 11) (a4 : Int32).toNatClampNeg) 4 H) fun x4 h5 =>
B_15_write_213 k65 a0 a1 a2 a3 a4 h5))))))
def B_15_write_163 (k65 : Nat → Int32 → Int32 → Int32 → Int32 → jH → Option (Unit × jH)) (a0 : Nat) (a1 : Int32) (a2 : Int32) (a3 : Int32) (a4 : Int32) (H : jH) : Option (Unit × jH) :=
jg ((jK H a0).1 = 15) (
(if (a4 : Int32) = ((jI H a0 3) : Int32) then
B_15_write_191 k65 a0 a1 a2 a3 a4 H
else
(if (a2 : Int32) = (2 : Int32) then
B_15_write_182 k65 a0 a1 a2 a3 a4 H
else
(if ¬ (a2 : Int32) = (3 : Int32) then
B_15_write_191 k65 a0 a1 a2 a3 a4 H
else
B_15_write_182 k65 a0 a1 a2 a3 a4 H))))
def B_15_write_134 (k65 : Nat → Int32 → Int32 → Int32 → Int32 → jH → Option (Unit × jH)) (a0 : Nat) (a1 : Int32) (a2 : Int32) (a3 : Int32) (a4 : Int32) (s0 : Nat) (s1 : Int32) (H : jH) : Option (Unit × jH) :=
jg ((jK H s0).1 = 15) (
jb (F_15_fill s0 s1 1 H) fun x6 h7 =>
jg ((jK h7 a0).1 = 15) (
(if ¬ (a4 : Int32) = ((jI h7 a0 3) : Int32) then
B_15_write_163 k65 a0 a1 a2 a3 a4 h7
else
jg ((jK h7 a0).1 = 15) (
jg ((jK h7 a0).1 = 15) (
jg ((jK h7 a0).1 = 15) (
jg ((jK h7 a0).1 = 15) (
jb (F_15_copy a0 (jR h7 a0 4) (jI h7 a0 5) (jI h7 a0 6) h7) fun x8 h9 =>
B_15_write_163 k65 a0 a1 a2 a3 a4 h9)))))))
def B_15_write_93 (k65 : Nat → Int32 → Int32 → Int32 → Int32 → jH → Option (Unit × jH)) (a0 : Nat) (a1 : Int32) (a2 : Int32) (a3 : Int32) (a4 : Int32) (H : jH) : Option (Unit × jH) :=
jg ((jK H a0).1 = 15) (
jg ((jK H (jR H a0 2)).1 = 17) (
jg ((jK H a0).1 = 15) (
jg ((jK H (jR H a0 2)).1 = 17) (
jg ((jK H (jR H (jR H a0 2) 7)).1 = 100 ∧ jin (a4) (jK H (jR H (jR H a0 2) 7)).2) (
jg ((jK H a0).1 = 15) (
jb (F_15_copy a0 (jR H (jR H a0 2) 0) (jI H (jR H (jR H a0 2) 7) (a4 : Int32).toNatClampNeg) 36 H) fun x10 h11 =>
jg ((jK h11 a0).1 = 15) (
(if ¬ (a4 : Int32) = ((jI h11 a0 3) : Int32) then
B_15_write_134 k65 a0 a1 a2 a3 a4 a0 0 h11
else
jg ((jK h11 a0).1 = 15) (
B_15_write_134 k65 a0 a1 a2 a3 a4 a0 (jI h11 a0 6) h11)))))))))
def B_15_write_384 (k261 : Nat → Int32 → Int32 → Int32 → Int32 → jH → Option (Unit × jH)) (a0 : Nat) (a1 : Int32) (a2 : Int32) (a4 : Int32) (a5 : Int32) (H : jH) : Option (Unit × jH) :=
jl (a5 + 1) fun x12 =>
k261 a0 a1 a2 a4 x12 H
def B_15_write_303 (k261 : Nat → Int32 → Int32 → Int32 → Int32 → jH → Option (Unit × jH)) (k303 : Nat → Int32 → Int32 → Int32 → Int32 → Int32 → jH → Option (Unit × jH)) (a0 : Nat) (a1 : Int32) (a2 : Int32) (a4 : Int32) (a5 : Int32) (a6 : Int32) (H : jH) : Option (Unit × jH) :=
(if (8 : Int32) ≤ (a6 : Int32) then
jg ((jK H a0).1 = 15) (
jg ((jK H (jR H a0 2)).1 = 17) (
jg ((jK H (jR H (jR H a0 2) 14)).1 = 100 ∧ jin (a5) (jK H (jR H (jR H a0 2) 14)).2) (
jg ((jK H a0).1 = 15) (
jb (F_15_fill a0 (jI H (jR H (jR H a0 2) 14) (a5 : Int32).toNatClampNeg) 1 H) fun x13 h14 =>
jg ((jK h14 a0).1 = 15) (
jg ((jK h14 (jR h14 a0 2)).1 = 17) (
jg ((jK h14 a0).1 = 15) (
jg ((jK h14 (jR h14 a0 2)).1 = 17) (
jg ((jK h14 (jR h14 (jR h14 a0 2) 13)).1 = 100 ∧ jin (a5) (jK h14 (jR h14 (jR h14 a0 2) 13)).2) (
jg ((jK h14 a0).1 = 15) (
jg ((jK h14 (jR h14 a0 2)).1 = 17) (
jg ((jK h14 (jR h14 (jR h14 a0 2) 14)).1 = 100 ∧ jin (a5) (jK h14 (jR h14 (jR h14 a0 2) 14)).2) (
jg ((jK h14 a0).1 = 15) (
jb (F_15_copy a0 (jR h14 (jR h14 a0 2) 0) (jI h14 (jR h14 (jR h14 a0 2) 13) (a5 : Int32).toNatClampNeg) (jI h14 (jR h14 (jR h14 a0 2) 14) (a5 : Int32).toNatClampNeg) h14) fun x15 h16 =>
B_15_write_384 k261 a0 a1 a2 a4 a5 h16)))))))))))))
else
jg ((jK H a0).1 = 15) (
jg ((jK H (jR H a0 2)).1 = 17) (
jg ((jK H (jR H (jR H a0 2) 12)).1 = 103 ∧ jin (a5) (jK H (jR H (jR H a0 2) 12)).2) (
jg ((jK H a0).1 = 15) (
jb (F_15_fill a0 (Int64.toInt32 (jshrL (jL H (jR H (jR H a0 2) 12) (a5 : Int32).toNatClampNeg) (8 * a6))) 1 H) fun x17 h18 =>
jl (a6 + 1) fun x19 =>
k303 a0 a1 a2 a4 a5 x19 h18)))))
def F_15_write_303 (k261 : Nat → Int32 → Int32 → Int32 → Int32 → jH → Option (Unit × jH)) : Nat → Nat → Int32 → Int32 → Int32 → Int32 → Int32 → jH → Option (Unit × jH)
  | 0 => fun _ _ _ _ _ _ _ => none
  | n + 1 => fun a0 a1 a2 a4 a5 a6 H => B_15_write_303 k261 (F_15_write_303 k261 n) a0 a1 a2 a4 a5 a6 H
def B_15_write_300 (k261 : Nat → Int32 → Int32 → Int32 → Int32 → jH → Option (Unit × jH)) (a0 : Nat) (a1 : Int32) (a2 : Int32) (a4 : Int32) (a5 : Int32) (H : jH) : Option (Unit × jH) :=
F_15_write_303 k261 jfuel a0 a1 a2 a4 a5 0 H
def B_15_write_261 (k261 : Nat → Int32 → Int32 → Int32 → Int32 → jH → Option (Unit × jH)) (a0 : Nat) (a1 : Int32) (a2 : Int32) (a4 : Int32) (a5 : Int32) (H : jH) : Option (Unit × jH) :=
(if (a4 : Int32) ≤ (a5 : Int32) then
jg ((jK H a0).1 = 15) (
jg ((jK H (jR H a0 2)).1 = 17) (
jg ((jK H a0).1 = 15) (
jg ((jK H (jR H a0 2)).1 = 17) (
jg ((jK H a0).1 = 15) (
jb (F_15_copy a0 (jR H (jR H a0 2) 0) ((jI H (jR H a0 2) 3) - 4) 4 H) fun x20 h21 =>
jg ((jK h21 a0).1 = 15) (
jb (F_15_fill a0 a1 1 h21) fun x22 h23 =>
jg ((jK h23 a0).1 = 15) (
jb (F_15_fill a0 0 3 h23) fun x24 h25 =>
some ((), h25))))))))
else
(if ¬ (a2 : Int32) = (3 : Int32) then
B_15_write_300 k261 a0 a1 a2 a4 a5 H
else
jg ((jK H a0).1 = 15) (
(if ((jI H a0 3) : Int32) ≤ (a5 : Int32) then
B_15_write_300 k261 a0 a1 a2 a4 a5 H
else
jg ((jK H a0).1 = 15) (
jb (F_15_fill a0 255 8 H) fun x26 h27 =>
jg ((jK h27 a0).1 = 15) (
jb (F_15_fill a0 0 1 h27) fun x28 h29 =>
B_15_write_384 k261 a0 a1 a2 a4 a5 h29))))))
def F_15_write_261  : Nat → Nat → Int32 → Int32 → Int32 → Int32 → jH → Option (Unit × jH)
  | 0 => fun _ _ _ _ _ _ => none
  | n + 1 => fun a0 a1 a2 a4 a5 H => B_15_write_261 (F_15_write_261  n) a0 a1 a2 a4 a5 H
def B_15_write_249  (a0 : Nat) (a1 : Int32) (a2 : Int32) (s0 : Int32) (H : jH) : Option (Unit × jH) :=
jg ((jK H a0).1 = 15) (
jb (F_15_fill a0 s0 1 H) fun x30 h31 =>
F_15_write_261 jfuel a0 a1 a2 s0 0 h31)
def B_15_write_65 (k65 : Nat → Int32 → Int32 → Int32 → Int32 → jH → Option (Unit × jH)) (a0 : Nat) (a1 : Int32) (a2 : Int32) (a3 : Int32) (a4 : Int32) (H : jH) : Option (Unit × jH) :=
jg ((jK H a0).1 = 15) (
jg ((jK H (jR H a0 2)).1 = 17) (
(if ((jI H (jR H a0 2) 4) : Int32) ≤ (a4 : Int32) then
(if ¬ (a2 : Int32) = (2 : Int32) then
(if ¬ (a2 : Int32) = (3 : Int32) then
jg ((jK H a0).1 = 15) (
jg ((jK H (jR H a0 2)).1 = 17) (
B_15_write_249 a0 a1 a2 (jI H (jR H a0 2) 5) H))
else
jg ((jK H a0).1 = 15) (
B_15_write_249 a0 a1 a2 ((jI H a0 3) + 1) H))
else
B_15_write_249 a0 a1 a2 0 H)
else
(if (a3 : Int32) = 0 then
B_15_write_93 k65 a0 a1 a2 a3 a4 H
else
jg ((jK H a0).1 = 15) (
(if (a4 : Int32) = ((jI H a0 3) : Int32) then
B_15_write_93 k65 a0 a1 a2 a3 a4 H
else
B_15_write_213 k65 a0 a1 a2 a3 a4 H))))))
def F_15_write_65  : Nat → Nat → Int32 → Int32 → Int32 → Int32 → jH → Option (Unit × jH)
  | 0 => fun _ _ _ _ _ _ => none
  | n + 1 => fun a0 a1 a2 a3 a4 H => B_15_write_65 (F_15_write_65  n) a0 a1 a2 a3 a4 H
def B_15_write_58  (a0 : Nat) (a1 : Int32) (a2 : Int32) (a3 : Int32) (s0 : Nat) (s1 : Int32) (H : jH) : Option (Unit × jH) :=
jg ((jK H s0).1 = 15) (
jb (F_15_fill s0 s1 1 H) fun x32 h33 =>
F_15_write_65 jfuel a0 a1 a2 a3 0 h33)
def B_15_write_17  (a0 : Nat) (a1 : Int32) (a2 : Int32) (s0 : Int32) (H : jH) : Option (Unit × jH) :=
jg ((jK H a0).1 = 15) (
jl (jsI H a0 8 0) fun h34 =>
jg ((jK h34 a0).1 = 15) (
jg ((jK h34 (jR h34 a0 2)).1 = 17) (
jg ((jK h34 a0).1 = 15) (
jg ((jK h34 (jR h34 a0 2)).1 = 17) (
jg ((jK h34 a0).1 = 15) (
jb (F_15_copy a0 (jR h34 (jR h34 a0 2) 0) (jI h34 (jR h34 a0 2) 1) 4 h34) fun x35 h36 =>
(if (s0 : Int32) = 0 then
jg ((jK h36 a0).1 = 15) (
jg ((jK h36 (jR h36 a0 2)).1 = 17) (
B_15_write_58 a0 a1 a2 s0 a0 (jI h36 (jR h36 a0 2) 4) h36))
else
B_15_write_58 a0 a1 a2 s0 a0 1 h36)))))))
def F_15_write (a0 : Nat) (a1 : Int32) (H : jH) : Option (Unit × jH) :=
jl (a1 &&& 31) fun x37 =>
(if (a1 : Int32) < (128 : Int32) then
B_15_write_17 a0 a1 x37 0 H
else
B_15_write_17 a0 a1 x37 1 H)
def B_15_fits_24   (H : jH) : Option (Int32 × jH) :=
jg ((0 : Int32) = 0 ∨ (0 : Int32) = 1) (some (0, H))
def B_15_fits_242  (s0 : Int32) (H : jH) : Option (Int32 × jH) :=
jg ((s0 : Int32) = 0 ∨ (s0 : Int32) = 1) (some (s0, H))
def B_15_fits_222  (a0 : Nat) (H : jH) : Option (Int32 × jH) :=
jg ((jK H a0).1 = 15) (
jg ((jK H (jR H a0 1)).1 = 13) (
jb (F_13_fits (jR H a0 1) 0 0 1 2 H) fun x1 h2 =>
(if ¬ (x1 : Int32) = (1 : Int32) then
B_15_fits_242 0 h2
else
B_15_fits_242 1 h2)))
def B_15_fits_166  (a0 : Nat) (a5 : Int32) (H : jH) : Option (Int32 × jH) :=
jg ((jK H a0).1 = 15) (
jb (F_15_write a0 a5 H) fun x3 h4 =>
jg ((jK h4 a0).1 = 15) (
jg ((jK h4 a0).1 = 15) (
jg ((jK h4 a0).1 = 15) (
jg ((jK h4 a0).1 = 15) (
jg ((jK h4 (jR h4 a0 0)).1 = 12) (
jb (F_12_name (jR h4 a0 0) (jR h4 a0 7) 0 (jI h4 a0 8) (jR h4 a0 9) 0 h4) fun x5 h6 =>
jg ((jK h6 a0).1 = 15) (
jg ((jK h6 a0).1 = 15) (
jb (F_15_word a0 0 h6) fun x7 h8 =>
jg ((jK h8 a0).1 = 15) (
jb (F_15_word a0 1 h8) fun x9 h10 =>
jg ((jK h10 a0).1 = 15) (
jb (F_15_word a0 2 h10) fun x11 h12 =>
jg ((jK h12 a0).1 = 15) (
jb (F_15_word a0 3 h12) fun x13 h14 =>
jg ((jK h14 (jR h6 a0 1)).1 = 13) (
jb (F_13_set (jR h6 a0 1) 2 x7 x9 x11 x13 h14) fun x15 h16 =>
B_15_fits_222 a0 h16))))))))))))
def B_15_fits_73 (k73 : Nat → Nat → Int32 → Int32 → jH → Option (Int32 × jH)) (a0 : Nat) (a1 : Nat) (a2 : Int32) (a5 : Int32) (H : jH) : Option (Int32 × jH) :=
(if ((a2 - 1) : Int32) ≤ (a5 : Int32) then
jg ((jK H a0).1 = 15) (
jg ((jK H (jR H a0 1)).1 = 13) (
jb (F_13_signature (jR H a0 1) 0 1 H) fun x17 h18 =>
(if (x17 : Int32) = (1 : Int32) then
jg ((jK h18 a1).1 = 101 ∧ jin ((a2 - 1)) (jK h18 a1).2) (
jl ((jbs (jB h18 a1 ((a2 - 1) : Int32).toNatClampNeg)) &&& 255) fun x19 =>
(if ¬ ((x19 &&& 31) : Int32) = (3 : Int32) then
B_15_fits_166 a0 x19 h18
else
jg ((jK h18 a0).1 = 15) (
jg ((jK h18 a0).1 = 15) (
jg ((jK h18 (jR h18 a0 2)).1 = 17) (
(if ((jI h18 a0 3) : Int32) < ((jI h18 (jR h18 a0 2) 5) : Int32) then
B_15_fits_166 a0 x19 h18
else
jg ((jK h18 a0).1 = 15) (
jg ((jK h18 (jR h18 a0 1)).1 = 13) (
jb (F_13_set (jR h18 a0 1) 2 0 0 0 1 h18) fun x20 h21 =>
B_15_fits_222 a0 h21))))))))
else
jg ((0 : Int32) = 0 ∨ (0 : Int32) = 1) (some (0, h18)))))
else
jg ((jK H a0).1 = 15) (
jg ((jK H a1).1 = 101 ∧ jin (a5) (jK H a1).2) (
jg ((jK H (jR H a0 1)).1 = 13) (
jb (F_13_put (jR H a0 1) (Int32.toInt64 (jbs (jB H a1 (a5 : Int32).toNatClampNeg))) 1 H) fun x22 h23 =>
jl (a5 + 1) fun x24 =>
k73 a0 a1 a2 x24 h23))))
def F_15_fits_73  : Nat → Nat → Nat → Int32 → Int32 → jH → Option (Int32 × jH)
  | 0 => fun _ _ _ _ _ => none
  | n + 1 => fun a0 a1 a2 a5 H => B_15_fits_73 (F_15_fits_73  n) a0 a1 a2 a5 H
def B_15_fits_29 (k29 : Nat → Nat → Int32 → Nat → Int32 → Int32 → jH → Option (Int32 × jH)) (a0 : Nat) (a1 : Nat) (a2 : Int32) (a3 : Nat) (a4 : Int32) (a5 : Int32) (H : jH) : Option (Int32 × jH) :=
(if (a4 : Int32) ≤ (a5 : Int32) then
jg ((jK H a0).1 = 15) (
jg ((jK H (jR H a0 1)).1 = 13) (
jb (F_13_key (jR H a0 1) 0 H) fun x25 h26 =>
(if (x25 : Int32) = (1 : Int32) then
F_15_fits_73 jfuel a0 a1 a2 0 h26
else
jg ((0 : Int32) = 0 ∨ (0 : Int32) = 1) (some (0, h26)))))
else
jg ((jK H a0).1 = 15) (
jg ((jK H a3).1 = 101 ∧ jin (a5) (jK H a3).2) (
jg ((jK H (jR H a0 1)).1 = 13) (
jb (F_13_put (jR H a0 1) (Int32.toInt64 (jbs (jB H a3 (a5 : Int32).toNatClampNeg))) 1 H) fun x27 h28 =>
jl (a5 + 1) fun x29 =>
k29 a0 a1 a2 a3 a4 x29 h28))))
def F_15_fits_29  : Nat → Nat → Nat → Int32 → Nat → Int32 → Int32 → jH → Option (Int32 × jH)
  | 0 => fun _ _ _ _ _ _ _ => none
  | n + 1 => fun a0 a1 a2 a3 a4 a5 H => B_15_fits_29 (F_15_fits_29  n) a0 a1 a2 a3 a4 a5 H
def F_15_fits (a0 : Nat) (a1 : Nat) (a2 : Int32) (a3 : Nat) (a4 : Int32) (H : jH) : Option (Int32 × jH) :=
(if (a2 : Int32) < (1 : Int32) then
B_15_fits_24 H
else
(if (73 : Int32) < (a2 : Int32) then
B_15_fits_24 H
else
(if (a4 : Int32) < (1 : Int32) then
B_15_fits_24 H
else
(if (a4 : Int32) ≤ (65 : Int32) then
F_15_fits_29 jfuel a0 a1 a2 a3 a4 0 H
else
B_15_fits_24 H))))
def B_14_fit_27 (k27 : Nat → Int32 → Int32 → Int32 → jH → Option (Int32 × jH)) (a0 : Nat) (a1 : Int32) (a2 : Int32) (a3 : Int32) (H : jH) : Option (Int32 × jH) :=
(if (120 : Int32) ≤ (a3 : Int32) then
jg ((jK H a0).1 = 14) (
jg ((jK H a0).1 = 14) (
jg ((jK H a0).1 = 14) (
jg ((jK H (jR H a0 1)).1 = 100 ∧ jin (a1) (jK H (jR H a0 1)).2) (
jg ((jK H a0).1 = 14) (
jg ((jK H a0).1 = 14) (
jg ((jK H (jR H a0 1)).1 = 100 ∧ jin (a2) (jK H (jR H a0 1)).2) (
jg ((jK H (jR H a0 16)).1 = 15) (
jb (F_15_fits (jR H a0 16) (jR H a0 12) (jI H (jR H a0 1) (a1 : Int32).toNatClampNeg) (jR H a0 13) (jI H (jR H a0 1) (a2 : Int32).toNatClampNeg) H) fun x1 h2 =>
jg ((x1 : Int32) = 0 ∨ (x1 : Int32) = 1) (some (x1, h2))))))))))
else
jg ((jK H a0).1 = 14) (
jg ((jK H a0).1 = 14) (
jg ((jK H (jR H a0 0)).1 = 100 ∧ jin (((120 * a1) + a3)) (jK H (jR H a0 0)).2) (
jg ((jK H (jR H a0 12)).1 = 101 ∧ jin (a3) (jK H (jR H a0 12)).2) (
jl (jsB H (jR H a0 12) (a3 : Int32).toNatClampNeg (jbu (ji2b (jI H (jR H a0 0) (((120 * a1) + a3) : Int32).toNatClampNeg)))) fun h3 =>
jg ((jK h3 a0).1 = 14) (
jg ((jK h3 a0).1 = 14) (
jg ((jK h3 (jR h3 a0 0)).1 = 100 ∧ jin (((120 * a2) + a3)) (jK h3 (jR h3 a0 0)).2) (
jg ((jK h3 (jR h3 a0 13)).1 = 101 ∧ jin (a3) (jK h3 (jR h3 a0 13)).2) (
jl (jsB h3 (jR h3 a0 13) (a3 : Int32).toNatClampNeg (jbu (ji2b (jI h3 (jR h3 a0 0) (((120 * a2) + a3) : Int32).toNatClampNeg)))) fun h4 =>
jl (a3 + 1) fun x5 =>
k27 a0 a1 a2 x5 h4)))))))))
def F_14_fit_27  : Nat → Nat → Int32 → Int32 → Int32 → jH → Option (Int32 × jH)
  | 0 => fun _ _ _ _ _ => none
  | n + 1 => fun a0 a1 a2 a3 H => B_14_fit_27 (F_14_fit_27  n) a0 a1 a2 a3 H
def F_14_fit (a0 : Nat) (a1 : Int32) (a2 : Int32) (H : jH) : Option (Int32 × jH) :=
jg ((jK H a0).1 = 14) (
(if ¬ ((jI H a0 8) : Int32) = 0 then
jg ((jK H a0).1 = 14) (
jg ((jK H a0).1 = 14) (
jl (jsI H a0 8 ((jI H a0 8) - 1)) fun h6 =>
F_14_fit_27 jfuel a0 a1 a2 0 h6))
else
jg ((jK H a0).1 = 14) (
jb (F_14_fails a0 13 H) fun x7 h8 =>
jg ((0 : Int32) = 0 ∨ (0 : Int32) = 1) (some (0, h8)))))
def B_14_one_55   (H : jH) : Option (Unit × jH) :=
some ((), H)
def F_14_one (a0 : Nat) (a1 : Int32) (H : jH) : Option (Unit × jH) :=
jg ((jK H a0).1 = 14) (
jb (F_14_has a0 2 H) fun x1 h2 =>
(if ¬ (x1 : Int32) = 0 then
jg ((jK h2 a0).1 = 14) (
jb (F_14_top a0 1 h2) fun x3 h4 =>
jg ((jK h4 a0).1 = 14) (
jb (F_14_top a0 0 h4) fun x5 h6 =>
jg ((jK h6 a0).1 = 14) (
jb (F_14_fit a0 x3 x5 h6) fun x7 h8 =>
jg ((jK h8 a0).1 = 14) (
(if ((jI h8 a0 6) : Int32) ≤ 0 then
jg ((jK h8 a0).1 = 14) (
jg ((jK h8 a0).1 = 14) (
jl (jsI h8 a0 2 ((jI h8 a0 2) - 2)) fun h9 =>
jg ((jK h9 a0).1 = 14) (
jb (F_14_pushTruth a0 x7 h9) fun x10 h11 =>
(if (a1 : Int32) = 0 then
B_14_one_55 h11
else
jg ((jK h11 a0).1 = 14) (
jb (F_14_mustBeTrue a0 h11) fun x12 h13 =>
B_14_one_55 h13)))))
else
some ((), h8))))))
else
some ((), h2)))
def B_14_several_29  (a0 : Nat) (H : jH) : Option (Unit × jH) :=
jg ((jK H a0).1 = 14) (
jb (F_14_fails a0 7 H) fun x1 h2 =>
some ((), h2))
def B_14_several_87   (H : jH) : Option (Unit × jH) :=
some ((), H)
def B_14_several_107  (a0 : Nat) (H : jH) : Option (Unit × jH) :=
jg ((jK H a0).1 = 14) (
jb (F_14_fails a0 7 H) fun x3 h4 =>
some ((), h4))
def B_14_several_198 (k139 : Nat → Int32 → Int32 → Int32 → Int32 → Int32 → jH → Option (Unit × jH)) (a0 : Nat) (a1 : Int32) (a2 : Int32) (a3 : Int32) (a4 : Int32) (s0 : Int32) (H : jH) : Option (Unit × jH) :=
jl (a4 + (-1)) fun x5 =>
k139 a0 a1 a2 a3 x5 s0 H
def B_14_several_250   (H : jH) : Option (Unit × jH) :=
some ((), H)
def B_14_several_239  (a0 : Nat) (a1 : Int32) (s0 : Nat) (s1 : Int32) (H : jH) : Option (Unit × jH) :=
jg ((jK H s0).1 = 14) (
jb (F_14_pushTruth s0 s1 H) fun x6 h7 =>
(if (a1 : Int32) = 0 then
B_14_several_250 h7
else
jg ((jK h7 a0).1 = 14) (
jb (F_14_mustBeTrue a0 h7) fun x8 h9 =>
B_14_several_250 h9)))
def B_14_several_206  (a0 : Nat) (a1 : Int32) (a2 : Int32) (a3 : Int32) (a5 : Int32) (H : jH) : Option (Unit × jH) :=
jg ((jK H a0).1 = 14) (
(if ((jI H a0 6) : Int32) ≤ 0 then
jg ((jK H a0).1 = 14) (
jg ((jK H a0).1 = 14) (
jl (jsI H a0 2 ((jI H a0 2) - ((a2 + a3) + 3))) fun h10 =>
(if ¬ (a5 : Int32) = 0 then
B_14_several_239 a0 a1 a0 0 h10
else
B_14_several_239 a0 a1 a0 1 h10)))
else
some ((), H)))
def B_14_several_139 (k139 : Nat → Int32 → Int32 → Int32 → Int32 → Int32 → jH → Option (Unit × jH)) (a0 : Nat) (a1 : Int32) (a2 : Int32) (a3 : Int32) (a4 : Int32) (a5 : Int32) (H : jH) : Option (Unit × jH) :=
(if (a5 : Int32) ≤ 0 then
B_14_several_206 a0 a1 a2 a3 a5 H
else
(if (a4 : Int32) < (a5 : Int32) then
B_14_several_206 a0 a1 a2 a3 a5 H
else
jg ((jK H a0).1 = 14) (
(if ¬ ((jI H a0 6) : Int32) = 0 then
B_14_several_206 a0 a1 a2 a3 a5 H
else
jg ((jK H a0).1 = 14) (
jb (F_14_top a0 ((((a2 + 1) + a3) - a5) + 1) H) fun x11 h12 =>
jg ((jK h12 a0).1 = 14) (
jb (F_14_top a0 ((a2 - a4) + 1) h12) fun x13 h14 =>
jg ((jK h14 a0).1 = 14) (
jb (F_14_fit a0 x11 x13 h14) fun x15 h16 =>
(if (x15 : Int32) = 0 then
B_14_several_198 k139 a0 a1 a2 a3 a4 a5 h16
else
B_14_several_198 k139 a0 a1 a2 a3 a4 (a5 - 1) h16))))))))
def F_14_several_139  : Nat → Nat → Int32 → Int32 → Int32 → Int32 → Int32 → jH → Option (Unit × jH)
  | 0 => fun _ _ _ _ _ _ _ => none
  | n + 1 => fun a0 a1 a2 a3 a4 a5 H => B_14_several_139 (F_14_several_139  n) a0 a1 a2 a3 a4 a5 H
def F_14_several (a0 : Nat) (a1 : Int32) (H : jH) : Option (Unit × jH) :=
jg ((jK H a0).1 = 14) (
jb (F_14_reads a0 0 H) fun x17 h18 =>
(if ¬ (x17 : Int32) = 0 then
jg ((jK h18 a0).1 = 14) (
(if ((jL h18 a0 11) : Int64) < 0 then
B_14_several_29 a0 h18
else
jg ((jK h18 a0).1 = 14) (
(if ((jL h18 a0 11) : Int64) ≤ 8 then
jg ((jK h18 a0).1 = 14) (
jl (Int64.toInt32 (jL h18 a0 11)) fun x19 =>
jg ((jK h18 a0).1 = 14) (
jg ((jK h18 a0).1 = 14) (
jl (jsI h18 a0 7 ((jI h18 a0 7) + x19)) fun h20 =>
jg ((jK h20 a0).1 = 14) (
(if ((jI h20 a0 7) : Int32) ≤ (100 : Int32) then
jg ((jK h20 a0).1 = 14) (
jb (F_14_has a0 (x19 + 1) h20) fun x21 h22 =>
(if (x21 : Int32) = 0 then
B_14_several_87 h22
else
jg ((jK h22 a0).1 = 14) (
jb (F_14_reads a0 (x19 + 1) h22) fun x23 h24 =>
(if ¬ (x23 : Int32) = 0 then
jg ((jK h24 a0).1 = 14) (
(if ((jL h24 a0 11) : Int64) < 0 then
B_14_several_107 a0 h24
else
jg ((jK h24 a0).1 = 14) (
(if ((jL h24 a0 11) : Int64) ≤ (Int32.toInt64 x19) then
jg ((jK h24 a0).1 = 14) (
jl (Int64.toInt32 (jL h24 a0 11)) fun x25 =>
jg ((jK h24 a0).1 = 14) (
jb (F_14_has a0 ((x19 + x25) + 3) h24) fun x26 h27 =>
(if ¬ (x26 : Int32) = 0 then
F_14_several_139 jfuel a0 a1 x19 x25 x19 x25 h27
else
some ((), h27))))
else
B_14_several_107 a0 h24))))
else
B_14_several_87 h24))))
else
jg ((jK h20 a0).1 = 14) (
jb (F_14_fails a0 3 h20) fun x28 h29 =>
some ((), h29)))))))
else
B_14_several_29 a0 h18))))
else
some ((), h18)))
def B_14_operation_266   (H : jH) : Option (Unit × jH) :=
some ((), H)
def B_14_operation_19  (a0 : Nat) (a1 : Int32) (H : jH) : Option (Unit × jH) :=
jg ((jK H a0).1 = 14) (
jb (F_14_moves a0 a1 H) fun x1 h2 =>
B_14_operation_266 h2)
def B_14_operation_54  (s0 : Nat) (s1 : Int32) (H : jH) : Option (Unit × jH) :=
jg ((jK H s0).1 = 14) (
jb (F_14_equal s0 s1 H) fun x3 h4 =>
B_14_operation_266 h4)
def B_14_operation_41  (a0 : Nat) (a1 : Int32) (H : jH) : Option (Unit × jH) :=
(if ¬ (a1 : Int32) = (136 : Int32) then
B_14_operation_54 a0 0 H
else
B_14_operation_54 a0 1 H)
def B_14_operation_88  (a0 : Nat) (a1 : Int32) (H : jH) : Option (Unit × jH) :=
jg ((jK H a0).1 = 14) (
jb (F_14_numberOfOne a0 a1 H) fun x5 h6 =>
B_14_operation_266 h6)
def B_14_operation_124  (a0 : Nat) (a1 : Int32) (H : jH) : Option (Unit × jH) :=
jg ((jK H a0).1 = 14) (
jb (F_14_numberOfTwo a0 a1 H) fun x7 h8 =>
B_14_operation_266 h8)
def B_14_operation_153  (a0 : Nat) (a1 : Int32) (H : jH) : Option (Unit × jH) :=
jg ((jK H a0).1 = 14) (
jb (F_14_digest a0 a1 H) fun x9 h10 =>
B_14_operation_266 h10)
def B_14_operation_188  (s0 : Nat) (s1 : Int32) (H : jH) : Option (Unit × jH) :=
jg ((jK H s0).1 = 14) (
jb (F_14_one s0 s1 H) fun x11 h12 =>
B_14_operation_266 h12)
def B_14_operation_175  (a0 : Nat) (a1 : Int32) (H : jH) : Option (Unit × jH) :=
(if ¬ (a1 : Int32) = (173 : Int32) then
B_14_operation_188 a0 0 H
else
B_14_operation_188 a0 1 H)
def B_14_operation_221  (s0 : Nat) (s1 : Int32) (H : jH) : Option (Unit × jH) :=
jg ((jK H s0).1 = 14) (
jb (F_14_several s0 s1 H) fun x13 h14 =>
B_14_operation_266 h14)
def B_14_operation_208  (a0 : Nat) (a1 : Int32) (H : jH) : Option (Unit × jH) :=
(if ¬ (a1 : Int32) = (175 : Int32) then
B_14_operation_221 a0 0 H
else
B_14_operation_221 a0 1 H)
def B_14_operation_161  (a0 : Nat) (a1 : Int32) (H : jH) : Option (Unit × jH) :=
(if (a1 : Int32) = (172 : Int32) then
B_14_operation_175 a0 a1 H
else
(if ¬ (a1 : Int32) = (173 : Int32) then
(if (a1 : Int32) = (174 : Int32) then
B_14_operation_208 a0 a1 H
else
(if ¬ (a1 : Int32) = (175 : Int32) then
(if ¬ (a1 : Int32) = (105 : Int32) then
(if ¬ (a1 : Int32) = (106 : Int32) then
(if (a1 : Int32) = (97 : Int32) then
B_14_operation_266 H
else
jg ((jK H a0).1 = 14) (
jb (F_14_fails a0 4 H) fun x15 h16 =>
B_14_operation_266 h16))
else
jg ((jK H a0).1 = 14) (
jb (F_14_fails a0 9 H) fun x17 h18 =>
B_14_operation_266 h18))
else
jg ((jK H a0).1 = 14) (
jb (F_14_mustBeTrue a0 H) fun x19 h20 =>
B_14_operation_266 h20))
else
B_14_operation_208 a0 a1 H))
else
B_14_operation_175 a0 a1 H))
def B_14_operation_132  (a0 : Nat) (a1 : Int32) (H : jH) : Option (Unit × jH) :=
(if (a1 : Int32) = (166 : Int32) then
B_14_operation_153 a0 a1 H
else
(if (a1 : Int32) < (168 : Int32) then
B_14_operation_161 a0 a1 H
else
(if (170 : Int32) < (a1 : Int32) then
B_14_operation_161 a0 a1 H
else
B_14_operation_153 a0 a1 H)))
def B_14_operation_96  (a0 : Nat) (a1 : Int32) (H : jH) : Option (Unit × jH) :=
(if (a1 : Int32) = (147 : Int32) then
B_14_operation_124 a0 a1 H
else
(if (a1 : Int32) = (148 : Int32) then
B_14_operation_124 a0 a1 H
else
(if (a1 : Int32) < (154 : Int32) then
B_14_operation_132 a0 a1 H
else
(if (165 : Int32) < (a1 : Int32) then
B_14_operation_132 a0 a1 H
else
B_14_operation_124 a0 a1 H))))
def B_14_operation_12  (a0 : Nat) (a1 : Int32) (H : jH) : Option (Unit × jH) :=
(if ¬ (a1 : Int32) = (130 : Int32) then
(if (a1 : Int32) = (135 : Int32) then
B_14_operation_41 a0 a1 H
else
(if ¬ (a1 : Int32) = (136 : Int32) then
(if (a1 : Int32) = (139 : Int32) then
B_14_operation_88 a0 a1 H
else
(if (a1 : Int32) = (140 : Int32) then
B_14_operation_88 a0 a1 H
else
(if (a1 : Int32) < (143 : Int32) then
B_14_operation_96 a0 a1 H
else
(if (146 : Int32) < (a1 : Int32) then
B_14_operation_96 a0 a1 H
else
B_14_operation_88 a0 a1 H))))
else
B_14_operation_41 a0 a1 H))
else
B_14_operation_19 a0 a1 H)
def F_14_operation (a0 : Nat) (a1 : Int32) (H : jH) : Option (Unit × jH) :=
(if (a1 : Int32) < (107 : Int32) then
B_14_operation_12 a0 a1 H
else
(if (a1 : Int32) ≤ (125 : Int32) then
B_14_operation_19 a0 a1 H
else
B_14_operation_12 a0 a1 H))
def B_14_pushes_97  (a1 : Int32) (a2 : Int32) (H : jH) : Option (Int32 × jH) :=
some ((a1 + a2), H)
def B_14_pushes_51 (k51 : Nat → Int32 → Int32 → Int32 → jH → Option (Int32 × jH)) (a0 : Nat) (a1 : Int32) (a2 : Int32) (a4 : Int32) (H : jH) : Option (Int32 × jH) :=
(if (a2 : Int32) ≤ (a4 : Int32) then
jg ((jK H a0).1 = 14) (
jg ((jK H a0).1 = 14) (
jl (jsI H a0 2 ((jI H a0 2) + 1)) fun h1 =>
B_14_pushes_97 a1 a2 h1))
else
jg ((jK H a0).1 = 14) (
jg ((jK H a0).1 = 14) (
jg ((jK H a0).1 = 14) (
jg ((jK H (jR H a0 4)).1 = 100 ∧ jin ((a1 + a4)) (jK H (jR H a0 4)).2) (
jg ((jK H (jR H a0 0)).1 = 100 ∧ jF0 ≤ (jR H a0 0) ∧ jin (((120 * (jI H a0 2)) + a4)) (jK H (jR H a0 0)).2) (
jl (jsI H (jR H a0 0) (((120 * (jI H a0 2)) + a4) : Int32).toNatClampNeg (jI H (jR H a0 4) ((a1 + a4) : Int32).toNatClampNeg)) fun h2 =>
jl (a4 + 1) fun x3 =>
k51 a0 a1 a2 x3 h2))))))
def F_14_pushes_51  : Nat → Nat → Int32 → Int32 → Int32 → jH → Option (Int32 × jH)
  | 0 => fun _ _ _ _ _ => none
  | n + 1 => fun a0 a1 a2 a4 H => B_14_pushes_51 (F_14_pushes_51  n) a0 a1 a2 a4 H
def F_14_pushes (a0 : Nat) (a1 : Int32) (a2 : Int32) (a3 : Int32) (H : jH) : Option (Int32 × jH) :=
jg ((jK H a0).1 = 14) (
(if ((a1 + a2) : Int32) ≤ ((jI H a0 5) : Int32) then
(if (a2 : Int32) ≤ (120 : Int32) then
(if (a3 : Int32) = 0 then
B_14_pushes_97 a1 a2 H
else
jg ((jK H a0).1 = 14) (
jg ((jK H a0).1 = 14) (
jg ((jK H (jR H a0 1)).1 = 100 ∧ jF0 ≤ (jR H a0 1) ∧ jin ((jI H a0 2)) (jK H (jR H a0 1)).2) (
jl (jsI H (jR H a0 1) ((jI H a0 2) : Int32).toNatClampNeg a2) fun h4 =>
F_14_pushes_51 jfuel a0 a1 a2 0 h4))))
else
jg ((jK H a0).1 = 14) (
jb (F_14_fails a0 2 H) fun x5 h6 =>
B_14_pushes_97 a1 a2 h6))
else
jg ((jK H a0).1 = 14) (
jb (F_14_fails a0 1 H) fun x7 h8 =>
jg ((jK h8 a0).1 = 14) (
some ((jI h8 a0 5), h8)))))
def B_14_next_98  (a0 : Nat) (a1 : Int32) (a3 : Int32) (a4 : Int32) (s0 : Int32) (H : jH) : Option (Int32 × jH) :=
jg ((jK H a0).1 = 14) (
jb (F_14_pushes a0 ((a1 + 1) + a4) s0 a3 H) fun x1 h2 =>
some (x1, h2))
def B_14_next_97  (a0 : Nat) (a1 : Int32) (a3 : Int32) (a4 : Int32) (s0 : Int32) (s1 : Int32) (H : jH) : Option (Int32 × jH) :=
B_14_next_98 a0 a1 a3 a4 (s0 + s1) H
def B_14_next_32  (a0 : Nat) (a1 : Int32) (a2 : Int32) (a3 : Int32) (s0 : Int32) (H : jH) : Option (Int32 × jH) :=
jg ((jK H a0).1 = 14) (
(if (((a1 + 1) + s0) : Int32) ≤ ((jI H a0 5) : Int32) then
(if (76 : Int32) ≤ (a2 : Int32) then
jg ((jK H a0).1 = 14) (
jg ((jK H (jR H a0 4)).1 = 100 ∧ jin ((a1 + 1)) (jK H (jR H a0 4)).2) (
(if ¬ (s0 : Int32) = (2 : Int32) then
B_14_next_97 a0 a1 a3 s0 (jI H (jR H a0 4) ((a1 + 1) : Int32).toNatClampNeg) 0 H
else
jg ((jK H a0).1 = 14) (
jg ((jK H (jR H a0 4)).1 = 100 ∧ jin ((a1 + 2)) (jK H (jR H a0 4)).2) (
B_14_next_97 a0 a1 a3 s0 (jI H (jR H a0 4) ((a1 + 1) : Int32).toNatClampNeg) (256 * (jI H (jR H a0 4) ((a1 + 2) : Int32).toNatClampNeg)) H)))))
else
B_14_next_98 a0 a1 a3 s0 a2 H)
else
jg ((jK H a0).1 = 14) (
jb (F_14_fails a0 1 H) fun x3 h4 =>
jg ((jK h4 a0).1 = 14) (
some ((jI h4 a0 5), h4)))))
def B_14_next_261  (a1 : Int32) (H : jH) : Option (Int32 × jH) :=
some ((a1 + 1), H)
def B_14_next_178  (a0 : Nat) (a1 : Int32) (a2 : Int32) (H : jH) : Option (Int32 × jH) :=
jg ((jK H a0).1 = 14) (
jb (F_14_flow a0 a2 H) fun x5 h6 =>
B_14_next_261 a1 h6)
def B_14_next_252  (a0 : Nat) (a1 : Int32) (a2 : Int32) (a3 : Int32) (H : jH) : Option (Int32 × jH) :=
(if (a3 : Int32) = 0 then
B_14_next_261 a1 H
else
jg ((jK H a0).1 = 14) (
jb (F_14_operation a0 a2 H) fun x7 h8 =>
B_14_next_261 a1 h8))
def B_14_next_234  (a0 : Nat) (a1 : Int32) (a2 : Int32) (a3 : Int32) (H : jH) : Option (Int32 × jH) :=
(if (a3 : Int32) = 0 then
B_14_next_252 a0 a1 a2 a3 H
else
(if (97 : Int32) ≤ (a2 : Int32) then
B_14_next_252 a0 a1 a2 a3 H
else
jg ((jK H a0).1 = 14) (
jb (F_14_fails a0 4 H) fun x9 h10 =>
B_14_next_261 a1 h10)))
def B_14_next_206  (a0 : Nat) (a1 : Int32) (a2 : Int32) (a3 : Int32) (H : jH) : Option (Int32 × jH) :=
(if (a3 : Int32) = 0 then
B_14_next_234 a0 a1 a2 a3 H
else
(if (a2 : Int32) ≤ (80 : Int32) then
B_14_next_234 a0 a1 a2 a3 H
else
(if (97 : Int32) ≤ (a2 : Int32) then
B_14_next_234 a0 a1 a2 a3 H
else
jg ((jK H a0).1 = 14) (
jb (F_14_pushNumber a0 (Int32.toInt64 (a2 - 80)) H) fun x11 h12 =>
B_14_next_261 a1 h12))))
def B_14_next_134  (a0 : Nat) (a1 : Int32) (a2 : Int32) (a3 : Int32) (s0 : Nat) (s1 : Int32) (H : jH) : Option (Int32 × jH) :=
jg ((jK H s0).1 = 14) (
jl (jsI H s0 7 s1) fun h13 =>
jg ((jK h13 a0).1 = 14) (
(if ((jI h13 a0 7) : Int32) ≤ (100 : Int32) then
(if (a2 : Int32) = (99 : Int32) then
B_14_next_178 a0 a1 a2 h13
else
(if (a2 : Int32) = (100 : Int32) then
B_14_next_178 a0 a1 a2 h13
else
(if (a2 : Int32) = (103 : Int32) then
B_14_next_178 a0 a1 a2 h13
else
(if ¬ (a2 : Int32) = (104 : Int32) then
(if (a3 : Int32) = 0 then
B_14_next_206 a0 a1 a2 a3 h13
else
(if ¬ (a2 : Int32) = (79 : Int32) then
B_14_next_206 a0 a1 a2 a3 h13
else
jg ((jK h13 a0).1 = 14) (
jb (F_14_pushNumber a0 (-1) h13) fun x14 h15 =>
B_14_next_261 a1 h15)))
else
B_14_next_178 a0 a1 a2 h13))))
else
jg ((jK h13 a0).1 = 14) (
jb (F_14_fails a0 3 h13) fun x16 h17 =>
B_14_next_261 a1 h17))))
def F_14_next (a0 : Nat) (a1 : Int32) (H : jH) : Option (Int32 × jH) :=
jg ((jK H a0).1 = 14) (
jg ((jK H (jR H a0 4)).1 = 100 ∧ jin (a1) (jK H (jR H a0 4)).2) (
jl (jI H (jR H a0 4) (a1 : Int32).toNatClampNeg) fun x18 =>
jg ((jK H a0).1 = 14) (
jb (F_14_isDone a0 H) fun x19 h20 =>
(if (78 : Int32) ≤ (x18 : Int32) then
(if (x18 : Int32) ≤ (96 : Int32) then
jg ((jK h20 a0).1 = 14) (
B_14_next_134 a0 a1 x18 x19 a0 (jI h20 a0 7) h20)
else
jg ((jK h20 a0).1 = 14) (
B_14_next_134 a0 a1 x18 x19 a0 ((jI h20 a0 7) + 1) h20))
else
(if (76 : Int32) ≤ (x18 : Int32) then
B_14_next_32 a0 a1 x18 x19 (x18 - 75) h20
else
B_14_next_32 a0 a1 x18 x19 0 h20)))))
def B_14_run_134  (s0 : Int32) (H : jH) : Option (Int32 × jH) :=
some (s0, H)
def B_14_run_114  (a0 : Nat) (s0 : Nat) (s1 : Int32) (H : jH) : Option (Int32 × jH) :=
jg ((jK H s0).1 = 14) (
jl (jsI H s0 2 s1) fun h1 =>
jg ((jK h1 a0).1 = 14) (
(if ((jI h1 a0 6) : Int32) ≤ 0 then
B_14_run_134 1 h1
else
jg ((jK h1 a0).1 = 14) (
B_14_run_134 ((-1) - (jI h1 a0 6)) h1))))
def B_14_run_93  (a0 : Nat) (H : jH) : Option (Int32 × jH) :=
jg ((jK H a0).1 = 14) (
jl (jsI H a0 5 0) fun h2 =>
jg ((jK h2 a0).1 = 14) (
(if ((jI h2 a0 6) : Int32) ≤ 0 then
jg ((jK h2 a0).1 = 14) (
B_14_run_114 a0 a0 (jI h2 a0 2) h2)
else
B_14_run_114 a0 a0 0 h2)))
def B_14_run_73  (a0 : Nat) (H : jH) : Option (Int32 × jH) :=
jg ((jK H a0).1 = 14) (
(if ¬ ((jI H a0 6) : Int32) = 0 then
B_14_run_93 a0 H
else
jg ((jK H a0).1 = 14) (
(if ((jI H a0 9) : Int32) ≤ 0 then
B_14_run_93 a0 H
else
jg ((jK H a0).1 = 14) (
jb (F_14_fails a0 12 H) fun x3 h4 =>
B_14_run_93 a0 h4)))))
def B_14_run_22 (k22 : Nat → Int32 → jH → Option (Int32 × jH)) (a0 : Nat) (a1 : Int32) (H : jH) : Option (Int32 × jH) :=
jg ((jK H a0).1 = 14) (
(if ((jI H a0 5) : Int32) ≤ (a1 : Int32) then
B_14_run_73 a0 H
else
jg ((jK H a0).1 = 14) (
(if ¬ ((jI H a0 6) : Int32) = 0 then
B_14_run_73 a0 H
else
jg ((jK H a0).1 = 14) (
jb (F_14_next a0 a1 H) fun x5 h6 =>
jg ((jK h6 a0).1 = 14) (
(if ¬ ((jI h6 a0 6) : Int32) = 0 then
k22 a0 x5 h6
else
jg ((jK h6 a0).1 = 14) (
jg ((jK h6 a0).1 = 14) (
(if (((jI h6 a0 2) + (jI h6 a0 3)) : Int32) ≤ (60 : Int32) then
k22 a0 x5 h6
else
jg ((jK h6 a0).1 = 14) (
jb (F_14_fails a0 11 h6) fun x7 h8 =>
k22 a0 x5 h8)))))))))))
def F_14_run_22  : Nat → Nat → Int32 → jH → Option (Int32 × jH)
  | 0 => fun _ _ _ => none
  | n + 1 => fun a0 a1 H => B_14_run_22 (F_14_run_22  n) a0 a1 H
def F_14_run (a0 : Nat) (H : jH) : Option (Int32 × jH) :=
jg ((jK H a0).1 = 14) (
jl (jsI H a0 3 0) fun h9 =>
jg ((jK h9 a0).1 = 14) (
jl (jsI h9 a0 9 0) fun h10 =>
jg ((jK h10 a0).1 = 14) (
jl (jsI h10 a0 6 0) fun h11 =>
jg ((jK h11 a0).1 = 14) (
jl (jsI h11 a0 7 0) fun h12 =>
F_14_run_22 jfuel a0 0 h12))))
def B_18_fails_123  (s0 : Int32) (H : jH) : Option (Int32 × jH) :=
jg ((s0 : Int32) = 0 ∨ (s0 : Int32) = 1) (some (s0, H))
def B_18_fails_118   (H : jH) : Option (Int32 × jH) :=
B_18_fails_123 1 H
def F_18_fails (a0 : Nat) (a1 : Nat) (a2 : Int32) (a3 : Nat) (a4 : Int32) (a5 : Int32) (H : jH) : Option (Int32 × jH) :=
jg ((jK H a0).1 = 18) (
jg ((jK H (jR H a0 1)).1 = 15) (
jl (jsR H (jR H a0 1) 2 a1) fun h1 =>
jg ((jK h1 a0).1 = 18) (
jg ((jK h1 (jR h1 a0 1)).1 = 15) (
jl (jsI h1 (jR h1 a0 1) 3 a2) fun h2 =>
jg ((jK h2 a0).1 = 18) (
jg ((jK h2 (jR h2 a0 1)).1 = 15) (
jl (jsR h2 (jR h2 a0 1) 4 a3) fun h3 =>
jg ((jK h3 a0).1 = 18) (
jg ((jK h3 (jR h3 a0 1)).1 = 15) (
jl (jsI h3 (jR h3 a0 1) 5 a4) fun h4 =>
jg ((jK h4 a0).1 = 18) (
jg ((jK h4 (jR h4 a0 1)).1 = 15) (
jl (jsI h4 (jR h4 a0 1) 6 a5) fun h5 =>
jg ((jK h5 a0).1 = 18) (
jg ((jK h5 (jR h5 a0 2)).1 = 14) (
jb (F_14_clear (jR h5 a0 2) h5) fun x6 h7 =>
jg ((jK h7 a0).1 = 18) (
jg ((jK h7 a1).1 = 17) (
jg ((jK h7 a1).1 = 17) (
jg ((jK h7 (jR h7 a1 9)).1 = 100 ∧ jin (a2) (jK h7 (jR h7 a1 9)).2) (
jg ((jK h7 a1).1 = 17) (
jg ((jK h7 (jR h7 a1 10)).1 = 100 ∧ jin (a2) (jK h7 (jR h7 a1 10)).2) (
jg ((jK h7 (jR h7 a0 2)).1 = 14) (
jb (F_14_load (jR h7 a0 2) (jR h7 a1 0) (jI h7 (jR h7 a1 9) (a2 : Int32).toNatClampNeg) (jI h7 (jR h7 a1 10) (a2 : Int32).toNatClampNeg) h7) fun x8 h9 =>
jg ((jK h9 a0).1 = 18) (
jg ((jK h9 (jR h9 a0 2)).1 = 14) (
jb (F_14_run (jR h9 a0 2) h9) fun x10 h11 =>
(if (x10 : Int32) = (1 : Int32) then
jg ((jK h11 a0).1 = 18) (
jg ((jK h11 (jR h11 a0 2)).1 = 14) (
jb (F_14_load (jR h11 a0 2) a3 a4 a5 h11) fun x12 h13 =>
jg ((jK h13 a0).1 = 18) (
jg ((jK h13 (jR h13 a0 2)).1 = 14) (
jb (F_14_run (jR h13 a0 2) h13) fun x14 h15 =>
(if ¬ (x14 : Int32) = (1 : Int32) then
B_18_fails_118 h15
else
jg ((jK h15 a0).1 = 18) (
jg ((jK h15 (jR h15 a0 2)).1 = 14) (
jb (F_14_isTrue (jR h15 a0 2) h15) fun x16 h17 =>
(if ¬ (x16 : Int32) = 0 then
B_18_fails_123 0 h17
else
B_18_fails_118 h17))))))))
else
jg ((1 : Int32) = 0 ∨ (1 : Int32) = 1) (some (1, h11))))))))))))))))))))))))
def B_17_sum_4 (k4 : Nat → Int64 → Int32 → jH → Option (Int64 × jH)) (a0 : Nat) (a1 : Int64) (a3 : Int32) (H : jH) : Option (Int64 × jH) :=
jg ((jK H a0).1 = 17) (
(if ((jI H a0 5) : Int32) ≤ (a3 : Int32) then
some (a1, H)
else
jg ((jK H a0).1 = 17) (
jg ((jK H (jR H a0 12)).1 = 103 ∧ jin (a3) (jK H (jR H a0 12)).2) (
jl (a1 + (jL H (jR H a0 12) (a3 : Int32).toNatClampNeg)) fun x1 =>
jl (a3 + 1) fun x2 =>
k4 a0 x1 x2 H))))
def F_17_sum_4  : Nat → Nat → Int64 → Int32 → jH → Option (Int64 × jH)
  | 0 => fun _ _ _ _ => none
  | n + 1 => fun a0 a1 a3 H => B_17_sum_4 (F_17_sum_4  n) a0 a1 a3 H
def F_17_sum (a0 : Nat) (H : jH) : Option (Int64 × jH) :=
F_17_sum_4 jfuel a0 0 0 H
def B_18_wrong_131 (k59 : Nat → Int32 → Int64 → Int32 → jH → Option (Int32 × jH)) (a0 : Nat) (a1 : Int32) (a2 : Int64) (a4 : Int32) (a5 : Int32) (H : jH) : Option (Int32 × jH) :=
jg ((jK H a0).1 = 18) (
jg ((jK H (jR H a0 22)).1 = 103 ∧ jin (a5) (jK H (jR H a0 22)).2) (
jl (a2 + (jL H (jR H a0 22) (a5 : Int32).toNatClampNeg)) fun x1 =>
jl (a4 + 1) fun x2 =>
k59 a0 a1 x1 x2 H))
def B_18_wrong_165 (k165 : Nat → Int64 → Int32 → jH → Option (Int32 × jH)) (a0 : Nat) (a2 : Int64) (a4 : Int32) (H : jH) : Option (Int32 × jH) :=
jg ((jK H a0).1 = 18) (
jg ((jK H (jR H a0 4)).1 = 17) (
(if ((jI H (jR H a0 4) 4) : Int32) ≤ (a4 : Int32) then
jg ((jK H a0).1 = 18) (
jg ((jK H a0).1 = 18) (
jg ((jK H (jR H a0 4)).1 = 17) (
jb (F_17_sum (jR H a0 4) H) fun x3 h4 =>
jg ((jK h4 a0).1 = 18) (
jl (jsL h4 a0 19 ((jL H a0 19) + (a2 - x3))) fun h5 =>
some (0, h5)))))
else
jg ((jK H a0).1 = 18) (
jg ((jK H (jR H a0 4)).1 = 17) (
jg ((jK H a0).1 = 18) (
jg ((jK H (jR H a0 4)).1 = 17) (
jg ((jK H (jR H (jR H a0 4) 7)).1 = 100 ∧ jin (a4) (jK H (jR H (jR H a0 4) 7)).2) (
jg ((jK H a0).1 = 18) (
jg ((jK H (jR H a0 4)).1 = 17) (
jg ((jK H (jR H (jR H a0 4) 8)).1 = 103 ∧ jin (a4) (jK H (jR H (jR H a0 4) 8)).2) (
jg ((jK H a0).1 = 18) (
jb (F_18_coin a0 (jR H (jR H a0 4) 0) (jI H (jR H (jR H a0 4) 7) (a4 : Int32).toNatClampNeg) (jL H (jR H (jR H a0 4) 8) (a4 : Int32).toNatClampNeg) H) fun x6 h7 =>
jg ((jK h7 a0).1 = 18) (
jg ((jK h7 a0).1 = 18) (
jg ((jK h7 a0).1 = 18) (
jg ((jK h7 (jR h7 a0 25)).1 = 100 ∧ jin (x6) (jK h7 (jR h7 a0 25)).2) (
jg ((jK h7 a0).1 = 18) (
jg ((jK h7 (jR h7 a0 26)).1 = 100 ∧ jin (x6) (jK h7 (jR h7 a0 26)).2) (
jg ((jK h7 a0).1 = 18) (
jb (F_18_fails a0 (jR h7 a0 4) a4 (jR h7 a0 6) (jI h7 (jR h7 a0 25) (x6 : Int32).toNatClampNeg) (jI h7 (jR h7 a0 26) (x6 : Int32).toNatClampNeg) h7) fun x8 h9 =>
(if (x8 : Int32) = 0 then
jl (a4 + 1) fun x10 =>
k165 a0 a2 x10 h9
else
some (34, h9)))))))))))))))))))))
def F_18_wrong_165  : Nat → Nat → Int64 → Int32 → jH → Option (Int32 × jH)
  | 0 => fun _ _ _ _ => none
  | n + 1 => fun a0 a2 a4 H => B_18_wrong_165 (F_18_wrong_165  n) a0 a2 a4 H
def B_18_wrong_59 (k59 : Nat → Int32 → Int64 → Int32 → jH → Option (Int32 × jH)) (a0 : Nat) (a1 : Int32) (a2 : Int64) (a4 : Int32) (H : jH) : Option (Int32 × jH) :=
jg ((jK H a0).1 = 18) (
jg ((jK H (jR H a0 4)).1 = 17) (
(if ((jI H (jR H a0 4) 4) : Int32) ≤ (a4 : Int32) then
jg ((jK H a0).1 = 18) (
jg ((jK H (jR H a0 4)).1 = 17) (
jb (F_17_sum (jR H a0 4) H) fun x11 h12 =>
(if (x11 : Int64) ≤ a2 then
F_18_wrong_165 jfuel a0 a2 0 h12
else
some (33, h12))))
else
jg ((jK H a0).1 = 18) (
jg ((jK H (jR H a0 4)).1 = 17) (
jg ((jK H a0).1 = 18) (
jg ((jK H (jR H a0 4)).1 = 17) (
jg ((jK H (jR H (jR H a0 4) 7)).1 = 100 ∧ jin (a4) (jK H (jR H (jR H a0 4) 7)).2) (
jg ((jK H a0).1 = 18) (
jg ((jK H (jR H a0 4)).1 = 17) (
jg ((jK H (jR H (jR H a0 4) 8)).1 = 103 ∧ jin (a4) (jK H (jR H (jR H a0 4) 8)).2) (
jg ((jK H a0).1 = 18) (
jb (F_18_coin a0 (jR H (jR H a0 4) 0) (jI H (jR H (jR H a0 4) 7) (a4 : Int32).toNatClampNeg) (jL H (jR H (jR H a0 4) 8) (a4 : Int32).toNatClampNeg) H) fun x13 h14 =>
jg ((jK h14 a0).1 = 18) (
jg ((jK h14 (jR h14 a0 24)).1 = 102 ∧ jin (x13) (jK h14 (jR h14 a0 24)).2) (
(if ((jI h14 (jR h14 a0 24) (x13 : Int32).toNatClampNeg) : Int32) = 0 then
B_18_wrong_131 k59 a0 a1 a2 a4 x13 h14
else
jg ((jK h14 a0).1 = 18) (
jg ((jK h14 (jR h14 a0 23)).1 = 100 ∧ jin (x13) (jK h14 (jR h14 a0 23)).2) (
(if (8 : Int32) ≤ ((a1 - (jI h14 (jR h14 a0 23) (x13 : Int32).toNatClampNeg)) : Int32) then
B_18_wrong_131 k59 a0 a1 a2 a4 x13 h14
else
some (32, h14)))))))))))))))))))
def F_18_wrong_59  : Nat → Nat → Int32 → Int64 → Int32 → jH → Option (Int32 × jH)
  | 0 => fun _ _ _ _ _ => none
  | n + 1 => fun a0 a1 a2 a4 H => B_18_wrong_59 (F_18_wrong_59  n) a0 a1 a2 a4 H
def B_18_wrong_2 (k2 : Nat → Int32 → Int32 → jH → Option (Int32 × jH)) (a0 : Nat) (a1 : Int32) (a2 : Int32) (H : jH) : Option (Int32 × jH) :=
jg ((jK H a0).1 = 18) (
jg ((jK H (jR H a0 4)).1 = 17) (
(if ((jI H (jR H a0 4) 4) : Int32) ≤ (a2 : Int32) then
F_18_wrong_59 jfuel a0 a1 0 0 H
else
jg ((jK H a0).1 = 18) (
jg ((jK H (jR H a0 4)).1 = 17) (
jg ((jK H a0).1 = 18) (
jg ((jK H (jR H a0 4)).1 = 17) (
jg ((jK H (jR H (jR H a0 4) 7)).1 = 100 ∧ jin (a2) (jK H (jR H (jR H a0 4) 7)).2) (
jg ((jK H a0).1 = 18) (
jg ((jK H (jR H a0 4)).1 = 17) (
jg ((jK H (jR H (jR H a0 4) 8)).1 = 103 ∧ jin (a2) (jK H (jR H (jR H a0 4) 8)).2) (
jg ((jK H a0).1 = 18) (
jb (F_18_coin a0 (jR H (jR H a0 4) 0) (jI H (jR H (jR H a0 4) 7) (a2 : Int32).toNatClampNeg) (jL H (jR H (jR H a0 4) 8) (a2 : Int32).toNatClampNeg) H) fun x15 h16 =>
(if 0 ≤ (x15 : Int32) then
jl (a2 + 1) fun x17 =>
k2 a0 a1 x17 h16
else
some (31, h16))))))))))))))
def F_18_wrong_2  : Nat → Nat → Int32 → Int32 → jH → Option (Int32 × jH)
  | 0 => fun _ _ _ _ => none
  | n + 1 => fun a0 a1 a2 H => B_18_wrong_2 (F_18_wrong_2  n) a0 a1 a2 H
def F_18_wrong (a0 : Nat) (a1 : Int32) (H : jH) : Option (Int32 × jH) :=
F_18_wrong_2 jfuel a0 a1 0 H
def B_18_back_49 (k49 : Nat → Int32 → jH → Option (Unit × jH)) (a0 : Nat) (a1 : Int32) (H : jH) : Option (Unit × jH) :=
jg ((jK H a0).1 = 18) (
(if ((jI H a0 17) : Int32) ≤ (a1 : Int32) then
some ((), H)
else
jg ((jK H a0).1 = 18) (
jg ((jK H a0).1 = 18) (
jg ((jK H (jR H a0 30)).1 = 103 ∧ jin (a1) (jK H (jR H a0 30)).2) (
jg ((jK H (jR H a0 21)).1 = 103 ∧ jin (a1) (jK H (jR H a0 21)).2) (
jl (jsL H (jR H a0 21) (a1 : Int32).toNatClampNeg (jL H (jR H a0 30) (a1 : Int32).toNatClampNeg)) fun h1 =>
jg ((jK h1 a0).1 = 18) (
jg ((jK h1 a0).1 = 18) (
jg ((jK h1 (jR h1 a0 31)).1 = 103 ∧ jin (a1) (jK h1 (jR h1 a0 31)).2) (
jg ((jK h1 (jR h1 a0 22)).1 = 103 ∧ jin (a1) (jK h1 (jR h1 a0 22)).2) (
jl (jsL h1 (jR h1 a0 22) (a1 : Int32).toNatClampNeg (jL h1 (jR h1 a0 31) (a1 : Int32).toNatClampNeg)) fun h2 =>
jg ((jK h2 a0).1 = 18) (
jg ((jK h2 a0).1 = 18) (
jg ((jK h2 (jR h2 a0 32)).1 = 100 ∧ jin (a1) (jK h2 (jR h2 a0 32)).2) (
jg ((jK h2 (jR h2 a0 23)).1 = 100 ∧ jF0 ≤ (jR h2 a0 23) ∧ jin (a1) (jK h2 (jR h2 a0 23)).2) (
jl (jsI h2 (jR h2 a0 23) (a1 : Int32).toNatClampNeg (jI h2 (jR h2 a0 32) (a1 : Int32).toNatClampNeg)) fun h3 =>
jg ((jK h3 a0).1 = 18) (
jg ((jK h3 a0).1 = 18) (
jg ((jK h3 (jR h3 a0 33)).1 = 102 ∧ jin (a1) (jK h3 (jR h3 a0 33)).2) (
jg ((jK h3 (jR h3 a0 24)).1 = 102 ∧ jin (a1) (jK h3 (jR h3 a0 24)).2) (
jl (jsI h3 (jR h3 a0 24) (a1 : Int32).toNatClampNeg ((jI h3 (jR h3 a0 33) (a1 : Int32).toNatClampNeg) &&& 1)) fun h4 =>
jg ((jK h4 a0).1 = 18) (
jg ((jK h4 a0).1 = 18) (
jg ((jK h4 (jR h4 a0 34)).1 = 100 ∧ jin (a1) (jK h4 (jR h4 a0 34)).2) (
jg ((jK h4 (jR h4 a0 25)).1 = 100 ∧ jF0 ≤ (jR h4 a0 25) ∧ jin (a1) (jK h4 (jR h4 a0 25)).2) (
jl (jsI h4 (jR h4 a0 25) (a1 : Int32).toNatClampNeg (jI h4 (jR h4 a0 34) (a1 : Int32).toNatClampNeg)) fun h5 =>
jg ((jK h5 a0).1 = 18) (
jg ((jK h5 a0).1 = 18) (
jg ((jK h5 (jR h5 a0 35)).1 = 100 ∧ jin (a1) (jK h5 (jR h5 a0 35)).2) (
jg ((jK h5 (jR h5 a0 26)).1 = 100 ∧ jF0 ≤ (jR h5 a0 26) ∧ jin (a1) (jK h5 (jR h5 a0 26)).2) (
jl (jsI h5 (jR h5 a0 26) (a1 : Int32).toNatClampNeg (jI h5 (jR h5 a0 35) (a1 : Int32).toNatClampNeg)) fun h6 =>
jl (a1 + 1) fun x7 =>
k49 a0 x7 h6))))))))))))))))))))))))))
def F_18_back_49  : Nat → Nat → Int32 → jH → Option (Unit × jH)
  | 0 => fun _ _ _ => none
  | n + 1 => fun a0 a1 H => B_18_back_49 (F_18_back_49  n) a0 a1 H
def B_18_back_18 (k18 : Nat → Int32 → jH → Option (Unit × jH)) (a0 : Nat) (a1 : Int32) (H : jH) : Option (Unit × jH) :=
jg ((jK H a0).1 = 18) (
(if ((32 * (jI H a0 17)) : Int32) ≤ (a1 : Int32) then
F_18_back_49 jfuel a0 0 H
else
jg ((jK H a0).1 = 18) (
jg ((jK H a0).1 = 18) (
jg ((jK H (jR H a0 29)).1 = 101 ∧ jin (a1) (jK H (jR H a0 29)).2) (
jg ((jK H (jR H a0 20)).1 = 101 ∧ jin (a1) (jK H (jR H a0 20)).2) (
jl (jsB H (jR H a0 20) (a1 : Int32).toNatClampNeg (jbu (jbs (jB H (jR H a0 29) (a1 : Int32).toNatClampNeg)))) fun h8 =>
jl (a1 + 1) fun x9 =>
k18 a0 x9 h8))))))
def F_18_back_18  : Nat → Nat → Int32 → jH → Option (Unit × jH)
  | 0 => fun _ _ _ => none
  | n + 1 => fun a0 a1 H => B_18_back_18 (F_18_back_18  n) a0 a1 H
def F_18_back (a0 : Nat) (H : jH) : Option (Unit × jH) :=
jg ((jK H a0).1 = 18) (
jg ((jK H a0).1 = 18) (
jl (jsI H a0 17 (jI H a0 27)) fun h10 =>
jg ((jK h10 a0).1 = 18) (
jg ((jK h10 a0).1 = 18) (
jl (jsI h10 a0 18 (jI h10 a0 28)) fun h11 =>
F_18_back_18 jfuel a0 0 h11))))
def B_18_faultOf_206   (H : jH) : Option (Int32 × jH) :=
some (37, H)
def B_18_faultOf_224 (k21 : Nat → Int32 → Int32 → jH → Option (Int32 × jH)) (a0 : Nat) (a1 : Int32) (a2 : Int32) (s0 : Nat) (s1 : Int32) (s2 : Int32) (H : jH) : Option (Int32 × jH) :=
jg ((jK H s0).1 = 18) (
jb (F_18_apply s0 s1 s2 H) fun x1 h2 =>
jl (a2 + 1) fun x3 =>
k21 a0 a1 x3 h2)
def B_18_faultOf_170 (k21 : Nat → Int32 → Int32 → jH → Option (Int32 × jH)) (a0 : Nat) (a1 : Int32) (a2 : Int32) (s0 : Int32) (H : jH) : Option (Int32 × jH) :=
jg ((jK H a0).1 = 18) (
jg ((jK H a0).1 = 18) (
jg ((jK H (jR H a0 4)).1 = 17) (
(if (1500 : Int32) < ((((jI H a0 17) - s0) + (jI H (jR H a0 4) 5)) : Int32) then
B_18_faultOf_206 H
else
jg ((jK H a0).1 = 18) (
(if (((jI H a0 18) + s0) : Int32) ≤ (3000 : Int32) then
jg ((jK H a0).1 = 18) (
jb (F_18_height a0 a1 H) fun x4 h5 =>
(if ¬ (a2 : Int32) = 0 then
B_18_faultOf_224 k21 a0 a1 a2 a0 x4 0 h5
else
B_18_faultOf_224 k21 a0 a1 a2 a0 x4 1 h5))
else
B_18_faultOf_206 H))))))
def B_18_faultOf_119 (k21 : Nat → Int32 → Int32 → jH → Option (Int32 × jH)) (k119 : Nat → Int32 → Int32 → Int32 → jH → Option (Int32 × jH)) (a0 : Nat) (a1 : Int32) (a2 : Int32) (a4 : Int32) (H : jH) : Option (Int32 × jH) :=
jg ((jK H a0).1 = 18) (
jg ((jK H (jR H a0 4)).1 = 17) (
(if ((jI H (jR H a0 4) 5) : Int32) ≤ (a4 : Int32) then
(if ¬ (a2 : Int32) = 0 then
jg ((jK H a0).1 = 18) (
jg ((jK H (jR H a0 4)).1 = 17) (
B_18_faultOf_170 k21 a0 a1 a2 (jI H (jR H a0 4) 4) H))
else
B_18_faultOf_170 k21 a0 a1 a2 0 H)
else
jg ((jK H a0).1 = 18) (
jg ((jK H a0).1 = 18) (
jb (F_18_coin a0 (jR H a0 49) 0 (Int32.toInt64 a4) H) fun x6 h7 =>
(if (x6 : Int32) < 0 then
jl (a4 + 1) fun x8 =>
k119 a0 a1 a2 x8 h7
else
some (36, h7)))))))
def F_18_faultOf_119 (k21 : Nat → Int32 → Int32 → jH → Option (Int32 × jH)) : Nat → Nat → Int32 → Int32 → Int32 → jH → Option (Int32 × jH)
  | 0 => fun _ _ _ _ _ => none
  | n + 1 => fun a0 a1 a2 a4 H => B_18_faultOf_119 k21 (F_18_faultOf_119 k21 n) a0 a1 a2 a4 H
def B_18_faultOf_109 (k21 : Nat → Int32 → Int32 → jH → Option (Int32 × jH)) (a0 : Nat) (a1 : Int32) (a2 : Int32) (s0 : Int32) (H : jH) : Option (Int32 × jH) :=
(if (s0 : Int32) ≤ 0 then
F_18_faultOf_119 k21 jfuel a0 a1 a2 0 H
else
some (s0, H))
def B_18_faultOf_57 (k21 : Nat → Int32 → Int32 → jH → Option (Int32 × jH)) (k57 : Nat → Int32 → Int32 → Int32 → jH → Option (Int32 × jH)) (a0 : Nat) (a1 : Int32) (a2 : Int32) (a3 : Int32) (H : jH) : Option (Int32 × jH) :=
(if (32 : Int32) ≤ (a3 : Int32) then
(if ¬ (a2 : Int32) = 0 then
jg ((jK H a0).1 = 18) (
jb (F_18_height a0 a1 H) fun x9 h10 =>
jg ((jK h10 a0).1 = 18) (
jb (F_18_wrong a0 x9 h10) fun x11 h12 =>
B_18_faultOf_109 k21 a0 a1 a2 x11 h12))
else
B_18_faultOf_109 k21 a0 a1 a2 0 H)
else
jg ((jK H a0).1 = 18) (
jg ((jK H a0).1 = 18) (
jg ((jK H (jR H a0 11)).1 = 101 ∧ jin ((((384 * a1) + (32 * a2)) + a3)) (jK H (jR H a0 11)).2) (
jg ((jK H (jR H a0 49)).1 = 101 ∧ jin (a3) (jK H (jR H a0 49)).2) (
jl (jsB H (jR H a0 49) (a3 : Int32).toNatClampNeg (jbu (jbs (jB H (jR H a0 11) ((((384 * a1) + (32 * a2)) + a3) : Int32).toNatClampNeg)))) fun h13 =>
jl (a3 + 1) fun x14 =>
k57 a0 a1 a2 x14 h13)))))
def F_18_faultOf_57 (k21 : Nat → Int32 → Int32 → jH → Option (Int32 × jH)) : Nat → Nat → Int32 → Int32 → Int32 → jH → Option (Int32 × jH)
  | 0 => fun _ _ _ _ _ => none
  | n + 1 => fun a0 a1 a2 a3 H => B_18_faultOf_57 k21 (F_18_faultOf_57 k21 n) a0 a1 a2 a3 H
def B_18_faultOf_312  (s0 : Int32) (H : jH) : Option (Int32 × jH) :=
some (s0, H)
def B_18_faultOf_264 (k264 : Nat → Int32 → Int64 → Int32 → jH → Option (Int32 × jH)) (a0 : Nat) (a1 : Int32) (a2 : Int64) (a4 : Int32) (H : jH) : Option (Int32 × jH) :=
jg ((jK H a0).1 = 18) (
jb (F_18_height a0 a1 H) fun x15 h16 =>
jg (¬ (32 : Int32) = 0) (
(if ((x15 / 32) : Int32) ≤ (a4 : Int32) then
jg ((jK h16 a0).1 = 18) (
jg ((jK h16 (jR h16 a0 4)).1 = 17) (
jb (F_17_sum (jR h16 a0 4) h16) fun x17 h18 =>
jg ((jK h18 a0).1 = 18) (
(if (x17 : Int64) ≤ (a2 + (jL h18 a0 19)) then
B_18_faultOf_312 0 h18
else
B_18_faultOf_312 35 h18))))
else
jg (¬ (2 : Int64) = 0) (
jl (a2 / 2) fun x19 =>
jl (a4 + 1) fun x20 =>
k264 a0 a1 x19 x20 h16))))
def F_18_faultOf_264  : Nat → Nat → Int32 → Int64 → Int32 → jH → Option (Int32 × jH)
  | 0 => fun _ _ _ _ _ => none
  | n + 1 => fun a0 a1 a2 a4 H => B_18_faultOf_264 (F_18_faultOf_264  n) a0 a1 a2 a4 H
def B_18_faultOf_21 (k21 : Nat → Int32 → Int32 → jH → Option (Int32 × jH)) (a0 : Nat) (a1 : Int32) (a2 : Int32) (H : jH) : Option (Int32 × jH) :=
jg ((jK H a0).1 = 18) (
(if ((jI H a0 14) : Int32) ≤ (a2 : Int32) then
jg ((jK H a0).1 = 18) (
jg ((jK H a0).1 = 18) (
jg ((jK H a0).1 = 18) (
jg ((jK H (jR H a0 15)).1 = 100 ∧ jin (0) (jK H (jR H a0 15)).2) (
jg ((jK H a0).1 = 18) (
jg ((jK H (jR H a0 15)).1 = 100 ∧ jin (1) (jK H (jR H a0 15)).2) (
jg ((jK H (jR H a0 4)).1 = 17) (
jb (F_17_read (jR H a0 4) (jR H a0 6) (jI H (jR H a0 15) (0 : Int32).toNatClampNeg) (jI H (jR H a0 15) (1 : Int32).toNatClampNeg) H) fun x21 h22 =>
F_18_faultOf_264 jfuel a0 a1 5000000000 0 h22)))))))
else
jg ((jK H a0).1 = 18) (
jg ((jK H a0).1 = 18) (
jg ((jK H a0).1 = 18) (
jg ((jK H (jR H a0 15)).1 = 100 ∧ jin (a2) (jK H (jR H a0 15)).2) (
jg ((jK H a0).1 = 18) (
jg ((jK H (jR H a0 15)).1 = 100 ∧ jin ((a2 + 1)) (jK H (jR H a0 15)).2) (
jg ((jK H (jR H a0 4)).1 = 17) (
jb (F_17_read (jR H a0 4) (jR H a0 6) (jI H (jR H a0 15) (a2 : Int32).toNatClampNeg) (jI H (jR H a0 15) ((a2 + 1) : Int32).toNatClampNeg) H) fun x23 h24 =>
F_18_faultOf_57 k21 jfuel a0 a1 a2 0 h24)))))))))
def F_18_faultOf_21  : Nat → Nat → Int32 → Int32 → jH → Option (Int32 × jH)
  | 0 => fun _ _ _ _ => none
  | n + 1 => fun a0 a1 a2 H => B_18_faultOf_21 (F_18_faultOf_21  n) a0 a1 a2 H
def F_18_faultOf (a0 : Nat) (a1 : Int32) (H : jH) : Option (Int32 × jH) :=
jg ((jK H a0).1 = 18) (
jb (F_18_openBlock a0 a1 H) fun x25 h26 =>
jg ((jK h26 a0).1 = 18) (
jl (jsL h26 a0 19 0) fun h27 =>
jg ((jK h27 a0).1 = 18) (
jg ((jK h27 (jR h27 a0 2)).1 = 14) (
jl (jsI h27 (jR h27 a0 2) 8 24) fun h28 =>
F_18_faultOf_21 jfuel a0 a1 0 h28))))
def B_18_keep_49 (k49 : Nat → Int32 → jH → Option (Unit × jH)) (a0 : Nat) (a1 : Int32) (H : jH) : Option (Unit × jH) :=
jg ((jK H a0).1 = 18) (
(if ((jI H a0 17) : Int32) ≤ (a1 : Int32) then
some ((), H)
else
jg ((jK H a0).1 = 18) (
jg ((jK H a0).1 = 18) (
jg ((jK H (jR H a0 21)).1 = 103 ∧ jin (a1) (jK H (jR H a0 21)).2) (
jg ((jK H (jR H a0 30)).1 = 103 ∧ jin (a1) (jK H (jR H a0 30)).2) (
jl (jsL H (jR H a0 30) (a1 : Int32).toNatClampNeg (jL H (jR H a0 21) (a1 : Int32).toNatClampNeg)) fun h1 =>
jg ((jK h1 a0).1 = 18) (
jg ((jK h1 a0).1 = 18) (
jg ((jK h1 (jR h1 a0 22)).1 = 103 ∧ jin (a1) (jK h1 (jR h1 a0 22)).2) (
jg ((jK h1 (jR h1 a0 31)).1 = 103 ∧ jin (a1) (jK h1 (jR h1 a0 31)).2) (
jl (jsL h1 (jR h1 a0 31) (a1 : Int32).toNatClampNeg (jL h1 (jR h1 a0 22) (a1 : Int32).toNatClampNeg)) fun h2 =>
jg ((jK h2 a0).1 = 18) (
jg ((jK h2 a0).1 = 18) (
jg ((jK h2 (jR h2 a0 23)).1 = 100 ∧ jin (a1) (jK h2 (jR h2 a0 23)).2) (
jg ((jK h2 (jR h2 a0 32)).1 = 100 ∧ jF0 ≤ (jR h2 a0 32) ∧ jin (a1) (jK h2 (jR h2 a0 32)).2) (
jl (jsI h2 (jR h2 a0 32) (a1 : Int32).toNatClampNeg (jI h2 (jR h2 a0 23) (a1 : Int32).toNatClampNeg)) fun h3 =>
jg ((jK h3 a0).1 = 18) (
jg ((jK h3 a0).1 = 18) (
jg ((jK h3 (jR h3 a0 24)).1 = 102 ∧ jin (a1) (jK h3 (jR h3 a0 24)).2) (
jg ((jK h3 (jR h3 a0 33)).1 = 102 ∧ jin (a1) (jK h3 (jR h3 a0 33)).2) (
jl (jsI h3 (jR h3 a0 33) (a1 : Int32).toNatClampNeg ((jI h3 (jR h3 a0 24) (a1 : Int32).toNatClampNeg) &&& 1)) fun h4 =>
jg ((jK h4 a0).1 = 18) (
jg ((jK h4 a0).1 = 18) (
jg ((jK h4 (jR h4 a0 25)).1 = 100 ∧ jin (a1) (jK h4 (jR h4 a0 25)).2) (
jg ((jK h4 (jR h4 a0 34)).1 = 100 ∧ jF0 ≤ (jR h4 a0 34) ∧ jin (a1) (jK h4 (jR h4 a0 34)).2) (
jl (jsI h4 (jR h4 a0 34) (a1 : Int32).toNatClampNeg (jI h4 (jR h4 a0 25) (a1 : Int32).toNatClampNeg)) fun h5 =>
jg ((jK h5 a0).1 = 18) (
jg ((jK h5 a0).1 = 18) (
jg ((jK h5 (jR h5 a0 26)).1 = 100 ∧ jin (a1) (jK h5 (jR h5 a0 26)).2) (
jg ((jK h5 (jR h5 a0 35)).1 = 100 ∧ jF0 ≤ (jR h5 a0 35) ∧ jin (a1) (jK h5 (jR h5 a0 35)).2) (
jl (jsI h5 (jR h5 a0 35) (a1 : Int32).toNatClampNeg (jI h5 (jR h5 a0 26) (a1 : Int32).toNatClampNeg)) fun h6 =>
jl (a1 + 1) fun x7 =>
k49 a0 x7 h6))))))))))))))))))))))))))
def F_18_keep_49  : Nat → Nat → Int32 → jH → Option (Unit × jH)
  | 0 => fun _ _ _ => none
  | n + 1 => fun a0 a1 H => B_18_keep_49 (F_18_keep_49  n) a0 a1 H
def B_18_keep_18 (k18 : Nat → Int32 → jH → Option (Unit × jH)) (a0 : Nat) (a1 : Int32) (H : jH) : Option (Unit × jH) :=
jg ((jK H a0).1 = 18) (
(if ((32 * (jI H a0 17)) : Int32) ≤ (a1 : Int32) then
F_18_keep_49 jfuel a0 0 H
else
jg ((jK H a0).1 = 18) (
jg ((jK H a0).1 = 18) (
jg ((jK H (jR H a0 20)).1 = 101 ∧ jin (a1) (jK H (jR H a0 20)).2) (
jg ((jK H (jR H a0 29)).1 = 101 ∧ jin (a1) (jK H (jR H a0 29)).2) (
jl (jsB H (jR H a0 29) (a1 : Int32).toNatClampNeg (jbu (jbs (jB H (jR H a0 20) (a1 : Int32).toNatClampNeg)))) fun h8 =>
jl (a1 + 1) fun x9 =>
k18 a0 x9 h8))))))
def F_18_keep_18  : Nat → Nat → Int32 → jH → Option (Unit × jH)
  | 0 => fun _ _ _ => none
  | n + 1 => fun a0 a1 H => B_18_keep_18 (F_18_keep_18  n) a0 a1 H
def F_18_keep (a0 : Nat) (H : jH) : Option (Unit × jH) :=
jg ((jK H a0).1 = 18) (
jg ((jK H a0).1 = 18) (
jl (jsI H a0 27 (jI H a0 17)) fun h10 =>
jg ((jK h10 a0).1 = 18) (
jg ((jK h10 a0).1 = 18) (
jl (jsI h10 a0 28 (jI h10 a0 18)) fun h11 =>
F_18_keep_18 jfuel a0 0 h11))))
def B_18_look_35  (a2 : Int32) (H : jH) : Option (Int32 × jH) :=
some (a2, H)
def F_18_look (a0 : Nat) (a1 : Int32) (H : jH) : Option (Int32 × jH) :=
jg ((jK H a0).1 = 18) (
jb (F_18_parent a0 a1 H) fun x1 h2 =>
jg ((jK h2 a0).1 = 18) (
jb (F_18_need a0 x1 h2) fun x3 h4 =>
jg ((jK h4 a0).1 = 18) (
jb (F_18_keep a0 h4) fun x5 h6 =>
jg ((jK h6 a0).1 = 18) (
jb (F_18_faultOf a0 a1 h6) fun x7 h8 =>
(if ¬ (x7 : Int32) = 0 then
jg ((jK h8 a0).1 = 18) (
jb (F_18_back a0 h8) fun x9 h10 =>
B_18_look_35 x7 h10)
else
jg ((jK h8 a0).1 = 18) (
jl (jsI h8 a0 16 a1) fun h11 =>
B_18_look_35 x7 h11))))))
def B_16_fork_16   (H : jH) : Option (Int32 × jH) :=
some ((-1), H)
def B_16_fork_20 (k20 : Nat → Int32 → Int32 → jH → Option (Int32 × jH)) (a0 : Nat) (a2 : Int32) (a3 : Int32) (H : jH) : Option (Int32 × jH) :=
jg ((jK H a0).1 = 16) (
jg ((jK H (jR H a0 3)).1 = 100 ∧ jin (a3) (jK H (jR H a0 3)).2) (
jg ((jK H a0).1 = 16) (
jb (F_16_below a0 a2 (jI H (jR H a0 3) (a3 : Int32).toNatClampNeg) H) fun x1 h2 =>
(if (x1 : Int32) = (a3 : Int32) then
some (a3, h2)
else
jg ((jK h2 a0).1 = 16) (
jg ((jK h2 (jR h2 a0 2)).1 = 100 ∧ jin (a3) (jK h2 (jR h2 a0 2)).2) (
jl (jI h2 (jR h2 a0 2) (a3 : Int32).toNatClampNeg) fun x3 =>
k20 a0 a2 x3 h2))))))
def F_16_fork_20  : Nat → Nat → Int32 → Int32 → jH → Option (Int32 × jH)
  | 0 => fun _ _ _ _ => none
  | n + 1 => fun a0 a2 a3 H => B_16_fork_20 (F_16_fork_20  n) a0 a2 a3 H
def F_16_fork (a0 : Nat) (a1 : Int32) (a2 : Int32) (H : jH) : Option (Int32 × jH) :=
jg ((jK H a0).1 = 16) (
jb (F_16_isBlock a0 a1 H) fun x4 h5 =>
(if (x4 : Int32) = 0 then
B_16_fork_16 h5
else
jg ((jK h5 a0).1 = 16) (
jb (F_16_isBlock a0 a2 h5) fun x6 h7 =>
(if ¬ (x6 : Int32) = 0 then
F_16_fork_20 jfuel a0 a2 a1 h7
else
B_16_fork_16 h7))))
def B_16_spoil_21   (H : jH) : Option (Int32 × jH) :=
some (0, H)
def B_16_spoil_69 (k27 : Nat → Int32 → Int32 → Int32 → jH → Option (Int32 × jH)) (a0 : Nat) (a1 : Int32) (a2 : Int32) (a3 : Int32) (H : jH) : Option (Int32 × jH) :=
jl (a3 + 1) fun x1 =>
k27 a0 a1 a2 x1 H
def B_16_spoil_27 (k27 : Nat → Int32 → Int32 → Int32 → jH → Option (Int32 × jH)) (a0 : Nat) (a1 : Int32) (a2 : Int32) (a3 : Int32) (H : jH) : Option (Int32 × jH) :=
jg ((jK H a0).1 = 16) (
(if ((jI H a0 1) : Int32) ≤ (a3 : Int32) then
some (a2, H)
else
jg ((jK H a0).1 = 16) (
jg ((jK H (jR H a0 6)).1 = 102 ∧ jin (a3) (jK H (jR H a0 6)).2) (
(if ¬ ((jI H (jR H a0 6) (a3 : Int32).toNatClampNeg) : Int32) = 0 then
B_16_spoil_69 k27 a0 a1 a2 a3 H
else
jg ((jK H a0).1 = 16) (
jg ((jK H (jR H a0 3)).1 = 100 ∧ jin (a1) (jK H (jR H a0 3)).2) (
jg ((jK H a0).1 = 16) (
jb (F_16_below a0 a3 (jI H (jR H a0 3) (a1 : Int32).toNatClampNeg) H) fun x2 h3 =>
(if ¬ (x2 : Int32) = (a1 : Int32) then
B_16_spoil_69 k27 a0 a1 a2 a3 h3
else
jg ((jK h3 a0).1 = 16) (
jg ((jK h3 (jR h3 a0 6)).1 = 102 ∧ jin (a3) (jK h3 (jR h3 a0 6)).2) (
jl (jsI h3 (jR h3 a0 6) (a3 : Int32).toNatClampNeg (1 &&& 1)) fun h4 =>
jl (a2 + 1) fun x5 =>
B_16_spoil_69 k27 a0 a1 x5 a3 h4)))))))))))
def F_16_spoil_27  : Nat → Nat → Int32 → Int32 → Int32 → jH → Option (Int32 × jH)
  | 0 => fun _ _ _ _ _ => none
  | n + 1 => fun a0 a1 a2 a3 H => B_16_spoil_27 (F_16_spoil_27  n) a0 a1 a2 a3 H
def F_16_spoil (a0 : Nat) (a1 : Int32) (H : jH) : Option (Int32 × jH) :=
jg ((jK H a0).1 = 16) (
jb (F_16_isBlock a0 a1 H) fun x6 h7 =>
(if (x6 : Int32) = 0 then
B_16_spoil_21 h7
else
(if (a1 : Int32) = 0 then
B_16_spoil_21 h7
else
jg ((jK h7 a0).1 = 16) (
jg ((jK h7 (jR h7 a0 6)).1 = 102 ∧ jin (a1) (jK h7 (jR h7 a0 6)).2) (
(if ((jI h7 (jR h7 a0 6) (a1 : Int32).toNatClampNeg) : Int32) = 0 then
F_16_spoil_27 jfuel a0 a1 0 0 h7
else
B_16_spoil_21 h7))))))
def B_16_compare_16   (H : jH) : Option (Int32 × jH) :=
some ((-2), H)
def B_16_compare_82 (k24 : Nat → Int32 → Int32 → Int32 → Int32 → jH → Option (Int32 × jH)) (a0 : Nat) (a1 : Int32) (a2 : Int32) (a4 : Int32) (s0 : Int32) (H : jH) : Option (Int32 × jH) :=
jl (a4 + 1) fun x1 =>
k24 a0 a1 a2 s0 x1 H
def B_16_compare_24 (k24 : Nat → Int32 → Int32 → Int32 → Int32 → jH → Option (Int32 × jH)) (a0 : Nat) (a1 : Int32) (a2 : Int32) (a3 : Int32) (a4 : Int32) (H : jH) : Option (Int32 × jH) :=
(if (40 : Int32) ≤ (a4 : Int32) then
some (a3, H)
else
jg ((jK H a0).1 = 16) (
jg ((jK H (jR H a0 7)).1 = 100 ∧ jin (((40 * a1) + a4)) (jK H (jR H a0 7)).2) (
jl (jI H (jR H a0 7) (((40 * a1) + a4) : Int32).toNatClampNeg) fun x2 =>
jg ((jK H a0).1 = 16) (
jg ((jK H (jR H a0 7)).1 = 100 ∧ jin (((40 * a2) + a4)) (jK H (jR H a0 7)).2) (
jl (jI H (jR H a0 7) (((40 * a2) + a4) : Int32).toNatClampNeg) fun x3 =>
(if (x3 : Int32) ≤ (x2 : Int32) then
(if (x2 : Int32) ≤ (x3 : Int32) then
B_16_compare_82 k24 a0 a1 a2 a4 a3 H
else
B_16_compare_82 k24 a0 a1 a2 a4 1 H)
else
B_16_compare_82 k24 a0 a1 a2 a4 (-1) H))))))
def F_16_compare_24  : Nat → Nat → Int32 → Int32 → Int32 → Int32 → jH → Option (Int32 × jH)
  | 0 => fun _ _ _ _ _ _ => none
  | n + 1 => fun a0 a1 a2 a3 a4 H => B_16_compare_24 (F_16_compare_24  n) a0 a1 a2 a3 a4 H
def F_16_compare (a0 : Nat) (a1 : Int32) (a2 : Int32) (H : jH) : Option (Int32 × jH) :=
jg ((jK H a0).1 = 16) (
jb (F_16_isBlock a0 a1 H) fun x4 h5 =>
(if (x4 : Int32) = 0 then
B_16_compare_16 h5
else
jg ((jK h5 a0).1 = 16) (
jb (F_16_isBlock a0 a2 h5) fun x6 h7 =>
(if ¬ (x6 : Int32) = 0 then
F_16_compare_24 jfuel a0 a1 a2 0 0 h7
else
B_16_compare_16 h7))))
def B_16_tip_35 (k4 : Nat → Int32 → Int32 → jH → Option (Int32 × jH)) (a0 : Nat) (a2 : Int32) (s0 : Int32) (H : jH) : Option (Int32 × jH) :=
jl (a2 + 1) fun x1 =>
k4 a0 s0 x1 H
def B_16_tip_34 (k4 : Nat → Int32 → Int32 → jH → Option (Int32 × jH)) (a0 : Nat) (a1 : Int32) (a2 : Int32) (H : jH) : Option (Int32 × jH) :=
B_16_tip_35 k4 a0 a2 a1 H
def B_16_tip_4 (k4 : Nat → Int32 → Int32 → jH → Option (Int32 × jH)) (a0 : Nat) (a1 : Int32) (a2 : Int32) (H : jH) : Option (Int32 × jH) :=
jg ((jK H a0).1 = 16) (
(if ((jI H a0 1) : Int32) ≤ (a2 : Int32) then
some (a1, H)
else
jg ((jK H a0).1 = 16) (
jg ((jK H (jR H a0 6)).1 = 102 ∧ jin (a2) (jK H (jR H a0 6)).2) (
(if ¬ ((jI H (jR H a0 6) (a2 : Int32).toNatClampNeg) : Int32) = 0 then
B_16_tip_34 k4 a0 a1 a2 H
else
jg ((jK H a0).1 = 16) (
jb (F_16_compare a0 a2 a1 H) fun x2 h3 =>
(if (x2 : Int32) ≤ 0 then
B_16_tip_34 k4 a0 a1 a2 h3
else
B_16_tip_35 k4 a0 a2 a2 h3)))))))
def F_16_tip_4  : Nat → Nat → Int32 → Int32 → jH → Option (Int32 × jH)
  | 0 => fun _ _ _ _ => none
  | n + 1 => fun a0 a1 a2 H => B_16_tip_4 (F_16_tip_4  n) a0 a1 a2 H
def F_16_tip (a0 : Nat) (H : jH) : Option (Int32 × jH) :=
F_16_tip_4 jfuel a0 0 1 H
def B_18_choose_114 (k37 : Nat → Int32 → Int32 → Int32 → Int32 → jH → Option (Unit × jH)) (a0 : Nat) (a1 : Int32) (a2 : Int32) (a3 : Int32) (a4 : Int32) (H : jH) : Option (Unit × jH) :=
jl (a4 + 1) fun x1 =>
k37 a0 a1 a2 a3 x1 H
def B_18_choose_120 (k13 : Nat → Int32 → Int32 → jH → Option (Unit × jH)) (a0 : Nat) (a1 : Int32) (a2 : Int32) (a3 : Int32) (H : jH) : Option (Unit × jH) :=
(if 0 ≤ (a3 : Int32) then
jg ((jK H a0).1 = 18) (
jg ((jK H (jR H a0 3)).1 = 16) (
jb (F_16_spoil (jR H a0 3) a3 H) fun x2 h3 =>
jg ((jK h3 a0).1 = 18) (
jg ((jK h3 (jR h3 a0 3)).1 = 16) (
jb (F_16_tip (jR h3 a0 3) h3) fun x4 h5 =>
k13 a0 a1 x4 h5))))
else
jg ((jK H a0).1 = 18) (
jl (jsI H a0 13 a2) fun h6 =>
some ((), h6)))
def B_18_choose_37 (k13 : Nat → Int32 → Int32 → jH → Option (Unit × jH)) (k37 : Nat → Int32 → Int32 → Int32 → Int32 → jH → Option (Unit × jH)) (a0 : Nat) (a1 : Int32) (a2 : Int32) (a3 : Int32) (a4 : Int32) (H : jH) : Option (Unit × jH) :=
jg ((jK H a0).1 = 18) (
jb (F_18_height a0 a2 H) fun x7 h8 =>
(if (x7 : Int32) < (a4 : Int32) then
B_18_choose_120 k13 a0 a1 a2 a3 h8
else
(if 0 ≤ (a3 : Int32) then
B_18_choose_120 k13 a0 a1 a2 a3 h8
else
jg ((jK h8 a0).1 = 18) (
jg ((jK h8 (jR h8 a0 3)).1 = 16) (
jb (F_16_below (jR h8 a0 3) a2 a4 h8) fun x9 h10 =>
jg ((jK h10 a0).1 = 18) (
jg ((jK h10 (jR h10 a0 9)).1 = 100 ∧ jin (x9) (jK h10 (jR h10 a0 9)).2) (
(if ¬ ((jI h10 (jR h10 a0 9) (x9 : Int32).toNatClampNeg) : Int32) = (1 : Int32) then
jg ((jK h10 a0).1 = 18) (
jg ((jK h10 a0).1 = 18) (
jb (F_18_look a0 x9 h10) fun x11 h12 =>
jg ((jK h12 (jR h10 a0 10)).1 = 100 ∧ jF0 ≤ (jR h10 a0 10) ∧ jin (x9) (jK h12 (jR h10 a0 10)).2) (
jl (jsI h12 (jR h10 a0 10) (x9 : Int32).toNatClampNeg x11) fun h13 =>
jg ((jK h13 a0).1 = 18) (
jg ((jK h13 (jR h13 a0 10)).1 = 100 ∧ jin (x9) (jK h13 (jR h13 a0 10)).2) (
(if ¬ ((jI h13 (jR h13 a0 10) (x9 : Int32).toNatClampNeg) : Int32) = 0 then
B_18_choose_114 k37 a0 a1 a2 x9 a4 h13
else
jg ((jK h13 a0).1 = 18) (
jg ((jK h13 (jR h13 a0 9)).1 = 100 ∧ jF0 ≤ (jR h13 a0 9) ∧ jin (x9) (jK h13 (jR h13 a0 9)).2) (
jl (jsI h13 (jR h13 a0 9) (x9 : Int32).toNatClampNeg 1) fun h14 =>
B_18_choose_114 k37 a0 a1 a2 a3 a4 h14))))))))
else
B_18_choose_114 k37 a0 a1 a2 a3 a4 h10))))))))
def F_18_choose_37 (k13 : Nat → Int32 → Int32 → jH → Option (Unit × jH)) : Nat → Nat → Int32 → Int32 → Int32 → Int32 → jH → Option (Unit × jH)
  | 0 => fun _ _ _ _ _ _ => none
  | n + 1 => fun a0 a1 a2 a3 a4 H => B_18_choose_37 k13 (F_18_choose_37 k13 n) a0 a1 a2 a3 a4 H
def B_18_choose_13 (k13 : Nat → Int32 → Int32 → jH → Option (Unit × jH)) (a0 : Nat) (a1 : Int32) (a2 : Int32) (H : jH) : Option (Unit × jH) :=
(if (a2 : Int32) = (a1 : Int32) then
some ((), H)
else
jg ((jK H a0).1 = 18) (
jg ((jK H (jR H a0 3)).1 = 16) (
jb (F_16_fork (jR H a0 3) a1 a2 H) fun x15 h16 =>
jg ((jK h16 a0).1 = 18) (
jb (F_18_height a0 x15 h16) fun x17 h18 =>
jl (x17 + 1) fun x19 =>
F_18_choose_37 k13 jfuel a0 a1 a2 (-1) x19 h18))))
def F_18_choose_13  : Nat → Nat → Int32 → Int32 → jH → Option (Unit × jH)
  | 0 => fun _ _ _ _ => none
  | n + 1 => fun a0 a1 a2 H => B_18_choose_13 (F_18_choose_13  n) a0 a1 a2 H
def F_18_choose (a0 : Nat) (H : jH) : Option (Unit × jH) :=
jg ((jK H a0).1 = 18) (
jl (jI H a0 13) fun x20 =>
jg ((jK H a0).1 = 18) (
jg ((jK H (jR H a0 3)).1 = 16) (
jb (F_16_tip (jR H a0 3) H) fun x21 h22 =>
F_18_choose_13 jfuel a0 x20 x21 h22)))
def B_18_inPool_2 (k2 : Nat → Nat → Int32 → Int32 → jH → Option (Int32 × jH)) (a0 : Nat) (a1 : Nat) (a2 : Int32) (a3 : Int32) (H : jH) : Option (Int32 × jH) :=
jg ((jK H a0).1 = 18) (
(if ((jI H a0 36) : Int32) ≤ (a3 : Int32) then
some ((-1), H)
else
jg ((jK H a0).1 = 18) (
jb (F_18_like (jR H a0 39) (32 * a3) a1 a2 32 H) fun x1 h2 =>
(if (x1 : Int32) = 0 then
jl (a3 + 1) fun x3 =>
k2 a0 a1 a2 x3 h2
else
some (a3, h2)))))
def F_18_inPool_2  : Nat → Nat → Nat → Int32 → Int32 → jH → Option (Int32 × jH)
  | 0 => fun _ _ _ _ _ => none
  | n + 1 => fun a0 a1 a2 a3 H => B_18_inPool_2 (F_18_inPool_2  n) a0 a1 a2 a3 H
def F_18_inPool (a0 : Nat) (a1 : Nat) (a2 : Int32) (H : jH) : Option (Int32 × jH) :=
F_18_inPool_2 jfuel a0 a1 a2 0 H
def F_18_openPool (a0 : Nat) (a1 : Int32) (H : jH) : Option (Unit × jH) :=
jg ((jK H a0).1 = 18) (
jg ((jK H a0).1 = 18) (
jg ((jK H a0).1 = 18) (
jg ((jK H (jR H a0 38)).1 = 100 ∧ jin (a1) (jK H (jR H a0 38)).2) (
jg ((jK H (jR H a0 5)).1 = 17) (
jb (F_17_read (jR H a0 5) (jR H a0 37) (2000 * a1) ((2000 * a1) + (jI H (jR H a0 38) (a1 : Int32).toNatClampNeg)) H) fun x1 h2 =>
some ((), h2))))))
def B_18_spends_77 (k6 : Nat → Int32 → Nat → Int32 → Int64 → Int32 → Int32 → jH → Option (Int32 × jH)) (a0 : Nat) (a1 : Int32) (a2 : Nat) (a3 : Int32) (a4 : Int64) (a7 : Int32) (s0 : Int32) (H : jH) : Option (Int32 × jH) :=
jl (a7 + 1) fun x1 =>
k6 a0 a1 a2 a3 a4 s0 x1 H
def B_18_spends_72 (k6 : Nat → Int32 → Nat → Int32 → Int64 → Int32 → Int32 → jH → Option (Int32 × jH)) (a0 : Nat) (a1 : Int32) (a2 : Nat) (a3 : Int32) (a4 : Int64) (a7 : Int32) (H : jH) : Option (Int32 × jH) :=
B_18_spends_77 k6 a0 a1 a2 a3 a4 a7 1 H
def B_18_spends_76 (k6 : Nat → Int32 → Nat → Int32 → Int64 → Int32 → Int32 → jH → Option (Int32 × jH)) (a0 : Nat) (a1 : Int32) (a2 : Nat) (a3 : Int32) (a4 : Int64) (a7 : Int32) (H : jH) : Option (Int32 × jH) :=
B_18_spends_77 k6 a0 a1 a2 a3 a4 a7 0 H
def B_18_spends_6 (k6 : Nat → Int32 → Nat → Int32 → Int64 → Int32 → Int32 → jH → Option (Int32 × jH)) (a0 : Nat) (a1 : Int32) (a2 : Nat) (a3 : Int32) (a4 : Int64) (a6 : Int32) (a7 : Int32) (H : jH) : Option (Int32 × jH) :=
jg ((jK H a0).1 = 18) (
jg ((jK H (jR H a0 41)).1 = 100 ∧ jin (a1) (jK H (jR H a0 41)).2) (
(if ((jI H (jR H a0 41) (a1 : Int32).toNatClampNeg) : Int32) ≤ (a7 : Int32) then
jg ((a6 : Int32) = 0 ∨ (a6 : Int32) = 1) (some (a6, H))
else
(if ¬ (a6 : Int32) = 0 then
B_18_spends_72 k6 a0 a1 a2 a3 a4 a7 H
else
jg ((jK H a0).1 = 18) (
jg ((jK H (jR H a0 43)).1 = 103 ∧ jin (((8 * a1) + a7)) (jK H (jR H a0 43)).2) (
(if ¬ ((jL H (jR H a0 43) (((8 * a1) + a7) : Int32).toNatClampNeg) : Int64) = a4 then
B_18_spends_76 k6 a0 a1 a2 a3 a4 a7 H
else
jg ((jK H a0).1 = 18) (
jg ((jK H a0).1 = 18) (
jg ((jK H (jR H a0 42)).1 = 100 ∧ jin (((8 * a1) + a7)) (jK H (jR H a0 42)).2) (
jb (F_18_like (jR H a0 37) ((2000 * a1) + (jI H (jR H a0 42) (((8 * a1) + a7) : Int32).toNatClampNeg)) a2 a3 32 H) fun x2 h3 =>
(if (x2 : Int32) = 0 then
B_18_spends_76 k6 a0 a1 a2 a3 a4 a7 h3
else
B_18_spends_72 k6 a0 a1 a2 a3 a4 a7 h3)))))))))))
def F_18_spends_6  : Nat → Nat → Int32 → Nat → Int32 → Int64 → Int32 → Int32 → jH → Option (Int32 × jH)
  | 0 => fun _ _ _ _ _ _ _ _ => none
  | n + 1 => fun a0 a1 a2 a3 a4 a6 a7 H => B_18_spends_6 (F_18_spends_6  n) a0 a1 a2 a3 a4 a6 a7 H
def F_18_spends (a0 : Nat) (a1 : Int32) (a2 : Nat) (a3 : Int32) (a4 : Int64) (H : jH) : Option (Int32 × jH) :=
F_18_spends_6 jfuel a0 a1 a2 a3 a4 0 0 H
def B_18_hangs_59 (k6 : Nat → Int32 → Nat → Int32 → Int32 → Int32 → jH → Option (Int32 × jH)) (a0 : Nat) (a1 : Int32) (a2 : Nat) (a3 : Int32) (a5 : Int32) (s0 : Int32) (H : jH) : Option (Int32 × jH) :=
jl (a5 + 1) fun x1 =>
k6 a0 a1 a2 a3 s0 x1 H
def B_18_hangs_54 (k6 : Nat → Int32 → Nat → Int32 → Int32 → Int32 → jH → Option (Int32 × jH)) (a0 : Nat) (a1 : Int32) (a2 : Nat) (a3 : Int32) (a5 : Int32) (H : jH) : Option (Int32 × jH) :=
B_18_hangs_59 k6 a0 a1 a2 a3 a5 1 H
def B_18_hangs_6 (k6 : Nat → Int32 → Nat → Int32 → Int32 → Int32 → jH → Option (Int32 × jH)) (a0 : Nat) (a1 : Int32) (a2 : Nat) (a3 : Int32) (a4 : Int32) (a5 : Int32) (H : jH) : Option (Int32 × jH) :=
jg ((jK H a0).1 = 18) (
jg ((jK H (jR H a0 41)).1 = 100 ∧ jin (a1) (jK H (jR H a0 41)).2) (
(if ((jI H (jR H a0 41) (a1 : Int32).toNatClampNeg) : Int32) ≤ (a5 : Int32) then
jg ((a4 : Int32) = 0 ∨ (a4 : Int32) = 1) (some (a4, H))
else
(if ¬ (a4 : Int32) = 0 then
B_18_hangs_54 k6 a0 a1 a2 a3 a5 H
else
jg ((jK H a0).1 = 18) (
jg ((jK H a0).1 = 18) (
jg ((jK H (jR H a0 42)).1 = 100 ∧ jin (((8 * a1) + a5)) (jK H (jR H a0 42)).2) (
jb (F_18_like (jR H a0 37) ((2000 * a1) + (jI H (jR H a0 42) (((8 * a1) + a5) : Int32).toNatClampNeg)) a2 a3 32 H) fun x2 h3 =>
(if (x2 : Int32) = 0 then
B_18_hangs_59 k6 a0 a1 a2 a3 a5 0 h3
else
B_18_hangs_54 k6 a0 a1 a2 a3 a5 h3))))))))
def F_18_hangs_6  : Nat → Nat → Int32 → Nat → Int32 → Int32 → Int32 → jH → Option (Int32 × jH)
  | 0 => fun _ _ _ _ _ _ _ => none
  | n + 1 => fun a0 a1 a2 a3 a4 a5 H => B_18_hangs_6 (F_18_hangs_6  n) a0 a1 a2 a3 a4 a5 H
def F_18_hangs (a0 : Nat) (a1 : Int32) (a2 : Nat) (a3 : Int32) (H : jH) : Option (Int32 × jH) :=
F_18_hangs_6 jfuel a0 a1 a2 a3 0 0 H
def B_18_family_109 (k52 : Nat → Int32 → Int32 → Int32 → jH → Option (Unit × jH)) (a0 : Nat) (a3 : Int32) (a4 : Int32) (a5 : Int32) (H : jH) : Option (Unit × jH) :=
jl (a5 + 1) fun x1 =>
k52 a0 a3 a4 x1 H
def B_18_family_115 (k40 : Nat → Int32 → Int32 → jH → Option (Unit × jH)) (a0 : Nat) (a3 : Int32) (a4 : Int32) (H : jH) : Option (Unit × jH) :=
jl (a4 + 1) fun x2 =>
k40 a0 a3 x2 H
def B_18_family_52 (k40 : Nat → Int32 → Int32 → jH → Option (Unit × jH)) (k52 : Nat → Int32 → Int32 → Int32 → jH → Option (Unit × jH)) (a0 : Nat) (a3 : Int32) (a4 : Int32) (a5 : Int32) (H : jH) : Option (Unit × jH) :=
jg ((jK H a0).1 = 18) (
(if ((jI H a0 36) : Int32) ≤ (a5 : Int32) then
B_18_family_115 k40 a0 a3 a4 H
else
jg ((jK H a0).1 = 18) (
jg ((jK H (jR H a0 44)).1 = 102 ∧ jin (a4) (jK H (jR H a0 44)).2) (
(if ¬ ((jI H (jR H a0 44) (a4 : Int32).toNatClampNeg) : Int32) = 0 then
B_18_family_115 k40 a0 a3 a4 H
else
jg ((jK H a0).1 = 18) (
jg ((jK H (jR H a0 44)).1 = 102 ∧ jin (a5) (jK H (jR H a0 44)).2) (
(if ((jI H (jR H a0 44) (a5 : Int32).toNatClampNeg) : Int32) = 0 then
B_18_family_109 k52 a0 a3 a4 a5 H
else
jg ((jK H a0).1 = 18) (
jg ((jK H a0).1 = 18) (
jb (F_18_hangs a0 a4 (jR H a0 39) (32 * a5) H) fun x3 h4 =>
(if (x3 : Int32) = 0 then
B_18_family_109 k52 a0 a3 a4 a5 h4
else
jg ((jK h4 a0).1 = 18) (
jg ((jK h4 (jR h4 a0 44)).1 = 102 ∧ jin (a4) (jK h4 (jR h4 a0 44)).2) (
jl (jsI h4 (jR h4 a0 44) (a4 : Int32).toNatClampNeg (1 &&& 1)) fun h5 =>
B_18_family_109 k52 a0 1 a4 a5 h5)))))))))))))
def F_18_family_52 (k40 : Nat → Int32 → Int32 → jH → Option (Unit × jH)) : Nat → Nat → Int32 → Int32 → Int32 → jH → Option (Unit × jH)
  | 0 => fun _ _ _ _ _ => none
  | n + 1 => fun a0 a3 a4 a5 H => B_18_family_52 k40 (F_18_family_52 k40 n) a0 a3 a4 a5 H
def B_18_family_40 (k31 : Nat → Int32 → jH → Option (Unit × jH)) (k40 : Nat → Int32 → Int32 → jH → Option (Unit × jH)) (a0 : Nat) (a3 : Int32) (a4 : Int32) (H : jH) : Option (Unit × jH) :=
jg ((jK H a0).1 = 18) (
(if ((jI H a0 36) : Int32) ≤ (a4 : Int32) then
k31 a0 a3 H
else
F_18_family_52 k40 jfuel a0 a3 a4 0 H))
def F_18_family_40 (k31 : Nat → Int32 → jH → Option (Unit × jH)) : Nat → Nat → Int32 → Int32 → jH → Option (Unit × jH)
  | 0 => fun _ _ _ _ => none
  | n + 1 => fun a0 a3 a4 H => B_18_family_40 k31 (F_18_family_40 k31 n) a0 a3 a4 H
def B_18_family_31 (k31 : Nat → Int32 → jH → Option (Unit × jH)) (a0 : Nat) (a3 : Int32) (H : jH) : Option (Unit × jH) :=
(if (a3 : Int32) = 0 then
some ((), H)
else
F_18_family_40 k31 jfuel a0 0 0 H)
def F_18_family_31  : Nat → Nat → Int32 → jH → Option (Unit × jH)
  | 0 => fun _ _ _ => none
  | n + 1 => fun a0 a3 H => B_18_family_31 (F_18_family_31  n) a0 a3 H
def B_18_family_2 (k2 : Nat → Nat → Int32 → Int32 → jH → Option (Unit × jH)) (a0 : Nat) (a1 : Nat) (a2 : Int32) (a3 : Int32) (H : jH) : Option (Unit × jH) :=
jg ((jK H a0).1 = 18) (
(if ((jI H a0 36) : Int32) ≤ (a3 : Int32) then
F_18_family_31 jfuel a0 1 H
else
jg ((jK H a0).1 = 18) (
jg ((jK H a0).1 = 18) (
jb (F_18_hangs a0 a3 a1 a2 H) fun x6 h7 =>
jg ((jK h7 (jR H a0 44)).1 = 102 ∧ jin (a3) (jK h7 (jR H a0 44)).2) (
jl (jsI h7 (jR H a0 44) (a3 : Int32).toNatClampNeg (x6 &&& 1)) fun h8 =>
jl (a3 + 1) fun x9 =>
k2 a0 a1 a2 x9 h8)))))
def F_18_family_2  : Nat → Nat → Nat → Int32 → Int32 → jH → Option (Unit × jH)
  | 0 => fun _ _ _ _ _ => none
  | n + 1 => fun a0 a1 a2 a3 H => B_18_family_2 (F_18_family_2  n) a0 a1 a2 a3 H
def F_18_family (a0 : Nat) (a1 : Nat) (a2 : Int32) (H : jH) : Option (Unit × jH) :=
F_18_family_2 jfuel a0 a1 a2 0 H
def B_18_compare_29  (s0 : Int32) (H : jH) : Option (Int32 × jH) :=
some (s0, H)
def B_18_compare_72  (s0 : Int32) (H : jH) : Option (Int32 × jH) :=
some (s0, H)
def F_18_compare (a0 : Int64) (a2 : Int64) (a4 : Int64) (a6 : Int64) (H : jH) : Option (Int32 × jH) :=
jg (¬ (a2 : Int64) = 0) (
jg (¬ (a6 : Int64) = 0) (
(if ((a0 / a2) : Int64) = (a4 / a6) then
jg (¬ (a2 : Int64) = 0) (
jl ((jremL a0 a2) * a6) fun x1 =>
jg (¬ (a6 : Int64) = 0) (
jl ((jremL a4 a6) * a2) fun x2 =>
(if x2 ≤ (x1 : Int64) then
(if (x1 : Int64) ≤ x2 then
B_18_compare_72 0 H
else
B_18_compare_72 1 H)
else
B_18_compare_72 (-1) H)))
else
jg (¬ (a2 : Int64) = 0) (
jg (¬ (a6 : Int64) = 0) (
(if (a4 / a6) ≤ ((a0 / a2) : Int64) then
B_18_compare_29 1 H
else
B_18_compare_29 (-1) H))))))
def B_18_evict_108 (k49 : Nat → Int32 → Int64 → Int64 → Int32 → Int64 → Int64 → Int32 → jH → Option (Unit × jH)) (a0 : Nat) (a1 : Int32) (a2 : Int64) (a4 : Int64) (a6 : Int32) (a7 : Int64) (a11 : Int32) (s0 : Int64) (s1 : Int64) (H : jH) : Option (Unit × jH) :=
jl (s0 + s1) fun x1 =>
jl (a11 + 1) fun x2 =>
k49 a0 a1 a2 a4 a6 a7 x1 x2 H
def B_18_evict_81 (k49 : Nat → Int32 → Int64 → Int64 → Int32 → Int64 → Int64 → Int32 → jH → Option (Unit × jH)) (a0 : Nat) (a1 : Int32) (a2 : Int64) (a4 : Int64) (a6 : Int32) (a9 : Int64) (a11 : Int32) (s0 : Int64) (s1 : Int64) (H : jH) : Option (Unit × jH) :=
jl (s0 + s1) fun x3 =>
jg ((jK H a0).1 = 18) (
jg ((jK H (jR H a0 44)).1 = 102 ∧ jin (a11) (jK H (jR H a0 44)).2) (
(if ((jI H (jR H a0 44) (a11 : Int32).toNatClampNeg) : Int32) = 0 then
B_18_evict_108 k49 a0 a1 a2 a4 a6 x3 a11 a9 0 H
else
jg ((jK H a0).1 = 18) (
jg ((jK H (jR H a0 38)).1 = 100 ∧ jin (a11) (jK H (jR H a0 38)).2) (
B_18_evict_108 k49 a0 a1 a2 a4 a6 x3 a11 a9 (Int32.toInt64 (jI H (jR H a0 38) (a11 : Int32).toNatClampNeg)) H)))))
def B_18_evict_144 (k10 : Nat → Int32 → Int64 → Int64 → Int32 → jH → Option (Unit × jH)) (a0 : Nat) (a1 : Int32) (a2 : Int64) (a4 : Int64) (a6 : Int32) (H : jH) : Option (Unit × jH) :=
jl (a6 + 1) fun x4 =>
k10 a0 a1 a2 a4 x4 H
def B_18_evict_134 (k10 : Nat → Int32 → Int64 → Int64 → Int32 → jH → Option (Unit × jH)) (a0 : Nat) (a6 : Int32) (a7 : Int64) (a9 : Int64) (H : jH) : Option (Unit × jH) :=
B_18_evict_144 k10 a0 a6 a7 a9 a6 H
def B_18_evict_49 (k10 : Nat → Int32 → Int64 → Int64 → Int32 → jH → Option (Unit × jH)) (k49 : Nat → Int32 → Int64 → Int64 → Int32 → Int64 → Int64 → Int32 → jH → Option (Unit × jH)) (a0 : Nat) (a1 : Int32) (a2 : Int64) (a4 : Int64) (a6 : Int32) (a7 : Int64) (a9 : Int64) (a11 : Int32) (H : jH) : Option (Unit × jH) :=
jg ((jK H a0).1 = 18) (
(if ((jI H a0 36) : Int32) ≤ (a11 : Int32) then
(if (a1 : Int32) < 0 then
B_18_evict_134 k10 a0 a6 a7 a9 H
else
jb (F_18_compare a7 a9 a2 a4 H) fun x5 h6 =>
(if 0 < (x5 : Int32) then
B_18_evict_144 k10 a0 a1 a2 a4 a6 h6
else
B_18_evict_134 k10 a0 a6 a7 a9 h6))
else
jg ((jK H a0).1 = 18) (
jg ((jK H (jR H a0 44)).1 = 102 ∧ jin (a11) (jK H (jR H a0 44)).2) (
(if ((jI H (jR H a0 44) (a11 : Int32).toNatClampNeg) : Int32) = 0 then
B_18_evict_81 k49 a0 a1 a2 a4 a6 a9 a11 a7 0 H
else
jg ((jK H a0).1 = 18) (
jg ((jK H (jR H a0 40)).1 = 103 ∧ jin (a11) (jK H (jR H a0 40)).2) (
B_18_evict_81 k49 a0 a1 a2 a4 a6 a9 a11 a7 (jL H (jR H a0 40) (a11 : Int32).toNatClampNeg) H)))))))
def F_18_evict_49 (k10 : Nat → Int32 → Int64 → Int64 → Int32 → jH → Option (Unit × jH)) : Nat → Nat → Int32 → Int64 → Int64 → Int32 → Int64 → Int64 → Int32 → jH → Option (Unit × jH)
  | 0 => fun _ _ _ _ _ _ _ _ _ => none
  | n + 1 => fun a0 a1 a2 a4 a6 a7 a9 a11 H => B_18_evict_49 k10 (F_18_evict_49 k10 n) a0 a1 a2 a4 a6 a7 a9 a11 H
def B_18_evict_406 (k175 : Nat → Int32 → Int32 → jH → Option (Unit × jH)) (a0 : Nat) (a6 : Int32) (a7 : Int32) (H : jH) : Option (Unit × jH) :=
jl (a7 + 1) fun x7 =>
k175 a0 a6 x7 H
def B_18_evict_333 (k175 : Nat → Int32 → Int32 → jH → Option (Unit × jH)) (k333 : Nat → Int32 → Int32 → Int32 → jH → Option (Unit × jH)) (a0 : Nat) (a6 : Int32) (a7 : Int32) (a8 : Int32) (H : jH) : Option (Unit × jH) :=
jg ((jK H a0).1 = 18) (
jg ((jK H (jR H a0 41)).1 = 100 ∧ jin (a7) (jK H (jR H a0 41)).2) (
(if ((jI H (jR H a0 41) (a7 : Int32).toNatClampNeg) : Int32) ≤ (a8 : Int32) then
jl (a6 + 1) fun x8 =>
B_18_evict_406 k175 a0 x8 a7 H
else
jg ((jK H a0).1 = 18) (
jg ((jK H a0).1 = 18) (
jg ((jK H (jR H a0 42)).1 = 100 ∧ jin (((8 * a7) + a8)) (jK H (jR H a0 42)).2) (
jg ((jK H (jR H a0 42)).1 = 100 ∧ jF0 ≤ (jR H a0 42) ∧ jin (((8 * a6) + a8)) (jK H (jR H a0 42)).2) (
jl (jsI H (jR H a0 42) (((8 * a6) + a8) : Int32).toNatClampNeg (jI H (jR H a0 42) (((8 * a7) + a8) : Int32).toNatClampNeg)) fun h9 =>
jg ((jK h9 a0).1 = 18) (
jg ((jK h9 a0).1 = 18) (
jg ((jK h9 (jR h9 a0 43)).1 = 103 ∧ jin (((8 * a7) + a8)) (jK h9 (jR h9 a0 43)).2) (
jg ((jK h9 (jR h9 a0 43)).1 = 103 ∧ jin (((8 * a6) + a8)) (jK h9 (jR h9 a0 43)).2) (
jl (jsL h9 (jR h9 a0 43) (((8 * a6) + a8) : Int32).toNatClampNeg (jL h9 (jR h9 a0 43) (((8 * a7) + a8) : Int32).toNatClampNeg)) fun h10 =>
jl (a8 + 1) fun x11 =>
k333 a0 a6 a7 x11 h10)))))))))))
def F_18_evict_333 (k175 : Nat → Int32 → Int32 → jH → Option (Unit × jH)) : Nat → Nat → Int32 → Int32 → Int32 → jH → Option (Unit × jH)
  | 0 => fun _ _ _ _ _ => none
  | n + 1 => fun a0 a6 a7 a8 H => B_18_evict_333 k175 (F_18_evict_333 k175 n) a0 a6 a7 a8 H
def B_18_evict_249 (k175 : Nat → Int32 → Int32 → jH → Option (Unit × jH)) (k249 : Nat → Int32 → Int32 → Int32 → jH → Option (Unit × jH)) (a0 : Nat) (a6 : Int32) (a7 : Int32) (a8 : Int32) (H : jH) : Option (Unit × jH) :=
(if (32 : Int32) ≤ (a8 : Int32) then
jg ((jK H a0).1 = 18) (
jg ((jK H a0).1 = 18) (
jg ((jK H (jR H a0 38)).1 = 100 ∧ jin (a7) (jK H (jR H a0 38)).2) (
jg ((jK H (jR H a0 38)).1 = 100 ∧ jF0 ≤ (jR H a0 38) ∧ jin (a6) (jK H (jR H a0 38)).2) (
jl (jsI H (jR H a0 38) (a6 : Int32).toNatClampNeg (jI H (jR H a0 38) (a7 : Int32).toNatClampNeg)) fun h12 =>
jg ((jK h12 a0).1 = 18) (
jg ((jK h12 a0).1 = 18) (
jg ((jK h12 (jR h12 a0 40)).1 = 103 ∧ jin (a7) (jK h12 (jR h12 a0 40)).2) (
jg ((jK h12 (jR h12 a0 40)).1 = 103 ∧ jin (a6) (jK h12 (jR h12 a0 40)).2) (
jl (jsL h12 (jR h12 a0 40) (a6 : Int32).toNatClampNeg (jL h12 (jR h12 a0 40) (a7 : Int32).toNatClampNeg)) fun h13 =>
jg ((jK h13 a0).1 = 18) (
jg ((jK h13 a0).1 = 18) (
jg ((jK h13 (jR h13 a0 41)).1 = 100 ∧ jin (a7) (jK h13 (jR h13 a0 41)).2) (
jg ((jK h13 (jR h13 a0 41)).1 = 100 ∧ jF0 ≤ (jR h13 a0 41) ∧ jin (a6) (jK h13 (jR h13 a0 41)).2) (
jl (jsI h13 (jR h13 a0 41) (a6 : Int32).toNatClampNeg (jI h13 (jR h13 a0 41) (a7 : Int32).toNatClampNeg)) fun h14 =>
F_18_evict_333 k175 jfuel a0 a6 a7 0 h14))))))))))))
else
jg ((jK H a0).1 = 18) (
jg ((jK H a0).1 = 18) (
jg ((jK H (jR H a0 39)).1 = 101 ∧ jin (((32 * a7) + a8)) (jK H (jR H a0 39)).2) (
jg ((jK H (jR H a0 39)).1 = 101 ∧ jin (((32 * a6) + a8)) (jK H (jR H a0 39)).2) (
jl (jsB H (jR H a0 39) (((32 * a6) + a8) : Int32).toNatClampNeg (jbu (jbs (jB H (jR H a0 39) (((32 * a7) + a8) : Int32).toNatClampNeg)))) fun h15 =>
jl (a8 + 1) fun x16 =>
k249 a0 a6 a7 x16 h15)))))
def F_18_evict_249 (k175 : Nat → Int32 → Int32 → jH → Option (Unit × jH)) : Nat → Nat → Int32 → Int32 → Int32 → jH → Option (Unit × jH)
  | 0 => fun _ _ _ _ _ => none
  | n + 1 => fun a0 a6 a7 a8 H => B_18_evict_249 k175 (F_18_evict_249 k175 n) a0 a6 a7 a8 H
def B_18_evict_200 (k175 : Nat → Int32 → Int32 → jH → Option (Unit × jH)) (k200 : Nat → Int32 → Int32 → Int32 → jH → Option (Unit × jH)) (a0 : Nat) (a6 : Int32) (a7 : Int32) (a8 : Int32) (H : jH) : Option (Unit × jH) :=
jg ((jK H a0).1 = 18) (
jg ((jK H (jR H a0 38)).1 = 100 ∧ jin (a7) (jK H (jR H a0 38)).2) (
(if ((jI H (jR H a0 38) (a7 : Int32).toNatClampNeg) : Int32) ≤ (a8 : Int32) then
F_18_evict_249 k175 jfuel a0 a6 a7 0 H
else
jg ((jK H a0).1 = 18) (
jg ((jK H a0).1 = 18) (
jg ((jK H (jR H a0 37)).1 = 101 ∧ jin (((2000 * a7) + a8)) (jK H (jR H a0 37)).2) (
jg ((jK H (jR H a0 37)).1 = 101 ∧ jin (((2000 * a6) + a8)) (jK H (jR H a0 37)).2) (
jl (jsB H (jR H a0 37) (((2000 * a6) + a8) : Int32).toNatClampNeg (jbu (jbs (jB H (jR H a0 37) (((2000 * a7) + a8) : Int32).toNatClampNeg)))) fun h17 =>
jl (a8 + 1) fun x18 =>
k200 a0 a6 a7 x18 h17)))))))
def F_18_evict_200 (k175 : Nat → Int32 → Int32 → jH → Option (Unit × jH)) : Nat → Nat → Int32 → Int32 → Int32 → jH → Option (Unit × jH)
  | 0 => fun _ _ _ _ _ => none
  | n + 1 => fun a0 a6 a7 a8 H => B_18_evict_200 k175 (F_18_evict_200 k175 n) a0 a6 a7 a8 H
def B_18_evict_175 (k175 : Nat → Int32 → Int32 → jH → Option (Unit × jH)) (a0 : Nat) (a6 : Int32) (a7 : Int32) (H : jH) : Option (Unit × jH) :=
jg ((jK H a0).1 = 18) (
(if ((jI H a0 36) : Int32) ≤ (a7 : Int32) then
jg ((jK H a0).1 = 18) (
jl (jsI H a0 36 a6) fun h19 =>
some ((), h19))
else
jg ((jK H a0).1 = 18) (
jg ((jK H (jR H a0 44)).1 = 102 ∧ jin (a7) (jK H (jR H a0 44)).2) (
(if ((jI H (jR H a0 44) (a7 : Int32).toNatClampNeg) : Int32) = 0 then
F_18_evict_200 k175 jfuel a0 a6 a7 0 H
else
B_18_evict_406 k175 a0 a6 a7 H)))))
def F_18_evict_175  : Nat → Nat → Int32 → Int32 → jH → Option (Unit × jH)
  | 0 => fun _ _ _ _ => none
  | n + 1 => fun a0 a6 a7 H => B_18_evict_175 (F_18_evict_175  n) a0 a6 a7 H
def B_18_evict_10 (k10 : Nat → Int32 → Int64 → Int64 → Int32 → jH → Option (Unit × jH)) (a0 : Nat) (a1 : Int32) (a2 : Int64) (a4 : Int64) (a6 : Int32) (H : jH) : Option (Unit × jH) :=
jg ((jK H a0).1 = 18) (
(if ((jI H a0 36) : Int32) ≤ (a6 : Int32) then
jg ((jK H a0).1 = 18) (
jg ((jK H a0).1 = 18) (
jb (F_18_family a0 (jR H a0 39) (32 * a1) H) fun x20 h21 =>
jg ((jK h21 a0).1 = 18) (
jg ((jK h21 (jR h21 a0 44)).1 = 102 ∧ jin (a1) (jK h21 (jR h21 a0 44)).2) (
jl (jsI h21 (jR h21 a0 44) (a1 : Int32).toNatClampNeg (1 &&& 1)) fun h22 =>
F_18_evict_175 jfuel a0 0 0 h22))))
else
jg ((jK H a0).1 = 18) (
jg ((jK H a0).1 = 18) (
jb (F_18_family a0 (jR H a0 39) (32 * a6) H) fun x23 h24 =>
jg ((jK h24 a0).1 = 18) (
jg ((jK h24 (jR h24 a0 44)).1 = 102 ∧ jin (a6) (jK h24 (jR h24 a0 44)).2) (
jl (jsI h24 (jR h24 a0 44) (a6 : Int32).toNatClampNeg (1 &&& 1)) fun h25 =>
F_18_evict_49 k10 jfuel a0 a1 a2 a4 a6 0 0 0 h25))))))
def F_18_evict_10  : Nat → Nat → Int32 → Int64 → Int64 → Int32 → jH → Option (Unit × jH)
  | 0 => fun _ _ _ _ _ _ => none
  | n + 1 => fun a0 a1 a2 a4 a6 H => B_18_evict_10 (F_18_evict_10  n) a0 a1 a2 a4 a6 H
def F_18_evict (a0 : Nat) (H : jH) : Option (Unit × jH) :=
F_18_evict_10 jfuel a0 (-1) 0 1 0 H
def B_18_find_88  (a0 : Nat) (a5 : Int32) (s0 : Nat) (s1 : Int32) (H : jH) : Option (Int64 × jH) :=
jg ((jK H s0).1 = 18 ∧ ((s1 : Int32) = 0 ∨ (s1 : Int32) = 1)) (
jl (jsI H s0 60 s1) fun h1 =>
jg ((jK h1 a0).1 = 18) (
jg ((jK h1 (jR h1 a0 22)).1 = 103 ∧ jin (a5) (jK h1 (jR h1 a0 22)).2) (
some ((jL h1 (jR h1 a0 22) (a5 : Int32).toNatClampNeg), h1))))
def B_18_find_87  (a0 : Nat) (a5 : Int32) (s0 : Nat) (H : jH) : Option (Int64 × jH) :=
B_18_find_88 a0 a5 s0 0 H
def F_18_find (a0 : Nat) (a1 : Nat) (a2 : Int32) (a3 : Int64) (H : jH) : Option (Int64 × jH) :=
jg ((jK H a0).1 = 18) (
jb (F_18_coin a0 a1 a2 a3 H) fun x2 h3 =>
jg ((jK h3 a0).1 = 18 ∧ ((0 : Int32) = 0 ∨ (0 : Int32) = 1)) (
jl (jsI h3 a0 60 0) fun h4 =>
(if (x2 : Int32) < 0 then
jg ((jK h4 a0).1 = 18) (
jb (F_18_inPool a0 a1 a2 h4) fun x5 h6 =>
(if 0 ≤ (x5 : Int32) then
jg ((jK h6 a0).1 = 18) (
jb (F_18_openPool a0 x5 h6) fun x7 h8 =>
jg ((jK h8 a0).1 = 18) (
jg ((jK h8 (jR h8 a0 5)).1 = 17) (
(if (a3 : Int64) < (Int32.toInt64 (jI h8 (jR h8 a0 5) 5)) then
jg ((jK h8 a0).1 = 18) (
jg ((jK h8 a0).1 = 18) (
jl (jsR h8 a0 57 (jR h8 a0 37)) fun h9 =>
jg ((jK h9 a0).1 = 18) (
jg ((jK h9 (jR h9 a0 5)).1 = 17) (
jg ((jK h9 (jR h9 (jR h9 a0 5) 13)).1 = 100 ∧ jin ((Int64.toInt32 a3)) (jK h9 (jR h9 (jR h9 a0 5) 13)).2) (
jg ((jK h9 a0).1 = 18) (
jl (jsI h9 a0 58 (jI h9 (jR h9 (jR h9 a0 5) 13) ((Int64.toInt32 a3) : Int32).toNatClampNeg)) fun h10 =>
jg ((jK h10 a0).1 = 18) (
jg ((jK h10 (jR h10 a0 5)).1 = 17) (
jg ((jK h10 (jR h10 (jR h10 a0 5) 14)).1 = 100 ∧ jin ((Int64.toInt32 a3)) (jK h10 (jR h10 (jR h10 a0 5) 14)).2) (
jg ((jK h10 a0).1 = 18) (
jl (jsI h10 a0 59 (jI h10 (jR h10 (jR h10 a0 5) 14) ((Int64.toInt32 a3) : Int32).toNatClampNeg)) fun h11 =>
jg ((jK h11 a0).1 = 18) (
jg ((jK h11 (jR h11 a0 5)).1 = 17) (
jg ((jK h11 (jR h11 (jR h11 a0 5) 12)).1 = 103 ∧ jin ((Int64.toInt32 a3)) (jK h11 (jR h11 (jR h11 a0 5) 12)).2) (
some ((jL h11 (jR h11 (jR h11 a0 5) 12) ((Int64.toInt32 a3) : Int32).toNatClampNeg), h11))))))))))))))
else
some ((-1), h8)))))
else
some ((-1), h6)))
else
jg ((jK h4 a0).1 = 18) (
jg ((jK h4 a0).1 = 18) (
jl (jsR h4 a0 57 (jR h4 a0 6)) fun h12 =>
jg ((jK h12 a0).1 = 18) (
jg ((jK h12 (jR h12 a0 25)).1 = 100 ∧ jin (x2) (jK h12 (jR h12 a0 25)).2) (
jg ((jK h12 a0).1 = 18) (
jl (jsI h12 a0 58 (jI h12 (jR h12 a0 25) (x2 : Int32).toNatClampNeg)) fun h13 =>
jg ((jK h13 a0).1 = 18) (
jg ((jK h13 (jR h13 a0 26)).1 = 100 ∧ jin (x2) (jK h13 (jR h13 a0 26)).2) (
jg ((jK h13 a0).1 = 18) (
jl (jsI h13 a0 59 (jI h13 (jR h13 a0 26) (x2 : Int32).toNatClampNeg)) fun h14 =>
jg ((jK h14 a0).1 = 18) (
jg ((jK h14 (jR h14 a0 24)).1 = 102 ∧ jin (x2) (jK h14 (jR h14 a0 24)).2) (
(if ((jI h14 (jR h14 a0 24) (x2 : Int32).toNatClampNeg) : Int32) = 0 then
B_18_find_87 a0 x2 a0 h14
else
jg ((jK h14 a0).1 = 18) (
jg ((jK h14 a0).1 = 18) (
jb (F_18_height a0 (jI h14 a0 13) h14) fun x15 h16 =>
jg ((jK h16 a0).1 = 18) (
jg ((jK h16 (jR h16 a0 23)).1 = 100 ∧ jin (x2) (jK h16 (jR h16 a0 23)).2) (
(if (8 : Int32) ≤ (((x15 + 1) - (jI h16 (jR h16 a0 23) (x2 : Int32).toNatClampNeg)) : Int32) then
B_18_find_87 a0 x2 a0 h16
else
B_18_find_88 a0 x2 a0 1 h16)))))))))))))))))))
def B_18_lacks_69 (k2 : Nat → Int32 → jH → Option (Int32 × jH)) (a0 : Nat) (a1 : Int32) (H : jH) : Option (Int32 × jH) :=
jl (a1 + 1) fun x1 =>
k2 a0 x1 H
def B_18_lacks_156 (k87 : Nat → Int32 → Int32 → jH → Option (Int32 × jH)) (a0 : Nat) (a1 : Int32) (a2 : Int32) (H : jH) : Option (Int32 × jH) :=
jl (a2 + 1) fun x2 =>
k87 a0 a1 x2 H
def B_18_lacks_87 (k77 : Nat → Int32 → jH → Option (Int32 × jH)) (k87 : Nat → Int32 → Int32 → jH → Option (Int32 × jH)) (a0 : Nat) (a1 : Int32) (a2 : Int32) (H : jH) : Option (Int32 × jH) :=
jg ((jK H a0).1 = 18) (
jg ((jK H (jR H a0 41)).1 = 100 ∧ jin (a1) (jK H (jR H a0 41)).2) (
(if ((jI H (jR H a0 41) (a1 : Int32).toNatClampNeg) : Int32) ≤ (a2 : Int32) then
jl (a1 + 1) fun x3 =>
k77 a0 x3 H
else
jg ((jK H a0).1 = 18) (
jg ((jK H (jR H a0 43)).1 = 103 ∧ jin (((8 * a1) + a2)) (jK H (jR H a0 43)).2) (
jg ((jK H a0).1 = 18) (
jg ((jK H (jR H a0 4)).1 = 17) (
(if ((jL H (jR H a0 43) (((8 * a1) + a2) : Int32).toNatClampNeg) : Int64) < (Int32.toInt64 (jI H (jR H a0 4) 5)) then
B_18_lacks_156 k87 a0 a1 a2 H
else
jg ((jK H a0).1 = 18) (
jg ((jK H a0).1 = 18) (
jg ((jK H (jR H a0 42)).1 = 100 ∧ jin (((8 * a1) + a2)) (jK H (jR H a0 42)).2) (
jg ((jK H a0).1 = 18) (
jb (F_18_like (jR H a0 37) ((2000 * a1) + (jI H (jR H a0 42) (((8 * a1) + a2) : Int32).toNatClampNeg)) (jR H a0 49) 0 32 H) fun x4 h5 =>
(if (x4 : Int32) = 0 then
B_18_lacks_156 k87 a0 a1 a2 h5
else
jg ((1 : Int32) = 0 ∨ (1 : Int32) = 1) (some (1, h5)))))))))))))))
def F_18_lacks_87 (k77 : Nat → Int32 → jH → Option (Int32 × jH)) : Nat → Nat → Int32 → Int32 → jH → Option (Int32 × jH)
  | 0 => fun _ _ _ _ => none
  | n + 1 => fun a0 a1 a2 H => B_18_lacks_87 k77 (F_18_lacks_87 k77 n) a0 a1 a2 H
def B_18_lacks_77 (k77 : Nat → Int32 → jH → Option (Int32 × jH)) (a0 : Nat) (a1 : Int32) (H : jH) : Option (Int32 × jH) :=
jg ((jK H a0).1 = 18) (
(if ((jI H a0 36) : Int32) ≤ (a1 : Int32) then
jg ((0 : Int32) = 0 ∨ (0 : Int32) = 1) (some (0, H))
else
F_18_lacks_87 k77 jfuel a0 a1 0 H))
def F_18_lacks_77  : Nat → Nat → Int32 → jH → Option (Int32 × jH)
  | 0 => fun _ _ _ => none
  | n + 1 => fun a0 a1 H => B_18_lacks_77 (F_18_lacks_77  n) a0 a1 H
def B_18_lacks_2 (k2 : Nat → Int32 → jH → Option (Int32 × jH)) (a0 : Nat) (a1 : Int32) (H : jH) : Option (Int32 × jH) :=
jg ((jK H a0).1 = 18) (
jg ((jK H (jR H a0 4)).1 = 17) (
(if ((jI H (jR H a0 4) 4) : Int32) ≤ (a1 : Int32) then
F_18_lacks_77 jfuel a0 0 H
else
jg ((jK H a0).1 = 18) (
jg ((jK H (jR H a0 4)).1 = 17) (
jg ((jK H a0).1 = 18) (
jg ((jK H (jR H a0 4)).1 = 17) (
jg ((jK H (jR H (jR H a0 4) 7)).1 = 100 ∧ jin (a1) (jK H (jR H (jR H a0 4) 7)).2) (
jg ((jK H a0).1 = 18) (
jb (F_18_inPool a0 (jR H (jR H a0 4) 0) (jI H (jR H (jR H a0 4) 7) (a1 : Int32).toNatClampNeg) H) fun x6 h7 =>
(if 0 ≤ (x6 : Int32) then
jg ((jK h7 a0).1 = 18) (
jb (F_18_openPool a0 x6 h7) fun x8 h9 =>
jg ((jK h9 a0).1 = 18) (
jg ((jK h9 (jR h9 a0 4)).1 = 17) (
jg ((jK h9 (jR h9 (jR h9 a0 4) 8)).1 = 103 ∧ jin (a1) (jK h9 (jR h9 (jR h9 a0 4) 8)).2) (
jg ((jK h9 a0).1 = 18) (
jg ((jK h9 (jR h9 a0 5)).1 = 17) (
(if ((jL h9 (jR h9 (jR h9 a0 4) 8) (a1 : Int32).toNatClampNeg) : Int64) < (Int32.toInt64 (jI h9 (jR h9 a0 5) 5)) then
B_18_lacks_69 k2 a0 a1 h9
else
jg ((1 : Int32) = 0 ∨ (1 : Int32) = 1) (some (1, h9)))))))))
else
B_18_lacks_69 k2 a0 a1 h7))))))))))
def F_18_lacks_2  : Nat → Nat → Int32 → jH → Option (Int32 × jH)
  | 0 => fun _ _ _ => none
  | n + 1 => fun a0 a1 H => B_18_lacks_2 (F_18_lacks_2  n) a0 a1 H
def F_18_lacks (a0 : Nat) (H : jH) : Option (Int32 × jH) :=
F_18_lacks_2 jfuel a0 0 H
def B_18_hangsOnItself_106 (k55 : Nat → Int32 → Int32 → jH → Option (Int32 × jH)) (a0 : Nat) (a1 : Int32) (a2 : Int32) (H : jH) : Option (Int32 × jH) :=
jl (a2 + 1) fun x1 =>
k55 a0 a1 x1 H
def B_18_hangsOnItself_55 (k11 : Nat → Int32 → jH → Option (Int32 × jH)) (k55 : Nat → Int32 → Int32 → jH → Option (Int32 × jH)) (a0 : Nat) (a1 : Int32) (a2 : Int32) (H : jH) : Option (Int32 × jH) :=
jg ((jK H a0).1 = 18) (
(if ((jI H a0 36) : Int32) ≤ (a2 : Int32) then
jl (a1 + 1) fun x2 =>
k11 a0 x2 H
else
jg ((jK H a0).1 = 18) (
jg ((jK H (jR H a0 44)).1 = 102 ∧ jin (a2) (jK H (jR H a0 44)).2) (
(if ((jI H (jR H a0 44) (a2 : Int32).toNatClampNeg) : Int32) = 0 then
B_18_hangsOnItself_106 k55 a0 a1 a2 H
else
jg ((jK H a0).1 = 18) (
jg ((jK H (jR H a0 4)).1 = 17) (
jg ((jK H a0).1 = 18) (
jg ((jK H (jR H a0 4)).1 = 17) (
jg ((jK H (jR H (jR H a0 4) 7)).1 = 100 ∧ jin (a1) (jK H (jR H (jR H a0 4) 7)).2) (
jg ((jK H a0).1 = 18) (
jb (F_18_like (jR H (jR H a0 4) 0) (jI H (jR H (jR H a0 4) 7) (a1 : Int32).toNatClampNeg) (jR H a0 39) (32 * a2) 32 H) fun x3 h4 =>
(if (x3 : Int32) = 0 then
B_18_hangsOnItself_106 k55 a0 a1 a2 h4
else
jg ((1 : Int32) = 0 ∨ (1 : Int32) = 1) (some (1, h4))))))))))))))
def F_18_hangsOnItself_55 (k11 : Nat → Int32 → jH → Option (Int32 × jH)) : Nat → Nat → Int32 → Int32 → jH → Option (Int32 × jH)
  | 0 => fun _ _ _ _ => none
  | n + 1 => fun a0 a1 a2 H => B_18_hangsOnItself_55 k11 (F_18_hangsOnItself_55 k11 n) a0 a1 a2 H
def B_18_hangsOnItself_11 (k11 : Nat → Int32 → jH → Option (Int32 × jH)) (a0 : Nat) (a1 : Int32) (H : jH) : Option (Int32 × jH) :=
jg ((jK H a0).1 = 18) (
jg ((jK H (jR H a0 4)).1 = 17) (
(if ((jI H (jR H a0 4) 4) : Int32) ≤ (a1 : Int32) then
jg ((0 : Int32) = 0 ∨ (0 : Int32) = 1) (some (0, H))
else
jg ((jK H a0).1 = 18) (
jg ((jK H (jR H a0 4)).1 = 17) (
jg ((jK H a0).1 = 18) (
jg ((jK H (jR H a0 4)).1 = 17) (
jg ((jK H (jR H (jR H a0 4) 7)).1 = 100 ∧ jin (a1) (jK H (jR H (jR H a0 4) 7)).2) (
jg ((jK H a0).1 = 18) (
jb (F_18_like (jR H (jR H a0 4) 0) (jI H (jR H (jR H a0 4) 7) (a1 : Int32).toNatClampNeg) (jR H a0 49) 0 32 H) fun x5 h6 =>
(if (x5 : Int32) = 0 then
F_18_hangsOnItself_55 k11 jfuel a0 a1 0 h6
else
jg ((1 : Int32) = 0 ∨ (1 : Int32) = 1) (some (1, h6))))))))))))
def F_18_hangsOnItself_11  : Nat → Nat → Int32 → jH → Option (Int32 × jH)
  | 0 => fun _ _ _ => none
  | n + 1 => fun a0 a1 H => B_18_hangsOnItself_11 (F_18_hangsOnItself_11  n) a0 a1 H
def F_18_hangsOnItself (a0 : Nat) (H : jH) : Option (Int32 × jH) :=
jg ((jK H a0).1 = 18) (
jg ((jK H a0).1 = 18) (
jb (F_18_family a0 (jR H a0 49) 0 H) fun x7 h8 =>
F_18_hangsOnItself_11 jfuel a0 0 h8))
def B_17_isLarge_68 (k7 : Nat → Int32 → Int64 → Int32 → jH → Option (Int32 × jH)) (a0 : Nat) (a1 : Int32) (a4 : Int32) (s0 : Int64) (s1 : Int64) (H : jH) : Option (Int32 × jH) :=
jl (s0 + s1) fun x1 =>
jl (a4 + 1) fun x2 =>
k7 a0 a1 x1 x2 H
def B_17_isLarge_51 (k7 : Nat → Int32 → Int64 → Int32 → jH → Option (Int32 × jH)) (a0 : Nat) (a2 : Int64) (a4 : Int32) (s0 : Int32) (H : jH) : Option (Int32 × jH) :=
(if (s0 : Int32) = 0 then
jg ((jK H a0).1 = 17) (
jg ((jK H (jR H a0 12)).1 = 103 ∧ jin (a4) (jK H (jR H a0 12)).2) (
B_17_isLarge_68 k7 a0 s0 a4 a2 (jL H (jR H a0 12) (a4 : Int32).toNatClampNeg) H))
else
B_17_isLarge_68 k7 a0 s0 a4 a2 0 H)
def B_17_isLarge_46 (k7 : Nat → Int32 → Int64 → Int32 → jH → Option (Int32 × jH)) (a0 : Nat) (a2 : Int64) (a4 : Int32) (H : jH) : Option (Int32 × jH) :=
B_17_isLarge_51 k7 a0 a2 a4 1 H
def B_17_isLarge_93  (s0 : Int32) (H : jH) : Option (Int32 × jH) :=
jg ((s0 : Int32) = 0 ∨ (s0 : Int32) = 1) (some (s0, H))
def B_17_isLarge_88   (H : jH) : Option (Int32 × jH) :=
B_17_isLarge_93 1 H
def B_17_isLarge_7 (k7 : Nat → Int32 → Int64 → Int32 → jH → Option (Int32 × jH)) (a0 : Nat) (a1 : Int32) (a2 : Int64) (a4 : Int32) (H : jH) : Option (Int32 × jH) :=
jg ((jK H a0).1 = 17) (
(if ((jI H a0 5) : Int32) ≤ (a4 : Int32) then
(if ¬ (a1 : Int32) = 0 then
B_17_isLarge_88 H
else
(if (a2 : Int64) ≤ 2100000000000000 then
B_17_isLarge_93 0 H
else
B_17_isLarge_88 H))
else
(if ¬ (a1 : Int32) = 0 then
B_17_isLarge_46 k7 a0 a2 a4 H
else
jg ((jK H a0).1 = 17) (
jg ((jK H (jR H a0 12)).1 = 103 ∧ jin (a4) (jK H (jR H a0 12)).2) (
(if ((jL H (jR H a0 12) (a4 : Int32).toNatClampNeg) : Int64) < 0 then
B_17_isLarge_46 k7 a0 a2 a4 H
else
jg ((jK H a0).1 = 17) (
jg ((jK H (jR H a0 12)).1 = 103 ∧ jin (a4) (jK H (jR H a0 12)).2) (
(if ((jL H (jR H a0 12) (a4 : Int32).toNatClampNeg) : Int64) ≤ 2100000000000000 then
B_17_isLarge_51 k7 a0 a2 a4 0 H
else
B_17_isLarge_46 k7 a0 a2 a4 H)))))))))
def F_17_isLarge_7  : Nat → Nat → Int32 → Int64 → Int32 → jH → Option (Int32 × jH)
  | 0 => fun _ _ _ _ _ => none
  | n + 1 => fun a0 a1 a2 a4 H => B_17_isLarge_7 (F_17_isLarge_7  n) a0 a1 a2 a4 H
def F_17_isLarge (a0 : Nat) (H : jH) : Option (Int32 × jH) :=
F_17_isLarge_7 jfuel a0 0 0 0 H
def B_17_isTwice_72 (k14 : Nat → Int32 → Int32 → Int32 → jH → Option (Int32 × jH)) (a0 : Nat) (a2 : Int32) (a3 : Int32) (s0 : Int32) (H : jH) : Option (Int32 × jH) :=
jl (a3 + 1) fun x1 =>
k14 a0 s0 a2 x1 H
def B_17_isTwice_67 (k14 : Nat → Int32 → Int32 → Int32 → jH → Option (Int32 × jH)) (a0 : Nat) (a2 : Int32) (a3 : Int32) (H : jH) : Option (Int32 × jH) :=
B_17_isTwice_72 k14 a0 a2 a3 1 H
def B_17_isTwice_71 (k14 : Nat → Int32 → Int32 → Int32 → jH → Option (Int32 × jH)) (a0 : Nat) (a2 : Int32) (a3 : Int32) (H : jH) : Option (Int32 × jH) :=
B_17_isTwice_72 k14 a0 a2 a3 0 H
def B_17_isTwice_14 (k4 : Nat → Int32 → Int32 → jH → Option (Int32 × jH)) (k14 : Nat → Int32 → Int32 → Int32 → jH → Option (Int32 × jH)) (a0 : Nat) (a1 : Int32) (a2 : Int32) (a3 : Int32) (H : jH) : Option (Int32 × jH) :=
(if (a2 : Int32) ≤ (a3 : Int32) then
jl (a2 + 1) fun x2 =>
k4 a0 a1 x2 H
else
(if ¬ (a1 : Int32) = 0 then
B_17_isTwice_67 k14 a0 a2 a3 H
else
jg ((jK H a0).1 = 17) (
jg ((jK H (jR H a0 8)).1 = 103 ∧ jin (a2) (jK H (jR H a0 8)).2) (
jg ((jK H a0).1 = 17) (
jg ((jK H (jR H a0 8)).1 = 103 ∧ jin (a3) (jK H (jR H a0 8)).2) (
(if ¬ ((jL H (jR H a0 8) (a2 : Int32).toNatClampNeg) : Int64) = (jL H (jR H a0 8) (a3 : Int32).toNatClampNeg) then
B_17_isTwice_71 k14 a0 a2 a3 H
else
jg ((jK H a0).1 = 17) (
jg ((jK H a0).1 = 17) (
jg ((jK H (jR H a0 7)).1 = 100 ∧ jin (a2) (jK H (jR H a0 7)).2) (
jg ((jK H a0).1 = 17) (
jg ((jK H a0).1 = 17) (
jg ((jK H (jR H a0 7)).1 = 100 ∧ jin (a3) (jK H (jR H a0 7)).2) (
jb (F_18_like (jR H a0 0) (jI H (jR H a0 7) (a2 : Int32).toNatClampNeg) (jR H a0 0) (jI H (jR H a0 7) (a3 : Int32).toNatClampNeg) 32 H) fun x3 h4 =>
(if (x3 : Int32) = 0 then
B_17_isTwice_71 k14 a0 a2 a3 h4
else
B_17_isTwice_67 k14 a0 a2 a3 h4))))))))))))))
def F_17_isTwice_14 (k4 : Nat → Int32 → Int32 → jH → Option (Int32 × jH)) : Nat → Nat → Int32 → Int32 → Int32 → jH → Option (Int32 × jH)
  | 0 => fun _ _ _ _ _ => none
  | n + 1 => fun a0 a1 a2 a3 H => B_17_isTwice_14 k4 (F_17_isTwice_14 k4 n) a0 a1 a2 a3 H
def B_17_isTwice_4 (k4 : Nat → Int32 → Int32 → jH → Option (Int32 × jH)) (a0 : Nat) (a1 : Int32) (a2 : Int32) (H : jH) : Option (Int32 × jH) :=
jg ((jK H a0).1 = 17) (
(if ((jI H a0 4) : Int32) ≤ (a2 : Int32) then
jg ((a1 : Int32) = 0 ∨ (a1 : Int32) = 1) (some (a1, H))
else
F_17_isTwice_14 k4 jfuel a0 a1 a2 0 H))
def F_17_isTwice_4  : Nat → Nat → Int32 → Int32 → jH → Option (Int32 × jH)
  | 0 => fun _ _ _ _ => none
  | n + 1 => fun a0 a1 a2 H => B_17_isTwice_4 (F_17_isTwice_4  n) a0 a1 a2 H
def F_17_isTwice (a0 : Nat) (H : jH) : Option (Int32 × jH) :=
F_17_isTwice_4 jfuel a0 0 0 H
def B_17_fault_41  (s0 : Int32) (H : jH) : Option (Int32 × jH) :=
some (s0, H)
def B_17_fault_14   (H : jH) : Option (Int32 × jH) :=
B_17_fault_41 2 H
def F_17_fault (a0 : Nat) (H : jH) : Option (Int32 × jH) :=
jg ((jK H a0).1 = 17) (
(if ((jI H a0 4) : Int32) = 0 then
B_17_fault_14 H
else
jg ((jK H a0).1 = 17) (
(if ¬ ((jI H a0 5) : Int32) = 0 then
jg ((jK H a0).1 = 17) (
jb (F_17_isLarge a0 H) fun x1 h2 =>
(if (x1 : Int32) = 0 then
jg ((jK h2 a0).1 = 17) (
jb (F_17_isTwice a0 h2) fun x3 h4 =>
(if (x3 : Int32) = 0 then
B_17_fault_41 0 h4
else
B_17_fault_41 4 h4))
else
B_17_fault_41 3 h2))
else
B_17_fault_14 H))))
def B_17_isRoot_52 (k21 : Nat → Int32 → Int32 → Int32 → jH → Option (Int32 × jH)) (a0 : Nat) (a1 : Int32) (a3 : Int32) (s0 : Int32) (H : jH) : Option (Int32 × jH) :=
jl (a3 + 1) fun x1 =>
k21 a0 a1 s0 x1 H
def B_17_isRoot_51 (k21 : Nat → Int32 → Int32 → Int32 → jH → Option (Int32 × jH)) (a0 : Nat) (a1 : Int32) (a3 : Int32) (H : jH) : Option (Int32 × jH) :=
B_17_isRoot_52 k21 a0 a1 a3 0 H
def B_17_isRoot_21 (k21 : Nat → Int32 → Int32 → Int32 → jH → Option (Int32 × jH)) (a0 : Nat) (a1 : Int32) (a2 : Int32) (a3 : Int32) (H : jH) : Option (Int32 × jH) :=
(if (32 : Int32) ≤ (a3 : Int32) then
jg ((a2 : Int32) = 0 ∨ (a2 : Int32) = 1) (some (a2, H))
else
(if (a2 : Int32) = 0 then
B_17_isRoot_51 k21 a0 a1 a3 H
else
jg ((jK H a0).1 = 17) (
jg ((jK H a0).1 = 17) (
jg ((jK H (jR H a0 7)).1 = 100 ∧ jin (a1) (jK H (jR H a0 7)).2) (
jg ((jK H (jR H a0 0)).1 = 101 ∧ jin (((jI H (jR H a0 7) (a1 : Int32).toNatClampNeg) + a3)) (jK H (jR H a0 0)).2) (
(if ¬ ((jbs (jB H (jR H a0 0) (((jI H (jR H a0 7) (a1 : Int32).toNatClampNeg) + a3) : Int32).toNatClampNeg)) : Int32) = 0 then
B_17_isRoot_51 k21 a0 a1 a3 H
else
B_17_isRoot_52 k21 a0 a1 a3 1 H)))))))
def F_17_isRoot_21  : Nat → Nat → Int32 → Int32 → Int32 → jH → Option (Int32 × jH)
  | 0 => fun _ _ _ _ _ => none
  | n + 1 => fun a0 a1 a2 a3 H => B_17_isRoot_21 (F_17_isRoot_21  n) a0 a1 a2 a3 H
def B_17_isRoot_18  (a0 : Nat) (a1 : Int32) (s0 : Int32) (H : jH) : Option (Int32 × jH) :=
F_17_isRoot_21 jfuel a0 a1 s0 0 H
def F_17_isRoot (a0 : Nat) (a1 : Int32) (H : jH) : Option (Int32 × jH) :=
jg ((jK H a0).1 = 17) (
jg ((jK H (jR H a0 8)).1 = 103 ∧ jin (a1) (jK H (jR H a0 8)).2) (
(if ¬ ((jL H (jR H a0 8) (a1 : Int32).toNatClampNeg) : Int64) = 4294967295 then
B_17_isRoot_18 a0 a1 0 H
else
B_17_isRoot_18 a0 a1 1 H)))
def B_17_hasRoot_29 (k4 : Nat → Int32 → Int32 → jH → Option (Int32 × jH)) (a0 : Nat) (a2 : Int32) (s0 : Int32) (H : jH) : Option (Int32 × jH) :=
jl (a2 + 1) fun x1 =>
k4 a0 s0 x1 H
def B_17_hasRoot_24 (k4 : Nat → Int32 → Int32 → jH → Option (Int32 × jH)) (a0 : Nat) (a2 : Int32) (H : jH) : Option (Int32 × jH) :=
B_17_hasRoot_29 k4 a0 a2 1 H
def B_17_hasRoot_4 (k4 : Nat → Int32 → Int32 → jH → Option (Int32 × jH)) (a0 : Nat) (a1 : Int32) (a2 : Int32) (H : jH) : Option (Int32 × jH) :=
jg ((jK H a0).1 = 17) (
(if ((jI H a0 4) : Int32) ≤ (a2 : Int32) then
jg ((a1 : Int32) = 0 ∨ (a1 : Int32) = 1) (some (a1, H))
else
(if ¬ (a1 : Int32) = 0 then
B_17_hasRoot_24 k4 a0 a2 H
else
jg ((jK H a0).1 = 17) (
jb (F_17_isRoot a0 a2 H) fun x2 h3 =>
(if (x2 : Int32) = 0 then
B_17_hasRoot_29 k4 a0 a2 0 h3
else
B_17_hasRoot_24 k4 a0 a2 h3)))))
def F_17_hasRoot_4  : Nat → Nat → Int32 → Int32 → jH → Option (Int32 × jH)
  | 0 => fun _ _ _ _ => none
  | n + 1 => fun a0 a1 a2 H => B_17_hasRoot_4 (F_17_hasRoot_4  n) a0 a1 a2 H
def F_17_hasRoot (a0 : Nat) (H : jH) : Option (Int32 × jH) :=
F_17_hasRoot_4 jfuel a0 0 0 H
def B_18_comes_103 (k88 : Nat → Nat → Int32 → Int32 → Int32 → Int32 → jH → Option (Int32 × jH)) (k103 : Nat → Nat → Int32 → Int32 → Int32 → Int32 → Int32 → jH → Option (Int32 × jH)) (a0 : Nat) (a1 : Nat) (a2 : Int32) (a3 : Int32) (a4 : Int32) (a6 : Int32) (a7 : Int32) (H : jH) : Option (Int32 × jH) :=
jg ((jK H a0).1 = 18) (
(if ((jI H a0 36) : Int32) ≤ (a7 : Int32) then
jl (a6 + 1) fun x1 =>
k88 a0 a1 a2 a3 a4 x1 H
else
jg ((jK H a0).1 = 18) (
jg ((jK H (jR H a0 4)).1 = 17) (
jg ((jK H a0).1 = 18) (
jg ((jK H (jR H a0 4)).1 = 17) (
jg ((jK H (jR H (jR H a0 4) 7)).1 = 100 ∧ jin (a6) (jK H (jR H (jR H a0 4) 7)).2) (
jg ((jK H a0).1 = 18) (
jg ((jK H (jR H a0 4)).1 = 17) (
jg ((jK H (jR H (jR H a0 4) 8)).1 = 103 ∧ jin (a6) (jK H (jR H (jR H a0 4) 8)).2) (
jg ((jK H a0).1 = 18) (
jb (F_18_spends a0 a7 (jR H (jR H a0 4) 0) (jI H (jR H (jR H a0 4) 7) (a6 : Int32).toNatClampNeg) (jL H (jR H (jR H a0 4) 8) (a6 : Int32).toNatClampNeg) H) fun x2 h3 =>
(if (x2 : Int32) = 0 then
jl (a7 + 1) fun x4 =>
k103 a0 a1 a2 a3 a4 a6 x4 h3
else
some (13, h3)))))))))))))
def F_18_comes_103 (k88 : Nat → Nat → Int32 → Int32 → Int32 → Int32 → jH → Option (Int32 × jH)) : Nat → Nat → Nat → Int32 → Int32 → Int32 → Int32 → Int32 → jH → Option (Int32 × jH)
  | 0 => fun _ _ _ _ _ _ _ _ => none
  | n + 1 => fun a0 a1 a2 a3 a4 a6 a7 H => B_18_comes_103 k88 (F_18_comes_103 k88 n) a0 a1 a2 a3 a4 a6 a7 H
def B_18_comes_241   (H : jH) : Option (Int32 × jH) :=
some (7, H)
def B_18_comes_261 (k172 : Nat → Nat → Int32 → Int32 → Int32 → Int64 → Int32 → Int32 → jH → Option (Int32 × jH)) (a0 : Nat) (a1 : Nat) (a2 : Int32) (a3 : Int32) (a4 : Int32) (a6 : Int64) (a9 : Int32) (a10 : Int64) (s0 : Int32) (H : jH) : Option (Int32 × jH) :=
jl (a6 + a10) fun x5 =>
jl (a9 + 1) fun x6 =>
k172 a0 a1 a2 a3 a4 x5 s0 x6 H
def B_18_comes_256 (k172 : Nat → Nat → Int32 → Int32 → Int32 → Int64 → Int32 → Int32 → jH → Option (Int32 × jH)) (a0 : Nat) (a1 : Nat) (a2 : Int32) (a3 : Int32) (a4 : Int32) (a6 : Int64) (a9 : Int32) (a10 : Int64) (H : jH) : Option (Int32 × jH) :=
B_18_comes_261 k172 a0 a1 a2 a3 a4 a6 a9 a10 1 H
def B_18_comes_649  (s0 : Int32) (H : jH) : Option (Int32 × jH) :=
some (s0, H)
def B_18_comes_631  (a0 : Nat) (H : jH) : Option (Int32 × jH) :=
jg ((jK H a0).1 = 18) (
jg ((jK H a0).1 = 18) (
jb (F_18_inPool a0 (jR H a0 49) 0 H) fun x7 h8 =>
(if 0 ≤ (x7 : Int32) then
B_18_comes_649 0 h8
else
B_18_comes_649 11 h8)))
def B_18_comes_538 (k538 : Nat → Int32 → Int32 → jH → Option (Int32 × jH)) (a0 : Nat) (a2 : Int32) (a9 : Int32) (H : jH) : Option (Int32 × jH) :=
jg ((jK H a0).1 = 18) (
jg ((jK H (jR H a0 4)).1 = 17) (
(if ((jI H (jR H a0 4) 4) : Int32) ≤ (a9 : Int32) then
jg ((jK H a0).1 = 18) (
jg ((jK H a0).1 = 18) (
jl (jsI H a0 36 ((jI H a0 36) + 1)) fun h9 =>
jg ((jK h9 a0).1 = 18) (
(if ((jI h9 a0 36) : Int32) ≤ (40 : Int32) then
B_18_comes_631 a0 h9
else
jg ((jK h9 a0).1 = 18) (
jb (F_18_evict a0 h9) fun x10 h11 =>
B_18_comes_631 a0 h11)))))
else
jg ((jK H a0).1 = 18) (
jg ((jK H a0).1 = 18) (
jg ((jK H a0).1 = 18) (
jg ((jK H (jR H a0 4)).1 = 17) (
jg ((jK H (jR H (jR H a0 4) 7)).1 = 100 ∧ jin (a9) (jK H (jR H (jR H a0 4) 7)).2) (
jg ((jK H (jR H a0 42)).1 = 100 ∧ jF0 ≤ (jR H a0 42) ∧ jin (((8 * (jI H a0 36)) + a9)) (jK H (jR H a0 42)).2) (
jl (jsI H (jR H a0 42) (((8 * (jI H a0 36)) + a9) : Int32).toNatClampNeg ((jI H (jR H (jR H a0 4) 7) (a9 : Int32).toNatClampNeg) - a2)) fun h12 =>
jg ((jK h12 a0).1 = 18) (
jg ((jK h12 a0).1 = 18) (
jg ((jK h12 a0).1 = 18) (
jg ((jK h12 (jR h12 a0 4)).1 = 17) (
jg ((jK h12 (jR h12 (jR h12 a0 4) 8)).1 = 103 ∧ jin (a9) (jK h12 (jR h12 (jR h12 a0 4) 8)).2) (
jg ((jK h12 (jR h12 a0 43)).1 = 103 ∧ jin (((8 * (jI h12 a0 36)) + a9)) (jK h12 (jR h12 a0 43)).2) (
jl (jsL h12 (jR h12 a0 43) (((8 * (jI h12 a0 36)) + a9) : Int32).toNatClampNeg (jL h12 (jR h12 (jR h12 a0 4) 8) (a9 : Int32).toNatClampNeg)) fun h13 =>
jl (a9 + 1) fun x14 =>
k538 a0 a2 x14 h13)))))))))))))))
def F_18_comes_538  : Nat → Nat → Int32 → Int32 → jH → Option (Int32 × jH)
  | 0 => fun _ _ _ _ => none
  | n + 1 => fun a0 a2 a9 H => B_18_comes_538 (F_18_comes_538  n) a0 a2 a9 H
def B_18_comes_455 (k455 : Nat → Int32 → Int32 → Int64 → Int32 → jH → Option (Int32 × jH)) (a0 : Nat) (a2 : Int32) (a3 : Int32) (a6 : Int64) (a9 : Int32) (H : jH) : Option (Int32 × jH) :=
(if (32 : Int32) ≤ (a9 : Int32) then
jg ((jK H a0).1 = 18) (
jg ((jK H a0).1 = 18) (
jg ((jK H (jR H a0 38)).1 = 100 ∧ jF0 ≤ (jR H a0 38) ∧ jin ((jI H a0 36)) (jK H (jR H a0 38)).2) (
jl (jsI H (jR H a0 38) ((jI H a0 36) : Int32).toNatClampNeg a3) fun h15 =>
jg ((jK h15 a0).1 = 18) (
jg ((jK h15 a0).1 = 18) (
jg ((jK h15 a0).1 = 18) (
jg ((jK h15 (jR h15 a0 4)).1 = 17) (
jb (F_17_sum (jR h15 a0 4) h15) fun x16 h17 =>
jg ((jK h17 (jR h15 a0 40)).1 = 103 ∧ jin ((jI h15 a0 36)) (jK h17 (jR h15 a0 40)).2) (
jl (jsL h17 (jR h15 a0 40) ((jI h15 a0 36) : Int32).toNatClampNeg (a6 - x16)) fun h18 =>
jg ((jK h18 a0).1 = 18) (
jg ((jK h18 a0).1 = 18) (
jg ((jK h18 a0).1 = 18) (
jg ((jK h18 (jR h18 a0 4)).1 = 17) (
jg ((jK h18 (jR h18 a0 41)).1 = 100 ∧ jF0 ≤ (jR h18 a0 41) ∧ jin ((jI h18 a0 36)) (jK h18 (jR h18 a0 41)).2) (
jl (jsI h18 (jR h18 a0 41) ((jI h18 a0 36) : Int32).toNatClampNeg (jI h18 (jR h18 a0 4) 4)) fun h19 =>
F_18_comes_538 jfuel a0 a2 0 h19)))))))))))))
else
jg ((jK H a0).1 = 18) (
jg ((jK H a0).1 = 18) (
jg ((jK H a0).1 = 18) (
jg ((jK H (jR H a0 49)).1 = 101 ∧ jin (a9) (jK H (jR H a0 49)).2) (
jg ((jK H (jR H a0 39)).1 = 101 ∧ jin (((32 * (jI H a0 36)) + a9)) (jK H (jR H a0 39)).2) (
jl (jsB H (jR H a0 39) (((32 * (jI H a0 36)) + a9) : Int32).toNatClampNeg (jbu (jbs (jB H (jR H a0 49) (a9 : Int32).toNatClampNeg)))) fun h20 =>
jl (a9 + 1) fun x21 =>
k455 a0 a2 a3 a6 x21 h20))))))
def F_18_comes_455  : Nat → Nat → Int32 → Int32 → Int64 → Int32 → jH → Option (Int32 × jH)
  | 0 => fun _ _ _ _ _ _ => none
  | n + 1 => fun a0 a2 a3 a6 a9 H => B_18_comes_455 (F_18_comes_455  n) a0 a2 a3 a6 a9 H
def B_18_comes_418 (k418 : Nat → Nat → Int32 → Int32 → Int64 → Int32 → jH → Option (Int32 × jH)) (a0 : Nat) (a1 : Nat) (a2 : Int32) (a3 : Int32) (a6 : Int64) (a9 : Int32) (H : jH) : Option (Int32 × jH) :=
(if (a3 : Int32) ≤ (a9 : Int32) then
F_18_comes_455 jfuel a0 a2 a3 a6 0 H
else
jg ((jK H a0).1 = 18) (
jg ((jK H a0).1 = 18) (
jg ((jK H a1).1 = 101 ∧ jin ((a2 + a9)) (jK H a1).2) (
jg ((jK H (jR H a0 37)).1 = 101 ∧ jin (((2000 * (jI H a0 36)) + a9)) (jK H (jR H a0 37)).2) (
jl (jsB H (jR H a0 37) (((2000 * (jI H a0 36)) + a9) : Int32).toNatClampNeg (jbu (jbs (jB H a1 ((a2 + a9) : Int32).toNatClampNeg)))) fun h22 =>
jl (a9 + 1) fun x23 =>
k418 a0 a1 a2 a3 a6 x23 h22)))))
def F_18_comes_418  : Nat → Nat → Nat → Int32 → Int32 → Int64 → Int32 → jH → Option (Int32 × jH)
  | 0 => fun _ _ _ _ _ _ _ => none
  | n + 1 => fun a0 a1 a2 a3 a6 a9 H => B_18_comes_418 (F_18_comes_418  n) a0 a1 a2 a3 a6 a9 H
def B_18_comes_395  (a0 : Nat) (a1 : Nat) (a2 : Int32) (a3 : Int32) (a6 : Int64) (H : jH) : Option (Int32 × jH) :=
jg ((jK H a0).1 = 18) (
jb (F_18_lacks a0 H) fun x24 h25 =>
(if (x24 : Int32) = 0 then
jg ((jK h25 a0).1 = 18) (
jb (F_18_hangsOnItself a0 h25) fun x26 h27 =>
(if (x26 : Int32) = 0 then
F_18_comes_418 jfuel a0 a1 a2 a3 a6 0 h27
else
some (14, h27)))
else
some (15, h25)))
def B_18_comes_312 (k312 : Nat → Nat → Int32 → Int32 → Int32 → Int64 → Int32 → jH → Option (Int32 × jH)) (a0 : Nat) (a1 : Nat) (a2 : Int32) (a3 : Int32) (a4 : Int32) (a6 : Int64) (a9 : Int32) (H : jH) : Option (Int32 × jH) :=
jg ((jK H a0).1 = 18) (
jg ((jK H (jR H a0 4)).1 = 17) (
(if ((jI H (jR H a0 4) 4) : Int32) ≤ (a9 : Int32) then
B_18_comes_395 a0 a1 a2 a3 a6 H
else
(if (a4 : Int32) = 0 then
B_18_comes_395 a0 a1 a2 a3 a6 H
else
jg ((jK H a0).1 = 18) (
jg ((jK H (jR H a0 4)).1 = 17) (
jg ((jK H a0).1 = 18) (
jg ((jK H (jR H a0 4)).1 = 17) (
jg ((jK H (jR H (jR H a0 4) 7)).1 = 100 ∧ jin (a9) (jK H (jR H (jR H a0 4) 7)).2) (
jg ((jK H a0).1 = 18) (
jg ((jK H (jR H a0 4)).1 = 17) (
jg ((jK H (jR H (jR H a0 4) 8)).1 = 103 ∧ jin (a9) (jK H (jR H (jR H a0 4) 8)).2) (
jg ((jK H a0).1 = 18) (
jb (F_18_find a0 (jR H (jR H a0 4) 0) (jI H (jR H (jR H a0 4) 7) (a9 : Int32).toNatClampNeg) (jL H (jR H (jR H a0 4) 8) (a9 : Int32).toNatClampNeg) H) fun x28 h29 =>
jg ((jK h29 a0).1 = 18) (
jg ((jK h29 a0).1 = 18) (
jg ((jK h29 a0).1 = 18) (
jg ((jK h29 a0).1 = 18) (
jg ((jK h29 a0).1 = 18) (
jb (F_18_fails a0 (jR h29 a0 4) a9 (jR h29 a0 57) (jI h29 a0 58) (jI h29 a0 59) h29) fun x30 h31 =>
(if (x30 : Int32) = 0 then
jl (a9 + 1) fun x32 =>
k312 a0 a1 a2 a3 a4 a6 x32 h31
else
some (10, h31))))))))))))))))))))
def F_18_comes_312  : Nat → Nat → Nat → Int32 → Int32 → Int32 → Int64 → Int32 → jH → Option (Int32 × jH)
  | 0 => fun _ _ _ _ _ _ _ _ => none
  | n + 1 => fun a0 a1 a2 a3 a4 a6 a9 H => B_18_comes_312 (F_18_comes_312  n) a0 a1 a2 a3 a4 a6 a9 H
def B_18_comes_172 (k172 : Nat → Nat → Int32 → Int32 → Int32 → Int64 → Int32 → Int32 → jH → Option (Int32 × jH)) (a0 : Nat) (a1 : Nat) (a2 : Int32) (a3 : Int32) (a4 : Int32) (a6 : Int64) (a8 : Int32) (a9 : Int32) (H : jH) : Option (Int32 × jH) :=
jg ((jK H a0).1 = 18) (
jg ((jK H (jR H a0 4)).1 = 17) (
(if ((jI H (jR H a0 4) 4) : Int32) ≤ (a9 : Int32) then
(if (a8 : Int32) = 0 then
jg ((jK H a0).1 = 18) (
jg ((jK H (jR H a0 4)).1 = 17) (
jb (F_17_sum (jR H a0 4) H) fun x33 h34 =>
(if (x33 : Int64) ≤ a6 then
jg ((jK h34 a0).1 = 18) (
jg ((jK h34 (jR h34 a0 2)).1 = 14) (
jl (jsI h34 (jR h34 a0 2) 8 8) fun h35 =>
F_18_comes_312 jfuel a0 a1 a2 a3 a4 a6 0 h35))
else
some (9, h34))))
else
some (8, H))
else
jg ((jK H a0).1 = 18) (
jg ((jK H (jR H a0 4)).1 = 17) (
jg ((jK H a0).1 = 18) (
jg ((jK H (jR H a0 4)).1 = 17) (
jg ((jK H (jR H (jR H a0 4) 7)).1 = 100 ∧ jin (a9) (jK H (jR H (jR H a0 4) 7)).2) (
jg ((jK H a0).1 = 18) (
jg ((jK H (jR H a0 4)).1 = 17) (
jg ((jK H (jR H (jR H a0 4) 8)).1 = 103 ∧ jin (a9) (jK H (jR H (jR H a0 4) 8)).2) (
jg ((jK H a0).1 = 18) (
jb (F_18_find a0 (jR H (jR H a0 4) 0) (jI H (jR H (jR H a0 4) 7) (a9 : Int32).toNatClampNeg) (jL H (jR H (jR H a0 4) 8) (a9 : Int32).toNatClampNeg) H) fun x36 h37 =>
(if (x36 : Int64) < 0 then
B_18_comes_241 h37
else
jg ((jK h37 a0).1 = 18) (
jg ((jK h37 (jR h37 a0 4)).1 = 17) (
jg ((jK h37 (jR h37 (jR h37 a0 4) 8)).1 = 103 ∧ jin (a9) (jK h37 (jR h37 (jR h37 a0 4) 8)).2) (
(if ((jL h37 (jR h37 (jR h37 a0 4) 8) (a9 : Int32).toNatClampNeg) : Int64) ≤ 2147483647 then
(if ¬ (a8 : Int32) = 0 then
B_18_comes_256 k172 a0 a1 a2 a3 a4 a6 a9 x36 h37
else
jg ((jK h37 a0).1 = 18) (
(if ((jI h37 a0 60) : Int32) = 0 then
B_18_comes_261 k172 a0 a1 a2 a3 a4 a6 a9 x36 0 h37
else
B_18_comes_256 k172 a0 a1 a2 a3 a4 a6 a9 x36 h37)))
else
B_18_comes_241 h37)))))))))))))))))
def F_18_comes_172  : Nat → Nat → Nat → Int32 → Int32 → Int32 → Int64 → Int32 → Int32 → jH → Option (Int32 × jH)
  | 0 => fun _ _ _ _ _ _ _ _ _ => none
  | n + 1 => fun a0 a1 a2 a3 a4 a6 a8 a9 H => B_18_comes_172 (F_18_comes_172  n) a0 a1 a2 a3 a4 a6 a8 a9 H
def B_18_comes_88 (k88 : Nat → Nat → Int32 → Int32 → Int32 → Int32 → jH → Option (Int32 × jH)) (a0 : Nat) (a1 : Nat) (a2 : Int32) (a3 : Int32) (a4 : Int32) (a6 : Int32) (H : jH) : Option (Int32 × jH) :=
jg ((jK H a0).1 = 18) (
jg ((jK H (jR H a0 4)).1 = 17) (
(if ((jI H (jR H a0 4) 4) : Int32) ≤ (a6 : Int32) then
F_18_comes_172 jfuel a0 a1 a2 a3 a4 0 0 0 H
else
F_18_comes_103 k88 jfuel a0 a1 a2 a3 a4 a6 0 H)))
def F_18_comes_88  : Nat → Nat → Nat → Int32 → Int32 → Int32 → Int32 → jH → Option (Int32 × jH)
  | 0 => fun _ _ _ _ _ _ _ => none
  | n + 1 => fun a0 a1 a2 a3 a4 a6 H => B_18_comes_88 (F_18_comes_88  n) a0 a1 a2 a3 a4 a6 H
def F_18_comes (a0 : Nat) (a1 : Nat) (a2 : Int32) (a3 : Int32) (a4 : Int32) (H : jH) : Option (Int32 × jH) :=
jg ((jK H a0).1 = 18) (
jg ((jK H a0).1 = 18) (
jb (F_18_need a0 (jI H a0 13) H) fun x38 h39 =>
jg ((jK h39 a0).1 = 18) (
jg ((jK h39 (jR h39 a0 4)).1 = 17) (
jb (F_17_read (jR h39 a0 4) a1 a2 (a2 + a3) h39) fun x40 h41 =>
(if (x40 : Int32) = ((a2 + a3) : Int32) then
jg ((jK h41 a0).1 = 18) (
jg ((jK h41 a0).1 = 18) (
jg ((jK h41 a0).1 = 18) (
jb (F_18_nameOf a0 (jR h41 a0 4) (jR h41 a0 49) 0 h41) fun x42 h43 =>
jg ((jK h43 a0).1 = 18) (
jg ((jK h43 (jR h43 a0 4)).1 = 17) (
jb (F_17_fault (jR h43 a0 4) h43) fun x44 h45 =>
(if (x44 : Int32) ≤ 0 then
jg ((jK h45 a0).1 = 18) (
jg ((jK h45 (jR h45 a0 4)).1 = 17) (
jb (F_17_hasRoot (jR h45 a0 4) h45) fun x46 h47 =>
(if (x46 : Int32) = 0 then
jg ((jK h47 a0).1 = 18) (
jg ((jK h47 a0).1 = 18) (
jb (F_18_inPool a0 (jR h47 a0 49) 0 h47) fun x48 h49 =>
(if (x48 : Int32) < 0 then
F_18_comes_88 jfuel a0 a1 a2 a3 a4 0 h49
else
some (12, h49))))
else
some (5, h47))))
else
some (x44, h45)))))))
else
some (1, h41))))))
def B_18_renew_15 (k7 : Nat → Int32 → Int32 → Int32 → jH → Option (Unit × jH)) (k15 : Nat → Int32 → Int32 → Int32 → Int32 → jH → Option (Unit × jH)) (a0 : Nat) (a1 : Int32) (a2 : Int32) (a3 : Int32) (a4 : Int32) (H : jH) : Option (Unit × jH) :=
jg ((jK H a0).1 = 18) (
jg ((jK H (jR H a0 38)).1 = 100 ∧ jin (a3) (jK H (jR H a0 38)).2) (
(if ((jI H (jR H a0 38) (a3 : Int32).toNatClampNeg) : Int32) ≤ (a4 : Int32) then
jg ((jK H a0).1 = 18) (
jg ((jK H a0).1 = 18) (
jg ((jK H (jR H a0 38)).1 = 100 ∧ jin (a3) (jK H (jR H a0 38)).2) (
jg ((jK H (jR H a0 46)).1 = 100 ∧ jF0 ≤ (jR H a0 46) ∧ jin (a3) (jK H (jR H a0 46)).2) (
jl (jsI H (jR H a0 46) (a3 : Int32).toNatClampNeg (jI H (jR H a0 38) (a3 : Int32).toNatClampNeg)) fun h1 =>
jl (a3 + 1) fun x2 =>
k7 a0 a1 a2 x2 h1))))
else
jg ((jK H a0).1 = 18) (
jg ((jK H a0).1 = 18) (
jg ((jK H (jR H a0 37)).1 = 101 ∧ jin (((2000 * a3) + a4)) (jK H (jR H a0 37)).2) (
jg ((jK H (jR H a0 45)).1 = 101 ∧ jin (((2000 * a3) + a4)) (jK H (jR H a0 45)).2) (
jl (jsB H (jR H a0 45) (((2000 * a3) + a4) : Int32).toNatClampNeg (jbu (jbs (jB H (jR H a0 37) (((2000 * a3) + a4) : Int32).toNatClampNeg)))) fun h3 =>
jl (a4 + 1) fun x4 =>
k15 a0 a1 a2 a3 x4 h3)))))))
def F_18_renew_15 (k7 : Nat → Int32 → Int32 → Int32 → jH → Option (Unit × jH)) : Nat → Nat → Int32 → Int32 → Int32 → Int32 → jH → Option (Unit × jH)
  | 0 => fun _ _ _ _ _ _ => none
  | n + 1 => fun a0 a1 a2 a3 a4 H => B_18_renew_15 k7 (F_18_renew_15 k7 n) a0 a1 a2 a3 a4 H
def B_18_renew_137 (k108 : Nat → Int32 → Int32 → Int32 → jH → Option (Unit × jH)) (k137 : Nat → Int32 → Int32 → Int32 → Int32 → jH → Option (Unit × jH)) (a0 : Nat) (a1 : Int32) (a2 : Int32) (a3 : Int32) (a5 : Int32) (H : jH) : Option (Unit × jH) :=
jg ((jK H a0).1 = 18) (
(if ((jI H a0 14) : Int32) ≤ (a5 : Int32) then
jl (a3 + 1) fun x5 =>
k108 a0 a1 a2 x5 H
else
jg ((jK H a0).1 = 18) (
jg ((jK H a0).1 = 18) (
jg ((jK H (jR H a0 15)).1 = 100 ∧ jin (a5) (jK H (jR H a0 15)).2) (
jg ((jK H a0).1 = 18) (
jg ((jK H (jR H a0 15)).1 = 100 ∧ jin ((a5 + 1)) (jK H (jR H a0 15)).2) (
jg ((jK H a0).1 = 18) (
jg ((jK H (jR H a0 15)).1 = 100 ∧ jin (a5) (jK H (jR H a0 15)).2) (
jg ((jK H a0).1 = 18) (
jb (F_18_comes a0 (jR H a0 6) (jI H (jR H a0 15) (a5 : Int32).toNatClampNeg) ((jI H (jR H a0 15) ((a5 + 1) : Int32).toNatClampNeg) - (jI H (jR H a0 15) (a5 : Int32).toNatClampNeg)) 0 H) fun x6 h7 =>
jl (a5 + 1) fun x8 =>
k137 a0 a1 a2 a3 x8 h7))))))))))
def F_18_renew_137 (k108 : Nat → Int32 → Int32 → Int32 → jH → Option (Unit × jH)) : Nat → Nat → Int32 → Int32 → Int32 → Int32 → jH → Option (Unit × jH)
  | 0 => fun _ _ _ _ _ _ => none
  | n + 1 => fun a0 a1 a2 a3 a5 H => B_18_renew_137 k108 (F_18_renew_137 k108 n) a0 a1 a2 a3 a5 H
def B_18_renew_194 (k194 : Nat → Int32 → Int32 → jH → Option (Unit × jH)) (a0 : Nat) (a2 : Int32) (a3 : Int32) (H : jH) : Option (Unit × jH) :=
(if (a2 : Int32) ≤ (a3 : Int32) then
some ((), H)
else
jg ((jK H a0).1 = 18) (
jg ((jK H a0).1 = 18) (
jg ((jK H (jR H a0 46)).1 = 100 ∧ jin (a3) (jK H (jR H a0 46)).2) (
jg ((jK H a0).1 = 18) (
jb (F_18_comes a0 (jR H a0 45) (2000 * a3) (jI H (jR H a0 46) (a3 : Int32).toNatClampNeg) 0 H) fun x9 h10 =>
jl (a3 + 1) fun x11 =>
k194 a0 a2 x11 h10)))))
def F_18_renew_194  : Nat → Nat → Int32 → Int32 → jH → Option (Unit × jH)
  | 0 => fun _ _ _ _ => none
  | n + 1 => fun a0 a2 a3 H => B_18_renew_194 (F_18_renew_194  n) a0 a2 a3 H
def B_18_renew_108 (k108 : Nat → Int32 → Int32 → Int32 → jH → Option (Unit × jH)) (a0 : Nat) (a1 : Int32) (a2 : Int32) (a3 : Int32) (H : jH) : Option (Unit × jH) :=
jg ((jK H a0).1 = 18) (
jb (F_18_height a0 a1 H) fun x12 h13 =>
(if (x12 : Int32) < (a3 : Int32) then
F_18_renew_194 jfuel a0 a2 0 h13
else
jg ((jK h13 a0).1 = 18) (
jg ((jK h13 (jR h13 a0 3)).1 = 16) (
jb (F_16_below (jR h13 a0 3) a1 a3 h13) fun x14 h15 =>
jg ((jK h15 a0).1 = 18) (
jb (F_18_openBlock a0 x14 h15) fun x16 h17 =>
F_18_renew_137 k108 jfuel a0 a1 a2 a3 1 h17)))))
def F_18_renew_108  : Nat → Nat → Int32 → Int32 → Int32 → jH → Option (Unit × jH)
  | 0 => fun _ _ _ _ _ => none
  | n + 1 => fun a0 a1 a2 a3 H => B_18_renew_108 (F_18_renew_108  n) a0 a1 a2 a3 H
def B_18_renew_7 (k7 : Nat → Int32 → Int32 → Int32 → jH → Option (Unit × jH)) (a0 : Nat) (a1 : Int32) (a2 : Int32) (a3 : Int32) (H : jH) : Option (Unit × jH) :=
(if (a2 : Int32) ≤ (a3 : Int32) then
jg ((jK H a0).1 = 18) (
jl (jsI H a0 36 0) fun h18 =>
jg ((jK h18 a0).1 = 18) (
jg ((jK h18 a0).1 = 18) (
jb (F_18_need a0 (jI h18 a0 13) h18) fun x19 h20 =>
jg ((jK h20 a0).1 = 18) (
jg ((jK h20 a0).1 = 18) (
jg ((jK h20 (jR h20 a0 3)).1 = 16) (
jb (F_16_fork (jR h20 a0 3) a1 (jI h20 a0 13) h20) fun x21 h22 =>
jg ((jK h22 a0).1 = 18) (
jb (F_18_height a0 x21 h22) fun x23 h24 =>
jl (x23 + 1) fun x25 =>
F_18_renew_108 jfuel a0 a1 a2 x25 h24)))))))
else
F_18_renew_15 k7 jfuel a0 a1 a2 a3 0 H)
def F_18_renew_7  : Nat → Nat → Int32 → Int32 → Int32 → jH → Option (Unit × jH)
  | 0 => fun _ _ _ _ _ => none
  | n + 1 => fun a0 a1 a2 a3 H => B_18_renew_7 (F_18_renew_7  n) a0 a1 a2 a3 H
def F_18_renew (a0 : Nat) (a1 : Int32) (H : jH) : Option (Unit × jH) :=
jg ((jK H a0).1 = 18) (
jl (jI H a0 36) fun x26 =>
F_18_renew_7 jfuel a0 a1 x26 0 H)
def F_16_size (a0 : Nat) (H : jH) : Option (Int32 × jH) :=
jg ((jK H a0).1 = 16) (
some ((jI H a0 1), H))
def B_18_known_2 (k2 : Nat → Nat → Int32 → Int32 → jH → Option (Int32 × jH)) (a0 : Nat) (a1 : Nat) (a2 : Int32) (a3 : Int32) (H : jH) : Option (Int32 × jH) :=
jg ((jK H a0).1 = 18) (
jg ((jK H (jR H a0 3)).1 = 16) (
jb (F_16_size (jR H a0 3) H) fun x1 h2 =>
(if (x1 : Int32) ≤ (a3 : Int32) then
some ((-1), h2)
else
jg ((jK h2 a0).1 = 18) (
jb (F_18_like (jR h2 a0 8) (32 * a3) a1 a2 32 h2) fun x3 h4 =>
(if (x3 : Int32) = 0 then
jl (a3 + 1) fun x5 =>
k2 a0 a1 a2 x5 h4
else
some (a3, h4))))))
def F_18_known_2  : Nat → Nat → Nat → Int32 → Int32 → jH → Option (Int32 × jH)
  | 0 => fun _ _ _ _ _ => none
  | n + 1 => fun a0 a1 a2 a3 H => B_18_known_2 (F_18_known_2  n) a0 a1 a2 a3 H
def F_18_known (a0 : Nat) (a1 : Nat) (a2 : Int32) (H : jH) : Option (Int32 × jH) :=
F_18_known_2 jfuel a0 a1 a2 0 H
def B_16_isBits_19  (s0 : Int32) (H : jH) : Option (Int32 × jH) :=
jg ((s0 : Int32) = 0 ∨ (s0 : Int32) = 1) (some (s0, H))
def B_16_isBits_18   (H : jH) : Option (Int32 × jH) :=
B_16_isBits_19 0 H
def F_16_isBits (a0 : Int64) (H : jH) : Option (Int32 × jH) :=
(if (a0 : Int64) < 0 then
B_16_isBits_18 H
else
(if 4294967295 < (a0 : Int64) then
B_16_isBits_18 H
else
B_16_isBits_19 1 H))
def B_16_fault_96   (H : jH) : Option (Int32 × jH) :=
some (2, H)
def B_16_fault_148  (s0 : Int32) (H : jH) : Option (Int32 × jH) :=
some (s0, H)
def B_16_fault_80  (a0 : Nat) (a1 : Int64) (a3 : Int32) (s0 : Int32) (H : jH) : Option (Int32 × jH) :=
(if (((s0 + a3) - 3) : Int32) ≤ 0 then
B_16_fault_96 H
else
(if ¬ (s0 : Int32) = 0 then
(if (((s0 + a3) - 3) : Int32) ≤ (32 : Int32) then
jg ((jK H a0).1 = 16) (
jb (F_16_open a1 (jR H a0 8) H) fun x1 h2 =>
jg ((jK h2 a0).1 = 16) (
jb (F_16_open 545259519 (jR h2 a0 9) h2) fun x3 h4 =>
jg ((jK h4 a0).1 = 16) (
jg ((jK h4 a0).1 = 16) (
jb (F_16_compareRows (jR h4 a0 8) (jR h4 a0 9) h4) fun x5 h6 =>
(if (x5 : Int32) ≤ 0 then
B_16_fault_148 0 h6
else
B_16_fault_148 4 h6)))))
else
some (3, H))
else
B_16_fault_96 H))
def B_16_fault_42  (a0 : Nat) (a1 : Int64) (a3 : Int32) (a4 : Int64) (H : jH) : Option (Int32 × jH) :=
(if ¬ (a4 : Int64) = 0 then
(if 256 ≤ (a4 : Int64) then
(if 65536 ≤ (a4 : Int64) then
B_16_fault_80 a0 a1 a3 3 H
else
B_16_fault_80 a0 a1 a3 2 H)
else
B_16_fault_80 a0 a1 a3 1 H)
else
B_16_fault_80 a0 a1 a3 0 H)
def F_16_fault (a0 : Nat) (a1 : Int64) (H : jH) : Option (Int32 × jH) :=
jb (F_16_isBits a1 H) fun x7 h8 =>
(if ¬ (x7 : Int32) = 0 then
jl (Int64.toInt32 (jshrL a1 24)) fun x9 =>
jl (a1 &&& 8388607) fun x10 =>
(if ¬ (((jshrL a1 23) &&& 1) : Int64) = 1 then
B_16_fault_42 a0 a1 x9 x10 h8
else
(if (x10 : Int64) ≤ 0 then
B_16_fault_42 a0 a1 x9 x10 h8
else
some (1, h8)))
else
some ((-1), h8))
def B_16_longOf_6 (k6 : Nat → Int32 → Int32 → Int64 → Int32 → jH → Option (Int64 × jH)) (a0 : Nat) (a1 : Int32) (a2 : Int32) (a3 : Int64) (a5 : Int32) (H : jH) : Option (Int64 × jH) :=
(if (a5 : Int32) < 0 then
some (a3, H)
else
jg ((jK H a0).1 = 100 ∧ jin (((a1 + (8 * (3 - a2))) + a5)) (jK H a0).2) (
jl ((jshlL a3 8) ||| (Int32.toInt64 (jI H a0 (((a1 + (8 * (3 - a2))) + a5) : Int32).toNatClampNeg))) fun x1 =>
jl (a5 + (-1)) fun x2 =>
k6 a0 a1 a2 x1 x2 H))
def F_16_longOf_6  : Nat → Nat → Int32 → Int32 → Int64 → Int32 → jH → Option (Int64 × jH)
  | 0 => fun _ _ _ _ _ _ => none
  | n + 1 => fun a0 a1 a2 a3 a5 H => B_16_longOf_6 (F_16_longOf_6  n) a0 a1 a2 a3 a5 H
def F_16_longOf (a0 : Nat) (a1 : Int32) (a2 : Int32) (H : jH) : Option (Int64 × jH) :=
F_16_longOf_6 jfuel a0 a1 a2 0 7 H
def B_16_target_27   (H : jH) : Option (Int64 × jH) :=
some (0, H)
def B_16_target_18  (a0 : Nat) (a1 : Int64) (a3 : Int32) (H : jH) : Option (Int64 × jH) :=
(if (a3 : Int32) < 0 then
B_16_target_27 H
else
(if (a3 : Int32) ≤ (3 : Int32) then
jg ((jK H a0).1 = 16) (
jb (F_16_open a1 (jR H a0 8) H) fun x1 h2 =>
jg ((jK h2 a0).1 = 16) (
jb (F_16_longOf (jR h2 a0 8) 0 a3 h2) fun x3 h4 =>
some (x3, h4)))
else
B_16_target_27 H))
def F_16_target (a0 : Nat) (a1 : Int64) (a3 : Int32) (H : jH) : Option (Int64 × jH) :=
jg ((jK H a0).1 = 16) (
jb (F_16_fault a0 a1 H) fun x5 h6 =>
(if (x5 : Int32) = 0 then
B_16_target_18 a0 a1 a3 h6
else
(if ¬ (x5 : Int32) = (4 : Int32) then
B_16_target_27 h6
else
B_16_target_18 a0 a1 a3 h6)))
def B_18_isAbove_111  (s0 : Int32) (H : jH) : Option (Int32 × jH) :=
jg ((s0 : Int32) = 0 ∨ (s0 : Int32) = 1) (some (s0, H))
def B_18_isAbove_13 (k2 : Nat → Int64 → Int32 → jH → Option (Int32 × jH)) (k13 : Nat → Int64 → Int32 → Int64 → Int32 → jH → Option (Int32 × jH)) (a0 : Nat) (a1 : Int64) (a3 : Int32) (a4 : Int64) (a6 : Int32) (H : jH) : Option (Int32 × jH) :=
(if (8 : Int32) ≤ (a6 : Int32) then
jg ((jK H a0).1 = 18) (
jg ((jK H (jR H a0 3)).1 = 16) (
jb (F_16_target (jR H a0 3) a1 a3 H) fun x1 h2 =>
(if (a4 : Int64) = x1 then
jl (a3 + 1) fun x3 =>
k2 a0 a1 x3 h2
else
(if 0 ≤ ((a4 ^^^ x1) : Int64) then
(if (a4 : Int64) ≤ x1 then
B_18_isAbove_111 0 h2
else
B_18_isAbove_111 1 h2)
else
(if 0 ≤ (a4 : Int64) then
B_18_isAbove_111 0 h2
else
B_18_isAbove_111 1 h2)))))
else
jg ((jK H a0).1 = 18) (
jg ((jK H (jR H a0 49)).1 = 101 ∧ jin (((31 - (8 * a3)) - a6)) (jK H (jR H a0 49)).2) (
jl ((jshlL a4 8) ||| (Int32.toInt64 ((jbs (jB H (jR H a0 49) (((31 - (8 * a3)) - a6) : Int32).toNatClampNeg)) &&& 255))) fun x4 =>
jl (a6 + 1) fun x5 =>
k13 a0 a1 a3 x4 x5 H)))
def F_18_isAbove_13 (k2 : Nat → Int64 → Int32 → jH → Option (Int32 × jH)) : Nat → Nat → Int64 → Int32 → Int64 → Int32 → jH → Option (Int32 × jH)
  | 0 => fun _ _ _ _ _ _ => none
  | n + 1 => fun a0 a1 a3 a4 a6 H => B_18_isAbove_13 k2 (F_18_isAbove_13 k2 n) a0 a1 a3 a4 a6 H
def B_18_isAbove_2 (k2 : Nat → Int64 → Int32 → jH → Option (Int32 × jH)) (a0 : Nat) (a1 : Int64) (a3 : Int32) (H : jH) : Option (Int32 × jH) :=
(if (4 : Int32) ≤ (a3 : Int32) then
jg ((0 : Int32) = 0 ∨ (0 : Int32) = 1) (some (0, H))
else
F_18_isAbove_13 k2 jfuel a0 a1 a3 0 0 H)
def F_18_isAbove_2  : Nat → Nat → Int64 → Int32 → jH → Option (Int32 × jH)
  | 0 => fun _ _ _ _ => none
  | n + 1 => fun a0 a1 a3 H => B_18_isAbove_2 (F_18_isAbove_2  n) a0 a1 a3 H
def F_18_isAbove (a0 : Nat) (a1 : Int64) (H : jH) : Option (Int32 × jH) :=
F_18_isAbove_2 jfuel a0 a1 0 H
def B_18_head_7 (k7 : Nat → Int32 → Int64 → Int32 → jH → Option (Int64 × jH)) (a0 : Nat) (a1 : Int32) (a3 : Int64) (a5 : Int32) (H : jH) : Option (Int64 × jH) :=
(if (a5 : Int32) < 0 then
some (a3, H)
else
jg ((jK H a0).1 = 18) (
jg ((jK H (jR H a0 47)).1 = 101 ∧ jin (((1 + a1) + a5)) (jK H (jR H a0 47)).2) (
jl ((jshlL a3 8) ||| (Int32.toInt64 ((jbs (jB H (jR H a0 47) (((1 + a1) + a5) : Int32).toNatClampNeg)) &&& 255))) fun x1 =>
jl (a5 + (-1)) fun x2 =>
k7 a0 a1 x1 x2 H)))
def F_18_head_7  : Nat → Nat → Int32 → Int64 → Int32 → jH → Option (Int64 × jH)
  | 0 => fun _ _ _ _ _ => none
  | n + 1 => fun a0 a1 a3 a5 H => B_18_head_7 (F_18_head_7  n) a0 a1 a3 a5 H
def F_18_head (a0 : Nat) (a1 : Int32) (a2 : Int32) (H : jH) : Option (Int64 × jH) :=
jl (a2 - 1) fun x3 =>
F_18_head_7 jfuel a0 a1 0 x3 H
def B_18_isFramed_82   (H : jH) : Option (Int32 × jH) :=
jg ((0 : Int32) = 0 ∨ (0 : Int32) = 1) (some (0, H))
def B_18_isFramed_86 (k86 : Nat → Int32 → jH → Option (Int32 × jH)) (a0 : Nat) (a1 : Int32) (H : jH) : Option (Int32 × jH) :=
jg ((jK H a0).1 = 18) (
(if ((jI H a0 14) : Int32) ≤ (a1 : Int32) then
jg ((1 : Int32) = 0 ∨ (1 : Int32) = 1) (some (1, H))
else
jg ((jK H a0).1 = 18) (
jg ((jK H a0).1 = 18) (
jg ((jK H a0).1 = 18) (
jg ((jK H (jR H a0 15)).1 = 100 ∧ jin (a1) (jK H (jR H a0 15)).2) (
jg ((jK H a0).1 = 18) (
jg ((jK H (jR H a0 15)).1 = 100 ∧ jin ((a1 + 1)) (jK H (jR H a0 15)).2) (
jg ((jK H (jR H a0 4)).1 = 17) (
jb (F_17_read (jR H a0 4) (jR H a0 47) (jI H (jR H a0 15) (a1 : Int32).toNatClampNeg) (jI H (jR H a0 15) ((a1 + 1) : Int32).toNatClampNeg) H) fun x1 h2 =>
jg ((jK h2 a0).1 = 18) (
jg ((jK h2 (jR h2 a0 4)).1 = 17) (
jb (F_17_hasRoot (jR h2 a0 4) h2) fun x3 h4 =>
(if (x3 : Int32) = 0 then
jl (a1 + 1) fun x5 =>
k86 a0 x5 h4
else
jg ((0 : Int32) = 0 ∨ (0 : Int32) = 1) (some (0, h4))))))))))))))
def F_18_isFramed_86  : Nat → Nat → Int32 → jH → Option (Int32 × jH)
  | 0 => fun _ _ _ => none
  | n + 1 => fun a0 a1 H => B_18_isFramed_86 (F_18_isFramed_86  n) a0 a1 H
def F_18_isFramed (a0 : Nat) (H : jH) : Option (Int32 × jH) :=
jg ((jK H a0).1 = 18) (
(if ¬ ((jI H a0 14) : Int32) = 0 then
jg ((jK H a0).1 = 18) (
jg ((jK H a0).1 = 18) (
jg ((jK H a0).1 = 18) (
jg ((jK H (jR H a0 15)).1 = 100 ∧ jin (0) (jK H (jR H a0 15)).2) (
jg ((jK H a0).1 = 18) (
jg ((jK H (jR H a0 15)).1 = 100 ∧ jin (1) (jK H (jR H a0 15)).2) (
jg ((jK H (jR H a0 4)).1 = 17) (
jb (F_17_read (jR H a0 4) (jR H a0 47) (jI H (jR H a0 15) (0 : Int32).toNatClampNeg) (jI H (jR H a0 15) (1 : Int32).toNatClampNeg) H) fun x6 h7 =>
jg ((jK h7 a0).1 = 18) (
jg ((jK h7 (jR h7 a0 4)).1 = 17) (
(if ¬ ((jI h7 (jR h7 a0 4) 4) : Int32) = (1 : Int32) then
B_18_isFramed_82 h7
else
jg ((jK h7 a0).1 = 18) (
jg ((jK h7 (jR h7 a0 4)).1 = 17) (
jb (F_17_isRoot (jR h7 a0 4) 0 h7) fun x8 h9 =>
(if (x8 : Int32) = 0 then
B_18_isFramed_82 h9
else
jg ((jK h9 a0).1 = 18) (
jg ((jK h9 (jR h9 a0 4)).1 = 17) (
jg ((jK h9 (jR h9 (jR h9 a0 4) 10)).1 = 100 ∧ jin (0) (jK h9 (jR h9 (jR h9 a0 4) 10)).2) (
(if ((jI h9 (jR h9 (jR h9 a0 4) 10) (0 : Int32).toNatClampNeg) : Int32) < (2 : Int32) then
B_18_isFramed_82 h9
else
jg ((jK h9 a0).1 = 18) (
jg ((jK h9 (jR h9 a0 4)).1 = 17) (
jg ((jK h9 (jR h9 (jR h9 a0 4) 10)).1 = 100 ∧ jin (0) (jK h9 (jR h9 (jR h9 a0 4) 10)).2) (
(if ((jI h9 (jR h9 (jR h9 a0 4) 10) (0 : Int32).toNatClampNeg) : Int32) ≤ (100 : Int32) then
F_18_isFramed_86 jfuel a0 1 h9
else
B_18_isFramed_82 h9)))))))))))))))))))))
else
jg ((0 : Int32) = 0 ∨ (0 : Int32) = 1) (some (0, H))))
def B_18_isRooted_52 (k2 : Nat → Int32 → jH → Option (Int32 × jH)) (k52 : Nat → Int32 → Int32 → jH → Option (Int32 × jH)) (a0 : Nat) (a1 : Int32) (a2 : Int32) (H : jH) : Option (Int32 × jH) :=
(if (32 : Int32) ≤ (a2 : Int32) then
jl (a1 + 1) fun x1 =>
k2 a0 x1 H
else
jg ((jK H a0).1 = 18) (
jg ((jK H a0).1 = 18) (
jg ((jK H (jR H a0 50)).1 = 101 ∧ jin (((32 * a1) + a2)) (jK H (jR H a0 50)).2) (
jg ((jK H (jR H a0 12)).1 = 101 ∧ jin (((32 * a1) + a2)) (jK H (jR H a0 12)).2) (
jl (jsB H (jR H a0 12) (((32 * a1) + a2) : Int32).toNatClampNeg (jbu (jbs (jB H (jR H a0 50) (((32 * a1) + a2) : Int32).toNatClampNeg)))) fun h2 =>
jl (a2 + 1) fun x3 =>
k52 a0 a1 x3 h2)))))
def F_18_isRooted_52 (k2 : Nat → Int32 → jH → Option (Int32 × jH)) : Nat → Nat → Int32 → Int32 → jH → Option (Int32 × jH)
  | 0 => fun _ _ _ _ => none
  | n + 1 => fun a0 a1 a2 H => B_18_isRooted_52 k2 (F_18_isRooted_52 k2 n) a0 a1 a2 H
def B_18_isRooted_200 (k152 : Nat → Int32 → Int32 → Int32 → jH → Option (Int32 × jH)) (a0 : Nat) (a2 : Int32) (a3 : Int32) (s0 : Int32) (H : jH) : Option (Int32 × jH) :=
jg ((jK H a0).1 = 18) (
jg ((jK H a0).1 = 18) (
jg ((jK H a0).1 = 18) (
jg ((jK H (jR H a0 0)).1 = 12) (
jb (F_12_name (jR H a0 0) (jR H a0 50) (32 * a3) 64 (jR H a0 50) (16 * a3) H) fun x4 h5 =>
jl (a3 + 2) fun x6 =>
k152 a0 s0 a2 x6 h5))))
def B_18_isRooted_195 (k152 : Nat → Int32 → Int32 → Int32 → jH → Option (Int32 × jH)) (a0 : Nat) (a2 : Int32) (a3 : Int32) (H : jH) : Option (Int32 × jH) :=
B_18_isRooted_200 k152 a0 a2 a3 1 H
def B_18_isRooted_199 (k152 : Nat → Int32 → Int32 → Int32 → jH → Option (Int32 × jH)) (a0 : Nat) (a2 : Int32) (a3 : Int32) (H : jH) : Option (Int32 × jH) :=
B_18_isRooted_200 k152 a0 a2 a3 0 H
def B_18_isRooted_152 (k99 : Nat → Int32 → Int32 → jH → Option (Int32 × jH)) (k152 : Nat → Int32 → Int32 → Int32 → jH → Option (Int32 × jH)) (a0 : Nat) (a1 : Int32) (a2 : Int32) (a3 : Int32) (H : jH) : Option (Int32 × jH) :=
(if (a2 : Int32) ≤ (a3 : Int32) then
jg (¬ (2 : Int32) = 0) (
jl ((a2 + 1) / 2) fun x7 =>
k99 a0 a1 x7 H)
else
(if ¬ (a1 : Int32) = 0 then
B_18_isRooted_195 k152 a0 a2 a3 H
else
(if (a2 : Int32) ≤ ((a3 + 1) : Int32) then
B_18_isRooted_199 k152 a0 a2 a3 H
else
jg ((jK H a0).1 = 18) (
jg ((jK H a0).1 = 18) (
jb (F_18_like (jR H a0 50) (32 * a3) (jR H a0 50) ((32 * a3) + 32) 32 H) fun x8 h9 =>
(if (x8 : Int32) = 0 then
B_18_isRooted_199 k152 a0 a2 a3 h9
else
B_18_isRooted_195 k152 a0 a2 a3 h9))))))
def F_18_isRooted_152 (k99 : Nat → Int32 → Int32 → jH → Option (Int32 × jH)) : Nat → Nat → Int32 → Int32 → Int32 → jH → Option (Int32 × jH)
  | 0 => fun _ _ _ _ _ => none
  | n + 1 => fun a0 a1 a2 a3 H => B_18_isRooted_152 k99 (F_18_isRooted_152 k99 n) a0 a1 a2 a3 H
def B_18_isRooted_150 (k99 : Nat → Int32 → Int32 → jH → Option (Int32 × jH)) (a0 : Nat) (a1 : Int32) (a2 : Int32) (H : jH) : Option (Int32 × jH) :=
F_18_isRooted_152 k99 jfuel a0 a1 a2 0 H
def B_18_isRooted_106 (k99 : Nat → Int32 → Int32 → jH → Option (Int32 × jH)) (k106 : Nat → Int32 → Int32 → Int32 → jH → Option (Int32 × jH)) (a0 : Nat) (a1 : Int32) (a2 : Int32) (a3 : Int32) (H : jH) : Option (Int32 × jH) :=
(if (32 : Int32) ≤ (a3 : Int32) then
B_18_isRooted_150 k99 a0 a1 a2 H
else
jg (¬ (2 : Int32) = 0) (
(if ¬ ((jrem a2 2) : Int32) = (1 : Int32) then
B_18_isRooted_150 k99 a0 a1 a2 H
else
jg ((jK H a0).1 = 18) (
jg ((jK H a0).1 = 18) (
jg ((jK H (jR H a0 50)).1 = 101 ∧ jin ((((32 * a2) - 32) + a3)) (jK H (jR H a0 50)).2) (
jg ((jK H (jR H a0 50)).1 = 101 ∧ jin (((32 * a2) + a3)) (jK H (jR H a0 50)).2) (
jl (jsB H (jR H a0 50) (((32 * a2) + a3) : Int32).toNatClampNeg (jbu (jbs (jB H (jR H a0 50) ((((32 * a2) - 32) + a3) : Int32).toNatClampNeg)))) fun h10 =>
jl (a3 + 1) fun x11 =>
k106 a0 a1 a2 x11 h10)))))))
def F_18_isRooted_106 (k99 : Nat → Int32 → Int32 → jH → Option (Int32 × jH)) : Nat → Nat → Int32 → Int32 → Int32 → jH → Option (Int32 × jH)
  | 0 => fun _ _ _ _ _ => none
  | n + 1 => fun a0 a1 a2 a3 H => B_18_isRooted_106 k99 (F_18_isRooted_106 k99 n) a0 a1 a2 a3 H
def B_18_isRooted_269  (s0 : Int32) (H : jH) : Option (Int32 × jH) :=
jg ((s0 : Int32) = 0 ∨ (s0 : Int32) = 1) (some (s0, H))
def B_18_isRooted_268   (H : jH) : Option (Int32 × jH) :=
B_18_isRooted_269 0 H
def B_18_isRooted_99 (k99 : Nat → Int32 → Int32 → jH → Option (Int32 × jH)) (a0 : Nat) (a1 : Int32) (a2 : Int32) (H : jH) : Option (Int32 × jH) :=
(if (a2 : Int32) ≤ (1 : Int32) then
(if ¬ (a1 : Int32) = 0 then
B_18_isRooted_268 H
else
jg ((jK H a0).1 = 18) (
jg ((jK H a0).1 = 18) (
jb (F_18_like (jR H a0 50) 0 (jR H a0 47) 37 32 H) fun x12 h13 =>
(if (x12 : Int32) = 0 then
B_18_isRooted_268 h13
else
B_18_isRooted_269 1 h13))))
else
F_18_isRooted_106 k99 jfuel a0 a1 a2 0 H)
def F_18_isRooted_99  : Nat → Nat → Int32 → Int32 → jH → Option (Int32 × jH)
  | 0 => fun _ _ _ _ => none
  | n + 1 => fun a0 a1 a2 H => B_18_isRooted_99 (F_18_isRooted_99  n) a0 a1 a2 H
def B_18_isRooted_2 (k2 : Nat → Int32 → jH → Option (Int32 × jH)) (a0 : Nat) (a1 : Int32) (H : jH) : Option (Int32 × jH) :=
jg ((jK H a0).1 = 18) (
(if ((jI H a0 14) : Int32) ≤ (a1 : Int32) then
jg ((jK H a0).1 = 18) (
jl (jI H a0 14) fun x14 =>
F_18_isRooted_99 jfuel a0 0 x14 H)
else
jg ((jK H a0).1 = 18) (
jg ((jK H a0).1 = 18) (
jg ((jK H a0).1 = 18) (
jg ((jK H (jR H a0 15)).1 = 100 ∧ jin (a1) (jK H (jR H a0 15)).2) (
jg ((jK H a0).1 = 18) (
jg ((jK H (jR H a0 15)).1 = 100 ∧ jin ((a1 + 1)) (jK H (jR H a0 15)).2) (
jg ((jK H a0).1 = 18) (
jg ((jK H (jR H a0 15)).1 = 100 ∧ jin (a1) (jK H (jR H a0 15)).2) (
jg ((jK H a0).1 = 18) (
jg ((jK H (jR H a0 0)).1 = 12) (
jb (F_12_name (jR H a0 0) (jR H a0 47) (jI H (jR H a0 15) (a1 : Int32).toNatClampNeg) ((jI H (jR H a0 15) ((a1 + 1) : Int32).toNatClampNeg) - (jI H (jR H a0 15) (a1 : Int32).toNatClampNeg)) (jR H a0 50) (32 * a1) H) fun x15 h16 =>
F_18_isRooted_52 k2 jfuel a0 a1 0 h16))))))))))))
def F_18_isRooted_2  : Nat → Nat → Int32 → jH → Option (Int32 × jH)
  | 0 => fun _ _ _ => none
  | n + 1 => fun a0 a1 H => B_18_isRooted_2 (F_18_isRooted_2  n) a0 a1 H
def F_18_isRooted (a0 : Nat) (H : jH) : Option (Int32 × jH) :=
F_18_isRooted_2 jfuel a0 0 H
def B_18_isFaulty_73   (H : jH) : Option (Int32 × jH) :=
jg ((1 : Int32) = 0 ∨ (1 : Int32) = 1) (some (1, H))
def B_18_isFaulty_75 (k2 : Nat → Int32 → jH → Option (Int32 × jH)) (a0 : Nat) (a1 : Int32) (H : jH) : Option (Int32 × jH) :=
jl (a1 + 1) fun x1 =>
k2 a0 x1 H
def B_18_isFaulty_2 (k2 : Nat → Int32 → jH → Option (Int32 × jH)) (a0 : Nat) (a1 : Int32) (H : jH) : Option (Int32 × jH) :=
jg ((jK H a0).1 = 18) (
(if ((jI H a0 14) : Int32) ≤ (a1 : Int32) then
jg ((0 : Int32) = 0 ∨ (0 : Int32) = 1) (some (0, H))
else
jg ((jK H a0).1 = 18) (
jg ((jK H a0).1 = 18) (
jg ((jK H a0).1 = 18) (
jg ((jK H (jR H a0 15)).1 = 100 ∧ jin (a1) (jK H (jR H a0 15)).2) (
jg ((jK H a0).1 = 18) (
jg ((jK H (jR H a0 15)).1 = 100 ∧ jin ((a1 + 1)) (jK H (jR H a0 15)).2) (
jg ((jK H (jR H a0 4)).1 = 17) (
jb (F_17_read (jR H a0 4) (jR H a0 47) (jI H (jR H a0 15) (a1 : Int32).toNatClampNeg) (jI H (jR H a0 15) ((a1 + 1) : Int32).toNatClampNeg) H) fun x2 h3 =>
(if ¬ (a1 : Int32) = 0 then
jg ((jK h3 a0).1 = 18) (
jg ((jK h3 (jR h3 a0 4)).1 = 17) (
jb (F_17_fault (jR h3 a0 4) h3) fun x4 h5 =>
(if (x4 : Int32) ≤ 0 then
B_18_isFaulty_75 k2 a0 a1 h5
else
B_18_isFaulty_73 h5)))
else
jg ((jK h3 a0).1 = 18) (
jg ((jK h3 (jR h3 a0 4)).1 = 17) (
jb (F_17_isLarge (jR h3 a0 4) h3) fun x6 h7 =>
(if ¬ (x6 : Int32) = 0 then
B_18_isFaulty_73 h7
else
jg ((jK h7 a0).1 = 18) (
jg ((jK h7 (jR h7 a0 4)).1 = 17) (
(if ¬ ((jI h7 (jR h7 a0 4) 5) : Int32) = 0 then
B_18_isFaulty_75 k2 a0 a1 h7
else
B_18_isFaulty_73 h7))))))))))))))))
def F_18_isFaulty_2  : Nat → Nat → Int32 → jH → Option (Int32 × jH)
  | 0 => fun _ _ _ => none
  | n + 1 => fun a0 a1 H => B_18_isFaulty_2 (F_18_isFaulty_2  n) a0 a1 H
def F_18_isFaulty (a0 : Nat) (H : jH) : Option (Int32 × jH) :=
F_18_isFaulty_2 jfuel a0 0 H
def B_16_median_75 (k16 : Nat → Int32 → Int32 → jH → Option (Int64 × jH)) (a0 : Nat) (a2 : Int32) (a3 : Int32) (a4 : Int32) (H : jH) : Option (Int64 × jH) :=
jg ((jK H a0).1 = 16) (
jg ((jK H a0).1 = 16) (
jg ((jK H (jR H a0 4)).1 = 103 ∧ jin (a3) (jK H (jR H a0 4)).2) (
jg ((jK H (jR H a0 11)).1 = 103 ∧ jin (a4) (jK H (jR H a0 11)).2) (
jl (jsL H (jR H a0 11) (a4 : Int32).toNatClampNeg (jL H (jR H a0 4) (a3 : Int32).toNatClampNeg)) fun h1 =>
jl (a2 + 1) fun x2 =>
jg ((jK h1 a0).1 = 16) (
jg ((jK h1 (jR h1 a0 2)).1 = 100 ∧ jin (a3) (jK h1 (jR h1 a0 2)).2) (
jl (jI h1 (jR h1 a0 2) (a3 : Int32).toNatClampNeg) fun x3 =>
k16 a0 x2 x3 h1))))))
def B_16_median_29 (k16 : Nat → Int32 → Int32 → jH → Option (Int64 × jH)) (k29 : Nat → Int32 → Int32 → Int32 → jH → Option (Int64 × jH)) (a0 : Nat) (a2 : Int32) (a3 : Int32) (a4 : Int32) (H : jH) : Option (Int64 × jH) :=
(if (a4 : Int32) ≤ 0 then
B_16_median_75 k16 a0 a2 a3 a4 H
else
jg ((jK H a0).1 = 16) (
jg ((jK H (jR H a0 11)).1 = 103 ∧ jin ((a4 - 1)) (jK H (jR H a0 11)).2) (
jg ((jK H a0).1 = 16) (
jg ((jK H (jR H a0 4)).1 = 103 ∧ jin (a3) (jK H (jR H a0 4)).2) (
(if ((jL H (jR H a0 11) ((a4 - 1) : Int32).toNatClampNeg) : Int64) ≤ (jL H (jR H a0 4) (a3 : Int32).toNatClampNeg) then
B_16_median_75 k16 a0 a2 a3 a4 H
else
jg ((jK H a0).1 = 16) (
jg ((jK H a0).1 = 16) (
jg ((jK H (jR H a0 11)).1 = 103 ∧ jin ((a4 - 1)) (jK H (jR H a0 11)).2) (
jg ((jK H (jR H a0 11)).1 = 103 ∧ jin (a4) (jK H (jR H a0 11)).2) (
jl (jsL H (jR H a0 11) (a4 : Int32).toNatClampNeg (jL H (jR H a0 11) ((a4 - 1) : Int32).toNatClampNeg)) fun h4 =>
jl (a4 + (-1)) fun x5 =>
k29 a0 a2 a3 x5 h4))))))))))
def F_16_median_29 (k16 : Nat → Int32 → Int32 → jH → Option (Int64 × jH)) : Nat → Nat → Int32 → Int32 → Int32 → jH → Option (Int64 × jH)
  | 0 => fun _ _ _ _ _ => none
  | n + 1 => fun a0 a2 a3 a4 H => B_16_median_29 k16 (F_16_median_29 k16 n) a0 a2 a3 a4 H
def B_16_median_101  (a0 : Nat) (a2 : Int32) (H : jH) : Option (Int64 × jH) :=
jg ((jK H a0).1 = 16) (
jg (¬ (2 : Int32) = 0) (
jg ((jK H (jR H a0 11)).1 = 103 ∧ jin ((a2 / 2)) (jK H (jR H a0 11)).2) (
some ((jL H (jR H a0 11) ((a2 / 2) : Int32).toNatClampNeg), H))))
def B_16_median_16 (k16 : Nat → Int32 → Int32 → jH → Option (Int64 × jH)) (a0 : Nat) (a2 : Int32) (a3 : Int32) (H : jH) : Option (Int64 × jH) :=
(if (a3 : Int32) < 0 then
B_16_median_101 a0 a2 H
else
(if (11 : Int32) ≤ (a2 : Int32) then
B_16_median_101 a0 a2 H
else
F_16_median_29 k16 jfuel a0 a2 a3 a2 H))
def F_16_median_16  : Nat → Nat → Int32 → Int32 → jH → Option (Int64 × jH)
  | 0 => fun _ _ _ _ => none
  | n + 1 => fun a0 a2 a3 H => B_16_median_16 (F_16_median_16  n) a0 a2 a3 H
def F_16_median (a0 : Nat) (a1 : Int32) (H : jH) : Option (Int64 × jH) :=
jg ((jK H a0).1 = 16) (
jb (F_16_isBlock a0 a1 H) fun x6 h7 =>
(if ¬ (x6 : Int32) = 0 then
F_16_median_16 jfuel a0 0 a1 h7
else
some ((-1), h7)))
def B_16_bytes_23 (k4 : Nat → Int32 → Int32 → jH → Option (Int32 × jH)) (a0 : Nat) (a2 : Int32) (s0 : Int32) (H : jH) : Option (Int32 × jH) :=
jl (a2 + 1) fun x1 =>
k4 a0 s0 x1 H
def B_16_bytes_4 (k4 : Nat → Int32 → Int32 → jH → Option (Int32 × jH)) (a0 : Nat) (a1 : Int32) (a2 : Int32) (H : jH) : Option (Int32 × jH) :=
(if (40 : Int32) ≤ (a2 : Int32) then
some (a1, H)
else
jg ((jK H a0).1 = 100 ∧ jin (a2) (jK H a0).2) (
(if ((jI H a0 (a2 : Int32).toNatClampNeg) : Int32) ≤ 0 then
B_16_bytes_23 k4 a0 a2 a1 H
else
B_16_bytes_23 k4 a0 a2 (a2 + 1) H)))
def F_16_bytes_4  : Nat → Nat → Int32 → Int32 → jH → Option (Int32 × jH)
  | 0 => fun _ _ _ _ => none
  | n + 1 => fun a0 a1 a2 H => B_16_bytes_4 (F_16_bytes_4  n) a0 a1 a2 H
def F_16_bytes (a0 : Nat) (H : jH) : Option (Int32 × jH) :=
F_16_bytes_4 jfuel a0 0 0 H
def B_16_compactOf_38 (k10 : Nat → Int32 → Int64 → Int32 → jH → Option (Int64 × jH)) (a0 : Nat) (a1 : Int32) (a4 : Int32) (s0 : Int64) (s1 : Int32) (H : jH) : Option (Int64 × jH) :=
jl (s0 + (Int32.toInt64 s1)) fun x1 =>
jl (a4 + 1) fun x2 =>
k10 a0 a1 x1 x2 H
def B_16_compactOf_90  (s0 : Int64) (H : jH) : Option (Int64 × jH) :=
some (s0, H)
def B_16_compactOf_60  (a1 : Int32) (a2 : Int64) (s0 : Int32) (H : jH) : Option (Int64 × jH) :=
(if (s0 : Int32) = 0 then
B_16_compactOf_90 ((jshlL (Int32.toInt64 a1) 24) + a2) H
else
jg (¬ (256 : Int64) = 0) (
B_16_compactOf_90 ((jshlL ((Int32.toInt64 a1) + 1) 24) + (a2 / 256)) H))
def B_16_compactOf_10 (k10 : Nat → Int32 → Int64 → Int32 → jH → Option (Int64 × jH)) (a0 : Nat) (a1 : Int32) (a2 : Int64) (a4 : Int32) (H : jH) : Option (Int64 × jH) :=
(if (3 : Int32) < (a4 : Int32) then
(if (a2 : Int64) < 8388608 then
B_16_compactOf_60 a1 a2 0 H
else
B_16_compactOf_60 a1 a2 1 H)
else
(if ((a1 - a4) : Int32) < 0 then
B_16_compactOf_38 k10 a0 a1 a4 (a2 * 256) 0 H
else
jg ((jK H a0).1 = 100 ∧ jin ((a1 - a4)) (jK H a0).2) (
B_16_compactOf_38 k10 a0 a1 a4 (a2 * 256) (jI H a0 ((a1 - a4) : Int32).toNatClampNeg) H)))
def F_16_compactOf_10  : Nat → Nat → Int32 → Int64 → Int32 → jH → Option (Int64 × jH)
  | 0 => fun _ _ _ _ _ => none
  | n + 1 => fun a0 a1 a2 a4 H => B_16_compactOf_10 (F_16_compactOf_10  n) a0 a1 a2 a4 H
def F_16_compactOf (a0 : Nat) (H : jH) : Option (Int64 × jH) :=
jb (F_16_bytes a0 H) fun x3 h4 =>
F_16_compactOf_10 jfuel a0 x3 0 1 h4
def B_16_scale_63 (k63 : Nat → Int64 → Int64 → Int32 → jH → Option (Unit × jH)) (a0 : Nat) (a3 : Int64) (a7 : Int64) (a9 : Int32) (H : jH) : Option (Unit × jH) :=
(if (a9 : Int32) < 0 then
some ((), H)
else
jg ((jK H a0).1 = 16) (
jg ((jK H (jR H a0 8)).1 = 100 ∧ jin (a9) (jK H (jR H a0 8)).2) (
jl ((a7 * 256) + (Int32.toInt64 (jI H (jR H a0 8) (a9 : Int32).toNatClampNeg))) fun x1 =>
jg ((jK H a0).1 = 16) (
jg (¬ (a3 : Int64) = 0) (
jg ((jK H (jR H a0 8)).1 = 100 ∧ jF0 ≤ (jR H a0 8) ∧ jin (a9) (jK H (jR H a0 8)).2) (
jl (jsI H (jR H a0 8) (a9 : Int32).toNatClampNeg (Int64.toInt32 (x1 / a3))) fun h2 =>
jg (¬ (a3 : Int64) = 0) (
jl (jremL x1 a3) fun x3 =>
jl (a9 + (-1)) fun x4 =>
k63 a0 a3 x3 x4 h2)))))))
def F_16_scale_63  : Nat → Nat → Int64 → Int64 → Int32 → jH → Option (Unit × jH)
  | 0 => fun _ _ _ _ _ => none
  | n + 1 => fun a0 a3 a7 a9 H => B_16_scale_63 (F_16_scale_63  n) a0 a3 a7 a9 H
def B_16_scale_6 (k6 : Nat → Int64 → Int64 → Int64 → Int32 → jH → Option (Unit × jH)) (a0 : Nat) (a1 : Int64) (a3 : Int64) (a5 : Int64) (a7 : Int32) (H : jH) : Option (Unit × jH) :=
(if (40 : Int32) ≤ (a7 : Int32) then
F_16_scale_63 jfuel a0 a3 0 39 H
else
jg ((jK H a0).1 = 16) (
jg ((jK H (jR H a0 8)).1 = 100 ∧ jin (a7) (jK H (jR H a0 8)).2) (
jl (((Int32.toInt64 (jI H (jR H a0 8) (a7 : Int32).toNatClampNeg)) * a1) + a5) fun x5 =>
jg ((jK H a0).1 = 16) (
jg (¬ (256 : Int64) = 0) (
jg ((jK H (jR H a0 8)).1 = 100 ∧ jF0 ≤ (jR H a0 8) ∧ jin (a7) (jK H (jR H a0 8)).2) (
jl (jsI H (jR H a0 8) (a7 : Int32).toNatClampNeg (Int64.toInt32 (jremL x5 256))) fun h6 =>
jg (¬ (256 : Int64) = 0) (
jl (x5 / 256) fun x7 =>
jl (a7 + 1) fun x8 =>
k6 a0 a1 a3 x7 x8 h6)))))))
def F_16_scale_6  : Nat → Nat → Int64 → Int64 → Int64 → Int32 → jH → Option (Unit × jH)
  | 0 => fun _ _ _ _ _ _ => none
  | n + 1 => fun a0 a1 a3 a5 a7 H => B_16_scale_6 (F_16_scale_6  n) a0 a1 a3 a5 a7 H
def F_16_scale (a0 : Nat) (a1 : Int64) (a3 : Int64) (H : jH) : Option (Unit × jH) :=
F_16_scale_6 jfuel a0 a1 a3 0 0 H
def B_16_must_152  (s0 : Int64) (H : jH) : Option (Int64 × jH) :=
some (s0, H)
def B_16_must_89  (a0 : Nat) (a1 : Int32) (s0 : Int64) (H : jH) : Option (Int64 × jH) :=
jg ((jK H a0).1 = 16) (
jg ((jK H (jR H a0 5)).1 = 103 ∧ jin (a1) (jK H (jR H a0 5)).2) (
jg ((jK H a0).1 = 16) (
jb (F_16_open (jL H (jR H a0 5) (a1 : Int32).toNatClampNeg) (jR H a0 8) H) fun x1 h2 =>
jg ((jK h2 a0).1 = 16) (
jb (F_16_scale a0 s0 4800 h2) fun x3 h4 =>
jg ((jK h4 a0).1 = 16) (
jb (F_16_open 545259519 (jR h4 a0 9) h4) fun x5 h6 =>
jg ((jK h6 a0).1 = 16) (
jg ((jK h6 a0).1 = 16) (
jb (F_16_compareRows (jR h6 a0 8) (jR h6 a0 9) h6) fun x7 h8 =>
(if (x7 : Int32) ≤ 0 then
jg ((jK h8 a0).1 = 16) (
jb (F_16_compactOf (jR h8 a0 8) h8) fun x9 h10 =>
B_16_must_152 x9 h10)
else
jg ((jK h8 a0).1 = 16) (
jb (F_16_compactOf (jR h8 a0 9) h8) fun x11 h12 =>
B_16_must_152 x11 h12)))))))))
def F_16_must (a0 : Nat) (a1 : Int32) (H : jH) : Option (Int64 × jH) :=
jg ((jK H a0).1 = 16) (
jb (F_16_isBlock a0 a1 H) fun x13 h14 =>
(if ¬ (x13 : Int32) = 0 then
jg ((jK h14 a0).1 = 16) (
jg ((jK h14 (jR h14 a0 3)).1 = 100 ∧ jin (a1) (jK h14 (jR h14 a0 3)).2) (
jg (¬ (8 : Int32) = 0) (
(if ((jrem ((jI h14 (jR h14 a0 3) (a1 : Int32).toNatClampNeg) + 1) 8) : Int32) = 0 then
jg ((jK h14 a0).1 = 16) (
jg ((jK h14 (jR h14 a0 4)).1 = 103 ∧ jin (a1) (jK h14 (jR h14 a0 4)).2) (
jg ((jK h14 a0).1 = 16) (
jg ((jK h14 a0).1 = 16) (
jg ((jK h14 (jR h14 a0 3)).1 = 100 ∧ jin (a1) (jK h14 (jR h14 a0 3)).2) (
jg ((jK h14 a0).1 = 16) (
jb (F_16_below a0 a1 ((jI h14 (jR h14 a0 3) (a1 : Int32).toNatClampNeg) - 7) h14) fun x15 h16 =>
jg ((jK h16 (jR h14 a0 4)).1 = 103 ∧ jin (x15) (jK h16 (jR h14 a0 4)).2) (
jl ((jL h14 (jR h14 a0 4) (a1 : Int32).toNatClampNeg) - (jL h16 (jR h14 a0 4) (x15 : Int32).toNatClampNeg)) fun x17 =>
(if 1200 ≤ (x17 : Int64) then
(if (x17 : Int64) ≤ 19200 then
B_16_must_89 a0 a1 x17 h16
else
B_16_must_89 a0 a1 19200 h16)
else
B_16_must_89 a0 a1 1200 h16))))))))
else
jg ((jK h14 a0).1 = 16) (
jg ((jK h14 (jR h14 a0 5)).1 = 103 ∧ jin (a1) (jK h14 (jR h14 a0 5)).2) (
some ((jL h14 (jR h14 a0 5) (a1 : Int32).toNatClampNeg), h14)))))))
else
some ((-1), h14)))
def B_16_add_54   (H : jH) : Option (Int32 × jH) :=
some ((-4), H)
def F_16_add (a0 : Nat) (a1 : Int32) (a2 : Int64) (a4 : Int64) (H : jH) : Option (Int32 × jH) :=
jg ((jK H a0).1 = 16) (
jb (F_16_isBlock a0 a1 H) fun x1 h2 =>
(if ¬ (x1 : Int32) = 0 then
jg ((jK h2 a0).1 = 16) (
jg ((jK h2 (jR h2 a0 6)).1 = 102 ∧ jin (a1) (jK h2 (jR h2 a0 6)).2) (
(if ((jI h2 (jR h2 a0 6) (a1 : Int32).toNatClampNeg) : Int32) = 0 then
jg ((jK h2 a0).1 = 16) (
jb (F_16_must a0 a1 h2) fun x3 h4 =>
(if (a4 : Int64) = x3 then
(if 4294967295 < (a2 : Int64) then
B_16_add_54 h4
else
jg ((jK h4 a0).1 = 16) (
jb (F_16_median a0 a1 h4) fun x5 h6 =>
(if x5 < (a2 : Int64) then
jg ((jK h6 a0).1 = 16) (
jg ((jK h6 a0).1 = 16) (
(if ¬ ((jI h6 a0 1) : Int32) = ((jI h6 a0 0) : Int32) then
jg ((jK h6 a0).1 = 16) (
jb (F_16_join a0 a1 a2 a4 h6) fun x7 h8 =>
jg ((jK h8 a0).1 = 16) (
some (((jI h8 a0 1) - 1), h8)))
else
some ((-5), h6))))
else
B_16_add_54 h6)))
else
some ((-3), h4)))
else
some ((-2), h2))))
else
some ((-1), h2)))
def B_18_arrives_393  (s0 : Int32) (H : jH) : Option (Int32 × jH) :=
some (s0, H)
def B_18_arrives_352  (a0 : Nat) (a7 : Int32) (H : jH) : Option (Int32 × jH) :=
jg ((jK H a0).1 = 18) (
jg ((jK H (jR H a0 3)).1 = 16) (
jb (F_16_look (jR H a0 3) a7 4 H) fun x1 h2 =>
(if ¬ (x1 : Int64) = 0 then
jg ((jK h2 a0).1 = 18) (
jg ((jK h2 (jR h2 a0 10)).1 = 100 ∧ jin (a7) (jK h2 (jR h2 a0 10)).2) (
(if ((jI h2 (jR h2 a0 10) (a7 : Int32).toNatClampNeg) : Int32) ≤ 0 then
B_18_arrives_393 22 h2
else
jg ((jK h2 a0).1 = 18) (
jg ((jK h2 (jR h2 a0 10)).1 = 100 ∧ jin (a7) (jK h2 (jR h2 a0 10)).2) (
B_18_arrives_393 (jI h2 (jR h2 a0 10) (a7 : Int32).toNatClampNeg) h2)))))
else
B_18_arrives_393 0 h2)))
def B_18_arrives_280 (k280 : Nat → Int32 → Int32 → Int32 → jH → Option (Int32 × jH)) (a0 : Nat) (a1 : Int32) (a7 : Int32) (a8 : Int32) (H : jH) : Option (Int32 × jH) :=
jg ((jK H a0).1 = 18) (
(if ((32 * (jI H a0 14)) : Int32) ≤ (a8 : Int32) then
jg ((jK H a0).1 = 18) (
jg ((jK H (jR H a0 7)).1 = 100 ∧ jF0 ≤ (jR H a0 7) ∧ jin (a7) (jK H (jR H a0 7)).2) (
jl (jsI H (jR H a0 7) (a7 : Int32).toNatClampNeg a1) fun h3 =>
jg ((jK h3 a0).1 = 18) (
jl (jI h3 a0 13) fun x4 =>
jg ((jK h3 a0).1 = 18) (
jb (F_18_choose a0 h3) fun x5 h6 =>
jg ((jK h6 a0).1 = 18) (
(if ((jI h6 a0 13) : Int32) = (x4 : Int32) then
B_18_arrives_352 a0 a7 h6
else
jg ((jK h6 a0).1 = 18) (
jb (F_18_renew a0 x4 h6) fun x7 h8 =>
B_18_arrives_352 a0 a7 h8)))))))
else
jg ((jK H a0).1 = 18) (
jg ((jK H a0).1 = 18) (
jg ((jK H (jR H a0 12)).1 = 101 ∧ jin (a8) (jK H (jR H a0 12)).2) (
jg ((jK H (jR H a0 11)).1 = 101 ∧ jin (((384 * a7) + a8)) (jK H (jR H a0 11)).2) (
jl (jsB H (jR H a0 11) (((384 * a7) + a8) : Int32).toNatClampNeg (jbu (jbs (jB H (jR H a0 12) (a8 : Int32).toNatClampNeg)))) fun h9 =>
jl (a8 + 1) fun x10 =>
k280 a0 a1 a7 x10 h9))))))
def F_18_arrives_280  : Nat → Nat → Int32 → Int32 → Int32 → jH → Option (Int32 × jH)
  | 0 => fun _ _ _ _ _ => none
  | n + 1 => fun a0 a1 a7 a8 H => B_18_arrives_280 (F_18_arrives_280  n) a0 a1 a7 a8 H
def B_18_arrives_244 (k244 : Nat → Int32 → Int32 → Int32 → jH → Option (Int32 × jH)) (a0 : Nat) (a1 : Int32) (a7 : Int32) (a8 : Int32) (H : jH) : Option (Int32 × jH) :=
(if (32 : Int32) ≤ (a8 : Int32) then
F_18_arrives_280 jfuel a0 a1 a7 0 H
else
jg ((jK H a0).1 = 18) (
jg ((jK H a0).1 = 18) (
jg ((jK H (jR H a0 49)).1 = 101 ∧ jin (a8) (jK H (jR H a0 49)).2) (
jg ((jK H (jR H a0 8)).1 = 101 ∧ jin (((32 * a7) + a8)) (jK H (jR H a0 8)).2) (
jl (jsB H (jR H a0 8) (((32 * a7) + a8) : Int32).toNatClampNeg (jbu (jbs (jB H (jR H a0 49) (a8 : Int32).toNatClampNeg)))) fun h11 =>
jl (a8 + 1) fun x12 =>
k244 a0 a1 a7 x12 h11)))))
def F_18_arrives_244  : Nat → Nat → Int32 → Int32 → Int32 → jH → Option (Int32 × jH)
  | 0 => fun _ _ _ _ _ => none
  | n + 1 => fun a0 a1 a7 a8 H => B_18_arrives_244 (F_18_arrives_244  n) a0 a1 a7 a8 H
def B_18_arrives_206 (k206 : Nat → Int32 → Int32 → Int32 → jH → Option (Int32 × jH)) (a0 : Nat) (a1 : Int32) (a7 : Int32) (a8 : Int32) (H : jH) : Option (Int32 × jH) :=
(if (a1 : Int32) ≤ (a8 : Int32) then
F_18_arrives_244 jfuel a0 a1 a7 0 H
else
jg ((jK H a0).1 = 18) (
jg ((jK H a0).1 = 18) (
jg ((jK H (jR H a0 47)).1 = 101 ∧ jin ((1 + a8)) (jK H (jR H a0 47)).2) (
jg ((jK H (jR H a0 6)).1 = 101 ∧ jin (((2000 * a7) + a8)) (jK H (jR H a0 6)).2) (
jl (jsB H (jR H a0 6) (((2000 * a7) + a8) : Int32).toNatClampNeg (jbu (jbs (jB H (jR H a0 47) ((1 + a8) : Int32).toNatClampNeg)))) fun h13 =>
jl (a8 + 1) fun x14 =>
k206 a0 a1 a7 x14 h13)))))
def F_18_arrives_206  : Nat → Nat → Int32 → Int32 → Int32 → jH → Option (Int32 × jH)
  | 0 => fun _ _ _ _ _ => none
  | n + 1 => fun a0 a1 a7 a8 H => B_18_arrives_206 (F_18_arrives_206  n) a0 a1 a7 a8 H
def F_18_arrives (a0 : Nat) (a1 : Int32) (H : jH) : Option (Int32 × jH) :=
jg ((jK H a0).1 = 18) (
jg ((jK H a0).1 = 18) (
jb (F_18_open a0 (jR H a0 47) 1 a1 H) fun x15 h16 =>
(if ¬ (x15 : Int32) = 0 then
jg ((jK h16 a0).1 = 18) (
jg ((jK h16 a0).1 = 18) (
jg ((jK h16 a0).1 = 18) (
jg ((jK h16 (jR h16 a0 0)).1 = 12) (
jb (F_12_name (jR h16 a0 0) (jR h16 a0 47) 1 80 (jR h16 a0 49) 0 h16) fun x17 h18 =>
jg ((jK h18 a0).1 = 18) (
jg ((jK h18 a0).1 = 18) (
jb (F_18_known a0 (jR h18 a0 49) 0 h18) fun x19 h20 =>
(if (x19 : Int32) < 0 then
jg ((jK h20 a0).1 = 18) (
jg ((jK h20 a0).1 = 18) (
jb (F_18_known a0 (jR h20 a0 47) 5 h20) fun x21 h22 =>
(if 0 ≤ (x21 : Int32) then
jg ((jK h22 a0).1 = 18) (
jg ((jK h22 (jR h22 a0 3)).1 = 16) (
jb (F_16_look (jR h22 a0 3) x21 4 h22) fun x23 h24 =>
(if ¬ (x23 : Int64) = 1 then
jg ((jK h24 a0).1 = 18) (
jb (F_18_head a0 72 4 h24) fun x25 h26 =>
jg ((jK h26 a0).1 = 18) (
jb (F_18_head a0 68 4 h26) fun x27 h28 =>
jg ((jK h28 a0).1 = 18) (
jg ((jK h28 (jR h28 a0 3)).1 = 16) (
jb (F_16_must (jR h28 a0 3) x21 h28) fun x29 h30 =>
(if (x25 : Int64) = x29 then
jg ((jK h30 a0).1 = 18) (
jg ((jK h30 (jR h30 a0 3)).1 = 16) (
jb (F_16_median (jR h30 a0 3) x21 h30) fun x31 h32 =>
(if x31 < (x27 : Int64) then
jg ((jK h32 a0).1 = 18) (
jb (F_18_isAbove a0 x25 h32) fun x33 h34 =>
(if (x33 : Int32) = 0 then
jg ((jK h34 a0).1 = 18) (
jb (F_18_isFramed a0 h34) fun x35 h36 =>
(if ¬ (x35 : Int32) = 0 then
jg ((jK h36 a0).1 = 18) (
jb (F_18_isRooted a0 h36) fun x37 h38 =>
(if ¬ (x37 : Int32) = 0 then
jg ((jK h38 a0).1 = 18) (
jb (F_18_isFaulty a0 h38) fun x39 h40 =>
(if (x39 : Int32) = 0 then
jg ((jK h40 a0).1 = 18) (
jg ((jK h40 (jR h40 a0 3)).1 = 16) (
jb (F_16_size (jR h40 a0 3) h40) fun x41 h42 =>
(if ¬ (x41 : Int32) = (300 : Int32) then
jg ((jK h42 a0).1 = 18) (
jg ((jK h42 (jR h42 a0 3)).1 = 16) (
jb (F_16_add (jR h42 a0 3) x21 x27 x25 h42) fun x43 h44 =>
F_18_arrives_206 jfuel a0 a1 x43 0 h44))
else
some (30, h42))))
else
some (28, h40)))
else
some (27, h38)))
else
some (26, h36)))
else
some (25, h34)))
else
some (24, h32))))
else
some (23, h30))))))
else
some (22, h24))))
else
some (21, h22))))
else
some (20, h20))))))))
else
some (1, h16))))
def F_18_put (a0 : Nat) (a1 : Int32) (H : jH) : Option (Unit × jH) :=
jg ((jK H a0).1 = 18) (
jg ((jK H a0).1 = 18) (
jg ((jK H (jR H a0 55)).1 = 101 ∧ jin ((jI H a0 56)) (jK H (jR H a0 55)).2) (
jl (jsB H (jR H a0 55) ((jI H a0 56) : Int32).toNatClampNeg (jbu (ji2b a1))) fun h1 =>
jg ((jK h1 a0).1 = 18) (
jg ((jK h1 a0).1 = 18) (
jl (jsI h1 a0 56 ((jI h1 a0 56) + 1)) fun h2 =>
some ((), h2))))))
def B_18_copy_3 (k3 : Nat → Nat → Int32 → Int32 → Int32 → jH → Option (Unit × jH)) (a0 : Nat) (a1 : Nat) (a2 : Int32) (a3 : Int32) (a4 : Int32) (H : jH) : Option (Unit × jH) :=
(if (a3 : Int32) ≤ (a4 : Int32) then
some ((), H)
else
jg ((jK H a1).1 = 101 ∧ jin ((a2 + a4)) (jK H a1).2) (
jg ((jK H a0).1 = 18) (
jb (F_18_put a0 (jbs (jB H a1 ((a2 + a4) : Int32).toNatClampNeg)) H) fun x1 h2 =>
jl (a4 + 1) fun x3 =>
k3 a0 a1 a2 a3 x3 h2)))
def F_18_copy_3  : Nat → Nat → Nat → Int32 → Int32 → Int32 → jH → Option (Unit × jH)
  | 0 => fun _ _ _ _ _ _ => none
  | n + 1 => fun a0 a1 a2 a3 a4 H => B_18_copy_3 (F_18_copy_3  n) a0 a1 a2 a3 a4 H
def F_18_copy (a0 : Nat) (a1 : Nat) (a2 : Int32) (a3 : Int32) (H : jH) : Option (Unit × jH) :=
F_18_copy_3 jfuel a0 a1 a2 a3 0 H
def F_18_begin (a0 : Nat) (a1 : Int32) (H : jH) : Option (Unit × jH) :=
jg ((jK H a0).1 = 18) (
jl (jsI H a0 56 0) fun h1 =>
jg ((jK h1 a0).1 = 18) (
jb (F_18_put a0 a1 h1) fun x2 h3 =>
some ((), h3)))
def B_18_tell_63 (k63 : Nat → Int32 → Int32 → Int32 → jH → Option (Unit × jH)) (a0 : Nat) (a1 : Int32) (a2 : Int32) (a3 : Int32) (H : jH) : Option (Unit × jH) :=
jg ((jK H a0).1 = 18) (
(if ((jI H a0 56) : Int32) ≤ (a3 : Int32) then
jg ((jK H a0).1 = 18) (
jg ((jK H (jR H a0 54)).1 = 100 ∧ jin (a1) (jK H (jR H a0 54)).2) (
jg ((jK H a0).1 = 18) (
jg ((jK H (jR H a0 54)).1 = 100 ∧ jF0 ≤ (jR H a0 54) ∧ jin (a1) (jK H (jR H a0 54)).2) (
jl (jsI H (jR H a0 54) (a1 : Int32).toNatClampNeg ((jI H (jR H a0 54) (a1 : Int32).toNatClampNeg) + (2 + (jI H a0 56)))) fun h1 =>
some ((), h1)))))
else
jg ((jK H a0).1 = 18) (
jg ((jK H a0).1 = 18) (
jg ((jK H (jR H a0 55)).1 = 101 ∧ jin (a3) (jK H (jR H a0 55)).2) (
jg ((jK H (jR H a0 53)).1 = 101 ∧ jin (((((8000 * a1) + a2) + 2) + a3)) (jK H (jR H a0 53)).2) (
jl (jsB H (jR H a0 53) (((((8000 * a1) + a2) + 2) + a3) : Int32).toNatClampNeg (jbu (jbs (jB H (jR H a0 55) (a3 : Int32).toNatClampNeg)))) fun h2 =>
jl (a3 + 1) fun x3 =>
k63 a0 a1 a2 x3 h2))))))
def F_18_tell_63  : Nat → Nat → Int32 → Int32 → Int32 → jH → Option (Unit × jH)
  | 0 => fun _ _ _ _ _ => none
  | n + 1 => fun a0 a1 a2 a3 H => B_18_tell_63 (F_18_tell_63  n) a0 a1 a2 a3 H
def F_18_tell (a0 : Nat) (a1 : Int32) (H : jH) : Option (Unit × jH) :=
jg ((jK H a0).1 = 18) (
jg ((jK H (jR H a0 54)).1 = 100 ∧ jin (a1) (jK H (jR H a0 54)).2) (
jl (jI H (jR H a0 54) (a1 : Int32).toNatClampNeg) fun x4 =>
jg ((jK H a0).1 = 18) (
(if (((x4 + 2) + (jI H a0 56)) : Int32) ≤ (8000 : Int32) then
jg ((jK H a0).1 = 18) (
jg ((jK H a0).1 = 18) (
jg ((jK H (jR H a0 53)).1 = 101 ∧ jin (((8000 * a1) + x4)) (jK H (jR H a0 53)).2) (
jl (jsB H (jR H a0 53) (((8000 * a1) + x4) : Int32).toNatClampNeg (jbu (ji2b (jshr (jI H a0 56) 8)))) fun h5 =>
jg ((jK h5 a0).1 = 18) (
jg ((jK h5 a0).1 = 18) (
jg ((jK h5 (jR h5 a0 53)).1 = 101 ∧ jin ((((8000 * a1) + x4) + 1)) (jK h5 (jR h5 a0 53)).2) (
jl (jsB h5 (jR h5 a0 53) ((((8000 * a1) + x4) + 1) : Int32).toNatClampNeg (jbu (ji2b (jI h5 a0 56)))) fun h6 =>
F_18_tell_63 jfuel a0 a1 x4 0 h6))))))
else
some ((), H)))))
def B_18_verdict_38 (k14 : Nat → Int32 → Int32 → Nat → Int32 → Int32 → jH → Option (Unit × jH)) (a0 : Nat) (a1 : Int32) (a2 : Int32) (a3 : Nat) (a4 : Int32) (a5 : Int32) (s0 : Nat) (s1 : Int32) (H : jH) : Option (Unit × jH) :=
jg ((jK H s0).1 = 18) (
jb (F_18_put s0 s1 H) fun x1 h2 =>
jl (a5 + 1) fun x3 =>
k14 a0 a1 a2 a3 a4 x3 h2)
def B_18_verdict_14 (k14 : Nat → Int32 → Int32 → Nat → Int32 → Int32 → jH → Option (Unit × jH)) (a0 : Nat) (a1 : Int32) (a2 : Int32) (a3 : Nat) (a4 : Int32) (a5 : Int32) (H : jH) : Option (Unit × jH) :=
(if (32 : Int32) ≤ (a5 : Int32) then
jg ((jK H a0).1 = 18) (
jb (F_18_tell a0 a1 H) fun x4 h5 =>
some ((), h5))
else
(if ¬ (a2 : Int32) = (1 : Int32) then
jg ((jK H a3).1 = 101 ∧ jin ((a4 + a5)) (jK H a3).2) (
B_18_verdict_38 k14 a0 a1 a2 a3 a4 a5 a0 (jbs (jB H a3 ((a4 + a5) : Int32).toNatClampNeg)) H)
else
B_18_verdict_38 k14 a0 a1 a2 a3 a4 a5 a0 0 H))
def F_18_verdict_14  : Nat → Nat → Int32 → Int32 → Nat → Int32 → Int32 → jH → Option (Unit × jH)
  | 0 => fun _ _ _ _ _ _ _ => none
  | n + 1 => fun a0 a1 a2 a3 a4 a5 H => B_18_verdict_14 (F_18_verdict_14  n) a0 a1 a2 a3 a4 a5 H
def F_18_verdict (a0 : Nat) (a1 : Int32) (a2 : Int32) (a3 : Nat) (a4 : Int32) (H : jH) : Option (Unit × jH) :=
jg ((jK H a0).1 = 18) (
jb (F_18_begin a0 8 H) fun x6 h7 =>
jg ((jK h7 a0).1 = 18) (
jb (F_18_put a0 a2 h7) fun x8 h9 =>
F_18_verdict_14 jfuel a0 a1 a2 a3 a4 0 h9))
def B_18_tellOthers_46 (k28 : Nat → Int32 → Int32 → jH → Option (Unit × jH)) (a0 : Nat) (a1 : Int32) (a5 : Int32) (H : jH) : Option (Unit × jH) :=
jl (a5 + 1) fun x1 =>
k28 a0 a1 x1 H
def B_18_tellOthers_28 (k28 : Nat → Int32 → Int32 → jH → Option (Unit × jH)) (a0 : Nat) (a1 : Int32) (a5 : Int32) (H : jH) : Option (Unit × jH) :=
(if (4 : Int32) ≤ (a5 : Int32) then
some ((), H)
else
(if (a5 : Int32) = (a1 : Int32) then
B_18_tellOthers_46 k28 a0 a1 a5 H
else
jg ((jK H a0).1 = 18) (
jb (F_18_tell a0 a5 H) fun x2 h3 =>
B_18_tellOthers_46 k28 a0 a1 a5 h3)))
def F_18_tellOthers_28  : Nat → Nat → Int32 → Int32 → jH → Option (Unit × jH)
  | 0 => fun _ _ _ _ => none
  | n + 1 => fun a0 a1 a5 H => B_18_tellOthers_28 (F_18_tellOthers_28  n) a0 a1 a5 H
def F_18_tellOthers (a0 : Nat) (a1 : Int32) (a2 : Int32) (a3 : Nat) (a4 : Int32) (H : jH) : Option (Unit × jH) :=
jg ((jK H a0).1 = 18) (
jb (F_18_begin a0 6 H) fun x4 h5 =>
jg ((jK h5 a0).1 = 18) (
jb (F_18_put a0 1 h5) fun x6 h7 =>
jg ((jK h7 a0).1 = 18) (
jb (F_18_put a0 a2 h7) fun x8 h9 =>
jg ((jK h9 a0).1 = 18) (
jb (F_18_copy a0 a3 a4 32 h9) fun x10 h11 =>
F_18_tellOthers_28 jfuel a0 a1 0 h11))))
def B_16_row_12   (H : jH) : Option (Int32 × jH) :=
some ((-1), H)
def B_16_row_71 (k27 : Nat → Int32 → Int32 → Int32 → Int32 → Int32 → jH → Option (Int32 × jH)) (a0 : Nat) (a1 : Int32) (a2 : Int32) (a4 : Int32) (a5 : Int32) (s0 : Int32) (H : jH) : Option (Int32 × jH) :=
jl (a5 + 1) fun x1 =>
k27 a0 a1 a2 s0 a4 x1 H
def B_16_row_54 (k27 : Nat → Int32 → Int32 → Int32 → Int32 → Int32 → jH → Option (Int32 × jH)) (a0 : Nat) (a1 : Int32) (a2 : Int32) (a3 : Int32) (a5 : Int32) (s0 : Int32) (H : jH) : Option (Int32 × jH) :=
(if 0 ≤ ((a3 - s0) : Int32) then
B_16_row_71 k27 a0 a1 a2 s0 a5 (a3 - s0) H
else
B_16_row_71 k27 a0 a1 a2 s0 a5 0 H)
def B_16_row_27 (k27 : Nat → Int32 → Int32 → Int32 → Int32 → Int32 → jH → Option (Int32 × jH)) (a0 : Nat) (a1 : Int32) (a2 : Int32) (a3 : Int32) (a4 : Int32) (a5 : Int32) (H : jH) : Option (Int32 × jH) :=
(if (a2 : Int32) ≤ (a5 : Int32) then
jg ((jK H a0).1 = 16) (
jb (F_16_below a0 a1 a3 H) fun x2 h3 =>
some (x2, h3))
else
(if ¬ (a3 : Int32) = 0 then
(if (9 : Int32) ≤ (a5 : Int32) then
B_16_row_54 k27 a0 a1 a2 a3 a5 (2 * a4) H
else
B_16_row_54 k27 a0 a1 a2 a3 a5 1 H)
else
some ((-1), H)))
def F_16_row_27  : Nat → Nat → Int32 → Int32 → Int32 → Int32 → Int32 → jH → Option (Int32 × jH)
  | 0 => fun _ _ _ _ _ _ _ => none
  | n + 1 => fun a0 a1 a2 a3 a4 a5 H => B_16_row_27 (F_16_row_27  n) a0 a1 a2 a3 a4 a5 H
def F_16_row (a0 : Nat) (a1 : Int32) (a2 : Int32) (H : jH) : Option (Int32 × jH) :=
jg ((jK H a0).1 = 16) (
jb (F_16_isBlock a0 a1 H) fun x4 h5 =>
(if (x4 : Int32) = 0 then
B_16_row_12 h5
else
(if 0 ≤ (a2 : Int32) then
jg ((jK h5 a0).1 = 16) (
jg ((jK h5 (jR h5 a0 3)).1 = 100 ∧ jin (a1) (jK h5 (jR h5 a0 3)).2) (
jl (jI h5 (jR h5 a0 3) (a1 : Int32).toNatClampNeg) fun x6 =>
F_16_row_27 jfuel a0 a1 a2 x6 1 0 h5))
else
B_16_row_12 h5)))
def B_18_askBehind_25 (k25 : Nat → Int32 → Int32 → Int32 → jH → Option (Unit × jH)) (a0 : Nat) (a1 : Int32) (a2 : Int32) (a3 : Int32) (H : jH) : Option (Unit × jH) :=
(if (a3 : Int32) < 0 then
jg ((jK H a0).1 = 18) (
jg ((jK H (jR H a0 55)).1 = 101 ∧ jin (1) (jK H (jR H a0 55)).2) (
jl (jsB H (jR H a0 55) (1 : Int32).toNatClampNeg (jbu (ji2b a2))) fun h1 =>
jg ((jK h1 a0).1 = 18) (
jb (F_18_tell a0 a1 h1) fun x2 h3 =>
some ((), h3))))
else
jg ((jK H a0).1 = 18) (
jg ((jK H a0).1 = 18) (
jb (F_18_copy a0 (jR H a0 8) (32 * a3) 32 H) fun x4 h5 =>
jl (a2 + 1) fun x6 =>
jg ((jK h5 a0).1 = 18) (
jg ((jK h5 a0).1 = 18) (
jg ((jK h5 (jR h5 a0 3)).1 = 16) (
jb (F_16_row (jR h5 a0 3) (jI h5 a0 13) x6 h5) fun x7 h8 =>
k25 a0 a1 x6 x7 h8))))))
def F_18_askBehind_25  : Nat → Nat → Int32 → Int32 → Int32 → jH → Option (Unit × jH)
  | 0 => fun _ _ _ _ _ => none
  | n + 1 => fun a0 a1 a2 a3 H => B_18_askBehind_25 (F_18_askBehind_25  n) a0 a1 a2 a3 H
def F_18_askBehind (a0 : Nat) (a1 : Int32) (H : jH) : Option (Unit × jH) :=
jg ((jK H a0).1 = 18) (
jb (F_18_begin a0 3 H) fun x9 h10 =>
jg ((jK h10 a0).1 = 18) (
jb (F_18_put a0 0 h10) fun x11 h12 =>
jg ((jK h12 a0).1 = 18) (
jg ((jK h12 a0).1 = 18) (
jg ((jK h12 (jR h12 a0 3)).1 = 16) (
jb (F_16_row (jR h12 a0 3) (jI h12 a0 13) 0 h12) fun x13 h14 =>
F_18_askBehind_25 jfuel a0 a1 0 x13 h14)))))
def B_18_heads_66 (k7 : Nat → Int32 → Int32 → Int32 → jH → Option (Unit × jH)) (a0 : Nat) (a1 : Int32) (a4 : Int32) (s0 : Int32) (H : jH) : Option (Unit × jH) :=
jl (a4 + (-1)) fun x1 =>
k7 a0 a1 s0 x1 H
def B_18_heads_65 (k7 : Nat → Int32 → Int32 → Int32 → jH → Option (Unit × jH)) (a0 : Nat) (a1 : Int32) (a3 : Int32) (a4 : Int32) (H : jH) : Option (Unit × jH) :=
B_18_heads_66 k7 a0 a1 a4 a3 H
def B_18_heads_121 (k121 : Nat → Int32 → Int32 → Int32 → Int32 → jH → Option (Unit × jH)) (a0 : Nat) (a1 : Int32) (a3 : Int32) (a4 : Int32) (a5 : Int32) (H : jH) : Option (Unit × jH) :=
(if ((a3 + a4) : Int32) < (a5 : Int32) then
jg ((jK H a0).1 = 18) (
jb (F_18_tell a0 a1 H) fun x2 h3 =>
some ((), h3))
else
jg ((jK H a0).1 = 18) (
jg ((jK H a0).1 = 18) (
jg ((jK H a0).1 = 18) (
jg ((jK H (jR H a0 3)).1 = 16) (
jb (F_16_below (jR H a0 3) (jI H a0 13) a5 H) fun x4 h5 =>
jg ((jK h5 a0).1 = 18) (
jb (F_18_copy a0 (jR H a0 6) (2000 * x4) 80 h5) fun x6 h7 =>
jl (a5 + 1) fun x8 =>
k121 a0 a1 a3 a4 x8 h7))))))
def F_18_heads_121  : Nat → Nat → Int32 → Int32 → Int32 → Int32 → jH → Option (Unit × jH)
  | 0 => fun _ _ _ _ _ _ => none
  | n + 1 => fun a0 a1 a3 a4 a5 H => B_18_heads_121 (F_18_heads_121  n) a0 a1 a3 a4 a5 H
def B_18_heads_103  (a0 : Nat) (a1 : Int32) (a3 : Int32) (s0 : Int32) (H : jH) : Option (Unit × jH) :=
jg ((jK H a0).1 = 18) (
jb (F_18_begin a0 5 H) fun x9 h10 =>
jg ((jK h10 a0).1 = 18) (
jb (F_18_put a0 s0 h10) fun x11 h12 =>
jl (a3 + 1) fun x13 =>
F_18_heads_121 jfuel a0 a1 a3 s0 x13 h12))
def B_18_heads_7 (k7 : Nat → Int32 → Int32 → Int32 → jH → Option (Unit × jH)) (a0 : Nat) (a1 : Int32) (a3 : Int32) (a4 : Int32) (H : jH) : Option (Unit × jH) :=
(if (a4 : Int32) < 0 then
jg ((jK H a0).1 = 18) (
jg ((jK H a0).1 = 18) (
jb (F_18_height a0 (jI H a0 13) H) fun x14 h15 =>
(if ((x14 - a3) : Int32) ≤ (16 : Int32) then
jg ((jK h15 a0).1 = 18) (
jg ((jK h15 a0).1 = 18) (
jb (F_18_height a0 (jI h15 a0 13) h15) fun x16 h17 =>
B_18_heads_103 a0 a1 a3 (x16 - a3) h17))
else
B_18_heads_103 a0 a1 a3 16 h15)))
else
jg ((jK H a0).1 = 18) (
jg ((jK H a0).1 = 18) (
jb (F_18_known a0 (jR H a0 47) (2 + (32 * a4)) H) fun x18 h19 =>
(if (x18 : Int32) < 0 then
B_18_heads_65 k7 a0 a1 a3 a4 h19
else
jg ((jK h19 a0).1 = 18) (
jg ((jK h19 a0).1 = 18) (
jg ((jK h19 a0).1 = 18) (
jb (F_18_height a0 x18 h19) fun x20 h21 =>
jg ((jK h21 (jR h19 a0 3)).1 = 16) (
jb (F_16_below (jR h19 a0 3) (jI h19 a0 13) x20 h21) fun x22 h23 =>
(if ¬ (x22 : Int32) = (x18 : Int32) then
B_18_heads_65 k7 a0 a1 a3 a4 h23
else
jg ((jK h23 a0).1 = 18) (
jb (F_18_height a0 x18 h23) fun x24 h25 =>
B_18_heads_66 k7 a0 a1 a4 x24 h25))))))))))
def F_18_heads_7  : Nat → Nat → Int32 → Int32 → Int32 → jH → Option (Unit × jH)
  | 0 => fun _ _ _ _ _ => none
  | n + 1 => fun a0 a1 a3 a4 H => B_18_heads_7 (F_18_heads_7  n) a0 a1 a3 a4 H
def F_18_heads (a0 : Nat) (a1 : Int32) (a2 : Int32) (H : jH) : Option (Unit × jH) :=
jl (a2 - 1) fun x26 =>
F_18_heads_7 jfuel a0 a1 0 x26 H
def B_18_give_168 (k2 : Nat → Int32 → Int32 → Int32 → jH → Option (Unit × jH)) (a0 : Nat) (a1 : Int32) (a2 : Int32) (a3 : Int32) (H : jH) : Option (Unit × jH) :=
jg ((jK H a0).1 = 18) (
jb (F_18_tell a0 a1 H) fun x1 h2 =>
jl (a3 + 1) fun x3 =>
k2 a0 a1 a2 x3 h2)
def B_18_give_150 (k2 : Nat → Int32 → Int32 → Int32 → jH → Option (Unit × jH)) (a0 : Nat) (a1 : Int32) (a2 : Int32) (a3 : Int32) (s0 : Nat) (s1 : Nat) (s2 : Int32) (s3 : Int32) (H : jH) : Option (Unit × jH) :=
jg ((jK H s0).1 = 18) (
jb (F_18_copy s0 s1 s2 s3 H) fun x4 h5 =>
B_18_give_168 k2 a0 a1 a2 a3 h5)
def B_18_give_121 (k2 : Nat → Int32 → Int32 → Int32 → jH → Option (Unit × jH)) (a0 : Nat) (a1 : Int32) (a2 : Int32) (a3 : Int32) (a5 : Int32) (a6 : Int32) (s0 : Nat) (s1 : Nat) (H : jH) : Option (Unit × jH) :=
(if ¬ (a5 : Int32) = (1 : Int32) then
jg ((jK H a0).1 = 18) (
jg ((jK H (jR H a0 7)).1 = 100 ∧ jin (a6) (jK H (jR H a0 7)).2) (
B_18_give_150 k2 a0 a1 a2 a3 s0 s1 (2000 * a6) (jI H (jR H a0 7) (a6 : Int32).toNatClampNeg) H))
else
jg ((jK H a0).1 = 18) (
jg ((jK H (jR H a0 38)).1 = 100 ∧ jin (a6) (jK H (jR H a0 38)).2) (
B_18_give_150 k2 a0 a1 a2 a3 s0 s1 (2000 * a6) (jI H (jR H a0 38) (a6 : Int32).toNatClampNeg) H)))
def B_18_give_95 (k2 : Nat → Int32 → Int32 → Int32 → jH → Option (Unit × jH)) (a0 : Nat) (a1 : Int32) (a2 : Int32) (a3 : Int32) (a4 : Int32) (a5 : Int32) (a6 : Int32) (a7 : Int32) (s0 : Nat) (s1 : Int32) (H : jH) : Option (Unit × jH) :=
jg ((jK H s0).1 = 18) (
jb (F_18_begin s0 s1 H) fun x6 h7 =>
(if (a7 : Int32) = 0 then
jg ((jK h7 a0).1 = 18) (
jg ((jK h7 a0).1 = 18) (
jb (F_18_copy a0 (jR h7 a0 47) a4 33 h7) fun x8 h9 =>
B_18_give_168 k2 a0 a1 a2 a3 h9))
else
(if ¬ (a5 : Int32) = (1 : Int32) then
jg ((jK h7 a0).1 = 18) (
B_18_give_121 k2 a0 a1 a2 a3 a5 a6 a0 (jR h7 a0 6) h7)
else
jg ((jK h7 a0).1 = 18) (
B_18_give_121 k2 a0 a1 a2 a3 a5 a6 a0 (jR h7 a0 37) h7))))
def B_18_give_80 (k2 : Nat → Int32 → Int32 → Int32 → jH → Option (Unit × jH)) (a0 : Nat) (a1 : Int32) (a2 : Int32) (a3 : Int32) (a4 : Int32) (a5 : Int32) (a6 : Int32) (s0 : Int32) (H : jH) : Option (Unit × jH) :=
(if (s0 : Int32) = 0 then
B_18_give_95 k2 a0 a1 a2 a3 a4 a5 a6 s0 a0 7 H
else
B_18_give_95 k2 a0 a1 a2 a3 a4 a5 a6 s0 a0 a5 H)
def B_18_give_75 (k2 : Nat → Int32 → Int32 → Int32 → jH → Option (Unit × jH)) (a0 : Nat) (a1 : Int32) (a2 : Int32) (a3 : Int32) (a4 : Int32) (a5 : Int32) (a6 : Int32) (H : jH) : Option (Unit × jH) :=
B_18_give_80 k2 a0 a1 a2 a3 a4 a5 a6 1 H
def B_18_give_79 (k2 : Nat → Int32 → Int32 → Int32 → jH → Option (Unit × jH)) (a0 : Nat) (a1 : Int32) (a2 : Int32) (a3 : Int32) (a4 : Int32) (a5 : Int32) (a6 : Int32) (H : jH) : Option (Unit × jH) :=
B_18_give_80 k2 a0 a1 a2 a3 a4 a5 a6 0 H
def B_18_give_57 (k2 : Nat → Int32 → Int32 → Int32 → jH → Option (Unit × jH)) (a0 : Nat) (a1 : Int32) (a2 : Int32) (a3 : Int32) (a4 : Int32) (a5 : Int32) (s0 : Int32) (H : jH) : Option (Unit × jH) :=
(if 0 < (s0 : Int32) then
B_18_give_75 k2 a0 a1 a2 a3 a4 a5 s0 H
else
(if ¬ (s0 : Int32) = 0 then
B_18_give_79 k2 a0 a1 a2 a3 a4 a5 s0 H
else
(if ¬ (a5 : Int32) = (1 : Int32) then
B_18_give_79 k2 a0 a1 a2 a3 a4 a5 s0 H
else
B_18_give_75 k2 a0 a1 a2 a3 a4 a5 s0 H)))
def B_18_give_2 (k2 : Nat → Int32 → Int32 → Int32 → jH → Option (Unit × jH)) (a0 : Nat) (a1 : Int32) (a2 : Int32) (a3 : Int32) (H : jH) : Option (Unit × jH) :=
(if (a2 : Int32) ≤ (a3 : Int32) then
some ((), H)
else
jl (2 + (33 * a3)) fun x10 =>
jg ((jK H a0).1 = 18) (
jg ((jK H (jR H a0 47)).1 = 101 ∧ jin (x10) (jK H (jR H a0 47)).2) (
jl (jbs (jB H (jR H a0 47) (x10 : Int32).toNatClampNeg)) fun x11 =>
(if ¬ (x11 : Int32) = (1 : Int32) then
jg ((jK H a0).1 = 18) (
jg ((jK H a0).1 = 18) (
jb (F_18_known a0 (jR H a0 47) (x10 + 1) H) fun x12 h13 =>
B_18_give_57 k2 a0 a1 a2 a3 x10 x11 x12 h13))
else
jg ((jK H a0).1 = 18) (
jg ((jK H a0).1 = 18) (
jb (F_18_inPool a0 (jR H a0 47) (x10 + 1) H) fun x14 h15 =>
B_18_give_57 k2 a0 a1 a2 a3 x10 x11 x14 h15))))))
def F_18_give_2  : Nat → Nat → Int32 → Int32 → Int32 → jH → Option (Unit × jH)
  | 0 => fun _ _ _ _ _ => none
  | n + 1 => fun a0 a1 a2 a3 H => B_18_give_2 (F_18_give_2  n) a0 a1 a2 a3 H
def F_18_give (a0 : Nat) (a1 : Int32) (a2 : Int32) (H : jH) : Option (Unit × jH) :=
F_18_give_2 jfuel a0 a1 a2 0 H
def B_18_want_89 (k15 : Nat → Int32 → Int32 → Int32 → Int32 → jH → Option (Unit × jH)) (a0 : Nat) (a1 : Int32) (a2 : Int32) (a3 : Int32) (a4 : Int32) (H : jH) : Option (Unit × jH) :=
jl (a4 + 1) fun x1 =>
k15 a0 a1 a2 a3 x1 H
def B_18_want_68 (k15 : Nat → Int32 → Int32 → Int32 → Int32 → jH → Option (Unit × jH)) (a0 : Nat) (a1 : Int32) (a2 : Int32) (a3 : Int32) (a4 : Int32) (a5 : Int32) (s0 : Int32) (H : jH) : Option (Unit × jH) :=
(if (s0 : Int32) < 0 then
jg ((jK H a0).1 = 18) (
jg ((jK H a0).1 = 18) (
jb (F_18_copy a0 (jR H a0 47) a5 33 H) fun x2 h3 =>
jl (a3 + 1) fun x4 =>
B_18_want_89 k15 a0 a1 a2 x4 a4 h3))
else
B_18_want_89 k15 a0 a1 a2 a3 a4 H)
def B_18_want_112   (H : jH) : Option (Unit × jH) :=
some ((), H)
def B_18_want_15 (k15 : Nat → Int32 → Int32 → Int32 → Int32 → jH → Option (Unit × jH)) (a0 : Nat) (a1 : Int32) (a2 : Int32) (a3 : Int32) (a4 : Int32) (H : jH) : Option (Unit × jH) :=
(if (a2 : Int32) ≤ (a4 : Int32) then
jg ((jK H a0).1 = 18) (
jg ((jK H (jR H a0 55)).1 = 101 ∧ jin (1) (jK H (jR H a0 55)).2) (
jl (jsB H (jR H a0 55) (1 : Int32).toNatClampNeg (jbu (ji2b a3))) fun h5 =>
(if (a3 : Int32) ≤ 0 then
B_18_want_112 h5
else
jg ((jK h5 a0).1 = 18) (
jb (F_18_tell a0 a1 h5) fun x6 h7 =>
B_18_want_112 h7))))
else
jl (2 + (33 * a4)) fun x8 =>
jg ((jK H a0).1 = 18) (
jg ((jK H (jR H a0 47)).1 = 101 ∧ jin (x8) (jK H (jR H a0 47)).2) (
(if ¬ ((jbs (jB H (jR H a0 47) (x8 : Int32).toNatClampNeg)) : Int32) = (1 : Int32) then
jg ((jK H a0).1 = 18) (
jg ((jK H a0).1 = 18) (
jb (F_18_known a0 (jR H a0 47) (x8 + 1) H) fun x9 h10 =>
B_18_want_68 k15 a0 a1 a2 a3 a4 x8 x9 h10))
else
jg ((jK H a0).1 = 18) (
jg ((jK H a0).1 = 18) (
jb (F_18_inPool a0 (jR H a0 47) (x8 + 1) H) fun x11 h12 =>
B_18_want_68 k15 a0 a1 a2 a3 a4 x8 x11 h12))))))
def F_18_want_15  : Nat → Nat → Int32 → Int32 → Int32 → Int32 → jH → Option (Unit × jH)
  | 0 => fun _ _ _ _ _ _ => none
  | n + 1 => fun a0 a1 a2 a3 a4 H => B_18_want_15 (F_18_want_15  n) a0 a1 a2 a3 a4 H
def F_18_want (a0 : Nat) (a1 : Int32) (a2 : Int32) (H : jH) : Option (Unit × jH) :=
jg ((jK H a0).1 = 18) (
jb (F_18_begin a0 4 H) fun x13 h14 =>
jg ((jK h14 a0).1 = 18) (
jb (F_18_put a0 0 h14) fun x15 h16 =>
F_18_want_15 jfuel a0 a1 a2 0 0 h16))
def B_18_isList_40   (H : jH) : Option (Int32 × jH) :=
jg ((0 : Int32) = 0 ∨ (0 : Int32) = 1) (some (0, H))
def B_18_isList_108 (k48 : Nat → Int32 → Int32 → Int32 → jH → Option (Int32 × jH)) (a0 : Nat) (a4 : Int32) (a6 : Int32) (s0 : Int32) (H : jH) : Option (Int32 × jH) :=
jl (a6 + 1) fun x1 =>
k48 a0 a4 s0 x1 H
def B_18_isList_103 (k48 : Nat → Int32 → Int32 → Int32 → jH → Option (Int32 × jH)) (a0 : Nat) (a4 : Int32) (a6 : Int32) (H : jH) : Option (Int32 × jH) :=
B_18_isList_108 k48 a0 a4 a6 1 H
def B_18_isList_107 (k48 : Nat → Int32 → Int32 → Int32 → jH → Option (Int32 × jH)) (a0 : Nat) (a4 : Int32) (a6 : Int32) (H : jH) : Option (Int32 × jH) :=
B_18_isList_108 k48 a0 a4 a6 0 H
def B_18_isList_116  (a5 : Int32) (H : jH) : Option (Int32 × jH) :=
jg ((a5 : Int32) = 0 ∨ (a5 : Int32) = 1) (some (a5, H))
def B_18_isList_48 (k48 : Nat → Int32 → Int32 → Int32 → jH → Option (Int32 × jH)) (a0 : Nat) (a4 : Int32) (a5 : Int32) (a6 : Int32) (H : jH) : Option (Int32 × jH) :=
jg ((jK H a0).1 = 18) (
jg ((jK H (jR H a0 47)).1 = 101 ∧ jin (1) (jK H (jR H a0 47)).2) (
(if ((jbs (jB H (jR H a0 47) (1 : Int32).toNatClampNeg)) : Int32) ≤ (a6 : Int32) then
B_18_isList_116 a5 H
else
(if ¬ (a4 : Int32) = (33 : Int32) then
B_18_isList_116 a5 H
else
(if (a5 : Int32) = 0 then
B_18_isList_107 k48 a0 a4 a6 H
else
jg ((jK H a0).1 = 18) (
jg ((jK H (jR H a0 47)).1 = 101 ∧ jin ((2 + (33 * a6))) (jK H (jR H a0 47)).2) (
(if ((jbs (jB H (jR H a0 47) ((2 + (33 * a6)) : Int32).toNatClampNeg)) : Int32) = (1 : Int32) then
B_18_isList_103 k48 a0 a4 a6 H
else
jg ((jK H a0).1 = 18) (
jg ((jK H (jR H a0 47)).1 = 101 ∧ jin ((2 + (33 * a6))) (jK H (jR H a0 47)).2) (
(if ¬ ((jbs (jB H (jR H a0 47) ((2 + (33 * a6)) : Int32).toNatClampNeg)) : Int32) = (2 : Int32) then
B_18_isList_107 k48 a0 a4 a6 H
else
B_18_isList_103 k48 a0 a4 a6 H)))))))))))
def F_18_isList_48  : Nat → Nat → Int32 → Int32 → Int32 → jH → Option (Int32 × jH)
  | 0 => fun _ _ _ _ _ => none
  | n + 1 => fun a0 a4 a5 a6 H => B_18_isList_48 (F_18_isList_48  n) a0 a4 a5 a6 H
def F_18_isList (a0 : Nat) (a1 : Int32) (a2 : Int32) (a3 : Int32) (a4 : Int32) (H : jH) : Option (Int32 × jH) :=
(if (a1 : Int32) < (2 : Int32) then
B_18_isList_40 H
else
jg ((jK H a0).1 = 18) (
jg ((jK H (jR H a0 47)).1 = 101 ∧ jin (1) (jK H (jR H a0 47)).2) (
(if ((jbs (jB H (jR H a0 47) (1 : Int32).toNatClampNeg)) : Int32) < (a2 : Int32) then
B_18_isList_40 H
else
jg ((jK H a0).1 = 18) (
jg ((jK H (jR H a0 47)).1 = 101 ∧ jin (1) (jK H (jR H a0 47)).2) (
(if (a3 : Int32) < ((jbs (jB H (jR H a0 47) (1 : Int32).toNatClampNeg)) : Int32) then
B_18_isList_40 H
else
jg ((jK H a0).1 = 18) (
jg ((jK H (jR H a0 47)).1 = 101 ∧ jin (1) (jK H (jR H a0 47)).2) (
(if (a1 : Int32) = ((2 + (a4 * (jbs (jB H (jR H a0 47) (1 : Int32).toNatClampNeg)))) : Int32) then
F_18_isList_48 jfuel a0 a4 1 0 H
else
B_18_isList_40 H))))))))))
def B_18_message_272   (H : jH) : Option (Unit × jH) :=
some ((), H)
def B_18_message_55   (H : jH) : Option (Unit × jH) :=
B_18_message_272 H
def B_18_message_161   (H : jH) : Option (Unit × jH) :=
B_18_message_272 H
def B_18_message_135  (a0 : Nat) (a1 : Int32) (a4 : Int32) (H : jH) : Option (Unit × jH) :=
jg ((jK H a0).1 = 18) (
(if ((jI H a0 13) : Int32) = (a4 : Int32) then
B_18_message_161 H
else
jg ((jK H a0).1 = 18) (
jg ((jK H a0).1 = 18) (
jg ((jK H a0).1 = 18) (
jb (F_18_tellOthers a0 a1 2 (jR H a0 8) (32 * (jI H a0 13)) H) fun x1 h2 =>
B_18_message_161 h2)))))
def B_18_message_108  (a0 : Nat) (a1 : Int32) (a4 : Int32) (a5 : Int32) (H : jH) : Option (Unit × jH) :=
(if ¬ (a5 : Int32) = (21 : Int32) then
jg ((jK H a0).1 = 18) (
jg ((jK H a0).1 = 18) (
jb (F_18_verdict a0 a1 a5 (jR H a0 49) 0 H) fun x3 h4 =>
B_18_message_135 a0 a1 a4 h4))
else
jg ((jK H a0).1 = 18) (
jb (F_18_askBehind a0 a1 H) fun x5 h6 =>
B_18_message_135 a0 a1 a4 h6))
def B_18_message_89  (a0 : Nat) (a1 : Int32) (a4 : Int32) (a5 : Int32) (H : jH) : Option (Unit × jH) :=
jg ((jK H a0).1 = 18) (
jg ((jK H a0).1 = 18) (
jg ((jK H a0).1 = 18) (
jg ((jK H (jR H a0 0)).1 = 12) (
jb (F_12_name (jR H a0 0) (jR H a0 47) 1 80 (jR H a0 49) 0 H) fun x7 h8 =>
B_18_message_108 a0 a1 a4 a5 h8))))
def B_18_message_261  (a0 : Nat) (a1 : Int32) (H : jH) : Option (Unit × jH) :=
jg ((jK H a0).1 = 18) (
jg ((jK H a0).1 = 18) (
jb (F_18_verdict a0 a1 1 (jR H a0 49) 0 H) fun x9 h10 =>
B_18_message_272 h10))
def B_18_message_228  (a0 : Nat) (a1 : Int32) (a2 : Int32) (a3 : Int32) (H : jH) : Option (Unit × jH) :=
(if ¬ (a3 : Int32) = (6 : Int32) then
B_18_message_261 a0 a1 H
else
jg ((jK H a0).1 = 18) (
jb (F_18_isList a0 a2 1 8 33 H) fun x11 h12 =>
(if (x11 : Int32) = 0 then
B_18_message_261 a0 a1 h12
else
jg ((jK h12 a0).1 = 18) (
jg ((jK h12 (jR h12 a0 47)).1 = 101 ∧ jin (1) (jK h12 (jR h12 a0 47)).2) (
jg ((jK h12 a0).1 = 18) (
jb (F_18_want a0 a1 (jbs (jB h12 (jR h12 a0 47) (1 : Int32).toNatClampNeg)) h12) fun x13 h14 =>
B_18_message_272 h14))))))
def B_18_message_196  (a0 : Nat) (a1 : Int32) (a2 : Int32) (a3 : Int32) (H : jH) : Option (Unit × jH) :=
(if ¬ (a3 : Int32) = (4 : Int32) then
B_18_message_228 a0 a1 a2 a3 H
else
jg ((jK H a0).1 = 18) (
jb (F_18_isList a0 a2 1 8 33 H) fun x15 h16 =>
(if (x15 : Int32) = 0 then
B_18_message_228 a0 a1 a2 a3 h16
else
jg ((jK h16 a0).1 = 18) (
jg ((jK h16 (jR h16 a0 47)).1 = 101 ∧ jin (1) (jK h16 (jR h16 a0 47)).2) (
jg ((jK h16 a0).1 = 18) (
jb (F_18_give a0 a1 (jbs (jB h16 (jR h16 a0 47) (1 : Int32).toNatClampNeg)) h16) fun x17 h18 =>
B_18_message_272 h18))))))
def F_18_message (a0 : Nat) (a1 : Int32) (a2 : Int32) (H : jH) : Option (Unit × jH) :=
jg ((jK H a0).1 = 18) (
jg ((jK H (jR H a0 47)).1 = 101 ∧ jin (0) (jK H (jR H a0 47)).2) (
jl (jbs (jB H (jR H a0 47) (0 : Int32).toNatClampNeg)) fun x19 =>
(if ¬ (x19 : Int32) = (1 : Int32) then
(if ¬ (x19 : Int32) = (2 : Int32) then
(if ¬ (x19 : Int32) = (3 : Int32) then
B_18_message_196 a0 a1 a2 x19 H
else
jg ((jK H a0).1 = 18) (
jb (F_18_isList a0 a2 0 20 32 H) fun x20 h21 =>
(if (x20 : Int32) = 0 then
B_18_message_196 a0 a1 a2 x19 h21
else
jg ((jK h21 a0).1 = 18) (
jg ((jK h21 (jR h21 a0 47)).1 = 101 ∧ jin (1) (jK h21 (jR h21 a0 47)).2) (
jg ((jK h21 a0).1 = 18) (
jb (F_18_heads a0 a1 (jbs (jB h21 (jR h21 a0 47) (1 : Int32).toNatClampNeg)) h21) fun x22 h23 =>
B_18_message_272 h23))))))
else
jg ((jK H a0).1 = 18) (
jl (jI H a0 13) fun x24 =>
jg ((jK H a0).1 = 18) (
jb (F_18_arrives a0 (a2 - 1) H) fun x25 h26 =>
(if (1 : Int32) < (x25 : Int32) then
B_18_message_89 a0 a1 x24 x25 h26
else
(if ¬ (x25 : Int32) = 0 then
B_18_message_108 a0 a1 x24 x25 h26
else
B_18_message_89 a0 a1 x24 x25 h26)))))
else
jg ((jK H a0).1 = 18) (
jg ((jK H a0).1 = 18) (
jb (F_18_comes a0 (jR H a0 47) 1 (a2 - 1) 1 H) fun x27 h28 =>
jg ((jK h28 a0).1 = 18) (
jg ((jK h28 a0).1 = 18) (
jb (F_18_verdict a0 a1 x27 (jR h28 a0 49) 0 h28) fun x29 h30 =>
(if ¬ (x27 : Int32) = 0 then
B_18_message_55 h30
else
jg ((jK h30 a0).1 = 18) (
jg ((jK h30 a0).1 = 18) (
jb (F_18_tellOthers a0 a1 1 (jR h30 a0 49) 0 h30) fun x31 h32 =>
B_18_message_55 h32))))))))))
