def B_12_wide_358 (k84 : Nat → Nat → Int32 → Int32 → Nat → Int32 → Int32 → Int32 → jH → Option (Unit × jH)) (a0 : Nat) (a1 : Nat) (a2 : Int32) (a3 : Int32) (a4 : Nat) (a5 : Int32) (a6 : Int32) (a7 : Int32) (s0 : Nat) (s1 : Int32) (s2 : Int32) (H : jH) : Option (Unit × jH) :=
jg ((jK H s0).1 = 100 ∧ jF0 ≤ s0 ∧ jin (s1) (jK H s0).2) (
jl (jsI H s0 (s1 : Int32).toNatClampNeg s2) fun h1 =>
jl (a7 + 1) fun x2 =>
k84 a0 a1 a2 a3 a4 a5 a6 x2 h1)
def B_12_wide_231 (k84 : Nat → Nat → Int32 → Int32 → Nat → Int32 → Int32 → Int32 → jH → Option (Unit × jH)) (a0 : Nat) (a1 : Nat) (a2 : Int32) (a3 : Int32) (a4 : Nat) (a5 : Int32) (a6 : Int32) (a7 : Int32) (a8 : Int32) (H : jH) : Option (Unit × jH) :=
jg ((jK H a0).1 = 12) (
(if (16 : Int32) ≤ (a7 : Int32) then
jg ((jK H a0).1 = 12) (
jg ((jK H (jR H a0 0)).1 = 100 ∧ jin ((a7 - 2)) (jK H (jR H a0 0)).2) (
jb (F_12_right (jI H (jR H a0 0) ((a7 - 2) : Int32).toNatClampNeg) 17 H) fun x3 h4 =>
jg ((jK h4 a0).1 = 12) (
jg ((jK h4 (jR h4 a0 0)).1 = 100 ∧ jin ((a7 - 2)) (jK h4 (jR h4 a0 0)).2) (
jb (F_12_right (jI h4 (jR h4 a0 0) ((a7 - 2) : Int32).toNatClampNeg) 19 h4) fun x5 h6 =>
jg ((jK h6 a0).1 = 12) (
jg ((jK h6 (jR h6 a0 0)).1 = 100 ∧ jin ((a7 - 2)) (jK h6 (jR h6 a0 0)).2) (
jg ((jK h6 a0).1 = 12) (
jg ((jK h6 (jR h6 a0 0)).1 = 100 ∧ jin ((a7 - 7)) (jK h6 (jR h6 a0 0)).2) (
jg ((jK h6 a0).1 = 12) (
jg ((jK h6 (jR h6 a0 0)).1 = 100 ∧ jin ((a7 - 15)) (jK h6 (jR h6 a0 0)).2) (
jb (F_12_right (jI h6 (jR h6 a0 0) ((a7 - 15) : Int32).toNatClampNeg) 7 h6) fun x7 h8 =>
jg ((jK h8 a0).1 = 12) (
jg ((jK h8 (jR h8 a0 0)).1 = 100 ∧ jin ((a7 - 15)) (jK h8 (jR h8 a0 0)).2) (
jb (F_12_right (jI h8 (jR h8 a0 0) ((a7 - 15) : Int32).toNatClampNeg) 18 h8) fun x9 h10 =>
jg ((jK h10 a0).1 = 12) (
jg ((jK h10 (jR h10 a0 0)).1 = 100 ∧ jin ((a7 - 15)) (jK h10 (jR h10 a0 0)).2) (
jg ((jK h10 a0).1 = 12) (
jg ((jK h10 (jR h10 a0 0)).1 = 100 ∧ jin ((a7 - 16)) (jK h10 (jR h10 a0 0)).2) (
B_12_wide_358 k84 a0 a1 a2 a3 a4 a5 a6 a7 (jR H a0 0) a7 (((((x3 ^^^ x5) ^^^ (jushr (jI h6 (jR h6 a0 0) ((a7 - 2) : Int32).toNatClampNeg) 10)) + (jI h6 (jR h6 a0 0) ((a7 - 7) : Int32).toNatClampNeg)) + ((x7 ^^^ x9) ^^^ (jushr (jI h10 (jR h10 a0 0) ((a7 - 15) : Int32).toNatClampNeg) 3))) + (jI h10 (jR h10 a0 0) ((a7 - 16) : Int32).toNatClampNeg)) h10))))))))))))))))
else
B_12_wide_358 k84 a0 a1 a2 a3 a4 a5 a6 a7 (jR H a0 0) a7 a8 H))
def B_12_wide_184 (k84 : Nat → Nat → Int32 → Int32 → Nat → Int32 → Int32 → Int32 → jH → Option (Unit × jH)) (k184 : Nat → Nat → Int32 → Int32 → Nat → Int32 → Int32 → Int32 → Int32 → Int32 → Int32 → jH → Option (Unit × jH)) (a0 : Nat) (a1 : Nat) (a2 : Int32) (a3 : Int32) (a4 : Nat) (a5 : Int32) (a6 : Int32) (a7 : Int32) (a8 : Int32) (a9 : Int32) (a10 : Int32) (H : jH) : Option (Unit × jH) :=
(if (4 : Int32) ≤ (a10 : Int32) then
B_12_wide_231 k84 a0 a1 a2 a3 a4 a5 a6 a7 a8 H
else
(if (16 : Int32) ≤ (a7 : Int32) then
B_12_wide_231 k84 a0 a1 a2 a3 a4 a5 a6 a7 a8 H
else
(if ((a9 + 3) : Int32) < (a3 : Int32) then
B_12_wide_231 k84 a0 a1 a2 a3 a4 a5 a6 a7 a8 H
else
jb (F_12_padded a1 a2 a3 (a9 + a10) 1 H) fun x11 h12 =>
jl ((jshl a8 8) ||| x11) fun x13 =>
jl (a10 + 1) fun x14 =>
k184 a0 a1 a2 a3 a4 a5 a6 a7 x13 a9 x14 h12)))
def F_12_wide_184 (k84 : Nat → Nat → Int32 → Int32 → Nat → Int32 → Int32 → Int32 → jH → Option (Unit × jH)) : Nat → Nat → Nat → Int32 → Int32 → Nat → Int32 → Int32 → Int32 → Int32 → Int32 → Int32 → jH → Option (Unit × jH)
  | 0 => fun _ _ _ _ _ _ _ _ _ _ _ _ => none
  | n + 1 => fun a0 a1 a2 a3 a4 a5 a6 a7 a8 a9 a10 H => B_12_wide_184 k84 (F_12_wide_184 k84 n) a0 a1 a2 a3 a4 a5 a6 a7 a8 a9 a10 H
def B_12_wide_181 (k84 : Nat → Nat → Int32 → Int32 → Nat → Int32 → Int32 → Int32 → jH → Option (Unit × jH)) (a0 : Nat) (a1 : Nat) (a2 : Int32) (a3 : Int32) (a4 : Nat) (a5 : Int32) (a6 : Int32) (a7 : Int32) (a8 : Int32) (a9 : Int32) (H : jH) : Option (Unit × jH) :=
F_12_wide_184 k84 jfuel a0 a1 a2 a3 a4 a5 a6 a7 a8 a9 0 H
def B_12_wide_578 (k398 : Nat → Nat → Int32 → Int32 → Nat → Int32 → Int32 → Int32 → jH → Option (Unit × jH)) (k578 : Nat → Nat → Int32 → Int32 → Nat → Int32 → Int32 → Int32 → Int32 → Int32 → Int32 → jH → Option (Unit × jH)) (a0 : Nat) (a1 : Nat) (a2 : Int32) (a3 : Int32) (a4 : Nat) (a5 : Int32) (a6 : Int32) (a7 : Int32) (a8 : Int32) (a9 : Int32) (a10 : Int32) (H : jH) : Option (Unit × jH) :=
(if (a10 : Int32) ≤ 0 then
jg ((jK H a0).1 = 12) (
jg ((jK H (jR H a0 2)).1 = 100 ∧ jin (4) (jK H (jR H a0 2)).2) (
jg ((jK H (jR H a0 2)).1 = 100 ∧ jF0 ≤ (jR H a0 2) ∧ jin (4) (jK H (jR H a0 2)).2) (
jl (jsI H (jR H a0 2) (4 : Int32).toNatClampNeg ((jI H (jR H a0 2) (4 : Int32).toNatClampNeg) + a8)) fun h15 =>
jg ((jK h15 a0).1 = 12) (
jg ((jK h15 (jR h15 a0 2)).1 = 100 ∧ jF0 ≤ (jR h15 a0 2) ∧ jin (0) (jK h15 (jR h15 a0 2)).2) (
jl (jsI h15 (jR h15 a0 2) (0 : Int32).toNatClampNeg (a8 + a9)) fun h16 =>
jl (a7 + 1) fun x17 =>
k398 a0 a1 a2 a3 a4 a5 a6 x17 h16)))))
else
jg ((jK H a0).1 = 12) (
jg ((jK H a0).1 = 12) (
jg ((jK H (jR H a0 2)).1 = 100 ∧ jin ((a10 - 1)) (jK H (jR H a0 2)).2) (
jg ((jK H (jR H a0 2)).1 = 100 ∧ jF0 ≤ (jR H a0 2) ∧ jin (a10) (jK H (jR H a0 2)).2) (
jl (jsI H (jR H a0 2) (a10 : Int32).toNatClampNeg (jI H (jR H a0 2) ((a10 - 1) : Int32).toNatClampNeg)) fun h18 =>
jl (a10 + (-1)) fun x19 =>
k578 a0 a1 a2 a3 a4 a5 a6 a7 a8 a9 x19 h18)))))
def F_12_wide_578 (k398 : Nat → Nat → Int32 → Int32 → Nat → Int32 → Int32 → Int32 → jH → Option (Unit × jH)) : Nat → Nat → Nat → Int32 → Int32 → Nat → Int32 → Int32 → Int32 → Int32 → Int32 → Int32 → jH → Option (Unit × jH)
  | 0 => fun _ _ _ _ _ _ _ _ _ _ _ _ => none
  | n + 1 => fun a0 a1 a2 a3 a4 a5 a6 a7 a8 a9 a10 H => B_12_wide_578 k398 (F_12_wide_578 k398 n) a0 a1 a2 a3 a4 a5 a6 a7 a8 a9 a10 H
def B_12_wide_636 (k69 : Nat → Nat → Int32 → Int32 → Nat → Int32 → Int32 → jH → Option (Unit × jH)) (k636 : Nat → Nat → Int32 → Int32 → Nat → Int32 → Int32 → Int32 → jH → Option (Unit × jH)) (a0 : Nat) (a1 : Nat) (a2 : Int32) (a3 : Int32) (a4 : Nat) (a5 : Int32) (a6 : Int32) (a7 : Int32) (H : jH) : Option (Unit × jH) :=
(if (8 : Int32) ≤ (a7 : Int32) then
jl (a6 + 1) fun x20 =>
k69 a0 a1 a2 a3 a4 a5 x20 H
else
jg ((jK H a0).1 = 12) (
jg ((jK H (jR H a0 1)).1 = 100 ∧ jin (a7) (jK H (jR H a0 1)).2) (
jg ((jK H a0).1 = 12) (
jg ((jK H (jR H a0 2)).1 = 100 ∧ jin (a7) (jK H (jR H a0 2)).2) (
jg ((jK H (jR H a0 1)).1 = 100 ∧ jF0 ≤ (jR H a0 1) ∧ jin (a7) (jK H (jR H a0 1)).2) (
jl (jsI H (jR H a0 1) (a7 : Int32).toNatClampNeg ((jI H (jR H a0 1) (a7 : Int32).toNatClampNeg) + (jI H (jR H a0 2) (a7 : Int32).toNatClampNeg))) fun h21 =>
jl (a7 + 1) fun x22 =>
k636 a0 a1 a2 a3 a4 a5 a6 x22 h21))))))
def F_12_wide_636 (k69 : Nat → Nat → Int32 → Int32 → Nat → Int32 → Int32 → jH → Option (Unit × jH)) : Nat → Nat → Nat → Int32 → Int32 → Nat → Int32 → Int32 → Int32 → jH → Option (Unit × jH)
  | 0 => fun _ _ _ _ _ _ _ _ _ => none
  | n + 1 => fun a0 a1 a2 a3 a4 a5 a6 a7 H => B_12_wide_636 k69 (F_12_wide_636 k69 n) a0 a1 a2 a3 a4 a5 a6 a7 H
def B_12_wide_398 (k69 : Nat → Nat → Int32 → Int32 → Nat → Int32 → Int32 → jH → Option (Unit × jH)) (k398 : Nat → Nat → Int32 → Int32 → Nat → Int32 → Int32 → Int32 → jH → Option (Unit × jH)) (a0 : Nat) (a1 : Nat) (a2 : Int32) (a3 : Int32) (a4 : Nat) (a5 : Int32) (a6 : Int32) (a7 : Int32) (H : jH) : Option (Unit × jH) :=
(if (64 : Int32) ≤ (a7 : Int32) then
F_12_wide_636 k69 jfuel a0 a1 a2 a3 a4 a5 a6 0 H
else
jg ((jK H a0).1 = 12) (
jg ((jK H (jR H a0 2)).1 = 100 ∧ jin (7) (jK H (jR H a0 2)).2) (
jg ((jK H a0).1 = 12) (
jg ((jK H (jR H a0 2)).1 = 100 ∧ jin (4) (jK H (jR H a0 2)).2) (
jb (F_12_right (jI H (jR H a0 2) (4 : Int32).toNatClampNeg) 6 H) fun x23 h24 =>
jg ((jK h24 a0).1 = 12) (
jg ((jK h24 (jR h24 a0 2)).1 = 100 ∧ jin (4) (jK h24 (jR h24 a0 2)).2) (
jb (F_12_right (jI h24 (jR h24 a0 2) (4 : Int32).toNatClampNeg) 11 h24) fun x25 h26 =>
jg ((jK h26 a0).1 = 12) (
jg ((jK h26 (jR h26 a0 2)).1 = 100 ∧ jin (4) (jK h26 (jR h26 a0 2)).2) (
jb (F_12_right (jI h26 (jR h26 a0 2) (4 : Int32).toNatClampNeg) 25 h26) fun x27 h28 =>
jg ((jK h28 a0).1 = 12) (
jg ((jK h28 (jR h28 a0 2)).1 = 100 ∧ jin (4) (jK h28 (jR h28 a0 2)).2) (
jg ((jK h28 a0).1 = 12) (
jg ((jK h28 (jR h28 a0 2)).1 = 100 ∧ jin (5) (jK h28 (jR h28 a0 2)).2) (
jg ((jK h28 a0).1 = 12) (
jg ((jK h28 (jR h28 a0 2)).1 = 100 ∧ jin (4) (jK h28 (jR h28 a0 2)).2) (
jg ((jK h28 a0).1 = 12) (
jg ((jK h28 (jR h28 a0 2)).1 = 100 ∧ jin (6) (jK h28 (jR h28 a0 2)).2) (
jg ((jK h28 13).1 = 100 ∧ jin (a7) (jK h28 13).2) (
jg ((jK h28 a0).1 = 12) (
jg ((jK h28 (jR h28 a0 0)).1 = 100 ∧ jin (a7) (jK h28 (jR h28 a0 0)).2) (
jl (((((jI H (jR H a0 2) (7 : Int32).toNatClampNeg) + ((x23 ^^^ x25) ^^^ x27)) + (((jI h28 (jR h28 a0 2) (4 : Int32).toNatClampNeg) &&& (jI h28 (jR h28 a0 2) (5 : Int32).toNatClampNeg)) ^^^ (((jI h28 (jR h28 a0 2) (4 : Int32).toNatClampNeg) ^^^ (-1)) &&& (jI h28 (jR h28 a0 2) (6 : Int32).toNatClampNeg)))) + (jI h28 13 (a7 : Int32).toNatClampNeg)) + (jI h28 (jR h28 a0 0) (a7 : Int32).toNatClampNeg)) fun x29 =>
jg ((jK h28 a0).1 = 12) (
jg ((jK h28 (jR h28 a0 2)).1 = 100 ∧ jin (0) (jK h28 (jR h28 a0 2)).2) (
jb (F_12_right (jI h28 (jR h28 a0 2) (0 : Int32).toNatClampNeg) 2 h28) fun x30 h31 =>
jg ((jK h31 a0).1 = 12) (
jg ((jK h31 (jR h31 a0 2)).1 = 100 ∧ jin (0) (jK h31 (jR h31 a0 2)).2) (
jb (F_12_right (jI h31 (jR h31 a0 2) (0 : Int32).toNatClampNeg) 13 h31) fun x32 h33 =>
jg ((jK h33 a0).1 = 12) (
jg ((jK h33 (jR h33 a0 2)).1 = 100 ∧ jin (0) (jK h33 (jR h33 a0 2)).2) (
jb (F_12_right (jI h33 (jR h33 a0 2) (0 : Int32).toNatClampNeg) 22 h33) fun x34 h35 =>
jg ((jK h35 a0).1 = 12) (
jg ((jK h35 (jR h35 a0 2)).1 = 100 ∧ jin (0) (jK h35 (jR h35 a0 2)).2) (
jg ((jK h35 a0).1 = 12) (
jg ((jK h35 (jR h35 a0 2)).1 = 100 ∧ jin (1) (jK h35 (jR h35 a0 2)).2) (
jg ((jK h35 a0).1 = 12) (
jg ((jK h35 (jR h35 a0 2)).1 = 100 ∧ jin (0) (jK h35 (jR h35 a0 2)).2) (
jg ((jK h35 a0).1 = 12) (
jg ((jK h35 (jR h35 a0 2)).1 = 100 ∧ jin (2) (jK h35 (jR h35 a0 2)).2) (
jg ((jK h35 a0).1 = 12) (
jg ((jK h35 (jR h35 a0 2)).1 = 100 ∧ jin (1) (jK h35 (jR h35 a0 2)).2) (
jg ((jK h35 a0).1 = 12) (
jg ((jK h35 (jR h35 a0 2)).1 = 100 ∧ jin (2) (jK h35 (jR h35 a0 2)).2) (
jl (((x30 ^^^ x32) ^^^ x34) + ((((jI h35 (jR h35 a0 2) (0 : Int32).toNatClampNeg) &&& (jI h35 (jR h35 a0 2) (1 : Int32).toNatClampNeg)) ^^^ ((jI h35 (jR h35 a0 2) (0 : Int32).toNatClampNeg) &&& (jI h35 (jR h35 a0 2) (2 : Int32).toNatClampNeg))) ^^^ ((jI h35 (jR h35 a0 2) (1 : Int32).toNatClampNeg) &&& (jI h35 (jR h35 a0 2) (2 : Int32).toNatClampNeg)))) fun x36 =>
F_12_wide_578 k398 jfuel a0 a1 a2 a3 a4 a5 a6 a7 x29 x36 7 h35))))))))))))))))))))))))))))))))))))))
def F_12_wide_398 (k69 : Nat → Nat → Int32 → Int32 → Nat → Int32 → Int32 → jH → Option (Unit × jH)) : Nat → Nat → Nat → Int32 → Int32 → Nat → Int32 → Int32 → Int32 → jH → Option (Unit × jH)
  | 0 => fun _ _ _ _ _ _ _ _ _ => none
  | n + 1 => fun a0 a1 a2 a3 a4 a5 a6 a7 H => B_12_wide_398 k69 (F_12_wide_398 k69 n) a0 a1 a2 a3 a4 a5 a6 a7 H
def B_12_wide_368 (k69 : Nat → Nat → Int32 → Int32 → Nat → Int32 → Int32 → jH → Option (Unit × jH)) (k368 : Nat → Nat → Int32 → Int32 → Nat → Int32 → Int32 → Int32 → jH → Option (Unit × jH)) (a0 : Nat) (a1 : Nat) (a2 : Int32) (a3 : Int32) (a4 : Nat) (a5 : Int32) (a6 : Int32) (a7 : Int32) (H : jH) : Option (Unit × jH) :=
(if (8 : Int32) ≤ (a7 : Int32) then
F_12_wide_398 k69 jfuel a0 a1 a2 a3 a4 a5 a6 0 H
else
jg ((jK H a0).1 = 12) (
jg ((jK H a0).1 = 12) (
jg ((jK H (jR H a0 1)).1 = 100 ∧ jin (a7) (jK H (jR H a0 1)).2) (
jg ((jK H (jR H a0 2)).1 = 100 ∧ jF0 ≤ (jR H a0 2) ∧ jin (a7) (jK H (jR H a0 2)).2) (
jl (jsI H (jR H a0 2) (a7 : Int32).toNatClampNeg (jI H (jR H a0 1) (a7 : Int32).toNatClampNeg)) fun h37 =>
jl (a7 + 1) fun x38 =>
k368 a0 a1 a2 a3 a4 a5 a6 x38 h37)))))
def F_12_wide_368 (k69 : Nat → Nat → Int32 → Int32 → Nat → Int32 → Int32 → jH → Option (Unit × jH)) : Nat → Nat → Nat → Int32 → Int32 → Nat → Int32 → Int32 → Int32 → jH → Option (Unit × jH)
  | 0 => fun _ _ _ _ _ _ _ _ _ => none
  | n + 1 => fun a0 a1 a2 a3 a4 a5 a6 a7 H => B_12_wide_368 k69 (F_12_wide_368 k69 n) a0 a1 a2 a3 a4 a5 a6 a7 H
def B_12_wide_84 (k69 : Nat → Nat → Int32 → Int32 → Nat → Int32 → Int32 → jH → Option (Unit × jH)) (k84 : Nat → Nat → Int32 → Int32 → Nat → Int32 → Int32 → Int32 → jH → Option (Unit × jH)) (a0 : Nat) (a1 : Nat) (a2 : Int32) (a3 : Int32) (a4 : Nat) (a5 : Int32) (a6 : Int32) (a7 : Int32) (H : jH) : Option (Unit × jH) :=
(if (64 : Int32) ≤ (a7 : Int32) then
F_12_wide_368 k69 jfuel a0 a1 a2 a3 a4 a5 a6 0 H
else
jl ((64 * a6) + (4 * a7)) fun x39 =>
(if (16 : Int32) ≤ (a7 : Int32) then
B_12_wide_181 k84 a0 a1 a2 a3 a4 a5 a6 a7 0 x39 H
else
(if (a3 : Int32) ≤ ((x39 + 3) : Int32) then
B_12_wide_181 k84 a0 a1 a2 a3 a4 a5 a6 a7 0 x39 H
else
jg ((jK H a1).1 = 101 ∧ jin ((a2 + x39)) (jK H a1).2) (
jg ((jK H a1).1 = 101 ∧ jin (((a2 + x39) + 1)) (jK H a1).2) (
jg ((jK H a1).1 = 101 ∧ jin (((a2 + x39) + 2)) (jK H a1).2) (
jg ((jK H a1).1 = 101 ∧ jin (((a2 + x39) + 3)) (jK H a1).2) (
jl ((((jshl ((jbs (jB H a1 ((a2 + x39) : Int32).toNatClampNeg)) &&& 255) 24) ||| (jshl ((jbs (jB H a1 (((a2 + x39) + 1) : Int32).toNatClampNeg)) &&& 255) 16)) ||| (jshl ((jbs (jB H a1 (((a2 + x39) + 2) : Int32).toNatClampNeg)) &&& 255) 8)) ||| ((jbs (jB H a1 (((a2 + x39) + 3) : Int32).toNatClampNeg)) &&& 255)) fun x40 =>
B_12_wide_181 k84 a0 a1 a2 a3 a4 a5 a6 a7 x40 x39 H)))))))
def F_12_wide_84 (k69 : Nat → Nat → Int32 → Int32 → Nat → Int32 → Int32 → jH → Option (Unit × jH)) : Nat → Nat → Nat → Int32 → Int32 → Nat → Int32 → Int32 → Int32 → jH → Option (Unit × jH)
  | 0 => fun _ _ _ _ _ _ _ _ _ => none
  | n + 1 => fun a0 a1 a2 a3 a4 a5 a6 a7 H => B_12_wide_84 k69 (F_12_wide_84 k69 n) a0 a1 a2 a3 a4 a5 a6 a7 H
def B_12_wide_675 (k675 : Nat → Nat → Int32 → Int32 → jH → Option (Unit × jH)) (a0 : Nat) (a4 : Nat) (a5 : Int32) (a6 : Int32) (H : jH) : Option (Unit × jH) :=
(if (32 : Int32) ≤ (a6 : Int32) then
some ((), H)
else
jg ((jK H a0).1 = 12) (
jg (¬ (4 : Int32) = 0) (
jg ((jK H (jR H a0 1)).1 = 100 ∧ jin ((a6 / 4)) (jK H (jR H a0 1)).2) (
jg (¬ (4 : Int32) = 0) (
jg ((jK H a4).1 = 101 ∧ jin ((a5 + a6)) (jK H a4).2) (
jl (jsB H a4 ((a5 + a6) : Int32).toNatClampNeg (jbu (ji2b (jushr (jI H (jR H a0 1) ((a6 / 4) : Int32).toNatClampNeg) (24 - (8 * (jrem a6 4))))))) fun h41 =>
jl (a6 + 1) fun x42 =>
k675 a0 a4 a5 x42 h41))))))
def F_12_wide_675  : Nat → Nat → Nat → Int32 → Int32 → jH → Option (Unit × jH)
  | 0 => fun _ _ _ _ _ => none
  | n + 1 => fun a0 a4 a5 a6 H => B_12_wide_675 (F_12_wide_675  n) a0 a4 a5 a6 H
def B_12_wide_69 (k69 : Nat → Nat → Int32 → Int32 → Nat → Int32 → Int32 → jH → Option (Unit × jH)) (a0 : Nat) (a1 : Nat) (a2 : Int32) (a3 : Int32) (a4 : Nat) (a5 : Int32) (a6 : Int32) (H : jH) : Option (Unit × jH) :=
jg (¬ (64 : Int32) = 0) (
(if (((a3 + 72) / 64) : Int32) ≤ (a6 : Int32) then
F_12_wide_675 jfuel a0 a4 a5 0 H
else
F_12_wide_84 k69 jfuel a0 a1 a2 a3 a4 a5 a6 0 H))
def F_12_wide_69  : Nat → Nat → Nat → Int32 → Int32 → Nat → Int32 → Int32 → jH → Option (Unit × jH)
  | 0 => fun _ _ _ _ _ _ _ _ => none
  | n + 1 => fun a0 a1 a2 a3 a4 a5 a6 H => B_12_wide_69 (F_12_wide_69  n) a0 a1 a2 a3 a4 a5 a6 H
def F_12_wide (a0 : Nat) (a1 : Nat) (a2 : Int32) (a3 : Int32) (a4 : Nat) (a5 : Int32) (H : jH) : Option (Unit × jH) :=
jg ((jK H a0).1 = 12) (
jg ((jK H (jR H a0 1)).1 = 100 ∧ jF0 ≤ (jR H a0 1) ∧ jin (0) (jK H (jR H a0 1)).2) (
jl (jsI H (jR H a0 1) (0 : Int32).toNatClampNeg 1779033703) fun h43 =>
jg ((jK h43 a0).1 = 12) (
jg ((jK h43 (jR h43 a0 1)).1 = 100 ∧ jF0 ≤ (jR h43 a0 1) ∧ jin (1) (jK h43 (jR h43 a0 1)).2) (
jl (jsI h43 (jR h43 a0 1) (1 : Int32).toNatClampNeg (-1150833019)) fun h44 =>
jg ((jK h44 a0).1 = 12) (
jg ((jK h44 (jR h44 a0 1)).1 = 100 ∧ jF0 ≤ (jR h44 a0 1) ∧ jin (2) (jK h44 (jR h44 a0 1)).2) (
jl (jsI h44 (jR h44 a0 1) (2 : Int32).toNatClampNeg 1013904242) fun h45 =>
jg ((jK h45 a0).1 = 12) (
jg ((jK h45 (jR h45 a0 1)).1 = 100 ∧ jF0 ≤ (jR h45 a0 1) ∧ jin (3) (jK h45 (jR h45 a0 1)).2) (
jl (jsI h45 (jR h45 a0 1) (3 : Int32).toNatClampNeg (-1521486534)) fun h46 =>
jg ((jK h46 a0).1 = 12) (
jg ((jK h46 (jR h46 a0 1)).1 = 100 ∧ jF0 ≤ (jR h46 a0 1) ∧ jin (4) (jK h46 (jR h46 a0 1)).2) (
jl (jsI h46 (jR h46 a0 1) (4 : Int32).toNatClampNeg 1359893119) fun h47 =>
jg ((jK h47 a0).1 = 12) (
jg ((jK h47 (jR h47 a0 1)).1 = 100 ∧ jF0 ≤ (jR h47 a0 1) ∧ jin (5) (jK h47 (jR h47 a0 1)).2) (
jl (jsI h47 (jR h47 a0 1) (5 : Int32).toNatClampNeg (-1694144372)) fun h48 =>
jg ((jK h48 a0).1 = 12) (
jg ((jK h48 (jR h48 a0 1)).1 = 100 ∧ jF0 ≤ (jR h48 a0 1) ∧ jin (6) (jK h48 (jR h48 a0 1)).2) (
jl (jsI h48 (jR h48 a0 1) (6 : Int32).toNatClampNeg 528734635) fun h49 =>
jg ((jK h49 a0).1 = 12) (
jg ((jK h49 (jR h49 a0 1)).1 = 100 ∧ jF0 ≤ (jR h49 a0 1) ∧ jin (7) (jK h49 (jR h49 a0 1)).2) (
jl (jsI h49 (jR h49 a0 1) (7 : Int32).toNatClampNeg 1541459225) fun h50 =>
F_12_wide_69 jfuel a0 a1 a2 a3 a4 a5 0 h50))))))))))))))))
def F_12_name (a0 : Nat) (a1 : Nat) (a2 : Int32) (a3 : Int32) (a4 : Nat) (a5 : Int32) (H : jH) : Option (Unit × jH) :=
jg ((jK H a0).1 = 12) (
jg ((jK H a0).1 = 12) (
jb (F_12_wide a0 a1 a2 a3 (jR H a0 3) 0 H) fun x1 h2 =>
jg ((jK h2 a0).1 = 12) (
jg ((jK h2 a0).1 = 12) (
jb (F_12_wide a0 (jR h2 a0 3) 0 32 a4 a5 h2) fun x3 h4 =>
some ((), h4)))))
def F_14_init (a0 : Nat) (a1 : Nat) (a2 : Nat) (H : jH) : Option (Unit × jH) :=
jg (jF0 ≤ a0) (
jg (jgn (16800)) (
jnw H 100 (16800 : Int32).toNatClampNeg fun r1 h2 =>
jg ((jK h2 a0).1 = 14) (
jl (jsR h2 a0 0 r1) fun h3 =>
jg (jgn (140)) (
jnw h3 100 (140 : Int32).toNatClampNeg fun r4 h5 =>
jg ((jK h5 a0).1 = 14) (
jl (jsR h5 a0 1 r4) fun h6 =>
jg (jgn (200)) (
jnw h6 100 (200 : Int32).toNatClampNeg fun r7 h8 =>
jg ((jK h8 a0).1 = 14) (
jl (jsR h8 a0 4 r7) fun h9 =>
jg (jgn (201)) (
jnw h9 100 (201 : Int32).toNatClampNeg fun r10 h11 =>
jg ((jK h11 a0).1 = 14) (
jl (jsR h11 a0 10 r10) fun h12 =>
jg (jgn (120)) (
jnw h12 101 (120 : Int32).toNatClampNeg fun r13 h14 =>
jg ((jK h14 a0).1 = 14) (
jl (jsR h14 a0 12 r13) fun h15 =>
jg (jgn (120)) (
jnw h15 101 (120 : Int32).toNatClampNeg fun r16 h17 =>
jg ((jK h17 a0).1 = 14) (
jl (jsR h17 a0 13 r16) fun h18 =>
jg (jgn (32)) (
jnw h18 101 (32 : Int32).toNatClampNeg fun r19 h20 =>
jg ((jK h20 a0).1 = 14) (
jl (jsR h20 a0 14 r19) fun h21 =>
jg ((jK h21 a0).1 = 14) (
jl (jsR h21 a0 15 a1) fun h22 =>
jg ((jK h22 a0).1 = 14) (
jl (jsR h22 a0 16 a2) fun h23 =>
some ((), h23))))))))))))))))))
def B_13_nothing_2 (k2 : Nat → Int32 → Int32 → jH → Option (Unit × jH)) (a0 : Nat) (a1 : Int32) (a2 : Int32) (H : jH) : Option (Unit × jH) :=
(if (10 : Int32) ≤ (a2 : Int32) then
some ((), H)
else
jg ((jK H a0).1 = 13) (
jg ((jK H (jR H a0 0)).1 = 100 ∧ jF0 ≤ (jR H a0 0) ∧ jin (((10 * a1) + a2)) (jK H (jR H a0 0)).2) (
jl (jsI H (jR H a0 0) (((10 * a1) + a2) : Int32).toNatClampNeg 0) fun h1 =>
jl (a2 + 1) fun x2 =>
k2 a0 a1 x2 h1)))
def F_13_nothing_2  : Nat → Nat → Int32 → Int32 → jH → Option (Unit × jH)
  | 0 => fun _ _ _ _ => none
  | n + 1 => fun a0 a1 a2 H => B_13_nothing_2 (F_13_nothing_2  n) a0 a1 a2 H
def F_13_nothing (a0 : Nat) (a1 : Int32) (H : jH) : Option (Unit × jH) :=
F_13_nothing_2 jfuel a0 a1 0 H
def B_13_wordOf_29  (s0 : Int64) (H : jH) : Option (Int64 × jH) :=
some (s0, H)
def F_13_wordOf (a0 : Int32) (a1 : Int64) (a3 : Int64) (a5 : Int64) (a7 : Int64) (H : jH) : Option (Int64 × jH) :=
(if ¬ (a0 : Int32) = 0 then
(if ¬ (a0 : Int32) = (1 : Int32) then
(if ¬ (a0 : Int32) = (2 : Int32) then
B_13_wordOf_29 a1 H
else
B_13_wordOf_29 a3 H)
else
B_13_wordOf_29 a5 H)
else
B_13_wordOf_29 a7 H)
def B_13_write_8 (k8 : Nat → Int32 → Int64 → Int64 → Int64 → Int64 → Int32 → jH → Option (Unit × jH)) (a0 : Nat) (a1 : Int32) (a2 : Int64) (a4 : Int64) (a6 : Int64) (a8 : Int64) (a10 : Int32) (H : jH) : Option (Unit × jH) :=
(if (256 : Int32) ≤ (a10 : Int32) then
some ((), H)
else
jg (¬ (64 : Int32) = 0) (
jb (F_13_wordOf (a10 / 64) a2 a4 a6 a8 H) fun x1 h2 =>
jg (¬ (64 : Int32) = 0) (
jl ((jshrL x1 (jrem a10 64)) &&& 1) fun x3 =>
jg ((jK h2 a0).1 = 13) (
jg (¬ (26 : Int32) = 0) (
jg ((jK h2 (jR h2 a0 0)).1 = 100 ∧ jin (((10 * a1) + (a10 / 26))) (jK h2 (jR h2 a0 0)).2) (
jg (¬ (26 : Int32) = 0) (
jg ((jK h2 (jR h2 a0 0)).1 = 100 ∧ jF0 ≤ (jR h2 a0 0) ∧ jin (((10 * a1) + (a10 / 26))) (jK h2 (jR h2 a0 0)).2) (
jl (jsI h2 (jR h2 a0 0) (((10 * a1) + (a10 / 26)) : Int32).toNatClampNeg ((jI h2 (jR h2 a0 0) (((10 * a1) + (a10 / 26)) : Int32).toNatClampNeg) ||| (jshl (Int64.toInt32 x3) (jrem a10 26)))) fun h4 =>
jl (a10 + 1) fun x5 =>
k8 a0 a1 a2 a4 a6 a8 x5 h4))))))))
def F_13_write_8  : Nat → Nat → Int32 → Int64 → Int64 → Int64 → Int64 → Int32 → jH → Option (Unit × jH)
  | 0 => fun _ _ _ _ _ _ _ _ => none
  | n + 1 => fun a0 a1 a2 a4 a6 a8 a10 H => B_13_write_8 (F_13_write_8  n) a0 a1 a2 a4 a6 a8 a10 H
def F_13_write (a0 : Nat) (a1 : Int32) (a2 : Int64) (a4 : Int64) (a6 : Int64) (a8 : Int64) (H : jH) : Option (Unit × jH) :=
jg ((jK H a0).1 = 13) (
jb (F_13_nothing a0 a1 H) fun x6 h7 =>
F_13_write_8 jfuel a0 a1 a2 a4 a6 a8 0 h7)
def B_13_init_219 (k170 : Nat → Int32 → Int32 → Int32 → jH → Option (Unit × jH)) (a0 : Nat) (a1 : Int32) (a3 : Int32) (a4 : Int32) (s0 : Nat) (s1 : Int32) (s2 : Int32) (s3 : Int32) (H : jH) : Option (Unit × jH) :=
jg ((jK H s0).1 = 100 ∧ jF0 ≤ s0 ∧ jin (s1) (jK H s0).2) (
jl (jsI H s0 (s1 : Int32).toNatClampNeg (s2 &&& s3)) fun h1 =>
jl (jshr a4 26) fun x2 =>
jl (a3 + 1) fun x3 =>
k170 a0 a1 x2 x3 h1)
def B_13_init_170 (k161 : Nat → Int32 → jH → Option (Unit × jH)) (k170 : Nat → Int32 → Int32 → Int32 → jH → Option (Unit × jH)) (a0 : Nat) (a1 : Int32) (a2 : Int32) (a3 : Int32) (H : jH) : Option (Unit × jH) :=
(if (10 : Int32) ≤ (a3 : Int32) then
jl (a1 + 1) fun x4 =>
k161 a0 x4 H
else
jg ((jK H a0).1 = 13) (
jg ((jK H (jR H a0 0)).1 = 100 ∧ jin (((10 * (8 + a1)) + a3)) (jK H (jR H a0 0)).2) (
jl (a2 - (jI H (jR H a0 0) (((10 * (8 + a1)) + a3) : Int32).toNatClampNeg)) fun x5 =>
jg ((jK H a0).1 = 13) (
(if (9 : Int32) ≤ (a3 : Int32) then
B_13_init_219 k170 a0 a1 a3 x5 (jR H a0 3) ((10 * a1) + a3) x5 4194303 H
else
B_13_init_219 k170 a0 a1 a3 x5 (jR H a0 3) ((10 * a1) + a3) x5 67108863 H)))))
def F_13_init_170 (k161 : Nat → Int32 → jH → Option (Unit × jH)) : Nat → Nat → Int32 → Int32 → Int32 → jH → Option (Unit × jH)
  | 0 => fun _ _ _ _ _ => none
  | n + 1 => fun a0 a1 a2 a3 H => B_13_init_170 k161 (F_13_init_170 k161 n) a0 a1 a2 a3 H
def B_13_init_161 (k161 : Nat → Int32 → jH → Option (Unit × jH)) (a0 : Nat) (a1 : Int32) (H : jH) : Option (Unit × jH) :=
(if (2 : Int32) ≤ (a1 : Int32) then
some ((), H)
else
F_13_init_170 k161 jfuel a0 a1 0 0 H)
def F_13_init_161  : Nat → Nat → Int32 → jH → Option (Unit × jH)
  | 0 => fun _ _ _ => none
  | n + 1 => fun a0 a1 H => B_13_init_161 (F_13_init_161  n) a0 a1 H
def F_13_init (a0 : Nat) (H : jH) : Option (Unit × jH) :=
jg (jF0 ≤ a0) (
jg (jgn (480)) (
jnw H 100 (480 : Int32).toNatClampNeg fun r6 h7 =>
jg ((jK h7 a0).1 = 13) (
jl (jsR h7 a0 0 r6) fun h8 =>
jg (jgn (22)) (
jnw h8 103 (22 : Int32).toNatClampNeg fun r9 h10 =>
jg ((jK h10 a0).1 = 13) (
jl (jsR h10 a0 1 r9) fun h11 =>
jg (jgn (22)) (
jnw h11 103 (22 : Int32).toNatClampNeg fun r12 h13 =>
jg ((jK h13 a0).1 = 13) (
jl (jsR h13 a0 2 r12) fun h14 =>
jg (jgn (20)) (
jnw h14 100 (20 : Int32).toNatClampNeg fun r15 h16 =>
jg ((jK h16 a0).1 = 13) (
jl (jsR h16 a0 3 r15) fun h17 =>
jg (jgn (4)) (
jnw h17 102 (4 : Int32).toNatClampNeg fun r18 h19 =>
jg ((jK h19 r18).1 = 102 ∧ jin (0) (jK h19 r18).2) (
jl (jsI h19 r18 (0 : Int32).toNatClampNeg (1 &&& 1)) fun h20 =>
jg ((jK h20 r18).1 = 102 ∧ jin (1) (jK h20 r18).2) (
jl (jsI h20 r18 (1 : Int32).toNatClampNeg (1 &&& 1)) fun h21 =>
jg ((jK h21 r18).1 = 102 ∧ jin (2) (jK h21 r18).2) (
jl (jsI h21 r18 (2 : Int32).toNatClampNeg (1 &&& 1)) fun h22 =>
jg ((jK h22 r18).1 = 102 ∧ jin (3) (jK h22 r18).2) (
jl (jsI h22 r18 (3 : Int32).toNatClampNeg (1 &&& 1)) fun h23 =>
jg ((jK h23 a0).1 = 13) (
jl (jsR h23 a0 4 r18) fun h24 =>
jg (jgn (100)) (
jnw h24 100 (100 : Int32).toNatClampNeg fun r25 h26 =>
jg ((jK h26 a0).1 = 13) (
jl (jsR h26 a0 5 r25) fun h27 =>
jg ((jK h27 a0).1 = 13) (
jb (F_13_write a0 8 (-1) (-1) (-1) (-4294968273) h27) fun x28 h29 =>
jg ((jK h29 a0).1 = 13) (
jb (F_13_write a0 9 (-1) (-2) (-4994812053365940165) (-4624529908474429119) h29) fun x30 h31 =>
jg ((jK h31 a0).1 = 13) (
jb (F_13_write a0 18 8772561819708210092 6170039885052185351 188021827762530521 6481385041966929816 h31) fun x32 h33 =>
jg ((jK h33 a0).1 = 13) (
jb (F_13_write a0 19 5204712524664259685 6747795201694173352 (-209500633525038055) (-7185545363635252040) h33) fun x34 h35 =>
jg ((jK h35 a0).1 = 13) (
jg ((jK h35 (jR h35 a0 0)).1 = 100 ∧ jF0 ≤ (jR h35 a0 0) ∧ jin (200) (jK h35 (jR h35 a0 0)).2) (
jl (jsI h35 (jR h35 a0 0) (200 : Int32).toNatClampNeg 1) fun h36 =>
jg ((jK h36 a0).1 = 13) (
jg ((jK h36 (jR h36 a0 0)).1 = 100 ∧ jF0 ≤ (jR h36 a0 0) ∧ jin (210) (jK h36 (jR h36 a0 0)).2) (
jl (jsI h36 (jR h36 a0 0) (210 : Int32).toNatClampNeg 7) fun h37 =>
F_13_init_161 jfuel a0 0 h37)))))))))))))))))))))))))
def F_15_init (a0 : Nat) (a1 : Nat) (H : jH) : Option (Unit × jH) :=
jg (jF0 ≤ a0) (
jnw H 13 7 fun r1 h2 =>
jg (jF0 ≤ r1) (
jb (F_13_init r1 h2) fun x3 h4 =>
jg ((jK h4 a0).1 = 15) (
jl (jsR h4 a0 1 r1) fun h5 =>
jg (jgn (4000)) (
jnw h5 101 (4000 : Int32).toNatClampNeg fun r6 h7 =>
jg ((jK h7 a0).1 = 15) (
jl (jsR h7 a0 7 r6) fun h8 =>
jg (jgn (32)) (
jnw h8 101 (32 : Int32).toNatClampNeg fun r9 h10 =>
jg ((jK h10 a0).1 = 15) (
jl (jsR h10 a0 9 r9) fun h11 =>
jg ((jK h11 a0).1 = 15) (
jl (jsR h11 a0 0 a1) fun h12 =>
some ((), h12)))))))))
def B_16_nothing_2 (k2 : Nat → Int32 → jH → Option (Unit × jH)) (a0 : Nat) (a1 : Int32) (H : jH) : Option (Unit × jH) :=
(if (40 : Int32) ≤ (a1 : Int32) then
some ((), H)
else
jg ((jK H a0).1 = 100 ∧ jF0 ≤ a0 ∧ jin (a1) (jK H a0).2) (
jl (jsI H a0 (a1 : Int32).toNatClampNeg 0) fun h1 =>
jl (a1 + 1) fun x2 =>
k2 a0 x2 h1))
def F_16_nothing_2  : Nat → Nat → Int32 → jH → Option (Unit × jH)
  | 0 => fun _ _ _ => none
  | n + 1 => fun a0 a1 H => B_16_nothing_2 (F_16_nothing_2  n) a0 a1 H
def F_16_nothing (a0 : Nat) (H : jH) : Option (Unit × jH) :=
F_16_nothing_2 jfuel a0 0 H
def B_16_open_63 (k20 : Nat → Int32 → Int64 → Int32 → jH → Option (Unit × jH)) (a2 : Nat) (a3 : Int32) (a4 : Int64) (a6 : Int32) (H : jH) : Option (Unit × jH) :=
jl (a6 + 1) fun x1 =>
k20 a2 a3 a4 x1 H
def B_16_open_20 (k20 : Nat → Int32 → Int64 → Int32 → jH → Option (Unit × jH)) (a2 : Nat) (a3 : Int32) (a4 : Int64) (a6 : Int32) (H : jH) : Option (Unit × jH) :=
(if (3 : Int32) ≤ (a6 : Int32) then
some ((), H)
else
jl ((a3 - 3) + a6) fun x2 =>
(if (x2 : Int32) < 0 then
B_16_open_63 k20 a2 a3 a4 a6 H
else
(if (40 : Int32) ≤ (x2 : Int32) then
B_16_open_63 k20 a2 a3 a4 a6 H
else
jg ((jK H a2).1 = 100 ∧ jF0 ≤ a2 ∧ jin (x2) (jK H a2).2) (
jl (jsI H a2 (x2 : Int32).toNatClampNeg (Int64.toInt32 ((jshrL a4 (8 * a6)) &&& 255))) fun h3 =>
B_16_open_63 k20 a2 a3 a4 a6 h3))))
def F_16_open_20  : Nat → Nat → Int32 → Int64 → Int32 → jH → Option (Unit × jH)
  | 0 => fun _ _ _ _ _ => none
  | n + 1 => fun a2 a3 a4 a6 H => B_16_open_20 (F_16_open_20  n) a2 a3 a4 a6 H
def F_16_open (a0 : Int64) (a2 : Nat) (H : jH) : Option (Unit × jH) :=
jb (F_16_nothing a2 H) fun x4 h5 =>
jl (Int64.toInt32 (jshrL a0 24)) fun x6 =>
jl (a0 &&& 8388607) fun x7 =>
F_16_open_20 jfuel a2 x6 x7 0 h5
def B_16_compareRows_37 (k4 : Nat → Nat → Int32 → Int32 → jH → Option (Int32 × jH)) (a0 : Nat) (a1 : Nat) (a3 : Int32) (s0 : Int32) (H : jH) : Option (Int32 × jH) :=
jl (a3 + 1) fun x1 =>
k4 a0 a1 s0 x1 H
def B_16_compareRows_4 (k4 : Nat → Nat → Int32 → Int32 → jH → Option (Int32 × jH)) (a0 : Nat) (a1 : Nat) (a2 : Int32) (a3 : Int32) (H : jH) : Option (Int32 × jH) :=
(if (40 : Int32) ≤ (a3 : Int32) then
some (a2, H)
else
jg ((jK H a0).1 = 100 ∧ jin (a3) (jK H a0).2) (
jg ((jK H a1).1 = 100 ∧ jin (a3) (jK H a1).2) (
(if ((jI H a1 (a3 : Int32).toNatClampNeg) : Int32) ≤ ((jI H a0 (a3 : Int32).toNatClampNeg) : Int32) then
jg ((jK H a0).1 = 100 ∧ jin (a3) (jK H a0).2) (
jg ((jK H a1).1 = 100 ∧ jin (a3) (jK H a1).2) (
(if ((jI H a0 (a3 : Int32).toNatClampNeg) : Int32) ≤ ((jI H a1 (a3 : Int32).toNatClampNeg) : Int32) then
B_16_compareRows_37 k4 a0 a1 a3 a2 H
else
B_16_compareRows_37 k4 a0 a1 a3 1 H)))
else
B_16_compareRows_37 k4 a0 a1 a3 (-1) H))))
def F_16_compareRows_4  : Nat → Nat → Nat → Int32 → Int32 → jH → Option (Int32 × jH)
  | 0 => fun _ _ _ _ _ => none
  | n + 1 => fun a0 a1 a2 a3 H => B_16_compareRows_4 (F_16_compareRows_4  n) a0 a1 a2 a3 H
def F_16_compareRows (a0 : Nat) (a1 : Nat) (H : jH) : Option (Int32 × jH) :=
F_16_compareRows_4 jfuel a0 a1 0 0 H
def B_16_quotient_206 (k146 : Nat → Int32 → Int32 → Int32 → jH → Option (Unit × jH)) (a0 : Nat) (a2 : Int32) (a5 : Int32) (s0 : Int32) (H : jH) : Option (Unit × jH) :=
jl (a5 + 1) fun x1 =>
k146 a0 a2 s0 x1 H
def B_16_quotient_195 (k146 : Nat → Int32 → Int32 → Int32 → jH → Option (Unit × jH)) (a0 : Nat) (a2 : Int32) (a5 : Int32) (a6 : Int32) (s0 : Nat) (s1 : Int32) (s2 : Int32) (H : jH) : Option (Unit × jH) :=
jg ((jK H s0).1 = 100 ∧ jF0 ≤ s0 ∧ jin (s1) (jK H s0).2) (
jl (jsI H s0 (s1 : Int32).toNatClampNeg s2) fun h2 =>
(if 0 ≤ (a6 : Int32) then
B_16_quotient_206 k146 a0 a2 a5 0 h2
else
B_16_quotient_206 k146 a0 a2 a5 1 h2))
def B_16_quotient_239 (k60 : Nat → Int32 → jH → Option (Unit × jH)) (a0 : Nat) (a2 : Int32) (H : jH) : Option (Unit × jH) :=
jl (a2 + (-1)) fun x3 =>
k60 a0 x3 H
def B_16_quotient_146 (k60 : Nat → Int32 → jH → Option (Unit × jH)) (k146 : Nat → Int32 → Int32 → Int32 → jH → Option (Unit × jH)) (a0 : Nat) (a2 : Int32) (a4 : Int32) (a5 : Int32) (H : jH) : Option (Unit × jH) :=
(if (40 : Int32) ≤ (a5 : Int32) then
jg ((jK H a0).1 = 16) (
jg (¬ (8 : Int32) = 0) (
jg ((jK H a0).1 = 16) (
jg (¬ (8 : Int32) = 0) (
jg ((jK H (jR H a0 8)).1 = 100 ∧ jin ((a2 / 8)) (jK H (jR H a0 8)).2) (
jg (¬ (8 : Int32) = 0) (
jg ((jK H (jR H a0 8)).1 = 100 ∧ jF0 ≤ (jR H a0 8) ∧ jin ((a2 / 8)) (jK H (jR H a0 8)).2) (
jl (jsI H (jR H a0 8) ((a2 / 8) : Int32).toNatClampNeg ((jI H (jR H a0 8) ((a2 / 8) : Int32).toNatClampNeg) + (jshl 1 (jrem a2 8)))) fun h4 =>
B_16_quotient_239 k60 a0 a2 h4)))))))
else
jg ((jK H a0).1 = 16) (
jg ((jK H (jR H a0 10)).1 = 100 ∧ jin (a5) (jK H (jR H a0 10)).2) (
jg ((jK H a0).1 = 16) (
jg ((jK H (jR H a0 9)).1 = 100 ∧ jin (a5) (jK H (jR H a0 9)).2) (
jl (((jI H (jR H a0 10) (a5 : Int32).toNatClampNeg) - (jI H (jR H a0 9) (a5 : Int32).toNatClampNeg)) - a4) fun x5 =>
jg ((jK H a0).1 = 16) (
(if 0 ≤ (x5 : Int32) then
B_16_quotient_195 k146 a0 a2 a5 x5 (jR H a0 10) a5 x5 H
else
B_16_quotient_195 k146 a0 a2 a5 x5 (jR H a0 10) a5 (x5 + 256) H)))))))
def F_16_quotient_146 (k60 : Nat → Int32 → jH → Option (Unit × jH)) : Nat → Nat → Int32 → Int32 → Int32 → jH → Option (Unit × jH)
  | 0 => fun _ _ _ _ _ => none
  | n + 1 => fun a0 a2 a4 a5 H => B_16_quotient_146 k60 (F_16_quotient_146 k60 n) a0 a2 a4 a5 H
def B_16_quotient_80 (k60 : Nat → Int32 → jH → Option (Unit × jH)) (k80 : Nat → Int32 → Int32 → Int32 → jH → Option (Unit × jH)) (a0 : Nat) (a2 : Int32) (a3 : Int32) (a4 : Int32) (H : jH) : Option (Unit × jH) :=
(if (40 : Int32) ≤ (a4 : Int32) then
jg ((jK H a0).1 = 16) (
jg ((jK H a0).1 = 16) (
jb (F_16_compareRows (jR H a0 10) (jR H a0 9) H) fun x6 h7 =>
(if (x6 : Int32) < 0 then
B_16_quotient_239 k60 a0 a2 h7
else
F_16_quotient_146 k60 jfuel a0 a2 0 0 h7)))
else
jg ((jK H a0).1 = 16) (
jg ((jK H (jR H a0 10)).1 = 100 ∧ jin (a4) (jK H (jR H a0 10)).2) (
jl ((2 * (jI H (jR H a0 10) (a4 : Int32).toNatClampNeg)) + a3) fun x8 =>
jg ((jK H a0).1 = 16) (
jg (¬ (256 : Int32) = 0) (
jg ((jK H (jR H a0 10)).1 = 100 ∧ jF0 ≤ (jR H a0 10) ∧ jin (a4) (jK H (jR H a0 10)).2) (
jl (jsI H (jR H a0 10) (a4 : Int32).toNatClampNeg (jrem x8 256)) fun h9 =>
jg (¬ (256 : Int32) = 0) (
jl (x8 / 256) fun x10 =>
jl (a4 + 1) fun x11 =>
k80 a0 a2 x10 x11 h9)))))))
def F_16_quotient_80 (k60 : Nat → Int32 → jH → Option (Unit × jH)) : Nat → Nat → Int32 → Int32 → Int32 → jH → Option (Unit × jH)
  | 0 => fun _ _ _ _ _ => none
  | n + 1 => fun a0 a2 a3 a4 H => B_16_quotient_80 k60 (F_16_quotient_80 k60 n) a0 a2 a3 a4 H
def B_16_quotient_76 (k60 : Nat → Int32 → jH → Option (Unit × jH)) (a0 : Nat) (a2 : Int32) (s0 : Int32) (H : jH) : Option (Unit × jH) :=
F_16_quotient_80 k60 jfuel a0 a2 s0 0 H
def B_16_quotient_60 (k60 : Nat → Int32 → jH → Option (Unit × jH)) (a0 : Nat) (a2 : Int32) (H : jH) : Option (Unit × jH) :=
(if (a2 : Int32) < 0 then
some ((), H)
else
(if ¬ (a2 : Int32) = (256 : Int32) then
B_16_quotient_76 k60 a0 a2 0 H
else
B_16_quotient_76 k60 a0 a2 1 H))
def F_16_quotient_60  : Nat → Nat → Int32 → jH → Option (Unit × jH)
  | 0 => fun _ _ _ => none
  | n + 1 => fun a0 a2 H => B_16_quotient_60 (F_16_quotient_60  n) a0 a2 H
def B_16_quotient_4 (k4 : Nat → Int32 → Int32 → jH → Option (Unit × jH)) (a0 : Nat) (a1 : Int32) (a2 : Int32) (H : jH) : Option (Unit × jH) :=
(if (40 : Int32) ≤ (a2 : Int32) then
jg ((jK H a0).1 = 16) (
jb (F_16_nothing (jR H a0 8) H) fun x12 h13 =>
jg ((jK h13 a0).1 = 16) (
jb (F_16_nothing (jR h13 a0 10) h13) fun x14 h15 =>
F_16_quotient_60 jfuel a0 256 h15))
else
jg ((jK H a0).1 = 16) (
jg ((jK H (jR H a0 8)).1 = 100 ∧ jin (a2) (jK H (jR H a0 8)).2) (
jl ((jI H (jR H a0 8) (a2 : Int32).toNatClampNeg) + a1) fun x16 =>
jg ((jK H a0).1 = 16) (
jg (¬ (256 : Int32) = 0) (
jg ((jK H (jR H a0 9)).1 = 100 ∧ jF0 ≤ (jR H a0 9) ∧ jin (a2) (jK H (jR H a0 9)).2) (
jl (jsI H (jR H a0 9) (a2 : Int32).toNatClampNeg (jrem x16 256)) fun h17 =>
jg (¬ (256 : Int32) = 0) (
jl (x16 / 256) fun x18 =>
jl (a2 + 1) fun x19 =>
k4 a0 x18 x19 h17)))))))
def F_16_quotient_4  : Nat → Nat → Int32 → Int32 → jH → Option (Unit × jH)
  | 0 => fun _ _ _ _ => none
  | n + 1 => fun a0 a1 a2 H => B_16_quotient_4 (F_16_quotient_4  n) a0 a1 a2 H
def F_16_quotient (a0 : Nat) (H : jH) : Option (Unit × jH) :=
F_16_quotient_4 jfuel a0 1 0 H
def B_16_join_125 (k91 : Nat → Int32 → Int32 → Int32 → Int32 → jH → Option (Unit × jH)) (a0 : Nat) (a1 : Int32) (a6 : Int32) (a7 : Int32) (a8 : Int32) (s0 : Int32) (s1 : Int32) (H : jH) : Option (Unit × jH) :=
jl ((s0 + s1) + a7) fun x1 =>
jg ((jK H a0).1 = 16) (
jg (¬ (256 : Int32) = 0) (
jg ((jK H (jR H a0 7)).1 = 100 ∧ jF0 ≤ (jR H a0 7) ∧ jin (((40 * a6) + a8)) (jK H (jR H a0 7)).2) (
jl (jsI H (jR H a0 7) (((40 * a6) + a8) : Int32).toNatClampNeg (jrem x1 256)) fun h2 =>
jg (¬ (256 : Int32) = 0) (
jl (x1 / 256) fun x3 =>
jl (a8 + 1) fun x4 =>
k91 a0 a1 a6 x3 x4 h2))))
def B_16_join_91 (k91 : Nat → Int32 → Int32 → Int32 → Int32 → jH → Option (Unit × jH)) (a0 : Nat) (a1 : Int32) (a6 : Int32) (a7 : Int32) (a8 : Int32) (H : jH) : Option (Unit × jH) :=
(if (40 : Int32) ≤ (a8 : Int32) then
some ((), H)
else
jg ((jK H a0).1 = 16) (
jg ((jK H (jR H a0 8)).1 = 100 ∧ jin (a8) (jK H (jR H a0 8)).2) (
(if 0 ≤ (a1 : Int32) then
jg ((jK H a0).1 = 16) (
jg ((jK H (jR H a0 7)).1 = 100 ∧ jin (((40 * a1) + a8)) (jK H (jR H a0 7)).2) (
B_16_join_125 k91 a0 a1 a6 a7 a8 (jI H (jR H a0 8) (a8 : Int32).toNatClampNeg) (jI H (jR H a0 7) (((40 * a1) + a8) : Int32).toNatClampNeg) H))
else
B_16_join_125 k91 a0 a1 a6 a7 a8 (jI H (jR H a0 8) (a8 : Int32).toNatClampNeg) 0 H))))
def F_16_join_91  : Nat → Nat → Int32 → Int32 → Int32 → Int32 → jH → Option (Unit × jH)
  | 0 => fun _ _ _ _ _ _ => none
  | n + 1 => fun a0 a1 a6 a7 a8 H => B_16_join_91 (F_16_join_91  n) a0 a1 a6 a7 a8 H
def B_16_join_36  (a0 : Nat) (a1 : Int32) (a2 : Int64) (a4 : Int64) (a6 : Int32) (s0 : Nat) (s1 : Int32) (s2 : Int32) (H : jH) : Option (Unit × jH) :=
jg ((jK H s0).1 = 100 ∧ jF0 ≤ s0 ∧ jin (s1) (jK H s0).2) (
jl (jsI H s0 (s1 : Int32).toNatClampNeg s2) fun h5 =>
jg ((jK h5 a0).1 = 16) (
jg ((jK h5 (jR h5 a0 4)).1 = 103 ∧ jin (a6) (jK h5 (jR h5 a0 4)).2) (
jl (jsL h5 (jR h5 a0 4) (a6 : Int32).toNatClampNeg a2) fun h6 =>
jg ((jK h6 a0).1 = 16) (
jg ((jK h6 (jR h6 a0 5)).1 = 103 ∧ jin (a6) (jK h6 (jR h6 a0 5)).2) (
jl (jsL h6 (jR h6 a0 5) (a6 : Int32).toNatClampNeg a4) fun h7 =>
jg ((jK h7 a0).1 = 16) (
jg ((jK h7 (jR h7 a0 6)).1 = 102 ∧ jin (a6) (jK h7 (jR h7 a0 6)).2) (
jl (jsI h7 (jR h7 a0 6) (a6 : Int32).toNatClampNeg (0 &&& 1)) fun h8 =>
jg ((jK h8 a0).1 = 16) (
jg ((jK h8 a0).1 = 16) (
jl (jsI h8 a0 1 ((jI h8 a0 1) + 1)) fun h9 =>
jg ((jK h9 a0).1 = 16) (
jb (F_16_open a4 (jR h9 a0 8) h9) fun x10 h11 =>
jg ((jK h11 a0).1 = 16) (
jb (F_16_quotient a0 h11) fun x12 h13 =>
F_16_join_91 jfuel a0 a1 a6 0 0 h13)))))))))))
def F_16_join (a0 : Nat) (a1 : Int32) (a2 : Int64) (a4 : Int64) (H : jH) : Option (Unit × jH) :=
jg ((jK H a0).1 = 16) (
jl (jI H a0 1) fun x14 =>
jg ((jK H a0).1 = 16) (
jg ((jK H (jR H a0 2)).1 = 100 ∧ jF0 ≤ (jR H a0 2) ∧ jin (x14) (jK H (jR H a0 2)).2) (
jl (jsI H (jR H a0 2) (x14 : Int32).toNatClampNeg a1) fun h15 =>
jg ((jK h15 a0).1 = 16) (
(if 0 ≤ (a1 : Int32) then
jg ((jK h15 a0).1 = 16) (
jg ((jK h15 (jR h15 a0 3)).1 = 100 ∧ jin (a1) (jK h15 (jR h15 a0 3)).2) (
B_16_join_36 a0 a1 a2 a4 x14 (jR h15 a0 3) x14 ((jI h15 (jR h15 a0 3) (a1 : Int32).toNatClampNeg) + 1) h15))
else
B_16_join_36 a0 a1 a2 a4 x14 (jR h15 a0 3) x14 0 h15)))))
def B_16_init_109  (a0 : Nat) (a2 : Int32) (s0 : Nat) (s1 : Int32) (H : jH) : Option (Unit × jH) :=
jg ((jK H s0).1 = 16) (
jl (jsI H s0 0 s1) fun h1 =>
jg ((jK h1 a0).1 = 16) (
jb (F_16_join a0 (-1) ((Int32.toInt64 a2) &&& 4294967295) 545259519 h1) fun x2 h3 =>
some ((), h3)))
def B_16_init_107  (a0 : Nat) (a2 : Int32) (s0 : Nat) (H : jH) : Option (Unit × jH) :=
B_16_init_109 a0 a2 s0 100 H
def F_16_init (a0 : Nat) (a1 : Int32) (a2 : Int32) (H : jH) : Option (Unit × jH) :=
jg (jF0 ≤ a0) (
jg (jgn (300)) (
jnw H 100 (300 : Int32).toNatClampNeg fun r4 h5 =>
jg ((jK h5 a0).1 = 16) (
jl (jsR h5 a0 2 r4) fun h6 =>
jg (jgn (300)) (
jnw h6 100 (300 : Int32).toNatClampNeg fun r7 h8 =>
jg ((jK h8 a0).1 = 16) (
jl (jsR h8 a0 3 r7) fun h9 =>
jg (jgn (300)) (
jnw h9 103 (300 : Int32).toNatClampNeg fun r10 h11 =>
jg ((jK h11 a0).1 = 16) (
jl (jsR h11 a0 4 r10) fun h12 =>
jg (jgn (300)) (
jnw h12 103 (300 : Int32).toNatClampNeg fun r13 h14 =>
jg ((jK h14 a0).1 = 16) (
jl (jsR h14 a0 5 r13) fun h15 =>
jg (jgn (300)) (
jnw h15 102 (300 : Int32).toNatClampNeg fun r16 h17 =>
jg ((jK h17 a0).1 = 16) (
jl (jsR h17 a0 6 r16) fun h18 =>
jg (jgn (12000)) (
jnw h18 100 (12000 : Int32).toNatClampNeg fun r19 h20 =>
jg ((jK h20 a0).1 = 16) (
jl (jsR h20 a0 7 r19) fun h21 =>
jg (jgn (40)) (
jnw h21 100 (40 : Int32).toNatClampNeg fun r22 h23 =>
jg ((jK h23 a0).1 = 16) (
jl (jsR h23 a0 8 r22) fun h24 =>
jg (jgn (40)) (
jnw h24 100 (40 : Int32).toNatClampNeg fun r25 h26 =>
jg ((jK h26 a0).1 = 16) (
jl (jsR h26 a0 9 r25) fun h27 =>
jg (jgn (40)) (
jnw h27 100 (40 : Int32).toNatClampNeg fun r28 h29 =>
jg ((jK h29 a0).1 = 16) (
jl (jsR h29 a0 10 r28) fun h30 =>
jg (jgn (11)) (
jnw h30 103 (11 : Int32).toNatClampNeg fun r31 h32 =>
jg ((jK h32 a0).1 = 16) (
jl (jsR h32 a0 11 r31) fun h33 =>
(if (a1 : Int32) < (2 : Int32) then
B_16_init_107 a0 a2 a0 h33
else
(if (300 : Int32) < (a1 : Int32) then
B_16_init_107 a0 a2 a0 h33
else
B_16_init_109 a0 a2 a0 a1 h33)))))))))))))))))))))))
def F_17_init (a0 : Nat) (H : jH) : Option (Unit × jH) :=
jg (jF0 ≤ a0) (
jg (jgn (8)) (
jnw H 100 (8 : Int32).toNatClampNeg fun r1 h2 =>
jg ((jK h2 a0).1 = 17) (
jl (jsR h2 a0 7 r1) fun h3 =>
jg (jgn (8)) (
jnw h3 103 (8 : Int32).toNatClampNeg fun r4 h5 =>
jg ((jK h5 a0).1 = 17) (
jl (jsR h5 a0 8 r4) fun h6 =>
jg (jgn (8)) (
jnw h6 100 (8 : Int32).toNatClampNeg fun r7 h8 =>
jg ((jK h8 a0).1 = 17) (
jl (jsR h8 a0 9 r7) fun h9 =>
jg (jgn (8)) (
jnw h9 100 (8 : Int32).toNatClampNeg fun r10 h11 =>
jg ((jK h11 a0).1 = 17) (
jl (jsR h11 a0 10 r10) fun h12 =>
jg (jgn (8)) (
jnw h12 100 (8 : Int32).toNatClampNeg fun r13 h14 =>
jg ((jK h14 a0).1 = 17) (
jl (jsR h14 a0 11 r13) fun h15 =>
jg (jgn (8)) (
jnw h15 103 (8 : Int32).toNatClampNeg fun r16 h17 =>
jg ((jK h17 a0).1 = 17) (
jl (jsR h17 a0 12 r16) fun h18 =>
jg (jgn (8)) (
jnw h18 100 (8 : Int32).toNatClampNeg fun r19 h20 =>
jg ((jK h20 a0).1 = 17) (
jl (jsR h20 a0 13 r19) fun h21 =>
jg (jgn (8)) (
jnw h21 100 (8 : Int32).toNatClampNeg fun r22 h23 =>
jg ((jK h23 a0).1 = 17) (
jl (jsR h23 a0 14 r22) fun h24 =>
some ((), h24))))))))))))))))))
def B_18_init_431 (k431 : Nat → Int32 → jH → Option (Unit × jH)) (a0 : Nat) (a1 : Int32) (H : jH) : Option (Unit × jH) :=
(if (4 : Int32) ≤ (a1 : Int32) then
jg ((jK H a0).1 = 18) (
jg ((jK H (jR H a0 7)).1 = 100 ∧ jF0 ≤ (jR H a0 7) ∧ jin (0) (jK H (jR H a0 7)).2) (
jl (jsI H (jR H a0 7) (0 : Int32).toNatClampNeg 80) fun h1 =>
jg ((jK h1 a0).1 = 18) (
jg ((jK h1 a0).1 = 18) (
jg ((jK h1 a0).1 = 18) (
jg ((jK h1 (jR h1 a0 0)).1 = 12) (
jb (F_12_name (jR h1 a0 0) (jR h1 a0 6) 0 80 (jR h1 a0 8) 0 h1) fun x2 h3 =>
jg ((jK h3 a0).1 = 18) (
jg ((jK h3 (jR h3 a0 9)).1 = 100 ∧ jF0 ≤ (jR h3 a0 9) ∧ jin (0) (jK h3 (jR h3 a0 9)).2) (
jl (jsI h3 (jR h3 a0 9) (0 : Int32).toNatClampNeg 1) fun h4 =>
some ((), h4)))))))))
else
jg ((jK H a0).1 = 18) (
jg ((jK H (jR H a0 6)).1 = 101 ∧ jin ((68 + a1)) (jK H (jR H a0 6)).2) (
jl (jsB H (jR H a0 6) ((68 + a1) : Int32).toNatClampNeg (jbu (ji2b (jshr 1000000 (8 * a1))))) fun h5 =>
jg ((jK h5 a0).1 = 18) (
jg ((jK h5 (jR h5 a0 6)).1 = 101 ∧ jin ((72 + a1)) (jK h5 (jR h5 a0 6)).2) (
jl (jsB h5 (jR h5 a0 6) ((72 + a1) : Int32).toNatClampNeg (jbu (ji2b (jshr 545259519 (8 * a1))))) fun h6 =>
jl (a1 + 1) fun x7 =>
k431 a0 x7 h6)))))
def F_18_init_431  : Nat → Nat → Int32 → jH → Option (Unit × jH)
  | 0 => fun _ _ _ => none
  | n + 1 => fun a0 a1 H => B_18_init_431 (F_18_init_431  n) a0 a1 H
def F_18_init (a0 : Nat) (H : jH) : Option (Unit × jH) :=
jg (jF0 ≤ a0) (
jnw H 12 4 fun r8 h9 =>
jg (jF0 ≤ r8) (
jb (F_12_init r8 h9) fun x10 h11 =>
jg ((jK h11 a0).1 = 18) (
jl (jsR h11 a0 0 r8) fun h12 =>
jnw h12 15 10 fun r13 h14 =>
jg ((jK h14 a0).1 = 18) (
jg (jF0 ≤ r13) (
jb (F_15_init r13 (jR h14 a0 0) h14) fun x15 h16 =>
jg ((jK h16 a0).1 = 18) (
jl (jsR h16 a0 1 r13) fun h17 =>
jnw h17 14 17 fun r18 h19 =>
jg ((jK h19 a0).1 = 18) (
jg ((jK h19 a0).1 = 18) (
jg (jF0 ≤ r18) (
jb (F_14_init r18 (jR h19 a0 0) (jR h19 a0 1) h19) fun x20 h21 =>
jg ((jK h21 a0).1 = 18) (
jl (jsR h21 a0 2 r18) fun h22 =>
jnw h22 16 12 fun r23 h24 =>
jg (jF0 ≤ r23) (
jb (F_16_init r23 300 1000000 h24) fun x25 h26 =>
jg ((jK h26 a0).1 = 18) (
jl (jsR h26 a0 3 r23) fun h27 =>
jnw h27 17 15 fun r28 h29 =>
jg (jF0 ≤ r28) (
jb (F_17_init r28 h29) fun x30 h31 =>
jg ((jK h31 a0).1 = 18) (
jl (jsR h31 a0 4 r28) fun h32 =>
jnw h32 17 15 fun r33 h34 =>
jg (jF0 ≤ r33) (
jb (F_17_init r33 h34) fun x35 h36 =>
jg ((jK h36 a0).1 = 18) (
jl (jsR h36 a0 5 r33) fun h37 =>
jg (jgn (600000)) (
jnw h37 101 (600000 : Int32).toNatClampNeg fun r38 h39 =>
jg ((jK h39 a0).1 = 18) (
jl (jsR h39 a0 6 r38) fun h40 =>
jg (jgn (300)) (
jnw h40 100 (300 : Int32).toNatClampNeg fun r41 h42 =>
jg ((jK h42 a0).1 = 18) (
jl (jsR h42 a0 7 r41) fun h43 =>
jg (jgn (9600)) (
jnw h43 101 (9600 : Int32).toNatClampNeg fun r44 h45 =>
jg ((jK h45 a0).1 = 18) (
jl (jsR h45 a0 8 r44) fun h46 =>
jg (jgn (300)) (
jnw h46 100 (300 : Int32).toNatClampNeg fun r47 h48 =>
jg ((jK h48 a0).1 = 18) (
jl (jsR h48 a0 9 r47) fun h49 =>
jg (jgn (300)) (
jnw h49 100 (300 : Int32).toNatClampNeg fun r50 h51 =>
jg ((jK h51 a0).1 = 18) (
jl (jsR h51 a0 10 r50) fun h52 =>
jg (jgn (115200)) (
jnw h52 101 (115200 : Int32).toNatClampNeg fun r53 h54 =>
jg ((jK h54 a0).1 = 18) (
jl (jsR h54 a0 11 r53) fun h55 =>
jg (jgn (384)) (
jnw h55 101 (384 : Int32).toNatClampNeg fun r56 h57 =>
jg ((jK h57 a0).1 = 18) (
jl (jsR h57 a0 12 r56) fun h58 =>
jg (jgn (13)) (
jnw h58 100 (13 : Int32).toNatClampNeg fun r59 h60 =>
jg ((jK h60 a0).1 = 18) (
jl (jsR h60 a0 15 r59) fun h61 =>
jg (jgn (54400)) (
jnw h61 101 (54400 : Int32).toNatClampNeg fun r62 h63 =>
jg ((jK h63 a0).1 = 18) (
jl (jsR h63 a0 20 r62) fun h64 =>
jg (jgn (1700)) (
jnw h64 103 (1700 : Int32).toNatClampNeg fun r65 h66 =>
jg ((jK h66 a0).1 = 18) (
jl (jsR h66 a0 21 r65) fun h67 =>
jg (jgn (1700)) (
jnw h67 103 (1700 : Int32).toNatClampNeg fun r68 h69 =>
jg ((jK h69 a0).1 = 18) (
jl (jsR h69 a0 22 r68) fun h70 =>
jg (jgn (1700)) (
jnw h70 100 (1700 : Int32).toNatClampNeg fun r71 h72 =>
jg ((jK h72 a0).1 = 18) (
jl (jsR h72 a0 23 r71) fun h73 =>
jg (jgn (1700)) (
jnw h73 102 (1700 : Int32).toNatClampNeg fun r74 h75 =>
jg ((jK h75 a0).1 = 18) (
jl (jsR h75 a0 24 r74) fun h76 =>
jg (jgn (1700)) (
jnw h76 100 (1700 : Int32).toNatClampNeg fun r77 h78 =>
jg ((jK h78 a0).1 = 18) (
jl (jsR h78 a0 25 r77) fun h79 =>
jg (jgn (1700)) (
jnw h79 100 (1700 : Int32).toNatClampNeg fun r80 h81 =>
jg ((jK h81 a0).1 = 18) (
jl (jsR h81 a0 26 r80) fun h82 =>
jg (jgn (54400)) (
jnw h82 101 (54400 : Int32).toNatClampNeg fun r83 h84 =>
jg ((jK h84 a0).1 = 18) (
jl (jsR h84 a0 29 r83) fun h85 =>
jg (jgn (1700)) (
jnw h85 103 (1700 : Int32).toNatClampNeg fun r86 h87 =>
jg ((jK h87 a0).1 = 18) (
jl (jsR h87 a0 30 r86) fun h88 =>
jg (jgn (1700)) (
jnw h88 103 (1700 : Int32).toNatClampNeg fun r89 h90 =>
jg ((jK h90 a0).1 = 18) (
jl (jsR h90 a0 31 r89) fun h91 =>
jg (jgn (1700)) (
jnw h91 100 (1700 : Int32).toNatClampNeg fun r92 h93 =>
jg ((jK h93 a0).1 = 18) (
jl (jsR h93 a0 32 r92) fun h94 =>
jg (jgn (1700)) (
jnw h94 102 (1700 : Int32).toNatClampNeg fun r95 h96 =>
jg ((jK h96 a0).1 = 18) (
jl (jsR h96 a0 33 r95) fun h97 =>
jg (jgn (1700)) (
jnw h97 100 (1700 : Int32).toNatClampNeg fun r98 h99 =>
jg ((jK h99 a0).1 = 18) (
jl (jsR h99 a0 34 r98) fun h100 =>
jg (jgn (1700)) (
jnw h100 100 (1700 : Int32).toNatClampNeg fun r101 h102 =>
jg ((jK h102 a0).1 = 18) (
jl (jsR h102 a0 35 r101) fun h103 =>
jg (jgn (84000)) (
jnw h103 101 (84000 : Int32).toNatClampNeg fun r104 h105 =>
jg ((jK h105 a0).1 = 18) (
jl (jsR h105 a0 37 r104) fun h106 =>
jg (jgn (42)) (
jnw h106 100 (42 : Int32).toNatClampNeg fun r107 h108 =>
jg ((jK h108 a0).1 = 18) (
jl (jsR h108 a0 38 r107) fun h109 =>
jg (jgn (1344)) (
jnw h109 101 (1344 : Int32).toNatClampNeg fun r110 h111 =>
jg ((jK h111 a0).1 = 18) (
jl (jsR h111 a0 39 r110) fun h112 =>
jg (jgn (42)) (
jnw h112 103 (42 : Int32).toNatClampNeg fun r113 h114 =>
jg ((jK h114 a0).1 = 18) (
jl (jsR h114 a0 40 r113) fun h115 =>
jg (jgn (42)) (
jnw h115 100 (42 : Int32).toNatClampNeg fun r116 h117 =>
jg ((jK h117 a0).1 = 18) (
jl (jsR h117 a0 41 r116) fun h118 =>
jg (jgn (336)) (
jnw h118 100 (336 : Int32).toNatClampNeg fun r119 h120 =>
jg ((jK h120 a0).1 = 18) (
jl (jsR h120 a0 42 r119) fun h121 =>
jg (jgn (336)) (
jnw h121 103 (336 : Int32).toNatClampNeg fun r122 h123 =>
jg ((jK h123 a0).1 = 18) (
jl (jsR h123 a0 43 r122) fun h124 =>
jg (jgn (42)) (
jnw h124 102 (42 : Int32).toNatClampNeg fun r125 h126 =>
jg ((jK h126 a0).1 = 18) (
jl (jsR h126 a0 44 r125) fun h127 =>
jg (jgn (84000)) (
jnw h127 101 (84000 : Int32).toNatClampNeg fun r128 h129 =>
jg ((jK h129 a0).1 = 18) (
jl (jsR h129 a0 45 r128) fun h130 =>
jg (jgn (42)) (
jnw h130 100 (42 : Int32).toNatClampNeg fun r131 h132 =>
jg ((jK h132 a0).1 = 18) (
jl (jsR h132 a0 46 r131) fun h133 =>
jg (jgn (2000)) (
jnw h133 101 (2000 : Int32).toNatClampNeg fun r134 h135 =>
jg ((jK h135 a0).1 = 18) (
jl (jsR h135 a0 47 r134) fun h136 =>
jg (jgn (32)) (
jnw h136 101 (32 : Int32).toNatClampNeg fun r137 h138 =>
jg ((jK h138 a0).1 = 18) (
jl (jsR h138 a0 49 r137) fun h139 =>
jg (jgn (448)) (
jnw h139 101 (448 : Int32).toNatClampNeg fun r140 h141 =>
jg ((jK h141 a0).1 = 18) (
jl (jsR h141 a0 50 r140) fun h142 =>
jg (jgn (32)) (
jnw h142 101 (32 : Int32).toNatClampNeg fun r143 h144 =>
jg ((jK h144 a0).1 = 18) (
jl (jsR h144 a0 51 r143) fun h145 =>
jg (jgn (32000)) (
jnw h145 101 (32000 : Int32).toNatClampNeg fun r146 h147 =>
jg ((jK h147 a0).1 = 18) (
jl (jsR h147 a0 53 r146) fun h148 =>
jg (jgn (4)) (
jnw h148 100 (4 : Int32).toNatClampNeg fun r149 h150 =>
jg ((jK h150 a0).1 = 18) (
jl (jsR h150 a0 54 r149) fun h151 =>
jg (jgn (2200)) (
jnw h151 101 (2200 : Int32).toNatClampNeg fun r152 h153 =>
jg ((jK h153 a0).1 = 18) (
jl (jsR h153 a0 55 r152) fun h154 =>
jg ((jK h154 a0).1 = 18) (
jg ((jK h154 (jR h154 a0 6)).1 = 101 ∧ jin (0) (jK h154 (jR h154 a0 6)).2) (
jl (jsB h154 (jR h154 a0 6) (0 : Int32).toNatClampNeg (jbu 1)) fun h155 =>
F_18_init_431 jfuel a0 0 h155))))))))))))))))))))))))))))))))))))))))))))))))))))))))))))))))))))))))))))))))))))))))))))))))
def B_18_coin_46 (k3 : Nat → Nat → Int32 → Int64 → Int32 → jH → Option (Int32 × jH)) (a0 : Nat) (a1 : Nat) (a2 : Int32) (a3 : Int64) (a5 : Int32) (H : jH) : Option (Int32 × jH) :=
jl (a5 + 1) fun x1 =>
k3 a0 a1 a2 a3 x1 H
def B_18_coin_3 (k3 : Nat → Nat → Int32 → Int64 → Int32 → jH → Option (Int32 × jH)) (a0 : Nat) (a1 : Nat) (a2 : Int32) (a3 : Int64) (a5 : Int32) (H : jH) : Option (Int32 × jH) :=
jg ((jK H a0).1 = 18) (
(if ((jI H a0 17) : Int32) ≤ (a5 : Int32) then
some ((-1), H)
else
jg ((jK H a0).1 = 18) (
jg ((jK H (jR H a0 21)).1 = 103 ∧ jin (a5) (jK H (jR H a0 21)).2) (
(if ¬ ((jL H (jR H a0 21) (a5 : Int32).toNatClampNeg) : Int64) = a3 then
B_18_coin_46 k3 a0 a1 a2 a3 a5 H
else
jg ((jK H a0).1 = 18) (
jb (F_18_like (jR H a0 20) (32 * a5) a1 a2 32 H) fun x2 h3 =>
(if (x2 : Int32) = 0 then
B_18_coin_46 k3 a0 a1 a2 a3 a5 h3
else
some (a5, h3))))))))
def F_18_coin_3  : Nat → Nat → Nat → Int32 → Int64 → Int32 → jH → Option (Int32 × jH)
  | 0 => fun _ _ _ _ _ _ => none
  | n + 1 => fun a0 a1 a2 a3 a5 H => B_18_coin_3 (F_18_coin_3  n) a0 a1 a2 a3 a5 H
def F_18_coin (a0 : Nat) (a1 : Nat) (a2 : Int32) (a3 : Int64) (H : jH) : Option (Int32 × jH) :=
F_18_coin_3 jfuel a0 a1 a2 a3 0 H
def B_18_dropCoin_22 (k22 : Nat → Int32 → Int32 → jH → Option (Unit × jH)) (a0 : Nat) (a1 : Int32) (a2 : Int32) (H : jH) : Option (Unit × jH) :=
(if (32 : Int32) ≤ (a2 : Int32) then
jg ((jK H a0).1 = 18) (
jg ((jK H a0).1 = 18) (
jg ((jK H a0).1 = 18) (
jg ((jK H (jR H a0 21)).1 = 103 ∧ jin ((jI H a0 17)) (jK H (jR H a0 21)).2) (
jg ((jK H (jR H a0 21)).1 = 103 ∧ jin (a1) (jK H (jR H a0 21)).2) (
jl (jsL H (jR H a0 21) (a1 : Int32).toNatClampNeg (jL H (jR H a0 21) ((jI H a0 17) : Int32).toNatClampNeg)) fun h1 =>
jg ((jK h1 a0).1 = 18) (
jg ((jK h1 a0).1 = 18) (
jg ((jK h1 a0).1 = 18) (
jg ((jK h1 (jR h1 a0 22)).1 = 103 ∧ jin ((jI h1 a0 17)) (jK h1 (jR h1 a0 22)).2) (
jg ((jK h1 (jR h1 a0 22)).1 = 103 ∧ jin (a1) (jK h1 (jR h1 a0 22)).2) (
jl (jsL h1 (jR h1 a0 22) (a1 : Int32).toNatClampNeg (jL h1 (jR h1 a0 22) ((jI h1 a0 17) : Int32).toNatClampNeg)) fun h2 =>
jg ((jK h2 a0).1 = 18) (
jg ((jK h2 a0).1 = 18) (
jg ((jK h2 a0).1 = 18) (
jg ((jK h2 (jR h2 a0 23)).1 = 100 ∧ jin ((jI h2 a0 17)) (jK h2 (jR h2 a0 23)).2) (
jg ((jK h2 (jR h2 a0 23)).1 = 100 ∧ jF0 ≤ (jR h2 a0 23) ∧ jin (a1) (jK h2 (jR h2 a0 23)).2) (
jl (jsI h2 (jR h2 a0 23) (a1 : Int32).toNatClampNeg (jI h2 (jR h2 a0 23) ((jI h2 a0 17) : Int32).toNatClampNeg)) fun h3 =>
jg ((jK h3 a0).1 = 18) (
jg ((jK h3 a0).1 = 18) (
jg ((jK h3 a0).1 = 18) (
jg ((jK h3 (jR h3 a0 24)).1 = 102 ∧ jin ((jI h3 a0 17)) (jK h3 (jR h3 a0 24)).2) (
jg ((jK h3 (jR h3 a0 24)).1 = 102 ∧ jin (a1) (jK h3 (jR h3 a0 24)).2) (
jl (jsI h3 (jR h3 a0 24) (a1 : Int32).toNatClampNeg ((jI h3 (jR h3 a0 24) ((jI h3 a0 17) : Int32).toNatClampNeg) &&& 1)) fun h4 =>
jg ((jK h4 a0).1 = 18) (
jg ((jK h4 a0).1 = 18) (
jg ((jK h4 a0).1 = 18) (
jg ((jK h4 (jR h4 a0 25)).1 = 100 ∧ jin ((jI h4 a0 17)) (jK h4 (jR h4 a0 25)).2) (
jg ((jK h4 (jR h4 a0 25)).1 = 100 ∧ jF0 ≤ (jR h4 a0 25) ∧ jin (a1) (jK h4 (jR h4 a0 25)).2) (
jl (jsI h4 (jR h4 a0 25) (a1 : Int32).toNatClampNeg (jI h4 (jR h4 a0 25) ((jI h4 a0 17) : Int32).toNatClampNeg)) fun h5 =>
jg ((jK h5 a0).1 = 18) (
jg ((jK h5 a0).1 = 18) (
jg ((jK h5 a0).1 = 18) (
jg ((jK h5 (jR h5 a0 26)).1 = 100 ∧ jin ((jI h5 a0 17)) (jK h5 (jR h5 a0 26)).2) (
jg ((jK h5 (jR h5 a0 26)).1 = 100 ∧ jF0 ≤ (jR h5 a0 26) ∧ jin (a1) (jK h5 (jR h5 a0 26)).2) (
jl (jsI h5 (jR h5 a0 26) (a1 : Int32).toNatClampNeg (jI h5 (jR h5 a0 26) ((jI h5 a0 17) : Int32).toNatClampNeg)) fun h6 =>
some ((), h6)))))))))))))))))))))))))))))))
else
jg ((jK H a0).1 = 18) (
jg ((jK H a0).1 = 18) (
jg ((jK H a0).1 = 18) (
jg ((jK H (jR H a0 20)).1 = 101 ∧ jin (((32 * (jI H a0 17)) + a2)) (jK H (jR H a0 20)).2) (
jg ((jK H (jR H a0 20)).1 = 101 ∧ jin (((32 * a1) + a2)) (jK H (jR H a0 20)).2) (
jl (jsB H (jR H a0 20) (((32 * a1) + a2) : Int32).toNatClampNeg (jbu (jbs (jB H (jR H a0 20) (((32 * (jI H a0 17)) + a2) : Int32).toNatClampNeg)))) fun h7 =>
jl (a2 + 1) fun x8 =>
k22 a0 a1 x8 h7))))))
def F_18_dropCoin_22  : Nat → Nat → Int32 → Int32 → jH → Option (Unit × jH)
  | 0 => fun _ _ _ _ => none
  | n + 1 => fun a0 a1 a2 H => B_18_dropCoin_22 (F_18_dropCoin_22  n) a0 a1 a2 H
def F_18_dropCoin (a0 : Nat) (a1 : Int32) (H : jH) : Option (Unit × jH) :=
jg ((jK H a0).1 = 18) (
jg ((jK H a0).1 = 18) (
jl (jsI H a0 17 ((jI H a0 17) - 1)) fun h9 =>
jg ((jK h9 a0).1 = 18) (
jg ((jK h9 a0).1 = 18) (
jl (jsI h9 a0 18 ((jI h9 a0 18) + 1)) fun h10 =>
F_18_dropCoin_22 jfuel a0 a1 0 h10))))
def B_18_apply_72 (k58 : Nat → Int32 → Int32 → Int32 → jH → Option (Unit × jH)) (k72 : Nat → Int32 → Int32 → Int32 → Int32 → jH → Option (Unit × jH)) (a0 : Nat) (a1 : Int32) (a2 : Int32) (a3 : Int32) (a4 : Int32) (H : jH) : Option (Unit × jH) :=
(if (32 : Int32) ≤ (a4 : Int32) then
jg ((jK H a0).1 = 18) (
jg ((jK H a0).1 = 18) (
jg ((jK H (jR H a0 21)).1 = 103 ∧ jin ((jI H a0 17)) (jK H (jR H a0 21)).2) (
jl (jsL H (jR H a0 21) ((jI H a0 17) : Int32).toNatClampNeg (Int32.toInt64 a3)) fun h1 =>
jg ((jK h1 a0).1 = 18) (
jg ((jK h1 a0).1 = 18) (
jg ((jK h1 a0).1 = 18) (
jg ((jK h1 (jR h1 a0 4)).1 = 17) (
jg ((jK h1 (jR h1 (jR h1 a0 4) 12)).1 = 103 ∧ jin (a3) (jK h1 (jR h1 (jR h1 a0 4) 12)).2) (
jg ((jK h1 (jR h1 a0 22)).1 = 103 ∧ jin ((jI h1 a0 17)) (jK h1 (jR h1 a0 22)).2) (
jl (jsL h1 (jR h1 a0 22) ((jI h1 a0 17) : Int32).toNatClampNeg (jL h1 (jR h1 (jR h1 a0 4) 12) (a3 : Int32).toNatClampNeg)) fun h2 =>
jg ((jK h2 a0).1 = 18) (
jg ((jK h2 a0).1 = 18) (
jg ((jK h2 (jR h2 a0 23)).1 = 100 ∧ jF0 ≤ (jR h2 a0 23) ∧ jin ((jI h2 a0 17)) (jK h2 (jR h2 a0 23)).2) (
jl (jsI h2 (jR h2 a0 23) ((jI h2 a0 17) : Int32).toNatClampNeg a1) fun h3 =>
jg ((jK h3 a0).1 = 18) (
jg ((jK h3 a0).1 = 18) (
jg ((jK h3 (jR h3 a0 24)).1 = 102 ∧ jin ((jI h3 a0 17)) (jK h3 (jR h3 a0 24)).2) (
jl (jsI h3 (jR h3 a0 24) ((jI h3 a0 17) : Int32).toNatClampNeg (a2 &&& 1)) fun h4 =>
jg ((jK h4 a0).1 = 18) (
jg ((jK h4 a0).1 = 18) (
jg ((jK h4 a0).1 = 18) (
jg ((jK h4 (jR h4 a0 4)).1 = 17) (
jg ((jK h4 (jR h4 (jR h4 a0 4) 13)).1 = 100 ∧ jin (a3) (jK h4 (jR h4 (jR h4 a0 4) 13)).2) (
jg ((jK h4 (jR h4 a0 25)).1 = 100 ∧ jF0 ≤ (jR h4 a0 25) ∧ jin ((jI h4 a0 17)) (jK h4 (jR h4 a0 25)).2) (
jl (jsI h4 (jR h4 a0 25) ((jI h4 a0 17) : Int32).toNatClampNeg (jI h4 (jR h4 (jR h4 a0 4) 13) (a3 : Int32).toNatClampNeg)) fun h5 =>
jg ((jK h5 a0).1 = 18) (
jg ((jK h5 a0).1 = 18) (
jg ((jK h5 a0).1 = 18) (
jg ((jK h5 (jR h5 a0 4)).1 = 17) (
jg ((jK h5 (jR h5 (jR h5 a0 4) 14)).1 = 100 ∧ jin (a3) (jK h5 (jR h5 (jR h5 a0 4) 14)).2) (
jg ((jK h5 (jR h5 a0 26)).1 = 100 ∧ jF0 ≤ (jR h5 a0 26) ∧ jin ((jI h5 a0 17)) (jK h5 (jR h5 a0 26)).2) (
jl (jsI h5 (jR h5 a0 26) ((jI h5 a0 17) : Int32).toNatClampNeg (jI h5 (jR h5 (jR h5 a0 4) 14) (a3 : Int32).toNatClampNeg)) fun h6 =>
jg ((jK h6 a0).1 = 18) (
jg ((jK h6 a0).1 = 18) (
jl (jsI h6 a0 17 ((jI h6 a0 17) + 1)) fun h7 =>
jl (a3 + 1) fun x8 =>
k58 a0 a1 a2 x8 h7)))))))))))))))))))))))))))))
else
jg ((jK H a0).1 = 18) (
jg ((jK H a0).1 = 18) (
jg ((jK H a0).1 = 18) (
jg ((jK H (jR H a0 49)).1 = 101 ∧ jin (a4) (jK H (jR H a0 49)).2) (
jg ((jK H (jR H a0 20)).1 = 101 ∧ jin (((32 * (jI H a0 17)) + a4)) (jK H (jR H a0 20)).2) (
jl (jsB H (jR H a0 20) (((32 * (jI H a0 17)) + a4) : Int32).toNatClampNeg (jbu (jbs (jB H (jR H a0 49) (a4 : Int32).toNatClampNeg)))) fun h9 =>
jl (a4 + 1) fun x10 =>
k72 a0 a1 a2 a3 x10 h9))))))
def F_18_apply_72 (k58 : Nat → Int32 → Int32 → Int32 → jH → Option (Unit × jH)) : Nat → Nat → Int32 → Int32 → Int32 → Int32 → jH → Option (Unit × jH)
  | 0 => fun _ _ _ _ _ _ => none
  | n + 1 => fun a0 a1 a2 a3 a4 H => B_18_apply_72 k58 (F_18_apply_72 k58 n) a0 a1 a2 a3 a4 H
def B_18_apply_58 (k58 : Nat → Int32 → Int32 → Int32 → jH → Option (Unit × jH)) (a0 : Nat) (a1 : Int32) (a2 : Int32) (a3 : Int32) (H : jH) : Option (Unit × jH) :=
jg ((jK H a0).1 = 18) (
jg ((jK H (jR H a0 4)).1 = 17) (
(if ((jI H (jR H a0 4) 5) : Int32) ≤ (a3 : Int32) then
some ((), H)
else
F_18_apply_72 k58 jfuel a0 a1 a2 a3 0 H)))
def F_18_apply_58  : Nat → Nat → Int32 → Int32 → Int32 → jH → Option (Unit × jH)
  | 0 => fun _ _ _ _ _ => none
  | n + 1 => fun a0 a1 a2 a3 H => B_18_apply_58 (F_18_apply_58  n) a0 a1 a2 a3 H
def B_18_apply_56  (a0 : Nat) (a1 : Int32) (a2 : Int32) (H : jH) : Option (Unit × jH) :=
F_18_apply_58 jfuel a0 a1 a2 0 H
def B_18_apply_2 (k2 : Nat → Int32 → Int32 → Int32 → jH → Option (Unit × jH)) (a0 : Nat) (a1 : Int32) (a2 : Int32) (a3 : Int32) (H : jH) : Option (Unit × jH) :=
jg ((jK H a0).1 = 18) (
jg ((jK H (jR H a0 4)).1 = 17) (
(if ((jI H (jR H a0 4) 4) : Int32) ≤ (a3 : Int32) then
B_18_apply_56 a0 a1 a2 H
else
(if ¬ (a2 : Int32) = 0 then
B_18_apply_56 a0 a1 a2 H
else
jg ((jK H a0).1 = 18) (
jg ((jK H (jR H a0 4)).1 = 17) (
jg ((jK H a0).1 = 18) (
jg ((jK H (jR H a0 4)).1 = 17) (
jg ((jK H (jR H (jR H a0 4) 7)).1 = 100 ∧ jin (a3) (jK H (jR H (jR H a0 4) 7)).2) (
jg ((jK H a0).1 = 18) (
jg ((jK H (jR H a0 4)).1 = 17) (
jg ((jK H (jR H (jR H a0 4) 8)).1 = 103 ∧ jin (a3) (jK H (jR H (jR H a0 4) 8)).2) (
jg ((jK H a0).1 = 18) (
jb (F_18_coin a0 (jR H (jR H a0 4) 0) (jI H (jR H (jR H a0 4) 7) (a3 : Int32).toNatClampNeg) (jL H (jR H (jR H a0 4) 8) (a3 : Int32).toNatClampNeg) H) fun x11 h12 =>
jg ((jK h12 a0).1 = 18) (
jb (F_18_dropCoin a0 x11 h12) fun x13 h14 =>
jl (a3 + 1) fun x15 =>
k2 a0 a1 a2 x15 h14))))))))))))))
def F_18_apply_2  : Nat → Nat → Int32 → Int32 → Int32 → jH → Option (Unit × jH)
  | 0 => fun _ _ _ _ _ => none
  | n + 1 => fun a0 a1 a2 a3 H => B_18_apply_2 (F_18_apply_2  n) a0 a1 a2 a3 H
def F_18_apply (a0 : Nat) (a1 : Int32) (a2 : Int32) (H : jH) : Option (Unit × jH) :=
F_18_apply_2 jfuel a0 a1 a2 0 H
def F_17_bytes (a0 : Nat) (H : jH) : Option (Int32 × jH) :=
jg ((jK H a0).1 = 17) (
jg ((jK H a0).1 = 17) (
some (((jI H a0 3) - (jI H a0 1)), H)))
def F_18_nameOf (a0 : Nat) (a1 : Nat) (a2 : Nat) (a3 : Int32) (H : jH) : Option (Unit × jH) :=
jg ((jK H a0).1 = 18) (
jg ((jK H a1).1 = 17) (
jg ((jK H a1).1 = 17) (
jg ((jK H a1).1 = 17) (
jb (F_17_bytes a1 H) fun x1 h2 =>
jg ((jK h2 (jR H a0 0)).1 = 12) (
jb (F_12_name (jR H a0 0) (jR H a1 0) (jI H a1 1) x1 a2 a3 h2) fun x3 h4 =>
some ((), h4))))))
def B_17_pass_50  (s0 : Nat) (s1 : Int32) (H : jH) : Option (Unit × jH) :=
jg ((jK H s0).1 = 17) (
jl (jsI H s0 3 s1) fun h1 =>
some ((), h1))
def B_17_pass_26  (a0 : Nat) (a1 : Int32) (s0 : Nat) (s1 : Int32) (H : jH) : Option (Unit × jH) :=
jg ((jK H s0).1 = 17 ∧ ((s1 : Int32) = 0 ∨ (s1 : Int32) = 1)) (
jl (jsI H s0 6 s1) fun h2 =>
jg ((jK h2 a0).1 = 17) (
(if ((jI h2 a0 6) : Int32) = 0 then
jg ((jK h2 a0).1 = 17) (
B_17_pass_50 a0 (jI h2 a0 3) h2)
else
jg ((jK h2 a0).1 = 17) (
B_17_pass_50 a0 ((jI h2 a0 3) + a1) h2))))
def B_17_pass_25  (a0 : Nat) (a1 : Int32) (s0 : Nat) (H : jH) : Option (Unit × jH) :=
B_17_pass_26 a0 a1 s0 0 H
def F_17_pass (a0 : Nat) (a1 : Int32) (H : jH) : Option (Unit × jH) :=
jg ((jK H a0).1 = 17) (
(if ((jI H a0 6) : Int32) = 0 then
B_17_pass_25 a0 a1 a0 H
else
jg ((jK H a0).1 = 17) (
jg ((jK H a0).1 = 17) (
(if ((jI H a0 2) : Int32) < (((jI H a0 3) + a1) : Int32) then
B_17_pass_25 a0 a1 a0 H
else
B_17_pass_26 a0 a1 a0 1 H)))))
def B_17_low_52  (a2 : Int64) (H : jH) : Option (Int64 × jH) :=
some (a2, H)
def B_17_low_10 (k10 : Nat → Int32 → Int64 → Int32 → jH → Option (Int64 × jH)) (a0 : Nat) (a1 : Int32) (a2 : Int64) (a4 : Int32) (H : jH) : Option (Int64 × jH) :=
(if (a1 : Int32) < (a4 : Int32) then
B_17_low_52 a2 H
else
jg ((jK H a0).1 = 17) (
(if ((jI H a0 6) : Int32) = 0 then
B_17_low_52 a2 H
else
jg ((jK H a0).1 = 17) (
jg ((jK H a0).1 = 17) (
jg ((jK H (jR H a0 0)).1 = 101 ∧ jin (((jI H a0 3) - a4)) (jK H (jR H a0 0)).2) (
jl ((jshlL a2 8) ||| (Int32.toInt64 ((jbs (jB H (jR H a0 0) (((jI H a0 3) - a4) : Int32).toNatClampNeg)) &&& 255))) fun x1 =>
jl (a4 + 1) fun x2 =>
k10 a0 a1 x1 x2 H))))))
def F_17_low_10  : Nat → Nat → Int32 → Int64 → Int32 → jH → Option (Int64 × jH)
  | 0 => fun _ _ _ _ _ => none
  | n + 1 => fun a0 a1 a2 a4 H => B_17_low_10 (F_17_low_10  n) a0 a1 a2 a4 H
def F_17_low (a0 : Nat) (a1 : Int32) (H : jH) : Option (Int64 × jH) :=
jg ((jK H a0).1 = 17) (
jb (F_17_pass a0 a1 H) fun x3 h4 =>
F_17_low_10 jfuel a0 a1 0 1 h4)
def B_17_size_175  (s0 : Int32) (H : jH) : Option (Int32 × jH) :=
some (s0, H)
def B_17_size_159  (a0 : Nat) (a2 : Int64) (s0 : Nat) (s1 : Int32) (H : jH) : Option (Int32 × jH) :=
jg ((jK H s0).1 = 17 ∧ ((s1 : Int32) = 0 ∨ (s1 : Int32) = 1)) (
jl (jsI H s0 6 s1) fun h1 =>
jg ((jK h1 a0).1 = 17) (
(if ((jI h1 a0 6) : Int32) = 0 then
B_17_size_175 0 h1
else
B_17_size_175 (Int64.toInt32 a2) h1)))
def B_17_size_158  (a0 : Nat) (a2 : Int64) (s0 : Nat) (H : jH) : Option (Int32 × jH) :=
B_17_size_159 a0 a2 s0 0 H
def B_17_size_133  (a0 : Nat) (a1 : Int32) (a2 : Int64) (H : jH) : Option (Int32 × jH) :=
jg ((jK H a0).1 = 17) (
(if ((jI H a0 6) : Int32) = 0 then
B_17_size_158 a0 a2 a0 H
else
(if (a2 : Int64) < 0 then
B_17_size_158 a0 a2 a0 H
else
(if (Int32.toInt64 a1) < (a2 : Int64) then
B_17_size_158 a0 a2 a0 H
else
B_17_size_159 a0 a2 a0 1 H))))
def B_17_size_41  (a0 : Nat) (a1 : Int32) (a2 : Int64) (s0 : Nat) (s1 : Int32) (H : jH) : Option (Int32 × jH) :=
jg ((jK H s0).1 = 17 ∧ ((s1 : Int32) = 0 ∨ (s1 : Int32) = 1)) (
jl (jsI H s0 6 s1) fun h2 =>
B_17_size_133 a0 a1 a2 h2)
def B_17_size_40  (a0 : Nat) (a1 : Int32) (a2 : Int64) (s0 : Nat) (H : jH) : Option (Int32 × jH) :=
B_17_size_41 a0 a1 a2 s0 0 H
def B_17_size_82  (a0 : Nat) (a1 : Int32) (a2 : Int64) (s0 : Nat) (s1 : Int32) (H : jH) : Option (Int32 × jH) :=
jg ((jK H s0).1 = 17 ∧ ((s1 : Int32) = 0 ∨ (s1 : Int32) = 1)) (
jl (jsI H s0 6 s1) fun h3 =>
B_17_size_133 a0 a1 a2 h3)
def B_17_size_81  (a0 : Nat) (a1 : Int32) (a2 : Int64) (s0 : Nat) (H : jH) : Option (Int32 × jH) :=
B_17_size_82 a0 a1 a2 s0 0 H
def B_17_size_130  (a0 : Nat) (a1 : Int32) (a2 : Int64) (s0 : Nat) (s1 : Int32) (H : jH) : Option (Int32 × jH) :=
jg ((jK H s0).1 = 17 ∧ ((s1 : Int32) = 0 ∨ (s1 : Int32) = 1)) (
jl (jsI H s0 6 s1) fun h4 =>
B_17_size_133 a0 a1 a2 h4)
def B_17_size_125  (a0 : Nat) (a1 : Int32) (a2 : Int64) (s0 : Nat) (H : jH) : Option (Int32 × jH) :=
B_17_size_130 a0 a1 a2 s0 1 H
def B_17_size_129  (a0 : Nat) (a1 : Int32) (a2 : Int64) (s0 : Nat) (H : jH) : Option (Int32 × jH) :=
B_17_size_130 a0 a1 a2 s0 0 H
def F_17_size (a0 : Nat) (a1 : Int32) (H : jH) : Option (Int32 × jH) :=
jg ((jK H a0).1 = 17) (
jb (F_17_low a0 1 H) fun x5 h6 =>
(if ¬ (x5 : Int64) = 253 then
(if ¬ (x5 : Int64) = 254 then
(if ¬ (x5 : Int64) = 255 then
B_17_size_133 a0 a1 x5 h6
else
jg ((jK h6 a0).1 = 17) (
jb (F_17_low a0 8 h6) fun x7 h8 =>
jg ((jK h8 a0).1 = 17) (
(if ((jI h8 a0 6) : Int32) = 0 then
B_17_size_129 a0 a1 x7 a0 h8
else
(if (x7 : Int64) < 0 then
B_17_size_125 a0 a1 x7 a0 h8
else
(if (x7 : Int64) ≤ 4294967295 then
B_17_size_129 a0 a1 x7 a0 h8
else
B_17_size_125 a0 a1 x7 a0 h8))))))
else
jg ((jK h6 a0).1 = 17) (
jb (F_17_low a0 4 h6) fun x9 h10 =>
jg ((jK h10 a0).1 = 17) (
(if ((jI h10 a0 6) : Int32) = 0 then
B_17_size_81 a0 a1 x9 a0 h10
else
(if (x9 : Int64) ≤ 65535 then
B_17_size_81 a0 a1 x9 a0 h10
else
B_17_size_82 a0 a1 x9 a0 1 h10)))))
else
jg ((jK h6 a0).1 = 17) (
jb (F_17_low a0 2 h6) fun x11 h12 =>
jg ((jK h12 a0).1 = 17) (
(if ((jI h12 a0 6) : Int32) = 0 then
B_17_size_40 a0 a1 x11 a0 h12
else
(if (x11 : Int64) ≤ 252 then
B_17_size_40 a0 a1 x11 a0 h12
else
B_17_size_41 a0 a1 x11 a0 1 h12))))))
def B_17_read_236  (s0 : Int32) (H : jH) : Option (Int32 × jH) :=
some (s0, H)
def B_17_read_152 (k152 : Nat → Int32 → jH → Option (Int32 × jH)) (a0 : Nat) (a4 : Int32) (H : jH) : Option (Int32 × jH) :=
jg ((jK H a0).1 = 17) (
(if ((jI H a0 5) : Int32) ≤ (a4 : Int32) then
jg ((jK H a0).1 = 17) (
jb (F_17_pass a0 4 H) fun x1 h2 =>
jg ((jK h2 a0).1 = 17) (
(if ((jI h2 a0 6) : Int32) = 0 then
B_17_read_236 (-1) h2
else
jg ((jK h2 a0).1 = 17) (
B_17_read_236 (jI h2 a0 3) h2))))
else
jg ((jK H a0).1 = 17) (
jg ((jK H a0).1 = 17) (
jb (F_17_low a0 8 H) fun x3 h4 =>
jg ((jK h4 (jR H a0 12)).1 = 103 ∧ jin (a4) (jK h4 (jR H a0 12)).2) (
jl (jsL h4 (jR H a0 12) (a4 : Int32).toNatClampNeg x3) fun h5 =>
jg ((jK h5 a0).1 = 17) (
jg ((jK h5 a0).1 = 17) (
jb (F_17_size a0 200 h5) fun x6 h7 =>
jg ((jK h7 (jR h5 a0 14)).1 = 100 ∧ jF0 ≤ (jR h5 a0 14) ∧ jin (a4) (jK h7 (jR h5 a0 14)).2) (
jl (jsI h7 (jR h5 a0 14) (a4 : Int32).toNatClampNeg x6) fun h8 =>
jg ((jK h8 a0).1 = 17) (
jg ((jK h8 a0).1 = 17) (
jg ((jK h8 (jR h8 a0 13)).1 = 100 ∧ jF0 ≤ (jR h8 a0 13) ∧ jin (a4) (jK h8 (jR h8 a0 13)).2) (
jl (jsI h8 (jR h8 a0 13) (a4 : Int32).toNatClampNeg (jI h8 a0 3)) fun h9 =>
jg ((jK h9 a0).1 = 17) (
jg ((jK h9 (jR h9 a0 14)).1 = 100 ∧ jin (a4) (jK h9 (jR h9 a0 14)).2) (
jg ((jK h9 a0).1 = 17) (
jb (F_17_pass a0 (jI h9 (jR h9 a0 14) (a4 : Int32).toNatClampNeg) h9) fun x10 h11 =>
jl (a4 + 1) fun x12 =>
k152 a0 x12 h11))))))))))))))
def F_17_read_152  : Nat → Nat → Int32 → jH → Option (Int32 × jH)
  | 0 => fun _ _ _ => none
  | n + 1 => fun a0 a4 H => B_17_read_152 (F_17_read_152  n) a0 a4 H
def B_17_read_43 (k43 : Nat → Int32 → jH → Option (Int32 × jH)) (a0 : Nat) (a4 : Int32) (H : jH) : Option (Int32 × jH) :=
jg ((jK H a0).1 = 17) (
(if ((jI H a0 4) : Int32) ≤ (a4 : Int32) then
jg ((jK H a0).1 = 17) (
jb (F_17_size a0 8 H) fun x13 h14 =>
jg ((jK h14 a0).1 = 17) (
jl (jsI h14 a0 5 x13) fun h15 =>
F_17_read_152 jfuel a0 0 h15))
else
jg ((jK H a0).1 = 17) (
jg ((jK H a0).1 = 17) (
jg ((jK H (jR H a0 7)).1 = 100 ∧ jF0 ≤ (jR H a0 7) ∧ jin (a4) (jK H (jR H a0 7)).2) (
jl (jsI H (jR H a0 7) (a4 : Int32).toNatClampNeg (jI H a0 3)) fun h16 =>
jg ((jK h16 a0).1 = 17) (
jb (F_17_pass a0 32 h16) fun x17 h18 =>
jg ((jK h18 a0).1 = 17) (
jg ((jK h18 a0).1 = 17) (
jb (F_17_low a0 4 h18) fun x19 h20 =>
jg ((jK h20 (jR h18 a0 8)).1 = 103 ∧ jin (a4) (jK h20 (jR h18 a0 8)).2) (
jl (jsL h20 (jR h18 a0 8) (a4 : Int32).toNatClampNeg x19) fun h21 =>
jg ((jK h21 a0).1 = 17) (
jg ((jK h21 a0).1 = 17) (
jb (F_17_size a0 200 h21) fun x22 h23 =>
jg ((jK h23 (jR h21 a0 10)).1 = 100 ∧ jF0 ≤ (jR h21 a0 10) ∧ jin (a4) (jK h23 (jR h21 a0 10)).2) (
jl (jsI h23 (jR h21 a0 10) (a4 : Int32).toNatClampNeg x22) fun h24 =>
jg ((jK h24 a0).1 = 17) (
jg ((jK h24 a0).1 = 17) (
jg ((jK h24 (jR h24 a0 9)).1 = 100 ∧ jF0 ≤ (jR h24 a0 9) ∧ jin (a4) (jK h24 (jR h24 a0 9)).2) (
jl (jsI h24 (jR h24 a0 9) (a4 : Int32).toNatClampNeg (jI h24 a0 3)) fun h25 =>
jg ((jK h25 a0).1 = 17) (
jg ((jK h25 (jR h25 a0 10)).1 = 100 ∧ jin (a4) (jK h25 (jR h25 a0 10)).2) (
jg ((jK h25 a0).1 = 17) (
jb (F_17_pass a0 (jI h25 (jR h25 a0 10) (a4 : Int32).toNatClampNeg) h25) fun x26 h27 =>
jg ((jK h27 a0).1 = 17) (
jg ((jK h27 a0).1 = 17) (
jg ((jK h27 (jR h27 a0 11)).1 = 100 ∧ jF0 ≤ (jR h27 a0 11) ∧ jin (a4) (jK h27 (jR h27 a0 11)).2) (
jl (jsI h27 (jR h27 a0 11) (a4 : Int32).toNatClampNeg (jI h27 a0 3)) fun h28 =>
jg ((jK h28 a0).1 = 17) (
jb (F_17_pass a0 4 h28) fun x29 h30 =>
jl (a4 + 1) fun x31 =>
k43 a0 x31 h30))))))))))))))))))))))
def F_17_read_43  : Nat → Nat → Int32 → jH → Option (Int32 × jH)
  | 0 => fun _ _ _ => none
  | n + 1 => fun a0 a4 H => B_17_read_43 (F_17_read_43  n) a0 a4 H
def F_17_read (a0 : Nat) (a1 : Nat) (a2 : Int32) (a3 : Int32) (H : jH) : Option (Int32 × jH) :=
jg ((jK H a0).1 = 17) (
jl (jsR H a0 0 a1) fun h32 =>
jg ((jK h32 a0).1 = 17) (
jl (jsI h32 a0 1 a2) fun h33 =>
jg ((jK h33 a0).1 = 17) (
jl (jsI h33 a0 3 a2) fun h34 =>
jg ((jK h34 a0).1 = 17) (
jl (jsI h34 a0 2 a3) fun h35 =>
jg ((jK h35 a0).1 = 17 ∧ ((1 : Int32) = 0 ∨ (1 : Int32) = 1)) (
jl (jsI h35 a0 6 1) fun h36 =>
jg ((jK h36 a0).1 = 17) (
jb (F_17_pass a0 4 h36) fun x37 h38 =>
jg ((jK h38 a0).1 = 17) (
jb (F_17_size a0 8 h38) fun x39 h40 =>
jg ((jK h40 a0).1 = 17) (
jl (jsI h40 a0 4 x39) fun h41 =>
F_17_read_43 jfuel a0 0 h41))))))))
def B_18_open_115  (s0 : Int32) (H : jH) : Option (Int32 × jH) :=
jg ((s0 : Int32) = 0 ∨ (s0 : Int32) = 1) (some (s0, H))
def B_18_open_43 (k43 : Nat → Nat → Int32 → Int32 → Int32 → Int32 → Int32 → jH → Option (Int32 × jH)) (a0 : Nat) (a1 : Nat) (a2 : Int32) (a3 : Int32) (a4 : Int32) (a5 : Int32) (a6 : Int32) (H : jH) : Option (Int32 × jH) :=
(if (a5 : Int32) ≤ (a6 : Int32) then
jg ((jK H a0).1 = 18) (
jg ((jK H (jR H a0 15)).1 = 100 ∧ jF0 ≤ (jR H a0 15) ∧ jin (a5) (jK H (jR H a0 15)).2) (
jl (jsI H (jR H a0 15) (a5 : Int32).toNatClampNeg a4) fun h1 =>
jg ((jK h1 a0).1 = 18) (
jl (jsI h1 a0 14 a5) fun h2 =>
(if ¬ (a4 : Int32) = ((a2 + a3) : Int32) then
B_18_open_115 0 h2
else
B_18_open_115 1 h2))))
else
jg ((jK H a0).1 = 18) (
jg ((jK H (jR H a0 15)).1 = 100 ∧ jF0 ≤ (jR H a0 15) ∧ jin (a6) (jK H (jR H a0 15)).2) (
jl (jsI H (jR H a0 15) (a6 : Int32).toNatClampNeg a4) fun h3 =>
jg ((jK h3 a0).1 = 18) (
jg ((jK h3 (jR h3 a0 4)).1 = 17) (
jb (F_17_read (jR h3 a0 4) a1 a4 (a2 + a3) h3) fun x4 h5 =>
(if 0 ≤ (x4 : Int32) then
jl (a6 + 1) fun x6 =>
k43 a0 a1 a2 a3 x4 a5 x6 h5
else
jg ((0 : Int32) = 0 ∨ (0 : Int32) = 1) (some (0, h5))))))))
def F_18_open_43  : Nat → Nat → Nat → Int32 → Int32 → Int32 → Int32 → Int32 → jH → Option (Int32 × jH)
  | 0 => fun _ _ _ _ _ _ _ _ => none
  | n + 1 => fun a0 a1 a2 a3 a4 a5 a6 H => B_18_open_43 (F_18_open_43  n) a0 a1 a2 a3 a4 a5 a6 H
def F_18_open (a0 : Nat) (a1 : Nat) (a2 : Int32) (a3 : Int32) (H : jH) : Option (Int32 × jH) :=
jg ((jK H a0).1 = 18) (
jl (jsI H a0 14 0) fun h7 =>
(if (81 : Int32) ≤ (a3 : Int32) then
jl (a2 + 81) fun x8 =>
jg ((jK h7 a1).1 = 101 ∧ jin ((a2 + 80)) (jK h7 a1).2) (
jl ((jbs (jB h7 a1 ((a2 + 80) : Int32).toNatClampNeg)) &&& 255) fun x9 =>
(if (x9 : Int32) ≤ (12 : Int32) then
F_18_open_43 jfuel a0 a1 a2 a3 x8 x9 0 h7
else
jg ((0 : Int32) = 0 ∨ (0 : Int32) = 1) (some (0, h7))))
else
jg ((0 : Int32) = 0 ∨ (0 : Int32) = 1) (some (0, h7))))
def B_18_openBlock_29   (H : jH) : Option (Unit × jH) :=
some ((), H)
def F_18_openBlock (a0 : Nat) (a1 : Int32) (H : jH) : Option (Unit × jH) :=
jg ((jK H a0).1 = 18) (
jl (jsI H a0 14 0) fun h1 =>
(if (a1 : Int32) ≤ 0 then
B_18_openBlock_29 h1
else
jg ((jK h1 a0).1 = 18) (
jg ((jK h1 a0).1 = 18) (
jg ((jK h1 (jR h1 a0 7)).1 = 100 ∧ jin (a1) (jK h1 (jR h1 a0 7)).2) (
jg ((jK h1 a0).1 = 18) (
jb (F_18_open a0 (jR h1 a0 6) (2000 * a1) (jI h1 (jR h1 a0 7) (a1 : Int32).toNatClampNeg) h1) fun x2 h3 =>
B_18_openBlock_29 h3))))))
def B_16_isBlock_17  (s0 : Int32) (H : jH) : Option (Int32 × jH) :=
jg ((s0 : Int32) = 0 ∨ (s0 : Int32) = 1) (some (s0, H))
def B_16_isBlock_16   (H : jH) : Option (Int32 × jH) :=
B_16_isBlock_17 0 H
def F_16_isBlock (a0 : Nat) (a1 : Int32) (H : jH) : Option (Int32 × jH) :=
(if (a1 : Int32) < 0 then
B_16_isBlock_16 H
else
jg ((jK H a0).1 = 16) (
(if ((jI H a0 1) : Int32) ≤ (a1 : Int32) then
B_16_isBlock_16 H
else
B_16_isBlock_17 1 H)))
def B_16_look_44 (k17 : Nat → Int32 → Int32 → Int32 → Int32 → jH → Option (Int64 × jH)) (a0 : Nat) (a1 : Int32) (a2 : Int32) (a4 : Int32) (s0 : Int32) (H : jH) : Option (Int64 × jH) :=
jl (a4 + 1) fun x1 =>
k17 a0 a1 a2 s0 x1 H
def B_16_look_143  (s0 : Int64) (H : jH) : Option (Int64 × jH) :=
some (s0, H)
def B_16_look_17 (k17 : Nat → Int32 → Int32 → Int32 → Int32 → jH → Option (Int64 × jH)) (a0 : Nat) (a1 : Int32) (a2 : Int32) (a3 : Int32) (a4 : Int32) (H : jH) : Option (Int64 × jH) :=
jg ((jK H a0).1 = 16) (
(if ((jI H a0 1) : Int32) ≤ (a4 : Int32) then
(if ¬ (a2 : Int32) = 0 then
(if ¬ (a2 : Int32) = (1 : Int32) then
(if ¬ (a2 : Int32) = (2 : Int32) then
(if ¬ (a2 : Int32) = (3 : Int32) then
(if ¬ (a2 : Int32) = (4 : Int32) then
(if ¬ (a2 : Int32) = (5 : Int32) then
B_16_look_143 (-1) H
else
B_16_look_143 (Int32.toInt64 a3) H)
else
jg ((jK H a0).1 = 16) (
jg ((jK H (jR H a0 6)).1 = 102 ∧ jin (a1) (jK H (jR H a0 6)).2) (
(if ((jI H (jR H a0 6) (a1 : Int32).toNatClampNeg) : Int32) = 0 then
B_16_look_143 0 H
else
B_16_look_143 1 H))))
else
jg ((jK H a0).1 = 16) (
jg ((jK H (jR H a0 5)).1 = 103 ∧ jin (a1) (jK H (jR H a0 5)).2) (
B_16_look_143 (jL H (jR H a0 5) (a1 : Int32).toNatClampNeg) H)))
else
jg ((jK H a0).1 = 16) (
jg ((jK H (jR H a0 4)).1 = 103 ∧ jin (a1) (jK H (jR H a0 4)).2) (
B_16_look_143 (jL H (jR H a0 4) (a1 : Int32).toNatClampNeg) H)))
else
jg ((jK H a0).1 = 16) (
jg ((jK H (jR H a0 3)).1 = 100 ∧ jin (a1) (jK H (jR H a0 3)).2) (
B_16_look_143 (Int32.toInt64 (jI H (jR H a0 3) (a1 : Int32).toNatClampNeg)) H)))
else
jg ((jK H a0).1 = 16) (
jg ((jK H (jR H a0 2)).1 = 100 ∧ jin (a1) (jK H (jR H a0 2)).2) (
B_16_look_143 (Int32.toInt64 (jI H (jR H a0 2) (a1 : Int32).toNatClampNeg)) H)))
else
jg ((jK H a0).1 = 16) (
jg ((jK H (jR H a0 2)).1 = 100 ∧ jin (a4) (jK H (jR H a0 2)).2) (
(if ¬ ((jI H (jR H a0 2) (a4 : Int32).toNatClampNeg) : Int32) = (a1 : Int32) then
B_16_look_44 k17 a0 a1 a2 a4 a3 H
else
B_16_look_44 k17 a0 a1 a2 a4 (a3 + 1) H)))))
def F_16_look_17  : Nat → Nat → Int32 → Int32 → Int32 → Int32 → jH → Option (Int64 × jH)
  | 0 => fun _ _ _ _ _ _ => none
  | n + 1 => fun a0 a1 a2 a3 a4 H => B_16_look_17 (F_16_look_17  n) a0 a1 a2 a3 a4 H
def F_16_look (a0 : Nat) (a1 : Int32) (a2 : Int32) (H : jH) : Option (Int64 × jH) :=
jg ((jK H a0).1 = 16) (
jb (F_16_isBlock a0 a1 H) fun x2 h3 =>
(if ¬ (x2 : Int32) = 0 then
F_16_look_17 jfuel a0 a1 a2 0 0 h3
else
some ((-1), h3)))
def F_18_height (a0 : Nat) (a1 : Int32) (H : jH) : Option (Int32 × jH) :=
jg ((jK H a0).1 = 18) (
jg ((jK H (jR H a0 3)).1 = 16) (
jb (F_16_look (jR H a0 3) a1 1 H) fun x1 h2 =>
some ((Int64.toInt32 x1), h2)))
def F_18_parent (a0 : Nat) (a1 : Int32) (H : jH) : Option (Int32 × jH) :=
jg ((jK H a0).1 = 18) (
jg ((jK H (jR H a0 3)).1 = 16) (
jb (F_16_look (jR H a0 3) a1 0 H) fun x1 h2 =>
some ((Int64.toInt32 x1), h2)))
def B_16_below_22   (H : jH) : Option (Int32 × jH) :=
some ((-1), H)
def B_16_below_26 (k26 : Nat → Int32 → Int32 → jH → Option (Int32 × jH)) (a0 : Nat) (a2 : Int32) (a3 : Int32) (H : jH) : Option (Int32 × jH) :=
jg ((jK H a0).1 = 16) (
jg ((jK H (jR H a0 3)).1 = 100 ∧ jin (a3) (jK H (jR H a0 3)).2) (
(if ((jI H (jR H a0 3) (a3 : Int32).toNatClampNeg) : Int32) ≤ (a2 : Int32) then
some (a3, H)
else
jg ((jK H a0).1 = 16) (
jg ((jK H (jR H a0 2)).1 = 100 ∧ jin (a3) (jK H (jR H a0 2)).2) (
jl (jI H (jR H a0 2) (a3 : Int32).toNatClampNeg) fun x1 =>
k26 a0 a2 x1 H)))))
def F_16_below_26  : Nat → Nat → Int32 → Int32 → jH → Option (Int32 × jH)
  | 0 => fun _ _ _ _ => none
  | n + 1 => fun a0 a2 a3 H => B_16_below_26 (F_16_below_26  n) a0 a2 a3 H
def F_16_below (a0 : Nat) (a1 : Int32) (a2 : Int32) (H : jH) : Option (Int32 × jH) :=
jg ((jK H a0).1 = 16) (
jb (F_16_isBlock a0 a1 H) fun x2 h3 =>
(if (x2 : Int32) = 0 then
B_16_below_22 h3
else
(if (a2 : Int32) < 0 then
B_16_below_22 h3
else
jg ((jK h3 a0).1 = 16) (
jg ((jK h3 (jR h3 a0 3)).1 = 100 ∧ jin (a1) (jK h3 (jR h3 a0 3)).2) (
(if (a2 : Int32) ≤ ((jI h3 (jR h3 a0 3) (a1 : Int32).toNatClampNeg) : Int32) then
F_16_below_26 jfuel a0 a2 a1 h3
else
B_16_below_22 h3))))))
def B_18_need_139 (k48 : Nat → Int32 → Int32 → Int32 → Int32 → jH → Option (Unit × jH)) (a0 : Nat) (a1 : Int32) (a2 : Int32) (a3 : Int32) (a4 : Int32) (s0 : Nat) (s1 : Int32) (s2 : Int32) (H : jH) : Option (Unit × jH) :=
jg ((jK H s0).1 = 18) (
jb (F_18_apply s0 s1 s2 H) fun x1 h2 =>
jl (a4 + 1) fun x3 =>
k48 a0 a1 a2 a3 x3 h2)
def B_18_need_88 (k48 : Nat → Int32 → Int32 → Int32 → Int32 → jH → Option (Unit × jH)) (k88 : Nat → Int32 → Int32 → Int32 → Int32 → Int32 → jH → Option (Unit × jH)) (a0 : Nat) (a1 : Int32) (a2 : Int32) (a3 : Int32) (a4 : Int32) (a5 : Int32) (H : jH) : Option (Unit × jH) :=
(if (32 : Int32) ≤ (a5 : Int32) then
(if ¬ (a4 : Int32) = 0 then
B_18_need_139 k48 a0 a1 a2 a3 a4 a0 a2 0 H
else
B_18_need_139 k48 a0 a1 a2 a3 a4 a0 a2 1 H)
else
jg ((jK H a0).1 = 18) (
jg ((jK H a0).1 = 18) (
jg ((jK H (jR H a0 11)).1 = 101 ∧ jin ((((384 * a3) + (32 * a4)) + a5)) (jK H (jR H a0 11)).2) (
jg ((jK H (jR H a0 49)).1 = 101 ∧ jin (a5) (jK H (jR H a0 49)).2) (
jl (jsB H (jR H a0 49) (a5 : Int32).toNatClampNeg (jbu (jbs (jB H (jR H a0 11) ((((384 * a3) + (32 * a4)) + a5) : Int32).toNatClampNeg)))) fun h4 =>
jl (a5 + 1) fun x5 =>
k88 a0 a1 a2 a3 a4 x5 h4)))))
def F_18_need_88 (k48 : Nat → Int32 → Int32 → Int32 → Int32 → jH → Option (Unit × jH)) : Nat → Nat → Int32 → Int32 → Int32 → Int32 → Int32 → jH → Option (Unit × jH)
  | 0 => fun _ _ _ _ _ _ _ => none
  | n + 1 => fun a0 a1 a2 a3 a4 a5 H => B_18_need_88 k48 (F_18_need_88 k48 n) a0 a1 a2 a3 a4 a5 H
def B_18_need_48 (k21 : Nat → Int32 → Int32 → jH → Option (Unit × jH)) (k48 : Nat → Int32 → Int32 → Int32 → Int32 → jH → Option (Unit × jH)) (a0 : Nat) (a1 : Int32) (a2 : Int32) (a3 : Int32) (a4 : Int32) (H : jH) : Option (Unit × jH) :=
jg ((jK H a0).1 = 18) (
(if ((jI H a0 14) : Int32) ≤ (a4 : Int32) then
jl (a2 + 1) fun x6 =>
k21 a0 a1 x6 H
else
jg ((jK H a0).1 = 18) (
jg ((jK H a0).1 = 18) (
jg ((jK H a0).1 = 18) (
jg ((jK H (jR H a0 15)).1 = 100 ∧ jin (a4) (jK H (jR H a0 15)).2) (
jg ((jK H a0).1 = 18) (
jg ((jK H (jR H a0 15)).1 = 100 ∧ jin ((a4 + 1)) (jK H (jR H a0 15)).2) (
jg ((jK H (jR H a0 4)).1 = 17) (
jb (F_17_read (jR H a0 4) (jR H a0 6) (jI H (jR H a0 15) (a4 : Int32).toNatClampNeg) (jI H (jR H a0 15) ((a4 + 1) : Int32).toNatClampNeg) H) fun x7 h8 =>
F_18_need_88 k48 jfuel a0 a1 a2 a3 a4 0 h8)))))))))
def F_18_need_48 (k21 : Nat → Int32 → Int32 → jH → Option (Unit × jH)) : Nat → Nat → Int32 → Int32 → Int32 → Int32 → jH → Option (Unit × jH)
  | 0 => fun _ _ _ _ _ _ => none
  | n + 1 => fun a0 a1 a2 a3 a4 H => B_18_need_48 k21 (F_18_need_48 k21 n) a0 a1 a2 a3 a4 H
def B_18_need_21 (k21 : Nat → Int32 → Int32 → jH → Option (Unit × jH)) (a0 : Nat) (a1 : Int32) (a2 : Int32) (H : jH) : Option (Unit × jH) :=
jg ((jK H a0).1 = 18) (
jb (F_18_height a0 a1 H) fun x9 h10 =>
(if (x9 : Int32) < (a2 : Int32) then
jg ((jK h10 a0).1 = 18) (
jl (jsI h10 a0 16 a1) fun h11 =>
some ((), h11))
else
jg ((jK h10 a0).1 = 18) (
jg ((jK h10 (jR h10 a0 3)).1 = 16) (
jb (F_16_below (jR h10 a0 3) a1 a2 h10) fun x12 h13 =>
jg ((jK h13 a0).1 = 18) (
jb (F_18_openBlock a0 x12 h13) fun x14 h15 =>
F_18_need_48 k21 jfuel a0 a1 a2 x12 0 h15)))))
def F_18_need_21  : Nat → Nat → Int32 → Int32 → jH → Option (Unit × jH)
  | 0 => fun _ _ _ _ => none
  | n + 1 => fun a0 a1 a2 H => B_18_need_21 (F_18_need_21  n) a0 a1 a2 H
def F_18_need (a0 : Nat) (a1 : Int32) (H : jH) : Option (Unit × jH) :=
jg ((jK H a0).1 = 18) (
(if ¬ ((jI H a0 16) : Int32) = (a1 : Int32) then
jg ((jK H a0).1 = 18) (
jl (jsI H a0 17 0) fun h16 =>
jg ((jK h16 a0).1 = 18) (
jl (jsI h16 a0 18 0) fun h17 =>
F_18_need_21 jfuel a0 a1 1 h17))
else
some ((), H)))
def F_14_clear (a0 : Nat) (H : jH) : Option (Unit × jH) :=
jg ((jK H a0).1 = 14) (
jl (jsI H a0 2 0) fun h1 =>
some ((), h1))
def B_14_isTrueRow_61 (k4 : Nat → Int32 → Int32 → Int32 → jH → Option (Int32 × jH)) (a0 : Nat) (a1 : Int32) (a3 : Int32) (s0 : Int32) (H : jH) : Option (Int32 × jH) :=
jl (a3 + 1) fun x1 =>
k4 a0 a1 s0 x1 H
def B_14_isTrueRow_56 (k4 : Nat → Int32 → Int32 → Int32 → jH → Option (Int32 × jH)) (a0 : Nat) (a1 : Int32) (a3 : Int32) (H : jH) : Option (Int32 × jH) :=
B_14_isTrueRow_61 k4 a0 a1 a3 1 H
def B_14_isTrueRow_60 (k4 : Nat → Int32 → Int32 → Int32 → jH → Option (Int32 × jH)) (a0 : Nat) (a1 : Int32) (a3 : Int32) (H : jH) : Option (Int32 × jH) :=
B_14_isTrueRow_61 k4 a0 a1 a3 0 H
def B_14_isTrueRow_4 (k4 : Nat → Int32 → Int32 → Int32 → jH → Option (Int32 × jH)) (a0 : Nat) (a1 : Int32) (a2 : Int32) (a3 : Int32) (H : jH) : Option (Int32 × jH) :=
jg ((jK H a0).1 = 14) (
jg ((jK H (jR H a0 1)).1 = 100 ∧ jin (a1) (jK H (jR H a0 1)).2) (
(if ((jI H (jR H a0 1) (a1 : Int32).toNatClampNeg) : Int32) ≤ (a3 : Int32) then
jg ((a2 : Int32) = 0 ∨ (a2 : Int32) = 1) (some (a2, H))
else
jg ((jK H a0).1 = 14) (
jg ((jK H (jR H a0 0)).1 = 100 ∧ jin (((120 * a1) + a3)) (jK H (jR H a0 0)).2) (
jl (jI H (jR H a0 0) (((120 * a1) + a3) : Int32).toNatClampNeg) fun x2 =>
(if ¬ (a2 : Int32) = 0 then
B_14_isTrueRow_56 k4 a0 a1 a3 H
else
(if (x2 : Int32) = 0 then
B_14_isTrueRow_60 k4 a0 a1 a3 H
else
jg ((jK H a0).1 = 14) (
jg ((jK H (jR H a0 1)).1 = 100 ∧ jin (a1) (jK H (jR H a0 1)).2) (
(if (a3 : Int32) < (((jI H (jR H a0 1) (a1 : Int32).toNatClampNeg) - 1) : Int32) then
B_14_isTrueRow_56 k4 a0 a1 a3 H
else
(if (x2 : Int32) = (128 : Int32) then
B_14_isTrueRow_60 k4 a0 a1 a3 H
else
B_14_isTrueRow_56 k4 a0 a1 a3 H)))))))))))
def F_14_isTrueRow_4  : Nat → Nat → Int32 → Int32 → Int32 → jH → Option (Int32 × jH)
  | 0 => fun _ _ _ _ _ => none
  | n + 1 => fun a0 a1 a2 a3 H => B_14_isTrueRow_4 (F_14_isTrueRow_4  n) a0 a1 a2 a3 H
def F_14_isTrueRow (a0 : Nat) (a1 : Int32) (H : jH) : Option (Int32 × jH) :=
F_14_isTrueRow_4 jfuel a0 a1 0 0 H
def B_14_isTrue_25  (s0 : Int32) (H : jH) : Option (Int32 × jH) :=
jg ((s0 : Int32) = 0 ∨ (s0 : Int32) = 1) (some (s0, H))
def B_14_isTrue_24   (H : jH) : Option (Int32 × jH) :=
B_14_isTrue_25 0 H
def F_14_isTrue (a0 : Nat) (H : jH) : Option (Int32 × jH) :=
jg ((jK H a0).1 = 14) (
(if ((jI H a0 2) : Int32) ≤ 0 then
B_14_isTrue_24 H
else
jg ((jK H a0).1 = 14) (
jg ((jK H a0).1 = 14) (
jb (F_14_isTrueRow a0 ((jI H a0 2) - 1) H) fun x1 h2 =>
(if (x1 : Int32) = 0 then
B_14_isTrue_24 h2
else
B_14_isTrue_25 1 h2)))))
def B_14_load_8 (k8 : Nat → Nat → Int32 → Int32 → Int32 → jH → Option (Unit × jH)) (a0 : Nat) (a1 : Nat) (a2 : Int32) (a3 : Int32) (a4 : Int32) (H : jH) : Option (Unit × jH) :=
(if (a3 : Int32) ≤ (a4 : Int32) then
some ((), H)
else
jg ((jK H a0).1 = 14) (
jg ((jK H a1).1 = 101 ∧ jin ((a2 + a4)) (jK H a1).2) (
jg ((jK H (jR H a0 4)).1 = 100 ∧ jF0 ≤ (jR H a0 4) ∧ jin (a4) (jK H (jR H a0 4)).2) (
jl (jsI H (jR H a0 4) (a4 : Int32).toNatClampNeg ((jbs (jB H a1 ((a2 + a4) : Int32).toNatClampNeg)) &&& 255)) fun h1 =>
jl (a4 + 1) fun x2 =>
k8 a0 a1 a2 a3 x2 h1))))
def F_14_load_8  : Nat → Nat → Nat → Int32 → Int32 → Int32 → jH → Option (Unit × jH)
  | 0 => fun _ _ _ _ _ _ => none
  | n + 1 => fun a0 a1 a2 a3 a4 H => B_14_load_8 (F_14_load_8  n) a0 a1 a2 a3 a4 H
def F_14_load (a0 : Nat) (a1 : Nat) (a2 : Int32) (a3 : Int32) (H : jH) : Option (Unit × jH) :=
jg ((jK H a0).1 = 14) (
jl (jsI H a0 5 a3) fun h3 =>
F_14_load_8 jfuel a0 a1 a2 a3 0 h3)
def B_14_fails_16  (s0 : Nat) (s1 : Int32) (H : jH) : Option (Unit × jH) :=
jg ((jK H s0).1 = 14) (
jl (jsI H s0 6 s1) fun h1 =>
some ((), h1))
def F_14_fails (a0 : Nat) (a1 : Int32) (H : jH) : Option (Unit × jH) :=
jg ((jK H a0).1 = 14) (
(if ¬ ((jI H a0 6) : Int32) = 0 then
jg ((jK H a0).1 = 14) (
B_14_fails_16 a0 (jI H a0 6) H)
else
B_14_fails_16 a0 a1 H))
def B_14_has_26  (s0 : Int32) (H : jH) : Option (Int32 × jH) :=
jg ((s0 : Int32) = 0 ∨ (s0 : Int32) = 1) (some (s0, H))
def B_14_has_13  (a0 : Nat) (a1 : Int32) (H : jH) : Option (Int32 × jH) :=
jg ((jK H a0).1 = 14) (
(if ((jI H a0 2) : Int32) < (a1 : Int32) then
B_14_has_26 0 H
else
B_14_has_26 1 H))
def F_14_has (a0 : Nat) (a1 : Int32) (H : jH) : Option (Int32 × jH) :=
jg ((jK H a0).1 = 14) (
(if (a1 : Int32) ≤ ((jI H a0 2) : Int32) then
B_14_has_13 a0 a1 H
else
jg ((jK H a0).1 = 14) (
jb (F_14_fails a0 5 H) fun x1 h2 =>
B_14_has_13 a0 a1 h2)))
def B_14_isDone_27  (s0 : Int32) (H : jH) : Option (Int32 × jH) :=
jg ((s0 : Int32) = 0 ∨ (s0 : Int32) = 1) (some (s0, H))
def B_14_isDone_22   (H : jH) : Option (Int32 × jH) :=
B_14_isDone_27 1 H
def F_14_isDone (a0 : Nat) (H : jH) : Option (Int32 × jH) :=
jg ((jK H a0).1 = 14) (
(if ((jI H a0 9) : Int32) = 0 then
B_14_isDone_22 H
else
jg ((jK H a0).1 = 14) (
jg ((jK H a0).1 = 14) (
jg ((jK H (jR H a0 10)).1 = 100 ∧ jin (((jI H a0 9) - 1)) (jK H (jR H a0 10)).2) (
(if ¬ ((jI H (jR H a0 10) (((jI H a0 9) - 1) : Int32).toNatClampNeg) : Int32) = (1 : Int32) then
B_14_isDone_27 0 H
else
B_14_isDone_22 H))))))
def B_14_flow_86  (a0 : Nat) (H : jH) : Option (Unit × jH) :=
jg ((jK H a0).1 = 14) (
jg ((jK H a0).1 = 14) (
jl (jsI H a0 9 ((jI H a0 9) + 1)) fun h1 =>
some ((), h1)))
def B_14_flow_85  (a0 : Nat) (s0 : Nat) (s1 : Int32) (s2 : Int32) (H : jH) : Option (Unit × jH) :=
jg ((jK H s0).1 = 100 ∧ jF0 ≤ s0 ∧ jin (s1) (jK H s0).2) (
jl (jsI H s0 (s1 : Int32).toNatClampNeg s2) fun h2 =>
B_14_flow_86 a0 h2)
def B_14_flow_77  (a0 : Nat) (s0 : Nat) (s1 : Int32) (s2 : Int32) (s3 : Int32) (H : jH) : Option (Unit × jH) :=
(if ¬ (s2 : Int32) = (s3 : Int32) then
B_14_flow_85 a0 s0 s1 2 H
else
B_14_flow_85 a0 s0 s1 1 H)
def B_14_flow_12  (a0 : Nat) (a1 : Int32) (H : jH) : Option (Unit × jH) :=
jg ((jK H a0).1 = 14) (
jb (F_14_isDone a0 H) fun x3 h4 =>
(if ¬ (x3 : Int32) = 0 then
jg ((jK h4 a0).1 = 14) (
jb (F_14_has a0 1 h4) fun x5 h6 =>
(if (x5 : Int32) = 0 then
B_14_flow_86 a0 h6
else
jg ((jK h6 a0).1 = 14) (
jg ((jK h6 a0).1 = 14) (
jl (jsI h6 a0 2 ((jI h6 a0 2) - 1)) fun h7 =>
jg ((jK h7 a0).1 = 14) (
jg ((jK h7 a0).1 = 14) (
jg ((jK h7 a0).1 = 14) (
jg ((jK h7 a0).1 = 14) (
jb (F_14_isTrueRow a0 (jI h7 a0 2) h7) fun x8 h9 =>
(if ¬ (a1 : Int32) = (99 : Int32) then
B_14_flow_77 a0 (jR h7 a0 10) (jI h7 a0 9) x8 0 h9
else
B_14_flow_77 a0 (jR h7 a0 10) (jI h7 a0 9) x8 1 h9)))))))))
else
jg ((jK h4 a0).1 = 14) (
jg ((jK h4 a0).1 = 14) (
jg ((jK h4 (jR h4 a0 10)).1 = 100 ∧ jF0 ≤ (jR h4 a0 10) ∧ jin ((jI h4 a0 9)) (jK h4 (jR h4 a0 10)).2) (
jl (jsI h4 (jR h4 a0 10) ((jI h4 a0 9) : Int32).toNatClampNeg 3) fun h10 =>
B_14_flow_86 a0 h10)))))
def B_14_flow_167   (H : jH) : Option (Unit × jH) :=
some ((), H)
def B_14_flow_166  (s0 : Nat) (s1 : Int32) (s2 : Int32) (H : jH) : Option (Unit × jH) :=
jg ((jK H s0).1 = 100 ∧ jF0 ≤ s0 ∧ jin (s1) (jK H s0).2) (
jl (jsI H s0 (s1 : Int32).toNatClampNeg s2) fun h11 =>
B_14_flow_167 h11)
def F_14_flow (a0 : Nat) (a1 : Int32) (H : jH) : Option (Unit × jH) :=
(if (a1 : Int32) = (99 : Int32) then
B_14_flow_12 a0 a1 H
else
(if ¬ (a1 : Int32) = (100 : Int32) then
jg ((jK H a0).1 = 14) (
(if ¬ ((jI H a0 9) : Int32) = 0 then
(if ¬ (a1 : Int32) = (104 : Int32) then
jg ((jK H a0).1 = 14) (
jg ((jK H a0).1 = 14) (
jg ((jK H (jR H a0 10)).1 = 100 ∧ jin (((jI H a0 9) - 1)) (jK H (jR H a0 10)).2) (
jl (jI H (jR H a0 10) (((jI H a0 9) - 1) : Int32).toNatClampNeg) fun x12 =>
jg ((jK H a0).1 = 14) (
jg ((jK H a0).1 = 14) (
(if ¬ (x12 : Int32) = (3 : Int32) then
B_14_flow_166 (jR H a0 10) ((jI H a0 9) - 1) (3 - x12) H
else
B_14_flow_166 (jR H a0 10) ((jI H a0 9) - 1) 3 H))))))
else
jg ((jK H a0).1 = 14) (
jg ((jK H a0).1 = 14) (
jl (jsI H a0 9 ((jI H a0 9) - 1)) fun h13 =>
B_14_flow_167 h13)))
else
jg ((jK H a0).1 = 14) (
jb (F_14_fails a0 10 H) fun x14 h15 =>
B_14_flow_167 h15)))
else
B_14_flow_12 a0 a1 H))
def B_12_mixed_62  (s0 : Int32) (H : jH) : Option (Int32 × jH) :=
some (s0, H)
def F_12_mixed (a0 : Int32) (a1 : Int32) (a2 : Int32) (a3 : Int32) (H : jH) : Option (Int32 × jH) :=
(if ¬ (a0 : Int32) = 0 then
(if ¬ (a0 : Int32) = (1 : Int32) then
(if ¬ (a0 : Int32) = (2 : Int32) then
(if ¬ (a0 : Int32) = (3 : Int32) then
B_12_mixed_62 (a1 ^^^ (a2 ||| (a3 ^^^ (-1)))) H
else
B_12_mixed_62 ((a1 &&& a3) ||| (a2 &&& (a3 ^^^ (-1)))) H)
else
some (((a1 ||| (a2 ^^^ (-1))) ^^^ a3), H))
else
some (((a1 &&& a2) ||| ((a1 ^^^ (-1)) &&& a3)), H))
else
some (((a1 ^^^ a2) ^^^ a3), H))
def F_12_step (a0 : Nat) (a1 : Int32) (a2 : Int32) (a3 : Int32) (H : jH) : Option (Unit × jH) :=
jg ((jK H a0).1 = 12) (
jg ((jK H (jR H a0 2)).1 = 100 ∧ jin (a1) (jK H (jR H a0 2)).2) (
jb (F_12_right ((jI H (jR H a0 2) (a1 : Int32).toNatClampNeg) + a2) (32 - a3) H) fun x1 h2 =>
jg ((jK h2 a0).1 = 12) (
jg ((jK h2 (jR h2 a0 2)).1 = 100 ∧ jin ((a1 + 4)) (jK h2 (jR h2 a0 2)).2) (
jl (x1 + (jI h2 (jR h2 a0 2) ((a1 + 4) : Int32).toNatClampNeg)) fun x3 =>
jg ((jK h2 a0).1 = 12) (
jg ((jK h2 a0).1 = 12) (
jg ((jK h2 (jR h2 a0 2)).1 = 100 ∧ jin ((a1 + 4)) (jK h2 (jR h2 a0 2)).2) (
jg ((jK h2 (jR h2 a0 2)).1 = 100 ∧ jF0 ≤ (jR h2 a0 2) ∧ jin (a1) (jK h2 (jR h2 a0 2)).2) (
jl (jsI h2 (jR h2 a0 2) (a1 : Int32).toNatClampNeg (jI h2 (jR h2 a0 2) ((a1 + 4) : Int32).toNatClampNeg)) fun h4 =>
jg ((jK h4 a0).1 = 12) (
jg ((jK h4 a0).1 = 12) (
jg ((jK h4 (jR h4 a0 2)).1 = 100 ∧ jin ((a1 + 3)) (jK h4 (jR h4 a0 2)).2) (
jg ((jK h4 (jR h4 a0 2)).1 = 100 ∧ jF0 ≤ (jR h4 a0 2) ∧ jin ((a1 + 4)) (jK h4 (jR h4 a0 2)).2) (
jl (jsI h4 (jR h4 a0 2) ((a1 + 4) : Int32).toNatClampNeg (jI h4 (jR h4 a0 2) ((a1 + 3) : Int32).toNatClampNeg)) fun h5 =>
jg ((jK h5 a0).1 = 12) (
jg ((jK h5 a0).1 = 12) (
jg ((jK h5 (jR h5 a0 2)).1 = 100 ∧ jin ((a1 + 2)) (jK h5 (jR h5 a0 2)).2) (
jb (F_12_right (jI h5 (jR h5 a0 2) ((a1 + 2) : Int32).toNatClampNeg) 22 h5) fun x6 h7 =>
jg ((jK h7 (jR h5 a0 2)).1 = 100 ∧ jF0 ≤ (jR h5 a0 2) ∧ jin ((a1 + 3)) (jK h7 (jR h5 a0 2)).2) (
jl (jsI h7 (jR h5 a0 2) ((a1 + 3) : Int32).toNatClampNeg x6) fun h8 =>
jg ((jK h8 a0).1 = 12) (
jg ((jK h8 a0).1 = 12) (
jg ((jK h8 (jR h8 a0 2)).1 = 100 ∧ jin ((a1 + 1)) (jK h8 (jR h8 a0 2)).2) (
jg ((jK h8 (jR h8 a0 2)).1 = 100 ∧ jF0 ≤ (jR h8 a0 2) ∧ jin ((a1 + 2)) (jK h8 (jR h8 a0 2)).2) (
jl (jsI h8 (jR h8 a0 2) ((a1 + 2) : Int32).toNatClampNeg (jI h8 (jR h8 a0 2) ((a1 + 1) : Int32).toNatClampNeg)) fun h9 =>
jg ((jK h9 a0).1 = 12) (
jg ((jK h9 (jR h9 a0 2)).1 = 100 ∧ jF0 ≤ (jR h9 a0 2) ∧ jin ((a1 + 1)) (jK h9 (jR h9 a0 2)).2) (
jl (jsI h9 (jR h9 a0 2) ((a1 + 1) : Int32).toNatClampNeg x3) fun h10 =>
some ((), h10)))))))))))))))))))))))
def B_12_small_76 (k58 : Nat → Nat → Int32 → Int32 → Nat → Int32 → Int32 → Int32 → jH → Option (Unit × jH)) (k76 : Nat → Nat → Int32 → Int32 → Nat → Int32 → Int32 → Int32 → Int32 → jH → Option (Unit × jH)) (a0 : Nat) (a1 : Nat) (a2 : Int32) (a3 : Int32) (a4 : Nat) (a5 : Int32) (a6 : Int32) (a7 : Int32) (a8 : Int32) (H : jH) : Option (Unit × jH) :=
(if (a8 : Int32) < 0 then
jl (a7 + 1) fun x1 =>
k58 a0 a1 a2 a3 a4 a5 a6 x1 H
else
jg ((jK H a0).1 = 12) (
jg ((jK H a0).1 = 12) (
jg ((jK H (jR H a0 0)).1 = 100 ∧ jin (a7) (jK H (jR H a0 0)).2) (
jb (F_12_padded a1 a2 a3 (((64 * a6) + (4 * a7)) + a8) 0 H) fun x2 h3 =>
jg ((jK h3 (jR H a0 0)).1 = 100 ∧ jF0 ≤ (jR H a0 0) ∧ jin (a7) (jK h3 (jR H a0 0)).2) (
jl (jsI h3 (jR H a0 0) (a7 : Int32).toNatClampNeg ((jshl (jI H (jR H a0 0) (a7 : Int32).toNatClampNeg) 8) ||| x2)) fun h4 =>
jl (a8 + (-1)) fun x5 =>
k76 a0 a1 a2 a3 a4 a5 a6 a7 x5 h4)))))
def F_12_small_76 (k58 : Nat → Nat → Int32 → Int32 → Nat → Int32 → Int32 → Int32 → jH → Option (Unit × jH)) : Nat → Nat → Nat → Int32 → Int32 → Nat → Int32 → Int32 → Int32 → Int32 → jH → Option (Unit × jH)
  | 0 => fun _ _ _ _ _ _ _ _ _ _ => none
  | n + 1 => fun a0 a1 a2 a3 a4 a5 a6 a7 a8 H => B_12_small_76 k58 (F_12_small_76 k58 n) a0 a1 a2 a3 a4 a5 a6 a7 a8 H
def B_12_small_270 (k166 : Nat → Nat → Int32 → Int32 → Nat → Int32 → Int32 → Int32 → jH → Option (Unit × jH)) (a0 : Nat) (a1 : Nat) (a2 : Int32) (a3 : Int32) (a4 : Nat) (a5 : Int32) (a6 : Int32) (a7 : Int32) (a8 : Int32) (a9 : Int32) (s0 : Int32) (H : jH) : Option (Unit × jH) :=
jg ((jK H a0).1 = 12) (
jg ((jK H (jR H a0 2)).1 = 100 ∧ jin (1) (jK H (jR H a0 2)).2) (
jg ((jK H a0).1 = 12) (
jg ((jK H (jR H a0 2)).1 = 100 ∧ jin (2) (jK H (jR H a0 2)).2) (
jg ((jK H a0).1 = 12) (
jg ((jK H (jR H a0 2)).1 = 100 ∧ jin (3) (jK H (jR H a0 2)).2) (
jb (F_12_mixed a8 (jI H (jR H a0 2) (1 : Int32).toNatClampNeg) (jI H (jR H a0 2) (2 : Int32).toNatClampNeg) (jI H (jR H a0 2) (3 : Int32).toNatClampNeg) H) fun x6 h7 =>
jg ((jK h7 a0).1 = 12) (
jg ((jK h7 14).1 = 100 ∧ jin (a7) (jK h7 14).2) (
jg ((jK h7 (jR h7 a0 0)).1 = 100 ∧ jin ((jI h7 14 (a7 : Int32).toNatClampNeg)) (jK h7 (jR h7 a0 0)).2) (
jg ((jK h7 16).1 = 100 ∧ jin (a7) (jK h7 16).2) (
jg ((jK h7 a0).1 = 12) (
jb (F_12_step a0 0 ((x6 + (jI h7 (jR h7 a0 0) ((jI h7 14 (a7 : Int32).toNatClampNeg) : Int32).toNatClampNeg)) + a9) (jI h7 16 (a7 : Int32).toNatClampNeg) h7) fun x8 h9 =>
jg ((jK h9 a0).1 = 12) (
jg ((jK h9 (jR h9 a0 2)).1 = 100 ∧ jin (6) (jK h9 (jR h9 a0 2)).2) (
jg ((jK h9 a0).1 = 12) (
jg ((jK h9 (jR h9 a0 2)).1 = 100 ∧ jin (7) (jK h9 (jR h9 a0 2)).2) (
jg ((jK h9 a0).1 = 12) (
jg ((jK h9 (jR h9 a0 2)).1 = 100 ∧ jin (8) (jK h9 (jR h9 a0 2)).2) (
jb (F_12_mixed (4 - a8) (jI h9 (jR h9 a0 2) (6 : Int32).toNatClampNeg) (jI h9 (jR h9 a0 2) (7 : Int32).toNatClampNeg) (jI h9 (jR h9 a0 2) (8 : Int32).toNatClampNeg) h9) fun x10 h11 =>
jg ((jK h11 a0).1 = 12) (
jg ((jK h11 15).1 = 100 ∧ jin (a7) (jK h11 15).2) (
jg ((jK h11 (jR h11 a0 0)).1 = 100 ∧ jin ((jI h11 15 (a7 : Int32).toNatClampNeg)) (jK h11 (jR h11 a0 0)).2) (
jg ((jK h11 17).1 = 100 ∧ jin (a7) (jK h11 17).2) (
jg ((jK h11 a0).1 = 12) (
jb (F_12_step a0 5 ((x10 + (jI h11 (jR h11 a0 0) ((jI h11 15 (a7 : Int32).toNatClampNeg) : Int32).toNatClampNeg)) + s0) (jI h11 17 (a7 : Int32).toNatClampNeg) h11) fun x12 h13 =>
jl (a7 + 1) fun x14 =>
k166 a0 a1 a2 a3 a4 a5 a6 x14 h13))))))))))))))))))))))
def B_12_small_224 (k166 : Nat → Nat → Int32 → Int32 → Nat → Int32 → Int32 → Int32 → jH → Option (Unit × jH)) (a0 : Nat) (a1 : Nat) (a2 : Int32) (a3 : Int32) (a4 : Nat) (a5 : Int32) (a6 : Int32) (a7 : Int32) (a8 : Int32) (s0 : Int32) (H : jH) : Option (Unit × jH) :=
(if ¬ (a8 : Int32) = 0 then
(if ¬ (a8 : Int32) = (1 : Int32) then
(if ¬ (a8 : Int32) = (2 : Int32) then
(if ¬ (a8 : Int32) = (3 : Int32) then
B_12_small_270 k166 a0 a1 a2 a3 a4 a5 a6 a7 a8 s0 0 H
else
B_12_small_270 k166 a0 a1 a2 a3 a4 a5 a6 a7 a8 s0 2053994217 H)
else
B_12_small_270 k166 a0 a1 a2 a3 a4 a5 a6 a7 a8 s0 1836072691 H)
else
B_12_small_270 k166 a0 a1 a2 a3 a4 a5 a6 a7 a8 s0 1548603684 H)
else
B_12_small_270 k166 a0 a1 a2 a3 a4 a5 a6 a7 a8 s0 1352829926 H)
def B_12_small_166 (k43 : Nat → Nat → Int32 → Int32 → Nat → Int32 → Int32 → jH → Option (Unit × jH)) (k166 : Nat → Nat → Int32 → Int32 → Nat → Int32 → Int32 → Int32 → jH → Option (Unit × jH)) (a0 : Nat) (a1 : Nat) (a2 : Int32) (a3 : Int32) (a4 : Nat) (a5 : Int32) (a6 : Int32) (a7 : Int32) (H : jH) : Option (Unit × jH) :=
(if (80 : Int32) ≤ (a7 : Int32) then
jg ((jK H a0).1 = 12) (
jg ((jK H (jR H a0 1)).1 = 100 ∧ jin (1) (jK H (jR H a0 1)).2) (
jg ((jK H a0).1 = 12) (
jg ((jK H (jR H a0 2)).1 = 100 ∧ jin (2) (jK H (jR H a0 2)).2) (
jg ((jK H a0).1 = 12) (
jg ((jK H (jR H a0 2)).1 = 100 ∧ jin (8) (jK H (jR H a0 2)).2) (
jl (((jI H (jR H a0 1) (1 : Int32).toNatClampNeg) + (jI H (jR H a0 2) (2 : Int32).toNatClampNeg)) + (jI H (jR H a0 2) (8 : Int32).toNatClampNeg)) fun x15 =>
jg ((jK H a0).1 = 12) (
jg ((jK H a0).1 = 12) (
jg ((jK H (jR H a0 1)).1 = 100 ∧ jin (2) (jK H (jR H a0 1)).2) (
jg ((jK H a0).1 = 12) (
jg ((jK H (jR H a0 2)).1 = 100 ∧ jin (3) (jK H (jR H a0 2)).2) (
jg ((jK H a0).1 = 12) (
jg ((jK H (jR H a0 2)).1 = 100 ∧ jin (9) (jK H (jR H a0 2)).2) (
jg ((jK H (jR H a0 1)).1 = 100 ∧ jF0 ≤ (jR H a0 1) ∧ jin (1) (jK H (jR H a0 1)).2) (
jl (jsI H (jR H a0 1) (1 : Int32).toNatClampNeg (((jI H (jR H a0 1) (2 : Int32).toNatClampNeg) + (jI H (jR H a0 2) (3 : Int32).toNatClampNeg)) + (jI H (jR H a0 2) (9 : Int32).toNatClampNeg))) fun h16 =>
jg ((jK h16 a0).1 = 12) (
jg ((jK h16 a0).1 = 12) (
jg ((jK h16 (jR h16 a0 1)).1 = 100 ∧ jin (3) (jK h16 (jR h16 a0 1)).2) (
jg ((jK h16 a0).1 = 12) (
jg ((jK h16 (jR h16 a0 2)).1 = 100 ∧ jin (4) (jK h16 (jR h16 a0 2)).2) (
jg ((jK h16 a0).1 = 12) (
jg ((jK h16 (jR h16 a0 2)).1 = 100 ∧ jin (5) (jK h16 (jR h16 a0 2)).2) (
jg ((jK h16 (jR h16 a0 1)).1 = 100 ∧ jF0 ≤ (jR h16 a0 1) ∧ jin (2) (jK h16 (jR h16 a0 1)).2) (
jl (jsI h16 (jR h16 a0 1) (2 : Int32).toNatClampNeg (((jI h16 (jR h16 a0 1) (3 : Int32).toNatClampNeg) + (jI h16 (jR h16 a0 2) (4 : Int32).toNatClampNeg)) + (jI h16 (jR h16 a0 2) (5 : Int32).toNatClampNeg))) fun h17 =>
jg ((jK h17 a0).1 = 12) (
jg ((jK h17 a0).1 = 12) (
jg ((jK h17 (jR h17 a0 1)).1 = 100 ∧ jin (4) (jK h17 (jR h17 a0 1)).2) (
jg ((jK h17 a0).1 = 12) (
jg ((jK h17 (jR h17 a0 2)).1 = 100 ∧ jin (0) (jK h17 (jR h17 a0 2)).2) (
jg ((jK h17 a0).1 = 12) (
jg ((jK h17 (jR h17 a0 2)).1 = 100 ∧ jin (6) (jK h17 (jR h17 a0 2)).2) (
jg ((jK h17 (jR h17 a0 1)).1 = 100 ∧ jF0 ≤ (jR h17 a0 1) ∧ jin (3) (jK h17 (jR h17 a0 1)).2) (
jl (jsI h17 (jR h17 a0 1) (3 : Int32).toNatClampNeg (((jI h17 (jR h17 a0 1) (4 : Int32).toNatClampNeg) + (jI h17 (jR h17 a0 2) (0 : Int32).toNatClampNeg)) + (jI h17 (jR h17 a0 2) (6 : Int32).toNatClampNeg))) fun h18 =>
jg ((jK h18 a0).1 = 12) (
jg ((jK h18 a0).1 = 12) (
jg ((jK h18 (jR h18 a0 1)).1 = 100 ∧ jin (0) (jK h18 (jR h18 a0 1)).2) (
jg ((jK h18 a0).1 = 12) (
jg ((jK h18 (jR h18 a0 2)).1 = 100 ∧ jin (1) (jK h18 (jR h18 a0 2)).2) (
jg ((jK h18 a0).1 = 12) (
jg ((jK h18 (jR h18 a0 2)).1 = 100 ∧ jin (7) (jK h18 (jR h18 a0 2)).2) (
jg ((jK h18 (jR h18 a0 1)).1 = 100 ∧ jF0 ≤ (jR h18 a0 1) ∧ jin (4) (jK h18 (jR h18 a0 1)).2) (
jl (jsI h18 (jR h18 a0 1) (4 : Int32).toNatClampNeg (((jI h18 (jR h18 a0 1) (0 : Int32).toNatClampNeg) + (jI h18 (jR h18 a0 2) (1 : Int32).toNatClampNeg)) + (jI h18 (jR h18 a0 2) (7 : Int32).toNatClampNeg))) fun h19 =>
jg ((jK h19 a0).1 = 12) (
jg ((jK h19 (jR h19 a0 1)).1 = 100 ∧ jF0 ≤ (jR h19 a0 1) ∧ jin (0) (jK h19 (jR h19 a0 1)).2) (
jl (jsI h19 (jR h19 a0 1) (0 : Int32).toNatClampNeg x15) fun h20 =>
jl (a6 + 1) fun x21 =>
k43 a0 a1 a2 a3 a4 a5 x21 h20))))))))))))))))))))))))))))))))))))))))
else
jg (¬ (16 : Int32) = 0) (
jl (a7 / 16) fun x22 =>
(if ¬ (x22 : Int32) = 0 then
(if ¬ (x22 : Int32) = (1 : Int32) then
(if ¬ (x22 : Int32) = (2 : Int32) then
(if ¬ (x22 : Int32) = (3 : Int32) then
B_12_small_224 k166 a0 a1 a2 a3 a4 a5 a6 a7 x22 (-1454113458) H
else
B_12_small_224 k166 a0 a1 a2 a3 a4 a5 a6 a7 x22 (-1894007588) H)
else
B_12_small_224 k166 a0 a1 a2 a3 a4 a5 a6 a7 x22 1859775393 H)
else
B_12_small_224 k166 a0 a1 a2 a3 a4 a5 a6 a7 x22 1518500249 H)
else
B_12_small_224 k166 a0 a1 a2 a3 a4 a5 a6 a7 x22 0 H)))
def F_12_small_166 (k43 : Nat → Nat → Int32 → Int32 → Nat → Int32 → Int32 → jH → Option (Unit × jH)) : Nat → Nat → Nat → Int32 → Int32 → Nat → Int32 → Int32 → Int32 → jH → Option (Unit × jH)
  | 0 => fun _ _ _ _ _ _ _ _ _ => none
  | n + 1 => fun a0 a1 a2 a3 a4 a5 a6 a7 H => B_12_small_166 k43 (F_12_small_166 k43 n) a0 a1 a2 a3 a4 a5 a6 a7 H
def B_12_small_134 (k43 : Nat → Nat → Int32 → Int32 → Nat → Int32 → Int32 → jH → Option (Unit × jH)) (k134 : Nat → Nat → Int32 → Int32 → Nat → Int32 → Int32 → Int32 → jH → Option (Unit × jH)) (a0 : Nat) (a1 : Nat) (a2 : Int32) (a3 : Int32) (a4 : Nat) (a5 : Int32) (a6 : Int32) (a7 : Int32) (H : jH) : Option (Unit × jH) :=
(if (10 : Int32) ≤ (a7 : Int32) then
F_12_small_166 k43 jfuel a0 a1 a2 a3 a4 a5 a6 0 H
else
jg ((jK H a0).1 = 12) (
jg ((jK H a0).1 = 12) (
jg (¬ (5 : Int32) = 0) (
jg ((jK H (jR H a0 1)).1 = 100 ∧ jin ((jrem a7 5)) (jK H (jR H a0 1)).2) (
jg ((jK H (jR H a0 2)).1 = 100 ∧ jF0 ≤ (jR H a0 2) ∧ jin (a7) (jK H (jR H a0 2)).2) (
jl (jsI H (jR H a0 2) (a7 : Int32).toNatClampNeg (jI H (jR H a0 1) ((jrem a7 5) : Int32).toNatClampNeg)) fun h23 =>
jl (a7 + 1) fun x24 =>
k134 a0 a1 a2 a3 a4 a5 a6 x24 h23))))))
def F_12_small_134 (k43 : Nat → Nat → Int32 → Int32 → Nat → Int32 → Int32 → jH → Option (Unit × jH)) : Nat → Nat → Nat → Int32 → Int32 → Nat → Int32 → Int32 → Int32 → jH → Option (Unit × jH)
  | 0 => fun _ _ _ _ _ _ _ _ _ => none
  | n + 1 => fun a0 a1 a2 a3 a4 a5 a6 a7 H => B_12_small_134 k43 (F_12_small_134 k43 n) a0 a1 a2 a3 a4 a5 a6 a7 H
def B_12_small_58 (k43 : Nat → Nat → Int32 → Int32 → Nat → Int32 → Int32 → jH → Option (Unit × jH)) (k58 : Nat → Nat → Int32 → Int32 → Nat → Int32 → Int32 → Int32 → jH → Option (Unit × jH)) (a0 : Nat) (a1 : Nat) (a2 : Int32) (a3 : Int32) (a4 : Nat) (a5 : Int32) (a6 : Int32) (a7 : Int32) (H : jH) : Option (Unit × jH) :=
(if (16 : Int32) ≤ (a7 : Int32) then
F_12_small_134 k43 jfuel a0 a1 a2 a3 a4 a5 a6 0 H
else
jg ((jK H a0).1 = 12) (
jg ((jK H (jR H a0 0)).1 = 100 ∧ jF0 ≤ (jR H a0 0) ∧ jin (a7) (jK H (jR H a0 0)).2) (
jl (jsI H (jR H a0 0) (a7 : Int32).toNatClampNeg 0) fun h25 =>
F_12_small_76 k58 jfuel a0 a1 a2 a3 a4 a5 a6 a7 3 h25)))
def F_12_small_58 (k43 : Nat → Nat → Int32 → Int32 → Nat → Int32 → Int32 → jH → Option (Unit × jH)) : Nat → Nat → Nat → Int32 → Int32 → Nat → Int32 → Int32 → Int32 → jH → Option (Unit × jH)
  | 0 => fun _ _ _ _ _ _ _ _ _ => none
  | n + 1 => fun a0 a1 a2 a3 a4 a5 a6 a7 H => B_12_small_58 k43 (F_12_small_58 k43 n) a0 a1 a2 a3 a4 a5 a6 a7 H
def B_12_small_528 (k528 : Nat → Nat → Int32 → Int32 → jH → Option (Unit × jH)) (a0 : Nat) (a4 : Nat) (a5 : Int32) (a6 : Int32) (H : jH) : Option (Unit × jH) :=
(if (20 : Int32) ≤ (a6 : Int32) then
some ((), H)
else
jg ((jK H a0).1 = 12) (
jg (¬ (4 : Int32) = 0) (
jg ((jK H (jR H a0 1)).1 = 100 ∧ jin ((a6 / 4)) (jK H (jR H a0 1)).2) (
jg (¬ (4 : Int32) = 0) (
jg ((jK H a4).1 = 101 ∧ jin ((a5 + a6)) (jK H a4).2) (
jl (jsB H a4 ((a5 + a6) : Int32).toNatClampNeg (jbu (ji2b (jushr (jI H (jR H a0 1) ((a6 / 4) : Int32).toNatClampNeg) (8 * (jrem a6 4)))))) fun h26 =>
jl (a6 + 1) fun x27 =>
k528 a0 a4 a5 x27 h26))))))
def F_12_small_528  : Nat → Nat → Nat → Int32 → Int32 → jH → Option (Unit × jH)
  | 0 => fun _ _ _ _ _ => none
  | n + 1 => fun a0 a4 a5 a6 H => B_12_small_528 (F_12_small_528  n) a0 a4 a5 a6 H
def B_12_small_43 (k43 : Nat → Nat → Int32 → Int32 → Nat → Int32 → Int32 → jH → Option (Unit × jH)) (a0 : Nat) (a1 : Nat) (a2 : Int32) (a3 : Int32) (a4 : Nat) (a5 : Int32) (a6 : Int32) (H : jH) : Option (Unit × jH) :=
jg (¬ (64 : Int32) = 0) (
(if (((a3 + 72) / 64) : Int32) ≤ (a6 : Int32) then
F_12_small_528 jfuel a0 a4 a5 0 H
else
F_12_small_58 k43 jfuel a0 a1 a2 a3 a4 a5 a6 0 H))
def F_12_small_43  : Nat → Nat → Nat → Int32 → Int32 → Nat → Int32 → Int32 → jH → Option (Unit × jH)
  | 0 => fun _ _ _ _ _ _ _ _ => none
  | n + 1 => fun a0 a1 a2 a3 a4 a5 a6 H => B_12_small_43 (F_12_small_43  n) a0 a1 a2 a3 a4 a5 a6 H
def F_12_small (a0 : Nat) (a1 : Nat) (a2 : Int32) (a3 : Int32) (a4 : Nat) (a5 : Int32) (H : jH) : Option (Unit × jH) :=
jg ((jK H a0).1 = 12) (
jg ((jK H (jR H a0 1)).1 = 100 ∧ jF0 ≤ (jR H a0 1) ∧ jin (0) (jK H (jR H a0 1)).2) (
jl (jsI H (jR H a0 1) (0 : Int32).toNatClampNeg 1732584193) fun h28 =>
jg ((jK h28 a0).1 = 12) (
jg ((jK h28 (jR h28 a0 1)).1 = 100 ∧ jF0 ≤ (jR h28 a0 1) ∧ jin (1) (jK h28 (jR h28 a0 1)).2) (
jl (jsI h28 (jR h28 a0 1) (1 : Int32).toNatClampNeg (-271733879)) fun h29 =>
jg ((jK h29 a0).1 = 12) (
jg ((jK h29 (jR h29 a0 1)).1 = 100 ∧ jF0 ≤ (jR h29 a0 1) ∧ jin (2) (jK h29 (jR h29 a0 1)).2) (
jl (jsI h29 (jR h29 a0 1) (2 : Int32).toNatClampNeg (-1732584194)) fun h30 =>
jg ((jK h30 a0).1 = 12) (
jg ((jK h30 (jR h30 a0 1)).1 = 100 ∧ jF0 ≤ (jR h30 a0 1) ∧ jin (3) (jK h30 (jR h30 a0 1)).2) (
jl (jsI h30 (jR h30 a0 1) (3 : Int32).toNatClampNeg 271733878) fun h31 =>
jg ((jK h31 a0).1 = 12) (
jg ((jK h31 (jR h31 a0 1)).1 = 100 ∧ jF0 ≤ (jR h31 a0 1) ∧ jin (4) (jK h31 (jR h31 a0 1)).2) (
jl (jsI h31 (jR h31 a0 1) (4 : Int32).toNatClampNeg (-1009589776)) fun h32 =>
F_12_small_43 jfuel a0 a1 a2 a3 a4 a5 0 h32))))))))))
def B_14_digested_105 (k105 : Nat → Int32 → Int32 → jH → Option (Unit × jH)) (a0 : Nat) (a1 : Int32) (a4 : Int32) (H : jH) : Option (Unit × jH) :=
jg ((jK H a0).1 = 14) (
jg ((jK H (jR H a0 1)).1 = 100 ∧ jin (a1) (jK H (jR H a0 1)).2) (
(if ((jI H (jR H a0 1) (a1 : Int32).toNatClampNeg) : Int32) ≤ (a4 : Int32) then
some ((), H)
else
jg ((jK H a0).1 = 14) (
jg ((jK H a0).1 = 14) (
jg ((jK H (jR H a0 14)).1 = 101 ∧ jin (a4) (jK H (jR H a0 14)).2) (
jg ((jK H (jR H a0 0)).1 = 100 ∧ jF0 ≤ (jR H a0 0) ∧ jin (((120 * a1) + a4)) (jK H (jR H a0 0)).2) (
jl (jsI H (jR H a0 0) (((120 * a1) + a4) : Int32).toNatClampNeg ((jbs (jB H (jR H a0 14) (a4 : Int32).toNatClampNeg)) &&& 255)) fun h1 =>
jl (a4 + 1) fun x2 =>
k105 a0 a1 x2 h1)))))))
def F_14_digested_105  : Nat → Nat → Int32 → Int32 → jH → Option (Unit × jH)
  | 0 => fun _ _ _ _ => none
  | n + 1 => fun a0 a1 a4 H => B_14_digested_105 (F_14_digested_105  n) a0 a1 a4 H
def B_14_digested_101  (a0 : Nat) (a1 : Int32) (s0 : Nat) (s1 : Int32) (s2 : Int32) (H : jH) : Option (Unit × jH) :=
jg ((jK H s0).1 = 100 ∧ jF0 ≤ s0 ∧ jin (s1) (jK H s0).2) (
jl (jsI H s0 (s1 : Int32).toNatClampNeg s2) fun h3 =>
F_14_digested_105 jfuel a0 a1 0 h3)
def B_14_digested_85  (a0 : Nat) (a1 : Int32) (a2 : Int32) (H : jH) : Option (Unit × jH) :=
jg ((jK H a0).1 = 14) (
(if (a2 : Int32) = 0 then
B_14_digested_101 a0 a1 (jR H a0 1) a1 20 H
else
B_14_digested_101 a0 a1 (jR H a0 1) a1 32 H))
def B_14_digested_10 (k10 : Nat → Int32 → Int32 → Int32 → Int32 → jH → Option (Unit × jH)) (a0 : Nat) (a1 : Int32) (a2 : Int32) (a3 : Int32) (a4 : Int32) (H : jH) : Option (Unit × jH) :=
(if (a3 : Int32) ≤ (a4 : Int32) then
(if (a2 : Int32) = 0 then
jg ((jK H a0).1 = 14) (
jg ((jK H a0).1 = 14) (
jg ((jK H a0).1 = 14) (
jg ((jK H (jR H a0 15)).1 = 12) (
jb (F_12_small (jR H a0 15) (jR H a0 12) 0 a3 (jR H a0 14) 0 H) fun x4 h5 =>
B_14_digested_85 a0 a1 a2 h5))))
else
jg ((jK H a0).1 = 14) (
jg ((jK H a0).1 = 14) (
jg ((jK H a0).1 = 14) (
jg ((jK H (jR H a0 15)).1 = 12) (
jb (F_12_wide (jR H a0 15) (jR H a0 12) 0 a3 (jR H a0 14) 0 H) fun x6 h7 =>
B_14_digested_85 a0 a1 a2 h7)))))
else
jg ((jK H a0).1 = 14) (
jg ((jK H a0).1 = 14) (
jg ((jK H (jR H a0 0)).1 = 100 ∧ jin (((120 * a1) + a4)) (jK H (jR H a0 0)).2) (
jg ((jK H (jR H a0 12)).1 = 101 ∧ jin (a4) (jK H (jR H a0 12)).2) (
jl (jsB H (jR H a0 12) (a4 : Int32).toNatClampNeg (jbu (ji2b (jI H (jR H a0 0) (((120 * a1) + a4) : Int32).toNatClampNeg)))) fun h8 =>
jl (a4 + 1) fun x9 =>
k10 a0 a1 a2 a3 x9 h8)))))
def F_14_digested_10  : Nat → Nat → Int32 → Int32 → Int32 → Int32 → jH → Option (Unit × jH)
  | 0 => fun _ _ _ _ _ _ => none
  | n + 1 => fun a0 a1 a2 a3 a4 H => B_14_digested_10 (F_14_digested_10  n) a0 a1 a2 a3 a4 H
def F_14_digested (a0 : Nat) (a1 : Int32) (a2 : Int32) (H : jH) : Option (Unit × jH) :=
jg ((jK H a0).1 = 14) (
jg ((jK H (jR H a0 1)).1 = 100 ∧ jin (a1) (jK H (jR H a0 1)).2) (
jl (jI H (jR H a0 1) (a1 : Int32).toNatClampNeg) fun x10 =>
F_14_digested_10 jfuel a0 a1 a2 x10 0 H))
def F_14_top (a0 : Nat) (a1 : Int32) (H : jH) : Option (Int32 × jH) :=
jg ((jK H a0).1 = 14) (
some ((((jI H a0 2) - 1) - a1), H))
def B_14_digest_67   (H : jH) : Option (Unit × jH) :=
some ((), H)
def B_14_digest_50  (a0 : Nat) (a1 : Int32) (H : jH) : Option (Unit × jH) :=
(if ¬ (a1 : Int32) = (170 : Int32) then
B_14_digest_67 H
else
jg ((jK H a0).1 = 14) (
jb (F_14_top a0 0 H) fun x1 h2 =>
jg ((jK h2 a0).1 = 14) (
jb (F_14_digested a0 x1 1 h2) fun x3 h4 =>
B_14_digest_67 h4)))
def B_14_digest_40  (a0 : Nat) (a1 : Int32) (H : jH) : Option (Unit × jH) :=
jg ((jK H a0).1 = 14) (
jb (F_14_top a0 0 H) fun x5 h6 =>
jg ((jK h6 a0).1 = 14) (
jb (F_14_digested a0 x5 0 h6) fun x7 h8 =>
B_14_digest_50 a0 a1 h8))
def B_14_digest_26  (a0 : Nat) (a1 : Int32) (H : jH) : Option (Unit × jH) :=
(if (a1 : Int32) = (166 : Int32) then
B_14_digest_40 a0 a1 H
else
(if ¬ (a1 : Int32) = (169 : Int32) then
B_14_digest_50 a0 a1 H
else
B_14_digest_40 a0 a1 H))
def F_14_digest (a0 : Nat) (a1 : Int32) (H : jH) : Option (Unit × jH) :=
jg ((jK H a0).1 = 14) (
jb (F_14_has a0 1 H) fun x9 h10 =>
(if ¬ (x9 : Int32) = 0 then
(if (a1 : Int32) = (166 : Int32) then
B_14_digest_26 a0 a1 h10
else
jg ((jK h10 a0).1 = 14) (
jb (F_14_top a0 0 h10) fun x11 h12 =>
jg ((jK h12 a0).1 = 14) (
jb (F_14_digested a0 x11 1 h12) fun x13 h14 =>
B_14_digest_26 a0 a1 h14)))
else
some ((), h10)))
def B_14_isSame_71 (k24 : Nat → Int32 → Int32 → Int32 → Int32 → jH → Option (Int32 × jH)) (a0 : Nat) (a1 : Int32) (a2 : Int32) (a4 : Int32) (s0 : Int32) (H : jH) : Option (Int32 × jH) :=
jl (a4 + 1) fun x1 =>
k24 a0 a1 a2 s0 x1 H
def B_14_isSame_70 (k24 : Nat → Int32 → Int32 → Int32 → Int32 → jH → Option (Int32 × jH)) (a0 : Nat) (a1 : Int32) (a2 : Int32) (a4 : Int32) (H : jH) : Option (Int32 × jH) :=
B_14_isSame_71 k24 a0 a1 a2 a4 0 H
def B_14_isSame_24 (k24 : Nat → Int32 → Int32 → Int32 → Int32 → jH → Option (Int32 × jH)) (a0 : Nat) (a1 : Int32) (a2 : Int32) (a3 : Int32) (a4 : Int32) (H : jH) : Option (Int32 × jH) :=
jg ((jK H a0).1 = 14) (
jg ((jK H (jR H a0 1)).1 = 100 ∧ jin (a1) (jK H (jR H a0 1)).2) (
(if ((jI H (jR H a0 1) (a1 : Int32).toNatClampNeg) : Int32) ≤ (a4 : Int32) then
jg ((a3 : Int32) = 0 ∨ (a3 : Int32) = 1) (some (a3, H))
else
(if (a3 : Int32) = 0 then
B_14_isSame_70 k24 a0 a1 a2 a4 H
else
jg ((jK H a0).1 = 14) (
jg ((jK H (jR H a0 0)).1 = 100 ∧ jin (((120 * a1) + a4)) (jK H (jR H a0 0)).2) (
jg ((jK H a0).1 = 14) (
jg ((jK H (jR H a0 0)).1 = 100 ∧ jin (((120 * a2) + a4)) (jK H (jR H a0 0)).2) (
(if ¬ ((jI H (jR H a0 0) (((120 * a1) + a4) : Int32).toNatClampNeg) : Int32) = ((jI H (jR H a0 0) (((120 * a2) + a4) : Int32).toNatClampNeg) : Int32) then
B_14_isSame_70 k24 a0 a1 a2 a4 H
else
B_14_isSame_71 k24 a0 a1 a2 a4 1 H)))))))))
def F_14_isSame_24  : Nat → Nat → Int32 → Int32 → Int32 → Int32 → jH → Option (Int32 × jH)
  | 0 => fun _ _ _ _ _ _ => none
  | n + 1 => fun a0 a1 a2 a3 a4 H => B_14_isSame_24 (F_14_isSame_24  n) a0 a1 a2 a3 a4 H
def B_14_isSame_20  (a0 : Nat) (a1 : Int32) (a2 : Int32) (s0 : Int32) (H : jH) : Option (Int32 × jH) :=
F_14_isSame_24 jfuel a0 a1 a2 s0 0 H
def F_14_isSame (a0 : Nat) (a1 : Int32) (a2 : Int32) (H : jH) : Option (Int32 × jH) :=
jg ((jK H a0).1 = 14) (
jg ((jK H (jR H a0 1)).1 = 100 ∧ jin (a1) (jK H (jR H a0 1)).2) (
jg ((jK H a0).1 = 14) (
jg ((jK H (jR H a0 1)).1 = 100 ∧ jin (a2) (jK H (jR H a0 1)).2) (
(if ¬ ((jI H (jR H a0 1) (a1 : Int32).toNatClampNeg) : Int32) = ((jI H (jR H a0 1) (a2 : Int32).toNatClampNeg) : Int32) then
B_14_isSame_20 a0 a1 a2 0 H
else
B_14_isSame_20 a0 a1 a2 1 H)))))
def B_14_mustBeTrue_35   (H : jH) : Option (Unit × jH) :=
some ((), H)
def F_14_mustBeTrue (a0 : Nat) (H : jH) : Option (Unit × jH) :=
jg ((jK H a0).1 = 14) (
jb (F_14_has a0 1 H) fun x1 h2 =>
(if (x1 : Int32) = 0 then
B_14_mustBeTrue_35 h2
else
jg ((jK h2 a0).1 = 14) (
jg ((jK h2 a0).1 = 14) (
jl (jsI h2 a0 2 ((jI h2 a0 2) - 1)) fun h3 =>
jg ((jK h3 a0).1 = 14) (
jg ((jK h3 a0).1 = 14) (
jb (F_14_isTrueRow a0 (jI h3 a0 2) h3) fun x4 h5 =>
(if ¬ (x4 : Int32) = 0 then
B_14_mustBeTrue_35 h5
else
jg ((jK h5 a0).1 = 14) (
jb (F_14_fails a0 8 h5) fun x6 h7 =>
B_14_mustBeTrue_35 h7))))))))
def B_14_pushNumber_130  (a0 : Nat) (a5 : Int32) (H : jH) : Option (Unit × jH) :=
jg ((jK H a0).1 = 14) (
jg ((jK H a0).1 = 14) (
jg ((jK H (jR H a0 1)).1 = 100 ∧ jF0 ≤ (jR H a0 1) ∧ jin ((jI H a0 2)) (jK H (jR H a0 1)).2) (
jl (jsI H (jR H a0 1) ((jI H a0 2) : Int32).toNatClampNeg a5) fun h1 =>
jg ((jK h1 a0).1 = 14) (
jg ((jK h1 a0).1 = 14) (
jl (jsI h1 a0 2 ((jI h1 a0 2) + 1)) fun h2 =>
some ((), h2))))))
def B_14_pushNumber_101  (a0 : Nat) (a1 : Int64) (a5 : Int32) (H : jH) : Option (Unit × jH) :=
(if 0 ≤ (a1 : Int64) then
B_14_pushNumber_130 a0 a5 H
else
jg ((jK H a0).1 = 14) (
jg ((jK H a0).1 = 14) (
jg ((jK H (jR H a0 0)).1 = 100 ∧ jin ((((120 * (jI H a0 2)) + a5) - 1)) (jK H (jR H a0 0)).2) (
jg ((jK H (jR H a0 0)).1 = 100 ∧ jF0 ≤ (jR H a0 0) ∧ jin ((((120 * (jI H a0 2)) + a5) - 1)) (jK H (jR H a0 0)).2) (
jl (jsI H (jR H a0 0) ((((120 * (jI H a0 2)) + a5) - 1) : Int32).toNatClampNeg ((jI H (jR H a0 0) ((((120 * (jI H a0 2)) + a5) - 1) : Int32).toNatClampNeg) + 128)) fun h3 =>
B_14_pushNumber_130 a0 a5 h3)))))
def B_14_pushNumber_16 (k16 : Nat → Int64 → Int64 → Int32 → jH → Option (Unit × jH)) (a0 : Nat) (a1 : Int64) (a3 : Int64) (a5 : Int32) (H : jH) : Option (Unit × jH) :=
(if (a3 : Int64) ≤ 0 then
(if (a5 : Int32) ≤ 0 then
B_14_pushNumber_101 a0 a1 a5 H
else
jg ((jK H a0).1 = 14) (
jg ((jK H a0).1 = 14) (
jg ((jK H (jR H a0 0)).1 = 100 ∧ jin ((((120 * (jI H a0 2)) + a5) - 1)) (jK H (jR H a0 0)).2) (
(if ((jI H (jR H a0 0) ((((120 * (jI H a0 2)) + a5) - 1) : Int32).toNatClampNeg) : Int32) ≤ (127 : Int32) then
B_14_pushNumber_101 a0 a1 a5 H
else
jg ((jK H a0).1 = 14) (
jg ((jK H a0).1 = 14) (
jg ((jK H (jR H a0 0)).1 = 100 ∧ jF0 ≤ (jR H a0 0) ∧ jin (((120 * (jI H a0 2)) + a5)) (jK H (jR H a0 0)).2) (
jl (jsI H (jR H a0 0) (((120 * (jI H a0 2)) + a5) : Int32).toNatClampNeg 0) fun h4 =>
jl (a5 + 1) fun x5 =>
B_14_pushNumber_101 a0 a1 x5 h4))))))))
else
jg ((jK H a0).1 = 14) (
jg ((jK H a0).1 = 14) (
jg (¬ (256 : Int64) = 0) (
jg ((jK H (jR H a0 0)).1 = 100 ∧ jF0 ≤ (jR H a0 0) ∧ jin (((120 * (jI H a0 2)) + a5)) (jK H (jR H a0 0)).2) (
jl (jsI H (jR H a0 0) (((120 * (jI H a0 2)) + a5) : Int32).toNatClampNeg (Int64.toInt32 (jremL a3 256))) fun h6 =>
jg (¬ (256 : Int64) = 0) (
jl (a3 / 256) fun x7 =>
jl (a5 + 1) fun x8 =>
k16 a0 a1 x7 x8 h6))))))
def F_14_pushNumber_16  : Nat → Nat → Int64 → Int64 → Int32 → jH → Option (Unit × jH)
  | 0 => fun _ _ _ _ _ => none
  | n + 1 => fun a0 a1 a3 a5 H => B_14_pushNumber_16 (F_14_pushNumber_16  n) a0 a1 a3 a5 H
def B_14_pushNumber_12  (a0 : Nat) (a1 : Int64) (s0 : Int64) (H : jH) : Option (Unit × jH) :=
F_14_pushNumber_16 jfuel a0 a1 s0 0 H
def F_14_pushNumber (a0 : Nat) (a1 : Int64) (H : jH) : Option (Unit × jH) :=
(if 0 ≤ (a1 : Int64) then
B_14_pushNumber_12 a0 a1 a1 H
else
B_14_pushNumber_12 a0 a1 (-a1) H)
def B_14_pushTruth_10  (s0 : Nat) (s1 : Int64) (H : jH) : Option (Unit × jH) :=
jg ((jK H s0).1 = 14) (
jb (F_14_pushNumber s0 s1 H) fun x1 h2 =>
some ((), h2))
def F_14_pushTruth (a0 : Nat) (a1 : Int32) (H : jH) : Option (Unit × jH) :=
(if (a1 : Int32) = 0 then
B_14_pushTruth_10 a0 0 H
else
B_14_pushTruth_10 a0 1 H)
def B_14_equal_47   (H : jH) : Option (Unit × jH) :=
some ((), H)
def F_14_equal (a0 : Nat) (a1 : Int32) (H : jH) : Option (Unit × jH) :=
jg ((jK H a0).1 = 14) (
jb (F_14_has a0 2 H) fun x1 h2 =>
(if ¬ (x1 : Int32) = 0 then
jg ((jK h2 a0).1 = 14) (
jb (F_14_top a0 0 h2) fun x3 h4 =>
jg ((jK h4 a0).1 = 14) (
jb (F_14_top a0 1 h4) fun x5 h6 =>
jg ((jK h6 a0).1 = 14) (
jb (F_14_isSame a0 x3 x5 h6) fun x7 h8 =>
jg ((jK h8 a0).1 = 14) (
jg ((jK h8 a0).1 = 14) (
jl (jsI h8 a0 2 ((jI h8 a0 2) - 2)) fun h9 =>
jg ((jK h9 a0).1 = 14) (
jb (F_14_pushTruth a0 x7 h9) fun x10 h11 =>
(if (a1 : Int32) = 0 then
B_14_equal_47 h11
else
jg ((jK h11 a0).1 = 14) (
jb (F_14_mustBeTrue a0 h11) fun x12 h13 =>
B_14_equal_47 h13))))))))
else
some ((), h2)))
def B_14_copy_14 (k14 : Nat → Int32 → Int32 → Int32 → jH → Option (Unit × jH)) (a0 : Nat) (a1 : Int32) (a2 : Int32) (a3 : Int32) (H : jH) : Option (Unit × jH) :=
(if (120 : Int32) ≤ (a3 : Int32) then
some ((), H)
else
jg ((jK H a0).1 = 14) (
jg ((jK H a0).1 = 14) (
jg ((jK H (jR H a0 0)).1 = 100 ∧ jin (((120 * a2) + a3)) (jK H (jR H a0 0)).2) (
jg ((jK H (jR H a0 0)).1 = 100 ∧ jF0 ≤ (jR H a0 0) ∧ jin (((120 * a1) + a3)) (jK H (jR H a0 0)).2) (
jl (jsI H (jR H a0 0) (((120 * a1) + a3) : Int32).toNatClampNeg (jI H (jR H a0 0) (((120 * a2) + a3) : Int32).toNatClampNeg)) fun h1 =>
jl (a3 + 1) fun x2 =>
k14 a0 a1 a2 x2 h1)))))
def F_14_copy_14  : Nat → Nat → Int32 → Int32 → Int32 → jH → Option (Unit × jH)
  | 0 => fun _ _ _ _ _ => none
  | n + 1 => fun a0 a1 a2 a3 H => B_14_copy_14 (F_14_copy_14  n) a0 a1 a2 a3 H
def F_14_copy (a0 : Nat) (a1 : Int32) (a2 : Int32) (H : jH) : Option (Unit × jH) :=
jg ((jK H a0).1 = 14) (
jg ((jK H a0).1 = 14) (
jg ((jK H (jR H a0 1)).1 = 100 ∧ jin (a2) (jK H (jR H a0 1)).2) (
jg ((jK H (jR H a0 1)).1 = 100 ∧ jF0 ≤ (jR H a0 1) ∧ jin (a1) (jK H (jR H a0 1)).2) (
jl (jsI H (jR H a0 1) (a1 : Int32).toNatClampNeg (jI H (jR H a0 1) (a2 : Int32).toNatClampNeg)) fun h3 =>
F_14_copy_14 jfuel a0 a1 a2 0 h3))))
def F_14_push (a0 : Nat) (a1 : Int32) (H : jH) : Option (Unit × jH) :=
jg ((jK H a0).1 = 14) (
jg ((jK H a0).1 = 14) (
jb (F_14_copy a0 (jI H a0 2) a1 H) fun x1 h2 =>
jg ((jK h2 a0).1 = 14) (
jg ((jK h2 a0).1 = 14) (
jl (jsI h2 a0 2 ((jI h2 a0 2) + 1)) fun h3 =>
some ((), h3)))))
def B_14_again_22 (k22 : Nat → Int32 → Int32 → Int32 → jH → Option (Unit × jH)) (a0 : Nat) (a3 : Int32) (a4 : Int32) (a5 : Int32) (H : jH) : Option (Unit × jH) :=
(if (a3 : Int32) ≤ (a5 : Int32) then
some ((), H)
else
jg ((jK H a0).1 = 14) (
jb (F_14_push a0 (a4 + a5) H) fun x1 h2 =>
jl (a5 + 1) fun x3 =>
k22 a0 a3 a4 x3 h2))
def F_14_again_22  : Nat → Nat → Int32 → Int32 → Int32 → jH → Option (Unit × jH)
  | 0 => fun _ _ _ _ _ => none
  | n + 1 => fun a0 a3 a4 a5 H => B_14_again_22 (F_14_again_22  n) a0 a3 a4 a5 H
def F_14_again (a0 : Nat) (a1 : Int32) (a2 : Int32) (a3 : Int32) (H : jH) : Option (Unit × jH) :=
jg ((jK H a0).1 = 14) (
jb (F_14_has a0 a1 H) fun x4 h5 =>
(if ¬ (x4 : Int32) = 0 then
jg ((jK h5 a0).1 = 14) (
jl (((jI h5 a0 2) - a2) - 1) fun x6 =>
F_14_again_22 jfuel a0 a3 x6 0 h5)
else
some ((), h5)))
def B_14_reads_99 (k50 : Nat → Int32 → Int32 → jH → Option (Int32 × jH)) (a0 : Nat) (a2 : Int32) (a3 : Int32) (s0 : Nat) (s1 : Int64) (s2 : Int32) (H : jH) : Option (Int32 × jH) :=
jg ((jK H s0).1 = 14) (
jl (jsL H s0 11 (s1 + (Int32.toInt64 s2))) fun h1 =>
jl (a3 + (-1)) fun x2 =>
k50 a0 a2 x2 h1)
def B_14_reads_155  (s0 : Nat) (s1 : Int64) (H : jH) : Option (Int32 × jH) :=
jg ((jK H s0).1 = 14) (
jl (jsL H s0 11 s1) fun h3 =>
jg ((1 : Int32) = 0 ∨ (1 : Int32) = 1) (some (1, h3)))
def B_14_reads_151  (a0 : Nat) (s0 : Nat) (H : jH) : Option (Int32 × jH) :=
jg ((jK H a0).1 = 14) (
B_14_reads_155 s0 (jL H a0 11) H)
def B_14_reads_50 (k50 : Nat → Int32 → Int32 → jH → Option (Int32 × jH)) (a0 : Nat) (a2 : Int32) (a3 : Int32) (H : jH) : Option (Int32 × jH) :=
(if (a3 : Int32) < 0 then
jg ((jK H a0).1 = 14) (
jg ((jK H (jR H a0 1)).1 = 100 ∧ jin (a2) (jK H (jR H a0 1)).2) (
(if ((jI H (jR H a0 1) (a2 : Int32).toNatClampNeg) : Int32) ≤ 0 then
B_14_reads_151 a0 a0 H
else
jg ((jK H a0).1 = 14) (
jg ((jK H a0).1 = 14) (
jg ((jK H (jR H a0 1)).1 = 100 ∧ jin (a2) (jK H (jR H a0 1)).2) (
jg ((jK H (jR H a0 0)).1 = 100 ∧ jin ((((120 * a2) + (jI H (jR H a0 1) (a2 : Int32).toNatClampNeg)) - 1)) (jK H (jR H a0 0)).2) (
(if ((jI H (jR H a0 0) ((((120 * a2) + (jI H (jR H a0 1) (a2 : Int32).toNatClampNeg)) - 1) : Int32).toNatClampNeg) : Int32) ≤ (127 : Int32) then
B_14_reads_151 a0 a0 H
else
jg ((jK H a0).1 = 14) (
B_14_reads_155 a0 (-(jL H a0 11)) H)))))))))
else
jg ((jK H a0).1 = 14) (
jg ((jK H (jR H a0 0)).1 = 100 ∧ jin (((120 * a2) + a3)) (jK H (jR H a0 0)).2) (
jl (jI H (jR H a0 0) (((120 * a2) + a3) : Int32).toNatClampNeg) fun x4 =>
jg ((jK H a0).1 = 14) (
jg ((jK H a0).1 = 14) (
jg ((jK H (jR H a0 1)).1 = 100 ∧ jin (a2) (jK H (jR H a0 1)).2) (
(if ¬ (a3 : Int32) = (((jI H (jR H a0 1) (a2 : Int32).toNatClampNeg) - 1) : Int32) then
B_14_reads_99 k50 a0 a2 a3 a0 ((jL H a0 11) * 256) x4 H
else
jg (¬ (128 : Int32) = 0) (
B_14_reads_99 k50 a0 a2 a3 a0 ((jL H a0 11) * 256) (jrem x4 128) H))))))))
def F_14_reads_50  : Nat → Nat → Int32 → Int32 → jH → Option (Int32 × jH)
  | 0 => fun _ _ _ _ => none
  | n + 1 => fun a0 a2 a3 H => B_14_reads_50 (F_14_reads_50  n) a0 a2 a3 H
def F_14_reads (a0 : Nat) (a1 : Int32) (H : jH) : Option (Int32 × jH) :=
jg ((jK H a0).1 = 14) (
jb (F_14_has a0 (a1 + 1) H) fun x5 h6 =>
(if ¬ (x5 : Int32) = 0 then
jg ((jK h6 a0).1 = 14) (
jb (F_14_top a0 a1 h6) fun x7 h8 =>
jg ((jK h8 a0).1 = 14) (
jg ((jK h8 (jR h8 a0 1)).1 = 100 ∧ jin (x7) (jK h8 (jR h8 a0 1)).2) (
(if ((jI h8 (jR h8 a0 1) (x7 : Int32).toNatClampNeg) : Int32) ≤ (4 : Int32) then
jg ((jK h8 a0).1 = 14) (
jl (jsL h8 a0 11 0) fun h9 =>
jg ((jK h9 a0).1 = 14) (
jg ((jK h9 (jR h9 a0 1)).1 = 100 ∧ jin (x7) (jK h9 (jR h9 a0 1)).2) (
jl ((jI h9 (jR h9 a0 1) (x7 : Int32).toNatClampNeg) - 1) fun x10 =>
F_14_reads_50 jfuel a0 x7 x10 h9)))
else
jg ((jK h8 a0).1 = 14) (
jb (F_14_fails a0 6 h8) fun x11 h12 =>
jg ((0 : Int32) = 0 ∨ (0 : Int32) = 1) (some (0, h12)))))))
else
jg ((0 : Int32) = 0 ∨ (0 : Int32) = 1) (some (0, h6))))
def B_14_takeOut_6 (k6 : Nat → Int32 → jH → Option (Unit × jH)) (a0 : Nat) (a2 : Int32) (H : jH) : Option (Unit × jH) :=
jg ((jK H a0).1 = 14) (
(if (((jI H a0 2) - 1) : Int32) ≤ (a2 : Int32) then
jg ((jK H a0).1 = 14) (
jg ((jK H a0).1 = 14) (
jl (jsI H a0 2 ((jI H a0 2) - 1)) fun h1 =>
some ((), h1)))
else
jg ((jK H a0).1 = 14) (
jb (F_14_copy a0 a2 (a2 + 1) H) fun x2 h3 =>
jl (a2 + 1) fun x4 =>
k6 a0 x4 h3)))
def F_14_takeOut_6  : Nat → Nat → Int32 → jH → Option (Unit × jH)
  | 0 => fun _ _ _ => none
  | n + 1 => fun a0 a2 H => B_14_takeOut_6 (F_14_takeOut_6  n) a0 a2 H
def F_14_takeOut (a0 : Nat) (a1 : Int32) (H : jH) : Option (Unit × jH) :=
jg ((jK H a0).1 = 14) (
jb (F_14_top a0 a1 H) fun x5 h6 =>
F_14_takeOut_6 jfuel a0 x5 h6)
def B_14_pick_43  (a0 : Nat) (H : jH) : Option (Unit × jH) :=
jg ((jK H a0).1 = 14) (
jb (F_14_fails a0 7 H) fun x1 h2 =>
some ((), h2))
def B_14_pick_77  (a0 : Nat) (H : jH) : Option (Unit × jH) :=
jg ((jK H a0).1 = 14) (
jb (F_14_push a0 134 H) fun x3 h4 =>
some ((), h4))
def F_14_pick (a0 : Nat) (a1 : Int32) (H : jH) : Option (Unit × jH) :=
jg ((jK H a0).1 = 14) (
jb (F_14_reads a0 0 H) fun x5 h6 =>
(if ¬ (x5 : Int32) = 0 then
jg ((jK h6 a0).1 = 14) (
jg ((jK h6 a0).1 = 14) (
jl (jsI h6 a0 2 ((jI h6 a0 2) - 1)) fun h7 =>
jg ((jK h7 a0).1 = 14) (
(if ((jL h7 a0 11) : Int64) < 0 then
B_14_pick_43 a0 h7
else
jg ((jK h7 a0).1 = 14) (
jg ((jK h7 a0).1 = 14) (
(if ((jL h7 a0 11) : Int64) ≤ (Int32.toInt64 ((jI h7 a0 2) - 1)) then
jg ((jK h7 a0).1 = 14) (
jl (Int64.toInt32 (jL h7 a0 11)) fun x8 =>
jg ((jK h7 a0).1 = 14) (
jb (F_14_top a0 x8 h7) fun x9 h10 =>
jg ((jK h10 a0).1 = 14) (
jb (F_14_copy a0 134 x9 h10) fun x11 h12 =>
(if (a1 : Int32) = 0 then
B_14_pick_77 a0 h12
else
jg ((jK h12 a0).1 = 14) (
jb (F_14_takeOut a0 x8 h12) fun x13 h14 =>
B_14_pick_77 a0 h14)))))
else
B_14_pick_43 a0 h7)))))))
else
some ((), h6)))
def B_14_turn_37 (k11 : Nat → Int32 → Int32 → Int32 → jH → Option (Unit × jH)) (k37 : Nat → Int32 → Int32 → Int32 → Int32 → jH → Option (Unit × jH)) (a0 : Nat) (a1 : Int32) (a2 : Int32) (a3 : Int32) (a4 : Int32) (H : jH) : Option (Unit × jH) :=
jg ((jK H a0).1 = 14) (
(if (((jI H a0 2) - 1) : Int32) ≤ (a4 : Int32) then
jg ((jK H a0).1 = 14) (
jg ((jK H a0).1 = 14) (
jb (F_14_copy a0 ((jI H a0 2) - 1) 139 H) fun x1 h2 =>
jl (a3 + 1) fun x3 =>
k11 a0 a1 a2 x3 h2))
else
jg ((jK H a0).1 = 14) (
jb (F_14_copy a0 a4 (a4 + 1) H) fun x4 h5 =>
jl (a4 + 1) fun x6 =>
k37 a0 a1 a2 a3 x6 h5)))
def F_14_turn_37 (k11 : Nat → Int32 → Int32 → Int32 → jH → Option (Unit × jH)) : Nat → Nat → Int32 → Int32 → Int32 → Int32 → jH → Option (Unit × jH)
  | 0 => fun _ _ _ _ _ _ => none
  | n + 1 => fun a0 a1 a2 a3 a4 H => B_14_turn_37 k11 (F_14_turn_37 k11 n) a0 a1 a2 a3 a4 H
def B_14_turn_11 (k11 : Nat → Int32 → Int32 → Int32 → jH → Option (Unit × jH)) (a0 : Nat) (a1 : Int32) (a2 : Int32) (a3 : Int32) (H : jH) : Option (Unit × jH) :=
(if (a2 : Int32) ≤ (a3 : Int32) then
some ((), H)
else
jg ((jK H a0).1 = 14) (
jg ((jK H a0).1 = 14) (
jb (F_14_copy a0 139 ((jI H a0 2) - a1) H) fun x7 h8 =>
jg ((jK h8 a0).1 = 14) (
jl ((jI h8 a0 2) - a1) fun x9 =>
F_14_turn_37 k11 jfuel a0 a1 a2 a3 x9 h8))))
def F_14_turn_11  : Nat → Nat → Int32 → Int32 → Int32 → jH → Option (Unit × jH)
  | 0 => fun _ _ _ _ _ => none
  | n + 1 => fun a0 a1 a2 a3 H => B_14_turn_11 (F_14_turn_11  n) a0 a1 a2 a3 H
def F_14_turn (a0 : Nat) (a1 : Int32) (a2 : Int32) (H : jH) : Option (Unit × jH) :=
jg ((jK H a0).1 = 14) (
jb (F_14_has a0 a1 H) fun x10 h11 =>
(if ¬ (x10 : Int32) = 0 then
F_14_turn_11 jfuel a0 a1 a2 0 h11
else
some ((), h11)))
def B_14_moves_442   (H : jH) : Option (Unit × jH) :=
some ((), H)
def B_14_moves_199  (s0 : Nat) (s1 : Int32) (H : jH) : Option (Unit × jH) :=
jg ((jK H s0).1 = 14) (
jl (jsI H s0 2 s1) fun h1 =>
B_14_moves_442 h1)
def B_14_moves_320  (s0 : Nat) (s1 : Int32) (H : jH) : Option (Unit × jH) :=
jg ((jK H s0).1 = 14) (
jl (jsI H s0 2 s1) fun h2 =>
B_14_moves_442 h2)
def F_14_moves (a0 : Nat) (a1 : Int32) (H : jH) : Option (Unit × jH) :=
(if (a1 : Int32) = 107 then
jg ((jK H a0).1 = 14) (
jb (F_14_has a0 1 H) fun x3 h4 =>
(if (x3 : Int32) = 0 then
B_14_moves_442 h4
else
jg ((jK h4 a0).1 = 14) (
jg ((jK h4 a0).1 = 14) (
jl (jsI h4 a0 2 ((jI h4 a0 2) - 1)) fun h5 =>
jg ((jK h5 a0).1 = 14) (
jg ((jK h5 a0).1 = 14) (
jg ((jK h5 a0).1 = 14) (
jb (F_14_copy a0 (70 + (jI h5 a0 3)) (jI h5 a0 2) h5) fun x6 h7 =>
jg ((jK h7 a0).1 = 14) (
jg ((jK h7 a0).1 = 14) (
jl (jsI h7 a0 3 ((jI h7 a0 3) + 1)) fun h8 =>
B_14_moves_442 h8)))))))))
else if (a1 : Int32) = 108 then
jg ((jK H a0).1 = 14) (
(if ¬ ((jI H a0 3) : Int32) = 0 then
jg ((jK H a0).1 = 14) (
jg ((jK H a0).1 = 14) (
jl (jsI H a0 3 ((jI H a0 3) - 1)) fun h9 =>
jg ((jK h9 a0).1 = 14) (
jg ((jK h9 a0).1 = 14) (
jb (F_14_push a0 (70 + (jI h9 a0 3)) h9) fun x10 h11 =>
B_14_moves_442 h11))))
else
jg ((jK H a0).1 = 14) (
jb (F_14_fails a0 5 H) fun x12 h13 =>
B_14_moves_442 h13)))
else if (a1 : Int32) = 109 then
jg ((jK H a0).1 = 14) (
jb (F_14_has a0 2 H) fun x14 h15 =>
(if (x14 : Int32) = 0 then
jg ((jK h15 a0).1 = 14) (
B_14_moves_199 a0 (jI h15 a0 2) h15)
else
jg ((jK h15 a0).1 = 14) (
B_14_moves_199 a0 ((jI h15 a0 2) - 2) h15)))
else if (a1 : Int32) = 110 then
jg ((jK H a0).1 = 14) (
jb (F_14_again a0 2 1 2 H) fun x16 h17 =>
B_14_moves_442 h17)
else if (a1 : Int32) = 111 then
jg ((jK H a0).1 = 14) (
jb (F_14_again a0 3 2 3 H) fun x18 h19 =>
B_14_moves_442 h19)
else if (a1 : Int32) = 112 then
jg ((jK H a0).1 = 14) (
jb (F_14_again a0 4 3 2 H) fun x20 h21 =>
B_14_moves_442 h21)
else if (a1 : Int32) = 113 then
jg ((jK H a0).1 = 14) (
jb (F_14_turn a0 6 2 H) fun x22 h23 =>
B_14_moves_442 h23)
else if (a1 : Int32) = 114 then
jg ((jK H a0).1 = 14) (
jb (F_14_turn a0 4 2 H) fun x24 h25 =>
B_14_moves_442 h25)
else if (a1 : Int32) = 115 then
jg ((jK H a0).1 = 14) (
jb (F_14_has a0 1 H) fun x26 h27 =>
(if (x26 : Int32) = 0 then
B_14_moves_442 h27
else
jg ((jK h27 a0).1 = 14) (
jb (F_14_top a0 0 h27) fun x28 h29 =>
jg ((jK h29 a0).1 = 14) (
jb (F_14_isTrueRow a0 x28 h29) fun x30 h31 =>
(if (x30 : Int32) = 0 then
B_14_moves_442 h31
else
jg ((jK h31 a0).1 = 14) (
jb (F_14_top a0 0 h31) fun x32 h33 =>
jg ((jK h33 a0).1 = 14) (
jb (F_14_push a0 x32 h33) fun x34 h35 =>
B_14_moves_442 h35)))))))
else if (a1 : Int32) = 116 then
jg ((jK H a0).1 = 14) (
jg ((jK H a0).1 = 14) (
jb (F_14_pushNumber a0 (Int32.toInt64 (jI H a0 2)) H) fun x36 h37 =>
B_14_moves_442 h37))
else if (a1 : Int32) = 117 then
jg ((jK H a0).1 = 14) (
jb (F_14_has a0 1 H) fun x38 h39 =>
(if (x38 : Int32) = 0 then
jg ((jK h39 a0).1 = 14) (
B_14_moves_320 a0 (jI h39 a0 2) h39)
else
jg ((jK h39 a0).1 = 14) (
B_14_moves_320 a0 ((jI h39 a0 2) - 1) h39)))
else if (a1 : Int32) = 118 then
jg ((jK H a0).1 = 14) (
jb (F_14_again a0 1 0 1 H) fun x40 h41 =>
B_14_moves_442 h41)
else if (a1 : Int32) = 119 then
jg ((jK H a0).1 = 14) (
jb (F_14_has a0 2 H) fun x42 h43 =>
(if (x42 : Int32) = 0 then
B_14_moves_442 h43
else
jg ((jK h43 a0).1 = 14) (
jb (F_14_takeOut a0 1 h43) fun x44 h45 =>
B_14_moves_442 h45)))
else if (a1 : Int32) = 120 then
jg ((jK H a0).1 = 14) (
jb (F_14_again a0 2 1 1 H) fun x46 h47 =>
B_14_moves_442 h47)
else if (a1 : Int32) = 121 then
jg ((jK H a0).1 = 14) (
jb (F_14_pick a0 0 H) fun x48 h49 =>
B_14_moves_442 h49)
else if (a1 : Int32) = 122 then
jg ((jK H a0).1 = 14) (
jb (F_14_pick a0 1 H) fun x50 h51 =>
B_14_moves_442 h51)
else if (a1 : Int32) = 123 then
jg ((jK H a0).1 = 14) (
jb (F_14_turn a0 3 1 H) fun x52 h53 =>
B_14_moves_442 h53)
else if (a1 : Int32) = 124 then
jg ((jK H a0).1 = 14) (
jb (F_14_turn a0 2 1 H) fun x54 h55 =>
B_14_moves_442 h55)
else if (a1 : Int32) = 125 then
jg ((jK H a0).1 = 14) (
jb (F_14_turn a0 2 1 H) fun x56 h57 =>
jg ((jK h57 a0).1 = 14) (
(if ¬ ((jI h57 a0 6) : Int32) = 0 then
B_14_moves_442 h57
else
jg ((jK h57 a0).1 = 14) (
jb (F_14_again a0 2 1 1 h57) fun x58 h59 =>
B_14_moves_442 h59))))
else 
jg ((jK H a0).1 = 14) (
jb (F_14_has a0 1 H) fun x60 h61 =>
(if (x60 : Int32) = 0 then
B_14_moves_442 h61
else
jg ((jK h61 a0).1 = 14) (
jg ((jK h61 a0).1 = 14) (
jb (F_14_top a0 0 h61) fun x62 h63 =>
jg ((jK h63 (jR h61 a0 1)).1 = 100 ∧ jin (x62) (jK h63 (jR h61 a0 1)).2) (
jg ((jK h63 a0).1 = 14) (
jb (F_14_pushNumber a0 (Int32.toInt64 (jI h63 (jR h61 a0 1) (x62 : Int32).toNatClampNeg)) h63) fun x64 h65 =>
B_14_moves_442 h65)))))))
def B_14_numberOfOne_116  (s0 : Nat) (s1 : Int64) (H : jH) : Option (Unit × jH) :=
jg ((jK H s0).1 = 14) (
jb (F_14_pushNumber s0 s1 H) fun x1 h2 =>
some ((), h2))
def B_14_numberOfOne_108  (s0 : Nat) (s1 : Int32) (s2 : Int32) (H : jH) : Option (Unit × jH) :=
(if ¬ (s1 : Int32) = (s2 : Int32) then
B_14_numberOfOne_116 s0 0 H
else
B_14_numberOfOne_116 s0 1 H)
def B_14_numberOfOne_96  (a1 : Int32) (s0 : Nat) (s1 : Int32) (H : jH) : Option (Unit × jH) :=
(if ¬ (a1 : Int32) = (145 : Int32) then
B_14_numberOfOne_108 s0 s1 0 H
else
B_14_numberOfOne_108 s0 s1 1 H)
def F_14_numberOfOne (a0 : Nat) (a1 : Int32) (H : jH) : Option (Unit × jH) :=
jg ((jK H a0).1 = 14) (
jb (F_14_reads a0 0 H) fun x3 h4 =>
(if ¬ (x3 : Int32) = 0 then
jg ((jK h4 a0).1 = 14) (
jg ((jK h4 a0).1 = 14) (
jl (jsI h4 a0 2 ((jI h4 a0 2) - 1)) fun h5 =>
jg ((jK h5 a0).1 = 14) (
jl (jL h5 a0 11) fun x6 =>
(if ¬ (a1 : Int32) = (139 : Int32) then
(if ¬ (a1 : Int32) = (140 : Int32) then
(if ¬ (a1 : Int32) = (143 : Int32) then
(if ¬ (a1 : Int32) = (144 : Int32) then
(if ¬ (x6 : Int64) = 0 then
B_14_numberOfOne_96 a1 a0 0 h5
else
B_14_numberOfOne_96 a1 a0 1 h5)
else
(if 0 ≤ (x6 : Int64) then
B_14_numberOfOne_116 a0 x6 h5
else
B_14_numberOfOne_116 a0 (-x6) h5))
else
B_14_numberOfOne_116 a0 (-x6) h5)
else
B_14_numberOfOne_116 a0 (x6 - 1) h5)
else
B_14_numberOfOne_116 a0 (x6 + 1) h5))))
else
some ((), h4)))
def B_14_numberOfTwo_82   (H : jH) : Option (Unit × jH) :=
some ((), H)
def B_14_numberOfTwo_79  (s0 : Nat) (s1 : Int32) (H : jH) : Option (Unit × jH) :=
jg ((jK H s0).1 = 14) (
jb (F_14_pushTruth s0 s1 H) fun x1 h2 =>
B_14_numberOfTwo_82 h2)
def B_14_numberOfTwo_78  (s0 : Nat) (H : jH) : Option (Unit × jH) :=
B_14_numberOfTwo_79 s0 0 H
def B_14_numberOfTwo_422   (H : jH) : Option (Unit × jH) :=
some ((), H)
def B_14_numberOfTwo_217  (s0 : Nat) (s1 : Int32) (H : jH) : Option (Unit × jH) :=
jg ((jK H s0).1 = 14) (
jb (F_14_pushTruth s0 s1 H) fun x3 h4 =>
B_14_numberOfTwo_422 h4)
def B_14_numberOfTwo_216  (s0 : Nat) (H : jH) : Option (Unit × jH) :=
B_14_numberOfTwo_217 s0 0 H
def B_14_numberOfTwo_242  (s0 : Nat) (s1 : Int32) (H : jH) : Option (Unit × jH) :=
jg ((jK H s0).1 = 14) (
jb (F_14_pushTruth s0 s1 H) fun x5 h6 =>
B_14_numberOfTwo_422 h6)
def B_14_numberOfTwo_237  (s0 : Nat) (H : jH) : Option (Unit × jH) :=
B_14_numberOfTwo_242 s0 1 H
def B_14_numberOfTwo_261  (s0 : Nat) (s1 : Int32) (H : jH) : Option (Unit × jH) :=
jg ((jK H s0).1 = 14) (
jb (F_14_pushTruth s0 s1 H) fun x7 h8 =>
B_14_numberOfTwo_422 h8)
def B_14_numberOfTwo_280  (a0 : Nat) (s0 : Nat) (s1 : Int32) (H : jH) : Option (Unit × jH) :=
jg ((jK H s0).1 = 14) (
jb (F_14_pushTruth s0 s1 H) fun x9 h10 =>
jg ((jK h10 a0).1 = 14) (
jb (F_14_mustBeTrue a0 h10) fun x11 h12 =>
B_14_numberOfTwo_422 h12))
def B_14_numberOfTwo_303  (s0 : Nat) (s1 : Int32) (H : jH) : Option (Unit × jH) :=
jg ((jK H s0).1 = 14) (
jb (F_14_pushTruth s0 s1 H) fun x13 h14 =>
B_14_numberOfTwo_422 h14)
def B_14_numberOfTwo_322  (s0 : Nat) (s1 : Int32) (H : jH) : Option (Unit × jH) :=
jg ((jK H s0).1 = 14) (
jb (F_14_pushTruth s0 s1 H) fun x15 h16 =>
B_14_numberOfTwo_422 h16)
def B_14_numberOfTwo_341  (s0 : Nat) (s1 : Int32) (H : jH) : Option (Unit × jH) :=
jg ((jK H s0).1 = 14) (
jb (F_14_pushTruth s0 s1 H) fun x17 h18 =>
B_14_numberOfTwo_422 h18)
def B_14_numberOfTwo_360  (s0 : Nat) (s1 : Int32) (H : jH) : Option (Unit × jH) :=
jg ((jK H s0).1 = 14) (
jb (F_14_pushTruth s0 s1 H) fun x19 h20 =>
B_14_numberOfTwo_422 h20)
def B_14_numberOfTwo_379  (s0 : Nat) (s1 : Int32) (H : jH) : Option (Unit × jH) :=
jg ((jK H s0).1 = 14) (
jb (F_14_pushTruth s0 s1 H) fun x21 h22 =>
B_14_numberOfTwo_422 h22)
def B_14_numberOfTwo_399  (s0 : Nat) (s1 : Int64) (H : jH) : Option (Unit × jH) :=
jg ((jK H s0).1 = 14) (
jb (F_14_pushNumber s0 s1 H) fun x23 h24 =>
B_14_numberOfTwo_422 h24)
def B_14_numberOfTwo_419  (s0 : Nat) (s1 : Int64) (H : jH) : Option (Unit × jH) :=
jg ((jK H s0).1 = 14) (
jb (F_14_pushNumber s0 s1 H) fun x25 h26 =>
B_14_numberOfTwo_422 h26)
def F_14_numberOfTwo (a0 : Nat) (a1 : Int32) (H : jH) : Option (Unit × jH) :=
jg ((jK H a0).1 = 14) (
jb (F_14_reads a0 0 H) fun x27 h28 =>
(if ¬ (x27 : Int32) = 0 then
jg ((jK h28 a0).1 = 14) (
jl (jL h28 a0 11) fun x29 =>
jg ((jK h28 a0).1 = 14) (
jb (F_14_reads a0 1 h28) fun x30 h31 =>
(if ¬ (x30 : Int32) = 0 then
jg ((jK h31 a0).1 = 14) (
jl (jL h31 a0 11) fun x32 =>
(if ¬ (a1 : Int32) = (165 : Int32) then
jg ((jK h31 a0).1 = 14) (
jg ((jK h31 a0).1 = 14) (
jl (jsI h31 a0 2 ((jI h31 a0 2) - 2)) fun h33 =>
(if (a1 : Int32) = 147 then
jg ((jK h33 a0).1 = 14) (
jb (F_14_pushNumber a0 (x32 + x29) h33) fun x34 h35 =>
B_14_numberOfTwo_422 h35)
else if (a1 : Int32) = 148 then
jg ((jK h33 a0).1 = 14) (
jb (F_14_pushNumber a0 (x32 - x29) h33) fun x36 h37 =>
B_14_numberOfTwo_422 h37)
else if (a1 : Int32) = 149 then
(if (x32 : Int64) ≤ x29 then
B_14_numberOfTwo_419 a0 x29 h33
else
B_14_numberOfTwo_419 a0 x32 h33)
else if (a1 : Int32) = 150 then
(if (x32 : Int64) ≤ x29 then
B_14_numberOfTwo_419 a0 x29 h33
else
B_14_numberOfTwo_419 a0 x32 h33)
else if (a1 : Int32) = 151 then
(if (x32 : Int64) ≤ x29 then
B_14_numberOfTwo_419 a0 x29 h33
else
B_14_numberOfTwo_419 a0 x32 h33)
else if (a1 : Int32) = 152 then
(if (x32 : Int64) ≤ x29 then
B_14_numberOfTwo_419 a0 x29 h33
else
B_14_numberOfTwo_419 a0 x32 h33)
else if (a1 : Int32) = 153 then
(if (x32 : Int64) ≤ x29 then
B_14_numberOfTwo_419 a0 x29 h33
else
B_14_numberOfTwo_419 a0 x32 h33)
else if (a1 : Int32) = 154 then
(if (x32 : Int64) = 0 then
B_14_numberOfTwo_216 a0 h33
else
(if (x29 : Int64) = 0 then
B_14_numberOfTwo_216 a0 h33
else
B_14_numberOfTwo_217 a0 1 h33))
else if (a1 : Int32) = 155 then
(if ¬ (x32 : Int64) = 0 then
B_14_numberOfTwo_237 a0 h33
else
(if (x29 : Int64) = 0 then
B_14_numberOfTwo_242 a0 0 h33
else
B_14_numberOfTwo_237 a0 h33))
else if (a1 : Int32) = 156 then
(if ¬ (x32 : Int64) = x29 then
B_14_numberOfTwo_261 a0 0 h33
else
B_14_numberOfTwo_261 a0 1 h33)
else if (a1 : Int32) = 157 then
(if ¬ (x32 : Int64) = x29 then
B_14_numberOfTwo_280 a0 a0 0 h33
else
B_14_numberOfTwo_280 a0 a0 1 h33)
else if (a1 : Int32) = 158 then
(if (x32 : Int64) = x29 then
B_14_numberOfTwo_303 a0 0 h33
else
B_14_numberOfTwo_303 a0 1 h33)
else if (a1 : Int32) = 159 then
(if x29 ≤ (x32 : Int64) then
B_14_numberOfTwo_322 a0 0 h33
else
B_14_numberOfTwo_322 a0 1 h33)
else if (a1 : Int32) = 160 then
(if (x32 : Int64) ≤ x29 then
B_14_numberOfTwo_341 a0 0 h33
else
B_14_numberOfTwo_341 a0 1 h33)
else if (a1 : Int32) = 161 then
(if x29 < (x32 : Int64) then
B_14_numberOfTwo_360 a0 0 h33
else
B_14_numberOfTwo_360 a0 1 h33)
else if (a1 : Int32) = 162 then
(if (x32 : Int64) < x29 then
B_14_numberOfTwo_379 a0 0 h33
else
B_14_numberOfTwo_379 a0 1 h33)
else if (a1 : Int32) = 163 then
(if x29 ≤ (x32 : Int64) then
B_14_numberOfTwo_399 a0 x29 h33
else
B_14_numberOfTwo_399 a0 x32 h33)
else 
(if (x32 : Int64) ≤ x29 then
B_14_numberOfTwo_419 a0 x29 h33
else
B_14_numberOfTwo_419 a0 x32 h33))))
else
jg ((jK h31 a0).1 = 14) (
jb (F_14_reads a0 2 h31) fun x38 h39 =>
(if (x38 : Int32) = 0 then
B_14_numberOfTwo_82 h39
else
jg ((jK h39 a0).1 = 14) (
jg ((jK h39 a0).1 = 14) (
jl (jsI h39 a0 2 ((jI h39 a0 2) - 3)) fun h40 =>
jg ((jK h40 a0).1 = 14) (
(if (jL h40 a0 11) < (x32 : Int64) then
B_14_numberOfTwo_78 a0 h40
else
jg ((jK h40 a0).1 = 14) (
(if x29 ≤ ((jL h40 a0 11) : Int64) then
B_14_numberOfTwo_78 a0 h40
else
B_14_numberOfTwo_79 a0 1 h40))))))))))
else
some ((), h31))))
else
some ((), h28)))
def B_13_compare_87  (s0 : Int32) (H : jH) : Option (Int32 × jH) :=
some (s0, H)
def B_13_compare_38  (a0 : Nat) (a1 : Int32) (a2 : Int32) (a3 : Int32) (H : jH) : Option (Int32 × jH) :=
jg ((jK H a0).1 = 13) (
jg ((jK H (jR H a0 0)).1 = 100 ∧ jin (((10 * a1) + a3)) (jK H (jR H a0 0)).2) (
jl (jI H (jR H a0 0) (((10 * a1) + a3) : Int32).toNatClampNeg) fun x1 =>
jg ((jK H a0).1 = 13) (
jg ((jK H (jR H a0 0)).1 = 100 ∧ jin (((10 * a2) + a3)) (jK H (jR H a0 0)).2) (
jl (jI H (jR H a0 0) (((10 * a2) + a3) : Int32).toNatClampNeg) fun x2 =>
(if (x2 : Int32) ≤ (x1 : Int32) then
(if (x1 : Int32) ≤ (x2 : Int32) then
B_13_compare_87 0 H
else
B_13_compare_87 1 H)
else
B_13_compare_87 (-1) H)))))
def B_13_compare_3 (k3 : Nat → Int32 → Int32 → Int32 → jH → Option (Int32 × jH)) (a0 : Nat) (a1 : Int32) (a2 : Int32) (a3 : Int32) (H : jH) : Option (Int32 × jH) :=
(if (a3 : Int32) ≤ 0 then
B_13_compare_38 a0 a1 a2 a3 H
else
jg ((jK H a0).1 = 13) (
jg ((jK H (jR H a0 0)).1 = 100 ∧ jin (((10 * a1) + a3)) (jK H (jR H a0 0)).2) (
jg ((jK H a0).1 = 13) (
jg ((jK H (jR H a0 0)).1 = 100 ∧ jin (((10 * a2) + a3)) (jK H (jR H a0 0)).2) (
(if ¬ ((jI H (jR H a0 0) (((10 * a1) + a3) : Int32).toNatClampNeg) : Int32) = ((jI H (jR H a0 0) (((10 * a2) + a3) : Int32).toNatClampNeg) : Int32) then
B_13_compare_38 a0 a1 a2 a3 H
else
jl (a3 + (-1)) fun x3 =>
k3 a0 a1 a2 x3 H))))))
def F_13_compare_3  : Nat → Nat → Int32 → Int32 → Int32 → jH → Option (Int32 × jH)
  | 0 => fun _ _ _ _ _ => none
  | n + 1 => fun a0 a1 a2 a3 H => B_13_compare_3 (F_13_compare_3  n) a0 a1 a2 a3 H
def F_13_compare (a0 : Nat) (a1 : Int32) (a2 : Int32) (H : jH) : Option (Int32 × jH) :=
F_13_compare_3 jfuel a0 a1 a2 9 H
def B_13_copy_2 (k2 : Nat → Int32 → Int32 → Int32 → jH → Option (Unit × jH)) (a0 : Nat) (a1 : Int32) (a2 : Int32) (a3 : Int32) (H : jH) : Option (Unit × jH) :=
(if (10 : Int32) ≤ (a3 : Int32) then
some ((), H)
else
jg ((jK H a0).1 = 13) (
jg ((jK H a0).1 = 13) (
jg ((jK H (jR H a0 0)).1 = 100 ∧ jin (((10 * a2) + a3)) (jK H (jR H a0 0)).2) (
jg ((jK H (jR H a0 0)).1 = 100 ∧ jF0 ≤ (jR H a0 0) ∧ jin (((10 * a1) + a3)) (jK H (jR H a0 0)).2) (
jl (jsI H (jR H a0 0) (((10 * a1) + a3) : Int32).toNatClampNeg (jI H (jR H a0 0) (((10 * a2) + a3) : Int32).toNatClampNeg)) fun h1 =>
jl (a3 + 1) fun x2 =>
k2 a0 a1 a2 x2 h1)))))
def F_13_copy_2  : Nat → Nat → Int32 → Int32 → Int32 → jH → Option (Unit × jH)
  | 0 => fun _ _ _ _ _ => none
  | n + 1 => fun a0 a1 a2 a3 H => B_13_copy_2 (F_13_copy_2  n) a0 a1 a2 a3 H
def F_13_copy (a0 : Nat) (a1 : Int32) (a2 : Int32) (H : jH) : Option (Unit × jH) :=
F_13_copy_2 jfuel a0 a1 a2 0 H
def F_13_copyPoint (a0 : Nat) (a1 : Int32) (a2 : Int32) (H : jH) : Option (Unit × jH) :=
jg ((jK H a0).1 = 13) (
jb (F_13_copy a0 a1 a2 H) fun x1 h2 =>
jg ((jK h2 a0).1 = 13) (
jb (F_13_copy a0 (a1 + 1) (a2 + 1) h2) fun x3 h4 =>
jg ((jK h4 a0).1 = 13) (
jb (F_13_copy a0 (a1 + 2) (a2 + 2) h4) fun x5 h6 =>
some ((), h6))))
def B_13_add_6 (k6 : Nat → Int32 → Int32 → Int32 → Int32 → Int32 → jH → Option (Unit × jH)) (a0 : Nat) (a1 : Int32) (a2 : Int32) (a3 : Int32) (a4 : Int32) (a5 : Int32) (H : jH) : Option (Unit × jH) :=
(if (10 : Int32) ≤ (a5 : Int32) then
some ((), H)
else
jg ((jK H a0).1 = 13) (
jg ((jK H (jR H a0 0)).1 = 100 ∧ jin (((10 * a1) + a5)) (jK H (jR H a0 0)).2) (
jg ((jK H a0).1 = 13) (
jg ((jK H (jR H a0 0)).1 = 100 ∧ jin (((10 * a2) + a5)) (jK H (jR H a0 0)).2) (
jl (((jI H (jR H a0 0) (((10 * a1) + a5) : Int32).toNatClampNeg) + (a3 * (jI H (jR H a0 0) (((10 * a2) + a5) : Int32).toNatClampNeg))) + a4) fun x1 =>
jg ((jK H a0).1 = 13) (
jg ((jK H (jR H a0 0)).1 = 100 ∧ jF0 ≤ (jR H a0 0) ∧ jin (((10 * a1) + a5)) (jK H (jR H a0 0)).2) (
jl (jsI H (jR H a0 0) (((10 * a1) + a5) : Int32).toNatClampNeg (x1 &&& 67108863)) fun h2 =>
jl (jshr x1 26) fun x3 =>
jl (a5 + 1) fun x4 =>
k6 a0 a1 a2 a3 x3 x4 h2)))))))
def F_13_add_6  : Nat → Nat → Int32 → Int32 → Int32 → Int32 → Int32 → jH → Option (Unit × jH)
  | 0 => fun _ _ _ _ _ _ _ => none
  | n + 1 => fun a0 a1 a2 a3 a4 a5 H => B_13_add_6 (F_13_add_6  n) a0 a1 a2 a3 a4 a5 H
def F_13_add (a0 : Nat) (a1 : Int32) (a2 : Int32) (a3 : Int32) (H : jH) : Option (Unit × jH) :=
F_13_add_6 jfuel a0 a1 a2 a3 0 0 H
def B_13_carry_4 (k4 : Nat → Int64 → Int32 → jH → Option (Unit × jH)) (a0 : Nat) (a1 : Int64) (a3 : Int32) (H : jH) : Option (Unit × jH) :=
(if (22 : Int32) ≤ (a3 : Int32) then
some ((), H)
else
jg ((jK H a0).1 = 13) (
jg ((jK H (jR H a0 1)).1 = 103 ∧ jin (a3) (jK H (jR H a0 1)).2) (
jl ((jL H (jR H a0 1) (a3 : Int32).toNatClampNeg) + a1) fun x1 =>
jg ((jK H a0).1 = 13) (
jg ((jK H (jR H a0 1)).1 = 103 ∧ jin (a3) (jK H (jR H a0 1)).2) (
jl (jsL H (jR H a0 1) (a3 : Int32).toNatClampNeg (x1 &&& 67108863)) fun h2 =>
jl (jshrL x1 26) fun x3 =>
jl (a3 + 1) fun x4 =>
k4 a0 x3 x4 h2)))))
def F_13_carry_4  : Nat → Nat → Int64 → Int32 → jH → Option (Unit × jH)
  | 0 => fun _ _ _ _ => none
  | n + 1 => fun a0 a1 a3 H => B_13_carry_4 (F_13_carry_4  n) a0 a1 a3 H
def F_13_carry (a0 : Nat) (H : jH) : Option (Unit × jH) :=
F_13_carry_4 jfuel a0 0 0 H
def B_13_fold_49 (k2 : Nat → Int32 → Int32 → jH → Option (Unit × jH)) (a0 : Nat) (a1 : Int32) (a2 : Int32) (s0 : Nat) (s1 : Int32) (s2 : Int64) (H : jH) : Option (Unit × jH) :=
jg ((jK H s0).1 = 103 ∧ jin (s1) (jK H s0).2) (
jl (jsL H s0 (s1 : Int32).toNatClampNeg s2) fun h1 =>
jl (a2 + 1) fun x2 =>
k2 a0 a1 x2 h1)
def B_13_fold_138 (k58 : Nat → Int32 → Int32 → jH → Option (Unit × jH)) (a0 : Nat) (a1 : Int32) (a2 : Int32) (H : jH) : Option (Unit × jH) :=
jl (a2 + 1) fun x3 =>
k58 a0 a1 x3 H
def B_13_fold_96 (k58 : Nat → Int32 → Int32 → jH → Option (Unit × jH)) (k96 : Nat → Int32 → Int32 → Int64 → Int32 → jH → Option (Unit × jH)) (a0 : Nat) (a1 : Int32) (a2 : Int32) (a3 : Int64) (a5 : Int32) (H : jH) : Option (Unit × jH) :=
(if (5 : Int32) ≤ (a5 : Int32) then
B_13_fold_138 k58 a0 a1 a2 H
else
(if (a3 : Int64) ≤ 0 then
B_13_fold_138 k58 a0 a1 a2 H
else
jg ((jK H a0).1 = 13) (
jg ((jK H (jR H a0 2)).1 = 103 ∧ jin ((a2 + a5)) (jK H (jR H a0 2)).2) (
jg ((jK H a0).1 = 13) (
jg ((jK H (jR H a0 3)).1 = 100 ∧ jin ((a1 + a5)) (jK H (jR H a0 3)).2) (
jg ((jK H (jR H a0 2)).1 = 103 ∧ jin ((a2 + a5)) (jK H (jR H a0 2)).2) (
jl (jsL H (jR H a0 2) ((a2 + a5) : Int32).toNatClampNeg ((jL H (jR H a0 2) ((a2 + a5) : Int32).toNatClampNeg) + (a3 * (Int32.toInt64 (jI H (jR H a0 3) ((a1 + a5) : Int32).toNatClampNeg))))) fun h4 =>
jl (a5 + 1) fun x5 =>
k96 a0 a1 a2 a3 x5 h4)))))))
def F_13_fold_96 (k58 : Nat → Int32 → Int32 → jH → Option (Unit × jH)) : Nat → Nat → Int32 → Int32 → Int64 → Int32 → jH → Option (Unit × jH)
  | 0 => fun _ _ _ _ _ _ => none
  | n + 1 => fun a0 a1 a2 a3 a5 H => B_13_fold_96 k58 (F_13_fold_96 k58 n) a0 a1 a2 a3 a5 H
def B_13_fold_146 (k146 : Nat → Int32 → jH → Option (Unit × jH)) (a0 : Nat) (a2 : Int32) (H : jH) : Option (Unit × jH) :=
(if (22 : Int32) ≤ (a2 : Int32) then
jg ((jK H a0).1 = 13) (
jb (F_13_carry a0 H) fun x6 h7 =>
some ((), h7))
else
jg ((jK H a0).1 = 13) (
jg ((jK H a0).1 = 13) (
jg ((jK H (jR H a0 2)).1 = 103 ∧ jin (a2) (jK H (jR H a0 2)).2) (
jg ((jK H (jR H a0 1)).1 = 103 ∧ jin (a2) (jK H (jR H a0 1)).2) (
jl (jsL H (jR H a0 1) (a2 : Int32).toNatClampNeg (jL H (jR H a0 2) (a2 : Int32).toNatClampNeg)) fun h8 =>
jl (a2 + 1) fun x9 =>
k146 a0 x9 h8)))))
def F_13_fold_146  : Nat → Nat → Int32 → jH → Option (Unit × jH)
  | 0 => fun _ _ _ => none
  | n + 1 => fun a0 a2 H => B_13_fold_146 (F_13_fold_146  n) a0 a2 H
def B_13_fold_58 (k58 : Nat → Int32 → Int32 → jH → Option (Unit × jH)) (a0 : Nat) (a1 : Int32) (a2 : Int32) (H : jH) : Option (Unit × jH) :=
(if (12 : Int32) ≤ (a2 : Int32) then
F_13_fold_146 jfuel a0 0 H
else
jg ((jK H a0).1 = 13) (
jg ((jK H (jR H a0 1)).1 = 103 ∧ jin ((9 + a2)) (jK H (jR H a0 1)).2) (
jg ((jK H a0).1 = 13) (
jg ((jK H (jR H a0 1)).1 = 103 ∧ jin ((10 + a2)) (jK H (jR H a0 1)).2) (
jl ((jshrL (jL H (jR H a0 1) ((9 + a2) : Int32).toNatClampNeg) 22) ||| (jshlL ((jL H (jR H a0 1) ((10 + a2) : Int32).toNatClampNeg) &&& 4194303) 4)) fun x10 =>
F_13_fold_96 k58 jfuel a0 a1 a2 x10 0 H)))))
def F_13_fold_58  : Nat → Nat → Int32 → Int32 → jH → Option (Unit × jH)
  | 0 => fun _ _ _ _ => none
  | n + 1 => fun a0 a1 a2 H => B_13_fold_58 (F_13_fold_58  n) a0 a1 a2 H
def B_13_fold_2 (k2 : Nat → Int32 → Int32 → jH → Option (Unit × jH)) (a0 : Nat) (a1 : Int32) (a2 : Int32) (H : jH) : Option (Unit × jH) :=
(if (22 : Int32) ≤ (a2 : Int32) then
F_13_fold_58 jfuel a0 a1 0 H
else
jg ((jK H a0).1 = 13) (
(if (9 : Int32) ≤ (a2 : Int32) then
(if ¬ (a2 : Int32) = (9 : Int32) then
B_13_fold_49 k2 a0 a1 a2 (jR H a0 2) a2 0 H
else
jg ((jK H a0).1 = 13) (
jg ((jK H (jR H a0 1)).1 = 103 ∧ jin (9) (jK H (jR H a0 1)).2) (
B_13_fold_49 k2 a0 a1 a2 (jR H a0 2) a2 ((jL H (jR H a0 1) (9 : Int32).toNatClampNeg) &&& 4194303) H)))
else
jg ((jK H a0).1 = 13) (
jg ((jK H (jR H a0 1)).1 = 103 ∧ jin (a2) (jK H (jR H a0 1)).2) (
B_13_fold_49 k2 a0 a1 a2 (jR H a0 2) a2 (jL H (jR H a0 1) (a2 : Int32).toNatClampNeg) H)))))
def F_13_fold_2  : Nat → Nat → Int32 → Int32 → jH → Option (Unit × jH)
  | 0 => fun _ _ _ _ => none
  | n + 1 => fun a0 a1 a2 H => B_13_fold_2 (F_13_fold_2  n) a0 a1 a2 H
def F_13_fold (a0 : Nat) (a1 : Int32) (H : jH) : Option (Unit × jH) :=
F_13_fold_2 jfuel a0 a1 0 H
def B_13_isWide_49 (k23 : Nat → Int32 → Int32 → jH → Option (Int32 × jH)) (a0 : Nat) (a2 : Int32) (s0 : Int32) (H : jH) : Option (Int32 × jH) :=
jl (a2 + 1) fun x1 =>
k23 a0 s0 x1 H
def B_13_isWide_56  (a1 : Int32) (H : jH) : Option (Int32 × jH) :=
jg ((a1 : Int32) = 0 ∨ (a1 : Int32) = 1) (some (a1, H))
def B_13_isWide_23 (k23 : Nat → Int32 → Int32 → jH → Option (Int32 × jH)) (a0 : Nat) (a1 : Int32) (a2 : Int32) (H : jH) : Option (Int32 × jH) :=
(if (22 : Int32) ≤ (a2 : Int32) then
B_13_isWide_56 a1 H
else
(if ¬ (a1 : Int32) = 0 then
B_13_isWide_56 a1 H
else
jg ((jK H a0).1 = 13) (
jg ((jK H (jR H a0 1)).1 = 103 ∧ jin (a2) (jK H (jR H a0 1)).2) (
(if ((jL H (jR H a0 1) (a2 : Int32).toNatClampNeg) : Int64) ≤ 0 then
B_13_isWide_49 k23 a0 a2 0 H
else
B_13_isWide_49 k23 a0 a2 1 H)))))
def F_13_isWide_23  : Nat → Nat → Int32 → Int32 → jH → Option (Int32 × jH)
  | 0 => fun _ _ _ _ => none
  | n + 1 => fun a0 a1 a2 H => B_13_isWide_23 (F_13_isWide_23  n) a0 a1 a2 H
def B_13_isWide_19  (a0 : Nat) (s0 : Int32) (H : jH) : Option (Int32 × jH) :=
F_13_isWide_23 jfuel a0 s0 10 H
def F_13_isWide (a0 : Nat) (H : jH) : Option (Int32 × jH) :=
jg ((jK H a0).1 = 13) (
jg ((jK H (jR H a0 1)).1 = 103 ∧ jin (9) (jK H (jR H a0 1)).2) (
(if ((jL H (jR H a0 1) (9 : Int32).toNatClampNeg) : Int64) ≤ 4194303 then
B_13_isWide_19 a0 0 H
else
B_13_isWide_19 a0 1 H)))
def B_13_multiply_101 (k27 : Nat → Int32 → Int32 → Int32 → Int32 → Int32 → jH → Option (Unit × jH)) (a0 : Nat) (a1 : Int32) (a2 : Int32) (a3 : Int32) (a4 : Int32) (a5 : Int32) (H : jH) : Option (Unit × jH) :=
jl (a5 + 1) fun x1 =>
k27 a0 a1 a2 a3 a4 x1 H
def B_13_multiply_52 (k27 : Nat → Int32 → Int32 → Int32 → Int32 → Int32 → jH → Option (Unit × jH)) (k52 : Nat → Int32 → Int32 → Int32 → Int32 → Int32 → Int64 → Int32 → jH → Option (Unit × jH)) (a0 : Nat) (a1 : Int32) (a2 : Int32) (a3 : Int32) (a4 : Int32) (a5 : Int32) (a6 : Int64) (a8 : Int32) (H : jH) : Option (Unit × jH) :=
(if (10 : Int32) ≤ (a8 : Int32) then
B_13_multiply_101 k27 a0 a1 a2 a3 a4 a5 H
else
(if (a6 : Int64) ≤ 0 then
B_13_multiply_101 k27 a0 a1 a2 a3 a4 a5 H
else
jg ((jK H a0).1 = 13) (
jg ((jK H (jR H a0 1)).1 = 103 ∧ jin ((a5 + a8)) (jK H (jR H a0 1)).2) (
jg ((jK H a0).1 = 13) (
jg ((jK H (jR H a0 0)).1 = 100 ∧ jin (((10 * a3) + a8)) (jK H (jR H a0 0)).2) (
jg ((jK H (jR H a0 1)).1 = 103 ∧ jin ((a5 + a8)) (jK H (jR H a0 1)).2) (
jl (jsL H (jR H a0 1) ((a5 + a8) : Int32).toNatClampNeg ((jL H (jR H a0 1) ((a5 + a8) : Int32).toNatClampNeg) + (a6 * (Int32.toInt64 (jI H (jR H a0 0) (((10 * a3) + a8) : Int32).toNatClampNeg))))) fun h2 =>
jl (a8 + 1) fun x3 =>
k52 a0 a1 a2 a3 a4 a5 a6 x3 h2)))))))
def F_13_multiply_52 (k27 : Nat → Int32 → Int32 → Int32 → Int32 → Int32 → jH → Option (Unit × jH)) : Nat → Nat → Int32 → Int32 → Int32 → Int32 → Int32 → Int64 → Int32 → jH → Option (Unit × jH)
  | 0 => fun _ _ _ _ _ _ _ _ _ => none
  | n + 1 => fun a0 a1 a2 a3 a4 a5 a6 a8 H => B_13_multiply_52 k27 (F_13_multiply_52 k27 n) a0 a1 a2 a3 a4 a5 a6 a8 H
def B_13_multiply_187   (H : jH) : Option (Unit × jH) :=
some ((), H)
def B_13_multiply_136 (k136 : Nat → Int32 → Int32 → Int32 → jH → Option (Unit × jH)) (a0 : Nat) (a1 : Int32) (a4 : Int32) (a5 : Int32) (H : jH) : Option (Unit × jH) :=
(if (10 : Int32) ≤ (a5 : Int32) then
jg ((jK H a0).1 = 13) (
jb (F_13_compare a0 a1 a4 H) fun x4 h5 =>
(if (x4 : Int32) < 0 then
B_13_multiply_187 h5
else
jg ((jK h5 a0).1 = 13) (
jb (F_13_add a0 a1 a4 (-1) h5) fun x6 h7 =>
B_13_multiply_187 h7)))
else
jg ((jK H a0).1 = 13) (
jg ((jK H a0).1 = 13) (
jg ((jK H (jR H a0 1)).1 = 103 ∧ jin (a5) (jK H (jR H a0 1)).2) (
jg ((jK H (jR H a0 0)).1 = 100 ∧ jF0 ≤ (jR H a0 0) ∧ jin (((10 * a1) + a5)) (jK H (jR H a0 0)).2) (
jl (jsI H (jR H a0 0) (((10 * a1) + a5) : Int32).toNatClampNeg (Int64.toInt32 (jL H (jR H a0 1) (a5 : Int32).toNatClampNeg))) fun h8 =>
jl (a5 + 1) fun x9 =>
k136 a0 a1 a4 x9 h8)))))
def F_13_multiply_136  : Nat → Nat → Int32 → Int32 → Int32 → jH → Option (Unit × jH)
  | 0 => fun _ _ _ _ _ => none
  | n + 1 => fun a0 a1 a4 a5 H => B_13_multiply_136 (F_13_multiply_136  n) a0 a1 a4 a5 H
def B_13_multiply_111 (k111 : Nat → Int32 → Int32 → jH → Option (Unit × jH)) (a0 : Nat) (a1 : Int32) (a4 : Int32) (H : jH) : Option (Unit × jH) :=
jg ((jK H a0).1 = 13) (
jb (F_13_isWide a0 H) fun x10 h11 =>
(if (x10 : Int32) = 0 then
F_13_multiply_136 jfuel a0 a1 a4 0 h11
else
jg ((jK h11 a0).1 = 13) (
jb (F_13_fold a0 (10 * (a4 - 8)) h11) fun x12 h13 =>
k111 a0 a1 a4 h13)))
def F_13_multiply_111  : Nat → Nat → Int32 → Int32 → jH → Option (Unit × jH)
  | 0 => fun _ _ _ _ => none
  | n + 1 => fun a0 a1 a4 H => B_13_multiply_111 (F_13_multiply_111  n) a0 a1 a4 H
def B_13_multiply_27 (k27 : Nat → Int32 → Int32 → Int32 → Int32 → Int32 → jH → Option (Unit × jH)) (a0 : Nat) (a1 : Int32) (a2 : Int32) (a3 : Int32) (a4 : Int32) (a5 : Int32) (H : jH) : Option (Unit × jH) :=
(if (10 : Int32) ≤ (a5 : Int32) then
jg ((jK H a0).1 = 13) (
jb (F_13_carry a0 H) fun x14 h15 =>
F_13_multiply_111 jfuel a0 a1 a4 h15)
else
jg ((jK H a0).1 = 13) (
jg ((jK H (jR H a0 0)).1 = 100 ∧ jin (((10 * a2) + a5)) (jK H (jR H a0 0)).2) (
jl (Int32.toInt64 (jI H (jR H a0 0) (((10 * a2) + a5) : Int32).toNatClampNeg)) fun x16 =>
F_13_multiply_52 k27 jfuel a0 a1 a2 a3 a4 a5 x16 0 H)))
def F_13_multiply_27  : Nat → Nat → Int32 → Int32 → Int32 → Int32 → Int32 → jH → Option (Unit × jH)
  | 0 => fun _ _ _ _ _ _ _ => none
  | n + 1 => fun a0 a1 a2 a3 a4 a5 H => B_13_multiply_27 (F_13_multiply_27  n) a0 a1 a2 a3 a4 a5 H
def B_13_multiply_3 (k3 : Nat → Int32 → Int32 → Int32 → Int32 → Int32 → jH → Option (Unit × jH)) (a0 : Nat) (a1 : Int32) (a2 : Int32) (a3 : Int32) (a4 : Int32) (a5 : Int32) (H : jH) : Option (Unit × jH) :=
(if (22 : Int32) ≤ (a5 : Int32) then
F_13_multiply_27 jfuel a0 a1 a2 a3 a4 0 H
else
jg ((jK H a0).1 = 13) (
jg ((jK H (jR H a0 1)).1 = 103 ∧ jin (a5) (jK H (jR H a0 1)).2) (
jl (jsL H (jR H a0 1) (a5 : Int32).toNatClampNeg 0) fun h17 =>
jl (a5 + 1) fun x18 =>
k3 a0 a1 a2 a3 a4 x18 h17)))
def F_13_multiply_3  : Nat → Nat → Int32 → Int32 → Int32 → Int32 → Int32 → jH → Option (Unit × jH)
  | 0 => fun _ _ _ _ _ _ _ => none
  | n + 1 => fun a0 a1 a2 a3 a4 a5 H => B_13_multiply_3 (F_13_multiply_3  n) a0 a1 a2 a3 a4 a5 H
def F_13_multiply (a0 : Nat) (a1 : Int32) (a2 : Int32) (a3 : Int32) (a4 : Int32) (H : jH) : Option (Unit × jH) :=
F_13_multiply_3 jfuel a0 a1 a2 a3 a4 0 H
def B_13_bit_30  (s0 : Int32) (H : jH) : Option (Int32 × jH) :=
jg ((s0 : Int32) = 0 ∨ (s0 : Int32) = 1) (some (s0, H))
def F_13_bit (a0 : Nat) (a1 : Int32) (a2 : Int32) (H : jH) : Option (Int32 × jH) :=
jg ((jK H a0).1 = 13) (
jg (¬ (26 : Int32) = 0) (
jg ((jK H (jR H a0 0)).1 = 100 ∧ jin (((10 * a1) + (a2 / 26))) (jK H (jR H a0 0)).2) (
jg (¬ (26 : Int32) = 0) (
(if ¬ (((jshr (jI H (jR H a0 0) (((10 * a1) + (a2 / 26)) : Int32).toNatClampNeg) (jrem a2 26)) &&& 1) : Int32) = (1 : Int32) then
B_13_bit_30 0 H
else
B_13_bit_30 1 H)))))
def B_13_power_58 (k20 : Nat → Int32 → Int32 → Int32 → jH → Option (Unit × jH)) (a0 : Nat) (a1 : Int32) (a3 : Int32) (a4 : Int32) (H : jH) : Option (Unit × jH) :=
jl (a4 + (-1)) fun x1 =>
k20 a0 a1 a3 x1 H
def B_13_power_20 (k20 : Nat → Int32 → Int32 → Int32 → jH → Option (Unit × jH)) (a0 : Nat) (a1 : Int32) (a3 : Int32) (a4 : Int32) (H : jH) : Option (Unit × jH) :=
(if (a4 : Int32) < 0 then
jg ((jK H a0).1 = 13) (
jb (F_13_copy a0 a1 38 H) fun x2 h3 =>
some ((), h3))
else
jg ((jK H a0).1 = 13) (
jb (F_13_multiply a0 38 38 38 a3 H) fun x4 h5 =>
jg ((jK h5 a0).1 = 13) (
jb (F_13_bit a0 39 a4 h5) fun x6 h7 =>
(if (x6 : Int32) = 0 then
B_13_power_58 k20 a0 a1 a3 a4 h7
else
jg ((jK h7 a0).1 = 13) (
jb (F_13_multiply a0 38 38 44 a3 h7) fun x8 h9 =>
B_13_power_58 k20 a0 a1 a3 a4 h9)))))
def F_13_power_20  : Nat → Nat → Int32 → Int32 → Int32 → jH → Option (Unit × jH)
  | 0 => fun _ _ _ _ _ => none
  | n + 1 => fun a0 a1 a3 a4 H => B_13_power_20 (F_13_power_20  n) a0 a1 a3 a4 H
def F_13_power (a0 : Nat) (a1 : Int32) (a2 : Int32) (a3 : Int32) (H : jH) : Option (Unit × jH) :=
jg ((jK H a0).1 = 13) (
jb (F_13_copy a0 44 a2 H) fun x10 h11 =>
jg ((jK h11 a0).1 = 13) (
jb (F_13_copy a0 38 20 h11) fun x12 h13 =>
F_13_power_20 jfuel a0 a1 a3 255 h13))
def F_13_divide (a0 : Nat) (a1 : Int32) (a2 : Int32) (a3 : Int32) (a4 : Int32) (H : jH) : Option (Unit × jH) :=
jg ((jK H a0).1 = 13) (
jb (F_13_copy a0 39 a4 H) fun x1 h2 =>
jg ((jK h2 a0).1 = 13) (
jg ((jK h2 (jR h2 a0 0)).1 = 100 ∧ jin (390) (jK h2 (jR h2 a0 0)).2) (
jg ((jK h2 (jR h2 a0 0)).1 = 100 ∧ jF0 ≤ (jR h2 a0 0) ∧ jin (390) (jK h2 (jR h2 a0 0)).2) (
jl (jsI h2 (jR h2 a0 0) (390 : Int32).toNatClampNeg ((jI h2 (jR h2 a0 0) (390 : Int32).toNatClampNeg) - 2)) fun h3 =>
jg ((jK h3 a0).1 = 13) (
jb (F_13_copy a0 45 a2 h3) fun x4 h5 =>
jg ((jK h5 a0).1 = 13) (
jb (F_13_power a0 46 a3 a4 h5) fun x6 h7 =>
jg ((jK h7 a0).1 = 13) (
jb (F_13_multiply a0 a1 45 46 a4 h7) fun x8 h9 =>
some ((), h9))))))))
def B_13_isNothing_33 (k4 : Nat → Int32 → Int32 → Int32 → jH → Option (Int32 × jH)) (a0 : Nat) (a1 : Int32) (a3 : Int32) (s0 : Int32) (H : jH) : Option (Int32 × jH) :=
jl (a3 + 1) fun x1 =>
k4 a0 a1 s0 x1 H
def B_13_isNothing_40  (a2 : Int32) (H : jH) : Option (Int32 × jH) :=
jg ((a2 : Int32) = 0 ∨ (a2 : Int32) = 1) (some (a2, H))
def B_13_isNothing_4 (k4 : Nat → Int32 → Int32 → Int32 → jH → Option (Int32 × jH)) (a0 : Nat) (a1 : Int32) (a2 : Int32) (a3 : Int32) (H : jH) : Option (Int32 × jH) :=
(if (10 : Int32) ≤ (a3 : Int32) then
B_13_isNothing_40 a2 H
else
(if (a2 : Int32) = 0 then
B_13_isNothing_40 a2 H
else
jg ((jK H a0).1 = 13) (
jg ((jK H (jR H a0 0)).1 = 100 ∧ jin (((10 * a1) + a3)) (jK H (jR H a0 0)).2) (
(if ¬ ((jI H (jR H a0 0) (((10 * a1) + a3) : Int32).toNatClampNeg) : Int32) = 0 then
B_13_isNothing_33 k4 a0 a1 a3 0 H
else
B_13_isNothing_33 k4 a0 a1 a3 1 H)))))
def F_13_isNothing_4  : Nat → Nat → Int32 → Int32 → Int32 → jH → Option (Int32 × jH)
  | 0 => fun _ _ _ _ _ => none
  | n + 1 => fun a0 a1 a2 a3 H => B_13_isNothing_4 (F_13_isNothing_4  n) a0 a1 a2 a3 H
def F_13_isNothing (a0 : Nat) (a1 : Int32) (H : jH) : Option (Int32 × jH) :=
F_13_isNothing_4 jfuel a0 a1 1 0 H
def F_13_isNone (a0 : Nat) (a1 : Int32) (H : jH) : Option (Int32 × jH) :=
jg ((jK H a0).1 = 13) (
jb (F_13_isNothing a0 (a1 + 2) H) fun x1 h2 =>
jg ((x1 : Int32) = 0 ∨ (x1 : Int32) = 1) (some (x1, h2)))
def B_13_isRegister_15  (s0 : Int32) (H : jH) : Option (Int32 × jH) :=
jg ((s0 : Int32) = 0 ∨ (s0 : Int32) = 1) (some (s0, H))
def B_13_isRegister_14   (H : jH) : Option (Int32 × jH) :=
B_13_isRegister_15 0 H
def F_13_isRegister (a0 : Int32) (H : jH) : Option (Int32 × jH) :=
(if (a0 : Int32) < 0 then
B_13_isRegister_14 H
else
(if (8 : Int32) ≤ (a0 : Int32) then
B_13_isRegister_14 H
else
B_13_isRegister_15 1 H))
def B_13_isSpot_14  (s0 : Int32) (H : jH) : Option (Int32 × jH) :=
jg ((s0 : Int32) = 0 ∨ (s0 : Int32) = 1) (some (s0, H))
def B_13_isSpot_13   (H : jH) : Option (Int32 × jH) :=
B_13_isSpot_14 0 H
def F_13_isSpot (a0 : Int32) (H : jH) : Option (Int32 × jH) :=
(if (a0 : Int32) < 0 then
B_13_isSpot_13 H
else
(if (4 : Int32) ≤ (a0 : Int32) then
B_13_isSpot_13 H
else
B_13_isSpot_14 1 H))
def B_13_minus_26  (a0 : Nat) (a1 : Int32) (a3 : Int32) (H : jH) : Option (Unit × jH) :=
jg ((jK H a0).1 = 13) (
jb (F_13_add a0 37 a3 (-1) H) fun x1 h2 =>
jg ((jK h2 a0).1 = 13) (
jb (F_13_copy a0 a1 37 h2) fun x3 h4 =>
some ((), h4)))
def F_13_minus (a0 : Nat) (a1 : Int32) (a2 : Int32) (a3 : Int32) (a4 : Int32) (H : jH) : Option (Unit × jH) :=
jg ((jK H a0).1 = 13) (
jb (F_13_copy a0 37 a2 H) fun x5 h6 =>
jg ((jK h6 a0).1 = 13) (
jb (F_13_compare a0 37 a3 h6) fun x7 h8 =>
(if 0 ≤ (x7 : Int32) then
B_13_minus_26 a0 a1 a3 h8
else
jg ((jK h8 a0).1 = 13) (
jb (F_13_add a0 37 a4 1 h8) fun x9 h10 =>
B_13_minus_26 a0 a1 a3 h10))))
def B_13_plus_35  (a0 : Nat) (a1 : Int32) (H : jH) : Option (Unit × jH) :=
jg ((jK H a0).1 = 13) (
jb (F_13_copy a0 a1 37 H) fun x1 h2 =>
some ((), h2))
def F_13_plus (a0 : Nat) (a1 : Int32) (a2 : Int32) (a3 : Int32) (a4 : Int32) (H : jH) : Option (Unit × jH) :=
jg ((jK H a0).1 = 13) (
jb (F_13_copy a0 37 a2 H) fun x3 h4 =>
jg ((jK h4 a0).1 = 13) (
jb (F_13_add a0 37 a3 1 h4) fun x5 h6 =>
jg ((jK h6 a0).1 = 13) (
jb (F_13_compare a0 37 a4 h6) fun x7 h8 =>
(if (x7 : Int32) < 0 then
B_13_plus_35 a0 a1 h8
else
jg ((jK h8 a0).1 = 13) (
jb (F_13_add a0 37 a4 (-1) h8) fun x9 h10 =>
B_13_plus_35 a0 a1 h10)))))
def B_13_twice_267 (k267 : Nat → Int32 → Int32 → jH → Option (Unit × jH)) (a0 : Nat) (a1 : Int32) (a2 : Int32) (H : jH) : Option (Unit × jH) :=
(if (3 : Int32) ≤ (a2 : Int32) then
jg ((jK H a0).1 = 13) (
jb (F_13_copy a0 (a1 + 2) 34 H) fun x1 h2 =>
some ((), h2))
else
jg ((jK H a0).1 = 13) (
jb (F_13_plus a0 34 34 34 8 H) fun x3 h4 =>
jl (a2 + 1) fun x5 =>
k267 a0 a1 x5 h4))
def F_13_twice_267  : Nat → Nat → Int32 → Int32 → jH → Option (Unit × jH)
  | 0 => fun _ _ _ _ => none
  | n + 1 => fun a0 a1 a2 H => B_13_twice_267 (F_13_twice_267  n) a0 a1 a2 H
def B_13_twice_185 (k185 : Nat → Int32 → Int32 → jH → Option (Unit × jH)) (a0 : Nat) (a1 : Int32) (a2 : Int32) (H : jH) : Option (Unit × jH) :=
(if (8 : Int32) ≤ (a2 : Int32) then
jg ((jK H a0).1 = 13) (
jb (F_13_copy a0 (a1 + 1) 34 H) fun x6 h7 =>
jg ((jK h7 a0).1 = 13) (
jb (F_13_multiply a0 34 36 32 8 h7) fun x8 h9 =>
jg ((jK h9 a0).1 = 13) (
jb (F_13_plus a0 a1 34 34 8 h9) fun x10 h11 =>
jg ((jK h11 a0).1 = 13) (
jb (F_13_multiply a0 34 32 32 8 h11) fun x12 h13 =>
jg ((jK h13 a0).1 = 13) (
jb (F_13_multiply a0 34 34 32 8 h13) fun x14 h15 =>
F_13_twice_267 jfuel a0 a1 0 h15)))))
else
jg ((jK H a0).1 = 13) (
jb (F_13_minus a0 34 34 35 8 H) fun x16 h17 =>
jl (a2 + 1) fun x18 =>
k185 a0 a1 x18 h17))
def F_13_twice_185  : Nat → Nat → Int32 → Int32 → jH → Option (Unit × jH)
  | 0 => fun _ _ _ _ => none
  | n + 1 => fun a0 a1 a2 H => B_13_twice_185 (F_13_twice_185  n) a0 a1 a2 H
def B_13_twice_86 (k86 : Nat → Int32 → Int32 → jH → Option (Unit × jH)) (a0 : Nat) (a1 : Int32) (a2 : Int32) (H : jH) : Option (Unit × jH) :=
(if (8 : Int32) ≤ (a2 : Int32) then
jg ((jK H a0).1 = 13) (
jb (F_13_plus a0 34 33 33 8 H) fun x19 h20 =>
jg ((jK h20 a0).1 = 13) (
jb (F_13_plus a0 34 34 34 8 h20) fun x21 h22 =>
jg ((jK h22 a0).1 = 13) (
jb (F_13_minus a0 34 34 36 8 h22) fun x23 h24 =>
jg ((jK h24 a0).1 = 13) (
jb (F_13_multiply a0 34 31 34 8 h24) fun x25 h26 =>
jg ((jK h26 a0).1 = 13) (
jb (F_13_multiply a0 35 (a1 + 1) 32 8 h26) fun x27 h28 =>
jg ((jK h28 a0).1 = 13) (
jb (F_13_multiply a0 35 35 35 8 h28) fun x29 h30 =>
F_13_twice_185 jfuel a0 a1 0 h30))))))
else
jg ((jK H a0).1 = 13) (
jb (F_13_minus a0 36 36 33 8 H) fun x31 h32 =>
jl (a2 + 1) fun x33 =>
k86 a0 a1 x33 h32))
def F_13_twice_86  : Nat → Nat → Int32 → Int32 → jH → Option (Unit × jH)
  | 0 => fun _ _ _ _ => none
  | n + 1 => fun a0 a1 a2 H => B_13_twice_86 (F_13_twice_86  n) a0 a1 a2 H
def F_13_twice (a0 : Nat) (a1 : Int32) (H : jH) : Option (Unit × jH) :=
jg ((jK H a0).1 = 13) (
jb (F_13_multiply a0 31 a1 a1 8 H) fun x34 h35 =>
jg ((jK h35 a0).1 = 13) (
jb (F_13_plus a0 34 31 31 8 h35) fun x36 h37 =>
jg ((jK h37 a0).1 = 13) (
jb (F_13_plus a0 31 31 34 8 h37) fun x38 h39 =>
jg ((jK h39 a0).1 = 13) (
jb (F_13_multiply a0 32 (a1 + 1) (a1 + 2) 8 h39) fun x40 h41 =>
jg ((jK h41 a0).1 = 13) (
jb (F_13_multiply a0 33 a1 (a1 + 1) 8 h41) fun x42 h43 =>
jg ((jK h43 a0).1 = 13) (
jb (F_13_multiply a0 33 33 32 8 h43) fun x44 h45 =>
jg ((jK h45 a0).1 = 13) (
jb (F_13_multiply a0 36 31 31 8 h45) fun x46 h47 =>
F_13_twice_86 jfuel a0 a1 0 h47)))))))
def B_13_join_133   (H : jH) : Option (Unit × jH) :=
some ((), H)
def F_13_join (a0 : Nat) (a1 : Int32) (a2 : Int32) (H : jH) : Option (Unit × jH) :=
jg ((jK H a0).1 = 13) (
jb (F_13_isNone a0 a2 H) fun x1 h2 =>
(if (x1 : Int32) = 0 then
jg ((jK h2 a0).1 = 13) (
jb (F_13_isNone a0 a1 h2) fun x3 h4 =>
(if (x3 : Int32) = 0 then
jg ((jK h4 a0).1 = 13) (
jb (F_13_multiply a0 31 (a2 + 1) (a1 + 2) 8 h4) fun x5 h6 =>
jg ((jK h6 a0).1 = 13) (
jb (F_13_multiply a0 34 (a1 + 1) (a2 + 2) 8 h6) fun x7 h8 =>
jg ((jK h8 a0).1 = 13) (
jb (F_13_minus a0 31 31 34 8 h8) fun x9 h10 =>
jg ((jK h10 a0).1 = 13) (
jb (F_13_multiply a0 32 a2 (a1 + 2) 8 h10) fun x11 h12 =>
jg ((jK h12 a0).1 = 13) (
jb (F_13_multiply a0 34 a1 (a2 + 2) 8 h12) fun x13 h14 =>
jg ((jK h14 a0).1 = 13) (
jb (F_13_minus a0 32 32 34 8 h14) fun x15 h16 =>
jg ((jK h16 a0).1 = 13) (
jb (F_13_isNothing a0 32 h16) fun x17 h18 =>
(if (x17 : Int32) = 0 then
jg ((jK h18 a0).1 = 13) (
jb (F_13_multiply a0 35 32 32 8 h18) fun x19 h20 =>
jg ((jK h20 a0).1 = 13) (
jb (F_13_multiply a0 33 35 34 8 h20) fun x21 h22 =>
jg ((jK h22 a0).1 = 13) (
jb (F_13_multiply a0 35 35 32 8 h22) fun x23 h24 =>
jg ((jK h24 a0).1 = 13) (
jb (F_13_multiply a0 36 (a1 + 2) (a2 + 2) 8 h24) fun x25 h26 =>
jg ((jK h26 a0).1 = 13) (
jb (F_13_multiply a0 34 31 31 8 h26) fun x27 h28 =>
jg ((jK h28 a0).1 = 13) (
jb (F_13_multiply a0 34 34 36 8 h28) fun x29 h30 =>
jg ((jK h30 a0).1 = 13) (
jb (F_13_minus a0 34 34 35 8 h30) fun x31 h32 =>
jg ((jK h32 a0).1 = 13) (
jb (F_13_minus a0 34 34 33 8 h32) fun x33 h34 =>
jg ((jK h34 a0).1 = 13) (
jb (F_13_minus a0 34 34 33 8 h34) fun x35 h36 =>
jg ((jK h36 a0).1 = 13) (
jb (F_13_minus a0 33 33 34 8 h36) fun x37 h38 =>
jg ((jK h38 a0).1 = 13) (
jb (F_13_multiply a0 33 31 33 8 h38) fun x39 h40 =>
jg ((jK h40 a0).1 = 13) (
jb (F_13_multiply a0 31 (a1 + 1) (a2 + 2) 8 h40) fun x41 h42 =>
jg ((jK h42 a0).1 = 13) (
jb (F_13_multiply a0 31 31 35 8 h42) fun x43 h44 =>
jg ((jK h44 a0).1 = 13) (
jb (F_13_minus a0 (a1 + 1) 33 31 8 h44) fun x45 h46 =>
jg ((jK h46 a0).1 = 13) (
jb (F_13_multiply a0 a1 32 34 8 h46) fun x47 h48 =>
jg ((jK h48 a0).1 = 13) (
jb (F_13_multiply a0 (a1 + 2) 35 36 8 h48) fun x49 h50 =>
some ((), h50)))))))))))))))))
else
jg ((jK h18 a0).1 = 13) (
jb (F_13_isNothing a0 31 h18) fun x51 h52 =>
(if (x51 : Int32) = 0 then
jg ((jK h52 a0).1 = 13) (
jb (F_13_nothing a0 (a1 + 2) h52) fun x53 h54 =>
B_13_join_133 h54)
else
jg ((jK h52 a0).1 = 13) (
jb (F_13_twice a0 a1 h52) fun x55 h56 =>
B_13_join_133 h56)))))))))))
else
jg ((jK h4 a0).1 = 13) (
jb (F_13_copyPoint a0 a1 a2 h4) fun x57 h58 =>
some ((), h58))))
else
some ((), h2)))
def B_13_load_49   (H : jH) : Option (Unit × jH) :=
some ((), H)
def F_13_load (a0 : Nat) (a1 : Int32) (a2 : Int32) (H : jH) : Option (Unit × jH) :=
jg ((jK H a0).1 = 13) (
jb (F_13_copy a0 a1 (10 + (2 * a2)) H) fun x1 h2 =>
jg ((jK h2 a0).1 = 13) (
jb (F_13_copy a0 (a1 + 1) (11 + (2 * a2)) h2) fun x3 h4 =>
jg ((jK h4 a0).1 = 13) (
jb (F_13_copy a0 (a1 + 2) 20 h4) fun x5 h6 =>
jg ((jK h6 a0).1 = 13) (
jg ((jK h6 (jR h6 a0 4)).1 = 102 ∧ jin (a2) (jK h6 (jR h6 a0 4)).2) (
(if ((jI h6 (jR h6 a0 4) (a2 : Int32).toNatClampNeg) : Int32) = 0 then
B_13_load_49 h6
else
jg ((jK h6 a0).1 = 13) (
jb (F_13_nothing a0 (a1 + 2) h6) fun x7 h8 =>
B_13_load_49 h8)))))))
def B_13_multiple_54 (k10 : Nat → Int32 → Int32 → jH → Option (Unit × jH)) (a0 : Nat) (a1 : Int32) (a2 : Int32) (H : jH) : Option (Unit × jH) :=
jl (a2 + (-1)) fun x1 =>
k10 a0 a1 x1 H
def B_13_multiple_29 (k10 : Nat → Int32 → Int32 → jH → Option (Unit × jH)) (a0 : Nat) (a1 : Int32) (a2 : Int32) (H : jH) : Option (Unit × jH) :=
jg ((jK H a0).1 = 13) (
jb (F_13_bit a0 a1 a2 H) fun x2 h3 =>
(if (x2 : Int32) = 0 then
B_13_multiple_54 k10 a0 a1 a2 h3
else
jg ((jK h3 a0).1 = 13) (
jb (F_13_copyPoint a0 28 22 h3) fun x4 h5 =>
jg ((jK h5 a0).1 = 13) (
jb (F_13_join a0 25 28 h5) fun x6 h7 =>
B_13_multiple_54 k10 a0 a1 a2 h7))))
def B_13_multiple_10 (k10 : Nat → Int32 → Int32 → jH → Option (Unit × jH)) (a0 : Nat) (a1 : Int32) (a2 : Int32) (H : jH) : Option (Unit × jH) :=
(if (a2 : Int32) < 0 then
some ((), H)
else
jg ((jK H a0).1 = 13) (
jb (F_13_isNone a0 25 H) fun x8 h9 =>
(if ¬ (x8 : Int32) = 0 then
B_13_multiple_29 k10 a0 a1 a2 h9
else
jg ((jK h9 a0).1 = 13) (
jb (F_13_twice a0 25 h9) fun x10 h11 =>
B_13_multiple_29 k10 a0 a1 a2 h11))))
def F_13_multiple_10  : Nat → Nat → Int32 → Int32 → jH → Option (Unit × jH)
  | 0 => fun _ _ _ _ => none
  | n + 1 => fun a0 a1 a2 H => B_13_multiple_10 (F_13_multiple_10  n) a0 a1 a2 H
def F_13_multiple (a0 : Nat) (a1 : Int32) (H : jH) : Option (Unit × jH) :=
jg ((jK H a0).1 = 13) (
jb (F_13_nothing a0 27 H) fun x12 h13 =>
F_13_multiple_10 jfuel a0 a1 255 h13)
def B_13_fits_29   (H : jH) : Option (Int32 × jH) :=
some ((-1), H)
def B_13_fits_76   (H : jH) : Option (Int32 × jH) :=
some (0, H)
def B_13_fits_220  (s0 : Int32) (H : jH) : Option (Int32 × jH) :=
some (s0, H)
def F_13_fits (a0 : Nat) (a1 : Int32) (a2 : Int32) (a3 : Int32) (a4 : Int32) (H : jH) : Option (Int32 × jH) :=
jb (F_13_isSpot a1 H) fun x1 h2 =>
(if (x1 : Int32) = 0 then
B_13_fits_29 h2
else
jb (F_13_isRegister a2 h2) fun x3 h4 =>
(if (x3 : Int32) = 0 then
B_13_fits_29 h4
else
jb (F_13_isRegister a3 h4) fun x5 h6 =>
(if (x5 : Int32) = 0 then
B_13_fits_29 h6
else
jb (F_13_isRegister a4 h6) fun x7 h8 =>
(if ¬ (x7 : Int32) = 0 then
jg ((jK h8 a0).1 = 13) (
jg ((jK h8 (jR h8 a0 4)).1 = 102 ∧ jin (a1) (jK h8 (jR h8 a0 4)).2) (
(if ¬ ((jI h8 (jR h8 a0 4) (a1 : Int32).toNatClampNeg) : Int32) = 0 then
B_13_fits_76 h8
else
jg ((jK h8 a0).1 = 13) (
jb (F_13_isNothing a0 a2 h8) fun x9 h10 =>
(if ¬ (x9 : Int32) = 0 then
B_13_fits_76 h10
else
jg ((jK h10 a0).1 = 13) (
jb (F_13_isNothing a0 a3 h10) fun x11 h12 =>
(if ¬ (x11 : Int32) = 0 then
B_13_fits_76 h12
else
jg ((jK h12 a0).1 = 13) (
jb (F_13_compare a0 a2 9 h12) fun x13 h14 =>
(if 0 ≤ (x13 : Int32) then
B_13_fits_76 h14
else
jg ((jK h14 a0).1 = 13) (
jb (F_13_compare a0 a3 9 h14) fun x15 h16 =>
(if (x15 : Int32) < 0 then
jg ((jK h16 a0).1 = 13) (
jb (F_13_multiply a0 42 a4 20 9 h16) fun x17 h18 =>
jg ((jK h18 a0).1 = 13) (
jb (F_13_divide a0 42 42 a3 9 h18) fun x19 h20 =>
jg ((jK h20 a0).1 = 13) (
jb (F_13_divide a0 43 a2 a3 9 h20) fun x21 h22 =>
jg ((jK h22 a0).1 = 13) (
jb (F_13_copy a0 22 18 h22) fun x23 h24 =>
jg ((jK h24 a0).1 = 13) (
jb (F_13_copy a0 23 19 h24) fun x25 h26 =>
jg ((jK h26 a0).1 = 13) (
jb (F_13_copy a0 24 20 h26) fun x27 h28 =>
jg ((jK h28 a0).1 = 13) (
jb (F_13_multiple a0 42 h28) fun x29 h30 =>
jg ((jK h30 a0).1 = 13) (
jb (F_13_copyPoint a0 44 25 h30) fun x31 h32 =>
jg ((jK h32 a0).1 = 13) (
jb (F_13_load a0 22 a1 h32) fun x33 h34 =>
jg ((jK h34 a0).1 = 13) (
jb (F_13_multiple a0 43 h34) fun x35 h36 =>
jg ((jK h36 a0).1 = 13) (
jb (F_13_join a0 25 44 h36) fun x37 h38 =>
jg ((jK h38 a0).1 = 13) (
jb (F_13_isNone a0 25 h38) fun x39 h40 =>
(if (x39 : Int32) = 0 then
jg ((jK h40 a0).1 = 13) (
jb (F_13_divide a0 42 25 27 8 h40) fun x41 h42 =>
jg ((jK h42 a0).1 = 13) (
jb (F_13_multiply a0 42 42 20 9 h42) fun x43 h44 =>
jg ((jK h44 a0).1 = 13) (
jb (F_13_compare a0 42 a2 h44) fun x45 h46 =>
(if ¬ (x45 : Int32) = 0 then
B_13_fits_220 0 h46
else
B_13_fits_220 1 h46))))
else
some (0, h40))))))))))))))
else
B_13_fits_76 h16)))))))))))
else
B_13_fits_29 h8))))
def F_13_curve (a0 : Nat) (a1 : Int32) (a2 : Int32) (H : jH) : Option (Unit × jH) :=
jg ((jK H a0).1 = 13) (
jb (F_13_multiply a0 31 a2 a2 8 H) fun x1 h2 =>
jg ((jK h2 a0).1 = 13) (
jb (F_13_multiply a0 31 31 a2 8 h2) fun x3 h4 =>
jg ((jK h4 a0).1 = 13) (
jb (F_13_plus a0 a1 31 21 8 h4) fun x5 h6 =>
some ((), h6))))
def B_13_isPoint_20   (H : jH) : Option (Int32 × jH) :=
jg ((0 : Int32) = 0 ∨ (0 : Int32) = 1) (some (0, H))
def B_13_isPoint_55  (s0 : Int32) (H : jH) : Option (Int32 × jH) :=
jg ((s0 : Int32) = 0 ∨ (s0 : Int32) = 1) (some (s0, H))
def F_13_isPoint (a0 : Nat) (a1 : Int32) (a2 : Int32) (H : jH) : Option (Int32 × jH) :=
jg ((jK H a0).1 = 13) (
jb (F_13_compare a0 a1 8 H) fun x1 h2 =>
(if 0 ≤ (x1 : Int32) then
B_13_isPoint_20 h2
else
jg ((jK h2 a0).1 = 13) (
jb (F_13_compare a0 a2 8 h2) fun x3 h4 =>
(if (x3 : Int32) < 0 then
jg ((jK h4 a0).1 = 13) (
jb (F_13_curve a0 33 a1 h4) fun x5 h6 =>
jg ((jK h6 a0).1 = 13) (
jb (F_13_multiply a0 32 a2 a2 8 h6) fun x7 h8 =>
jg ((jK h8 a0).1 = 13) (
jb (F_13_compare a0 32 33 h8) fun x9 h10 =>
(if ¬ (x9 : Int32) = 0 then
B_13_isPoint_55 0 h10
else
B_13_isPoint_55 1 h10))))
else
B_13_isPoint_20 h4))))
def B_13_read_93 (k8 : Nat → Int32 → Int32 → Int32 → Int32 → jH → Option (Unit × jH)) (a0 : Nat) (a1 : Int32) (a2 : Int32) (a3 : Int32) (a4 : Int32) (H : jH) : Option (Unit × jH) :=
jl (a4 + 1) fun x1 =>
k8 a0 a1 a2 a3 x1 H
def B_13_read_28 (k8 : Nat → Int32 → Int32 → Int32 → Int32 → jH → Option (Unit × jH)) (k28 : Nat → Int32 → Int32 → Int32 → Int32 → Int32 → Int32 → jH → Option (Unit × jH)) (a0 : Nat) (a1 : Int32) (a2 : Int32) (a3 : Int32) (a4 : Int32) (a5 : Int32) (a6 : Int32) (H : jH) : Option (Unit × jH) :=
(if (8 : Int32) ≤ (a6 : Int32) then
B_13_read_93 k8 a0 a1 a2 a3 a4 H
else
(if (256 : Int32) ≤ (a5 : Int32) then
B_13_read_93 k8 a0 a1 a2 a3 a4 H
else
jg ((jK H a0).1 = 13) (
jg (¬ (26 : Int32) = 0) (
jg ((jK H (jR H a0 0)).1 = 100 ∧ jin (((10 * a1) + ((a5 + a6) / 26))) (jK H (jR H a0 0)).2) (
jg ((jK H a0).1 = 13) (
jg ((jK H (jR H a0 5)).1 = 100 ∧ jin ((a2 + a4)) (jK H (jR H a0 5)).2) (
jg (¬ (26 : Int32) = 0) (
jg ((jK H (jR H a0 0)).1 = 100 ∧ jF0 ≤ (jR H a0 0) ∧ jin (((10 * a1) + ((a5 + a6) / 26))) (jK H (jR H a0 0)).2) (
jl (jsI H (jR H a0 0) (((10 * a1) + ((a5 + a6) / 26)) : Int32).toNatClampNeg ((jI H (jR H a0 0) (((10 * a1) + ((a5 + a6) / 26)) : Int32).toNatClampNeg) ||| (jshl ((jshr (jI H (jR H a0 5) ((a2 + a4) : Int32).toNatClampNeg) a6) &&& 1) (jrem (a5 + a6) 26)))) fun h2 =>
jl (a6 + 1) fun x3 =>
k28 a0 a1 a2 a3 a4 a5 x3 h2)))))))))
def F_13_read_28 (k8 : Nat → Int32 → Int32 → Int32 → Int32 → jH → Option (Unit × jH)) : Nat → Nat → Int32 → Int32 → Int32 → Int32 → Int32 → Int32 → jH → Option (Unit × jH)
  | 0 => fun _ _ _ _ _ _ _ _ => none
  | n + 1 => fun a0 a1 a2 a3 a4 a5 a6 H => B_13_read_28 k8 (F_13_read_28 k8 n) a0 a1 a2 a3 a4 a5 a6 H
def B_13_read_8 (k8 : Nat → Int32 → Int32 → Int32 → Int32 → jH → Option (Unit × jH)) (a0 : Nat) (a1 : Int32) (a2 : Int32) (a3 : Int32) (a4 : Int32) (H : jH) : Option (Unit × jH) :=
(if (a3 : Int32) ≤ (a4 : Int32) then
some ((), H)
else
jl (8 * ((a3 - 1) - a4)) fun x4 =>
F_13_read_28 k8 jfuel a0 a1 a2 a3 a4 x4 0 H)
def F_13_read_8  : Nat → Nat → Int32 → Int32 → Int32 → Int32 → jH → Option (Unit × jH)
  | 0 => fun _ _ _ _ _ _ => none
  | n + 1 => fun a0 a1 a2 a3 a4 H => B_13_read_8 (F_13_read_8  n) a0 a1 a2 a3 a4 H
def F_13_read (a0 : Nat) (a1 : Int32) (a2 : Int32) (a3 : Int32) (H : jH) : Option (Unit × jH) :=
jg ((jK H a0).1 = 13) (
jb (F_13_nothing a0 a1 H) fun x5 h6 =>
F_13_read_8 jfuel a0 a1 a2 a3 0 h6)
def B_13_isOdd_20  (s0 : Int32) (H : jH) : Option (Int32 × jH) :=
jg ((s0 : Int32) = 0 ∨ (s0 : Int32) = 1) (some (s0, H))
def F_13_isOdd (a0 : Nat) (a1 : Int32) (H : jH) : Option (Int32 × jH) :=
jg ((jK H a0).1 = 13) (
jg ((jK H (jR H a0 0)).1 = 100 ∧ jin ((10 * a1)) (jK H (jR H a0 0)).2) (
jg (¬ (2 : Int32) = 0) (
(if ¬ ((jrem (jI H (jR H a0 0) ((10 * a1) : Int32).toNatClampNeg) 2) : Int32) = (1 : Int32) then
B_13_isOdd_20 0 H
else
B_13_isOdd_20 1 H))))
def B_13_roots_67 (k34 : Nat → Int32 → Int32 → Int32 → jH → Option (Int32 × jH)) (a0 : Nat) (a1 : Int32) (a3 : Int32) (a4 : Int32) (s0 : Int32) (H : jH) : Option (Int32 × jH) :=
jg ((jK H a0).1 = 13) (
jg ((jK H a0).1 = 13) (
jg ((jK H (jR H a0 0)).1 = 100 ∧ jin ((390 + a4)) (jK H (jR H a0 0)).2) (
jg (¬ (2 : Int32) = 0) (
jg (¬ (2 : Int32) = 0) (
jg ((jK H (jR H a0 0)).1 = 100 ∧ jF0 ≤ (jR H a0 0) ∧ jin ((390 + a4)) (jK H (jR H a0 0)).2) (
jl (jsI H (jR H a0 0) ((390 + a4) : Int32).toNatClampNeg (((jI H (jR H a0 0) ((390 + a4) : Int32).toNatClampNeg) / 2) + ((jrem s0 2) * 33554432))) fun h1 =>
jl (a4 + 1) fun x2 =>
k34 a0 a1 a3 x2 h1))))))
def B_13_roots_34 (k26 : Nat → Int32 → Int32 → jH → Option (Int32 × jH)) (k34 : Nat → Int32 → Int32 → Int32 → jH → Option (Int32 × jH)) (a0 : Nat) (a1 : Int32) (a3 : Int32) (a4 : Int32) (H : jH) : Option (Int32 × jH) :=
(if (10 : Int32) ≤ (a4 : Int32) then
jl (a3 + 1) fun x3 =>
k26 a0 a1 x3 H
else
(if (10 : Int32) ≤ ((a4 + 1) : Int32) then
B_13_roots_67 k34 a0 a1 a3 a4 0 H
else
jg ((jK H a0).1 = 13) (
jg ((jK H (jR H a0 0)).1 = 100 ∧ jin (((390 + a4) + 1)) (jK H (jR H a0 0)).2) (
B_13_roots_67 k34 a0 a1 a3 a4 (jI H (jR H a0 0) (((390 + a4) + 1) : Int32).toNatClampNeg) H))))
def F_13_roots_34 (k26 : Nat → Int32 → Int32 → jH → Option (Int32 × jH)) : Nat → Nat → Int32 → Int32 → Int32 → jH → Option (Int32 × jH)
  | 0 => fun _ _ _ _ _ => none
  | n + 1 => fun a0 a1 a3 a4 H => B_13_roots_34 k26 (F_13_roots_34 k26 n) a0 a1 a3 a4 H
def B_13_roots_175  (a0 : Nat) (a1 : Int32) (H : jH) : Option (Int32 × jH) :=
jg ((jK H a0).1 = 13) (
jb (F_13_copy a0 a1 45 H) fun x4 h5 =>
jg ((1 : Int32) = 0 ∨ (1 : Int32) = 1) (some (1, h5)))
def B_13_roots_26 (k26 : Nat → Int32 → Int32 → jH → Option (Int32 × jH)) (a0 : Nat) (a1 : Int32) (a3 : Int32) (H : jH) : Option (Int32 × jH) :=
(if (2 : Int32) ≤ (a3 : Int32) then
jg ((jK H a0).1 = 13) (
jb (F_13_power a0 45 47 8 H) fun x6 h7 =>
jg ((jK h7 a0).1 = 13) (
jb (F_13_multiply a0 46 45 45 8 h7) fun x8 h9 =>
jg ((jK h9 a0).1 = 13) (
jb (F_13_compare a0 46 47 h9) fun x10 h11 =>
(if (x10 : Int32) = 0 then
jg ((jK h11 a0).1 = 13) (
jb (F_13_isOdd a0 45 h11) fun x12 h13 =>
(if (x12 : Int32) = 0 then
B_13_roots_175 a0 a1 h13
else
jg ((jK h13 a0).1 = 13) (
jb (F_13_nothing a0 46 h13) fun x14 h15 =>
jg ((jK h15 a0).1 = 13) (
jb (F_13_minus a0 45 46 45 8 h15) fun x16 h17 =>
B_13_roots_175 a0 a1 h17))))
else
jg ((0 : Int32) = 0 ∨ (0 : Int32) = 1) (some (0, h11))))))
else
F_13_roots_34 k26 jfuel a0 a1 a3 0 H)
def F_13_roots_26  : Nat → Nat → Int32 → Int32 → jH → Option (Int32 × jH)
  | 0 => fun _ _ _ _ => none
  | n + 1 => fun a0 a1 a3 H => B_13_roots_26 (F_13_roots_26  n) a0 a1 a3 H
def F_13_roots (a0 : Nat) (a1 : Int32) (a2 : Int32) (H : jH) : Option (Int32 × jH) :=
jg ((jK H a0).1 = 13) (
jb (F_13_copy a0 47 a2 H) fun x18 h19 =>
jg ((jK h19 a0).1 = 13) (
jb (F_13_copy a0 39 8 h19) fun x20 h21 =>
jg ((jK h21 a0).1 = 13) (
jb (F_13_add a0 39 20 1 h21) fun x22 h23 =>
F_13_roots_26 jfuel a0 a1 0 h23)))
def B_13_key_169  (a0 : Nat) (a1 : Int32) (H : jH) : Option (Int32 × jH) :=
jg ((jK H a0).1 = 13) (
jb (F_13_copy a0 (10 + (2 * a1)) 40 H) fun x1 h2 =>
jg ((jK h2 a0).1 = 13) (
jb (F_13_copy a0 (11 + (2 * a1)) 41 h2) fun x3 h4 =>
jg ((jK h4 a0).1 = 13) (
jg ((jK h4 (jR h4 a0 4)).1 = 102 ∧ jin (a1) (jK h4 (jR h4 a0 4)).2) (
jl (jsI h4 (jR h4 a0 4) (a1 : Int32).toNatClampNeg (0 &&& 1)) fun h5 =>
some (1, h5)))))
def B_13_key_45  (a0 : Nat) (a1 : Int32) (H : jH) : Option (Int32 × jH) :=
jg ((jK H a0).1 = 13) (
jb (F_13_read a0 40 1 32 H) fun x6 h7 =>
jg ((jK h7 a0).1 = 13) (
jb (F_13_compare a0 40 8 h7) fun x8 h9 =>
(if (x8 : Int32) < 0 then
jg ((jK h9 a0).1 = 13) (
jb (F_13_curve a0 33 40 h9) fun x10 h11 =>
jg ((jK h11 a0).1 = 13) (
jb (F_13_roots a0 41 33 h11) fun x12 h13 =>
(if ¬ (x12 : Int32) = 0 then
jg ((jK h13 a0).1 = 13) (
jg ((jK h13 (jR h13 a0 5)).1 = 100 ∧ jin (0) (jK h13 (jR h13 a0 5)).2) (
(if ¬ ((jI h13 (jR h13 a0 5) (0 : Int32).toNatClampNeg) : Int32) = (3 : Int32) then
B_13_key_169 a0 a1 h13
else
jg ((jK h13 a0).1 = 13) (
jb (F_13_nothing a0 33 h13) fun x14 h15 =>
jg ((jK h15 a0).1 = 13) (
jb (F_13_minus a0 41 33 41 8 h15) fun x16 h17 =>
B_13_key_169 a0 a1 h17)))))
else
some (0, h13))))
else
some (0, h9))))
def B_13_key_167   (H : jH) : Option (Int32 × jH) :=
some (0, H)
def B_13_key_119  (a0 : Nat) (a1 : Int32) (a2 : Int32) (H : jH) : Option (Int32 × jH) :=
(if ¬ (a2 : Int32) = (65 : Int32) then
B_13_key_167 H
else
jg ((jK H a0).1 = 13) (
jg ((jK H (jR H a0 5)).1 = 100 ∧ jin (0) (jK H (jR H a0 5)).2) (
(if ¬ ((jI H (jR H a0 5) (0 : Int32).toNatClampNeg) : Int32) = (4 : Int32) then
B_13_key_167 H
else
jg ((jK H a0).1 = 13) (
jb (F_13_read a0 40 1 32 H) fun x18 h19 =>
jg ((jK h19 a0).1 = 13) (
jb (F_13_read a0 41 33 32 h19) fun x20 h21 =>
jg ((jK h21 a0).1 = 13) (
jb (F_13_isPoint a0 40 41 h21) fun x22 h23 =>
(if ¬ (x22 : Int32) = 0 then
B_13_key_169 a0 a1 h23
else
some (0, h23)))))))))
def F_13_key (a0 : Nat) (a1 : Int32) (H : jH) : Option (Int32 × jH) :=
jb (F_13_isSpot a1 H) fun x24 h25 =>
(if ¬ (x24 : Int32) = 0 then
jg ((jK h25 a0).1 = 13) (
jl (jI h25 a0 6) fun x26 =>
jg ((jK h25 a0).1 = 13) (
jl (jsI h25 a0 6 0) fun h27 =>
(if ¬ (x26 : Int32) = (33 : Int32) then
B_13_key_119 a0 a1 x26 h27
else
jg ((jK h27 a0).1 = 13) (
jg ((jK h27 (jR h27 a0 5)).1 = 100 ∧ jin (0) (jK h27 (jR h27 a0 5)).2) (
(if ((jI h27 (jR h27 a0 5) (0 : Int32).toNatClampNeg) : Int32) = (2 : Int32) then
B_13_key_45 a0 a1 h27
else
jg ((jK h27 a0).1 = 13) (
jg ((jK h27 (jR h27 a0 5)).1 = 100 ∧ jin (0) (jK h27 (jR h27 a0 5)).2) (
(if ¬ ((jI h27 (jR h27 a0 5) (0 : Int32).toNatClampNeg) : Int32) = (3 : Int32) then
B_13_key_119 a0 a1 x26 h27
else
B_13_key_45 a0 a1 h27)))))))))
else
some ((-1), h25))
def B_13_put_22   (H : jH) : Option (Int32 × jH) :=
jg ((0 : Int32) = 0 ∨ (0 : Int32) = 1) (some (0, H))
def B_13_put_29 (k29 : Nat → Int64 → Int32 → jH → Option (Int32 × jH)) (a0 : Nat) (a1 : Int64) (a4 : Int32) (H : jH) : Option (Int32 × jH) :=
(if (a4 : Int32) < 0 then
jg ((1 : Int32) = 0 ∨ (1 : Int32) = 1) (some (1, H))
else
jg ((jK H a0).1 = 13) (
jg ((jK H a0).1 = 13) (
jg ((jK H (jR H a0 5)).1 = 100 ∧ jF0 ≤ (jR H a0 5) ∧ jin ((jI H a0 6)) (jK H (jR H a0 5)).2) (
jl (jsI H (jR H a0 5) ((jI H a0 6) : Int32).toNatClampNeg (Int64.toInt32 ((jshrL a1 (8 * a4)) &&& 255))) fun h1 =>
jg ((jK h1 a0).1 = 13) (
jg ((jK h1 a0).1 = 13) (
jl (jsI h1 a0 6 ((jI h1 a0 6) + 1)) fun h2 =>
jl (a4 + (-1)) fun x3 =>
k29 a0 a1 x3 h2))))))
def F_13_put_29  : Nat → Nat → Int64 → Int32 → jH → Option (Int32 × jH)
  | 0 => fun _ _ _ _ => none
  | n + 1 => fun a0 a1 a4 H => B_13_put_29 (F_13_put_29  n) a0 a1 a4 H
def F_13_put (a0 : Nat) (a1 : Int64) (a3 : Int32) (H : jH) : Option (Int32 × jH) :=
(if (a3 : Int32) < (1 : Int32) then
B_13_put_22 H
else
(if (8 : Int32) < (a3 : Int32) then
B_13_put_22 H
else
jg ((jK H a0).1 = 13) (
(if (((jI H a0 6) + a3) : Int32) ≤ (100 : Int32) then
jl (a3 - 1) fun x4 =>
F_13_put_29 jfuel a0 a1 x4 H
else
B_13_put_22 H))))
def F_13_set (a0 : Nat) (a1 : Int32) (a2 : Int64) (a4 : Int64) (a6 : Int64) (a8 : Int64) (H : jH) : Option (Int32 × jH) :=
jb (F_13_isRegister a1 H) fun x1 h2 =>
(if ¬ (x1 : Int32) = 0 then
jg ((jK h2 a0).1 = 13) (
jb (F_13_write a0 a1 a2 a4 a6 a8 h2) fun x3 h4 =>
jg ((1 : Int32) = 0 ∨ (1 : Int32) = 1) (some (1, h4)))
else
jg ((0 : Int32) = 0 ∨ (0 : Int32) = 1) (some (0, h2)))
def B_13_numberEnd_17   (H : jH) : Option (Int32 × jH) :=
some ((-1), H)
def B_13_numberEnd_48   (H : jH) : Option (Int32 × jH) :=
some ((-1), H)
def B_13_numberEnd_124  (s0 : Int32) (H : jH) : Option (Int32 × jH) :=
some (s0, H)
def B_13_numberEnd_115  (a1 : Int32) (a3 : Int32) (H : jH) : Option (Int32 × jH) :=
B_13_numberEnd_124 ((a1 + 2) + a3) H
def B_13_numberEnd_123   (H : jH) : Option (Int32 × jH) :=
B_13_numberEnd_124 (-1) H
def B_13_numberEnd_97  (a1 : Int32) (a3 : Int32) (a4 : Int32) (s0 : Int32) (H : jH) : Option (Int32 × jH) :=
(if (s0 : Int32) = 0 then
B_13_numberEnd_123 H
else
(if (a3 : Int32) < (33 : Int32) then
B_13_numberEnd_115 a1 a3 H
else
(if ¬ (a4 : Int32) = 0 then
B_13_numberEnd_123 H
else
B_13_numberEnd_115 a1 a3 H)))
def B_13_numberEnd_92  (a1 : Int32) (a3 : Int32) (a4 : Int32) (H : jH) : Option (Int32 × jH) :=
B_13_numberEnd_97 a1 a3 a4 1 H
def B_13_numberEnd_96  (a1 : Int32) (a3 : Int32) (a4 : Int32) (H : jH) : Option (Int32 × jH) :=
B_13_numberEnd_97 a1 a3 a4 0 H
def F_13_numberEnd (a0 : Nat) (a1 : Int32) (a2 : Int32) (H : jH) : Option (Int32 × jH) :=
(if (a2 : Int32) < ((a1 + 2) : Int32) then
B_13_numberEnd_17 H
else
jg ((jK H a0).1 = 13) (
jg ((jK H (jR H a0 5)).1 = 100 ∧ jin (a1) (jK H (jR H a0 5)).2) (
(if ((jI H (jR H a0 5) (a1 : Int32).toNatClampNeg) : Int32) = (2 : Int32) then
jg ((jK H a0).1 = 13) (
jg ((jK H (jR H a0 5)).1 = 100 ∧ jin ((a1 + 1)) (jK H (jR H a0 5)).2) (
jl (jI H (jR H a0 5) ((a1 + 1) : Int32).toNatClampNeg) fun x1 =>
(if (x1 : Int32) < (1 : Int32) then
B_13_numberEnd_48 H
else
(if (33 : Int32) < (x1 : Int32) then
B_13_numberEnd_48 H
else
(if (((a1 + 2) + x1) : Int32) ≤ (a2 : Int32) then
jg ((jK H a0).1 = 13) (
jg ((jK H (jR H a0 5)).1 = 100 ∧ jin ((a1 + 2)) (jK H (jR H a0 5)).2) (
jl (jI H (jR H a0 5) ((a1 + 2) : Int32).toNatClampNeg) fun x2 =>
(if (128 : Int32) ≤ (x2 : Int32) then
B_13_numberEnd_96 a1 x1 x2 H
else
(if 0 < (x2 : Int32) then
B_13_numberEnd_92 a1 x1 x2 H
else
(if (x1 : Int32) = (1 : Int32) then
B_13_numberEnd_92 a1 x1 x2 H
else
jg ((jK H a0).1 = 13) (
jg ((jK H (jR H a0 5)).1 = 100 ∧ jin ((a1 + 3)) (jK H (jR H a0 5)).2) (
(if ((jI H (jR H a0 5) ((a1 + 3) : Int32).toNatClampNeg) : Int32) < (128 : Int32) then
B_13_numberEnd_96 a1 x1 x2 H
else
B_13_numberEnd_92 a1 x1 x2 H))))))))
else
B_13_numberEnd_48 H)))))
else
B_13_numberEnd_17 H))))
