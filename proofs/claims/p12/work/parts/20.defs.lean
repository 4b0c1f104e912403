def B_10_low_12   (H : jH) : Option (Int32 × jH) :=
some (0, H)
def F_10_low (a0 : Nat) (a1 : Int32) (H : jH) : Option (Int32 × jH) :=
(if (a1 : Int32) < 0 then
B_10_low_12 H
else
jg ((jK H a0).1 = 101) (
(if ((a1 + 4) : Int32) ≤ ((Int32.ofNat (jK H a0).2) : Int32) then
jg ((jK H a0).1 = 101 ∧ jin (a1) (jK H a0).2) (
jg ((jK H a0).1 = 101 ∧ jin ((a1 + 1)) (jK H a0).2) (
jg ((jK H a0).1 = 101 ∧ jin ((a1 + 2)) (jK H a0).2) (
jg ((jK H a0).1 = 101 ∧ jin ((a1 + 3)) (jK H a0).2) (
some ((((((jbs (jB H a0 (a1 : Int32).toNatClampNeg)) &&& 255) ||| (jshl ((jbs (jB H a0 ((a1 + 1) : Int32).toNatClampNeg)) &&& 255) 8)) ||| (jshl ((jbs (jB H a0 ((a1 + 2) : Int32).toNatClampNeg)) &&& 255) 16)) ||| (jshl (jbs (jB H a0 ((a1 + 3) : Int32).toNatClampNeg)) 24)), H)))))
else
B_10_low_12 H)))
def F_0_init (a0 : Nat) (a1 : Nat) (H : jH) : Option (Unit × jH) :=
jg (jF0 ≤ a0) (
jg (jgn (32)) (
jnw H 101 (32 : Int32).toNatClampNeg fun r1 h2 =>
jg ((jK h2 a0).1 = 0) (
jl (jsR h2 a0 1 r1) fun h3 =>
jg (jgn (0)) (
jnw h3 113 (0 : Int32).toNatClampNeg fun r4 h5 =>
jg ((jK h5 a0).1 = 0) (
jl (jsR h5 a0 4 r4) fun h6 =>
jg (jgn (8)) (
jnw h6 100 (8 : Int32).toNatClampNeg fun r7 h8 =>
jg ((jK h8 a0).1 = 0) (
jl (jsR h8 a0 8 r7) fun h9 =>
jg ((jK h9 a0).1 = 0) (
jl (jsR h9 a0 0 a1) fun h10 =>
jb (F_10_low a1 69 h10) fun x11 h12 =>
jg ((jK h12 a0).1 = 0) (
jl (jsL h12 a0 3 ((Int32.toInt64 x11) &&& 4294967295)) fun h13 =>
jb (F_10_low a1 73 h13) fun x14 h15 =>
jg ((jK h15 a0).1 = 0) (
jl (jsI h15 a0 2 x14) fun h16 =>
some ((), h16)))))))))))
def B_3_digest_133 (k37 : Nat → Nat → Int32 → Int32 → Int32 → jH → Option (Unit × jH)) (a0 : Nat) (a1 : Nat) (a2 : Int32) (a3 : Int32) (a4 : Int32) (s0 : Nat) (s1 : Int32) (s2 : Int32) (H : jH) : Option (Unit × jH) :=
jg ((jK H s0).1 = 100 ∧ jF0 ≤ s0 ∧ jin (s1) (jK H s0).2) (
jl (jsI H s0 (s1 : Int32).toNatClampNeg s2) fun h1 =>
jl (a4 + 1) fun x2 =>
k37 a0 a1 a2 a3 x2 h1)
def B_3_digest_357 (k29 : Nat → Nat → Int32 → Int32 → jH → Option (Unit × jH)) (k357 : Nat → Nat → Int32 → Int32 → Int32 → Int32 → Int32 → Int32 → Int32 → Int32 → Int32 → Int32 → Int32 → jH → Option (Unit × jH)) (a0 : Nat) (a1 : Nat) (a2 : Int32) (a3 : Int32) (a4 : Int32) (a5 : Int32) (a6 : Int32) (a7 : Int32) (a8 : Int32) (a9 : Int32) (a10 : Int32) (a11 : Int32) (a12 : Int32) (H : jH) : Option (Unit × jH) :=
(if (64 : Int32) ≤ (a12 : Int32) then
jg ((jK H a0).1 = 3) (
jg ((jK H (jR H a0 2)).1 = 100 ∧ jin (0) (jK H (jR H a0 2)).2) (
jg ((jK H (jR H a0 2)).1 = 100 ∧ jF0 ≤ (jR H a0 2) ∧ jin (0) (jK H (jR H a0 2)).2) (
jl (jsI H (jR H a0 2) (0 : Int32).toNatClampNeg ((jI H (jR H a0 2) (0 : Int32).toNatClampNeg) + a4)) fun h3 =>
jg ((jK h3 a0).1 = 3) (
jg ((jK h3 (jR h3 a0 2)).1 = 100 ∧ jin (1) (jK h3 (jR h3 a0 2)).2) (
jg ((jK h3 (jR h3 a0 2)).1 = 100 ∧ jF0 ≤ (jR h3 a0 2) ∧ jin (1) (jK h3 (jR h3 a0 2)).2) (
jl (jsI h3 (jR h3 a0 2) (1 : Int32).toNatClampNeg ((jI h3 (jR h3 a0 2) (1 : Int32).toNatClampNeg) + a5)) fun h4 =>
jg ((jK h4 a0).1 = 3) (
jg ((jK h4 (jR h4 a0 2)).1 = 100 ∧ jin (2) (jK h4 (jR h4 a0 2)).2) (
jg ((jK h4 (jR h4 a0 2)).1 = 100 ∧ jF0 ≤ (jR h4 a0 2) ∧ jin (2) (jK h4 (jR h4 a0 2)).2) (
jl (jsI h4 (jR h4 a0 2) (2 : Int32).toNatClampNeg ((jI h4 (jR h4 a0 2) (2 : Int32).toNatClampNeg) + a6)) fun h5 =>
jg ((jK h5 a0).1 = 3) (
jg ((jK h5 (jR h5 a0 2)).1 = 100 ∧ jin (3) (jK h5 (jR h5 a0 2)).2) (
jg ((jK h5 (jR h5 a0 2)).1 = 100 ∧ jF0 ≤ (jR h5 a0 2) ∧ jin (3) (jK h5 (jR h5 a0 2)).2) (
jl (jsI h5 (jR h5 a0 2) (3 : Int32).toNatClampNeg ((jI h5 (jR h5 a0 2) (3 : Int32).toNatClampNeg) + a7)) fun h6 =>
jg ((jK h6 a0).1 = 3) (
jg ((jK h6 (jR h6 a0 2)).1 = 100 ∧ jin (4) (jK h6 (jR h6 a0 2)).2) (
jg ((jK h6 (jR h6 a0 2)).1 = 100 ∧ jF0 ≤ (jR h6 a0 2) ∧ jin (4) (jK h6 (jR h6 a0 2)).2) (
jl (jsI h6 (jR h6 a0 2) (4 : Int32).toNatClampNeg ((jI h6 (jR h6 a0 2) (4 : Int32).toNatClampNeg) + a8)) fun h7 =>
jg ((jK h7 a0).1 = 3) (
jg ((jK h7 (jR h7 a0 2)).1 = 100 ∧ jin (5) (jK h7 (jR h7 a0 2)).2) (
jg ((jK h7 (jR h7 a0 2)).1 = 100 ∧ jF0 ≤ (jR h7 a0 2) ∧ jin (5) (jK h7 (jR h7 a0 2)).2) (
jl (jsI h7 (jR h7 a0 2) (5 : Int32).toNatClampNeg ((jI h7 (jR h7 a0 2) (5 : Int32).toNatClampNeg) + a9)) fun h8 =>
jg ((jK h8 a0).1 = 3) (
jg ((jK h8 (jR h8 a0 2)).1 = 100 ∧ jin (6) (jK h8 (jR h8 a0 2)).2) (
jg ((jK h8 (jR h8 a0 2)).1 = 100 ∧ jF0 ≤ (jR h8 a0 2) ∧ jin (6) (jK h8 (jR h8 a0 2)).2) (
jl (jsI h8 (jR h8 a0 2) (6 : Int32).toNatClampNeg ((jI h8 (jR h8 a0 2) (6 : Int32).toNatClampNeg) + a10)) fun h9 =>
jg ((jK h9 a0).1 = 3) (
jg ((jK h9 (jR h9 a0 2)).1 = 100 ∧ jin (7) (jK h9 (jR h9 a0 2)).2) (
jg ((jK h9 (jR h9 a0 2)).1 = 100 ∧ jF0 ≤ (jR h9 a0 2) ∧ jin (7) (jK h9 (jR h9 a0 2)).2) (
jl (jsI h9 (jR h9 a0 2) (7 : Int32).toNatClampNeg ((jI h9 (jR h9 a0 2) (7 : Int32).toNatClampNeg) + a11)) fun h10 =>
jl (a3 + 1) fun x11 =>
k29 a0 a1 a2 x11 h10))))))))))))))))))))))))
else
jg ((jK H 2).1 = 100 ∧ jin (a12) (jK H 2).2) (
jg ((jK H a0).1 = 3) (
jg ((jK H (jR H a0 3)).1 = 100 ∧ jin (a12) (jK H (jR H a0 3)).2) (
jl ((((a11 + ((((jushr a8 6) ||| (jshl a8 26)) ^^^ ((jushr a8 11) ||| (jshl a8 21))) ^^^ ((jushr a8 25) ||| (jshl a8 7)))) + ((a8 &&& a9) ^^^ ((a8 ^^^ (-1)) &&& a10))) + (jI H 2 (a12 : Int32).toNatClampNeg)) + (jI H (jR H a0 3) (a12 : Int32).toNatClampNeg)) fun x12 =>
jl (((((jushr a4 2) ||| (jshl a4 30)) ^^^ ((jushr a4 13) ||| (jshl a4 19))) ^^^ ((jushr a4 22) ||| (jshl a4 10))) + (((a4 &&& a5) ^^^ (a4 &&& a6)) ^^^ (a5 &&& a6))) fun x13 =>
jl (a7 + x12) fun x14 =>
jl (x12 + x13) fun x15 =>
jl (a12 + 1) fun x16 =>
k357 a0 a1 a2 a3 x15 a4 a5 a6 x14 a8 a9 a10 x16 H))))
def F_3_digest_357 (k29 : Nat → Nat → Int32 → Int32 → jH → Option (Unit × jH)) : Nat → Nat → Nat → Int32 → Int32 → Int32 → Int32 → Int32 → Int32 → Int32 → Int32 → Int32 → Int32 → Int32 → jH → Option (Unit × jH)
  | 0 => fun _ _ _ _ _ _ _ _ _ _ _ _ _ _ => none
  | n + 1 => fun a0 a1 a2 a3 a4 a5 a6 a7 a8 a9 a10 a11 a12 H => B_3_digest_357 k29 (F_3_digest_357 k29 n) a0 a1 a2 a3 a4 a5 a6 a7 a8 a9 a10 a11 a12 H
def B_3_digest_165 (k29 : Nat → Nat → Int32 → Int32 → jH → Option (Unit × jH)) (k165 : Nat → Nat → Int32 → Int32 → Int32 → jH → Option (Unit × jH)) (a0 : Nat) (a1 : Nat) (a2 : Int32) (a3 : Int32) (a4 : Int32) (H : jH) : Option (Unit × jH) :=
(if (64 : Int32) ≤ (a4 : Int32) then
jg ((jK H a0).1 = 3) (
jg ((jK H (jR H a0 2)).1 = 100 ∧ jin (0) (jK H (jR H a0 2)).2) (
jl (jI H (jR H a0 2) (0 : Int32).toNatClampNeg) fun x17 =>
jg ((jK H a0).1 = 3) (
jg ((jK H (jR H a0 2)).1 = 100 ∧ jin (1) (jK H (jR H a0 2)).2) (
jl (jI H (jR H a0 2) (1 : Int32).toNatClampNeg) fun x18 =>
jg ((jK H a0).1 = 3) (
jg ((jK H (jR H a0 2)).1 = 100 ∧ jin (2) (jK H (jR H a0 2)).2) (
jl (jI H (jR H a0 2) (2 : Int32).toNatClampNeg) fun x19 =>
jg ((jK H a0).1 = 3) (
jg ((jK H (jR H a0 2)).1 = 100 ∧ jin (3) (jK H (jR H a0 2)).2) (
jl (jI H (jR H a0 2) (3 : Int32).toNatClampNeg) fun x20 =>
jg ((jK H a0).1 = 3) (
jg ((jK H (jR H a0 2)).1 = 100 ∧ jin (4) (jK H (jR H a0 2)).2) (
jl (jI H (jR H a0 2) (4 : Int32).toNatClampNeg) fun x21 =>
jg ((jK H a0).1 = 3) (
jg ((jK H (jR H a0 2)).1 = 100 ∧ jin (5) (jK H (jR H a0 2)).2) (
jl (jI H (jR H a0 2) (5 : Int32).toNatClampNeg) fun x22 =>
jg ((jK H a0).1 = 3) (
jg ((jK H (jR H a0 2)).1 = 100 ∧ jin (6) (jK H (jR H a0 2)).2) (
jl (jI H (jR H a0 2) (6 : Int32).toNatClampNeg) fun x23 =>
jg ((jK H a0).1 = 3) (
jg ((jK H (jR H a0 2)).1 = 100 ∧ jin (7) (jK H (jR H a0 2)).2) (
jl (jI H (jR H a0 2) (7 : Int32).toNatClampNeg) fun x24 =>
F_3_digest_357 k29 jfuel a0 a1 a2 a3 x17 x18 x19 x20 x21 x22 x23 x24 0 H))))))))))))))))
else
jg ((jK H a0).1 = 3) (
jg ((jK H (jR H a0 3)).1 = 100 ∧ jin ((a4 - 15)) (jK H (jR H a0 3)).2) (
jl (jI H (jR H a0 3) ((a4 - 15) : Int32).toNatClampNeg) fun x25 =>
jg ((jK H a0).1 = 3) (
jg ((jK H (jR H a0 3)).1 = 100 ∧ jin ((a4 - 2)) (jK H (jR H a0 3)).2) (
jl (jI H (jR H a0 3) ((a4 - 2) : Int32).toNatClampNeg) fun x26 =>
jg ((jK H a0).1 = 3) (
jg ((jK H a0).1 = 3) (
jg ((jK H (jR H a0 3)).1 = 100 ∧ jin ((a4 - 16)) (jK H (jR H a0 3)).2) (
jg ((jK H a0).1 = 3) (
jg ((jK H (jR H a0 3)).1 = 100 ∧ jin ((a4 - 7)) (jK H (jR H a0 3)).2) (
jg ((jK H (jR H a0 3)).1 = 100 ∧ jF0 ≤ (jR H a0 3) ∧ jin (a4) (jK H (jR H a0 3)).2) (
jl (jsI H (jR H a0 3) (a4 : Int32).toNatClampNeg ((((jI H (jR H a0 3) ((a4 - 16) : Int32).toNatClampNeg) + (jI H (jR H a0 3) ((a4 - 7) : Int32).toNatClampNeg)) + ((((jushr x25 7) ||| (jshl x25 25)) ^^^ ((jushr x25 18) ||| (jshl x25 14))) ^^^ (jushr x25 3))) + ((((jushr x26 17) ||| (jshl x26 15)) ^^^ ((jushr x26 19) ||| (jshl x26 13))) ^^^ (jushr x26 10)))) fun h27 =>
jl (a4 + 1) fun x28 =>
k165 a0 a1 a2 a3 x28 h27)))))))))))
def F_3_digest_165 (k29 : Nat → Nat → Int32 → Int32 → jH → Option (Unit × jH)) : Nat → Nat → Nat → Int32 → Int32 → Int32 → jH → Option (Unit × jH)
  | 0 => fun _ _ _ _ _ _ => none
  | n + 1 => fun a0 a1 a2 a3 a4 H => B_3_digest_165 k29 (F_3_digest_165 k29 n) a0 a1 a2 a3 a4 H
def B_3_digest_161 (k29 : Nat → Nat → Int32 → Int32 → jH → Option (Unit × jH)) (a0 : Nat) (a1 : Nat) (a2 : Int32) (a3 : Int32) (H : jH) : Option (Unit × jH) :=
F_3_digest_165 k29 jfuel a0 a1 a2 a3 16 H
def B_3_digest_37 (k29 : Nat → Nat → Int32 → Int32 → jH → Option (Unit × jH)) (k37 : Nat → Nat → Int32 → Int32 → Int32 → jH → Option (Unit × jH)) (a0 : Nat) (a1 : Nat) (a2 : Int32) (a3 : Int32) (a4 : Int32) (H : jH) : Option (Unit × jH) :=
(if (16 : Int32) ≤ (a4 : Int32) then
(if ¬ (a3 : Int32) = ((a2 - 1) : Int32) then
B_3_digest_161 k29 a0 a1 a2 a3 H
else
jg ((jK H a0).1 = 3) (
jg ((jK H a0).1 = 3) (
jg ((jK H (jR H a0 3)).1 = 100 ∧ jF0 ≤ (jR H a0 3) ∧ jin (15) (jK H (jR H a0 3)).2) (
jl (jsI H (jR H a0 3) (15 : Int32).toNatClampNeg (8 * (jI H a0 1))) fun h29 =>
B_3_digest_161 k29 a0 a1 a2 a3 h29))))
else
jl ((64 * a3) + (4 * a4)) fun x30 =>
jg ((jK H a0).1 = 3) (
(if ((x30 + 3) : Int32) < (2560 : Int32) then
jg ((jK H a0).1 = 3) (
jg ((jK H (jR H a0 0)).1 = 101 ∧ jin (x30) (jK H (jR H a0 0)).2) (
jg ((jK H a0).1 = 3) (
jg ((jK H (jR H a0 0)).1 = 101 ∧ jin ((x30 + 1)) (jK H (jR H a0 0)).2) (
jg ((jK H a0).1 = 3) (
jg ((jK H (jR H a0 0)).1 = 101 ∧ jin ((x30 + 2)) (jK H (jR H a0 0)).2) (
jg ((jK H a0).1 = 3) (
jg ((jK H (jR H a0 0)).1 = 101 ∧ jin ((x30 + 3)) (jK H (jR H a0 0)).2) (
B_3_digest_133 k37 a0 a1 a2 a3 a4 (jR H a0 3) a4 ((((jshl (jbs (jB H (jR H a0 0) (x30 : Int32).toNatClampNeg)) 24) ||| (jshl ((jbs (jB H (jR H a0 0) ((x30 + 1) : Int32).toNatClampNeg)) &&& 255) 16)) ||| (jshl ((jbs (jB H (jR H a0 0) ((x30 + 2) : Int32).toNatClampNeg)) &&& 255) 8)) ||| ((jbs (jB H (jR H a0 0) ((x30 + 3) : Int32).toNatClampNeg)) &&& 255)) H))))))))
else
B_3_digest_133 k37 a0 a1 a2 a3 a4 (jR H a0 3) a4 0 H)))
def F_3_digest_37 (k29 : Nat → Nat → Int32 → Int32 → jH → Option (Unit × jH)) : Nat → Nat → Nat → Int32 → Int32 → Int32 → jH → Option (Unit × jH)
  | 0 => fun _ _ _ _ _ _ => none
  | n + 1 => fun a0 a1 a2 a3 a4 H => B_3_digest_37 k29 (F_3_digest_37 k29 n) a0 a1 a2 a3 a4 H
def B_3_digest_669   (H : jH) : Option (Unit × jH) :=
some ((), H)
def B_3_digest_629 (k629 : Nat → Nat → Int32 → jH → Option (Unit × jH)) (a0 : Nat) (a1 : Nat) (a3 : Int32) (H : jH) : Option (Unit × jH) :=
(if (32 : Int32) ≤ (a3 : Int32) then
B_3_digest_669 H
else
jg ((jK H a1).1 = 101) (
(if ((Int32.ofNat (jK H a1).2) : Int32) ≤ (a3 : Int32) then
B_3_digest_669 H
else
jg ((jK H a0).1 = 3) (
jg (¬ (4 : Int32) = 0) (
jg ((jK H (jR H a0 2)).1 = 100 ∧ jin ((a3 / 4)) (jK H (jR H a0 2)).2) (
jg (¬ (4 : Int32) = 0) (
jg ((jK H a1).1 = 101 ∧ jin (a3) (jK H a1).2) (
jl (jsB H a1 (a3 : Int32).toNatClampNeg (jbu (ji2b (jushr (jI H (jR H a0 2) ((a3 / 4) : Int32).toNatClampNeg) (24 - (8 * (jrem a3 4))))))) fun h31 =>
jl (a3 + 1) fun x32 =>
k629 a0 a1 x32 h31))))))))
def F_3_digest_629  : Nat → Nat → Nat → Int32 → jH → Option (Unit × jH)
  | 0 => fun _ _ _ _ => none
  | n + 1 => fun a0 a1 a3 H => B_3_digest_629 (F_3_digest_629  n) a0 a1 a3 H
def B_3_digest_29 (k29 : Nat → Nat → Int32 → Int32 → jH → Option (Unit × jH)) (a0 : Nat) (a1 : Nat) (a2 : Int32) (a3 : Int32) (H : jH) : Option (Unit × jH) :=
(if (a2 : Int32) ≤ (a3 : Int32) then
F_3_digest_629 jfuel a0 a1 0 H
else
F_3_digest_37 k29 jfuel a0 a1 a2 a3 0 H)
def F_3_digest_29  : Nat → Nat → Nat → Int32 → Int32 → jH → Option (Unit × jH)
  | 0 => fun _ _ _ _ _ => none
  | n + 1 => fun a0 a1 a2 a3 H => B_3_digest_29 (F_3_digest_29  n) a0 a1 a2 a3 H
def F_3_digest (a0 : Nat) (a1 : Nat) (H : jH) : Option (Unit × jH) :=
jg ((jK H a0).1 = 3) (
jg (jcg H 100 1 (0) (jR H a0 2) (0) (8)) (
jl (jcpI H 1 (0 : Int32).toNatClampNeg (jR H a0 2) (0 : Int32).toNatClampNeg (8 : Int32).toNatClampNeg) fun h33 =>
jg ((jK h33 a0).1 = 3) (
jg (¬ (64 : Int32) = 0) (
jl ((((jI h33 a0 1) + 8) / 64) + 1) fun x34 =>
F_3_digest_29 jfuel a0 a1 x34 0 h33))))
def B_3_take_31   (H : jH) : Option (Unit × jH) :=
some ((), H)
def B_3_take_46 (k46 : Nat → Int32 → Int32 → jH → Option (Unit × jH)) (a0 : Nat) (a3 : Int32) (a4 : Int32) (H : jH) : Option (Unit × jH) :=
(if ((a3 + 72) : Int32) ≤ (a4 : Int32) then
jg ((jK H a0).1 = 3) (
jg ((jK H (jR H a0 0)).1 = 101 ∧ jin (a3) (jK H (jR H a0 0)).2) (
jl (jsB H (jR H a0 0) (a3 : Int32).toNatClampNeg (jbu (-128))) fun h1 =>
jg ((jK h1 a0).1 = 3) (
jl (jsI h1 a0 1 a3) fun h2 =>
some ((), h2))))
else
jg ((jK H a0).1 = 3) (
jg ((jK H (jR H a0 0)).1 = 101 ∧ jin (a4) (jK H (jR H a0 0)).2) (
jl (jsB H (jR H a0 0) (a4 : Int32).toNatClampNeg (jbu 0)) fun h3 =>
jl (a4 + 1) fun x4 =>
k46 a0 a3 x4 h3)))
def F_3_take_46  : Nat → Nat → Int32 → Int32 → jH → Option (Unit × jH)
  | 0 => fun _ _ _ _ => none
  | n + 1 => fun a0 a3 a4 H => B_3_take_46 (F_3_take_46  n) a0 a3 a4 H
def F_3_take (a0 : Nat) (a1 : Nat) (a2 : Int32) (a3 : Int32) (H : jH) : Option (Unit × jH) :=
jg ((jK H a0).1 = 3) (
jl (jsI H a0 1 0) fun h5 =>
(if (a2 : Int32) < 0 then
B_3_take_31 h5
else
(if (a3 : Int32) < 0 then
B_3_take_31 h5
else
(if (2560 : Int32) < ((a3 + 72) : Int32) then
B_3_take_31 h5
else
jg ((jK h5 a1).1 = 101) (
(if ((a2 + a3) : Int32) ≤ ((Int32.ofNat (jK h5 a1).2) : Int32) then
jg ((jK h5 a0).1 = 3) (
jg (jcg h5 101 a1 (a2) (jR h5 a0 0) (0) (a3)) (
jl (jcpB h5 a1 (a2 : Int32).toNatClampNeg (jR h5 a0 0) (0 : Int32).toNatClampNeg (a3 : Int32).toNatClampNeg) fun h6 =>
F_3_take_46 jfuel a0 a3 a3 h6))
else
B_3_take_31 h5))))))
def F_3_name (a0 : Nat) (a1 : Nat) (a2 : Int32) (a3 : Int32) (a4 : Nat) (H : jH) : Option (Unit × jH) :=
jg ((jK H a0).1 = 3) (
jb (F_3_take a0 a1 a2 a3 H) fun x1 h2 =>
jg ((jK h2 a0).1 = 3) (
jg ((jK h2 a0).1 = 3) (
jb (F_3_digest a0 (jR h2 a0 5) h2) fun x3 h4 =>
jg ((jK h4 a0).1 = 3) (
jg ((jK h4 a0).1 = 3) (
jb (F_3_take a0 (jR h4 a0 5) 0 32 h4) fun x5 h6 =>
jg ((jK h6 a0).1 = 3) (
jb (F_3_digest a0 a4 h6) fun x7 h8 =>
some ((), h8)))))))
def B_1_init_122 (k122 : Nat → Nat → Nat → Int32 → jH → Option (Unit × jH)) (a0 : Nat) (a1 : Nat) (a4 : Nat) (a5 : Int32) (H : jH) : Option (Unit × jH) :=
(if (4 : Int32) ≤ (a5 : Int32) then
jnw H 0 9 fun r1 h2 =>
jg (jF0 ≤ r1) (
jb (F_0_init r1 a4 h2) fun x3 h4 =>
jg ((jK h4 r1).1 = 0) (
jg ((jK h4 a1).1 = 3) (
jb (F_3_name a1 a4 1 80 (jR h4 r1 1) h4) fun x5 h6 =>
jg ((jK h6 a0).1 = 1) (
jg ((jK h6 (jR h6 a0 3)).1 = 114 ∧ jin (0) (jK h6 (jR h6 a0 3)).2 ∧ (r1 = 0 ∨ (jK h6 r1).1 = 0)) (
jl (jsR h6 (jR h6 a0 3) (0 : Int32).toNatClampNeg r1) fun h7 =>
jg ((jK h7 a0).1 = 1) (
jg ((jK h7 (jR h7 a0 7)).1 = 114 ∧ jin (0) (jK h7 (jR h7 a0 7)).2 ∧ (r1 = 0 ∨ (jK h7 r1).1 = 0)) (
jl (jsR h7 (jR h7 a0 7) (0 : Int32).toNatClampNeg r1) fun h8 =>
jg ((jK h8 a0).1 = 1) (
jl (jsI h8 a0 4 1) fun h9 =>
jg ((jK h9 a0).1 = 1) (
jl (jsR h9 a0 6 r1) fun h10 =>
some ((), h10))))))))))
else
jg ((jK H a4).1 = 101 ∧ jin ((69 + a5)) (jK H a4).2) (
jl (jsB H a4 ((69 + a5) : Int32).toNatClampNeg (jbu (ji2b (jushr 1000000 (8 * a5))))) fun h11 =>
jg ((jK h11 a4).1 = 101 ∧ jin ((73 + a5)) (jK h11 a4).2) (
jl (jsB h11 a4 ((73 + a5) : Int32).toNatClampNeg (jbu (ji2b (jushr 545259519 (8 * a5))))) fun h12 =>
jl (a5 + 1) fun x13 =>
k122 a0 a1 a4 x13 h12)))
def F_1_init_122  : Nat → Nat → Nat → Nat → Int32 → jH → Option (Unit × jH)
  | 0 => fun _ _ _ _ _ => none
  | n + 1 => fun a0 a1 a4 a5 H => B_1_init_122 (F_1_init_122  n) a0 a1 a4 a5 H
def F_1_init (a0 : Nat) (a1 : Nat) (a2 : Nat) (a3 : Nat) (H : jH) : Option (Unit × jH) :=
jg (jF0 ≤ a0) (
jg (jgn (300)) (
jnw H 114 (300 : Int32).toNatClampNeg fun r14 h15 =>
jg ((jK h15 a0).1 = 1) (
jl (jsR h15 a0 3 r14) fun h16 =>
jg (jgn (300)) (
jnw h16 114 (300 : Int32).toNatClampNeg fun r17 h18 =>
jg ((jK h18 a0).1 = 1) (
jl (jsR h18 a0 7 r17) fun h19 =>
jg (jgn (300)) (
jnw h19 114 (300 : Int32).toNatClampNeg fun r20 h21 =>
jg ((jK h21 a0).1 = 1) (
jl (jsR h21 a0 8 r20) fun h22 =>
jg (jgn (300)) (
jnw h22 114 (300 : Int32).toNatClampNeg fun r23 h24 =>
jg ((jK h24 a0).1 = 1) (
jl (jsR h24 a0 9 r23) fun h25 =>
jg (jgn (9)) (
jnw h25 100 (9 : Int32).toNatClampNeg fun r26 h27 =>
jg ((jK h27 a0).1 = 1) (
jl (jsR h27 a0 11 r26) fun h28 =>
jg (jgn (9)) (
jnw h28 100 (9 : Int32).toNatClampNeg fun r29 h30 =>
jg ((jK h30 a0).1 = 1) (
jl (jsR h30 a0 12 r29) fun h31 =>
jg (jgn (9)) (
jnw h31 100 (9 : Int32).toNatClampNeg fun r32 h33 =>
jg ((jK h33 a0).1 = 1) (
jl (jsR h33 a0 13 r32) fun h34 =>
jg (jgn (11)) (
jnw h34 103 (11 : Int32).toNatClampNeg fun r35 h36 =>
jg ((jK h36 a0).1 = 1) (
jl (jsR h36 a0 14 r35) fun h37 =>
jg (jgn (416)) (
jnw h37 101 (416 : Int32).toNatClampNeg fun r38 h39 =>
jg ((jK h39 a0).1 = 1) (
jl (jsR h39 a0 15 r38) fun h40 =>
jg (jgn (32)) (
jnw h40 101 (32 : Int32).toNatClampNeg fun r41 h42 =>
jg ((jK h42 a0).1 = 1) (
jl (jsR h42 a0 16 r41) fun h43 =>
jg ((jK h43 a0).1 = 1) (
jl (jsR h43 a0 0 a1) fun h44 =>
jg ((jK h44 a0).1 = 1) (
jl (jsR h44 a0 1 a2) fun h45 =>
jg ((jK h45 a0).1 = 1) (
jl (jsR h45 a0 2 a3) fun h46 =>
jg (jgn (82)) (
jnw h46 101 (82 : Int32).toNatClampNeg fun r47 h48 =>
jg ((jK h48 r47).1 = 101 ∧ jin (1) (jK h48 r47).2) (
jl (jsB h48 r47 (1 : Int32).toNatClampNeg (jbu 1)) fun h49 =>
F_1_init_122 jfuel a0 a1 r47 0 h49))))))))))))))))))))))))))
def F_2_init (a0 : Nat) (H : jH) : Option (Unit × jH) :=
jg (jF0 ≤ a0) (
jg (jgn (1500)) (
jnw H 113 (1500 : Int32).toNatClampNeg fun r1 h2 =>
jg ((jK h2 a0).1 = 2) (
jl (jsR h2 a0 0 r1) fun h3 =>
jg (jgn (1500)) (
jnw h3 100 (1500 : Int32).toNatClampNeg fun r4 h5 =>
jg ((jK h5 a0).1 = 2) (
jl (jsR h5 a0 1 r4) fun h6 =>
jg (jgn (1500)) (
jnw h6 100 (1500 : Int32).toNatClampNeg fun r7 h8 =>
jg ((jK h8 a0).1 = 2) (
jl (jsR h8 a0 2 r7) fun h9 =>
jg (jgn (8)) (
jnw h9 113 (8 : Int32).toNatClampNeg fun r10 h11 =>
jg ((jK h11 a0).1 = 2) (
jl (jsR h11 a0 6 r10) fun h12 =>
jg (jgn (8)) (
jnw h12 100 (8 : Int32).toNatClampNeg fun r13 h14 =>
jg ((jK h14 a0).1 = 2) (
jl (jsR h14 a0 7 r13) fun h15 =>
some ((), h15))))))))))))
def F_3_init (a0 : Nat) (H : jH) : Option (Unit × jH) :=
jg (jF0 ≤ a0) (
jg (jgn (2560)) (
jnw H 101 (2560 : Int32).toNatClampNeg fun r1 h2 =>
jg ((jK h2 a0).1 = 3) (
jl (jsR h2 a0 0 r1) fun h3 =>
jg (jgn (8)) (
jnw h3 100 (8 : Int32).toNatClampNeg fun r4 h5 =>
jg ((jK h5 a0).1 = 3) (
jl (jsR h5 a0 2 r4) fun h6 =>
jg (jgn (64)) (
jnw h6 100 (64 : Int32).toNatClampNeg fun r7 h8 =>
jg ((jK h8 a0).1 = 3) (
jl (jsR h8 a0 3 r7) fun h9 =>
jg (jgn (5)) (
jnw h9 100 (5 : Int32).toNatClampNeg fun r10 h11 =>
jg ((jK h11 a0).1 = 3) (
jl (jsR h11 a0 4 r10) fun h12 =>
jg (jgn (32)) (
jnw h12 101 (32 : Int32).toNatClampNeg fun r13 h14 =>
jg ((jK h14 a0).1 = 3) (
jl (jsR h14 a0 5 r13) fun h15 =>
some ((), h15))))))))))))
def F_6_init (a0 : Nat) (a1 : Nat) (a2 : Nat) (H : jH) : Option (Unit × jH) :=
jg (jF0 ≤ a0) (
jg (jgn (41)) (
jnw H 113 (41 : Int32).toNatClampNeg fun r1 h2 =>
jg ((jK h2 a0).1 = 6) (
jl (jsR h2 a0 2 r1) fun h3 =>
jg (jgn (41)) (
jnw h3 103 (41 : Int32).toNatClampNeg fun r4 h5 =>
jg ((jK h5 a0).1 = 6) (
jl (jsR h5 a0 3 r4) fun h6 =>
jg (jgn (41)) (
jnw h6 113 (41 : Int32).toNatClampNeg fun r7 h8 =>
jg ((jK h8 a0).1 = 6) (
jl (jsR h8 a0 5 r7) fun h9 =>
jg (jgn (41)) (
jnw h9 102 (41 : Int32).toNatClampNeg fun r10 h11 =>
jg ((jK h11 a0).1 = 6) (
jl (jsR h11 a0 6 r10) fun h12 =>
jg (jgn (8)) (
jnw h12 113 (8 : Int32).toNatClampNeg fun r13 h14 =>
jg ((jK h14 a0).1 = 6) (
jl (jsR h14 a0 7 r13) fun h15 =>
jg (jgn (8)) (
jnw h15 100 (8 : Int32).toNatClampNeg fun r16 h17 =>
jg ((jK h17 a0).1 = 6) (
jl (jsR h17 a0 8 r16) fun h18 =>
jg ((jK h18 a0).1 = 6) (
jl (jsR h18 a0 0 a1) fun h19 =>
jg ((jK h19 a0).1 = 6) (
jl (jsR h19 a0 1 a2) fun h20 =>
some ((), h20))))))))))))))))
def F_9_init (a0 : Nat) (H : jH) : Option (Unit × jH) :=
jg (jF0 ≤ a0) (
jg (jgn (70) ∧ jgn (120)) (
jnm H 110 101 (70 : Int32).toNatClampNeg (120 : Int32).toNatClampNeg fun r1 h2 =>
jg ((jK h2 a0).1 = 9) (
jl (jsR h2 a0 0 r1) fun h3 =>
jg (jgn (70)) (
jnw h3 100 (70 : Int32).toNatClampNeg fun r4 h5 =>
jg ((jK h5 a0).1 = 9) (
jl (jsR h5 a0 1 r4) fun h6 =>
some ((), h6))))))
def F_4_init (a0 : Nat) (a1 : Nat) (H : jH) : Option (Unit × jH) :=
jg (jF0 ≤ a0) (
jnw H 9 3 fun r1 h2 =>
jg (jF0 ≤ r1) (
jb (F_9_init r1 h2) fun x3 h4 =>
jg ((jK h4 a0).1 = 4) (
jl (jsR h4 a0 1 r1) fun h5 =>
jnw h5 9 3 fun r6 h7 =>
jg (jF0 ≤ r6) (
jb (F_9_init r6 h7) fun x8 h9 =>
jg ((jK h9 a0).1 = 4) (
jl (jsR h9 a0 2 r6) fun h10 =>
jnw h10 9 3 fun r11 h12 =>
jg (jF0 ≤ r11) (
jb (F_9_init r11 h12) fun x13 h14 =>
jg ((jK h14 a0).1 = 4) (
jl (jsR h14 a0 3 r11) fun h15 =>
jg (jgn (32)) (
jnw h15 101 (32 : Int32).toNatClampNeg fun r16 h17 =>
jg ((jK h17 a0).1 = 4) (
jl (jsR h17 a0 4 r16) fun h18 =>
jg ((jK h18 a0).1 = 4) (
jg ((jK h18 a0).1 = 4) (
jl (jsR h18 a0 5 (jR h18 a0 4)) fun h19 =>
jg (jgn (200)) (
jnw h19 102 (200 : Int32).toNatClampNeg fun r20 h21 =>
jg ((jK h21 a0).1 = 4) (
jl (jsR h21 a0 11 r20) fun h22 =>
jg ((jK h22 a0).1 = 4) (
jl (jsR h22 a0 0 a1) fun h23 =>
some ((), h23)))))))))))))))
def F_5_init (a0 : Nat) (H : jH) : Option (Unit × jH) :=
jg (jF0 ≤ a0) (
jg (jgn (10)) (
jnw H 103 (10 : Int32).toNatClampNeg fun r1 h2 =>
jg ((jK h2 a0).1 = 5) (
jl (jsR h2 a0 0 r1) fun h3 =>
jg (jgn (10)) (
jnw h3 103 (10 : Int32).toNatClampNeg fun r4 h5 =>
jg ((jK h5 a0).1 = 5) (
jl (jsR h5 a0 1 r4) fun h6 =>
jg (jgn (10)) (
jnw h6 103 (10 : Int32).toNatClampNeg fun r7 h8 =>
jg ((jK h8 a0).1 = 5) (
jl (jsR h8 a0 2 r7) fun h9 =>
jg ((jK h9 a0).1 = 5 ∧ ((1 : Int32) = 0 ∨ (1 : Int32) = 1)) (
jl (jsI h9 a0 3 1) fun h10 =>
some ((), h10)))))))))
def B_8_init_144 (k144 : Nat → Int32 → jH → Option (Unit × jH)) (a0 : Nat) (a1 : Int32) (H : jH) : Option (Unit × jH) :=
(if (8 : Int32) ≤ (a1 : Int32) then
some ((), H)
else
jg ((jK H a0).1 = 8) (
jnw H 5 4 fun r1 h2 =>
jg (jF0 ≤ r1) (
jb (F_5_init r1 h2) fun x3 h4 =>
jg ((jK h4 (jR H a0 12)).1 = 115 ∧ jin (a1) (jK h4 (jR H a0 12)).2 ∧ (r1 = 0 ∨ (jK h4 r1).1 = 5)) (
jl (jsR h4 (jR H a0 12) (a1 : Int32).toNatClampNeg r1) fun h5 =>
jg ((jK h5 a0).1 = 8) (
jnw h5 5 4 fun r6 h7 =>
jg (jF0 ≤ r6) (
jb (F_5_init r6 h7) fun x8 h9 =>
jg ((jK h9 (jR h5 a0 13)).1 = 115 ∧ jin (a1) (jK h9 (jR h5 a0 13)).2 ∧ (r6 = 0 ∨ (jK h9 r6).1 = 5)) (
jl (jsR h9 (jR h5 a0 13) (a1 : Int32).toNatClampNeg r6) fun h10 =>
jl (a1 + 1) fun x11 =>
k144 a0 x11 h10)))))))
def F_8_init_144  : Nat → Nat → Int32 → jH → Option (Unit × jH)
  | 0 => fun _ _ _ => none
  | n + 1 => fun a0 a1 H => B_8_init_144 (F_8_init_144  n) a0 a1 H
def F_8_init (a0 : Nat) (H : jH) : Option (Unit × jH) :=
jg (jF0 ≤ a0) (
jg (jgn (8)) (
jnw H 100 (8 : Int32).toNatClampNeg fun r12 h13 =>
jg ((jK h13 a0).1 = 8) (
jl (jsR h13 a0 1 r12) fun h14 =>
jg (jgn (8)) (
jnw h14 100 (8 : Int32).toNatClampNeg fun r15 h16 =>
jg ((jK h16 a0).1 = 8) (
jl (jsR h16 a0 2 r15) fun h17 =>
jg (jgn (8)) (
jnw h17 100 (8 : Int32).toNatClampNeg fun r18 h19 =>
jg ((jK h19 a0).1 = 8) (
jl (jsR h19 a0 3 r18) fun h20 =>
jg (jgn (8)) (
jnw h20 100 (8 : Int32).toNatClampNeg fun r21 h22 =>
jg ((jK h22 a0).1 = 8) (
jl (jsR h22 a0 4 r21) fun h23 =>
jg (jgn (8)) (
jnw h23 100 (8 : Int32).toNatClampNeg fun r24 h25 =>
jg ((jK h25 a0).1 = 8) (
jl (jsR h25 a0 5 r24) fun h26 =>
jg (jgn (16)) (
jnw h26 100 (16 : Int32).toNatClampNeg fun r27 h28 =>
jg ((jK h28 a0).1 = 8) (
jl (jsR h28 a0 6 r27) fun h29 =>
jg (jgn (8)) (
jnw h29 100 (8 : Int32).toNatClampNeg fun r30 h31 =>
jg ((jK h31 a0).1 = 8) (
jl (jsR h31 a0 7 r30) fun h32 =>
jg (jgn (16) ∧ jgn (8)) (
jnm h32 111 100 (16 : Int32).toNatClampNeg (8 : Int32).toNatClampNeg fun r33 h34 =>
jg ((jK h34 a0).1 = 8) (
jl (jsR h34 a0 8 r33) fun h35 =>
jg (jgn (16) ∧ jgn (10)) (
jnm h35 112 103 (16 : Int32).toNatClampNeg (10 : Int32).toNatClampNeg fun r36 h37 =>
jg ((jK h37 a0).1 = 8) (
jl (jsR h37 a0 9 r36) fun h38 =>
jg (jgn (257)) (
jnw h38 100 (257 : Int32).toNatClampNeg fun r39 h40 =>
jg ((jK h40 a0).1 = 8) (
jl (jsR h40 a0 10 r39) fun h41 =>
jg (jgn (257)) (
jnw h41 100 (257 : Int32).toNatClampNeg fun r42 h43 =>
jg ((jK h43 a0).1 = 8) (
jl (jsR h43 a0 11 r42) fun h44 =>
jg (jgn (8)) (
jnw h44 115 (8 : Int32).toNatClampNeg fun r45 h46 =>
jg ((jK h46 a0).1 = 8) (
jl (jsR h46 a0 12 r45) fun h47 =>
jg (jgn (8)) (
jnw h47 115 (8 : Int32).toNatClampNeg fun r48 h49 =>
jg ((jK h49 a0).1 = 8) (
jl (jsR h49 a0 13 r48) fun h50 =>
jnw h50 5 4 fun r51 h52 =>
jg (jF0 ≤ r51) (
jb (F_5_init r51 h52) fun x53 h54 =>
jg ((jK h54 a0).1 = 8) (
jl (jsR h54 a0 14 r51) fun h55 =>
jnw h55 5 4 fun r56 h57 =>
jg (jF0 ≤ r56) (
jb (F_5_init r56 h57) fun x58 h59 =>
jg ((jK h59 a0).1 = 8) (
jl (jsR h59 a0 15 r56) fun h60 =>
F_8_init_144 jfuel a0 0 h60)))))))))))))))))))))))))))))))
def F_7_init (a0 : Nat) (a1 : Nat) (H : jH) : Option (Unit × jH) :=
jg (jF0 ≤ a0) (
jnw H 8 17 fun r1 h2 =>
jg (jF0 ≤ r1) (
jb (F_8_init r1 h2) fun x3 h4 =>
jg ((jK h4 a0).1 = 7) (
jl (jsR h4 a0 2 r1) fun h5 =>
jg (jgn (2400)) (
jnw h5 101 (2400 : Int32).toNatClampNeg fun r6 h7 =>
jg ((jK h7 a0).1 = 7) (
jl (jsR h7 a0 3 r6) fun h8 =>
jg (jgn (32)) (
jnw h8 101 (32 : Int32).toNatClampNeg fun r9 h10 =>
jg ((jK h10 a0).1 = 7) (
jl (jsR h10 a0 5 r9) fun h11 =>
jg ((jK h11 a0).1 = 7) (
jl (jsR h11 a0 0 a1) fun h12 =>
jnw h12 4 20 fun r13 h14 =>
jg (jF0 ≤ r13) (
jb (F_4_init r13 a1 h14) fun x15 h16 =>
jg ((jK h16 a0).1 = 7) (
jl (jsR h16 a0 1 r13) fun h17 =>
some ((), h17)))))))))))
def F_11_init (a0 : Nat) (H : jH) : Option (Unit × jH) :=
jg (jF0 ≤ a0) (
jg (jgn (2000)) (
jnw H 101 (2000 : Int32).toNatClampNeg fun r1 h2 =>
jg ((jK h2 a0).1 = 11) (
jl (jsR h2 a0 0 r1) fun h3 =>
jg (jgn (32)) (
jnw h3 101 (32 : Int32).toNatClampNeg fun r4 h5 =>
jg ((jK h5 a0).1 = 11) (
jl (jsR h5 a0 2 r4) fun h6 =>
jg (jgn (4) ∧ jgn (8000)) (
jnm h6 110 101 (4 : Int32).toNatClampNeg (8000 : Int32).toNatClampNeg fun r7 h8 =>
jg ((jK h8 a0).1 = 11) (
jl (jsR h8 a0 4 r7) fun h9 =>
jg (jgn (4)) (
jnw h9 100 (4 : Int32).toNatClampNeg fun r10 h11 =>
jg ((jK h11 a0).1 = 11) (
jl (jsR h11 a0 5 r10) fun h12 =>
jg (jgn (4)) (
jnw h12 100 (4 : Int32).toNatClampNeg fun r13 h14 =>
jg ((jK h14 a0).1 = 11) (
jl (jsR h14 a0 6 r13) fun h15 =>
jg (jgn (2000)) (
jnw h15 101 (2000 : Int32).toNatClampNeg fun r16 h17 =>
jg ((jK h17 a0).1 = 11) (
jl (jsR h17 a0 7 r16) fun h18 =>
jnw h18 3 6 fun r19 h20 =>
jg (jF0 ≤ r19) (
jb (F_3_init r19 h20) fun x21 h22 =>
jg ((jK h22 a0).1 = 11) (
jl (jsR h22 a0 9 r19) fun h23 =>
jnw h23 7 8 fun r24 h25 =>
jg ((jK h25 a0).1 = 11) (
jg (jF0 ≤ r24) (
jb (F_7_init r24 (jR h25 a0 9) h25) fun x26 h27 =>
jg ((jK h27 a0).1 = 11) (
jl (jsR h27 a0 10 r24) fun h28 =>
jnw h28 2 9 fun r29 h30 =>
jg (jF0 ≤ r29) (
jb (F_2_init r29 h30) fun x31 h32 =>
jg ((jK h32 a0).1 = 11) (
jl (jsR h32 a0 11 r29) fun h33 =>
jnw h33 1 17 fun r34 h35 =>
jg ((jK h35 a0).1 = 11) (
jg ((jK h35 a0).1 = 11) (
jg ((jK h35 a0).1 = 11) (
jg (jF0 ≤ r34) (
jb (F_1_init r34 (jR h35 a0 9) (jR h35 a0 11) (jR h35 a0 10) h35) fun x36 h37 =>
jg ((jK h37 a0).1 = 11) (
jl (jsR h37 a0 12 r34) fun h38 =>
jnw h38 6 10 fun r39 h40 =>
jg ((jK h40 a0).1 = 11) (
jg ((jK h40 a0).1 = 11) (
jg (jF0 ≤ r39) (
jb (F_6_init r39 (jR h40 a0 11) (jR h40 a0 10) h40) fun x41 h42 =>
jg ((jK h42 a0).1 = 11) (
jl (jsR h42 a0 13 r39) fun h43 =>
some ((), h43))))))))))))))))))))))))))))))
def B_11_layOnTape_42 (k3 : Nat → Int32 → Int32 → jH → Option (Unit × jH)) (a0 : Nat) (a1 : Int32) (a2 : Int32) (H : jH) : Option (Unit × jH) :=
jl (a2 + (-8)) fun x1 =>
k3 a0 a1 x1 H
def B_11_layOnTape_3 (k3 : Nat → Int32 → Int32 → jH → Option (Unit × jH)) (a0 : Nat) (a1 : Int32) (a2 : Int32) (H : jH) : Option (Unit × jH) :=
(if (a2 : Int32) < 0 then
some ((), H)
else
jg ((jK H a0).1 = 11) (
jg ((jK H a0).1 = 11) (
jg ((jK H (jR H a0 0)).1 = 101) (
(if ((Int32.ofNat (jK H (jR H a0 0)).2) : Int32) ≤ ((jI H a0 1) : Int32) then
B_11_layOnTape_42 k3 a0 a1 a2 H
else
jg ((jK H a0).1 = 11) (
jg ((jK H a0).1 = 11) (
jg ((jK H (jR H a0 0)).1 = 101 ∧ jin ((jI H a0 1)) (jK H (jR H a0 0)).2) (
jl (jsB H (jR H a0 0) ((jI H a0 1) : Int32).toNatClampNeg (jbu (ji2b (jushr a1 a2)))) fun h2 =>
jg ((jK h2 a0).1 = 11) (
jg ((jK h2 a0).1 = 11) (
jl (jsI h2 a0 1 ((jI h2 a0 1) + 1)) fun h3 =>
B_11_layOnTape_42 k3 a0 a1 a2 h3))))))))))
def F_11_layOnTape_3  : Nat → Nat → Int32 → Int32 → jH → Option (Unit × jH)
  | 0 => fun _ _ _ _ => none
  | n + 1 => fun a0 a1 a2 H => B_11_layOnTape_3 (F_11_layOnTape_3  n) a0 a1 a2 H
def F_11_layOnTape (a0 : Nat) (a1 : Int32) (H : jH) : Option (Unit × jH) :=
F_11_layOnTape_3 jfuel a0 a1 24 H
def F_11_feed (a0 : Nat) (a1 : Int32) (a2 : Int32) (a3 : Int32) (a4 : Int32) (a5 : Int32) (H : jH) : Option (Int32 × jH) :=
jg ((jK H a0).1 = 11) (
(if (((jI H a0 1) + 20) : Int32) ≤ (2000 : Int32) then
jg ((jK H a0).1 = 11) (
jb (F_11_layOnTape a0 a1 H) fun x1 h2 =>
jg ((jK h2 a0).1 = 11) (
jb (F_11_layOnTape a0 a2 h2) fun x3 h4 =>
jg ((jK h4 a0).1 = 11) (
jb (F_11_layOnTape a0 a3 h4) fun x5 h6 =>
jg ((jK h6 a0).1 = 11) (
jb (F_11_layOnTape a0 a4 h6) fun x7 h8 =>
jg ((jK h8 a0).1 = 11) (
jb (F_11_layOnTape a0 a5 h8) fun x9 h10 =>
jg ((1 : Int32) = 0 ∨ (1 : Int32) = 1) (some (1, h10)))))))
else
jg ((0 : Int32) = 0 ∨ (0 : Int32) = 1) (some (0, H))))
def F_11_begin (a0 : Nat) (a1 : Int32) (H : jH) : Option (Unit × jH) :=
jg ((jK H a0).1 = 11) (
jg ((jK H (jR H a0 7)).1 = 101 ∧ jin (0) (jK H (jR H a0 7)).2) (
jl (jsB H (jR H a0 7) (0 : Int32).toNatClampNeg (jbu (ji2b a1))) fun h1 =>
jg ((jK h1 a0).1 = 11) (
jl (jsI h1 a0 8 1) fun h2 =>
some ((), h2))))
def B_11_post_28   (H : jH) : Option (Unit × jH) :=
some ((), H)
def B_11_post_88 (k46 : Nat → Int32 → Int32 → Int32 → jH → Option (Unit × jH)) (a0 : Nat) (a1 : Int32) (a2 : Int32) (a3 : Int32) (s0 : Int32) (H : jH) : Option (Unit × jH) :=
jg ((jK H a0).1 = 11) (
jg ((jK H (jR H a0 4)).1 = 110 ∧ jin (a1) (jK H (jR H a0 4)).2) (
jg (¬ (8000 : Int32) = 0) (
jg ((jK H (jR H (jR H a0 4) (a1 : Int32).toNatClampNeg)).1 = 101 ∧ jin ((jrem ((a2 + 2) + a3) 8000)) (jK H (jR H (jR H a0 4) (a1 : Int32).toNatClampNeg)).2) (
jl (jsB H (jR H (jR H a0 4) (a1 : Int32).toNatClampNeg) ((jrem ((a2 + 2) + a3) 8000) : Int32).toNatClampNeg (jbu (ji2b s0))) fun h1 =>
jl (a3 + 1) fun x2 =>
k46 a0 a1 a2 x2 h1))))
def B_11_post_46 (k46 : Nat → Int32 → Int32 → Int32 → jH → Option (Unit × jH)) (a0 : Nat) (a1 : Int32) (a2 : Int32) (a3 : Int32) (H : jH) : Option (Unit × jH) :=
jg ((jK H a0).1 = 11) (
(if ((jI H a0 8) : Int32) ≤ (a3 : Int32) then
jg ((jK H a0).1 = 11) (
jg ((jK H (jR H a0 6)).1 = 100 ∧ jin (a1) (jK H (jR H a0 6)).2) (
jg ((jK H a0).1 = 11) (
jg ((jK H (jR H a0 6)).1 = 100 ∧ jF0 ≤ (jR H a0 6) ∧ jin (a1) (jK H (jR H a0 6)).2) (
jl (jsI H (jR H a0 6) (a1 : Int32).toNatClampNeg ((jI H (jR H a0 6) (a1 : Int32).toNatClampNeg) + (2 + (jI H a0 8)))) fun h3 =>
some ((), h3)))))
else
(if ¬ (a3 : Int32) = ((-2) : Int32) then
(if ¬ (a3 : Int32) = ((-1) : Int32) then
jg ((jK H a0).1 = 11) (
jg ((jK H (jR H a0 7)).1 = 101 ∧ jin (a3) (jK H (jR H a0 7)).2) (
B_11_post_88 k46 a0 a1 a2 a3 (jbs (jB H (jR H a0 7) (a3 : Int32).toNatClampNeg)) H))
else
jg ((jK H a0).1 = 11) (
B_11_post_88 k46 a0 a1 a2 a3 (jI H a0 8) H))
else
jg ((jK H a0).1 = 11) (
B_11_post_88 k46 a0 a1 a2 a3 (jshr (jI H a0 8) 8) H))))
def F_11_post_46  : Nat → Nat → Int32 → Int32 → Int32 → jH → Option (Unit × jH)
  | 0 => fun _ _ _ _ _ => none
  | n + 1 => fun a0 a1 a2 a3 H => B_11_post_46 (F_11_post_46  n) a0 a1 a2 a3 H
def F_11_post (a0 : Nat) (a1 : Int32) (H : jH) : Option (Unit × jH) :=
(if (a1 : Int32) < 0 then
B_11_post_28 H
else
(if (4 : Int32) ≤ (a1 : Int32) then
B_11_post_28 H
else
jg ((jK H a0).1 = 11) (
jg ((jK H (jR H a0 6)).1 = 100 ∧ jin (a1) (jK H (jR H a0 6)).2) (
jg ((jK H a0).1 = 11) (
(if ((((jI H (jR H a0 6) (a1 : Int32).toNatClampNeg) + 2) + (jI H a0 8)) : Int32) ≤ (8000 : Int32) then
jg ((jK H a0).1 = 11) (
jg ((jK H (jR H a0 5)).1 = 100 ∧ jin (a1) (jK H (jR H a0 5)).2) (
jg ((jK H a0).1 = 11) (
jg ((jK H (jR H a0 6)).1 = 100 ∧ jin (a1) (jK H (jR H a0 6)).2) (
jl ((jI H (jR H a0 5) (a1 : Int32).toNatClampNeg) + (jI H (jR H a0 6) (a1 : Int32).toNatClampNeg)) fun x4 =>
F_11_post_46 jfuel a0 a1 x4 (-2) H))))
else
B_11_post_28 H))))))
def B_11_put_33   (H : jH) : Option (Unit × jH) :=
some ((), H)
def F_11_put (a0 : Nat) (a1 : Int32) (H : jH) : Option (Unit × jH) :=
jg ((jK H a0).1 = 11) (
jg ((jK H a0).1 = 11) (
jg ((jK H (jR H a0 7)).1 = 101) (
(if ((Int32.ofNat (jK H (jR H a0 7)).2) : Int32) ≤ ((jI H a0 8) : Int32) then
B_11_put_33 H
else
jg ((jK H a0).1 = 11) (
jg ((jK H a0).1 = 11) (
jg ((jK H (jR H a0 7)).1 = 101 ∧ jin ((jI H a0 8)) (jK H (jR H a0 7)).2) (
jl (jsB H (jR H a0 7) ((jI H a0 8) : Int32).toNatClampNeg (jbu (ji2b a1))) fun h1 =>
jg ((jK h1 a0).1 = 11) (
jg ((jK h1 a0).1 = 11) (
jl (jsI h1 a0 8 ((jI h1 a0 8) + 1)) fun h2 =>
B_11_put_33 h2)))))))))
def B_11_answerVerdict_41 (k14 : Nat → Int32 → Nat → Int32 → jH → Option (Unit × jH)) (a0 : Nat) (a1 : Int32) (a3 : Nat) (a4 : Int32) (s0 : Nat) (s1 : Int32) (H : jH) : Option (Unit × jH) :=
jg ((jK H s0).1 = 11) (
jb (F_11_put s0 s1 H) fun x1 h2 =>
jl (a4 + 1) fun x3 =>
k14 a0 a1 a3 x3 h2)
def B_11_answerVerdict_33 (k14 : Nat → Int32 → Nat → Int32 → jH → Option (Unit × jH)) (a0 : Nat) (a1 : Int32) (a3 : Nat) (a4 : Int32) (s0 : Nat) (H : jH) : Option (Unit × jH) :=
B_11_answerVerdict_41 k14 a0 a1 a3 a4 s0 0 H
def B_11_answerVerdict_14 (k14 : Nat → Int32 → Nat → Int32 → jH → Option (Unit × jH)) (a0 : Nat) (a1 : Int32) (a3 : Nat) (a4 : Int32) (H : jH) : Option (Unit × jH) :=
(if (32 : Int32) ≤ (a4 : Int32) then
jg ((jK H a0).1 = 11) (
jb (F_11_post a0 a1 H) fun x4 h5 =>
some ((), h5))
else
(if a3 = 0 then
B_11_answerVerdict_33 k14 a0 a1 a3 a4 a0 H
else
jg ((jK H a3).1 = 101) (
(if (a4 : Int32) < ((Int32.ofNat (jK H a3).2) : Int32) then
jg ((jK H a3).1 = 101 ∧ jin (a4) (jK H a3).2) (
B_11_answerVerdict_41 k14 a0 a1 a3 a4 a0 (jbs (jB H a3 (a4 : Int32).toNatClampNeg)) H)
else
B_11_answerVerdict_33 k14 a0 a1 a3 a4 a0 H))))
def F_11_answerVerdict_14  : Nat → Nat → Int32 → Nat → Int32 → jH → Option (Unit × jH)
  | 0 => fun _ _ _ _ _ => none
  | n + 1 => fun a0 a1 a3 a4 H => B_11_answerVerdict_14 (F_11_answerVerdict_14  n) a0 a1 a3 a4 H
def F_11_answerVerdict (a0 : Nat) (a1 : Int32) (a2 : Int32) (a3 : Nat) (H : jH) : Option (Unit × jH) :=
jg ((jK H a0).1 = 11) (
jb (F_11_begin a0 8 H) fun x6 h7 =>
jg ((jK h7 a0).1 = 11) (
jb (F_11_put a0 a2 h7) fun x8 h9 =>
F_11_answerVerdict_14 jfuel a0 a1 a3 0 h9))
def B_11_put_2_30   (H : jH) : Option (Unit × jH) :=
some ((), H)
def F_11_put_2 (a0 : Nat) (a1 : Nat) (a2 : Int32) (a3 : Int32) (H : jH) : Option (Unit × jH) :=
(if (a2 : Int32) < 0 then
B_11_put_2_30 H
else
(if (a3 : Int32) < 0 then
B_11_put_2_30 H
else
jg ((jK H a1).1 = 101) (
(if ((Int32.ofNat (jK H a1).2) : Int32) < ((a2 + a3) : Int32) then
B_11_put_2_30 H
else
jg ((jK H a0).1 = 11) (
jg ((jK H a0).1 = 11) (
jg ((jK H (jR H a0 7)).1 = 101) (
(if (((jI H a0 8) + a3) : Int32) ≤ ((Int32.ofNat (jK H (jR H a0 7)).2) : Int32) then
jg ((jK H a0).1 = 11) (
jg ((jK H a0).1 = 11) (
jg (jcg H 101 a1 (a2) (jR H a0 7) ((jI H a0 8)) (a3)) (
jl (jcpB H a1 (a2 : Int32).toNatClampNeg (jR H a0 7) ((jI H a0 8) : Int32).toNatClampNeg (a3 : Int32).toNatClampNeg) fun h1 =>
jg ((jK h1 a0).1 = 11) (
jg ((jK h1 a0).1 = 11) (
jl (jsI h1 a0 8 ((jI h1 a0 8) + a3)) fun h2 =>
some ((), h2))))))
else
B_11_put_2_30 H))))))))
def B_1_at_32  (s0 : Nat) (H : jH) : Option (Nat × jH) :=
some (s0, H)
def B_1_at_22   (H : jH) : Option (Nat × jH) :=
B_1_at_32 0 H
def F_1_at (a0 : Nat) (a1 : Int32) (H : jH) : Option (Nat × jH) :=
(if (a1 : Int32) < 0 then
B_1_at_22 H
else
jg ((jK H a0).1 = 1) (
jg ((jK H (jR H a0 6)).1 = 0) (
(if ((jI H (jR H a0 6) 6) : Int32) < (a1 : Int32) then
B_1_at_22 H
else
(if (a1 : Int32) < (300 : Int32) then
jg ((jK H a0).1 = 1) (
jg ((jK H (jR H a0 7)).1 = 114 ∧ jin (a1) (jK H (jR H a0 7)).2) (
B_1_at_32 (jR H (jR H a0 7) (a1 : Int32).toNatClampNeg) H))
else
B_1_at_22 H)))))
def B_11_askWhatIsBehind_87 (k29 : Nat → Int32 → Int32 → Int32 → Int32 → Int32 → jH → Option (Unit × jH)) (a0 : Nat) (a1 : Int32) (a2 : Int32) (a3 : Int32) (a4 : Int32) (a5 : Int32) (H : jH) : Option (Unit × jH) :=
jl (jmaxI 0 (a2 - a3)) fun x1 =>
jl (a5 + 1) fun x2 =>
k29 a0 a1 x1 a3 a4 x2 H
def B_11_askWhatIsBehind_101  (a0 : Nat) (a1 : Int32) (a4 : Int32) (H : jH) : Option (Unit × jH) :=
jg ((jK H a0).1 = 11) (
jg ((jK H (jR H a0 7)).1 = 101 ∧ jin (1) (jK H (jR H a0 7)).2) (
jl (jsB H (jR H a0 7) (1 : Int32).toNatClampNeg (jbu (ji2b a4))) fun h3 =>
jg ((jK h3 a0).1 = 11) (
jb (F_11_post a0 a1 h3) fun x4 h5 =>
some ((), h5))))
def B_11_askWhatIsBehind_29 (k29 : Nat → Int32 → Int32 → Int32 → Int32 → Int32 → jH → Option (Unit × jH)) (a0 : Nat) (a1 : Int32) (a2 : Int32) (a3 : Int32) (a4 : Int32) (a5 : Int32) (H : jH) : Option (Unit × jH) :=
(if (20 : Int32) ≤ (a5 : Int32) then
B_11_askWhatIsBehind_101 a0 a1 a4 H
else
jg ((jK H a0).1 = 11) (
jg ((jK H (jR H a0 12)).1 = 1) (
jb (F_1_at (jR H a0 12) a2 H) fun x6 h7 =>
(if ¬ x6 = 0 then
jg ((jK h7 x6).1 = 0) (
jg ((jK h7 a0).1 = 11) (
jb (F_11_put_2 a0 (jR h7 x6 1) 0 32 h7) fun x8 h9 =>
jl (a4 + 1) fun x10 =>
(if ¬ (a2 : Int32) = 0 then
(if (x10 : Int32) ≤ (9 : Int32) then
B_11_askWhatIsBehind_87 k29 a0 a1 a2 a3 x10 a5 h9
else
jl (a3 * 2) fun x11 =>
B_11_askWhatIsBehind_87 k29 a0 a1 a2 x11 x10 a5 h9)
else
B_11_askWhatIsBehind_101 a0 a1 x10 h9)))
else
B_11_askWhatIsBehind_101 a0 a1 a4 h7))))
def F_11_askWhatIsBehind_29  : Nat → Nat → Int32 → Int32 → Int32 → Int32 → Int32 → jH → Option (Unit × jH)
  | 0 => fun _ _ _ _ _ _ _ => none
  | n + 1 => fun a0 a1 a2 a3 a4 a5 H => B_11_askWhatIsBehind_29 (F_11_askWhatIsBehind_29  n) a0 a1 a2 a3 a4 a5 H
def F_11_askWhatIsBehind (a0 : Nat) (a1 : Int32) (H : jH) : Option (Unit × jH) :=
jg ((jK H a0).1 = 11) (
jb (F_11_begin a0 3 H) fun x12 h13 =>
jg ((jK h13 a0).1 = 11) (
jb (F_11_put a0 0 h13) fun x14 h15 =>
jg ((jK h15 a0).1 = 11) (
jg ((jK h15 (jR h15 a0 12)).1 = 1) (
jg ((jK h15 (jR h15 (jR h15 a0 12) 6)).1 = 0) (
jl (jI h15 (jR h15 (jR h15 a0 12) 6) 6) fun x16 =>
F_11_askWhatIsBehind_29 jfuel a0 a1 x16 1 0 0 h15)))))
def B_11_tellOthers_45 (k27 : Nat → Int32 → Int32 → jH → Option (Unit × jH)) (a0 : Nat) (a1 : Int32) (a4 : Int32) (H : jH) : Option (Unit × jH) :=
jl (a4 + 1) fun x1 =>
k27 a0 a1 x1 H
def B_11_tellOthers_27 (k27 : Nat → Int32 → Int32 → jH → Option (Unit × jH)) (a0 : Nat) (a1 : Int32) (a4 : Int32) (H : jH) : Option (Unit × jH) :=
(if (4 : Int32) ≤ (a4 : Int32) then
some ((), H)
else
(if (a4 : Int32) = (a1 : Int32) then
B_11_tellOthers_45 k27 a0 a1 a4 H
else
jg ((jK H a0).1 = 11) (
jb (F_11_post a0 a4 H) fun x2 h3 =>
B_11_tellOthers_45 k27 a0 a1 a4 h3)))
def F_11_tellOthers_27  : Nat → Nat → Int32 → Int32 → jH → Option (Unit × jH)
  | 0 => fun _ _ _ _ => none
  | n + 1 => fun a0 a1 a4 H => B_11_tellOthers_27 (F_11_tellOthers_27  n) a0 a1 a4 H
def F_11_tellOthers (a0 : Nat) (a1 : Int32) (a2 : Int32) (a3 : Nat) (H : jH) : Option (Unit × jH) :=
jg ((jK H a0).1 = 11) (
jb (F_11_begin a0 6 H) fun x4 h5 =>
jg ((jK h5 a0).1 = 11) (
jb (F_11_put a0 1 h5) fun x6 h7 =>
jg ((jK h7 a0).1 = 11) (
jb (F_11_put a0 a2 h7) fun x8 h9 =>
jg ((jK h9 a0).1 = 11) (
jb (F_11_put_2 a0 a3 0 32 h9) fun x10 h11 =>
F_11_tellOthers_27 jfuel a0 a1 0 h11))))
def B_11_answerBlock_55   (H : jH) : Option (Unit × jH) :=
some ((), H)
def B_11_answerBlock_31  (a0 : Nat) (a1 : Int32) (a4 : Int32) (s0 : Nat) (s1 : Int32) (s2 : Int32) (s3 : Nat) (H : jH) : Option (Unit × jH) :=
jg ((jK H s0).1 = 11) (
jb (F_11_answerVerdict s0 s1 s2 s3 H) fun x1 h2 =>
(if (a4 : Int32) = 0 then
B_11_answerBlock_55 h2
else
jg ((jK h2 a0).1 = 11) (
jg ((jK h2 (jR h2 a0 12)).1 = 1) (
jg ((jK h2 (jR h2 (jR h2 a0 12) 6)).1 = 0) (
jg ((jK h2 a0).1 = 11) (
jb (F_11_tellOthers a0 a1 2 (jR h2 (jR h2 (jR h2 a0 12) 6) 1) h2) fun x3 h4 =>
B_11_answerBlock_55 h4))))))
def B_11_answerBlock_16  (a0 : Nat) (a1 : Int32) (a2 : Nat) (a3 : Int32) (a4 : Int32) (H : jH) : Option (Unit × jH) :=
(if ¬ a2 = 0 then
jg ((jK H a2).1 = 0) (
B_11_answerBlock_31 a0 a1 a4 a0 a1 a3 (jR H a2 1) H)
else
B_11_answerBlock_31 a0 a1 a4 a0 a1 a3 0 H)
def F_11_answerBlock (a0 : Nat) (a1 : Int32) (a2 : Nat) (a3 : Int32) (a4 : Int32) (H : jH) : Option (Unit × jH) :=
(if a2 = 0 then
B_11_answerBlock_16 a0 a1 a2 a3 a4 H
else
(if ¬ (a3 : Int32) = (21 : Int32) then
B_11_answerBlock_16 a0 a1 a2 a3 a4 H
else
jg ((jK H a0).1 = 11) (
jb (F_11_askWhatIsBehind a0 a1 H) fun x5 h6 =>
some ((), h6))))
def B_11_isList_36   (H : jH) : Option (Int32 × jH) :=
jg ((0 : Int32) = 0 ∨ (0 : Int32) = 1) (some (0, H))
def B_11_isList_62 (k40 : Nat → Int32 → jH → Option (Int32 × jH)) (a0 : Nat) (a2 : Int32) (H : jH) : Option (Int32 × jH) :=
jl (a2 + 33) fun x1 =>
k40 a0 x1 H
def B_11_isList_40 (k40 : Nat → Int32 → jH → Option (Int32 × jH)) (a0 : Nat) (a2 : Int32) (H : jH) : Option (Int32 × jH) :=
jg ((jK H a0).1 = 101) (
(if ((Int32.ofNat (jK H a0).2) : Int32) ≤ (a2 : Int32) then
jg ((1 : Int32) = 0 ∨ (1 : Int32) = 1) (some (1, H))
else
jg ((jK H a0).1 = 101 ∧ jin (a2) (jK H a0).2) (
(if ((jbs (jB H a0 (a2 : Int32).toNatClampNeg)) : Int32) = (1 : Int32) then
B_11_isList_62 k40 a0 a2 H
else
jg ((jK H a0).1 = 101 ∧ jin (a2) (jK H a0).2) (
(if ((jbs (jB H a0 (a2 : Int32).toNatClampNeg)) : Int32) = (2 : Int32) then
B_11_isList_62 k40 a0 a2 H
else
jg ((0 : Int32) = 0 ∨ (0 : Int32) = 1) (some (0, H))))))))
def F_11_isList_40  : Nat → Nat → Int32 → jH → Option (Int32 × jH)
  | 0 => fun _ _ _ => none
  | n + 1 => fun a0 a2 H => B_11_isList_40 (F_11_isList_40  n) a0 a2 H
def B_11_isList_13  (a0 : Nat) (s0 : Int32) (H : jH) : Option (Int32 × jH) :=
(if (s0 : Int32) < (1 : Int32) then
B_11_isList_36 H
else
(if (8 : Int32) < (s0 : Int32) then
B_11_isList_36 H
else
jg ((jK H a0).1 = 101) (
(if ((Int32.ofNat (jK H a0).2) : Int32) = ((2 + (33 * s0)) : Int32) then
F_11_isList_40 jfuel a0 2 H
else
B_11_isList_36 H))))
def F_11_isList (a0 : Nat) (H : jH) : Option (Int32 × jH) :=
jg ((jK H a0).1 = 101) (
(if (2 : Int32) ≤ ((Int32.ofNat (jK H a0).2) : Int32) then
jg ((jK H a0).1 = 101 ∧ jin (1) (jK H a0).2) (
B_11_isList_13 a0 (jbs (jB H a0 (1 : Int32).toNatClampNeg)) H)
else
B_11_isList_13 a0 0 H))
def B_3_same_26   (H : jH) : Option (Int32 × jH) :=
jg ((0 : Int32) = 0 ∨ (0 : Int32) = 1) (some (0, H))
def B_3_same_31 (k31 : Nat → Int32 → Nat → Int32 → Int32 → jH → Option (Int32 × jH)) (a0 : Nat) (a1 : Int32) (a2 : Nat) (a3 : Int32) (a4 : Int32) (H : jH) : Option (Int32 × jH) :=
(if (32 : Int32) ≤ (a4 : Int32) then
jg ((1 : Int32) = 0 ∨ (1 : Int32) = 1) (some (1, H))
else
jg ((jK H a0).1 = 101 ∧ jin ((a1 + a4)) (jK H a0).2) (
jg ((jK H a2).1 = 101 ∧ jin ((a3 + a4)) (jK H a2).2) (
(if ((jbs (jB H a0 ((a1 + a4) : Int32).toNatClampNeg)) : Int32) = ((jbs (jB H a2 ((a3 + a4) : Int32).toNatClampNeg)) : Int32) then
jl (a4 + 1) fun x1 =>
k31 a0 a1 a2 a3 x1 H
else
jg ((0 : Int32) = 0 ∨ (0 : Int32) = 1) (some (0, H))))))
def F_3_same_31  : Nat → Nat → Int32 → Nat → Int32 → Int32 → jH → Option (Int32 × jH)
  | 0 => fun _ _ _ _ _ _ => none
  | n + 1 => fun a0 a1 a2 a3 a4 H => B_3_same_31 (F_3_same_31  n) a0 a1 a2 a3 a4 H
def F_3_same (a0 : Nat) (a1 : Int32) (a2 : Nat) (a3 : Int32) (H : jH) : Option (Int32 × jH) :=
(if (a1 : Int32) < 0 then
B_3_same_26 H
else
(if (a3 : Int32) < 0 then
B_3_same_26 H
else
jg ((jK H a0).1 = 101) (
(if ((Int32.ofNat (jK H a0).2) : Int32) < ((a1 + 32) : Int32) then
B_3_same_26 H
else
jg ((jK H a2).1 = 101) (
(if ((a3 + 32) : Int32) ≤ ((Int32.ofNat (jK H a2).2) : Int32) then
F_3_same_31 jfuel a0 a1 a2 a3 0 H
else
B_3_same_26 H))))))
def B_1_find_2 (k2 : Nat → Nat → Int32 → Int32 → jH → Option (Nat × jH)) (a0 : Nat) (a1 : Nat) (a2 : Int32) (a3 : Int32) (H : jH) : Option (Nat × jH) :=
jg ((jK H a0).1 = 1) (
(if ((jI H a0 4) : Int32) ≤ (a3 : Int32) then
some (0, H)
else
jg ((jK H a0).1 = 1) (
jg ((jK H (jR H a0 3)).1 = 114 ∧ jin (a3) (jK H (jR H a0 3)).2) (
jg ((jK H (jR H (jR H a0 3) (a3 : Int32).toNatClampNeg)).1 = 0) (
jb (F_3_same (jR H (jR H (jR H a0 3) (a3 : Int32).toNatClampNeg) 1) 0 a1 a2 H) fun x1 h2 =>
(if (x1 : Int32) = 0 then
jl (a3 + 1) fun x3 =>
k2 a0 a1 a2 x3 h2
else
jg ((jK h2 a0).1 = 1) (
jg ((jK h2 (jR h2 a0 3)).1 = 114 ∧ jin (a3) (jK h2 (jR h2 a0 3)).2) (
some ((jR h2 (jR h2 a0 3) (a3 : Int32).toNatClampNeg), h2)))))))))
def F_1_find_2  : Nat → Nat → Nat → Int32 → Int32 → jH → Option (Nat × jH)
  | 0 => fun _ _ _ _ _ => none
  | n + 1 => fun a0 a1 a2 a3 H => B_1_find_2 (F_1_find_2  n) a0 a1 a2 a3 H
def F_1_find (a0 : Nat) (a1 : Nat) (a2 : Int32) (H : jH) : Option (Nat × jH) :=
F_1_find_2 jfuel a0 a1 a2 0 H
def B_6_find_2 (k2 : Nat → Nat → Int32 → Int32 → jH → Option (Nat × jH)) (a0 : Nat) (a1 : Nat) (a2 : Int32) (a3 : Int32) (H : jH) : Option (Nat × jH) :=
jg ((jK H a0).1 = 6) (
(if ((jI H a0 4) : Int32) ≤ (a3 : Int32) then
some (0, H)
else
jg ((jK H a0).1 = 6) (
jg ((jK H (jR H a0 2)).1 = 113 ∧ jin (a3) (jK H (jR H a0 2)).2) (
jg ((jK H (jR H (jR H a0 2) (a3 : Int32).toNatClampNeg)).1 = 10) (
jb (F_3_same (jR H (jR H (jR H a0 2) (a3 : Int32).toNatClampNeg) 3) 0 a1 a2 H) fun x1 h2 =>
(if (x1 : Int32) = 0 then
jl (a3 + 1) fun x3 =>
k2 a0 a1 a2 x3 h2
else
jg ((jK h2 a0).1 = 6) (
jg ((jK h2 (jR h2 a0 2)).1 = 113 ∧ jin (a3) (jK h2 (jR h2 a0 2)).2) (
some ((jR h2 (jR h2 a0 2) (a3 : Int32).toNatClampNeg), h2)))))))))
def F_6_find_2  : Nat → Nat → Nat → Int32 → Int32 → jH → Option (Nat × jH)
  | 0 => fun _ _ _ _ _ => none
  | n + 1 => fun a0 a1 a2 a3 H => B_6_find_2 (F_6_find_2  n) a0 a1 a2 a3 H
def F_6_find (a0 : Nat) (a1 : Nat) (a2 : Int32) (H : jH) : Option (Nat × jH) :=
F_6_find_2 jfuel a0 a1 a2 0 H
def B_11_answerGive_159 (k17 : Nat → Int32 → Nat → Int32 → jH → Option (Unit × jH)) (a0 : Nat) (a1 : Int32) (a2 : Nat) (a3 : Int32) (H : jH) : Option (Unit × jH) :=
jg ((jK H a0).1 = 11) (
jb (F_11_post a0 a1 H) fun x1 h2 =>
jl (a3 + 33) fun x3 =>
k17 a0 a1 a2 x3 h2)
def B_11_answerGive_145 (k17 : Nat → Int32 → Nat → Int32 → jH → Option (Unit × jH)) (a0 : Nat) (a1 : Int32) (a2 : Nat) (a3 : Int32) (H : jH) : Option (Unit × jH) :=
jg ((jK H a0).1 = 11) (
jb (F_11_begin a0 7 H) fun x4 h5 =>
jg ((jK h5 a0).1 = 11) (
jb (F_11_put_2 a0 a2 a3 33 h5) fun x6 h7 =>
B_11_answerGive_159 k17 a0 a1 a2 a3 h7))
def B_11_answerGive_72 (k17 : Nat → Int32 → Nat → Int32 → jH → Option (Unit × jH)) (a0 : Nat) (a1 : Int32) (a2 : Nat) (a3 : Int32) (a4 : Nat) (s0 : Nat) (H : jH) : Option (Unit × jH) :=
(if a4 = 0 then
(if s0 = 0 then
B_11_answerGive_145 k17 a0 a1 a2 a3 H
else
jg ((jK H s0).1 = 0) (
(if ((jI H s0 6) : Int32) ≤ 0 then
B_11_answerGive_145 k17 a0 a1 a2 a3 H
else
jg ((jK H a0).1 = 11) (
jb (F_11_begin a0 2 H) fun x8 h9 =>
jg ((jK h9 s0).1 = 0) (
jg ((jK h9 s0).1 = 0) (
jg ((jK h9 (jR h9 s0 0)).1 = 101) (
jg ((jK h9 a0).1 = 11) (
jb (F_11_put_2 a0 (jR h9 s0 0) 1 ((Int32.ofNat (jK h9 (jR h9 s0 0)).2) - 1) h9) fun x10 h11 =>
B_11_answerGive_159 k17 a0 a1 a2 a3 h11))))))))
else
jg ((jK H a0).1 = 11) (
jb (F_11_begin a0 1 H) fun x12 h13 =>
jg ((jK h13 a4).1 = 10) (
jg ((jK h13 a4).1 = 10) (
jg ((jK h13 a4).1 = 10) (
jg ((jK h13 a0).1 = 11) (
jb (F_11_put_2 a0 (jR h13 a4 0) (jI h13 a4 1) (jI h13 a4 2) h13) fun x14 h15 =>
B_11_answerGive_159 k17 a0 a1 a2 a3 h15))))))
def B_11_answerGive_48 (k17 : Nat → Int32 → Nat → Int32 → jH → Option (Unit × jH)) (a0 : Nat) (a1 : Int32) (a2 : Nat) (a3 : Int32) (s0 : Nat) (H : jH) : Option (Unit × jH) :=
jg ((jK H a2).1 = 101 ∧ jin (a3) (jK H a2).2) (
(if ¬ ((jbs (jB H a2 (a3 : Int32).toNatClampNeg)) : Int32) = (2 : Int32) then
B_11_answerGive_72 k17 a0 a1 a2 a3 s0 0 H
else
jg ((jK H a0).1 = 11) (
jg ((jK H (jR H a0 12)).1 = 1) (
jb (F_1_find (jR H a0 12) a2 (a3 + 1) H) fun x16 h17 =>
B_11_answerGive_72 k17 a0 a1 a2 a3 s0 x16 h17))))
def B_11_answerGive_17 (k17 : Nat → Int32 → Nat → Int32 → jH → Option (Unit × jH)) (a0 : Nat) (a1 : Int32) (a2 : Nat) (a3 : Int32) (H : jH) : Option (Unit × jH) :=
jg ((jK H a2).1 = 101) (
(if ((Int32.ofNat (jK H a2).2) : Int32) ≤ ((a3 + 32) : Int32) then
some ((), H)
else
jg ((jK H a2).1 = 101 ∧ jin (a3) (jK H a2).2) (
(if ¬ ((jbs (jB H a2 (a3 : Int32).toNatClampNeg)) : Int32) = (1 : Int32) then
B_11_answerGive_48 k17 a0 a1 a2 a3 0 H
else
jg ((jK H a0).1 = 11) (
jg ((jK H (jR H a0 13)).1 = 6) (
jb (F_6_find (jR H a0 13) a2 (a3 + 1) H) fun x18 h19 =>
B_11_answerGive_48 k17 a0 a1 a2 a3 x18 h19))))))
def F_11_answerGive_17  : Nat → Nat → Int32 → Nat → Int32 → jH → Option (Unit × jH)
  | 0 => fun _ _ _ _ _ => none
  | n + 1 => fun a0 a1 a2 a3 H => B_11_answerGive_17 (F_11_answerGive_17  n) a0 a1 a2 a3 H
def F_11_answerGive (a0 : Nat) (a1 : Int32) (a2 : Nat) (H : jH) : Option (Unit × jH) :=
jb (F_11_isList a2 H) fun x20 h21 =>
(if ¬ (x20 : Int32) = 0 then
F_11_answerGive_17 jfuel a0 a1 a2 2 h21
else
jg ((jK h21 a0).1 = 11) (
jb (F_11_answerVerdict a0 a1 1 0 h21) fun x22 h23 =>
some ((), h23)))
def B_11_answerIHave_110 (k30 : Nat → Int32 → Nat → Int32 → Int32 → jH → Option (Unit × jH)) (a0 : Nat) (a1 : Int32) (a2 : Nat) (a3 : Int32) (a4 : Int32) (H : jH) : Option (Unit × jH) :=
jl (a4 + 33) fun x1 =>
k30 a0 a1 a2 a3 x1 H
def B_11_answerIHave_91 (k30 : Nat → Int32 → Nat → Int32 → Int32 → jH → Option (Unit × jH)) (a0 : Nat) (a1 : Int32) (a2 : Nat) (a3 : Int32) (a4 : Int32) (s0 : Int32) (H : jH) : Option (Unit × jH) :=
(if ¬ (s0 : Int32) = 0 then
B_11_answerIHave_110 k30 a0 a1 a2 a3 a4 H
else
jg ((jK H a0).1 = 11) (
jb (F_11_put_2 a0 a2 a4 33 H) fun x2 h3 =>
jl (a3 + 1) fun x4 =>
B_11_answerIHave_110 k30 a0 a1 a2 x4 a4 h3))
def B_11_answerIHave_133   (H : jH) : Option (Unit × jH) :=
some ((), H)
def B_11_answerIHave_30 (k30 : Nat → Int32 → Nat → Int32 → Int32 → jH → Option (Unit × jH)) (a0 : Nat) (a1 : Int32) (a2 : Nat) (a3 : Int32) (a4 : Int32) (H : jH) : Option (Unit × jH) :=
jg ((jK H a2).1 = 101) (
(if ((Int32.ofNat (jK H a2).2) : Int32) ≤ ((a4 + 32) : Int32) then
jg ((jK H a0).1 = 11) (
jg ((jK H (jR H a0 7)).1 = 101 ∧ jin (1) (jK H (jR H a0 7)).2) (
jl (jsB H (jR H a0 7) (1 : Int32).toNatClampNeg (jbu (ji2b a3))) fun h5 =>
(if (a3 : Int32) ≤ 0 then
B_11_answerIHave_133 h5
else
jg ((jK h5 a0).1 = 11) (
jb (F_11_post a0 a1 h5) fun x6 h7 =>
B_11_answerIHave_133 h7))))
else
jg ((jK H a2).1 = 101 ∧ jin (a4) (jK H a2).2) (
(if ¬ ((jbs (jB H a2 (a4 : Int32).toNatClampNeg)) : Int32) = (1 : Int32) then
jg ((jK H a0).1 = 11) (
jg ((jK H (jR H a0 12)).1 = 1) (
jb (F_1_find (jR H a0 12) a2 (a4 + 1) H) fun x8 h9 =>
(if x8 = 0 then
B_11_answerIHave_91 k30 a0 a1 a2 a3 a4 0 h9
else
B_11_answerIHave_91 k30 a0 a1 a2 a3 a4 1 h9)))
else
jg ((jK H a0).1 = 11) (
jg ((jK H (jR H a0 13)).1 = 6) (
jb (F_6_find (jR H a0 13) a2 (a4 + 1) H) fun x10 h11 =>
(if x10 = 0 then
B_11_answerIHave_91 k30 a0 a1 a2 a3 a4 0 h11
else
B_11_answerIHave_91 k30 a0 a1 a2 a3 a4 1 h11)))))))
def F_11_answerIHave_30  : Nat → Nat → Int32 → Nat → Int32 → Int32 → jH → Option (Unit × jH)
  | 0 => fun _ _ _ _ _ _ => none
  | n + 1 => fun a0 a1 a2 a3 a4 H => B_11_answerIHave_30 (F_11_answerIHave_30  n) a0 a1 a2 a3 a4 H
def F_11_answerIHave (a0 : Nat) (a1 : Int32) (a2 : Nat) (H : jH) : Option (Unit × jH) :=
jb (F_11_isList a2 H) fun x12 h13 =>
(if ¬ (x12 : Int32) = 0 then
jg ((jK h13 a0).1 = 11) (
jb (F_11_begin a0 4 h13) fun x14 h15 =>
jg ((jK h15 a0).1 = 11) (
jb (F_11_put a0 0 h15) fun x16 h17 =>
F_11_answerIHave_30 jfuel a0 a1 a2 0 2 h17))
else
jg ((jK h13 a0).1 = 11) (
jb (F_11_answerVerdict a0 a1 1 0 h13) fun x18 h19 =>
some ((), h19)))
def B_11_answerWhatIsBehind_35  (a0 : Nat) (a1 : Int32) (H : jH) : Option (Unit × jH) :=
jg ((jK H a0).1 = 11) (
jb (F_11_answerVerdict a0 a1 1 0 H) fun x1 h2 =>
some ((), h2))
def B_11_answerWhatIsBehind_104 (k49 : Nat → Int32 → Nat → Int32 → Int32 → Int32 → jH → Option (Unit × jH)) (a0 : Nat) (a1 : Int32) (a2 : Nat) (a3 : Int32) (a4 : Int32) (a5 : Int32) (H : jH) : Option (Unit × jH) :=
jl (a5 + 1) fun x3 =>
k49 a0 a1 a2 a3 a4 x3 H
def B_11_answerWhatIsBehind_182 (k144 : Nat → Int32 → Int32 → Int32 → Int32 → jH → Option (Unit × jH)) (a0 : Nat) (a1 : Int32) (a4 : Int32) (a5 : Int32) (a6 : Int32) (H : jH) : Option (Unit × jH) :=
jl (a6 + 1) fun x4 =>
k144 a0 a1 a4 a5 x4 H
def B_11_answerWhatIsBehind_144 (k144 : Nat → Int32 → Int32 → Int32 → Int32 → jH → Option (Unit × jH)) (a0 : Nat) (a1 : Int32) (a4 : Int32) (a5 : Int32) (a6 : Int32) (H : jH) : Option (Unit × jH) :=
(if (a5 : Int32) < (a6 : Int32) then
jg ((jK H a0).1 = 11) (
jb (F_11_post a0 a1 H) fun x5 h6 =>
some ((), h6))
else
jg ((jK H a0).1 = 11) (
jg ((jK H (jR H a0 12)).1 = 1) (
jb (F_1_at (jR H a0 12) (a4 + a6) H) fun x7 h8 =>
(if x7 = 0 then
B_11_answerWhatIsBehind_182 k144 a0 a1 a4 a5 a6 h8
else
jg ((jK h8 x7).1 = 0) (
jg ((jK h8 a0).1 = 11) (
jb (F_11_put_2 a0 (jR h8 x7 0) 1 80 h8) fun x9 h10 =>
B_11_answerWhatIsBehind_182 k144 a0 a1 a4 a5 a6 h10))))))
def F_11_answerWhatIsBehind_144  : Nat → Nat → Int32 → Int32 → Int32 → Int32 → jH → Option (Unit × jH)
  | 0 => fun _ _ _ _ _ _ => none
  | n + 1 => fun a0 a1 a4 a5 a6 H => B_11_answerWhatIsBehind_144 (F_11_answerWhatIsBehind_144  n) a0 a1 a4 a5 a6 H
def B_11_answerWhatIsBehind_110  (a0 : Nat) (a1 : Int32) (a4 : Int32) (H : jH) : Option (Unit × jH) :=
jg ((jK H a0).1 = 11) (
jg ((jK H (jR H a0 12)).1 = 1) (
jg ((jK H (jR H (jR H a0 12) 6)).1 = 0) (
jl (jminI 16 ((jI H (jR H (jR H a0 12) 6) 6) - a4)) fun x11 =>
jg ((jK H a0).1 = 11) (
jb (F_11_begin a0 5 H) fun x12 h13 =>
jg ((jK h13 a0).1 = 11) (
jb (F_11_put a0 x11 h13) fun x14 h15 =>
F_11_answerWhatIsBehind_144 jfuel a0 a1 a4 x11 1 h15)))))
def B_11_answerWhatIsBehind_49 (k49 : Nat → Int32 → Nat → Int32 → Int32 → Int32 → jH → Option (Unit × jH)) (a0 : Nat) (a1 : Int32) (a2 : Nat) (a3 : Int32) (a4 : Int32) (a5 : Int32) (H : jH) : Option (Unit × jH) :=
(if (a3 : Int32) ≤ (a5 : Int32) then
B_11_answerWhatIsBehind_110 a0 a1 a4 H
else
jg ((jK H a0).1 = 11) (
jg ((jK H (jR H a0 12)).1 = 1) (
jb (F_1_find (jR H a0 12) a2 (2 + (32 * a5)) H) fun x16 h17 =>
(if x16 = 0 then
B_11_answerWhatIsBehind_104 k49 a0 a1 a2 a3 a4 a5 h17
else
jg ((jK h17 a0).1 = 11) (
jg ((jK h17 x16).1 = 0) (
jg ((jK h17 (jR h17 a0 12)).1 = 1) (
jb (F_1_at (jR h17 a0 12) (jI h17 x16 6) h17) fun x18 h19 =>
jg ((x18 = 0 ∨ jF0 ≤ x18) ∧ (x16 = 0 ∨ jF0 ≤ x16)) (
(if ¬ x18 = x16 then
B_11_answerWhatIsBehind_104 k49 a0 a1 a2 a3 a4 a5 h19
else
jg ((jK h19 x16).1 = 0) (
jl (jI h19 x16 6) fun x20 =>
B_11_answerWhatIsBehind_110 a0 a1 x20 h19))))))))))
def F_11_answerWhatIsBehind_49  : Nat → Nat → Int32 → Nat → Int32 → Int32 → Int32 → jH → Option (Unit × jH)
  | 0 => fun _ _ _ _ _ _ _ => none
  | n + 1 => fun a0 a1 a2 a3 a4 a5 H => B_11_answerWhatIsBehind_49 (F_11_answerWhatIsBehind_49  n) a0 a1 a2 a3 a4 a5 H
def B_11_answerWhatIsBehind_13  (a0 : Nat) (a1 : Int32) (a2 : Nat) (s0 : Int32) (H : jH) : Option (Unit × jH) :=
(if (s0 : Int32) < 0 then
B_11_answerWhatIsBehind_35 a0 a1 H
else
(if (20 : Int32) < (s0 : Int32) then
B_11_answerWhatIsBehind_35 a0 a1 H
else
jg ((jK H a2).1 = 101) (
(if ((Int32.ofNat (jK H a2).2) : Int32) = ((2 + (32 * s0)) : Int32) then
F_11_answerWhatIsBehind_49 jfuel a0 a1 a2 s0 0 0 H
else
B_11_answerWhatIsBehind_35 a0 a1 H))))
def F_11_answerWhatIsBehind (a0 : Nat) (a1 : Int32) (a2 : Nat) (H : jH) : Option (Unit × jH) :=
jg ((jK H a2).1 = 101) (
(if (2 : Int32) ≤ ((Int32.ofNat (jK H a2).2) : Int32) then
jg ((jK H a2).1 = 101 ∧ jin (1) (jK H a2).2) (
B_11_answerWhatIsBehind_13 a0 a1 a2 (jbs (jB H a2 (1 : Int32).toNatClampNeg)) H)
else
B_11_answerWhatIsBehind_13 a0 a1 a2 (-1) H))
def B_10_index_33  (s0 : Int32) (H : jH) : Option (Int32 × jH) :=
some (s0, H)
def B_10_index_13   (H : jH) : Option (Int32 × jH) :=
B_10_index_33 0 H
def F_10_index (a0 : Nat) (a1 : Int32) (H : jH) : Option (Int32 × jH) :=
(if (a1 : Int32) < 0 then
B_10_index_13 H
else
jg ((jK H a0).1 = 10) (
jg ((jK H (jR H a0 4)).1 = 100) (
(if (a1 : Int32) < ((Int32.ofNat (jK H (jR H a0 4)).2) : Int32) then
jg ((jK H a0).1 = 10) (
jg ((jK H a0).1 = 10) (
jg ((jK H (jR H a0 4)).1 = 100 ∧ jin (a1) (jK H (jR H a0 4)).2) (
jb (F_10_low (jR H a0 0) ((jI H (jR H a0 4) (a1 : Int32).toNatClampNeg) + 32) H) fun x1 h2 =>
B_10_index_33 x1 h2)))
else
B_10_index_13 H))))
def B_10_sharesKeyWith_63 (k13 : Nat → Nat → Int32 → Int32 → jH → Option (Int32 × jH)) (a0 : Nat) (a1 : Nat) (a2 : Int32) (a3 : Int32) (H : jH) : Option (Int32 × jH) :=
jl (a3 + 1) fun x1 =>
k13 a0 a1 a2 x1 H
def B_10_sharesKeyWith_13 (k2 : Nat → Nat → Int32 → jH → Option (Int32 × jH)) (k13 : Nat → Nat → Int32 → Int32 → jH → Option (Int32 × jH)) (a0 : Nat) (a1 : Nat) (a2 : Int32) (a3 : Int32) (H : jH) : Option (Int32 × jH) :=
jg ((jK H a1).1 = 10) (
jg ((jK H (jR H a1 4)).1 = 100) (
(if ((Int32.ofNat (jK H (jR H a1 4)).2) : Int32) ≤ (a3 : Int32) then
jl (a2 + 1) fun x2 =>
k2 a0 a1 x2 H
else
jg ((jK H a0).1 = 10) (
jb (F_10_index a0 a2 H) fun x3 h4 =>
jg ((jK h4 a1).1 = 10) (
jb (F_10_index a1 a3 h4) fun x5 h6 =>
(if ¬ (x3 : Int32) = (x5 : Int32) then
B_10_sharesKeyWith_63 k13 a0 a1 a2 a3 h6
else
jg ((jK h6 a0).1 = 10) (
jg ((jK h6 a0).1 = 10) (
jg ((jK h6 (jR h6 a0 4)).1 = 100 ∧ jin (a2) (jK h6 (jR h6 a0 4)).2) (
jg ((jK h6 a1).1 = 10) (
jg ((jK h6 a1).1 = 10) (
jg ((jK h6 (jR h6 a1 4)).1 = 100 ∧ jin (a3) (jK h6 (jR h6 a1 4)).2) (
jb (F_3_same (jR h6 a0 0) (jI h6 (jR h6 a0 4) (a2 : Int32).toNatClampNeg) (jR h6 a1 0) (jI h6 (jR h6 a1 4) (a3 : Int32).toNatClampNeg) h6) fun x7 h8 =>
(if (x7 : Int32) = 0 then
B_10_sharesKeyWith_63 k13 a0 a1 a2 a3 h8
else
jg ((1 : Int32) = 0 ∨ (1 : Int32) = 1) (some (1, h8)))))))))))))))
def F_10_sharesKeyWith_13 (k2 : Nat → Nat → Int32 → jH → Option (Int32 × jH)) : Nat → Nat → Nat → Int32 → Int32 → jH → Option (Int32 × jH)
  | 0 => fun _ _ _ _ _ => none
  | n + 1 => fun a0 a1 a2 a3 H => B_10_sharesKeyWith_13 k2 (F_10_sharesKeyWith_13 k2 n) a0 a1 a2 a3 H
def B_10_sharesKeyWith_2 (k2 : Nat → Nat → Int32 → jH → Option (Int32 × jH)) (a0 : Nat) (a1 : Nat) (a2 : Int32) (H : jH) : Option (Int32 × jH) :=
jg ((jK H a0).1 = 10) (
jg ((jK H (jR H a0 4)).1 = 100) (
(if ((Int32.ofNat (jK H (jR H a0 4)).2) : Int32) ≤ (a2 : Int32) then
jg ((0 : Int32) = 0 ∨ (0 : Int32) = 1) (some (0, H))
else
F_10_sharesKeyWith_13 k2 jfuel a0 a1 a2 0 H)))
def F_10_sharesKeyWith_2  : Nat → Nat → Nat → Int32 → jH → Option (Int32 × jH)
  | 0 => fun _ _ _ _ => none
  | n + 1 => fun a0 a1 a2 H => B_10_sharesKeyWith_2 (F_10_sharesKeyWith_2  n) a0 a1 a2 H
def F_10_sharesKeyWith (a0 : Nat) (a1 : Nat) (H : jH) : Option (Int32 × jH) :=
F_10_sharesKeyWith_2 jfuel a0 a1 0 H
def B_6_clash_17 (k17 : Nat → Nat → Int32 → jH → Option (Int32 × jH)) (a0 : Nat) (a1 : Nat) (a2 : Int32) (H : jH) : Option (Int32 × jH) :=
jg ((jK H a0).1 = 6) (
(if ((jI H a0 4) : Int32) ≤ (a2 : Int32) then
some (0, H)
else
jg ((jK H a0).1 = 6) (
jg ((jK H (jR H a0 2)).1 = 113 ∧ jin (a2) (jK H (jR H a0 2)).2) (
jg ((jK H a1).1 = 10) (
jb (F_10_sharesKeyWith a1 (jR H (jR H a0 2) (a2 : Int32).toNatClampNeg) H) fun x1 h2 =>
(if (x1 : Int32) = 0 then
jl (a2 + 1) fun x3 =>
k17 a0 a1 x3 h2
else
some (13, h2)))))))
def F_6_clash_17  : Nat → Nat → Nat → Int32 → jH → Option (Int32 × jH)
  | 0 => fun _ _ _ _ => none
  | n + 1 => fun a0 a1 a2 H => B_6_clash_17 (F_6_clash_17  n) a0 a1 a2 H
def F_6_clash (a0 : Nat) (a1 : Nat) (H : jH) : Option (Int32 × jH) :=
jg ((jK H a1).1 = 10) (
jg ((jK H a0).1 = 6) (
jb (F_6_find a0 (jR H a1 3) 0 H) fun x4 h5 =>
(if x4 = 0 then
F_6_clash_17 jfuel a0 a1 0 h5
else
some (12, h5))))
def B_6_isDearer_13   (H : jH) : Option (Int32 × jH) :=
jg ((0 : Int32) = 0 ∨ (0 : Int32) = 1) (some (0, H))
def B_6_isDearer_48  (s0 : Int32) (H : jH) : Option (Int32 × jH) :=
jg ((s0 : Int32) = 0 ∨ (s0 : Int32) = 1) (some (s0, H))
def B_6_isDearer_71  (s0 : Int32) (H : jH) : Option (Int32 × jH) :=
jg ((s0 : Int32) = 0 ∨ (s0 : Int32) = 1) (some (s0, H))
def F_6_isDearer (a0 : Int64) (a2 : Int64) (a4 : Int64) (a6 : Int64) (H : jH) : Option (Int32 × jH) :=
(if (a2 : Int64) ≤ 0 then
B_6_isDearer_13 H
else
(if 0 < (a6 : Int64) then
jg (¬ (a2 : Int64) = 0) (
jl (a0 / a2) fun x1 =>
jg (¬ (a6 : Int64) = 0) (
jl (a4 / a6) fun x2 =>
(if (x1 : Int64) = x2 then
jg (¬ (a2 : Int64) = 0) (
jg (¬ (a6 : Int64) = 0) (
(if (((jremL a0 a2) * a6) : Int64) ≤ ((jremL a4 a6) * a2) then
B_6_isDearer_71 0 H
else
B_6_isDearer_71 1 H)))
else
(if (x1 : Int64) ≤ x2 then
B_6_isDearer_48 0 H
else
B_6_isDearer_48 1 H))))
else
B_6_isDearer_13 H))
def B_10_spendsOf_2 (k2 : Nat → Nat → Int32 → jH → Option (Int32 × jH)) (a0 : Nat) (a1 : Nat) (a2 : Int32) (H : jH) : Option (Int32 × jH) :=
jg ((jK H a0).1 = 10) (
jg ((jK H (jR H a0 4)).1 = 100) (
(if ((Int32.ofNat (jK H (jR H a0 4)).2) : Int32) ≤ (a2 : Int32) then
jg ((0 : Int32) = 0 ∨ (0 : Int32) = 1) (some (0, H))
else
jg ((jK H a0).1 = 10) (
jg ((jK H a0).1 = 10) (
jg ((jK H (jR H a0 4)).1 = 100 ∧ jin (a2) (jK H (jR H a0 4)).2) (
jg ((jK H a1).1 = 10) (
jb (F_3_same (jR H a0 0) (jI H (jR H a0 4) (a2 : Int32).toNatClampNeg) (jR H a1 3) 0 H) fun x1 h2 =>
(if (x1 : Int32) = 0 then
jl (a2 + 1) fun x3 =>
k2 a0 a1 x3 h2
else
jg ((1 : Int32) = 0 ∨ (1 : Int32) = 1) (some (1, h2))))))))))
def F_10_spendsOf_2  : Nat → Nat → Nat → Int32 → jH → Option (Int32 × jH)
  | 0 => fun _ _ _ _ => none
  | n + 1 => fun a0 a1 a2 H => B_10_spendsOf_2 (F_10_spendsOf_2  n) a0 a1 a2 H
def F_10_spendsOf (a0 : Nat) (a1 : Nat) (H : jH) : Option (Int32 × jH) :=
F_10_spendsOf_2 jfuel a0 a1 0 H
def B_6_markKin_43 (k2 : Nat → Nat → Int32 → jH → Option (Unit × jH)) (a0 : Nat) (a1 : Nat) (a2 : Int32) (s0 : Nat) (s1 : Int32) (s2 : Int32) (H : jH) : Option (Unit × jH) :=
jg ((jK H s0).1 = 102 ∧ jin (s1) (jK H s0).2) (
jl (jsI H s0 (s1 : Int32).toNatClampNeg (s2 &&& 1)) fun h1 =>
jl (a2 + 1) fun x2 =>
k2 a0 a1 x2 h1)
def B_6_markKin_38 (k2 : Nat → Nat → Int32 → jH → Option (Unit × jH)) (a0 : Nat) (a1 : Nat) (a2 : Int32) (s0 : Nat) (s1 : Int32) (H : jH) : Option (Unit × jH) :=
B_6_markKin_43 k2 a0 a1 a2 s0 s1 1 H
def B_6_markKin_142 (k83 : Nat → Int32 → Int32 → Int32 → Int32 → jH → Option (Unit × jH)) (a0 : Nat) (a2 : Int32) (a3 : Int32) (a4 : Int32) (a5 : Int32) (H : jH) : Option (Unit × jH) :=
jl (a5 + 1) fun x3 =>
k83 a0 a2 a3 a4 x3 H
def B_6_markKin_148 (k71 : Nat → Int32 → Int32 → Int32 → jH → Option (Unit × jH)) (a0 : Nat) (a2 : Int32) (a3 : Int32) (a4 : Int32) (H : jH) : Option (Unit × jH) :=
jl (a4 + 1) fun x4 =>
k71 a0 a2 a3 x4 H
def B_6_markKin_83 (k71 : Nat → Int32 → Int32 → Int32 → jH → Option (Unit × jH)) (k83 : Nat → Int32 → Int32 → Int32 → Int32 → jH → Option (Unit × jH)) (a0 : Nat) (a2 : Int32) (a3 : Int32) (a4 : Int32) (a5 : Int32) (H : jH) : Option (Unit × jH) :=
jg ((jK H a0).1 = 6) (
(if ((jI H a0 4) : Int32) ≤ (a5 : Int32) then
B_6_markKin_148 k71 a0 a2 a3 a4 H
else
jg ((jK H a0).1 = 6) (
jg ((jK H (jR H a0 6)).1 = 102 ∧ jin (a4) (jK H (jR H a0 6)).2) (
(if ¬ ((jI H (jR H a0 6) (a4 : Int32).toNatClampNeg) : Int32) = 0 then
B_6_markKin_148 k71 a0 a2 a3 a4 H
else
jg ((jK H a0).1 = 6) (
jg ((jK H (jR H a0 6)).1 = 102 ∧ jin (a5) (jK H (jR H a0 6)).2) (
(if ((jI H (jR H a0 6) (a5 : Int32).toNatClampNeg) : Int32) = 0 then
B_6_markKin_142 k83 a0 a2 a3 a4 a5 H
else
jg ((jK H a0).1 = 6) (
jg ((jK H (jR H a0 2)).1 = 113 ∧ jin (a4) (jK H (jR H a0 2)).2) (
jg ((jK H a0).1 = 6) (
jg ((jK H (jR H a0 2)).1 = 113 ∧ jin (a5) (jK H (jR H a0 2)).2) (
jg ((jK H (jR H (jR H a0 2) (a4 : Int32).toNatClampNeg)).1 = 10) (
jb (F_10_spendsOf (jR H (jR H a0 2) (a4 : Int32).toNatClampNeg) (jR H (jR H a0 2) (a5 : Int32).toNatClampNeg) H) fun x5 h6 =>
(if (x5 : Int32) = 0 then
B_6_markKin_142 k83 a0 a2 a3 a4 a5 h6
else
jg ((jK h6 a0).1 = 6) (
jg ((jK h6 (jR h6 a0 6)).1 = 102 ∧ jin (a4) (jK h6 (jR h6 a0 6)).2) (
jl (jsI h6 (jR h6 a0 6) (a4 : Int32).toNatClampNeg (1 &&& 1)) fun h7 =>
B_6_markKin_142 k83 a0 1 a3 a4 a5 h7))))))))))))))))
def F_6_markKin_83 (k71 : Nat → Int32 → Int32 → Int32 → jH → Option (Unit × jH)) : Nat → Nat → Int32 → Int32 → Int32 → Int32 → jH → Option (Unit × jH)
  | 0 => fun _ _ _ _ _ _ => none
  | n + 1 => fun a0 a2 a3 a4 a5 H => B_6_markKin_83 k71 (F_6_markKin_83 k71 n) a0 a2 a3 a4 a5 H
def B_6_markKin_71 (k54 : Nat → Int32 → Int32 → jH → Option (Unit × jH)) (k71 : Nat → Int32 → Int32 → Int32 → jH → Option (Unit × jH)) (a0 : Nat) (a2 : Int32) (a3 : Int32) (a4 : Int32) (H : jH) : Option (Unit × jH) :=
jg ((jK H a0).1 = 6) (
(if ((jI H a0 4) : Int32) ≤ (a4 : Int32) then
jl (a3 + 1) fun x8 =>
k54 a0 a2 x8 H
else
F_6_markKin_83 k71 jfuel a0 a2 a3 a4 0 H))
def F_6_markKin_71 (k54 : Nat → Int32 → Int32 → jH → Option (Unit × jH)) : Nat → Nat → Int32 → Int32 → Int32 → jH → Option (Unit × jH)
  | 0 => fun _ _ _ _ _ => none
  | n + 1 => fun a0 a2 a3 a4 H => B_6_markKin_71 k54 (F_6_markKin_71 k54 n) a0 a2 a3 a4 H
def B_6_markKin_160   (H : jH) : Option (Unit × jH) :=
some ((), H)
def B_6_markKin_54 (k54 : Nat → Int32 → Int32 → jH → Option (Unit × jH)) (a0 : Nat) (a2 : Int32) (a3 : Int32) (H : jH) : Option (Unit × jH) :=
jg ((jK H a0).1 = 6) (
(if ((jI H a0 4) : Int32) ≤ (a3 : Int32) then
B_6_markKin_160 H
else
(if (a2 : Int32) = 0 then
B_6_markKin_160 H
else
F_6_markKin_71 k54 jfuel a0 0 a3 0 H)))
def F_6_markKin_54  : Nat → Nat → Int32 → Int32 → jH → Option (Unit × jH)
  | 0 => fun _ _ _ _ => none
  | n + 1 => fun a0 a2 a3 H => B_6_markKin_54 (F_6_markKin_54  n) a0 a2 a3 H
def B_6_markKin_2 (k2 : Nat → Nat → Int32 → jH → Option (Unit × jH)) (a0 : Nat) (a1 : Nat) (a2 : Int32) (H : jH) : Option (Unit × jH) :=
jg ((jK H a0).1 = 6) (
(if ((jI H a0 4) : Int32) ≤ (a2 : Int32) then
F_6_markKin_54 jfuel a0 1 0 H
else
jg ((jK H a0).1 = 6) (
jg ((jK H a0).1 = 6) (
jg ((jK H (jR H a0 2)).1 = 113 ∧ jin (a2) (jK H (jR H a0 2)).2) (
jg (((jR H (jR H a0 2) (a2 : Int32).toNatClampNeg) = 0 ∨ jF0 ≤ (jR H (jR H a0 2) (a2 : Int32).toNatClampNeg)) ∧ (a1 = 0 ∨ jF0 ≤ a1)) (
(if (jR H (jR H a0 2) (a2 : Int32).toNatClampNeg) = a1 then
B_6_markKin_38 k2 a0 a1 a2 (jR H a0 6) a2 H
else
jg ((jK H a0).1 = 6) (
jg ((jK H (jR H a0 2)).1 = 113 ∧ jin (a2) (jK H (jR H a0 2)).2) (
jg ((jK H (jR H (jR H a0 2) (a2 : Int32).toNatClampNeg)).1 = 10) (
jb (F_10_spendsOf (jR H (jR H a0 2) (a2 : Int32).toNatClampNeg) a1 H) fun x9 h10 =>
(if (x9 : Int32) = 0 then
B_6_markKin_43 k2 a0 a1 a2 (jR H a0 6) a2 0 h10
else
B_6_markKin_38 k2 a0 a1 a2 (jR H a0 6) a2 h10)))))))))))
def F_6_markKin_2  : Nat → Nat → Nat → Int32 → jH → Option (Unit × jH)
  | 0 => fun _ _ _ _ => none
  | n + 1 => fun a0 a1 a2 H => B_6_markKin_2 (F_6_markKin_2  n) a0 a1 a2 H
def F_6_markKin (a0 : Nat) (a1 : Nat) (H : jH) : Option (Unit × jH) :=
F_6_markKin_2 jfuel a0 a1 0 H
def B_6_dropLeast_101 (k39 : Nat → Nat → Nat → Int64 → Int64 → Int32 → Int64 → Int64 → Int32 → jH → Option (Int32 × jH)) (a0 : Nat) (a1 : Nat) (a2 : Nat) (a3 : Int64) (a5 : Int64) (a7 : Int32) (a8 : Int64) (a12 : Int32) (s0 : Int64) (s1 : Int64) (H : jH) : Option (Int32 × jH) :=
jl (s0 + s1) fun x1 =>
jl (a12 + 1) fun x2 =>
k39 a0 a1 a2 a3 a5 a7 a8 x1 x2 H
def B_6_dropLeast_71 (k39 : Nat → Nat → Nat → Int64 → Int64 → Int32 → Int64 → Int64 → Int32 → jH → Option (Int32 × jH)) (a0 : Nat) (a1 : Nat) (a2 : Nat) (a3 : Int64) (a5 : Int64) (a7 : Int32) (a10 : Int64) (a12 : Int32) (s0 : Int64) (s1 : Int64) (H : jH) : Option (Int32 × jH) :=
jl (s0 + s1) fun x3 =>
jg ((jK H a0).1 = 6) (
jg ((jK H (jR H a0 6)).1 = 102 ∧ jin (a12) (jK H (jR H a0 6)).2) (
(if ((jI H (jR H a0 6) (a12 : Int32).toNatClampNeg) : Int32) = 0 then
B_6_dropLeast_101 k39 a0 a1 a2 a3 a5 a7 x3 a12 a10 0 H
else
jg ((jK H a0).1 = 6) (
jg ((jK H (jR H a0 2)).1 = 113 ∧ jin (a12) (jK H (jR H a0 2)).2) (
jg ((jK H (jR H (jR H a0 2) (a12 : Int32).toNatClampNeg)).1 = 10) (
B_6_dropLeast_101 k39 a0 a1 a2 a3 a5 a7 x3 a12 a10 (Int32.toInt64 (jI H (jR H (jR H a0 2) (a12 : Int32).toNatClampNeg) 2)) H))))))
def B_6_dropLeast_143 (k10 : Nat → Nat → Nat → Int64 → Int64 → Int32 → jH → Option (Int32 × jH)) (a0 : Nat) (a1 : Nat) (a2 : Nat) (a3 : Int64) (a5 : Int64) (a7 : Int32) (H : jH) : Option (Int32 × jH) :=
jl (a7 + 1) fun x4 =>
k10 a0 a1 a2 a3 a5 x4 H
def B_6_dropLeast_128 (k10 : Nat → Nat → Nat → Int64 → Int64 → Int32 → jH → Option (Int32 × jH)) (a0 : Nat) (a1 : Nat) (a7 : Int32) (a8 : Int64) (a10 : Int64) (H : jH) : Option (Int32 × jH) :=
jg ((jK H a0).1 = 6) (
jg ((jK H (jR H a0 2)).1 = 113 ∧ jin (a7) (jK H (jR H a0 2)).2) (
jl (jR H (jR H a0 2) (a7 : Int32).toNatClampNeg) fun x5 =>
B_6_dropLeast_143 k10 a0 a1 x5 a8 a10 a7 H))
def B_6_dropLeast_39 (k10 : Nat → Nat → Nat → Int64 → Int64 → Int32 → jH → Option (Int32 × jH)) (k39 : Nat → Nat → Nat → Int64 → Int64 → Int32 → Int64 → Int64 → Int32 → jH → Option (Int32 × jH)) (a0 : Nat) (a1 : Nat) (a2 : Nat) (a3 : Int64) (a5 : Int64) (a7 : Int32) (a8 : Int64) (a10 : Int64) (a12 : Int32) (H : jH) : Option (Int32 × jH) :=
jg ((jK H a0).1 = 6) (
(if ((jI H a0 4) : Int32) ≤ (a12 : Int32) then
(if (a7 : Int32) = 0 then
B_6_dropLeast_128 k10 a0 a1 a7 a8 a10 H
else
jb (F_6_isDearer a8 a10 a3 a5 H) fun x6 h7 =>
(if ¬ (x6 : Int32) = 0 then
B_6_dropLeast_143 k10 a0 a1 a2 a3 a5 a7 h7
else
B_6_dropLeast_128 k10 a0 a1 a7 a8 a10 h7))
else
jg ((jK H a0).1 = 6) (
jg ((jK H (jR H a0 6)).1 = 102 ∧ jin (a12) (jK H (jR H a0 6)).2) (
(if ((jI H (jR H a0 6) (a12 : Int32).toNatClampNeg) : Int32) = 0 then
B_6_dropLeast_71 k39 a0 a1 a2 a3 a5 a7 a10 a12 a8 0 H
else
jg ((jK H a0).1 = 6) (
jg ((jK H (jR H a0 3)).1 = 103 ∧ jin (a12) (jK H (jR H a0 3)).2) (
B_6_dropLeast_71 k39 a0 a1 a2 a3 a5 a7 a10 a12 a8 (jL H (jR H a0 3) (a12 : Int32).toNatClampNeg) H)))))))
def F_6_dropLeast_39 (k10 : Nat → Nat → Nat → Int64 → Int64 → Int32 → jH → Option (Int32 × jH)) : Nat → Nat → Nat → Nat → Int64 → Int64 → Int32 → Int64 → Int64 → Int32 → jH → Option (Int32 × jH)
  | 0 => fun _ _ _ _ _ _ _ _ _ _ => none
  | n + 1 => fun a0 a1 a2 a3 a5 a7 a8 a10 a12 H => B_6_dropLeast_39 k10 (F_6_dropLeast_39 k10 n) a0 a1 a2 a3 a5 a7 a8 a10 a12 H
def B_6_dropLeast_237 (k163 : Nat → Nat → Int32 → Int32 → Int32 → jH → Option (Int32 × jH)) (a0 : Nat) (a1 : Nat) (a7 : Int32) (a8 : Int32) (a9 : Int32) (H : jH) : Option (Int32 × jH) :=
jl (a9 + 1) fun x8 =>
k163 a0 a1 a7 a8 x8 H
def B_6_dropLeast_200 (k163 : Nat → Nat → Int32 → Int32 → Int32 → jH → Option (Int32 × jH)) (a0 : Nat) (a1 : Nat) (a7 : Int32) (a9 : Int32) (s0 : Int32) (s1 : Int32) (H : jH) : Option (Int32 × jH) :=
jl (s0 ||| s1) fun x9 =>
B_6_dropLeast_237 k163 a0 a1 a7 x9 a9 H
def B_6_dropLeast_163 (k163 : Nat → Nat → Int32 → Int32 → Int32 → jH → Option (Int32 × jH)) (a0 : Nat) (a1 : Nat) (a7 : Int32) (a8 : Int32) (a9 : Int32) (H : jH) : Option (Int32 × jH) :=
jg ((jK H a0).1 = 6) (
(if ((jI H a0 4) : Int32) ≤ (a9 : Int32) then
jg ((jK H a0).1 = 6) (
jl (jsI H a0 4 a7) fun h10 =>
jg ((a8 : Int32) = 0 ∨ (a8 : Int32) = 1) (some (a8, h10)))
else
jg ((jK H a0).1 = 6) (
jg ((jK H (jR H a0 6)).1 = 102 ∧ jin (a9) (jK H (jR H a0 6)).2) (
(if ((jI H (jR H a0 6) (a9 : Int32).toNatClampNeg) : Int32) = 0 then
jg ((jK H a0).1 = 6) (
jg ((jK H a0).1 = 6) (
jg ((jK H (jR H a0 2)).1 = 113 ∧ jin (a9) (jK H (jR H a0 2)).2) (
jg ((jK H (jR H a0 2)).1 = 113 ∧ jin (a7) (jK H (jR H a0 2)).2 ∧ ((jR H (jR H a0 2) (a9 : Int32).toNatClampNeg) = 0 ∨ (jK H (jR H (jR H a0 2) (a9 : Int32).toNatClampNeg)).1 = 10)) (
jl (jsR H (jR H a0 2) (a7 : Int32).toNatClampNeg (jR H (jR H a0 2) (a9 : Int32).toNatClampNeg)) fun h11 =>
jg ((jK h11 a0).1 = 6) (
jg ((jK h11 a0).1 = 6) (
jg ((jK h11 (jR h11 a0 3)).1 = 103 ∧ jin (a9) (jK h11 (jR h11 a0 3)).2) (
jg ((jK h11 (jR h11 a0 3)).1 = 103 ∧ jin (a7) (jK h11 (jR h11 a0 3)).2) (
jl (jsL h11 (jR h11 a0 3) (a7 : Int32).toNatClampNeg (jL h11 (jR h11 a0 3) (a9 : Int32).toNatClampNeg)) fun h12 =>
jl (a7 + 1) fun x13 =>
B_6_dropLeast_237 k163 a0 a1 x13 a8 a9 h12))))))))
else
jg ((jK H a0).1 = 6) (
jg ((jK H (jR H a0 2)).1 = 113 ∧ jin (a9) (jK H (jR H a0 2)).2) (
jg (((jR H (jR H a0 2) (a9 : Int32).toNatClampNeg) = 0 ∨ jF0 ≤ (jR H (jR H a0 2) (a9 : Int32).toNatClampNeg)) ∧ (a1 = 0 ∨ jF0 ≤ a1)) (
(if ¬ (jR H (jR H a0 2) (a9 : Int32).toNatClampNeg) = a1 then
B_6_dropLeast_200 k163 a0 a1 a7 a9 a8 0 H
else
B_6_dropLeast_200 k163 a0 a1 a7 a9 a8 1 H)))))))))
def F_6_dropLeast_163  : Nat → Nat → Nat → Int32 → Int32 → Int32 → jH → Option (Int32 × jH)
  | 0 => fun _ _ _ _ _ _ => none
  | n + 1 => fun a0 a1 a7 a8 a9 H => B_6_dropLeast_163 (F_6_dropLeast_163  n) a0 a1 a7 a8 a9 H
def B_6_dropLeast_10 (k10 : Nat → Nat → Nat → Int64 → Int64 → Int32 → jH → Option (Int32 × jH)) (a0 : Nat) (a1 : Nat) (a2 : Nat) (a3 : Int64) (a5 : Int64) (a7 : Int32) (H : jH) : Option (Int32 × jH) :=
jg ((jK H a0).1 = 6) (
(if ((jI H a0 4) : Int32) ≤ (a7 : Int32) then
jg ((jK H a0).1 = 6) (
jb (F_6_markKin a0 a2 H) fun x14 h15 =>
F_6_dropLeast_163 jfuel a0 a1 0 0 0 h15)
else
jg ((jK H a0).1 = 6) (
jg ((jK H (jR H a0 2)).1 = 113 ∧ jin (a7) (jK H (jR H a0 2)).2) (
jg ((jK H a0).1 = 6) (
jb (F_6_markKin a0 (jR H (jR H a0 2) (a7 : Int32).toNatClampNeg) H) fun x16 h17 =>
F_6_dropLeast_39 k10 jfuel a0 a1 a2 a3 a5 a7 0 0 0 h17)))))
def F_6_dropLeast_10  : Nat → Nat → Nat → Nat → Int64 → Int64 → Int32 → jH → Option (Int32 × jH)
  | 0 => fun _ _ _ _ _ _ _ => none
  | n + 1 => fun a0 a1 a2 a3 a5 a7 H => B_6_dropLeast_10 (F_6_dropLeast_10  n) a0 a1 a2 a3 a5 a7 H
def F_6_dropLeast (a0 : Nat) (a1 : Nat) (H : jH) : Option (Int32 × jH) :=
F_6_dropLeast_10 jfuel a0 a1 a1 0 0 0 H
def B_10_missesOutputOf_53 (k2 : Nat → Nat → Int32 → jH → Option (Int32 × jH)) (a0 : Nat) (a1 : Nat) (a2 : Int32) (H : jH) : Option (Int32 × jH) :=
jl (a2 + 1) fun x1 =>
k2 a0 a1 x1 H
def B_10_missesOutputOf_30 (k2 : Nat → Nat → Int32 → jH → Option (Int32 × jH)) (a0 : Nat) (a1 : Nat) (a2 : Int32) (H : jH) : Option (Int32 × jH) :=
jg ((jK H a0).1 = 10) (
jg ((jK H a0).1 = 10) (
jg ((jK H (jR H a0 4)).1 = 100 ∧ jin (a2) (jK H (jR H a0 4)).2) (
jg ((jK H a1).1 = 10) (
jb (F_3_same (jR H a0 0) (jI H (jR H a0 4) (a2 : Int32).toNatClampNeg) (jR H a1 3) 0 H) fun x2 h3 =>
(if (x2 : Int32) = 0 then
B_10_missesOutputOf_53 k2 a0 a1 a2 h3
else
jg ((1 : Int32) = 0 ∨ (1 : Int32) = 1) (some (1, h3)))))))
def B_10_missesOutputOf_2 (k2 : Nat → Nat → Int32 → jH → Option (Int32 × jH)) (a0 : Nat) (a1 : Nat) (a2 : Int32) (H : jH) : Option (Int32 × jH) :=
jg ((jK H a0).1 = 10) (
jg ((jK H (jR H a0 4)).1 = 100) (
(if ((Int32.ofNat (jK H (jR H a0 4)).2) : Int32) ≤ (a2 : Int32) then
jg ((0 : Int32) = 0 ∨ (0 : Int32) = 1) (some (0, H))
else
jg ((jK H a0).1 = 10) (
jb (F_10_index a0 a2 H) fun x4 h5 =>
(if (x4 : Int32) < 0 then
B_10_missesOutputOf_30 k2 a0 a1 a2 h5
else
jg ((jK h5 a1).1 = 10) (
jg ((jK h5 (jR h5 a1 5)).1 = 100) (
(if (x4 : Int32) < ((Int32.ofNat (jK h5 (jR h5 a1 5)).2) : Int32) then
B_10_missesOutputOf_53 k2 a0 a1 a2 h5
else
B_10_missesOutputOf_30 k2 a0 a1 a2 h5))))))))
def F_10_missesOutputOf_2  : Nat → Nat → Nat → Int32 → jH → Option (Int32 × jH)
  | 0 => fun _ _ _ _ => none
  | n + 1 => fun a0 a1 a2 H => B_10_missesOutputOf_2 (F_10_missesOutputOf_2  n) a0 a1 a2 H
def F_10_missesOutputOf (a0 : Nat) (a1 : Nat) (H : jH) : Option (Int32 × jH) :=
F_10_missesOutputOf_2 jfuel a0 a1 0 H
def B_6_knot_36   (H : jH) : Option (Int32 × jH) :=
some (15, H)
def B_6_knot_94 (k58 : Nat → Nat → Int32 → Int32 → jH → Option (Int32 × jH)) (a0 : Nat) (a1 : Nat) (a3 : Int32) (s0 : Int32) (s1 : Int32) (H : jH) : Option (Int32 × jH) :=
jl (s0 ||| s1) fun x1 =>
jl (a3 + 1) fun x2 =>
k58 a0 a1 x1 x2 H
def B_6_knot_93 (k58 : Nat → Nat → Int32 → Int32 → jH → Option (Int32 × jH)) (a0 : Nat) (a1 : Nat) (a3 : Int32) (s0 : Int32) (H : jH) : Option (Int32 × jH) :=
B_6_knot_94 k58 a0 a1 a3 s0 0 H
def B_6_knot_112  (s0 : Int32) (H : jH) : Option (Int32 × jH) :=
some (s0, H)
def B_6_knot_58 (k58 : Nat → Nat → Int32 → Int32 → jH → Option (Int32 × jH)) (a0 : Nat) (a1 : Nat) (a2 : Int32) (a3 : Int32) (H : jH) : Option (Int32 × jH) :=
jg ((jK H a0).1 = 6) (
(if ((jI H a0 4) : Int32) ≤ (a3 : Int32) then
(if (a2 : Int32) = 0 then
B_6_knot_112 0 H
else
B_6_knot_112 14 H)
else
jg ((jK H a0).1 = 6) (
jg ((jK H (jR H a0 6)).1 = 102 ∧ jin (a3) (jK H (jR H a0 6)).2) (
(if ((jI H (jR H a0 6) (a3 : Int32).toNatClampNeg) : Int32) = 0 then
B_6_knot_93 k58 a0 a1 a3 a2 H
else
jg ((jK H a0).1 = 6) (
jg ((jK H (jR H a0 2)).1 = 113 ∧ jin (a3) (jK H (jR H a0 2)).2) (
jg ((jK H a1).1 = 10) (
jb (F_10_spendsOf a1 (jR H (jR H a0 2) (a3 : Int32).toNatClampNeg) H) fun x3 h4 =>
(if (x3 : Int32) = 0 then
B_6_knot_93 k58 a0 a1 a3 a2 h4
else
B_6_knot_94 k58 a0 a1 a3 a2 1 h4)))))))))
def F_6_knot_58  : Nat → Nat → Nat → Int32 → Int32 → jH → Option (Int32 × jH)
  | 0 => fun _ _ _ _ _ => none
  | n + 1 => fun a0 a1 a2 a3 H => B_6_knot_58 (F_6_knot_58  n) a0 a1 a2 a3 H
def B_6_knot_2 (k2 : Nat → Nat → Int32 → jH → Option (Int32 × jH)) (a0 : Nat) (a1 : Nat) (a2 : Int32) (H : jH) : Option (Int32 × jH) :=
jg ((jK H a0).1 = 6) (
(if ((jI H a0 4) : Int32) ≤ (a2 : Int32) then
jg ((jK H a0).1 = 6) (
jb (F_6_markKin a0 a1 H) fun x5 h6 =>
jg ((jK h6 a1).1 = 10) (
jb (F_10_spendsOf a1 a1 h6) fun x7 h8 =>
F_6_knot_58 jfuel a0 a1 x7 0 h8))
else
jg ((jK H a0).1 = 6) (
jg ((jK H (jR H a0 2)).1 = 113 ∧ jin (a2) (jK H (jR H a0 2)).2) (
jg ((jK H a1).1 = 10) (
jb (F_10_missesOutputOf a1 (jR H (jR H a0 2) (a2 : Int32).toNatClampNeg) H) fun x9 h10 =>
(if ¬ (x9 : Int32) = 0 then
B_6_knot_36 h10
else
jg ((jK h10 a0).1 = 6) (
jg ((jK h10 (jR h10 a0 2)).1 = 113 ∧ jin (a2) (jK h10 (jR h10 a0 2)).2) (
jg ((jK h10 (jR h10 (jR h10 a0 2) (a2 : Int32).toNatClampNeg)).1 = 10) (
jb (F_10_missesOutputOf (jR h10 (jR h10 a0 2) (a2 : Int32).toNatClampNeg) a1 h10) fun x11 h12 =>
(if (x11 : Int32) = 0 then
jl (a2 + 1) fun x13 =>
k2 a0 a1 x13 h12
else
B_6_knot_36 h12))))))))))
def F_6_knot_2  : Nat → Nat → Nat → Int32 → jH → Option (Int32 × jH)
  | 0 => fun _ _ _ _ => none
  | n + 1 => fun a0 a1 a2 H => B_6_knot_2 (F_6_knot_2  n) a0 a1 a2 H
def F_6_knot (a0 : Nat) (a1 : Nat) (H : jH) : Option (Int32 × jH) :=
F_6_knot_2 jfuel a0 a1 0 H
def B_2_find_45 (k3 : Nat → Nat → Int32 → Int32 → Int32 → jH → Option (Int32 × jH)) (a0 : Nat) (a1 : Nat) (a2 : Int32) (a3 : Int32) (a4 : Int32) (H : jH) : Option (Int32 × jH) :=
jl (a4 + 1) fun x1 =>
k3 a0 a1 a2 a3 x1 H
def B_2_find_3 (k3 : Nat → Nat → Int32 → Int32 → Int32 → jH → Option (Int32 × jH)) (a0 : Nat) (a1 : Nat) (a2 : Int32) (a3 : Int32) (a4 : Int32) (H : jH) : Option (Int32 × jH) :=
jg ((jK H a0).1 = 2) (
(if ((jI H a0 3) : Int32) ≤ (a4 : Int32) then
some ((-1), H)
else
jg ((jK H a0).1 = 2) (
jg ((jK H (jR H a0 1)).1 = 100 ∧ jin (a4) (jK H (jR H a0 1)).2) (
(if ¬ ((jI H (jR H a0 1) (a4 : Int32).toNatClampNeg) : Int32) = (a3 : Int32) then
B_2_find_45 k3 a0 a1 a2 a3 a4 H
else
jg ((jK H a0).1 = 2) (
jg ((jK H (jR H a0 0)).1 = 113 ∧ jin (a4) (jK H (jR H a0 0)).2) (
jg ((jK H (jR H (jR H a0 0) (a4 : Int32).toNatClampNeg)).1 = 10) (
jb (F_3_same (jR H (jR H (jR H a0 0) (a4 : Int32).toNatClampNeg) 3) 0 a1 a2 H) fun x2 h3 =>
(if (x2 : Int32) = 0 then
B_2_find_45 k3 a0 a1 a2 a3 a4 h3
else
some (a4, h3))))))))))
def F_2_find_3  : Nat → Nat → Nat → Int32 → Int32 → Int32 → jH → Option (Int32 × jH)
  | 0 => fun _ _ _ _ _ _ => none
  | n + 1 => fun a0 a1 a2 a3 a4 H => B_2_find_3 (F_2_find_3  n) a0 a1 a2 a3 a4 H
def F_2_find (a0 : Nat) (a1 : Nat) (a2 : Int32) (a3 : Int32) (H : jH) : Option (Int32 × jH) :=
F_2_find_3 jfuel a0 a1 a2 a3 0 H
def B_2_isUnripe_42  (s0 : Int32) (H : jH) : Option (Int32 × jH) :=
jg ((s0 : Int32) = 0 ∨ (s0 : Int32) = 1) (some (s0, H))
def B_2_isUnripe_41   (H : jH) : Option (Int32 × jH) :=
B_2_isUnripe_42 0 H
def F_2_isUnripe (a0 : Nat) (a1 : Int32) (a2 : Int32) (H : jH) : Option (Int32 × jH) :=
(if (a1 : Int32) < 0 then
B_2_isUnripe_41 H
else
jg ((jK H a0).1 = 2) (
(if ((jI H a0 3) : Int32) ≤ (a1 : Int32) then
B_2_isUnripe_41 H
else
jg ((jK H a0).1 = 2) (
jg ((jK H (jR H a0 2)).1 = 100 ∧ jin (a1) (jK H (jR H a0 2)).2) (
(if (8 : Int32) ≤ ((a2 - (jI H (jR H a0 2) (a1 : Int32).toNatClampNeg)) : Int32) then
B_2_isUnripe_41 H
else
jg ((jK H a0).1 = 2) (
jg ((jK H (jR H a0 0)).1 = 113 ∧ jin (a1) (jK H (jR H a0 0)).2) (
jg ((jK H (jR H (jR H a0 0) (a1 : Int32).toNatClampNeg)).1 = 10) (
(if ((jI H (jR H (jR H a0 0) (a1 : Int32).toNatClampNeg) 7) : Int32) = 0 then
B_2_isUnripe_41 H
else
B_2_isUnripe_42 1 H))))))))))
def B_2_maker_22  (s0 : Nat) (H : jH) : Option (Nat × jH) :=
some (s0, H)
def B_2_maker_12   (H : jH) : Option (Nat × jH) :=
B_2_maker_22 0 H
def F_2_maker (a0 : Nat) (a1 : Int32) (H : jH) : Option (Nat × jH) :=
(if (a1 : Int32) < 0 then
B_2_maker_12 H
else
jg ((jK H a0).1 = 2) (
(if (a1 : Int32) < ((jI H a0 3) : Int32) then
jg ((jK H a0).1 = 2) (
jg ((jK H (jR H a0 0)).1 = 113 ∧ jin (a1) (jK H (jR H a0 0)).2) (
B_2_maker_22 (jR H (jR H a0 0) (a1 : Int32).toNatClampNeg) H))
else
B_2_maker_12 H)))
def B_10_worth_13   (H : jH) : Option (Int64 × jH) :=
some (0, H)
def F_10_worth (a0 : Nat) (a1 : Int32) (H : jH) : Option (Int64 × jH) :=
(if (a1 : Int32) < 0 then
B_10_worth_13 H
else
jg ((jK H a0).1 = 10) (
jg ((jK H (jR H a0 5)).1 = 100) (
(if (a1 : Int32) < ((Int32.ofNat (jK H (jR H a0 5)).2) : Int32) then
jg ((jK H a0).1 = 10) (
jg ((jK H (jR H a0 5)).1 = 100 ∧ jin (a1) (jK H (jR H a0 5)).2) (
jl (jI H (jR H a0 5) (a1 : Int32).toNatClampNeg) fun x1 =>
jg ((jK H a0).1 = 10) (
jb (F_10_low (jR H a0 0) (x1 + 4) H) fun x2 h3 =>
jg ((jK h3 a0).1 = 10) (
jb (F_10_low (jR h3 a0 0) x1 h3) fun x4 h5 =>
some (((jshlL (Int32.toInt64 x2) 32) ||| ((Int32.toInt64 x4) &&& 4294967295)), h5)))))
else
B_10_worth_13 H))))
def B_6_take_112   (H : jH) : Option (Int32 × jH) :=
some (7, H)
def B_6_take_89 (k10 : Nat → Nat → Int32 → Int32 → Int32 → jH → Option (Int32 × jH)) (a0 : Nat) (a1 : Nat) (a2 : Int32) (a3 : Int32) (a4 : Int32) (a5 : Int32) (a6 : Int32) (s0 : Nat) (H : jH) : Option (Int32 × jH) :=
(if s0 = 0 then
B_6_take_112 H
else
(if (a5 : Int32) < 0 then
B_6_take_112 H
else
jg ((jK H s0).1 = 10) (
jg ((jK H (jR H s0 5)).1 = 100) (
(if (a5 : Int32) < ((Int32.ofNat (jK H (jR H s0 5)).2) : Int32) then
jg ((jK H a0).1 = 6) (
jg ((jK H (jR H a0 0)).1 = 2) (
jb (F_2_isUnripe (jR H a0 0) a6 a2 H) fun x1 h2 =>
jl (a3 ||| x1) fun x3 =>
jg ((jK h2 a0).1 = 6) (
jg ((jK h2 (jR h2 a0 7)).1 = 113 ∧ jin (a4) (jK h2 (jR h2 a0 7)).2 ∧ (s0 = 0 ∨ (jK h2 s0).1 = 10)) (
jl (jsR h2 (jR h2 a0 7) (a4 : Int32).toNatClampNeg s0) fun h4 =>
jg ((jK h4 a0).1 = 6) (
jg ((jK h4 (jR h4 a0 8)).1 = 100 ∧ jF0 ≤ (jR h4 a0 8) ∧ jin (a4) (jK h4 (jR h4 a0 8)).2) (
jl (jsI h4 (jR h4 a0 8) (a4 : Int32).toNatClampNeg a5) fun h5 =>
jg ((jK h5 a0).1 = 6) (
jg ((jK h5 s0).1 = 10) (
jb (F_10_worth s0 a5 h5) fun x6 h7 =>
jg ((jK h7 a0).1 = 6) (
jl (jsL h7 a0 9 ((jL h5 a0 9) + x6)) fun h8 =>
jl (a4 + 1) fun x9 =>
k10 a0 a1 a2 x3 x9 h8)))))))))
else
B_6_take_112 H)))))
def B_6_take_195  (s0 : Int32) (H : jH) : Option (Int32 × jH) :=
some (s0, H)
def B_6_take_168  (a0 : Nat) (a1 : Nat) (a3 : Int32) (H : jH) : Option (Int32 × jH) :=
(if (a3 : Int32) = 0 then
jg ((jK H a1).1 = 10) (
jg ((jK H a0).1 = 6) (
(if ((jL H a1 6) : Int64) ≤ (jL H a0 9) then
B_6_take_195 0 H
else
B_6_take_195 9 H)))
else
B_6_take_195 8 H)
def B_6_take_10 (k10 : Nat → Nat → Int32 → Int32 → Int32 → jH → Option (Int32 × jH)) (a0 : Nat) (a1 : Nat) (a2 : Int32) (a3 : Int32) (a4 : Int32) (H : jH) : Option (Int32 × jH) :=
jg ((jK H a1).1 = 10) (
jg ((jK H (jR H a1 4)).1 = 100) (
(if ((Int32.ofNat (jK H (jR H a1 4)).2) : Int32) ≤ (a4 : Int32) then
B_6_take_168 a0 a1 a3 H
else
(if (8 : Int32) ≤ (a4 : Int32) then
B_6_take_168 a0 a1 a3 H
else
jg ((jK H a1).1 = 10) (
jb (F_10_index a1 a4 H) fun x10 h11 =>
jg ((jK h11 a0).1 = 6) (
jg ((jK h11 a1).1 = 10) (
jg ((jK h11 a1).1 = 10) (
jg ((jK h11 (jR h11 a1 4)).1 = 100 ∧ jin (a4) (jK h11 (jR h11 a1 4)).2) (
jg ((jK h11 (jR h11 a0 0)).1 = 2) (
jb (F_2_find (jR h11 a0 0) (jR h11 a1 0) (jI h11 (jR h11 a1 4) (a4 : Int32).toNatClampNeg) x10 h11) fun x12 h13 =>
(if (x12 : Int32) < 0 then
jg ((jK h13 a1).1 = 10) (
jg ((jK h13 a1).1 = 10) (
jg ((jK h13 (jR h13 a1 4)).1 = 100 ∧ jin (a4) (jK h13 (jR h13 a1 4)).2) (
jg ((jK h13 a0).1 = 6) (
jb (F_6_find a0 (jR h13 a1 0) (jI h13 (jR h13 a1 4) (a4 : Int32).toNatClampNeg) h13) fun x14 h15 =>
B_6_take_89 k10 a0 a1 a2 a3 a4 x10 x12 x14 h15))))
else
jg ((jK h13 a0).1 = 6) (
jg ((jK h13 (jR h13 a0 0)).1 = 2) (
jb (F_2_maker (jR h13 a0 0) x12 h13) fun x16 h17 =>
B_6_take_89 k10 a0 a1 a2 a3 a4 x10 x12 x16 h17)))))))))))))
def F_6_take_10  : Nat → Nat → Nat → Int32 → Int32 → Int32 → jH → Option (Int32 × jH)
  | 0 => fun _ _ _ _ _ _ => none
  | n + 1 => fun a0 a1 a2 a3 a4 H => B_6_take_10 (F_6_take_10  n) a0 a1 a2 a3 a4 H
def F_6_take (a0 : Nat) (a1 : Nat) (a2 : Int32) (H : jH) : Option (Int32 × jH) :=
jg ((jK H a0).1 = 6) (
jl (jsL H a0 9 0) fun h18 =>
F_6_take_10 jfuel a0 a1 a2 0 0 h18)
def F_7_begin (a0 : Nat) (a1 : Int32) (H : jH) : Option (Unit × jH) :=
jg ((jK H a0).1 = 7) (
jl (jsI H a0 7 a1) fun h1 =>
jg ((jK h1 a0).1 = 7) (
jl (jsI h1 a0 6 0) fun h2 =>
some ((), h2)))
def F_9_drop (a0 : Nat) (a1 : Int32) (H : jH) : Option (Unit × jH) :=
jg ((jK H a0).1 = 9) (
jg ((jK H a0).1 = 9) (
jl (jsI H a0 2 (jmaxI 0 ((jI H a0 2) - a1))) fun h1 =>
some ((), h1)))
def B_9_putNumber_131  (a0 : Nat) (a6 : Int32) (H : jH) : Option (Unit × jH) :=
jg ((jK H a0).1 = 9) (
jg ((jK H a0).1 = 9) (
jg ((jK H (jR H a0 1)).1 = 100 ∧ jF0 ≤ (jR H a0 1) ∧ jin ((jI H a0 2)) (jK H (jR H a0 1)).2) (
jl (jsI H (jR H a0 1) ((jI H a0 2) : Int32).toNatClampNeg a6) fun h1 =>
jg ((jK h1 a0).1 = 9) (
jg ((jK h1 a0).1 = 9) (
jl (jsI h1 a0 2 ((jI h1 a0 2) + 1)) fun h2 =>
some ((), h2))))))
def B_9_putNumber_99  (a0 : Nat) (a6 : Int32) (s0 : Nat) (s1 : Int32) (s2 : Int32) (H : jH) : Option (Unit × jH) :=
jg ((jK H s0).1 = 101 ∧ jin (s1) (jK H s0).2) (
jl (jsB H s0 (s1 : Int32).toNatClampNeg (jbu (ji2b s2))) fun h3 =>
jl (a6 + 1) fun x4 =>
B_9_putNumber_131 a0 x4 h3)
def B_9_putNumber_75  (a0 : Nat) (a1 : Int64) (a3 : Nat) (a6 : Int32) (a7 : Int32) (H : jH) : Option (Unit × jH) :=
(if (a7 : Int32) < (128 : Int32) then
(if 0 ≤ (a1 : Int64) then
B_9_putNumber_131 a0 a6 H
else
(if (a6 : Int32) ≤ 0 then
B_9_putNumber_131 a0 a6 H
else
jg ((jK H a3).1 = 101 ∧ jin ((a6 - 1)) (jK H a3).2) (
jl (jsB H a3 ((a6 - 1) : Int32).toNatClampNeg (jbu (ji2b (a7 ||| 128)))) fun h5 =>
B_9_putNumber_131 a0 a6 h5)))
else
(if 0 ≤ (a1 : Int64) then
B_9_putNumber_99 a0 a6 a3 a6 0 H
else
B_9_putNumber_99 a0 a6 a3 a6 128 H))
def B_9_putNumber_32 (k32 : Nat → Int64 → Nat → Int64 → Int32 → Int32 → jH → Option (Unit × jH)) (a0 : Nat) (a1 : Int64) (a3 : Nat) (a4 : Int64) (a6 : Int32) (a7 : Int32) (H : jH) : Option (Unit × jH) :=
(if (a4 : Int64) ≤ 0 then
B_9_putNumber_75 a0 a1 a3 a6 a7 H
else
(if (8 : Int32) ≤ (a6 : Int32) then
B_9_putNumber_75 a0 a1 a3 a6 a7 H
else
jl ((Int64.toInt32 a4) &&& 255) fun x6 =>
jg ((jK H a3).1 = 101 ∧ jin (a6) (jK H a3).2) (
jl (jsB H a3 (a6 : Int32).toNatClampNeg (jbu (ji2b x6))) fun h7 =>
jl (a6 + 1) fun x8 =>
jl (jushrL a4 8) fun x9 =>
k32 a0 a1 a3 x9 x8 x6 h7)))
def F_9_putNumber_32  : Nat → Nat → Int64 → Nat → Int64 → Int32 → Int32 → jH → Option (Unit × jH)
  | 0 => fun _ _ _ _ _ _ _ => none
  | n + 1 => fun a0 a1 a3 a4 a6 a7 H => B_9_putNumber_32 (F_9_putNumber_32  n) a0 a1 a3 a4 a6 a7 H
def F_9_putNumber (a0 : Nat) (a1 : Int64) (H : jH) : Option (Unit × jH) :=
jg ((jK H a0).1 = 9) (
(if ((jI H a0 2) : Int32) < (70 : Int32) then
jg ((jK H a0).1 = 9) (
jg ((jK H a0).1 = 9) (
jg ((jK H (jR H a0 0)).1 = 110 ∧ jin ((jI H a0 2)) (jK H (jR H a0 0)).2) (
jl (jR H (jR H a0 0) ((jI H a0 2) : Int32).toNatClampNeg) fun x10 =>
jl (jabsL a1) fun x11 =>
F_9_putNumber_32 jfuel a0 a1 x10 x11 0 0 H)))
else
some ((), H)))
def B_4_finish_51   (H : jH) : Option (Unit × jH) :=
some ((), H)
def B_4_finish_36  (s0 : Nat) (s1 : Int64) (H : jH) : Option (Unit × jH) :=
jg ((jK H s0).1 = 9) (
jb (F_9_putNumber s0 s1 H) fun x1 h2 =>
B_4_finish_51 h2)
def F_4_finish (a0 : Nat) (a1 : Int32) (H : jH) : Option (Unit × jH) :=
jg ((jK H a0).1 = 4) (
jl (jsI H a0 9 0) fun h3 =>
jg ((jK h3 a0).1 = 4) (
jg ((jK h3 a0).1 = 4) (
jg ((jK h3 (jR h3 a0 1)).1 = 9) (
jb (F_9_drop (jR h3 a0 1) (jI h3 a0 18) h3) fun x4 h5 =>
jg ((jK h5 a0).1 = 4) (
(if ¬ ((jI h5 a0 19) : Int32) = 0 then
(if ¬ (a1 : Int32) = 0 then
B_4_finish_51 h5
else
jg ((jK h5 a0).1 = 4) (
jl (jsI h5 a0 9 2) fun h6 =>
B_4_finish_51 h6))
else
jg ((jK h5 a0).1 = 4) (
(if (a1 : Int32) = 0 then
B_4_finish_36 (jR h5 a0 1) 0 h5
else
B_4_finish_36 (jR h5 a0 1) 1 h5))))))))
def B_4_answer_87   (H : jH) : Option (Unit × jH) :=
some ((), H)
def B_4_answer_84  (s0 : Nat) (s1 : Int32) (H : jH) : Option (Unit × jH) :=
jg ((jK H s0).1 = 4) (
jb (F_4_finish s0 s1 H) fun x1 h2 =>
B_4_answer_87 h2)
def B_4_answer_71  (a0 : Nat) (H : jH) : Option (Unit × jH) :=
jg ((jK H a0).1 = 4) (
(if ¬ ((jI H a0 14) : Int32) = 0 then
B_4_answer_84 a0 0 H
else
B_4_answer_84 a0 1 H))
def B_4_answer_33  (a0 : Nat) (H : jH) : Option (Unit × jH) :=
jg ((jK H a0).1 = 4) (
jg ((jK H a0).1 = 4) (
jl (jsI H a0 16 ((jI H a0 16) - 1)) fun h3 =>
jg ((jK h3 a0).1 = 4) (
jg ((jK h3 a0).1 = 4) (
jl (jsI h3 a0 17 ((jI h3 a0 17) - 1)) fun h4 =>
jg ((jK h4 a0).1 = 4) (
(if ((jI h4 a0 14) : Int32) = 0 then
B_4_answer_71 a0 h4
else
jg ((jK h4 a0).1 = 4) (
jg ((jK h4 a0).1 = 4) (
(if ((jI h4 a0 14) : Int32) ≤ ((jI h4 a0 16) : Int32) then
B_4_answer_87 h4
else
B_4_answer_71 a0 h4)))))))))
def F_4_answer (a0 : Nat) (a1 : Int32) (H : jH) : Option (Unit × jH) :=
jg ((jK H a0).1 = 4) (
(if ((jI H a0 9) : Int32) = (3 : Int32) then
(if (a1 : Int32) = 0 then
B_4_answer_33 a0 H
else
jg ((jK H a0).1 = 4) (
jg ((jK H a0).1 = 4) (
jl (jsI H a0 14 ((jI H a0 14) - 1)) fun h5 =>
jg ((jK h5 a0).1 = 4) (
jg ((jK h5 a0).1 = 4) (
jl (jsI h5 a0 15 ((jI h5 a0 15) - 1)) fun h6 =>
B_4_answer_33 a0 h6)))))
else
some ((), H)))
def F_4_clear (a0 : Nat) (H : jH) : Option (Unit × jH) :=
jg ((jK H a0).1 = 4) (
jg ((jK H (jR H a0 1)).1 = 9) (
jl (jsI H (jR H a0 1) 2 0) fun h1 =>
jg ((jK h1 a0).1 = 4 ∧ ((0 : Int32) = 0 ∨ (0 : Int32) = 1)) (
jl (jsI h1 a0 8 0) fun h2 =>
some ((), h2))))
def B_9_isTrue_13   (H : jH) : Option (Int32 × jH) :=
jg ((0 : Int32) = 0 ∨ (0 : Int32) = 1) (some (0, H))
def B_9_isTrue_77  (s0 : Int32) (H : jH) : Option (Int32 × jH) :=
jg ((s0 : Int32) = 0 ∨ (s0 : Int32) = 1) (some (s0, H))
def B_9_isTrue_72   (H : jH) : Option (Int32 × jH) :=
B_9_isTrue_77 1 H
def B_9_isTrue_42 (k42 : Nat → Int32 → Int32 → jH → Option (Int32 × jH)) (a2 : Nat) (a3 : Int32) (a4 : Int32) (H : jH) : Option (Int32 × jH) :=
(if (a3 : Int32) ≤ (a4 : Int32) then
jg ((0 : Int32) = 0 ∨ (0 : Int32) = 1) (some (0, H))
else
jg ((jK H a2).1 = 101 ∧ jin (a4) (jK H a2).2) (
(if ((jbs (jB H a2 (a4 : Int32).toNatClampNeg)) : Int32) = 0 then
jl (a4 + 1) fun x1 =>
k42 a2 a3 x1 H
else
(if (a4 : Int32) < ((a3 - 1) : Int32) then
B_9_isTrue_72 H
else
jg ((jK H a2).1 = 101 ∧ jin (a4) (jK H a2).2) (
(if ((jbs (jB H a2 (a4 : Int32).toNatClampNeg)) : Int32) = ((-128) : Int32) then
B_9_isTrue_77 0 H
else
B_9_isTrue_72 H))))))
def F_9_isTrue_42  : Nat → Nat → Int32 → Int32 → jH → Option (Int32 × jH)
  | 0 => fun _ _ _ _ => none
  | n + 1 => fun a2 a3 a4 H => B_9_isTrue_42 (F_9_isTrue_42  n) a2 a3 a4 H
def F_9_isTrue (a0 : Nat) (a1 : Int32) (H : jH) : Option (Int32 × jH) :=
(if (a1 : Int32) < (1 : Int32) then
B_9_isTrue_13 H
else
jg ((jK H a0).1 = 9) (
(if (a1 : Int32) ≤ ((jI H a0 2) : Int32) then
jg ((jK H a0).1 = 9) (
jg ((jK H a0).1 = 9) (
jg ((jK H (jR H a0 0)).1 = 110 ∧ jin (((jI H a0 2) - a1)) (jK H (jR H a0 0)).2) (
jl (jR H (jR H a0 0) (((jI H a0 2) - a1) : Int32).toNatClampNeg) fun x2 =>
jg ((jK H a0).1 = 9) (
jg ((jK H a0).1 = 9) (
jg ((jK H (jR H a0 1)).1 = 100 ∧ jin (((jI H a0 2) - a1)) (jK H (jR H a0 1)).2) (
jl (jI H (jR H a0 1) (((jI H a0 2) - a1) : Int32).toNatClampNeg) fun x3 =>
F_9_isTrue_42 jfuel x2 x3 0 H))))))
else
B_9_isTrue_13 H)))
def B_4_isHappy_31  (s0 : Int32) (H : jH) : Option (Int32 × jH) :=
jg ((s0 : Int32) = 0 ∨ (s0 : Int32) = 1) (some (s0, H))
def B_4_isHappy_30   (H : jH) : Option (Int32 × jH) :=
B_4_isHappy_31 0 H
def F_4_isHappy (a0 : Nat) (H : jH) : Option (Int32 × jH) :=
jg ((jK H a0).1 = 4) (
(if ¬ ((jI H a0 9) : Int32) = (1 : Int32) then
B_4_isHappy_30 H
else
jg ((jK H a0).1 = 4) (
(if ((jI H a0 8) : Int32) = 0 then
B_4_isHappy_30 H
else
jg ((jK H a0).1 = 4) (
jg ((jK H (jR H a0 1)).1 = 9) (
jb (F_9_isTrue (jR H a0 1) 1 H) fun x1 h2 =>
(if (x1 : Int32) = 0 then
B_4_isHappy_30 h2
else
B_4_isHappy_31 1 h2)))))))
def B_4_open_63  (s0 : Nat) (s1 : Int32) (H : jH) : Option (Unit × jH) :=
jg ((jK H s0).1 = 4) (
jl (jsI H s0 9 s1) fun h1 =>
some ((), h1))
def B_4_open_58  (s0 : Nat) (H : jH) : Option (Unit × jH) :=
B_4_open_63 s0 2 H
def F_4_open (a0 : Nat) (a1 : Nat) (a2 : Int32) (a3 : Int32) (H : jH) : Option (Unit × jH) :=
jg ((jK H a0).1 = 4) (
jg ((jK H (jR H a0 2)).1 = 9) (
jl (jsI H (jR H a0 2) 2 0) fun h2 =>
jg ((jK h2 a0).1 = 4) (
jl (jsI h2 a0 10 0) fun h3 =>
jg ((jK h3 a0).1 = 4) (
jl (jsI h3 a0 12 0) fun h4 =>
jg ((jK h4 a0).1 = 4) (
jl (jsI h4 a0 13 0) fun h5 =>
jg ((jK h5 a0).1 = 4) (
jl (jsR h5 a0 5 a1) fun h6 =>
jg ((jK h6 a0).1 = 4) (
jl (jsI h6 a0 6 a2) fun h7 =>
jg ((jK h7 a0).1 = 4) (
jl (jsI h7 a0 7 (a2 + a3)) fun h8 =>
(if (a2 : Int32) < 0 then
B_4_open_58 a0 h8
else
(if (a3 : Int32) < 0 then
B_4_open_58 a0 h8
else
jg ((jK h8 a0).1 = 4) (
jg ((jK h8 a1).1 = 101) (
(if ((jI h8 a0 7) : Int32) ≤ ((Int32.ofNat (jK h8 a1).2) : Int32) then
B_4_open_63 a0 0 h8
else
B_4_open_58 a0 h8)))))))))))))
def F_4_openLast (a0 : Nat) (a1 : Nat) (a2 : Int32) (a3 : Int32) (H : jH) : Option (Unit × jH) :=
jg ((jK H a0).1 = 4) (
jb (F_4_open a0 a1 a2 a3 H) fun x1 h2 =>
jg ((jK h2 a0).1 = 4 ∧ ((1 : Int32) = 0 ∨ (1 : Int32) = 1)) (
jl (jsI h2 a0 8 1) fun h3 =>
some ((), h3)))
def B_4_publicKey_40  (s0 : Nat) (H : jH) : Option (Nat × jH) :=
some (s0, H)
def B_4_publicKey_21  (a0 : Nat) (H : jH) : Option (Nat × jH) :=
jg ((jK H a0).1 = 4) (
B_4_publicKey_40 (jR H a0 4) H)
def F_4_publicKey (a0 : Nat) (H : jH) : Option (Nat × jH) :=
jg ((jK H a0).1 = 4) (
(if ((jI H a0 17) : Int32) < 0 then
B_4_publicKey_21 a0 H
else
jg ((jK H a0).1 = 4) (
jg ((jK H a0).1 = 4) (
jg ((jK H (jR H a0 1)).1 = 9) (
(if ((jI H a0 17) : Int32) < ((jI H (jR H a0 1) 2) : Int32) then
jg ((jK H a0).1 = 4) (
jg ((jK H (jR H a0 1)).1 = 9) (
jg ((jK H a0).1 = 4) (
jg ((jK H (jR H (jR H a0 1) 0)).1 = 110 ∧ jin ((jI H a0 17)) (jK H (jR H (jR H a0 1) 0)).2) (
B_4_publicKey_40 (jR H (jR H (jR H a0 1) 0) ((jI H a0 17) : Int32).toNatClampNeg) H))))
else
B_4_publicKey_21 a0 H))))))
def B_4_publicKeySize_37  (s0 : Int32) (H : jH) : Option (Int32 × jH) :=
some (s0, H)
def B_4_publicKeySize_21   (H : jH) : Option (Int32 × jH) :=
B_4_publicKeySize_37 0 H
def F_4_publicKeySize (a0 : Nat) (H : jH) : Option (Int32 × jH) :=
jg ((jK H a0).1 = 4) (
(if ((jI H a0 17) : Int32) < 0 then
B_4_publicKeySize_21 H
else
jg ((jK H a0).1 = 4) (
jg ((jK H a0).1 = 4) (
jg ((jK H (jR H a0 1)).1 = 9) (
(if ((jI H a0 17) : Int32) < ((jI H (jR H a0 1) 2) : Int32) then
jg ((jK H a0).1 = 4) (
jg ((jK H (jR H a0 1)).1 = 9) (
jg ((jK H a0).1 = 4) (
jg ((jK H (jR H (jR H a0 1) 1)).1 = 100 ∧ jin ((jI H a0 17)) (jK H (jR H (jR H a0 1) 1)).2) (
B_4_publicKeySize_37 (jI H (jR H (jR H a0 1) 1) ((jI H a0 17) : Int32).toNatClampNeg) H))))
else
B_4_publicKeySize_21 H))))))
def F_4_has (a0 : Nat) (a1 : Int32) (H : jH) : Option (Int32 × jH) :=
jg ((jK H a0).1 = 4) (
jg ((jK H (jR H a0 1)).1 = 9) (
(if (a1 : Int32) ≤ ((jI H (jR H a0 1) 2) : Int32) then
jg ((1 : Int32) = 0 ∨ (1 : Int32) = 1) (some (1, H))
else
jg ((jK H a0).1 = 4) (
jl (jsI H a0 9 2) fun h1 =>
jg ((0 : Int32) = 0 ∨ (0 : Int32) = 1) (some (0, h1))))))
def B_9_isNumber_33  (s0 : Int32) (H : jH) : Option (Int32 × jH) :=
jg ((s0 : Int32) = 0 ∨ (s0 : Int32) = 1) (some (s0, H))
def B_9_isNumber_32   (H : jH) : Option (Int32 × jH) :=
B_9_isNumber_33 0 H
def F_9_isNumber (a0 : Nat) (a1 : Int32) (H : jH) : Option (Int32 × jH) :=
(if (a1 : Int32) < (1 : Int32) then
B_9_isNumber_32 H
else
jg ((jK H a0).1 = 9) (
(if ((jI H a0 2) : Int32) < (a1 : Int32) then
B_9_isNumber_32 H
else
jg ((jK H a0).1 = 9) (
jg ((jK H a0).1 = 9) (
jg ((jK H (jR H a0 1)).1 = 100 ∧ jin (((jI H a0 2) - a1)) (jK H (jR H a0 1)).2) (
(if (4 : Int32) < ((jI H (jR H a0 1) (((jI H a0 2) - a1) : Int32).toNatClampNeg) : Int32) then
B_9_isNumber_32 H
else
B_9_isNumber_33 1 H)))))))
def B_9_lift_12   (H : jH) : Option (Unit × jH) :=
some ((), H)
def B_9_lift_30 (k30 : Nat → Nat → Int32 → Int32 → jH → Option (Unit × jH)) (a0 : Nat) (a2 : Nat) (a3 : Int32) (a4 : Int32) (H : jH) : Option (Unit × jH) :=
jg ((jK H a0).1 = 9) (
(if (((jI H a0 2) - 1) : Int32) ≤ (a4 : Int32) then
jg ((jK H a0).1 = 9) (
jg ((jK H a0).1 = 9) (
jg ((jK H (jR H a0 0)).1 = 110 ∧ jin (((jI H a0 2) - 1)) (jK H (jR H a0 0)).2 ∧ (jK H a2).1 = 101) (
jl (jsR H (jR H a0 0) (((jI H a0 2) - 1) : Int32).toNatClampNeg a2) fun h1 =>
jg ((jK h1 a0).1 = 9) (
jg ((jK h1 a0).1 = 9) (
jg ((jK h1 (jR h1 a0 1)).1 = 100 ∧ jF0 ≤ (jR h1 a0 1) ∧ jin (((jI h1 a0 2) - 1)) (jK h1 (jR h1 a0 1)).2) (
jl (jsI h1 (jR h1 a0 1) (((jI h1 a0 2) - 1) : Int32).toNatClampNeg a3) fun h2 =>
some ((), h2)))))))
else
jg ((jK H a0).1 = 9) (
jg ((jK H a0).1 = 9) (
jg ((jK H (jR H a0 0)).1 = 110 ∧ jin ((a4 + 1)) (jK H (jR H a0 0)).2) (
jg ((jK H (jR H a0 0)).1 = 110 ∧ jin (a4) (jK H (jR H a0 0)).2 ∧ (jK H (jR H (jR H a0 0) ((a4 + 1) : Int32).toNatClampNeg)).1 = 101) (
jl (jsR H (jR H a0 0) (a4 : Int32).toNatClampNeg (jR H (jR H a0 0) ((a4 + 1) : Int32).toNatClampNeg)) fun h3 =>
jg ((jK h3 a0).1 = 9) (
jg ((jK h3 a0).1 = 9) (
jg ((jK h3 (jR h3 a0 1)).1 = 100 ∧ jin ((a4 + 1)) (jK h3 (jR h3 a0 1)).2) (
jg ((jK h3 (jR h3 a0 1)).1 = 100 ∧ jF0 ≤ (jR h3 a0 1) ∧ jin (a4) (jK h3 (jR h3 a0 1)).2) (
jl (jsI h3 (jR h3 a0 1) (a4 : Int32).toNatClampNeg (jI h3 (jR h3 a0 1) ((a4 + 1) : Int32).toNatClampNeg)) fun h4 =>
jl (a4 + 1) fun x5 =>
k30 a0 a2 a3 x5 h4))))))))))
def F_9_lift_30  : Nat → Nat → Nat → Int32 → Int32 → jH → Option (Unit × jH)
  | 0 => fun _ _ _ _ _ => none
  | n + 1 => fun a0 a2 a3 a4 H => B_9_lift_30 (F_9_lift_30  n) a0 a2 a3 a4 H
def F_9_lift (a0 : Nat) (a1 : Int32) (H : jH) : Option (Unit × jH) :=
(if (a1 : Int32) < 0 then
B_9_lift_12 H
else
jg ((jK H a0).1 = 9) (
(if (a1 : Int32) < ((jI H a0 2) : Int32) then
jg ((jK H a0).1 = 9) (
jg ((jK H (jR H a0 0)).1 = 110 ∧ jin (a1) (jK H (jR H a0 0)).2) (
jl (jR H (jR H a0 0) (a1 : Int32).toNatClampNeg) fun x6 =>
jg ((jK H a0).1 = 9) (
jg ((jK H (jR H a0 1)).1 = 100 ∧ jin (a1) (jK H (jR H a0 1)).2) (
jl (jI H (jR H a0 1) (a1 : Int32).toNatClampNeg) fun x7 =>
F_9_lift_30 jfuel a0 x6 x7 a1 H))))
else
B_9_lift_12 H)))
def B_9_number_13   (H : jH) : Option (Int64 × jH) :=
some (0, H)
def B_9_number_84 (k45 : Nat → Int32 → Int64 → Int32 → jH → Option (Int64 × jH)) (a2 : Nat) (a3 : Int32) (a4 : Int64) (a6 : Int32) (s0 : Int32) (H : jH) : Option (Int64 × jH) :=
jl (a4 ||| (jshlL (Int32.toInt64 s0) (8 * a6))) fun x1 =>
jl (a6 + 1) fun x2 =>
k45 a2 a3 x1 x2 H
def B_9_number_126  (s0 : Int64) (H : jH) : Option (Int64 × jH) :=
some (s0, H)
def B_9_number_124  (a4 : Int64) (H : jH) : Option (Int64 × jH) :=
B_9_number_126 a4 H
def B_9_number_106  (a2 : Nat) (a3 : Int32) (a4 : Int64) (H : jH) : Option (Int64 × jH) :=
(if (a3 : Int32) ≤ 0 then
B_9_number_124 a4 H
else
jg ((jK H a2).1 = 101 ∧ jin ((a3 - 1)) (jK H a2).2) (
(if 0 ≤ ((jbs (jB H a2 ((a3 - 1) : Int32).toNatClampNeg)) : Int32) then
B_9_number_124 a4 H
else
B_9_number_126 (-a4) H)))
def B_9_number_45 (k45 : Nat → Int32 → Int64 → Int32 → jH → Option (Int64 × jH)) (a2 : Nat) (a3 : Int32) (a4 : Int64) (a6 : Int32) (H : jH) : Option (Int64 × jH) :=
(if (a3 : Int32) ≤ (a6 : Int32) then
B_9_number_106 a2 a3 a4 H
else
(if (8 : Int32) ≤ (a6 : Int32) then
B_9_number_106 a2 a3 a4 H
else
(if ¬ (a6 : Int32) = ((a3 - 1) : Int32) then
jg ((jK H a2).1 = 101 ∧ jin (a6) (jK H a2).2) (
B_9_number_84 k45 a2 a3 a4 a6 ((jbs (jB H a2 (a6 : Int32).toNatClampNeg)) &&& 255) H)
else
jg ((jK H a2).1 = 101 ∧ jin (a6) (jK H a2).2) (
B_9_number_84 k45 a2 a3 a4 a6 ((jbs (jB H a2 (a6 : Int32).toNatClampNeg)) &&& 127) H))))
def F_9_number_45  : Nat → Nat → Int32 → Int64 → Int32 → jH → Option (Int64 × jH)
  | 0 => fun _ _ _ _ _ => none
  | n + 1 => fun a2 a3 a4 a6 H => B_9_number_45 (F_9_number_45  n) a2 a3 a4 a6 H
def F_9_number (a0 : Nat) (a1 : Int32) (H : jH) : Option (Int64 × jH) :=
(if (a1 : Int32) < (1 : Int32) then
B_9_number_13 H
else
jg ((jK H a0).1 = 9) (
(if (a1 : Int32) ≤ ((jI H a0 2) : Int32) then
jg ((jK H a0).1 = 9) (
jg ((jK H a0).1 = 9) (
jg ((jK H (jR H a0 0)).1 = 110 ∧ jin (((jI H a0 2) - a1)) (jK H (jR H a0 0)).2) (
jl (jR H (jR H a0 0) (((jI H a0 2) - a1) : Int32).toNatClampNeg) fun x3 =>
jg ((jK H a0).1 = 9) (
jg ((jK H a0).1 = 9) (
jg ((jK H (jR H a0 1)).1 = 100 ∧ jin (((jI H a0 2) - a1)) (jK H (jR H a0 1)).2) (
jl (jI H (jR H a0 1) (((jI H a0 2) - a1) : Int32).toNatClampNeg) fun x4 =>
F_9_number_45 jfuel x3 x4 0 0 H))))))
else
B_9_number_13 H)))
def B_9_putCopy_21   (H : jH) : Option (Unit × jH) :=
some ((), H)
def F_9_putCopy (a0 : Nat) (a1 : Nat) (a2 : Int32) (H : jH) : Option (Unit × jH) :=
jg ((jK H a0).1 = 9) (
(if (70 : Int32) ≤ ((jI H a0 2) : Int32) then
B_9_putCopy_21 H
else
(if (a2 : Int32) < 0 then
B_9_putCopy_21 H
else
jg ((jK H a1).1 = 9) (
(if (a2 : Int32) < ((jI H a1 2) : Int32) then
jg ((jK H a1).1 = 9) (
jg ((jK H (jR H a1 0)).1 = 110 ∧ jin (a2) (jK H (jR H a1 0)).2) (
jg ((jK H a0).1 = 9) (
jg ((jK H a0).1 = 9) (
jg ((jK H (jR H a0 0)).1 = 110 ∧ jin ((jI H a0 2)) (jK H (jR H a0 0)).2) (
jg (jcg H 101 (jR H (jR H a1 0) (a2 : Int32).toNatClampNeg) (0) (jR H (jR H a0 0) ((jI H a0 2) : Int32).toNatClampNeg) (0) (120)) (
jl (jcpB H (jR H (jR H a1 0) (a2 : Int32).toNatClampNeg) (0 : Int32).toNatClampNeg (jR H (jR H a0 0) ((jI H a0 2) : Int32).toNatClampNeg) (0 : Int32).toNatClampNeg (120 : Int32).toNatClampNeg) fun h1 =>
jg ((jK h1 a0).1 = 9) (
jg ((jK h1 a0).1 = 9) (
jg ((jK h1 a1).1 = 9) (
jg ((jK h1 (jR h1 a1 1)).1 = 100 ∧ jin (a2) (jK h1 (jR h1 a1 1)).2) (
jg ((jK h1 (jR h1 a0 1)).1 = 100 ∧ jF0 ≤ (jR h1 a0 1) ∧ jin ((jI h1 a0 2)) (jK h1 (jR h1 a0 1)).2) (
jl (jsI h1 (jR h1 a0 1) ((jI h1 a0 2) : Int32).toNatClampNeg (jI h1 (jR h1 a1 1) (a2 : Int32).toNatClampNeg)) fun h2 =>
jg ((jK h2 a0).1 = 9) (
jg ((jK h2 a0).1 = 9) (
jl (jsI h2 a0 2 ((jI h2 a0 2) + 1)) fun h3 =>
some ((), h3))))))))))))))
else
B_9_putCopy_21 H)))))
def B_4_arrange_241   (H : jH) : Option (Unit × jH) :=
some ((), H)
def B_4_arrange_190   (H : jH) : Option (Unit × jH) :=
B_4_arrange_241 H
def B_4_arrange_131  (a0 : Nat) (H : jH) : Option (Unit × jH) :=
jg ((jK H a0).1 = 4) (
jl (jsI H a0 9 2) fun h1 =>
B_4_arrange_190 h1)
def B_4_arrange_236  (a0 : Nat) (H : jH) : Option (Unit × jH) :=
jg ((jK H a0).1 = 4) (
jl (jsI H a0 9 2) fun h2 =>
B_4_arrange_241 h2)
def B_4_arrange_193  (a0 : Nat) (a1 : Int32) (H : jH) : Option (Unit × jH) :=
(if ¬ (a1 : Int32) = (130 : Int32) then
B_4_arrange_236 a0 H
else
jg ((jK H a0).1 = 4) (
jb (F_4_has a0 1 H) fun x3 h4 =>
(if (x3 : Int32) = 0 then
B_4_arrange_236 a0 h4
else
jg ((jK h4 a0).1 = 4) (
jg ((jK h4 a0).1 = 4) (
jg ((jK h4 (jR h4 a0 1)).1 = 9) (
jg ((jK h4 a0).1 = 4) (
jg ((jK h4 (jR h4 a0 1)).1 = 9) (
jg ((jK h4 (jR h4 (jR h4 a0 1) 1)).1 = 100 ∧ jin (((jI h4 (jR h4 a0 1) 2) - 1)) (jK h4 (jR h4 (jR h4 a0 1) 1)).2) (
jg ((jK h4 (jR h4 a0 1)).1 = 9) (
jb (F_9_putNumber (jR h4 a0 1) (Int32.toInt64 (jI h4 (jR h4 (jR h4 a0 1) 1) (((jI h4 (jR h4 a0 1) 2) - 1) : Int32).toNatClampNeg)) h4) fun x5 h6 =>
B_4_arrange_241 h6))))))))))
def B_4_arrange_84  (a0 : Nat) (a1 : Int32) (H : jH) : Option (Unit × jH) :=
jg ((jK H a0).1 = 4) (
jg ((jK H (jR H a0 1)).1 = 9) (
jb (F_9_isNumber (jR H a0 1) 1 H) fun x7 h8 =>
(if (x7 : Int32) = 0 then
B_4_arrange_193 a0 a1 h8
else
jg ((jK h8 a0).1 = 4) (
jg ((jK h8 (jR h8 a0 1)).1 = 9) (
jb (F_9_number (jR h8 a0 1) 1 h8) fun x9 h10 =>
jg ((jK h10 a0).1 = 4) (
jg ((jK h10 (jR h10 a0 1)).1 = 9) (
jb (F_9_drop (jR h10 a0 1) 1 h10) fun x11 h12 =>
(if (x9 : Int64) < 0 then
B_4_arrange_131 a0 h12
else
jg ((jK h12 a0).1 = 4) (
jg ((jK h12 (jR h12 a0 1)).1 = 9) (
(if (x9 : Int64) < (Int32.toInt64 (jI h12 (jR h12 a0 1) 2)) then
(if ¬ (a1 : Int32) = (121 : Int32) then
jg ((jK h12 a0).1 = 4) (
jg ((jK h12 a0).1 = 4) (
jg ((jK h12 (jR h12 a0 1)).1 = 9) (
jg ((jK h12 (jR h12 a0 1)).1 = 9) (
jb (F_9_lift (jR h12 a0 1) (((jI h12 (jR h12 a0 1) 2) - 1) - (Int64.toInt32 x9)) h12) fun x13 h14 =>
B_4_arrange_190 h14))))
else
jg ((jK h12 a0).1 = 4) (
jg ((jK h12 a0).1 = 4) (
jg ((jK h12 a0).1 = 4) (
jg ((jK h12 (jR h12 a0 1)).1 = 9) (
jg ((jK h12 (jR h12 a0 1)).1 = 9) (
jb (F_9_putCopy (jR h12 a0 1) (jR h12 a0 1) (((jI h12 (jR h12 a0 1) 2) - 1) - (Int64.toInt32 x9)) h12) fun x15 h16 =>
B_4_arrange_190 h16))))))
else
B_4_arrange_131 a0 h12)))))))))))
def B_4_arrange_48  (a0 : Nat) (a1 : Int32) (H : jH) : Option (Unit × jH) :=
(if ¬ (a1 : Int32) = (116 : Int32) then
(if (a1 : Int32) = (121 : Int32) then
B_4_arrange_84 a0 a1 H
else
(if ¬ (a1 : Int32) = (122 : Int32) then
B_4_arrange_193 a0 a1 H
else
B_4_arrange_84 a0 a1 H))
else
jg ((jK H a0).1 = 4) (
jg ((jK H a0).1 = 4) (
jg ((jK H (jR H a0 1)).1 = 9) (
jg ((jK H (jR H a0 1)).1 = 9) (
jb (F_9_putNumber (jR H a0 1) (Int32.toInt64 (jI H (jR H a0 1) 2)) H) fun x17 h18 =>
B_4_arrange_241 h18)))))
def F_4_arrange (a0 : Nat) (a1 : Int32) (H : jH) : Option (Unit × jH) :=
(if ¬ (a1 : Int32) = (115 : Int32) then
B_4_arrange_48 a0 a1 H
else
jg ((jK H a0).1 = 4) (
jb (F_4_has a0 1 H) fun x19 h20 =>
(if (x19 : Int32) = 0 then
B_4_arrange_48 a0 a1 h20
else
jg ((jK h20 a0).1 = 4) (
jg ((jK h20 (jR h20 a0 1)).1 = 9) (
jb (F_9_isTrue (jR h20 a0 1) 1 h20) fun x21 h22 =>
(if (x21 : Int32) = 0 then
B_4_arrange_241 h22
else
jg ((jK h22 a0).1 = 4) (
jg ((jK h22 a0).1 = 4) (
jg ((jK h22 a0).1 = 4) (
jg ((jK h22 (jR h22 a0 1)).1 = 9) (
jg ((jK h22 (jR h22 a0 1)).1 = 9) (
jb (F_9_putCopy (jR h22 a0 1) (jR h22 a0 1) ((jI h22 (jR h22 a0 1) 2) - 1) h22) fun x23 h24 =>
B_4_arrange_241 h24)))))))))))
def B_4_ask_14  (a0 : Nat) (H : jH) : Option (Unit × jH) :=
jg ((jK H a0).1 = 4) (
jl (jsI H a0 9 2) fun h1 =>
some ((), h1))
def B_4_ask_104   (H : jH) : Option (Unit × jH) :=
some ((), H)
def B_4_ask_144  (a0 : Nat) (H : jH) : Option (Unit × jH) :=
jg ((jK H a0).1 = 4) (
jl (jsI H a0 9 2) fun h2 =>
some ((), h2))
def B_4_ask_254  (a0 : Nat) (H : jH) : Option (Unit × jH) :=
jg ((jK H a0).1 = 4) (
jl (jsI H a0 9 2) fun h3 =>
some ((), h3))
def B_4_ask_40  (a0 : Nat) (a1 : Int32) (s0 : Nat) (s1 : Int32) (H : jH) : Option (Unit × jH) :=
jg ((jK H s0).1 = 4 ∧ ((s1 : Int32) = 0 ∨ (s1 : Int32) = 1)) (
jl (jsI H s0 19 s1) fun h4 =>
(if (173 : Int32) < (a1 : Int32) then
jg ((jK h4 a0).1 = 4) (
jg ((jK h4 (jR h4 a0 1)).1 = 9) (
jb (F_9_isNumber (jR h4 a0 1) 1 h4) fun x5 h6 =>
(if (x5 : Int32) = 0 then
B_4_ask_144 a0 h6
else
jg ((jK h6 a0).1 = 4) (
jg ((jK h6 (jR h6 a0 1)).1 = 9) (
jb (F_9_number (jR h6 a0 1) 1 h6) fun x7 h8 =>
(if (x7 : Int64) < 0 then
B_4_ask_144 a0 h8
else
jg ((jK h8 a0).1 = 4) (
jg ((jK h8 (jR h8 a0 1)).1 = 9) (
jb (F_9_number (jR h8 a0 1) 1 h8) fun x9 h10 =>
(if (x9 : Int64) ≤ 8 then
jg ((jK h10 a0).1 = 4) (
jg ((jK h10 (jR h10 a0 1)).1 = 9) (
jb (F_9_number (jR h10 a0 1) 1 h10) fun x11 h12 =>
jg ((jK h12 a0).1 = 4) (
jl (jsI h12 a0 16 (Int64.toInt32 x11)) fun h13 =>
jg ((jK h13 a0).1 = 4) (
jg ((jK h13 a0).1 = 4) (
jg ((jK h13 a0).1 = 4) (
jl (jsI h13 a0 10 ((jI h13 a0 10) + (jI h13 a0 16))) fun h14 =>
jg ((jK h14 a0).1 = 4) (
(if (100 : Int32) < ((jI h14 a0 10) : Int32) then
B_4_ask_254 a0 h14
else
jg ((jK h14 a0).1 = 4) (
jg ((jK h14 a0).1 = 4) (
jb (F_4_has a0 (2 + (jI h14 a0 16)) h14) fun x15 h16 =>
(if (x15 : Int32) = 0 then
B_4_ask_254 a0 h16
else
jg ((jK h16 a0).1 = 4) (
jg ((jK h16 a0).1 = 4) (
jg ((jK h16 (jR h16 a0 1)).1 = 9) (
jb (F_9_isNumber (jR h16 a0 1) (2 + (jI h16 a0 16)) h16) fun x17 h18 =>
(if (x17 : Int32) = 0 then
B_4_ask_254 a0 h18
else
jg ((jK h18 a0).1 = 4) (
jg ((jK h18 a0).1 = 4) (
jg ((jK h18 (jR h18 a0 1)).1 = 9) (
jb (F_9_number (jR h18 a0 1) (2 + (jI h18 a0 16)) h18) fun x19 h20 =>
(if (x19 : Int64) < 0 then
B_4_ask_254 a0 h20
else
jg ((jK h20 a0).1 = 4) (
jg ((jK h20 a0).1 = 4) (
jg ((jK h20 (jR h20 a0 1)).1 = 9) (
jb (F_9_number (jR h20 a0 1) (2 + (jI h20 a0 16)) h20) fun x21 h22 =>
jg ((jK h22 a0).1 = 4) (
(if (x21 : Int64) ≤ (Int32.toInt64 (jI h22 a0 16)) then
jg ((jK h22 a0).1 = 4) (
jg ((jK h22 a0).1 = 4) (
jg ((jK h22 (jR h22 a0 1)).1 = 9) (
jb (F_9_number (jR h22 a0 1) (2 + (jI h22 a0 16)) h22) fun x23 h24 =>
jg ((jK h24 a0).1 = 4) (
jl (jsI h24 a0 14 (Int64.toInt32 x23)) fun h25 =>
jg ((jK h25 a0).1 = 4) (
jg ((jK h25 a0).1 = 4) (
jg ((jK h25 a0).1 = 4) (
jl (jsI h25 a0 18 ((3 + (jI h25 a0 16)) + (jI h25 a0 14))) fun h26 =>
jg ((jK h26 a0).1 = 4) (
jg ((jK h26 a0).1 = 4) (
jb (F_4_has a0 (jI h26 a0 18) h26) fun x27 h28 =>
(if ¬ (x27 : Int32) = 0 then
jg ((jK h28 a0).1 = 4) (
jg ((jK h28 (jR h28 a0 1)).1 = 9) (
jg ((jK h28 a0).1 = 4) (
jl (jsI h28 a0 17 ((jI h28 (jR h28 a0 1) 2) - 2)) fun h29 =>
jg ((jK h29 a0).1 = 4) (
jg ((jK h29 (jR h29 a0 1)).1 = 9) (
jg ((jK h29 a0).1 = 4) (
jg ((jK h29 a0).1 = 4) (
jl (jsI h29 a0 15 (((jI h29 (jR h29 a0 1) 2) - 3) - (jI h29 a0 16))) fun h30 =>
jg ((jK h30 a0).1 = 4) (
jl (jsI h30 a0 9 3) fun h31 =>
some ((), h31)))))))))
else
some ((), h28)))))))))))
else
B_4_ask_254 a0 h22))))))))))))))))))))))))
else
B_4_ask_144 a0 h10)))))))))
else
jg ((jK h4 a0).1 = 4) (
jb (F_4_has a0 2 h4) fun x32 h33 =>
(if (x32 : Int32) = 0 then
B_4_ask_104 h33
else
jg ((jK h33 a0).1 = 4) (
jl (jsI h33 a0 16 1) fun h34 =>
jg ((jK h34 a0).1 = 4) (
jl (jsI h34 a0 14 1) fun h35 =>
jg ((jK h35 a0).1 = 4) (
jg ((jK h35 (jR h35 a0 1)).1 = 9) (
jg ((jK h35 a0).1 = 4) (
jl (jsI h35 a0 17 ((jI h35 (jR h35 a0 1) 2) - 1)) fun h36 =>
jg ((jK h36 a0).1 = 4) (
jg ((jK h36 (jR h36 a0 1)).1 = 9) (
jg ((jK h36 a0).1 = 4) (
jl (jsI h36 a0 15 ((jI h36 (jR h36 a0 1) 2) - 2)) fun h37 =>
jg ((jK h37 a0).1 = 4) (
jl (jsI h37 a0 18 2) fun h38 =>
jg ((jK h38 a0).1 = 4) (
jl (jsI h38 a0 9 3) fun h39 =>
B_4_ask_104 h39))))))))))))))
def B_4_ask_35  (a0 : Nat) (a1 : Int32) (s0 : Nat) (H : jH) : Option (Unit × jH) :=
B_4_ask_40 a0 a1 s0 1 H
def F_4_ask (a0 : Nat) (a1 : Int32) (H : jH) : Option (Unit × jH) :=
(if (a1 : Int32) < (172 : Int32) then
B_4_ask_14 a0 H
else
(if (a1 : Int32) ≤ (175 : Int32) then
(if (a1 : Int32) = (173 : Int32) then
B_4_ask_35 a0 a1 a0 H
else
(if ¬ (a1 : Int32) = (175 : Int32) then
B_4_ask_40 a0 a1 a0 0 H
else
B_4_ask_35 a0 a1 a0 H))
else
B_4_ask_14 a0 H))
def B_4_ofOne_71  (s0 : Int64) (H : jH) : Option (Int64 × jH) :=
some (s0, H)
def B_4_ofOne_83  (s0 : Int64) (H : jH) : Option (Int64 × jH) :=
some (s0, H)
def F_4_ofOne (a0 : Int32) (a1 : Int64) (H : jH) : Option (Int64 × jH) :=
(if (a0 : Int32) = 139 then
some ((a1 + 1), H)
else if (a0 : Int32) = 140 then
some ((a1 - 1), H)
else if (a0 : Int32) = 141 then
(if (a1 : Int64) = 0 then
B_4_ofOne_83 0 H
else
B_4_ofOne_83 1 H)
else if (a0 : Int32) = 142 then
(if (a1 : Int64) = 0 then
B_4_ofOne_83 0 H
else
B_4_ofOne_83 1 H)
else if (a0 : Int32) = 143 then
some ((-a1), H)
else if (a0 : Int32) = 144 then
some ((jabsL a1), H)
else if (a0 : Int32) = 145 then
(if ¬ (a1 : Int64) = 0 then
B_4_ofOne_71 0 H
else
B_4_ofOne_71 1 H)
else 
(if (a1 : Int64) = 0 then
B_4_ofOne_83 0 H
else
B_4_ofOne_83 1 H))
def B_4_ofTwo_109  (s0 : Int64) (H : jH) : Option (Int64 × jH) :=
some (s0, H)
def B_4_ofTwo_108   (H : jH) : Option (Int64 × jH) :=
B_4_ofTwo_109 0 H
def B_4_ofTwo_127  (s0 : Int64) (H : jH) : Option (Int64 × jH) :=
some (s0, H)
def B_4_ofTwo_122   (H : jH) : Option (Int64 × jH) :=
B_4_ofTwo_127 1 H
def B_4_ofTwo_139  (s0 : Int64) (H : jH) : Option (Int64 × jH) :=
some (s0, H)
def B_4_ofTwo_151  (s0 : Int64) (H : jH) : Option (Int64 × jH) :=
some (s0, H)
def B_4_ofTwo_163  (s0 : Int64) (H : jH) : Option (Int64 × jH) :=
some (s0, H)
def B_4_ofTwo_175  (s0 : Int64) (H : jH) : Option (Int64 × jH) :=
some (s0, H)
def B_4_ofTwo_187  (s0 : Int64) (H : jH) : Option (Int64 × jH) :=
some (s0, H)
def B_4_ofTwo_199  (s0 : Int64) (H : jH) : Option (Int64 × jH) :=
some (s0, H)
def F_4_ofTwo (a0 : Int32) (a1 : Int64) (a3 : Int64) (H : jH) : Option (Int64 × jH) :=
(if (a0 : Int32) = 147 then
some ((a1 + a3), H)
else if (a0 : Int32) = 148 then
some ((a1 - a3), H)
else if (a0 : Int32) = 149 then
some ((jmaxL a1 a3), H)
else if (a0 : Int32) = 150 then
some ((jmaxL a1 a3), H)
else if (a0 : Int32) = 151 then
some ((jmaxL a1 a3), H)
else if (a0 : Int32) = 152 then
some ((jmaxL a1 a3), H)
else if (a0 : Int32) = 153 then
some ((jmaxL a1 a3), H)
else if (a0 : Int32) = 154 then
(if (a1 : Int64) = 0 then
B_4_ofTwo_108 H
else
(if (a3 : Int64) = 0 then
B_4_ofTwo_108 H
else
B_4_ofTwo_109 1 H))
else if (a0 : Int32) = 155 then
(if ¬ (a1 : Int64) = 0 then
B_4_ofTwo_122 H
else
(if (a3 : Int64) = 0 then
B_4_ofTwo_127 0 H
else
B_4_ofTwo_122 H))
else if (a0 : Int32) = 156 then
(if ¬ (a1 : Int64) = a3 then
B_4_ofTwo_139 0 H
else
B_4_ofTwo_139 1 H)
else if (a0 : Int32) = 157 then
some ((jmaxL a1 a3), H)
else if (a0 : Int32) = 158 then
(if (a1 : Int64) = a3 then
B_4_ofTwo_151 0 H
else
B_4_ofTwo_151 1 H)
else if (a0 : Int32) = 159 then
(if a3 ≤ (a1 : Int64) then
B_4_ofTwo_163 0 H
else
B_4_ofTwo_163 1 H)
else if (a0 : Int32) = 160 then
(if (a1 : Int64) ≤ a3 then
B_4_ofTwo_175 0 H
else
B_4_ofTwo_175 1 H)
else if (a0 : Int32) = 161 then
(if a3 < (a1 : Int64) then
B_4_ofTwo_187 0 H
else
B_4_ofTwo_187 1 H)
else if (a0 : Int32) = 162 then
(if (a1 : Int64) < a3 then
B_4_ofTwo_199 0 H
else
B_4_ofTwo_199 1 H)
else if (a0 : Int32) = 163 then
some ((jminL a1 a3), H)
else 
some ((jmaxL a1 a3), H))
def B_4_calculate_67  (a0 : Nat) (H : jH) : Option (Unit × jH) :=
jg ((jK H a0).1 = 4) (
jl (jsI H a0 9 2) fun h1 =>
some ((), h1))
def B_4_calculate_231   (H : jH) : Option (Unit × jH) :=
some ((), H)
def B_4_calculate_189  (s0 : Nat) (s1 : Int64) (H : jH) : Option (Unit × jH) :=
jg ((jK H s0).1 = 9) (
jb (F_9_putNumber s0 s1 H) fun x2 h3 =>
B_4_calculate_231 h3)
def B_4_calculate_188  (s0 : Nat) (H : jH) : Option (Unit × jH) :=
B_4_calculate_189 s0 0 H
def B_4_calculate_75 (k75 : Nat → Int32 → Int32 → Int32 → jH → Option (Unit × jH)) (a0 : Nat) (a1 : Int32) (a2 : Int32) (a3 : Int32) (H : jH) : Option (Unit × jH) :=
(if (a2 : Int32) < (a3 : Int32) then
jg ((jK H a0).1 = 4) (
jg ((jK H (jR H a0 1)).1 = 9) (
jb (F_9_number (jR H a0 1) 1 H) fun x4 h5 =>
jg ((jK h5 a0).1 = 4) (
jg ((jK h5 (jR h5 a0 1)).1 = 9) (
jb (F_9_number (jR h5 a0 1) 2 h5) fun x6 h7 =>
jg ((jK h7 a0).1 = 4) (
jg ((jK h7 (jR h7 a0 1)).1 = 9) (
jb (F_9_number (jR h7 a0 1) 3 h7) fun x8 h9 =>
jg ((jK h9 a0).1 = 4) (
jg ((jK h9 (jR h9 a0 1)).1 = 9) (
jb (F_9_drop (jR h9 a0 1) a2 h9) fun x10 h11 =>
(if ¬ (a2 : Int32) = (1 : Int32) then
(if ¬ (a2 : Int32) = (3 : Int32) then
(if (a1 : Int32) = (157 : Int32) then
(if (x6 : Int64) = x4 then
B_4_calculate_231 h11
else
jg ((jK h11 a0).1 = 4) (
jl (jsI h11 a0 9 2) fun h12 =>
B_4_calculate_231 h12))
else
jg ((jK h11 a0).1 = 4) (
jb (F_4_ofTwo a1 x6 x4 h11) fun x13 h14 =>
jg ((jK h14 (jR h11 a0 1)).1 = 9) (
jb (F_9_putNumber (jR h11 a0 1) x13 h14) fun x15 h16 =>
B_4_calculate_231 h16)))
else
jg ((jK h11 a0).1 = 4) (
(if x8 < (x6 : Int64) then
B_4_calculate_188 (jR h11 a0 1) h11
else
(if x4 ≤ (x8 : Int64) then
B_4_calculate_188 (jR h11 a0 1) h11
else
B_4_calculate_189 (jR h11 a0 1) 1 h11))))
else
jg ((jK h11 a0).1 = 4) (
jb (F_4_ofOne a1 x4 h11) fun x17 h18 =>
jg ((jK h18 (jR h11 a0 1)).1 = 9) (
jb (F_9_putNumber (jR h11 a0 1) x17 h18) fun x19 h20 =>
B_4_calculate_231 h20)))))))))))
else
jg ((jK H a0).1 = 4) (
jg ((jK H (jR H a0 1)).1 = 9) (
jb (F_9_isNumber (jR H a0 1) a3 H) fun x21 h22 =>
(if ¬ (x21 : Int32) = 0 then
jl (a3 + 1) fun x23 =>
k75 a0 a1 a2 x23 h22
else
jg ((jK h22 a0).1 = 4) (
jl (jsI h22 a0 9 2) fun h24 =>
some ((), h24))))))
def F_4_calculate_75  : Nat → Nat → Int32 → Int32 → Int32 → jH → Option (Unit × jH)
  | 0 => fun _ _ _ _ _ => none
  | n + 1 => fun a0 a1 a2 a3 H => B_4_calculate_75 (F_4_calculate_75  n) a0 a1 a2 a3 H
def B_4_calculate_59  (a0 : Nat) (a1 : Int32) (a2 : Int32) (H : jH) : Option (Unit × jH) :=
jg ((jK H a0).1 = 4) (
jb (F_4_has a0 a2 H) fun x25 h26 =>
(if ¬ (x25 : Int32) = 0 then
F_4_calculate_75 jfuel a0 a1 a2 1 h26
else
B_4_calculate_67 a0 h26))
def B_4_calculate_23  (a0 : Nat) (a1 : Int32) (s0 : Int32) (H : jH) : Option (Unit × jH) :=
(if (a1 : Int32) < (139 : Int32) then
B_4_calculate_67 a0 H
else
(if (a1 : Int32) = (141 : Int32) then
B_4_calculate_67 a0 H
else
(if (a1 : Int32) = (142 : Int32) then
B_4_calculate_67 a0 H
else
(if (a1 : Int32) ≤ (148 : Int32) then
B_4_calculate_59 a0 a1 s0 H
else
(if (a1 : Int32) < (154 : Int32) then
B_4_calculate_67 a0 H
else
B_4_calculate_59 a0 a1 s0 H)))))
def F_4_calculate (a0 : Nat) (a1 : Int32) (H : jH) : Option (Unit × jH) :=
(if (146 : Int32) < (a1 : Int32) then
(if ¬ (a1 : Int32) = (165 : Int32) then
B_4_calculate_23 a0 a1 2 H
else
B_4_calculate_23 a0 a1 3 H)
else
B_4_calculate_23 a0 a1 1 H)
def B_9_isTopTwice_33   (H : jH) : Option (Int32 × jH) :=
jg ((0 : Int32) = 0 ∨ (0 : Int32) = 1) (some (0, H))
def B_9_isTopTwice_37 (k37 : Nat → Int32 → jH → Option (Int32 × jH)) (a0 : Nat) (a1 : Int32) (H : jH) : Option (Int32 × jH) :=
jg ((jK H a0).1 = 9) (
jg ((jK H a0).1 = 9) (
jg ((jK H (jR H a0 1)).1 = 100 ∧ jin (((jI H a0 2) - 1)) (jK H (jR H a0 1)).2) (
(if ((jI H (jR H a0 1) (((jI H a0 2) - 1) : Int32).toNatClampNeg) : Int32) ≤ (a1 : Int32) then
jg ((1 : Int32) = 0 ∨ (1 : Int32) = 1) (some (1, H))
else
jg ((jK H a0).1 = 9) (
jg ((jK H a0).1 = 9) (
jg ((jK H (jR H a0 0)).1 = 110 ∧ jin (((jI H a0 2) - 1)) (jK H (jR H a0 0)).2) (
jg ((jK H (jR H (jR H a0 0) (((jI H a0 2) - 1) : Int32).toNatClampNeg)).1 = 101 ∧ jin (a1) (jK H (jR H (jR H a0 0) (((jI H a0 2) - 1) : Int32).toNatClampNeg)).2) (
jg ((jK H a0).1 = 9) (
jg ((jK H a0).1 = 9) (
jg ((jK H (jR H a0 0)).1 = 110 ∧ jin (((jI H a0 2) - 2)) (jK H (jR H a0 0)).2) (
jg ((jK H (jR H (jR H a0 0) (((jI H a0 2) - 2) : Int32).toNatClampNeg)).1 = 101 ∧ jin (a1) (jK H (jR H (jR H a0 0) (((jI H a0 2) - 2) : Int32).toNatClampNeg)).2) (
(if ((jbs (jB H (jR H (jR H a0 0) (((jI H a0 2) - 1) : Int32).toNatClampNeg) (a1 : Int32).toNatClampNeg)) : Int32) = ((jbs (jB H (jR H (jR H a0 0) (((jI H a0 2) - 2) : Int32).toNatClampNeg) (a1 : Int32).toNatClampNeg)) : Int32) then
jl (a1 + 1) fun x1 =>
k37 a0 x1 H
else
jg ((0 : Int32) = 0 ∨ (0 : Int32) = 1) (some (0, H)))))))))))))))
def F_9_isTopTwice_37  : Nat → Nat → Int32 → jH → Option (Int32 × jH)
  | 0 => fun _ _ _ => none
  | n + 1 => fun a0 a1 H => B_9_isTopTwice_37 (F_9_isTopTwice_37  n) a0 a1 H
def F_9_isTopTwice (a0 : Nat) (H : jH) : Option (Int32 × jH) :=
jg ((jK H a0).1 = 9) (
(if ((jI H a0 2) : Int32) < (2 : Int32) then
B_9_isTopTwice_33 H
else
jg ((jK H a0).1 = 9) (
jg ((jK H a0).1 = 9) (
jg ((jK H (jR H a0 1)).1 = 100 ∧ jin (((jI H a0 2) - 1)) (jK H (jR H a0 1)).2) (
jg ((jK H a0).1 = 9) (
jg ((jK H a0).1 = 9) (
jg ((jK H (jR H a0 1)).1 = 100 ∧ jin (((jI H a0 2) - 2)) (jK H (jR H a0 1)).2) (
(if ((jI H (jR H a0 1) (((jI H a0 2) - 1) : Int32).toNatClampNeg) : Int32) = ((jI H (jR H a0 1) (((jI H a0 2) - 2) : Int32).toNatClampNeg) : Int32) then
F_9_isTopTwice_37 jfuel a0 0 H
else
B_9_isTopTwice_33 H)))))))))
def B_4_compare_15  (a0 : Nat) (H : jH) : Option (Unit × jH) :=
jg ((jK H a0).1 = 4) (
jl (jsI H a0 9 2) fun h1 =>
some ((), h1))
def B_4_compare_72   (H : jH) : Option (Unit × jH) :=
some ((), H)
def B_4_compare_57  (s0 : Nat) (s1 : Int64) (H : jH) : Option (Unit × jH) :=
jg ((jK H s0).1 = 9) (
jb (F_9_putNumber s0 s1 H) fun x2 h3 =>
B_4_compare_72 h3)
def F_4_compare (a0 : Nat) (a1 : Int32) (H : jH) : Option (Unit × jH) :=
(if (a1 : Int32) < (135 : Int32) then
B_4_compare_15 a0 H
else
jg ((jK H a0).1 = 4) (
jb (F_4_has a0 2 H) fun x4 h5 =>
(if ¬ (x4 : Int32) = 0 then
jg ((jK h5 a0).1 = 4) (
jg ((jK h5 (jR h5 a0 1)).1 = 9) (
jb (F_9_isTopTwice (jR h5 a0 1) h5) fun x6 h7 =>
jg ((jK h7 a0).1 = 4) (
jg ((jK h7 (jR h7 a0 1)).1 = 9) (
jb (F_9_drop (jR h7 a0 1) 2 h7) fun x8 h9 =>
(if ¬ (a1 : Int32) = (135 : Int32) then
(if ¬ (x6 : Int32) = 0 then
B_4_compare_72 h9
else
jg ((jK h9 a0).1 = 4) (
jl (jsI h9 a0 9 2) fun h10 =>
B_4_compare_72 h10))
else
jg ((jK h9 a0).1 = 4) (
(if (x6 : Int32) = 0 then
B_4_compare_57 (jR h9 a0 1) 0 h9
else
B_4_compare_57 (jR h9 a0 1) 1 h9)))))))
else
B_4_compare_15 a0 h5)))
def B_3_ripe_159 (k63 : Nat → Nat → Int32 → Int32 → Int32 → jH → Option (Unit × jH)) (a0 : Nat) (a1 : Nat) (a2 : Int32) (a3 : Int32) (a4 : Int32) (s0 : Nat) (s1 : Int32) (s2 : Int32) (H : jH) : Option (Unit × jH) :=
jg ((jK H s0).1 = 100 ∧ jF0 ≤ s0 ∧ jin (s1) (jK H s0).2) (
jl (jsI H s0 (s1 : Int32).toNatClampNeg s2) fun h1 =>
jl (a4 + 1) fun x2 =>
k63 a0 a1 a2 a3 x2 h1)
def B_3_ripe_380 (k243 : Nat → Nat → Int32 → Int32 → Int32 → Int32 → Int32 → Int32 → Int32 → Int32 → Int32 → jH → Option (Unit × jH)) (a0 : Nat) (a1 : Nat) (a2 : Int32) (a3 : Int32) (a4 : Int32) (a5 : Int32) (a6 : Int32) (a7 : Int32) (a8 : Int32) (a9 : Int32) (a10 : Int32) (a11 : Int32) (s0 : Int32) (H : jH) : Option (Unit × jH) :=
jg ((jK H a0).1 = 3) (
jg ((jK H 3).1 = 100 ∧ jin (a10) (jK H 3).2) (
jg ((jK H (jR H a0 3)).1 = 100 ∧ jin ((jI H 3 (a10 : Int32).toNatClampNeg)) (jK H (jR H a0 3)).2) (
jg ((jK H 5).1 = 100 ∧ jin (a11) (jK H 5).2) (
jl (((a5 + s0) + (jI H (jR H a0 3) ((jI H 3 (a10 : Int32).toNatClampNeg) : Int32).toNatClampNeg)) + (jI H 5 (a11 : Int32).toNatClampNeg)) fun x3 =>
jg ((jK H 4).1 = 100 ∧ jin (a10) (jK H 4).2) (
jg ((jK H 4).1 = 100 ∧ jin (a10) (jK H 4).2) (
jl (((jshl x3 (jI H 4 (a10 : Int32).toNatClampNeg)) ||| (jushr x3 (32 - (jI H 4 (a10 : Int32).toNatClampNeg)))) + a9) fun x4 =>
jl ((jshl a7 10) ||| (jushr a7 22)) fun x5 =>
jl (a10 + 1) fun x6 =>
k243 a0 a1 a2 a3 a4 a9 x4 a6 x5 a8 x6 H))))))
def B_3_ripe_275 (k243 : Nat → Nat → Int32 → Int32 → Int32 → Int32 → Int32 → Int32 → Int32 → Int32 → Int32 → jH → Option (Unit × jH)) (a0 : Nat) (a1 : Nat) (a2 : Int32) (a3 : Int32) (a4 : Int32) (a5 : Int32) (a6 : Int32) (a7 : Int32) (a8 : Int32) (a9 : Int32) (a10 : Int32) (a11 : Int32) (H : jH) : Option (Unit × jH) :=
B_3_ripe_380 k243 a0 a1 a2 a3 a4 a5 a6 a7 a8 a9 a10 a11 ((a6 ^^^ a7) ^^^ a8) H
def B_3_ripe_299 (k243 : Nat → Nat → Int32 → Int32 → Int32 → Int32 → Int32 → Int32 → Int32 → Int32 → Int32 → jH → Option (Unit × jH)) (a0 : Nat) (a1 : Nat) (a2 : Int32) (a3 : Int32) (a4 : Int32) (a5 : Int32) (a6 : Int32) (a7 : Int32) (a8 : Int32) (a9 : Int32) (a10 : Int32) (a11 : Int32) (H : jH) : Option (Unit × jH) :=
B_3_ripe_380 k243 a0 a1 a2 a3 a4 a5 a6 a7 a8 a9 a10 a11 ((a6 &&& a7) ||| ((a6 ^^^ (-1)) &&& a8)) H
def B_3_ripe_328 (k243 : Nat → Nat → Int32 → Int32 → Int32 → Int32 → Int32 → Int32 → Int32 → Int32 → Int32 → jH → Option (Unit × jH)) (a0 : Nat) (a1 : Nat) (a2 : Int32) (a3 : Int32) (a4 : Int32) (a5 : Int32) (a6 : Int32) (a7 : Int32) (a8 : Int32) (a9 : Int32) (a10 : Int32) (a11 : Int32) (H : jH) : Option (Unit × jH) :=
B_3_ripe_380 k243 a0 a1 a2 a3 a4 a5 a6 a7 a8 a9 a10 a11 ((a6 ||| (a7 ^^^ (-1))) ^^^ a8) H
def B_3_ripe_354 (k243 : Nat → Nat → Int32 → Int32 → Int32 → Int32 → Int32 → Int32 → Int32 → Int32 → Int32 → jH → Option (Unit × jH)) (a0 : Nat) (a1 : Nat) (a2 : Int32) (a3 : Int32) (a4 : Int32) (a5 : Int32) (a6 : Int32) (a7 : Int32) (a8 : Int32) (a9 : Int32) (a10 : Int32) (a11 : Int32) (H : jH) : Option (Unit × jH) :=
B_3_ripe_380 k243 a0 a1 a2 a3 a4 a5 a6 a7 a8 a9 a10 a11 ((a6 &&& a8) ||| (a7 &&& (a8 ^^^ (-1)))) H
def B_3_ripe_632 (k190 : Nat → Nat → Int32 → Int32 → Int32 → jH → Option (Unit × jH)) (a0 : Nat) (a1 : Nat) (a2 : Int32) (a3 : Int32) (a4 : Int32) (H : jH) : Option (Unit × jH) :=
jl (a4 + 1) fun x7 =>
k190 a0 a1 a2 a3 x7 H
def B_3_ripe_243 (k190 : Nat → Nat → Int32 → Int32 → Int32 → jH → Option (Unit × jH)) (k243 : Nat → Nat → Int32 → Int32 → Int32 → Int32 → Int32 → Int32 → Int32 → Int32 → Int32 → jH → Option (Unit × jH)) (a0 : Nat) (a1 : Nat) (a2 : Int32) (a3 : Int32) (a4 : Int32) (a5 : Int32) (a6 : Int32) (a7 : Int32) (a8 : Int32) (a9 : Int32) (a10 : Int32) (H : jH) : Option (Unit × jH) :=
(if (((80 * a4) + 80) : Int32) ≤ (a10 : Int32) then
(if ¬ (a4 : Int32) = 0 then
jg ((jK H a0).1 = 3) (
jg ((jK H (jR H a0 2)).1 = 100 ∧ jin (1) (jK H (jR H a0 2)).2) (
jg ((jK H a0).1 = 3) (
jg ((jK H (jR H a0 4)).1 = 100 ∧ jin (2) (jK H (jR H a0 4)).2) (
jl (((jI H (jR H a0 2) (1 : Int32).toNatClampNeg) + (jI H (jR H a0 4) (2 : Int32).toNatClampNeg)) + a8) fun x8 =>
jg ((jK H a0).1 = 3) (
jg ((jK H a0).1 = 3) (
jg ((jK H (jR H a0 2)).1 = 100 ∧ jin (2) (jK H (jR H a0 2)).2) (
jg ((jK H a0).1 = 3) (
jg ((jK H (jR H a0 4)).1 = 100 ∧ jin (3) (jK H (jR H a0 4)).2) (
jg ((jK H (jR H a0 2)).1 = 100 ∧ jF0 ≤ (jR H a0 2) ∧ jin (1) (jK H (jR H a0 2)).2) (
jl (jsI H (jR H a0 2) (1 : Int32).toNatClampNeg (((jI H (jR H a0 2) (2 : Int32).toNatClampNeg) + (jI H (jR H a0 4) (3 : Int32).toNatClampNeg)) + a9)) fun h9 =>
jg ((jK h9 a0).1 = 3) (
jg ((jK h9 a0).1 = 3) (
jg ((jK h9 (jR h9 a0 2)).1 = 100 ∧ jin (3) (jK h9 (jR h9 a0 2)).2) (
jg ((jK h9 a0).1 = 3) (
jg ((jK h9 (jR h9 a0 4)).1 = 100 ∧ jin (4) (jK h9 (jR h9 a0 4)).2) (
jg ((jK h9 (jR h9 a0 2)).1 = 100 ∧ jF0 ≤ (jR h9 a0 2) ∧ jin (2) (jK h9 (jR h9 a0 2)).2) (
jl (jsI h9 (jR h9 a0 2) (2 : Int32).toNatClampNeg (((jI h9 (jR h9 a0 2) (3 : Int32).toNatClampNeg) + (jI h9 (jR h9 a0 4) (4 : Int32).toNatClampNeg)) + a5)) fun h10 =>
jg ((jK h10 a0).1 = 3) (
jg ((jK h10 a0).1 = 3) (
jg ((jK h10 (jR h10 a0 2)).1 = 100 ∧ jin (4) (jK h10 (jR h10 a0 2)).2) (
jg ((jK h10 a0).1 = 3) (
jg ((jK h10 (jR h10 a0 4)).1 = 100 ∧ jin (0) (jK h10 (jR h10 a0 4)).2) (
jg ((jK h10 (jR h10 a0 2)).1 = 100 ∧ jF0 ≤ (jR h10 a0 2) ∧ jin (3) (jK h10 (jR h10 a0 2)).2) (
jl (jsI h10 (jR h10 a0 2) (3 : Int32).toNatClampNeg (((jI h10 (jR h10 a0 2) (4 : Int32).toNatClampNeg) + (jI h10 (jR h10 a0 4) (0 : Int32).toNatClampNeg)) + a6)) fun h11 =>
jg ((jK h11 a0).1 = 3) (
jg ((jK h11 a0).1 = 3) (
jg ((jK h11 (jR h11 a0 2)).1 = 100 ∧ jin (0) (jK h11 (jR h11 a0 2)).2) (
jg ((jK h11 a0).1 = 3) (
jg ((jK h11 (jR h11 a0 4)).1 = 100 ∧ jin (1) (jK h11 (jR h11 a0 4)).2) (
jg ((jK h11 (jR h11 a0 2)).1 = 100 ∧ jF0 ≤ (jR h11 a0 2) ∧ jin (4) (jK h11 (jR h11 a0 2)).2) (
jl (jsI h11 (jR h11 a0 2) (4 : Int32).toNatClampNeg (((jI h11 (jR h11 a0 2) (0 : Int32).toNatClampNeg) + (jI h11 (jR h11 a0 4) (1 : Int32).toNatClampNeg)) + a7)) fun h12 =>
jg ((jK h12 a0).1 = 3) (
jg ((jK h12 (jR h12 a0 2)).1 = 100 ∧ jF0 ≤ (jR h12 a0 2) ∧ jin (0) (jK h12 (jR h12 a0 2)).2) (
jl (jsI h12 (jR h12 a0 2) (0 : Int32).toNatClampNeg x8) fun h13 =>
B_3_ripe_632 k190 a0 a1 a2 a3 a4 h13))))))))))))))))))))))))))))))
else
jg ((jK H a0).1 = 3) (
jg ((jK H (jR H a0 4)).1 = 100 ∧ jF0 ≤ (jR H a0 4) ∧ jin (0) (jK H (jR H a0 4)).2) (
jl (jsI H (jR H a0 4) (0 : Int32).toNatClampNeg a5) fun h14 =>
jg ((jK h14 a0).1 = 3) (
jg ((jK h14 (jR h14 a0 4)).1 = 100 ∧ jF0 ≤ (jR h14 a0 4) ∧ jin (1) (jK h14 (jR h14 a0 4)).2) (
jl (jsI h14 (jR h14 a0 4) (1 : Int32).toNatClampNeg a6) fun h15 =>
jg ((jK h15 a0).1 = 3) (
jg ((jK h15 (jR h15 a0 4)).1 = 100 ∧ jF0 ≤ (jR h15 a0 4) ∧ jin (2) (jK h15 (jR h15 a0 4)).2) (
jl (jsI h15 (jR h15 a0 4) (2 : Int32).toNatClampNeg a7) fun h16 =>
jg ((jK h16 a0).1 = 3) (
jg ((jK h16 (jR h16 a0 4)).1 = 100 ∧ jF0 ≤ (jR h16 a0 4) ∧ jin (3) (jK h16 (jR h16 a0 4)).2) (
jl (jsI h16 (jR h16 a0 4) (3 : Int32).toNatClampNeg a8) fun h17 =>
jg ((jK h17 a0).1 = 3) (
jg ((jK h17 (jR h17 a0 4)).1 = 100 ∧ jF0 ≤ (jR h17 a0 4) ∧ jin (4) (jK h17 (jR h17 a0 4)).2) (
jl (jsI h17 (jR h17 a0 4) (4 : Int32).toNatClampNeg a9) fun h18 =>
B_3_ripe_632 k190 a0 a1 a2 a3 a4 h18)))))))))))
else
jg (¬ (16 : Int32) = 0) (
jl (a10 / 16) fun x19 =>
(if (x19 : Int32) = 0 then
B_3_ripe_275 k243 a0 a1 a2 a3 a4 a5 a6 a7 a8 a9 a10 x19 H
else
(if ¬ (x19 : Int32) = (9 : Int32) then
(if (x19 : Int32) = (1 : Int32) then
B_3_ripe_299 k243 a0 a1 a2 a3 a4 a5 a6 a7 a8 a9 a10 x19 H
else
(if ¬ (x19 : Int32) = (8 : Int32) then
(if (x19 : Int32) = (2 : Int32) then
B_3_ripe_328 k243 a0 a1 a2 a3 a4 a5 a6 a7 a8 a9 a10 x19 H
else
(if ¬ (x19 : Int32) = (7 : Int32) then
(if (x19 : Int32) = (3 : Int32) then
B_3_ripe_354 k243 a0 a1 a2 a3 a4 a5 a6 a7 a8 a9 a10 x19 H
else
(if ¬ (x19 : Int32) = (6 : Int32) then
B_3_ripe_380 k243 a0 a1 a2 a3 a4 a5 a6 a7 a8 a9 a10 x19 (a6 ^^^ (a7 ||| (a8 ^^^ (-1)))) H
else
B_3_ripe_354 k243 a0 a1 a2 a3 a4 a5 a6 a7 a8 a9 a10 x19 H))
else
B_3_ripe_328 k243 a0 a1 a2 a3 a4 a5 a6 a7 a8 a9 a10 x19 H))
else
B_3_ripe_299 k243 a0 a1 a2 a3 a4 a5 a6 a7 a8 a9 a10 x19 H))
else
B_3_ripe_275 k243 a0 a1 a2 a3 a4 a5 a6 a7 a8 a9 a10 x19 H))))
def F_3_ripe_243 (k190 : Nat → Nat → Int32 → Int32 → Int32 → jH → Option (Unit × jH)) : Nat → Nat → Nat → Int32 → Int32 → Int32 → Int32 → Int32 → Int32 → Int32 → Int32 → Int32 → jH → Option (Unit × jH)
  | 0 => fun _ _ _ _ _ _ _ _ _ _ _ _ => none
  | n + 1 => fun a0 a1 a2 a3 a4 a5 a6 a7 a8 a9 a10 H => B_3_ripe_243 k190 (F_3_ripe_243 k190 n) a0 a1 a2 a3 a4 a5 a6 a7 a8 a9 a10 H
def B_3_ripe_190 (k55 : Nat → Nat → Int32 → Int32 → jH → Option (Unit × jH)) (k190 : Nat → Nat → Int32 → Int32 → Int32 → jH → Option (Unit × jH)) (a0 : Nat) (a1 : Nat) (a2 : Int32) (a3 : Int32) (a4 : Int32) (H : jH) : Option (Unit × jH) :=
(if (2 : Int32) ≤ (a4 : Int32) then
jl (a3 + 1) fun x20 =>
k55 a0 a1 a2 x20 H
else
jg ((jK H a0).1 = 3) (
jg ((jK H (jR H a0 2)).1 = 100 ∧ jin (0) (jK H (jR H a0 2)).2) (
jl (jI H (jR H a0 2) (0 : Int32).toNatClampNeg) fun x21 =>
jg ((jK H a0).1 = 3) (
jg ((jK H (jR H a0 2)).1 = 100 ∧ jin (1) (jK H (jR H a0 2)).2) (
jl (jI H (jR H a0 2) (1 : Int32).toNatClampNeg) fun x22 =>
jg ((jK H a0).1 = 3) (
jg ((jK H (jR H a0 2)).1 = 100 ∧ jin (2) (jK H (jR H a0 2)).2) (
jl (jI H (jR H a0 2) (2 : Int32).toNatClampNeg) fun x23 =>
jg ((jK H a0).1 = 3) (
jg ((jK H (jR H a0 2)).1 = 100 ∧ jin (3) (jK H (jR H a0 2)).2) (
jl (jI H (jR H a0 2) (3 : Int32).toNatClampNeg) fun x24 =>
jg ((jK H a0).1 = 3) (
jg ((jK H (jR H a0 2)).1 = 100 ∧ jin (4) (jK H (jR H a0 2)).2) (
jl (jI H (jR H a0 2) (4 : Int32).toNatClampNeg) fun x25 =>
jl (80 * a4) fun x26 =>
F_3_ripe_243 k190 jfuel a0 a1 a2 a3 a4 x21 x22 x23 x24 x25 x26 H)))))))))))
def F_3_ripe_190 (k55 : Nat → Nat → Int32 → Int32 → jH → Option (Unit × jH)) : Nat → Nat → Nat → Int32 → Int32 → Int32 → jH → Option (Unit × jH)
  | 0 => fun _ _ _ _ _ _ => none
  | n + 1 => fun a0 a1 a2 a3 a4 H => B_3_ripe_190 k55 (F_3_ripe_190 k55 n) a0 a1 a2 a3 a4 H
def B_3_ripe_187 (k55 : Nat → Nat → Int32 → Int32 → jH → Option (Unit × jH)) (a0 : Nat) (a1 : Nat) (a2 : Int32) (a3 : Int32) (H : jH) : Option (Unit × jH) :=
F_3_ripe_190 k55 jfuel a0 a1 a2 a3 0 H
def B_3_ripe_63 (k55 : Nat → Nat → Int32 → Int32 → jH → Option (Unit × jH)) (k63 : Nat → Nat → Int32 → Int32 → Int32 → jH → Option (Unit × jH)) (a0 : Nat) (a1 : Nat) (a2 : Int32) (a3 : Int32) (a4 : Int32) (H : jH) : Option (Unit × jH) :=
(if (16 : Int32) ≤ (a4 : Int32) then
(if ¬ (a3 : Int32) = ((a2 - 1) : Int32) then
B_3_ripe_187 k55 a0 a1 a2 a3 H
else
jg ((jK H a0).1 = 3) (
jg ((jK H a0).1 = 3) (
jg ((jK H (jR H a0 3)).1 = 100 ∧ jF0 ≤ (jR H a0 3) ∧ jin (14) (jK H (jR H a0 3)).2) (
jl (jsI H (jR H a0 3) (14 : Int32).toNatClampNeg (8 * (jI H a0 1))) fun h27 =>
B_3_ripe_187 k55 a0 a1 a2 a3 h27))))
else
jl ((64 * a3) + (4 * a4)) fun x28 =>
jg ((jK H a0).1 = 3) (
(if ((x28 + 3) : Int32) < (2560 : Int32) then
jg ((jK H a0).1 = 3) (
jg ((jK H (jR H a0 0)).1 = 101 ∧ jin ((x28 + 3)) (jK H (jR H a0 0)).2) (
jg ((jK H a0).1 = 3) (
jg ((jK H (jR H a0 0)).1 = 101 ∧ jin ((x28 + 2)) (jK H (jR H a0 0)).2) (
jg ((jK H a0).1 = 3) (
jg ((jK H (jR H a0 0)).1 = 101 ∧ jin ((x28 + 1)) (jK H (jR H a0 0)).2) (
jg ((jK H a0).1 = 3) (
jg ((jK H (jR H a0 0)).1 = 101 ∧ jin (x28) (jK H (jR H a0 0)).2) (
B_3_ripe_159 k63 a0 a1 a2 a3 a4 (jR H a0 3) a4 ((((jshl (jbs (jB H (jR H a0 0) ((x28 + 3) : Int32).toNatClampNeg)) 24) ||| (jshl ((jbs (jB H (jR H a0 0) ((x28 + 2) : Int32).toNatClampNeg)) &&& 255) 16)) ||| (jshl ((jbs (jB H (jR H a0 0) ((x28 + 1) : Int32).toNatClampNeg)) &&& 255) 8)) ||| ((jbs (jB H (jR H a0 0) (x28 : Int32).toNatClampNeg)) &&& 255)) H))))))))
else
B_3_ripe_159 k63 a0 a1 a2 a3 a4 (jR H a0 3) a4 0 H)))
def F_3_ripe_63 (k55 : Nat → Nat → Int32 → Int32 → jH → Option (Unit × jH)) : Nat → Nat → Nat → Int32 → Int32 → Int32 → jH → Option (Unit × jH)
  | 0 => fun _ _ _ _ _ _ => none
  | n + 1 => fun a0 a1 a2 a3 a4 H => B_3_ripe_63 k55 (F_3_ripe_63 k55 n) a0 a1 a2 a3 a4 H
def B_3_ripe_683   (H : jH) : Option (Unit × jH) :=
some ((), H)
def B_3_ripe_646 (k646 : Nat → Nat → Int32 → jH → Option (Unit × jH)) (a0 : Nat) (a1 : Nat) (a3 : Int32) (H : jH) : Option (Unit × jH) :=
(if (20 : Int32) ≤ (a3 : Int32) then
B_3_ripe_683 H
else
jg ((jK H a1).1 = 101) (
(if ((Int32.ofNat (jK H a1).2) : Int32) ≤ (a3 : Int32) then
B_3_ripe_683 H
else
jg ((jK H a0).1 = 3) (
jg (¬ (4 : Int32) = 0) (
jg ((jK H (jR H a0 2)).1 = 100 ∧ jin ((a3 / 4)) (jK H (jR H a0 2)).2) (
jg (¬ (4 : Int32) = 0) (
jg ((jK H a1).1 = 101 ∧ jin (a3) (jK H a1).2) (
jl (jsB H a1 (a3 : Int32).toNatClampNeg (jbu (ji2b (jushr (jI H (jR H a0 2) ((a3 / 4) : Int32).toNatClampNeg) (8 * (jrem a3 4)))))) fun h29 =>
jl (a3 + 1) fun x30 =>
k646 a0 a1 x30 h29))))))))
def F_3_ripe_646  : Nat → Nat → Nat → Int32 → jH → Option (Unit × jH)
  | 0 => fun _ _ _ _ => none
  | n + 1 => fun a0 a1 a3 H => B_3_ripe_646 (F_3_ripe_646  n) a0 a1 a3 H
def B_3_ripe_55 (k55 : Nat → Nat → Int32 → Int32 → jH → Option (Unit × jH)) (a0 : Nat) (a1 : Nat) (a2 : Int32) (a3 : Int32) (H : jH) : Option (Unit × jH) :=
(if (a2 : Int32) ≤ (a3 : Int32) then
F_3_ripe_646 jfuel a0 a1 0 H
else
F_3_ripe_63 k55 jfuel a0 a1 a2 a3 0 H)
def F_3_ripe_55  : Nat → Nat → Nat → Int32 → Int32 → jH → Option (Unit × jH)
  | 0 => fun _ _ _ _ _ => none
  | n + 1 => fun a0 a1 a2 a3 H => B_3_ripe_55 (F_3_ripe_55  n) a0 a1 a2 a3 H
def F_3_ripe (a0 : Nat) (a1 : Nat) (H : jH) : Option (Unit × jH) :=
jg ((jK H a0).1 = 3) (
jg ((jK H (jR H a0 2)).1 = 100 ∧ jF0 ≤ (jR H a0 2) ∧ jin (0) (jK H (jR H a0 2)).2) (
jl (jsI H (jR H a0 2) (0 : Int32).toNatClampNeg 1732584193) fun h31 =>
jg ((jK h31 a0).1 = 3) (
jg ((jK h31 (jR h31 a0 2)).1 = 100 ∧ jF0 ≤ (jR h31 a0 2) ∧ jin (1) (jK h31 (jR h31 a0 2)).2) (
jl (jsI h31 (jR h31 a0 2) (1 : Int32).toNatClampNeg (-271733879)) fun h32 =>
jg ((jK h32 a0).1 = 3) (
jg ((jK h32 (jR h32 a0 2)).1 = 100 ∧ jF0 ≤ (jR h32 a0 2) ∧ jin (2) (jK h32 (jR h32 a0 2)).2) (
jl (jsI h32 (jR h32 a0 2) (2 : Int32).toNatClampNeg (-1732584194)) fun h33 =>
jg ((jK h33 a0).1 = 3) (
jg ((jK h33 (jR h33 a0 2)).1 = 100 ∧ jF0 ≤ (jR h33 a0 2) ∧ jin (3) (jK h33 (jR h33 a0 2)).2) (
jl (jsI h33 (jR h33 a0 2) (3 : Int32).toNatClampNeg 271733878) fun h34 =>
jg ((jK h34 a0).1 = 3) (
jg ((jK h34 (jR h34 a0 2)).1 = 100 ∧ jF0 ≤ (jR h34 a0 2) ∧ jin (4) (jK h34 (jR h34 a0 2)).2) (
jl (jsI h34 (jR h34 a0 2) (4 : Int32).toNatClampNeg (-1009589776)) fun h35 =>
jg ((jK h35 a0).1 = 3) (
jg (¬ (64 : Int32) = 0) (
jl ((((jI h35 a0 1) + 8) / 64) + 1) fun x36 =>
F_3_ripe_55 jfuel a0 a1 x36 0 h35))))))))))))
def B_9_put_31   (H : jH) : Option (Unit × jH) :=
some ((), H)
def F_9_put (a0 : Nat) (a1 : Nat) (a2 : Int32) (a3 : Int32) (H : jH) : Option (Unit × jH) :=
jg ((jK H a0).1 = 9) (
(if (70 : Int32) ≤ ((jI H a0 2) : Int32) then
B_9_put_31 H
else
(if (a2 : Int32) < 0 then
B_9_put_31 H
else
(if (a3 : Int32) < 0 then
B_9_put_31 H
else
(if (120 : Int32) < (a3 : Int32) then
B_9_put_31 H
else
jg ((jK H a1).1 = 101) (
(if ((a2 + a3) : Int32) ≤ ((Int32.ofNat (jK H a1).2) : Int32) then
jg ((jK H a0).1 = 9) (
jg ((jK H a0).1 = 9) (
jg ((jK H (jR H a0 0)).1 = 110 ∧ jin ((jI H a0 2)) (jK H (jR H a0 0)).2) (
jg (jcg H 101 a1 (a2) (jR H (jR H a0 0) ((jI H a0 2) : Int32).toNatClampNeg) (0) (a3)) (
jl (jcpB H a1 (a2 : Int32).toNatClampNeg (jR H (jR H a0 0) ((jI H a0 2) : Int32).toNatClampNeg) (0 : Int32).toNatClampNeg (a3 : Int32).toNatClampNeg) fun h1 =>
jg ((jK h1 a0).1 = 9) (
jg ((jK h1 a0).1 = 9) (
jg ((jK h1 (jR h1 a0 1)).1 = 100 ∧ jF0 ≤ (jR h1 a0 1) ∧ jin ((jI h1 a0 2)) (jK h1 (jR h1 a0 1)).2) (
jl (jsI h1 (jR h1 a0 1) ((jI h1 a0 2) : Int32).toNatClampNeg a3) fun h2 =>
jg ((jK h2 a0).1 = 9) (
jg ((jK h2 a0).1 = 9) (
jl (jsI h2 a0 2 ((jI h2 a0 2) + 1)) fun h3 =>
some ((), h3))))))))))
else
B_9_put_31 H)))))))
def B_4_digest_15  (a0 : Nat) (H : jH) : Option (Unit × jH) :=
jg ((jK H a0).1 = 4) (
jl (jsI H a0 9 2) fun h1 =>
some ((), h1))
def B_4_digest_184  (s0 : Nat) (s1 : Nat) (s2 : Int32) (s3 : Int32) (H : jH) : Option (Unit × jH) :=
jg ((jK H s0).1 = 9) (
jb (F_9_put s0 s1 s2 s3 H) fun x2 h3 =>
some ((), h3))
def B_4_digest_177  (s0 : Nat) (s1 : Nat) (s2 : Int32) (H : jH) : Option (Unit × jH) :=
B_4_digest_184 s0 s1 s2 20 H
def B_4_digest_154  (a0 : Nat) (a1 : Int32) (H : jH) : Option (Unit × jH) :=
jg ((jK H a0).1 = 4) (
jg ((jK H a0).1 = 4) (
(if (a1 : Int32) = (166 : Int32) then
B_4_digest_177 (jR H a0 1) (jR H a0 4) 0 H
else
(if ¬ (a1 : Int32) = (169 : Int32) then
B_4_digest_184 (jR H a0 1) (jR H a0 4) 0 32 H
else
B_4_digest_177 (jR H a0 1) (jR H a0 4) 0 H))))
def B_4_digest_143  (a0 : Nat) (a1 : Int32) (H : jH) : Option (Unit × jH) :=
jg ((jK H a0).1 = 4) (
jg ((jK H a0).1 = 4) (
jg ((jK H (jR H a0 0)).1 = 3) (
jb (F_3_ripe (jR H a0 0) (jR H a0 4) H) fun x4 h5 =>
B_4_digest_154 a0 a1 h5)))
def B_4_digest_129  (a0 : Nat) (a1 : Int32) (H : jH) : Option (Unit × jH) :=
(if (a1 : Int32) = (166 : Int32) then
B_4_digest_143 a0 a1 H
else
(if ¬ (a1 : Int32) = (169 : Int32) then
B_4_digest_154 a0 a1 H
else
B_4_digest_143 a0 a1 H))
def B_4_digest_111  (a0 : Nat) (a1 : Int32) (H : jH) : Option (Unit × jH) :=
(if ¬ (a1 : Int32) = (170 : Int32) then
B_4_digest_129 a0 a1 H
else
jg ((jK H a0).1 = 4) (
jg ((jK H a0).1 = 4) (
jg ((jK H (jR H a0 0)).1 = 3) (
jb (F_3_digest (jR H a0 0) (jR H a0 4) H) fun x6 h7 =>
B_4_digest_129 a0 a1 h7))))
def B_4_digest_97  (a0 : Nat) (a1 : Int32) (H : jH) : Option (Unit × jH) :=
jg ((jK H a0).1 = 4) (
jg ((jK H a0).1 = 4) (
jg ((jK H (jR H a0 0)).1 = 3) (
jb (F_3_take (jR H a0 0) (jR H a0 4) 0 32 H) fun x8 h9 =>
B_4_digest_111 a0 a1 h9)))
def B_4_digest_83  (a0 : Nat) (a1 : Int32) (H : jH) : Option (Unit × jH) :=
(if (a1 : Int32) = (169 : Int32) then
B_4_digest_97 a0 a1 H
else
(if ¬ (a1 : Int32) = (170 : Int32) then
B_4_digest_111 a0 a1 H
else
B_4_digest_97 a0 a1 H))
def F_4_digest (a0 : Nat) (a1 : Int32) (H : jH) : Option (Unit × jH) :=
(if (a1 : Int32) = (167 : Int32) then
B_4_digest_15 a0 H
else
jg ((jK H a0).1 = 4) (
jb (F_4_has a0 1 H) fun x10 h11 =>
(if ¬ (x10 : Int32) = 0 then
jg ((jK h11 a0).1 = 4) (
jg ((jK h11 (jR h11 a0 1)).1 = 9) (
jl ((jI h11 (jR h11 a0 1) 2) - 1) fun x12 =>
jg ((jK h11 a0).1 = 4) (
jg ((jK h11 a0).1 = 4) (
jg ((jK h11 (jR h11 a0 1)).1 = 9) (
jg ((jK h11 (jR h11 (jR h11 a0 1) 0)).1 = 110 ∧ jin (x12) (jK h11 (jR h11 (jR h11 a0 1) 0)).2) (
jg ((jK h11 a0).1 = 4) (
jg ((jK h11 (jR h11 a0 1)).1 = 9) (
jg ((jK h11 (jR h11 (jR h11 a0 1) 1)).1 = 100 ∧ jin (x12) (jK h11 (jR h11 (jR h11 a0 1) 1)).2) (
jg ((jK h11 (jR h11 a0 0)).1 = 3) (
jb (F_3_take (jR h11 a0 0) (jR h11 (jR h11 (jR h11 a0 1) 0) (x12 : Int32).toNatClampNeg) 0 (jI h11 (jR h11 (jR h11 a0 1) 1) (x12 : Int32).toNatClampNeg) h11) fun x13 h14 =>
jg ((jK h14 a0).1 = 4) (
jg ((jK h14 (jR h14 a0 1)).1 = 9) (
jb (F_9_drop (jR h14 a0 1) 1 h14) fun x15 h16 =>
(if (a1 : Int32) = (166 : Int32) then
B_4_digest_83 a0 a1 h16
else
jg ((jK h16 a0).1 = 4) (
jg ((jK h16 a0).1 = 4) (
jg ((jK h16 (jR h16 a0 0)).1 = 3) (
jb (F_3_digest (jR h16 a0 0) (jR h16 a0 4) h16) fun x17 h18 =>
B_4_digest_83 a0 a1 h18))))))))))))))))
else
B_4_digest_15 a0 h11)))
def B_4_move_60  (a0 : Nat) (H : jH) : Option (Unit × jH) :=
jg ((jK H a0).1 = 4) (
jl (jsI H a0 9 2) fun h1 =>
some ((), h1))
def B_4_move_184   (H : jH) : Option (Unit × jH) :=
some ((), H)
def B_4_move_139 (k139 : Nat → Int32 → Int32 → Int32 → jH → Option (Unit × jH)) (a0 : Nat) (a2 : Int32) (a4 : Int32) (a5 : Int32) (H : jH) : Option (Unit × jH) :=
(if (((a2 + 3) + a4) : Int32) ≤ (a5 : Int32) then
B_4_move_184 H
else
jg ((jK H 6).1 = 100) (
(if ((Int32.ofNat (jK H 6).2) : Int32) ≤ (a5 : Int32) then
B_4_move_184 H
else
jg ((jK H a0).1 = 4) (
jg ((jK H a0).1 = 4) (
jg ((jK H 6).1 = 100 ∧ jin (a5) (jK H 6).2) (
jg ((jK H (jR H a0 1)).1 = 9) (
jb (F_9_putCopy (jR H a0 1) (jR H a0 3) ((jI H 6 (a5 : Int32).toNatClampNeg) - 1) H) fun x2 h3 =>
jl (a5 + 1) fun x4 =>
k139 a0 a2 a4 x4 h3)))))))
def F_4_move_139  : Nat → Nat → Int32 → Int32 → Int32 → jH → Option (Unit × jH)
  | 0 => fun _ _ _ _ _ => none
  | n + 1 => fun a0 a2 a4 a5 H => B_4_move_139 (F_4_move_139  n) a0 a2 a4 a5 H
def B_4_move_94 (k94 : Nat → Int32 → Int32 → Int32 → Int32 → jH → Option (Unit × jH)) (a0 : Nat) (a2 : Int32) (a3 : Int32) (a4 : Int32) (a5 : Int32) (H : jH) : Option (Unit × jH) :=
(if (a5 : Int32) ≤ 0 then
jg ((jK H a0).1 = 4) (
jg ((jK H (jR H a0 1)).1 = 9) (
jb (F_9_drop (jR H a0 1) a3 H) fun x5 h6 =>
jl (a2 + 3) fun x7 =>
F_4_move_139 jfuel a0 a2 a4 x7 h6))
else
jg ((jK H a0).1 = 4) (
jg ((jK H a0).1 = 4) (
jg ((jK H a0).1 = 4) (
jg ((jK H (jR H a0 1)).1 = 9) (
jg ((jK H (jR H a0 3)).1 = 9) (
jb (F_9_putCopy (jR H a0 3) (jR H a0 1) ((jI H (jR H a0 1) 2) - a5) H) fun x8 h9 =>
jl (a5 + (-1)) fun x10 =>
k94 a0 a2 a3 a4 x10 h9))))))
def F_4_move_94  : Nat → Nat → Int32 → Int32 → Int32 → Int32 → jH → Option (Unit × jH)
  | 0 => fun _ _ _ _ _ _ => none
  | n + 1 => fun a0 a2 a3 a4 a5 H => B_4_move_94 (F_4_move_94  n) a0 a2 a3 a4 a5 H
def B_4_move_36  (a0 : Nat) (a2 : Int32) (H : jH) : Option (Unit × jH) :=
jg ((jK H 6).1 = 100) (
(if ((Int32.ofNat (jK H 6).2) : Int32) ≤ ((a2 + 2) : Int32) then
B_4_move_60 a0 H
else
jg ((jK H 6).1 = 100 ∧ jin ((a2 + 1)) (jK H 6).2) (
jg ((jK H a0).1 = 4) (
jb (F_4_has a0 (jI H 6 ((a2 + 1) : Int32).toNatClampNeg) H) fun x11 h12 =>
(if ¬ (x11 : Int32) = 0 then
jg ((jK h12 6).1 = 100 ∧ jin ((a2 + 1)) (jK h12 6).2) (
jl (jI h12 6 ((a2 + 1) : Int32).toNatClampNeg) fun x13 =>
jg ((jK h12 6).1 = 100 ∧ jin ((a2 + 2)) (jK h12 6).2) (
jl (jI h12 6 ((a2 + 2) : Int32).toNatClampNeg) fun x14 =>
jg ((jK h12 a0).1 = 4) (
jg ((jK h12 (jR h12 a0 3)).1 = 9) (
jl (jsI h12 (jR h12 a0 3) 2 0) fun h15 =>
F_4_move_94 jfuel a0 a2 x13 x14 x13 h15))))
else
B_4_move_60 a0 h12)))))
def B_4_move_2 (k2 : Nat → Int32 → Int32 → jH → Option (Unit × jH)) (a0 : Nat) (a1 : Int32) (a2 : Int32) (H : jH) : Option (Unit × jH) :=
jg ((jK H 6).1 = 100) (
(if ((Int32.ofNat (jK H 6).2) : Int32) ≤ ((a2 + 2) : Int32) then
B_4_move_36 a0 a2 H
else
jg ((jK H 6).1 = 100 ∧ jin (a2) (jK H 6).2) (
(if ((jI H 6 (a2 : Int32).toNatClampNeg) : Int32) = (a1 : Int32) then
B_4_move_36 a0 a2 H
else
jg ((jK H 6).1 = 100 ∧ jin ((a2 + 2)) (jK H 6).2) (
jl (a2 + (3 + (jI H 6 ((a2 + 2) : Int32).toNatClampNeg))) fun x16 =>
k2 a0 a1 x16 H)))))
def F_4_move_2  : Nat → Nat → Int32 → Int32 → jH → Option (Unit × jH)
  | 0 => fun _ _ _ _ => none
  | n + 1 => fun a0 a1 a2 H => B_4_move_2 (F_4_move_2  n) a0 a1 a2 H
def F_4_move (a0 : Nat) (a1 : Int32) (H : jH) : Option (Unit × jH) :=
F_4_move_2 jfuel a0 a1 0 H
def B_4_part_237   (H : jH) : Option (Unit × jH) :=
some ((), H)
def B_4_part_116   (H : jH) : Option (Unit × jH) :=
B_4_part_237 H
def B_4_part_112  (s0 : Nat) (s1 : Int32) (s2 : Int32) (H : jH) : Option (Unit × jH) :=
jg ((jK H s0).1 = 4) (
jl (jsI H s0 13 (s1 + s2)) fun h1 =>
B_4_part_116 h1)
def B_4_part_66  (a0 : Nat) (a2 : Int32) (H : jH) : Option (Unit × jH) :=
jg ((jK H a0).1 = 4) (
jg ((jK H a0).1 = 4) (
jg ((jK H (jR H a0 11)).1 = 102) (
(if ((Int32.ofNat (jK H (jR H a0 11)).2) : Int32) ≤ ((jI H a0 12) : Int32) then
B_4_part_116 H
else
jg ((jK H a0).1 = 4) (
jg ((jK H a0).1 = 4) (
jg ((jK H (jR H a0 11)).1 = 102 ∧ jin ((jI H a0 12)) (jK H (jR H a0 11)).2) (
jl (jsI H (jR H a0 11) ((jI H a0 12) : Int32).toNatClampNeg (a2 &&& 1)) fun h2 =>
jg ((jK h2 a0).1 = 4) (
jg ((jK h2 a0).1 = 4) (
jl (jsI h2 a0 12 ((jI h2 a0 12) + 1)) fun h3 =>
jg ((jK h3 a0).1 = 4) (
(if (a2 : Int32) = 0 then
B_4_part_112 a0 (jI h3 a0 13) 1 h3
else
B_4_part_112 a0 (jI h3 a0 13) 0 h3)))))))))))
def B_4_part_57  (a0 : Nat) (s0 : Int32) (H : jH) : Option (Unit × jH) :=
jg ((jK H a0).1 = 4) (
jg ((jK H (jR H a0 1)).1 = 9) (
jb (F_9_drop (jR H a0 1) 1 H) fun x4 h5 =>
B_4_part_66 a0 s0 h5))
def B_4_part_49  (a0 : Nat) (s0 : Int32) (s1 : Int32) (H : jH) : Option (Unit × jH) :=
(if ¬ (s0 : Int32) = (s1 : Int32) then
B_4_part_57 a0 0 H
else
B_4_part_57 a0 1 H)
def B_4_part_12  (a0 : Nat) (a1 : Int32) (H : jH) : Option (Unit × jH) :=
jg ((jK H a0).1 = 4) (
(if ¬ ((jI H a0 13) : Int32) = 0 then
B_4_part_66 a0 0 H
else
jg ((jK H a0).1 = 4) (
jb (F_4_has a0 1 H) fun x6 h7 =>
(if ¬ (x6 : Int32) = 0 then
jg ((jK h7 a0).1 = 4) (
jg ((jK h7 (jR h7 a0 1)).1 = 9) (
jb (F_9_isTrue (jR h7 a0 1) 1 h7) fun x8 h9 =>
(if ¬ (a1 : Int32) = (99 : Int32) then
B_4_part_49 a0 x8 0 h9
else
B_4_part_49 a0 x8 1 h9)))
else
some ((), h7)))))
def B_4_part_194  (s0 : Nat) (s1 : Int32) (s2 : Int32) (H : jH) : Option (Unit × jH) :=
jg ((jK H s0).1 = 4) (
jl (jsI H s0 13 (s1 + s2)) fun h10 =>
B_4_part_237 h10)
def B_4_part_169  (a0 : Nat) (s0 : Nat) (s1 : Int32) (s2 : Int32) (H : jH) : Option (Unit × jH) :=
jg ((jK H s0).1 = 102 ∧ jin (s1) (jK H s0).2) (
jl (jsI H s0 (s1 : Int32).toNatClampNeg (s2 &&& 1)) fun h11 =>
jg ((jK h11 a0).1 = 4) (
jg ((jK h11 a0).1 = 4) (
jg ((jK h11 a0).1 = 4) (
jg ((jK h11 (jR h11 a0 11)).1 = 102 ∧ jin (((jI h11 a0 12) - 1)) (jK h11 (jR h11 a0 11)).2) (
(if ((jI h11 (jR h11 a0 11) (((jI h11 a0 12) - 1) : Int32).toNatClampNeg) : Int32) = 0 then
B_4_part_194 a0 (jI h11 a0 13) 1 h11
else
B_4_part_194 a0 (jI h11 a0 13) (-1) h11))))))
def B_4_part_233  (s0 : Nat) (s1 : Int32) (s2 : Int32) (H : jH) : Option (Unit × jH) :=
jg ((jK H s0).1 = 4) (
jl (jsI H s0 13 (s1 - s2)) fun h12 =>
B_4_part_237 h12)
def F_4_part (a0 : Nat) (a1 : Int32) (H : jH) : Option (Unit × jH) :=
(if (a1 : Int32) = (99 : Int32) then
B_4_part_12 a0 a1 H
else
(if ¬ (a1 : Int32) = (100 : Int32) then
jg ((jK H a0).1 = 4) (
(if ¬ ((jI H a0 12) : Int32) = 0 then
(if ¬ (a1 : Int32) = (103 : Int32) then
jg ((jK H a0).1 = 4) (
jg ((jK H a0).1 = 4) (
jl (jsI H a0 12 ((jI H a0 12) - 1)) fun h13 =>
jg ((jK h13 a0).1 = 4) (
jg ((jK h13 a0).1 = 4) (
jg ((jK h13 a0).1 = 4) (
jg ((jK h13 (jR h13 a0 11)).1 = 102 ∧ jin ((jI h13 a0 12)) (jK h13 (jR h13 a0 11)).2) (
(if ((jI h13 (jR h13 a0 11) ((jI h13 a0 12) : Int32).toNatClampNeg) : Int32) = 0 then
B_4_part_233 a0 (jI h13 a0 13) 1 h13
else
B_4_part_233 a0 (jI h13 a0 13) 0 h13)))))))
else
jg ((jK H a0).1 = 4) (
jg ((jK H a0).1 = 4) (
jg ((jK H a0).1 = 4) (
jg ((jK H a0).1 = 4) (
jg ((jK H (jR H a0 11)).1 = 102 ∧ jin (((jI H a0 12) - 1)) (jK H (jR H a0 11)).2) (
(if ¬ ((jI H (jR H a0 11) (((jI H a0 12) - 1) : Int32).toNatClampNeg) : Int32) = 0 then
B_4_part_169 a0 (jR H a0 11) ((jI H a0 12) - 1) 0 H
else
B_4_part_169 a0 (jR H a0 11) ((jI H a0 12) - 1) 1 H)))))))
else
jg ((jK H a0).1 = 4) (
jl (jsI H a0 9 2) fun h14 =>
B_4_part_237 h14)))
else
B_4_part_12 a0 a1 H))
def B_4_pass_142   (H : jH) : Option (Unit × jH) :=
some ((), H)
def B_4_pass_31  (a0 : Nat) (s0 : Nat) (s1 : Int32) (H : jH) : Option (Unit × jH) :=
jg ((jK H s0).1 = 4) (
jl (jsI H s0 9 s1) fun h1 =>
jg ((jK h1 a0).1 = 4) (
jg ((jK h1 (jR h1 a0 1)).1 = 9) (
jb (F_9_drop (jR h1 a0 1) 1 h1) fun x2 h3 =>
B_4_pass_142 h3)))
def B_4_pass_137  (a0 : Nat) (H : jH) : Option (Unit × jH) :=
jg ((jK H a0).1 = 4) (
jl (jsI H a0 9 2) fun h4 =>
B_4_pass_142 h4)
def B_4_pass_90  (a0 : Nat) (a1 : Int32) (H : jH) : Option (Unit × jH) :=
(if ¬ (a1 : Int32) = (108 : Int32) then
B_4_pass_137 a0 H
else
jg ((jK H a0).1 = 4) (
jg ((jK H (jR H a0 2)).1 = 9) (
(if ((jI H (jR H a0 2) 2) : Int32) ≤ 0 then
B_4_pass_137 a0 H
else
jg ((jK H a0).1 = 4) (
jg ((jK H a0).1 = 4) (
jg ((jK H a0).1 = 4) (
jg ((jK H (jR H a0 2)).1 = 9) (
jg ((jK H (jR H a0 1)).1 = 9) (
jb (F_9_putCopy (jR H a0 1) (jR H a0 2) ((jI H (jR H a0 2) 2) - 1) H) fun x5 h6 =>
jg ((jK h6 a0).1 = 4) (
jg ((jK h6 (jR h6 a0 2)).1 = 9) (
jb (F_9_drop (jR h6 a0 2) 1 h6) fun x7 h8 =>
B_4_pass_142 h8)))))))))))
def B_4_pass_45  (a0 : Nat) (a1 : Int32) (H : jH) : Option (Unit × jH) :=
(if ¬ (a1 : Int32) = (107 : Int32) then
B_4_pass_90 a0 a1 H
else
jg ((jK H a0).1 = 4) (
jb (F_4_has a0 1 H) fun x9 h10 =>
(if (x9 : Int32) = 0 then
B_4_pass_90 a0 a1 h10
else
jg ((jK h10 a0).1 = 4) (
jg ((jK h10 a0).1 = 4) (
jg ((jK h10 a0).1 = 4) (
jg ((jK h10 (jR h10 a0 1)).1 = 9) (
jg ((jK h10 (jR h10 a0 2)).1 = 9) (
jb (F_9_putCopy (jR h10 a0 2) (jR h10 a0 1) ((jI h10 (jR h10 a0 1) 2) - 1) h10) fun x11 h12 =>
jg ((jK h12 a0).1 = 4) (
jg ((jK h12 (jR h12 a0 1)).1 = 9) (
jb (F_9_drop (jR h12 a0 1) 1 h12) fun x13 h14 =>
B_4_pass_142 h14))))))))))
def F_4_pass (a0 : Nat) (a1 : Int32) (H : jH) : Option (Unit × jH) :=
(if ¬ (a1 : Int32) = (105 : Int32) then
B_4_pass_45 a0 a1 H
else
jg ((jK H a0).1 = 4) (
jb (F_4_has a0 1 H) fun x15 h16 =>
(if (x15 : Int32) = 0 then
B_4_pass_45 a0 a1 h16
else
jg ((jK h16 a0).1 = 4) (
jg ((jK h16 (jR h16 a0 1)).1 = 9) (
jb (F_9_isTrue (jR h16 a0 1) 1 h16) fun x17 h18 =>
(if (x17 : Int32) = 0 then
B_4_pass_31 a0 a0 2 h18
else
B_4_pass_31 a0 a0 0 h18))))))
def B_4_push_128  (a0 : Nat) (H : jH) : Option (Unit × jH) :=
jg ((jK H a0).1 = 4) (
jl (jsI H a0 9 2) fun h1 =>
some ((), h1))
def B_4_push_157  (a0 : Nat) (a3 : Int32) (H : jH) : Option (Unit × jH) :=
jg ((jK H a0).1 = 4) (
jg ((jK H a0).1 = 4) (
jl (jsI H a0 6 ((jI H a0 6) + a3)) fun h2 =>
some ((), h2)))
def B_4_push_99  (a0 : Nat) (a2 : Int32) (a3 : Int32) (H : jH) : Option (Unit × jH) :=
jg ((jK H a0).1 = 4) (
jg ((jK H a0).1 = 4) (
jl (jsI H a0 6 ((jI H a0 6) + a2)) fun h3 =>
(if (120 : Int32) < (a3 : Int32) then
B_4_push_128 a0 h3
else
jg ((jK h3 a0).1 = 4) (
jg ((jK h3 a0).1 = 4) (
(if (((jI h3 a0 6) + a3) : Int32) ≤ ((jI h3 a0 7) : Int32) then
jg ((jK h3 a0).1 = 4) (
(if ¬ ((jI h3 a0 13) : Int32) = 0 then
B_4_push_157 a0 a3 h3
else
jg ((jK h3 a0).1 = 4) (
jg ((jK h3 a0).1 = 4) (
jg ((jK h3 a0).1 = 4) (
jg ((jK h3 (jR h3 a0 1)).1 = 9) (
jb (F_9_put (jR h3 a0 1) (jR h3 a0 5) (jI h3 a0 6) a3 h3) fun x4 h5 =>
B_4_push_157 a0 a3 h5))))))
else
B_4_push_128 a0 h3))))))
def B_4_push_97  (a0 : Nat) (a2 : Int32) (s0 : Int32) (s1 : Int32) (H : jH) : Option (Unit × jH) :=
jl (s0 ||| s1) fun x6 =>
B_4_push_99 a0 a2 x6 H
def B_4_push_21  (a0 : Nat) (a1 : Int32) (s0 : Int32) (H : jH) : Option (Unit × jH) :=
(if (s0 : Int32) ≤ 0 then
B_4_push_99 a0 s0 a1 H
else
jg ((jK H a0).1 = 4) (
jg ((jK H a0).1 = 4) (
(if ((jI H a0 7) : Int32) < (((jI H a0 6) + s0) : Int32) then
B_4_push_99 a0 s0 a1 H
else
jg ((jK H a0).1 = 4) (
jg ((jK H a0).1 = 4) (
jg ((jK H (jR H a0 5)).1 = 101) (
(if ((Int32.ofNat (jK H (jR H a0 5)).2) : Int32) < (((jI H a0 6) + s0) : Int32) then
B_4_push_99 a0 s0 a1 H
else
jg ((jK H a0).1 = 4) (
jg ((jK H a0).1 = 4) (
jg ((jK H (jR H a0 5)).1 = 101 ∧ jin ((jI H a0 6)) (jK H (jR H a0 5)).2) (
jl ((jbs (jB H (jR H a0 5) ((jI H a0 6) : Int32).toNatClampNeg)) &&& 255) fun x7 =>
(if ¬ (s0 : Int32) = (2 : Int32) then
B_4_push_97 a0 s0 x7 0 H
else
jg ((jK H a0).1 = 4) (
jg ((jK H a0).1 = 4) (
jg ((jK H (jR H a0 5)).1 = 101 ∧ jin (((jI H a0 6) + 1)) (jK H (jR H a0 5)).2) (
B_4_push_97 a0 s0 x7 (jshl ((jbs (jB H (jR H a0 5) (((jI H a0 6) + 1) : Int32).toNatClampNeg)) &&& 255) 8) H)))))))))))))))
def F_4_push (a0 : Nat) (a1 : Int32) (H : jH) : Option (Unit × jH) :=
(if ¬ (a1 : Int32) = (76 : Int32) then
(if ¬ (a1 : Int32) = (77 : Int32) then
B_4_push_21 a0 a1 0 H
else
B_4_push_21 a0 a1 2 H)
else
B_4_push_21 a0 a1 1 H)
def B_4_small_57   (H : jH) : Option (Unit × jH) :=
some ((), H)
def B_4_small_46  (a0 : Nat) (a1 : Int32) (H : jH) : Option (Unit × jH) :=
(if (a1 : Int32) = (97 : Int32) then
B_4_small_57 H
else
jg ((jK H a0).1 = 4) (
jl (jsI H a0 9 2) fun h1 =>
B_4_small_57 h1))
def F_4_small (a0 : Nat) (a1 : Int32) (H : jH) : Option (Unit × jH) :=
(if ¬ (a1 : Int32) = (79 : Int32) then
(if (a1 : Int32) < (81 : Int32) then
B_4_small_46 a0 a1 H
else
(if (96 : Int32) < (a1 : Int32) then
B_4_small_46 a0 a1 H
else
jg ((jK H a0).1 = 4) (
jg ((jK H (jR H a0 1)).1 = 9) (
jb (F_9_putNumber (jR H a0 1) (Int32.toInt64 (a1 - 80)) H) fun x2 h3 =>
B_4_small_57 h3))))
else
jg ((jK H a0).1 = 4) (
jg ((jK H (jR H a0 1)).1 = 9) (
jb (F_9_putNumber (jR H a0 1) (-1) H) fun x4 h5 =>
B_4_small_57 h5)))
def B_4_run_333 (k2 : Nat → Int32 → jH → Option (Int32 × jH)) (a0 : Nat) (a1 : Int32) (H : jH) : Option (Int32 × jH) :=
jl (a1 + 1) fun x1 =>
k2 a0 x1 H
def B_4_run_308 (k2 : Nat → Int32 → jH → Option (Int32 × jH)) (a0 : Nat) (a1 : Int32) (H : jH) : Option (Int32 × jH) :=
jg ((jK H a0).1 = 4) (
jg ((jK H (jR H a0 1)).1 = 9) (
jg ((jK H a0).1 = 4) (
jg ((jK H (jR H a0 2)).1 = 9) (
(if (((jI H (jR H a0 1) 2) + (jI H (jR H a0 2) 2)) : Int32) ≤ (60 : Int32) then
B_4_run_333 k2 a0 a1 H
else
jg ((jK H a0).1 = 4) (
jl (jsI H a0 9 2) fun h2 =>
B_4_run_333 k2 a0 a1 h2))))))
def B_4_run_288 (k2 : Nat → Int32 → jH → Option (Int32 × jH)) (a0 : Nat) (a1 : Int32) (H : jH) : Option (Int32 × jH) :=
jg ((jK H a0).1 = 4) (
(if ¬ ((jI H a0 9) : Int32) = (3 : Int32) then
B_4_run_308 k2 a0 a1 H
else
jg ((jK H a0).1 = 4) (
(if ¬ ((jI H a0 14) : Int32) = 0 then
B_4_run_308 k2 a0 a1 H
else
jg ((jK H a0).1 = 4) (
jb (F_4_finish a0 1 H) fun x3 h4 =>
B_4_run_308 k2 a0 a1 h4)))))
def B_4_run_138 (k2 : Nat → Int32 → jH → Option (Int32 × jH)) (a0 : Nat) (a1 : Int32) (a2 : Int32) (H : jH) : Option (Int32 × jH) :=
jg ((jK H a0).1 = 4) (
jb (F_4_part a0 a2 H) fun x5 h6 =>
B_4_run_288 k2 a0 a1 h6)
def B_4_run_215 (k2 : Nat → Int32 → jH → Option (Int32 × jH)) (a0 : Nat) (a1 : Int32) (a2 : Int32) (H : jH) : Option (Int32 × jH) :=
jg ((jK H a0).1 = 4) (
jb (F_4_arrange a0 a2 H) fun x7 h8 =>
B_4_run_288 k2 a0 a1 h8)
def B_4_run_79 (k2 : Nat → Int32 → jH → Option (Int32 × jH)) (a0 : Nat) (a1 : Int32) (a2 : Int32) (s0 : Nat) (s1 : Int32) (s2 : Int32) (H : jH) : Option (Int32 × jH) :=
jg ((jK H s0).1 = 4) (
jl (jsI H s0 10 (s1 + s2)) fun h9 =>
jg ((jK h9 a0).1 = 4) (
(if ((jI h9 a0 10) : Int32) ≤ (100 : Int32) then
(if (77 : Int32) < (a2 : Int32) then
(if (a2 : Int32) = (99 : Int32) then
B_4_run_138 k2 a0 a1 a2 h9
else
(if (a2 : Int32) = (100 : Int32) then
B_4_run_138 k2 a0 a1 a2 h9
else
(if (a2 : Int32) = (103 : Int32) then
B_4_run_138 k2 a0 a1 a2 h9
else
(if ¬ (a2 : Int32) = (104 : Int32) then
jg ((jK h9 a0).1 = 4) (
(if ((jI h9 a0 13) : Int32) ≤ 0 then
(if (97 : Int32) < (a2 : Int32) then
(if (108 : Int32) < (a2 : Int32) then
(if (a2 : Int32) = (115 : Int32) then
B_4_run_215 k2 a0 a1 a2 h9
else
(if (a2 : Int32) = (116 : Int32) then
B_4_run_215 k2 a0 a1 a2 h9
else
(if (a2 : Int32) = (121 : Int32) then
B_4_run_215 k2 a0 a1 a2 h9
else
(if (a2 : Int32) = (122 : Int32) then
B_4_run_215 k2 a0 a1 a2 h9
else
(if ¬ (a2 : Int32) = (130 : Int32) then
(if (130 : Int32) < (a2 : Int32) then
(if (136 : Int32) < (a2 : Int32) then
(if (165 : Int32) < (a2 : Int32) then
(if (170 : Int32) < (a2 : Int32) then
jg ((jK h9 a0).1 = 4) (
jb (F_4_ask a0 a2 h9) fun x10 h11 =>
B_4_run_288 k2 a0 a1 h11)
else
jg ((jK h9 a0).1 = 4) (
jb (F_4_digest a0 a2 h9) fun x12 h13 =>
B_4_run_288 k2 a0 a1 h13))
else
jg ((jK h9 a0).1 = 4) (
jb (F_4_calculate a0 a2 h9) fun x14 h15 =>
B_4_run_288 k2 a0 a1 h15))
else
jg ((jK h9 a0).1 = 4) (
jb (F_4_compare a0 a2 h9) fun x16 h17 =>
B_4_run_288 k2 a0 a1 h17))
else
jg ((jK h9 a0).1 = 4) (
jb (F_4_move a0 a2 h9) fun x18 h19 =>
B_4_run_288 k2 a0 a1 h19))
else
B_4_run_215 k2 a0 a1 a2 h9)))))
else
jg ((jK h9 a0).1 = 4) (
jb (F_4_pass a0 a2 h9) fun x20 h21 =>
B_4_run_288 k2 a0 a1 h21))
else
jg ((jK h9 a0).1 = 4) (
jb (F_4_small a0 a2 h9) fun x22 h23 =>
B_4_run_288 k2 a0 a1 h23))
else
B_4_run_333 k2 a0 a1 h9))
else
B_4_run_138 k2 a0 a1 a2 h9))))
else
jg ((jK h9 a0).1 = 4) (
jb (F_4_push a0 a2 h9) fun x24 h25 =>
B_4_run_288 k2 a0 a1 h25))
else
jg ((jK h9 a0).1 = 4) (
jl (jsI h9 a0 9 2) fun h26 =>
B_4_run_288 k2 a0 a1 h26))))
def B_4_run_362  (a0 : Nat) (H : jH) : Option (Int32 × jH) :=
jg ((jK H a0).1 = 4) (
some ((jI H a0 9), H))
def B_4_run_359  (a0 : Nat) (s0 : Nat) (s1 : Int32) (H : jH) : Option (Int32 × jH) :=
jg ((jK H s0).1 = 4) (
jl (jsI H s0 9 s1) fun h27 =>
B_4_run_362 a0 h27)
def B_4_run_339  (a0 : Nat) (H : jH) : Option (Int32 × jH) :=
jg ((jK H a0).1 = 4) (
(if ¬ ((jI H a0 9) : Int32) = 0 then
B_4_run_362 a0 H
else
jg ((jK H a0).1 = 4) (
(if ¬ ((jI H a0 12) : Int32) = 0 then
B_4_run_359 a0 a0 2 H
else
B_4_run_359 a0 a0 1 H))))
def B_4_run_2 (k2 : Nat → Int32 → jH → Option (Int32 × jH)) (a0 : Nat) (a1 : Int32) (H : jH) : Option (Int32 × jH) :=
(if (200 : Int32) ≤ (a1 : Int32) then
B_4_run_339 a0 H
else
jg ((jK H a0).1 = 4) (
(if ¬ ((jI H a0 9) : Int32) = 0 then
B_4_run_339 a0 H
else
jg ((jK H a0).1 = 4) (
jg ((jK H a0).1 = 4) (
(if ((jI H a0 7) : Int32) ≤ ((jI H a0 6) : Int32) then
B_4_run_339 a0 H
else
jg ((jK H a0).1 = 4) (
jg ((jK H a0).1 = 4) (
jg ((jK H (jR H a0 5)).1 = 101) (
(if ((Int32.ofNat (jK H (jR H a0 5)).2) : Int32) ≤ ((jI H a0 6) : Int32) then
B_4_run_339 a0 H
else
jg ((jK H a0).1 = 4) (
jg ((jK H a0).1 = 4) (
jg ((jK H (jR H a0 5)).1 = 101 ∧ jin ((jI H a0 6)) (jK H (jR H a0 5)).2) (
jl ((jbs (jB H (jR H a0 5) ((jI H a0 6) : Int32).toNatClampNeg)) &&& 255) fun x28 =>
jg ((jK H a0).1 = 4) (
jg ((jK H a0).1 = 4) (
jl (jsI H a0 6 ((jI H a0 6) + 1)) fun h29 =>
jg ((jK h29 a0).1 = 4) (
(if (x28 : Int32) ≤ (96 : Int32) then
B_4_run_79 k2 a0 a1 x28 a0 (jI h29 a0 10) 0 h29
else
B_4_run_79 k2 a0 a1 x28 a0 (jI h29 a0 10) 1 h29)))))))))))))))))
def F_4_run_2  : Nat → Nat → Int32 → jH → Option (Int32 × jH)
  | 0 => fun _ _ _ => none
  | n + 1 => fun a0 a1 H => B_4_run_2 (F_4_run_2  n) a0 a1 H
def F_4_run (a0 : Nat) (H : jH) : Option (Int32 × jH) :=
F_4_run_2 jfuel a0 0 H
def B_4_signature_40  (s0 : Nat) (H : jH) : Option (Nat × jH) :=
some (s0, H)
def B_4_signature_21  (a0 : Nat) (H : jH) : Option (Nat × jH) :=
jg ((jK H a0).1 = 4) (
B_4_signature_40 (jR H a0 4) H)
def F_4_signature (a0 : Nat) (H : jH) : Option (Nat × jH) :=
jg ((jK H a0).1 = 4) (
(if ((jI H a0 15) : Int32) < 0 then
B_4_signature_21 a0 H
else
jg ((jK H a0).1 = 4) (
jg ((jK H a0).1 = 4) (
jg ((jK H (jR H a0 1)).1 = 9) (
(if ((jI H a0 15) : Int32) < ((jI H (jR H a0 1) 2) : Int32) then
jg ((jK H a0).1 = 4) (
jg ((jK H (jR H a0 1)).1 = 9) (
jg ((jK H a0).1 = 4) (
jg ((jK H (jR H (jR H a0 1) 0)).1 = 110 ∧ jin ((jI H a0 15)) (jK H (jR H (jR H a0 1) 0)).2) (
B_4_signature_40 (jR H (jR H (jR H a0 1) 0) ((jI H a0 15) : Int32).toNatClampNeg) H))))
else
B_4_signature_21 a0 H))))))
def B_4_signatureSize_37  (s0 : Int32) (H : jH) : Option (Int32 × jH) :=
some (s0, H)
def B_4_signatureSize_21   (H : jH) : Option (Int32 × jH) :=
B_4_signatureSize_37 0 H
def F_4_signatureSize (a0 : Nat) (H : jH) : Option (Int32 × jH) :=
jg ((jK H a0).1 = 4) (
(if ((jI H a0 15) : Int32) < 0 then
B_4_signatureSize_21 H
else
jg ((jK H a0).1 = 4) (
jg ((jK H a0).1 = 4) (
jg ((jK H (jR H a0 1)).1 = 9) (
(if ((jI H a0 15) : Int32) < ((jI H (jR H a0 1) 2) : Int32) then
jg ((jK H a0).1 = 4) (
jg ((jK H (jR H a0 1)).1 = 9) (
jg ((jK H a0).1 = 4) (
jg ((jK H (jR H (jR H a0 1) 1)).1 = 100 ∧ jin ((jI H a0 15)) (jK H (jR H (jR H a0 1) 1)).2) (
B_4_signatureSize_37 (jI H (jR H (jR H a0 1) 1) ((jI H a0 15) : Int32).toNatClampNeg) H))))
else
B_4_signatureSize_21 H))))))
def B_7_fill_44   (H : jH) : Option (Unit × jH) :=
some ((), H)
def B_7_fill_2 (k2 : Nat → Int32 → Int32 → Int32 → jH → Option (Unit × jH)) (a0 : Nat) (a1 : Int32) (a2 : Int32) (a3 : Int32) (H : jH) : Option (Unit × jH) :=
(if (a1 : Int32) ≤ (a3 : Int32) then
B_7_fill_44 H
else
jg ((jK H a0).1 = 7) (
(if (2400 : Int32) ≤ ((jI H a0 4) : Int32) then
B_7_fill_44 H
else
jg ((jK H a0).1 = 7) (
jg ((jK H a0).1 = 7) (
jg ((jK H (jR H a0 3)).1 = 101 ∧ jin ((jI H a0 4)) (jK H (jR H a0 3)).2) (
jl (jsB H (jR H a0 3) ((jI H a0 4) : Int32).toNatClampNeg (jbu (ji2b a2))) fun h1 =>
jg ((jK h1 a0).1 = 7) (
jg ((jK h1 a0).1 = 7) (
jl (jsI h1 a0 4 ((jI h1 a0 4) + 1)) fun h2 =>
jl (a3 + 1) fun x3 =>
k2 a0 a1 a2 x3 h2))))))))
def F_7_fill_2  : Nat → Nat → Int32 → Int32 → Int32 → jH → Option (Unit × jH)
  | 0 => fun _ _ _ _ _ => none
  | n + 1 => fun a0 a1 a2 a3 H => B_7_fill_2 (F_7_fill_2  n) a0 a1 a2 a3 H
def F_7_fill (a0 : Nat) (a1 : Int32) (a2 : Int32) (H : jH) : Option (Unit × jH) :=
F_7_fill_2 jfuel a0 a1 a2 0 H
def B_7_put_28   (H : jH) : Option (Unit × jH) :=
some ((), H)
def F_7_put (a0 : Nat) (a1 : Nat) (a2 : Int32) (a3 : Int32) (H : jH) : Option (Unit × jH) :=
(if (a2 : Int32) < 0 then
B_7_put_28 H
else
(if (a3 : Int32) < 0 then
B_7_put_28 H
else
jg ((jK H a1).1 = 101) (
(if ((Int32.ofNat (jK H a1).2) : Int32) < ((a2 + a3) : Int32) then
B_7_put_28 H
else
jg ((jK H a0).1 = 7) (
(if (((jI H a0 4) + a3) : Int32) ≤ (2400 : Int32) then
jg ((jK H a0).1 = 7) (
jg ((jK H a0).1 = 7) (
jg (jcg H 101 a1 (a2) (jR H a0 3) ((jI H a0 4)) (a3)) (
jl (jcpB H a1 (a2 : Int32).toNatClampNeg (jR H a0 3) ((jI H a0 4) : Int32).toNatClampNeg (a3 : Int32).toNatClampNeg) fun h1 =>
jg ((jK h1 a0).1 = 7) (
jg ((jK h1 a0).1 = 7) (
jl (jsI h1 a0 4 ((jI h1 a0 4) + a3)) fun h2 =>
some ((), h2))))))
else
B_7_put_28 H))))))
def B_10_inputScript_26  (s0 : Int32) (H : jH) : Option (Int32 × jH) :=
some (s0, H)
def B_10_inputScript_13   (H : jH) : Option (Int32 × jH) :=
B_10_inputScript_26 0 H
def F_10_inputScript (a0 : Nat) (a1 : Int32) (H : jH) : Option (Int32 × jH) :=
(if (a1 : Int32) < 0 then
B_10_inputScript_13 H
else
jg ((jK H a0).1 = 10) (
jg ((jK H (jR H a0 4)).1 = 100) (
(if (a1 : Int32) < ((Int32.ofNat (jK H (jR H a0 4)).2) : Int32) then
jg ((jK H a0).1 = 10) (
jg ((jK H (jR H a0 4)).1 = 100 ∧ jin (a1) (jK H (jR H a0 4)).2) (
B_10_inputScript_26 ((jI H (jR H a0 4) (a1 : Int32).toNatClampNeg) + 37) H))
else
B_10_inputScript_13 H))))
def B_10_outputScript_26  (s0 : Int32) (H : jH) : Option (Int32 × jH) :=
some (s0, H)
def B_10_outputScript_13   (H : jH) : Option (Int32 × jH) :=
B_10_outputScript_26 0 H
def F_10_outputScript (a0 : Nat) (a1 : Int32) (H : jH) : Option (Int32 × jH) :=
(if (a1 : Int32) < 0 then
B_10_outputScript_13 H
else
jg ((jK H a0).1 = 10) (
jg ((jK H (jR H a0 5)).1 = 100) (
(if (a1 : Int32) < ((Int32.ofNat (jK H (jR H a0 5)).2) : Int32) then
jg ((jK H a0).1 = 10) (
jg ((jK H (jR H a0 5)).1 = 100 ∧ jin (a1) (jK H (jR H a0 5)).2) (
B_10_outputScript_26 ((jI H (jR H a0 5) (a1 : Int32).toNatClampNeg) + 9) H))
else
B_10_outputScript_13 H))))
def B_10_scriptSize_30  (s0 : Int32) (H : jH) : Option (Int32 × jH) :=
some (s0, H)
def B_10_scriptSize_14   (H : jH) : Option (Int32 × jH) :=
B_10_scriptSize_30 0 H
def F_10_scriptSize (a0 : Nat) (a1 : Int32) (H : jH) : Option (Int32 × jH) :=
(if (a1 : Int32) < (1 : Int32) then
B_10_scriptSize_14 H
else
jg ((jK H a0).1 = 10) (
jg ((jK H (jR H a0 0)).1 = 101) (
(if (a1 : Int32) ≤ ((Int32.ofNat (jK H (jR H a0 0)).2) : Int32) then
jg ((jK H a0).1 = 10) (
jg ((jK H (jR H a0 0)).1 = 101 ∧ jin ((a1 - 1)) (jK H (jR H a0 0)).2) (
B_10_scriptSize_30 ((jbs (jB H (jR H a0 0) ((a1 - 1) : Int32).toNatClampNeg)) &&& 255) H))
else
B_10_scriptSize_14 H))))
def B_7_write_246 (k97 : Nat → Nat → Int32 → Nat → Int32 → Int32 → Int32 → Int32 → Int32 → Int32 → jH → Option (Unit × jH)) (a0 : Nat) (a1 : Nat) (a2 : Int32) (a3 : Nat) (a4 : Int32) (a5 : Int32) (a6 : Int32) (a7 : Int32) (a8 : Int32) (a9 : Int32) (H : jH) : Option (Unit × jH) :=
jl (a9 + 1) fun x1 =>
k97 a0 a1 a2 a3 a4 a5 a6 a7 a8 x1 H
def B_7_write_366 (k291 : Nat → Nat → Int32 → Int32 → Int32 → Int32 → Int32 → jH → Option (Unit × jH)) (a0 : Nat) (a1 : Nat) (a2 : Int32) (a5 : Int32) (a6 : Int32) (a9 : Int32) (a10 : Int32) (H : jH) : Option (Unit × jH) :=
jl (a10 + 1) fun x2 =>
k291 a0 a1 a2 a5 a6 a9 x2 H
def B_7_write_338 (k291 : Nat → Nat → Int32 → Int32 → Int32 → Int32 → Int32 → jH → Option (Unit × jH)) (a0 : Nat) (a1 : Nat) (a2 : Int32) (a5 : Int32) (a6 : Int32) (a9 : Int32) (a10 : Int32) (H : jH) : Option (Unit × jH) :=
jg ((jK H a1).1 = 10) (
jg ((jK H a1).1 = 10) (
jg ((jK H (jR H a1 5)).1 = 100 ∧ jin (a10) (jK H (jR H a1 5)).2) (
jg ((jK H a1).1 = 10) (
jb (F_10_outputScript a1 a10 H) fun x3 h4 =>
jg ((jK h4 a1).1 = 10) (
jb (F_10_scriptSize a1 x3 h4) fun x5 h6 =>
jg ((jK h6 a0).1 = 7) (
jb (F_7_put a0 (jR H a1 0) (jI H (jR H a1 5) (a10 : Int32).toNatClampNeg) (9 + x5) h6) fun x7 h8 =>
B_7_write_366 k291 a0 a1 a2 a5 a6 a9 a10 h8))))))
def B_7_write_372  (a0 : Nat) (a1 : Nat) (a5 : Int32) (H : jH) : Option (Unit × jH) :=
jg ((jK H a1).1 = 10) (
jg ((jK H a1).1 = 10) (
jg ((jK H a1).1 = 10) (
jg ((jK H a0).1 = 7) (
jb (F_7_put a0 (jR H a1 0) (((jI H a1 1) + (jI H a1 2)) - 4) 4 H) fun x9 h10 =>
jg ((jK h10 a0).1 = 7) (
jb (F_7_fill a0 1 a5 h10) fun x11 h12 =>
jg ((jK h12 a0).1 = 7) (
jb (F_7_fill a0 3 0 h12) fun x13 h14 =>
some ((), h14)))))))
def B_7_write_291 (k291 : Nat → Nat → Int32 → Int32 → Int32 → Int32 → Int32 → jH → Option (Unit × jH)) (a0 : Nat) (a1 : Nat) (a2 : Int32) (a5 : Int32) (a6 : Int32) (a9 : Int32) (a10 : Int32) (H : jH) : Option (Unit × jH) :=
(if (a9 : Int32) ≤ (a10 : Int32) then
B_7_write_372 a0 a1 a5 H
else
jg ((jK H a1).1 = 10) (
jg ((jK H (jR H a1 5)).1 = 100) (
(if ((Int32.ofNat (jK H (jR H a1 5)).2) : Int32) ≤ (a10 : Int32) then
B_7_write_372 a0 a1 a5 H
else
(if ¬ (a6 : Int32) = (3 : Int32) then
B_7_write_338 k291 a0 a1 a2 a5 a6 a9 a10 H
else
(if (a2 : Int32) ≤ (a10 : Int32) then
B_7_write_338 k291 a0 a1 a2 a5 a6 a9 a10 H
else
jg ((jK H a0).1 = 7) (
jb (F_7_fill a0 8 255 H) fun x15 h16 =>
jg ((jK h16 a0).1 = 7) (
jb (F_7_fill a0 1 0 h16) fun x17 h18 =>
B_7_write_366 k291 a0 a1 a2 a5 a6 a9 a10 h18))))))))
def F_7_write_291  : Nat → Nat → Nat → Int32 → Int32 → Int32 → Int32 → Int32 → jH → Option (Unit × jH)
  | 0 => fun _ _ _ _ _ _ _ _ => none
  | n + 1 => fun a0 a1 a2 a5 a6 a9 a10 H => B_7_write_291 (F_7_write_291  n) a0 a1 a2 a5 a6 a9 a10 H
def B_7_write_279  (a0 : Nat) (a1 : Nat) (a2 : Int32) (a5 : Int32) (a6 : Int32) (s0 : Int32) (H : jH) : Option (Unit × jH) :=
jg ((jK H a0).1 = 7) (
jb (F_7_fill a0 1 s0 H) fun x19 h20 =>
F_7_write_291 jfuel a0 a1 a2 a5 a6 s0 0 h20)
def B_7_write_97 (k97 : Nat → Nat → Int32 → Nat → Int32 → Int32 → Int32 → Int32 → Int32 → Int32 → jH → Option (Unit × jH)) (a0 : Nat) (a1 : Nat) (a2 : Int32) (a3 : Nat) (a4 : Int32) (a5 : Int32) (a6 : Int32) (a7 : Int32) (a8 : Int32) (a9 : Int32) (H : jH) : Option (Unit × jH) :=
jg ((jK H a1).1 = 10) (
jg ((jK H (jR H a1 4)).1 = 100) (
(if ((Int32.ofNat (jK H (jR H a1 4)).2) : Int32) ≤ (a9 : Int32) then
(if ¬ (a6 : Int32) = (2 : Int32) then
(if ¬ (a6 : Int32) = (3 : Int32) then
jg ((jK H a1).1 = 10) (
jg ((jK H (jR H a1 5)).1 = 100) (
B_7_write_279 a0 a1 a2 a5 a6 (Int32.ofNat (jK H (jR H a1 5)).2) H))
else
B_7_write_279 a0 a1 a2 a5 a6 (a2 + 1) H)
else
B_7_write_279 a0 a1 a2 a5 a6 0 H)
else
jg ((jK H a1).1 = 10) (
jb (F_10_inputScript a1 a9 H) fun x21 h22 =>
(if ¬ (a9 : Int32) = (a2 : Int32) then
(if ¬ (a7 : Int32) = 0 then
B_7_write_246 k97 a0 a1 a2 a3 a4 a5 a6 a7 a8 a9 h22
else
jg ((jK h22 a1).1 = 10) (
jg ((jK h22 a1).1 = 10) (
jg ((jK h22 (jR h22 a1 4)).1 = 100 ∧ jin (a9) (jK h22 (jR h22 a1 4)).2) (
jg ((jK h22 a0).1 = 7) (
jb (F_7_put a0 (jR h22 a1 0) (jI h22 (jR h22 a1 4) (a9 : Int32).toNatClampNeg) 36 h22) fun x23 h24 =>
jg ((jK h24 a0).1 = 7) (
jb (F_7_fill a0 1 0 h24) fun x25 h26 =>
(if (a8 : Int32) = 0 then
jg ((jK h26 a1).1 = 10) (
jg ((jK h26 a1).1 = 10) (
jb (F_10_scriptSize a1 x21 h26) fun x27 h28 =>
jg ((jK h28 a0).1 = 7) (
jb (F_7_put a0 (jR h26 a1 0) (x21 + x27) 4 h28) fun x29 h30 =>
B_7_write_246 k97 a0 a1 a2 a3 a4 a5 a6 a7 a8 a9 h30)))
else
jg ((jK h26 a0).1 = 7) (
jb (F_7_fill a0 4 0 h26) fun x31 h32 =>
B_7_write_246 k97 a0 a1 a2 a3 a4 a5 a6 a7 a8 a9 h32))))))))
else
jg ((jK h22 a1).1 = 10) (
jg ((jK h22 a1).1 = 10) (
jg ((jK h22 (jR h22 a1 4)).1 = 100 ∧ jin (a9) (jK h22 (jR h22 a1 4)).2) (
jg ((jK h22 a0).1 = 7) (
jb (F_7_put a0 (jR h22 a1 0) (jI h22 (jR h22 a1 4) (a9 : Int32).toNatClampNeg) 36 h22) fun x33 h34 =>
jg ((jK h34 a3).1 = 10) (
jb (F_10_scriptSize a3 a4 h34) fun x35 h36 =>
jg ((jK h36 a0).1 = 7) (
jb (F_7_fill a0 1 x35 h36) fun x37 h38 =>
jg ((jK h38 a3).1 = 10) (
jg ((jK h38 a3).1 = 10) (
jb (F_10_scriptSize a3 a4 h38) fun x39 h40 =>
jg ((jK h40 a0).1 = 7) (
jb (F_7_put a0 (jR h38 a3 0) a4 x39 h40) fun x41 h42 =>
jg ((jK h42 a1).1 = 10) (
jg ((jK h42 a1).1 = 10) (
jb (F_10_scriptSize a1 x21 h42) fun x43 h44 =>
jg ((jK h44 a0).1 = 7) (
jb (F_7_put a0 (jR h42 a1 0) (x21 + x43) 4 h44) fun x45 h46 =>
B_7_write_246 k97 a0 a1 a2 a3 a4 a5 a6 a7 a8 a9 h46)))))))))))))))))
def F_7_write_97  : Nat → Nat → Nat → Int32 → Nat → Int32 → Int32 → Int32 → Int32 → Int32 → Int32 → jH → Option (Unit × jH)
  | 0 => fun _ _ _ _ _ _ _ _ _ _ _ => none
  | n + 1 => fun a0 a1 a2 a3 a4 a5 a6 a7 a8 a9 H => B_7_write_97 (F_7_write_97  n) a0 a1 a2 a3 a4 a5 a6 a7 a8 a9 H
def B_7_write_91  (a0 : Nat) (a1 : Nat) (a2 : Int32) (a3 : Nat) (a4 : Int32) (a5 : Int32) (a6 : Int32) (a7 : Int32) (a8 : Int32) (s0 : Nat) (s1 : Int32) (s2 : Int32) (H : jH) : Option (Unit × jH) :=
jg ((jK H s0).1 = 7) (
jb (F_7_fill s0 s1 s2 H) fun x47 h48 =>
F_7_write_97 jfuel a0 a1 a2 a3 a4 a5 a6 a7 a8 0 h48)
def B_7_write_62  (a0 : Nat) (a1 : Nat) (a2 : Int32) (a3 : Nat) (a4 : Int32) (a5 : Int32) (a6 : Int32) (a7 : Int32) (a8 : Int32) (H : jH) : Option (Unit × jH) :=
jg ((jK H a1).1 = 10) (
jg ((jK H a1).1 = 10) (
jg ((jK H a0).1 = 7) (
jb (F_7_put a0 (jR H a1 0) (jI H a1 1) 4 H) fun x49 h50 =>
(if (a7 : Int32) = 0 then
jg ((jK h50 a1).1 = 10) (
jg ((jK h50 (jR h50 a1 4)).1 = 100) (
B_7_write_91 a0 a1 a2 a3 a4 a5 a6 a7 a8 a0 1 (Int32.ofNat (jK h50 (jR h50 a1 4)).2) h50))
else
B_7_write_91 a0 a1 a2 a3 a4 a5 a6 a7 a8 a0 1 1 h50))))
def B_7_write_39  (a0 : Nat) (a1 : Nat) (a2 : Int32) (a3 : Nat) (a4 : Int32) (a5 : Int32) (a6 : Int32) (a7 : Int32) (s0 : Int32) (H : jH) : Option (Unit × jH) :=
jg ((jK H a0).1 = 7) (
jl (jsI H a0 4 0) fun h51 =>
(if ¬ (a6 : Int32) = (3 : Int32) then
B_7_write_62 a0 a1 a2 a3 a4 a5 a6 a7 s0 h51
else
jg ((jK h51 a1).1 = 10) (
jg ((jK h51 (jR h51 a1 5)).1 = 100) (
(if (a2 : Int32) < ((Int32.ofNat (jK h51 (jR h51 a1 5)).2) : Int32) then
B_7_write_62 a0 a1 a2 a3 a4 a5 a6 a7 s0 h51
else
some ((), h51))))))
def B_7_write_34  (a0 : Nat) (a1 : Nat) (a2 : Int32) (a3 : Nat) (a4 : Int32) (a5 : Int32) (a6 : Int32) (a7 : Int32) (H : jH) : Option (Unit × jH) :=
B_7_write_39 a0 a1 a2 a3 a4 a5 a6 a7 1 H
def B_7_write_20  (a0 : Nat) (a1 : Nat) (a2 : Int32) (a3 : Nat) (a4 : Int32) (a5 : Int32) (a6 : Int32) (s0 : Int32) (H : jH) : Option (Unit × jH) :=
(if (a6 : Int32) = (2 : Int32) then
B_7_write_34 a0 a1 a2 a3 a4 a5 a6 s0 H
else
(if ¬ (a6 : Int32) = (3 : Int32) then
B_7_write_39 a0 a1 a2 a3 a4 a5 a6 s0 0 H
else
B_7_write_34 a0 a1 a2 a3 a4 a5 a6 s0 H))
def F_7_write (a0 : Nat) (a1 : Nat) (a2 : Int32) (a3 : Nat) (a4 : Int32) (a5 : Int32) (H : jH) : Option (Unit × jH) :=
jl (a5 &&& 31) fun x52 =>
(if (a5 : Int32) < (128 : Int32) then
B_7_write_20 a0 a1 a2 a3 a4 a5 x52 0 H
else
B_7_write_20 a0 a1 a2 a3 a4 a5 x52 1 H)
def B_5_mix_3 (k3 : Nat → Nat → Int64 → Nat → Int64 → Int32 → jH → Option (Unit × jH)) (a0 : Nat) (a1 : Nat) (a2 : Int64) (a4 : Nat) (a5 : Int64) (a7 : Int32) (H : jH) : Option (Unit × jH) :=
(if (10 : Int32) ≤ (a7 : Int32) then
some ((), H)
else
jg ((jK H a1).1 = 103 ∧ jin (a7) (jK H a1).2) (
jg ((jK H a4).1 = 103 ∧ jin (a7) (jK H a4).2) (
jg ((jK H a0).1 = 103 ∧ jin (a7) (jK H a0).2) (
jl (jsL H a0 (a7 : Int32).toNatClampNeg ((a2 * (jL H a1 (a7 : Int32).toNatClampNeg)) + (a5 * (jL H a4 (a7 : Int32).toNatClampNeg)))) fun h1 =>
jl (a7 + 1) fun x2 =>
k3 a0 a1 a2 a4 a5 x2 h1))))
def F_5_mix_3  : Nat → Nat → Nat → Int64 → Nat → Int64 → Int32 → jH → Option (Unit × jH)
  | 0 => fun _ _ _ _ _ _ _ => none
  | n + 1 => fun a0 a1 a2 a4 a5 a7 H => B_5_mix_3 (F_5_mix_3  n) a0 a1 a2 a4 a5 a7 H
def F_5_mix (a0 : Nat) (a1 : Nat) (a2 : Int64) (a4 : Nat) (a5 : Int64) (H : jH) : Option (Unit × jH) :=
F_5_mix_3 jfuel a0 a1 a2 a4 a5 0 H
def B_5_multiply_21   (H : jH) : Option (Unit × jH) :=
some ((), H)
def F_5_multiply (a0 : Nat) (a1 : Nat) (a2 : Nat) (H : jH) : Option (Unit × jH) :=
jg ((jK H a0).1 = 103) (
(if ((Int32.ofNat (jK H a0).2) : Int32) < (10 : Int32) then
B_5_multiply_21 H
else
jg ((jK H a1).1 = 103) (
(if ((Int32.ofNat (jK H a1).2) : Int32) < (10 : Int32) then
B_5_multiply_21 H
else
jg ((jK H a2).1 = 103) (
(if (10 : Int32) ≤ ((Int32.ofNat (jK H a2).2) : Int32) then
jg ((jK H a1).1 = 103 ∧ jin (0) (jK H a1).2) (
jl (jL H a1 (0 : Int32).toNatClampNeg) fun x1 =>
jg ((jK H a1).1 = 103 ∧ jin (1) (jK H a1).2) (
jl (jL H a1 (1 : Int32).toNatClampNeg) fun x2 =>
jg ((jK H a1).1 = 103 ∧ jin (2) (jK H a1).2) (
jl (jL H a1 (2 : Int32).toNatClampNeg) fun x3 =>
jg ((jK H a1).1 = 103 ∧ jin (3) (jK H a1).2) (
jl (jL H a1 (3 : Int32).toNatClampNeg) fun x4 =>
jg ((jK H a1).1 = 103 ∧ jin (4) (jK H a1).2) (
jl (jL H a1 (4 : Int32).toNatClampNeg) fun x5 =>
jg ((jK H a1).1 = 103 ∧ jin (5) (jK H a1).2) (
jl (jL H a1 (5 : Int32).toNatClampNeg) fun x6 =>
jg ((jK H a1).1 = 103 ∧ jin (6) (jK H a1).2) (
jl (jL H a1 (6 : Int32).toNatClampNeg) fun x7 =>
jg ((jK H a1).1 = 103 ∧ jin (7) (jK H a1).2) (
jl (jL H a1 (7 : Int32).toNatClampNeg) fun x8 =>
jg ((jK H a1).1 = 103 ∧ jin (8) (jK H a1).2) (
jl (jL H a1 (8 : Int32).toNatClampNeg) fun x9 =>
jg ((jK H a1).1 = 103 ∧ jin (9) (jK H a1).2) (
jl (jL H a1 (9 : Int32).toNatClampNeg) fun x10 =>
jg ((jK H a2).1 = 103 ∧ jin (0) (jK H a2).2) (
jl (jL H a2 (0 : Int32).toNatClampNeg) fun x11 =>
jg ((jK H a2).1 = 103 ∧ jin (1) (jK H a2).2) (
jl (jL H a2 (1 : Int32).toNatClampNeg) fun x12 =>
jg ((jK H a2).1 = 103 ∧ jin (2) (jK H a2).2) (
jl (jL H a2 (2 : Int32).toNatClampNeg) fun x13 =>
jg ((jK H a2).1 = 103 ∧ jin (3) (jK H a2).2) (
jl (jL H a2 (3 : Int32).toNatClampNeg) fun x14 =>
jg ((jK H a2).1 = 103 ∧ jin (4) (jK H a2).2) (
jl (jL H a2 (4 : Int32).toNatClampNeg) fun x15 =>
jg ((jK H a2).1 = 103 ∧ jin (5) (jK H a2).2) (
jl (jL H a2 (5 : Int32).toNatClampNeg) fun x16 =>
jg ((jK H a2).1 = 103 ∧ jin (6) (jK H a2).2) (
jl (jL H a2 (6 : Int32).toNatClampNeg) fun x17 =>
jg ((jK H a2).1 = 103 ∧ jin (7) (jK H a2).2) (
jl (jL H a2 (7 : Int32).toNatClampNeg) fun x18 =>
jg ((jK H a2).1 = 103 ∧ jin (8) (jK H a2).2) (
jl (jL H a2 (8 : Int32).toNatClampNeg) fun x19 =>
jg ((jK H a2).1 = 103 ∧ jin (9) (jK H a2).2) (
jl (jL H a2 (9 : Int32).toNatClampNeg) fun x20 =>
jl (((((((((x2 * x20) + (x3 * x19)) + (x4 * x18)) + (x5 * x17)) + (x6 * x16)) + (x7 * x15)) + (x8 * x14)) + (x9 * x13)) + (x10 * x12)) fun x21 =>
jl (x21 &&& 67108863) fun x22 =>
jl (((((((((jshrL x21 26) + (x3 * x20)) + (x4 * x19)) + (x5 * x18)) + (x6 * x17)) + (x7 * x16)) + (x8 * x15)) + (x9 * x14)) + (x10 * x13)) fun x23 =>
jl (x23 &&& 67108863) fun x24 =>
jl ((((((((jshrL x23 26) + (x4 * x20)) + (x5 * x19)) + (x6 * x18)) + (x7 * x17)) + (x8 * x16)) + (x9 * x15)) + (x10 * x14)) fun x25 =>
jl (x25 &&& 67108863) fun x26 =>
jl (((((((jshrL x25 26) + (x5 * x20)) + (x6 * x19)) + (x7 * x18)) + (x8 * x17)) + (x9 * x16)) + (x10 * x15)) fun x27 =>
jl (x27 &&& 67108863) fun x28 =>
jl ((((((jshrL x27 26) + (x6 * x20)) + (x7 * x19)) + (x8 * x18)) + (x9 * x17)) + (x10 * x16)) fun x29 =>
jl (x29 &&& 67108863) fun x30 =>
jl (((((jshrL x29 26) + (x7 * x20)) + (x8 * x19)) + (x9 * x18)) + (x10 * x17)) fun x31 =>
jl (x31 &&& 67108863) fun x32 =>
jl ((((jshrL x31 26) + (x8 * x20)) + (x9 * x19)) + (x10 * x18)) fun x33 =>
jl (x33 &&& 67108863) fun x34 =>
jl (((jshrL x33 26) + (x9 * x20)) + (x10 * x19)) fun x35 =>
jl (x35 &&& 67108863) fun x36 =>
jl ((jshrL x35 26) + (x10 * x20)) fun x37 =>
jl (x37 &&& 67108863) fun x38 =>
jl (jshrL x37 26) fun x39 =>
jl ((x1 * x11) + (x22 * 15632)) fun x40 =>
jg ((jK H a0).1 = 103 ∧ jin (0) (jK H a0).2) (
jl (jsL H a0 (0 : Int32).toNatClampNeg (x40 &&& 67108863)) fun h41 =>
jl (((((jshrL x40 26) + (x1 * x12)) + (x2 * x11)) + (x24 * 15632)) + (x22 * 1024)) fun x42 =>
jg ((jK h41 a0).1 = 103 ∧ jin (1) (jK h41 a0).2) (
jl (jsL h41 a0 (1 : Int32).toNatClampNeg (x42 &&& 67108863)) fun h43 =>
jl ((((((jshrL x42 26) + (x1 * x13)) + (x2 * x12)) + (x3 * x11)) + (x26 * 15632)) + (x24 * 1024)) fun x44 =>
jg ((jK h43 a0).1 = 103 ∧ jin (2) (jK h43 a0).2) (
jl (jsL h43 a0 (2 : Int32).toNatClampNeg (x44 &&& 67108863)) fun h45 =>
jl (((((((jshrL x44 26) + (x1 * x14)) + (x2 * x13)) + (x3 * x12)) + (x4 * x11)) + (x28 * 15632)) + (x26 * 1024)) fun x46 =>
jg ((jK h45 a0).1 = 103 ∧ jin (3) (jK h45 a0).2) (
jl (jsL h45 a0 (3 : Int32).toNatClampNeg (x46 &&& 67108863)) fun h47 =>
jl ((((((((jshrL x46 26) + (x1 * x15)) + (x2 * x14)) + (x3 * x13)) + (x4 * x12)) + (x5 * x11)) + (x30 * 15632)) + (x28 * 1024)) fun x48 =>
jg ((jK h47 a0).1 = 103 ∧ jin (4) (jK h47 a0).2) (
jl (jsL h47 a0 (4 : Int32).toNatClampNeg (x48 &&& 67108863)) fun h49 =>
jl (((((((((jshrL x48 26) + (x1 * x16)) + (x2 * x15)) + (x3 * x14)) + (x4 * x13)) + (x5 * x12)) + (x6 * x11)) + (x32 * 15632)) + (x30 * 1024)) fun x50 =>
jg ((jK h49 a0).1 = 103 ∧ jin (5) (jK h49 a0).2) (
jl (jsL h49 a0 (5 : Int32).toNatClampNeg (x50 &&& 67108863)) fun h51 =>
jl ((((((((((jshrL x50 26) + (x1 * x17)) + (x2 * x16)) + (x3 * x15)) + (x4 * x14)) + (x5 * x13)) + (x6 * x12)) + (x7 * x11)) + (x34 * 15632)) + (x32 * 1024)) fun x52 =>
jg ((jK h51 a0).1 = 103 ∧ jin (6) (jK h51 a0).2) (
jl (jsL h51 a0 (6 : Int32).toNatClampNeg (x52 &&& 67108863)) fun h53 =>
jl (((((((((((jshrL x52 26) + (x1 * x18)) + (x2 * x17)) + (x3 * x16)) + (x4 * x15)) + (x5 * x14)) + (x6 * x13)) + (x7 * x12)) + (x8 * x11)) + (x36 * 15632)) + (x34 * 1024)) fun x54 =>
jg ((jK h53 a0).1 = 103 ∧ jin (7) (jK h53 a0).2) (
jl (jsL h53 a0 (7 : Int32).toNatClampNeg (x54 &&& 67108863)) fun h55 =>
jl ((((((((((((jshrL x54 26) + (x1 * x19)) + (x2 * x18)) + (x3 * x17)) + (x4 * x16)) + (x5 * x15)) + (x6 * x14)) + (x7 * x13)) + (x8 * x12)) + (x9 * x11)) + (x38 * 15632)) + (x36 * 1024)) fun x56 =>
jg ((jK h55 a0).1 = 103 ∧ jin (8) (jK h55 a0).2) (
jl (jsL h55 a0 (8 : Int32).toNatClampNeg (x56 &&& 67108863)) fun h57 =>
jl (((((((((((((jshrL x56 26) + (x1 * x20)) + (x2 * x19)) + (x3 * x18)) + (x4 * x17)) + (x5 * x16)) + (x6 * x15)) + (x7 * x14)) + (x8 * x13)) + (x9 * x12)) + (x10 * x11)) + (x39 * 15632)) + (x38 * 1024)) fun x58 =>
jg ((jK h57 a0).1 = 103 ∧ jin (9) (jK h57 a0).2) (
jl (jsL h57 a0 (9 : Int32).toNatClampNeg (x58 &&& 67108863)) fun h59 =>
jl ((jshrL x58 26) + (x39 * 1024)) fun x60 =>
jg ((jK h59 a0).1 = 103 ∧ jin (0) (jK h59 a0).2) (
jl ((jL h59 a0 (0 : Int32).toNatClampNeg) + (x60 * 15632)) fun x61 =>
jg ((jK h59 a0).1 = 103 ∧ jin (0) (jK h59 a0).2) (
jl (jsL h59 a0 (0 : Int32).toNatClampNeg (x61 &&& 67108863)) fun h62 =>
jg ((jK h62 a0).1 = 103 ∧ jin (1) (jK h62 a0).2) (
jl (((jshrL x61 26) + (jL h62 a0 (1 : Int32).toNatClampNeg)) + (x60 * 1024)) fun x63 =>
jg ((jK h62 a0).1 = 103 ∧ jin (1) (jK h62 a0).2) (
jl (jsL h62 a0 (1 : Int32).toNatClampNeg (x63 &&& 67108863)) fun h64 =>
jg ((jK h64 a0).1 = 103 ∧ jin (2) (jK h64 a0).2) (
jg ((jK h64 a0).1 = 103 ∧ jin (2) (jK h64 a0).2) (
jl (jsL h64 a0 (2 : Int32).toNatClampNeg ((jL h64 a0 (2 : Int32).toNatClampNeg) + (jshrL x63 26))) fun h65 =>
some ((), h65)))))))))))))))))))))))))))))))))))))
else
B_5_multiply_21 H))))))
