def B_18_write_2 (k2 : Nat → Int32 → Int32 → jH → Option (Unit × jH)) (a0 : Nat) (a1 : Int32) (a2 : Int32) (H : jH) : Option (Unit × jH) :=
(if (4 : Int32) ≤ (a2 : Int32) then
jg ((jK H a0).1 = 18) (
jg ((jK H a0).1 = 18) (
jl (jsI H a0 48 ((jI H a0 48) + 4)) fun h1 =>
some ((), h1)))
else
jg ((jK H a0).1 = 18) (
jg ((jK H a0).1 = 18) (
jg ((jK H (jR H a0 47)).1 = 101 ∧ jin (((jI H a0 48) + a2)) (jK H (jR H a0 47)).2) (
jl (jsB H (jR H a0 47) (((jI H a0 48) + a2) : Int32).toNatClampNeg (jbu (ji2b (jshr a1 (24 - (8 * a2)))))) fun h2 =>
jl (a2 + 1) fun x3 =>
k2 a0 a1 x3 h2))))
def F_18_write_2  : Nat → Nat → Int32 → Int32 → jH → Option (Unit × jH)
  | 0 => fun _ _ _ _ => none
  | n + 1 => fun a0 a1 a2 H => B_18_write_2 (F_18_write_2  n) a0 a1 a2 H
def F_18_write (a0 : Nat) (a1 : Int32) (H : jH) : Option (Unit × jH) :=
F_18_write_2 jfuel a0 a1 0 H
def F_18_feed (a0 : Nat) (a1 : Int32) (a2 : Int32) (a3 : Int32) (a4 : Int32) (a5 : Int32) (H : jH) : Option (Int32 × jH) :=
jg ((jK H a0).1 = 18) (
(if (((jI H a0 48) + 20) : Int32) ≤ (2000 : Int32) then
jg ((jK H a0).1 = 18) (
jb (F_18_write a0 a1 H) fun x1 h2 =>
jg ((jK h2 a0).1 = 18) (
jb (F_18_write a0 a2 h2) fun x3 h4 =>
jg ((jK h4 a0).1 = 18) (
jb (F_18_write a0 a3 h4) fun x5 h6 =>
jg ((jK h6 a0).1 = 18) (
jb (F_18_write a0 a4 h6) fun x7 h8 =>
jg ((jK h8 a0).1 = 18) (
jb (F_18_write a0 a5 h8) fun x9 h10 =>
jg ((1 : Int32) = 0 ∨ (1 : Int32) = 1) (some (1, h10)))))))
else
jg ((0 : Int32) = 0 ∨ (0 : Int32) = 1) (some (0, H))))
def B_18_isPeer_14  (s0 : Int32) (H : jH) : Option (Int32 × jH) :=
jg ((s0 : Int32) = 0 ∨ (s0 : Int32) = 1) (some (s0, H))
def B_18_isPeer_13   (H : jH) : Option (Int32 × jH) :=
B_18_isPeer_14 0 H
def F_18_isPeer (a0 : Int32) (H : jH) : Option (Int32 × jH) :=
(if (a0 : Int32) < 0 then
B_18_isPeer_13 H
else
(if (4 : Int32) ≤ (a0 : Int32) then
B_18_isPeer_13 H
else
B_18_isPeer_14 1 H))
def B_18_send_20   (H : jH) : Option (Int32 × jH) :=
jg ((0 : Int32) = 0 ∨ (0 : Int32) = 1) (some (0, H))
def F_18_send (a0 : Nat) (a1 : Int32) (a2 : Int32) (H : jH) : Option (Int32 × jH) :=
jb (F_18_isPeer a1 H) fun x1 h2 =>
(if (x1 : Int32) = 0 then
B_18_send_20 h2
else
(if (a2 : Int32) < (1 : Int32) then
B_18_send_20 h2
else
jg ((jK h2 a0).1 = 18) (
(if (a2 : Int32) ≤ ((jI h2 a0 48) : Int32) then
jg ((jK h2 a0).1 = 18) (
jl (jsI h2 a0 48 0) fun h3 =>
jg ((jK h3 a0).1 = 18) (
jb (F_18_message a0 a1 a2 h3) fun x4 h5 =>
jg ((1 : Int32) = 0 ∨ (1 : Int32) = 1) (some (1, h5))))
else
B_18_send_20 h2))))
def B_18_fetch_16   (H : jH) : Option (Int64 × jH) :=
some (0, H)
def B_18_fetch_85 (k47 : Nat → Int32 → Int32 → Int64 → Int32 → jH → Option (Int64 × jH)) (a0 : Nat) (a1 : Int32) (a2 : Int32) (a5 : Int32) (s0 : Int64) (s1 : Int32) (H : jH) : Option (Int64 × jH) :=
jl (s0 ||| (Int32.toInt64 s1)) fun x1 =>
jl (a5 + 1) fun x2 =>
k47 a0 a1 a2 x1 x2 H
def B_18_fetch_97 (k97 : Nat → Int32 → Int32 → Int64 → Int32 → jH → Option (Int64 × jH)) (a0 : Nat) (a1 : Int32) (a2 : Int32) (a3 : Int64) (a5 : Int32) (H : jH) : Option (Int64 × jH) :=
jg ((jK H a0).1 = 18) (
jg ((jK H (jR H a0 54)).1 = 100 ∧ jin (a1) (jK H (jR H a0 54)).2) (
(if ((jI H (jR H a0 54) (a1 : Int32).toNatClampNeg) : Int32) ≤ (a5 : Int32) then
jg ((jK H a0).1 = 18) (
jg ((jK H (jR H a0 54)).1 = 100 ∧ jin (a1) (jK H (jR H a0 54)).2) (
jg ((jK H (jR H a0 54)).1 = 100 ∧ jF0 ≤ (jR H a0 54) ∧ jin (a1) (jK H (jR H a0 54)).2) (
jl (jsI H (jR H a0 54) (a1 : Int32).toNatClampNeg ((jI H (jR H a0 54) (a1 : Int32).toNatClampNeg) - a2)) fun h3 =>
some (a3, h3))))
else
jg ((jK H a0).1 = 18) (
jg ((jK H a0).1 = 18) (
jg ((jK H (jR H a0 53)).1 = 101 ∧ jin (((8000 * a1) + a5)) (jK H (jR H a0 53)).2) (
jg ((jK H (jR H a0 53)).1 = 101 ∧ jin ((((8000 * a1) + a5) - a2)) (jK H (jR H a0 53)).2) (
jl (jsB H (jR H a0 53) ((((8000 * a1) + a5) - a2) : Int32).toNatClampNeg (jbu (jbs (jB H (jR H a0 53) (((8000 * a1) + a5) : Int32).toNatClampNeg)))) fun h4 =>
jl (a5 + 1) fun x5 =>
k97 a0 a1 a2 a3 x5 h4)))))))
def F_18_fetch_97  : Nat → Nat → Int32 → Int32 → Int64 → Int32 → jH → Option (Int64 × jH)
  | 0 => fun _ _ _ _ _ _ => none
  | n + 1 => fun a0 a1 a2 a3 a5 H => B_18_fetch_97 (F_18_fetch_97  n) a0 a1 a2 a3 a5 H
def B_18_fetch_47 (k47 : Nat → Int32 → Int32 → Int64 → Int32 → jH → Option (Int64 × jH)) (a0 : Nat) (a1 : Int32) (a2 : Int32) (a3 : Int64) (a5 : Int32) (H : jH) : Option (Int64 × jH) :=
(if (7 : Int32) ≤ (a5 : Int32) then
F_18_fetch_97 jfuel a0 a1 a2 a3 a2 H
else
(if (a2 : Int32) ≤ (a5 : Int32) then
B_18_fetch_85 k47 a0 a1 a2 a5 (jshlL a3 8) 0 H
else
jg ((jK H a0).1 = 18) (
jg ((jK H (jR H a0 53)).1 = 101 ∧ jin (((8000 * a1) + a5)) (jK H (jR H a0 53)).2) (
B_18_fetch_85 k47 a0 a1 a2 a5 (jshlL a3 8) ((jbs (jB H (jR H a0 53) (((8000 * a1) + a5) : Int32).toNatClampNeg)) &&& 255) H))))
def F_18_fetch_47  : Nat → Nat → Int32 → Int32 → Int64 → Int32 → jH → Option (Int64 × jH)
  | 0 => fun _ _ _ _ _ _ => none
  | n + 1 => fun a0 a1 a2 a3 a5 H => B_18_fetch_47 (F_18_fetch_47  n) a0 a1 a2 a3 a5 H
def B_18_fetch_40  (a0 : Nat) (a1 : Int32) (s0 : Int32) (H : jH) : Option (Int64 × jH) :=
jl (Int32.toInt64 s0) fun x6 =>
F_18_fetch_47 jfuel a0 a1 s0 x6 0 H
def F_18_fetch (a0 : Nat) (a1 : Int32) (H : jH) : Option (Int64 × jH) :=
jb (F_18_isPeer a1 H) fun x7 h8 =>
(if (x7 : Int32) = 0 then
B_18_fetch_16 h8
else
jg ((jK h8 a0).1 = 18) (
jg ((jK h8 (jR h8 a0 54)).1 = 100 ∧ jin (a1) (jK h8 (jR h8 a0 54)).2) (
(if ¬ ((jI h8 (jR h8 a0 54) (a1 : Int32).toNatClampNeg) : Int32) = 0 then
jg ((jK h8 a0).1 = 18) (
jg ((jK h8 (jR h8 a0 54)).1 = 100 ∧ jin (a1) (jK h8 (jR h8 a0 54)).2) (
(if ((jI h8 (jR h8 a0 54) (a1 : Int32).toNatClampNeg) : Int32) ≤ (7 : Int32) then
jg ((jK h8 a0).1 = 18) (
jg ((jK h8 (jR h8 a0 54)).1 = 100 ∧ jin (a1) (jK h8 (jR h8 a0 54)).2) (
B_18_fetch_40 a0 a1 (jI h8 (jR h8 a0 54) (a1 : Int32).toNatClampNeg) h8))
else
B_18_fetch_40 a0 a1 7 h8)))
else
B_18_fetch_16 h8))))
def B_18_block_25   (H : jH) : Option (Int64 × jH) :=
some (0, H)
def B_18_block_54 (k54 : Nat → Int32 → Int64 → Int32 → jH → Option (Int64 × jH)) (a0 : Nat) (a3 : Int32) (a4 : Int64) (a6 : Int32) (H : jH) : Option (Int64 × jH) :=
(if (8 : Int32) ≤ (a6 : Int32) then
some (a4, H)
else
jg ((jK H a0).1 = 18) (
jg ((jK H (jR H a0 8)).1 = 101 ∧ jin ((a3 + a6)) (jK H (jR H a0 8)).2) (
jl ((jshlL a4 8) ||| (Int32.toInt64 ((jbs (jB H (jR H a0 8) ((a3 + a6) : Int32).toNatClampNeg)) &&& 255))) fun x1 =>
jl (a6 + 1) fun x2 =>
k54 a0 a3 x1 x2 H)))
def F_18_block_54  : Nat → Nat → Int32 → Int64 → Int32 → jH → Option (Int64 × jH)
  | 0 => fun _ _ _ _ _ => none
  | n + 1 => fun a0 a3 a4 a6 H => B_18_block_54 (F_18_block_54  n) a0 a3 a4 a6 H
def F_18_block (a0 : Nat) (a1 : Int32) (a2 : Int32) (H : jH) : Option (Int64 × jH) :=
(if (a1 : Int32) < 0 then
B_18_block_25 H
else
jg ((jK H a0).1 = 18) (
jg ((jK H a0).1 = 18) (
jb (F_18_height a0 (jI H a0 13) H) fun x3 h4 =>
(if (x3 : Int32) < (a1 : Int32) then
B_18_block_25 h4
else
(if (a2 : Int32) < 0 then
B_18_block_25 h4
else
(if (a2 : Int32) ≤ (3 : Int32) then
jg ((jK h4 a0).1 = 18) (
jg ((jK h4 a0).1 = 18) (
jg ((jK h4 (jR h4 a0 3)).1 = 16) (
jb (F_16_below (jR h4 a0 3) (jI h4 a0 13) a1 h4) fun x5 h6 =>
jl ((32 * x5) + (8 * a2)) fun x7 =>
F_18_block_54 jfuel a0 x7 0 0 h6)))
else
B_18_block_25 h4))))))
def B_18_key_46 (k3 : Nat → Int64 → Int64 → Int64 → Int64 → Int32 → Int32 → jH → Option (Unit × jH)) (a0 : Nat) (a1 : Int64) (a3 : Int64) (a5 : Int64) (a7 : Int64) (a9 : Int32) (a10 : Int32) (s0 : Int64) (H : jH) : Option (Unit × jH) :=
jg ((jK H a0).1 = 18) (
jg (¬ (8 : Int32) = 0) (
jg ((jK H (jR H a0 51)).1 = 101 ∧ jin (a10) (jK H (jR H a0 51)).2) (
jl (jsB H (jR H a0 51) (a10 : Int32).toNatClampNeg (jbu (ji2b (Int64.toInt32 (jshrL s0 (56 - (8 * (jrem a10 8)))))))) fun h1 =>
jl (a10 + 1) fun x2 =>
k3 a0 a1 a3 a5 a7 a9 x2 h1)))
def B_18_key_3 (k3 : Nat → Int64 → Int64 → Int64 → Int64 → Int32 → Int32 → jH → Option (Unit × jH)) (a0 : Nat) (a1 : Int64) (a3 : Int64) (a5 : Int64) (a7 : Int64) (a9 : Int32) (a10 : Int32) (H : jH) : Option (Unit × jH) :=
(if (32 : Int32) ≤ (a10 : Int32) then
jg ((jK H a0).1 = 18) (
jl (jsI H a0 52 a9) fun h3 =>
some ((), h3))
else
(if (8 : Int32) ≤ (a10 : Int32) then
(if (16 : Int32) ≤ (a10 : Int32) then
(if (24 : Int32) ≤ (a10 : Int32) then
B_18_key_46 k3 a0 a1 a3 a5 a7 a9 a10 a7 H
else
B_18_key_46 k3 a0 a1 a3 a5 a7 a9 a10 a5 H)
else
B_18_key_46 k3 a0 a1 a3 a5 a7 a9 a10 a3 H)
else
B_18_key_46 k3 a0 a1 a3 a5 a7 a9 a10 a1 H))
def F_18_key_3  : Nat → Nat → Int64 → Int64 → Int64 → Int64 → Int32 → Int32 → jH → Option (Unit × jH)
  | 0 => fun _ _ _ _ _ _ _ _ => none
  | n + 1 => fun a0 a1 a3 a5 a7 a9 a10 H => B_18_key_3 (F_18_key_3  n) a0 a1 a3 a5 a7 a9 a10 H
def F_18_key (a0 : Nat) (a1 : Int64) (a3 : Int64) (a5 : Int64) (a7 : Int64) (a9 : Int32) (H : jH) : Option (Unit × jH) :=
F_18_key_3 jfuel a0 a1 a3 a5 a7 a9 0 H
def B_18_value_39  (s0 : Int64) (H : jH) : Option (Int64 × jH) :=
some (s0, H)
def F_18_value (a0 : Nat) (H : jH) : Option (Int64 × jH) :=
jg ((jK H a0).1 = 18) (
jg ((jK H a0).1 = 18) (
jb (F_18_need a0 (jI H a0 13) H) fun x1 h2 =>
jg ((jK h2 a0).1 = 18) (
jg ((jK h2 a0).1 = 18) (
jg ((jK h2 a0).1 = 18) (
jb (F_18_coin a0 (jR h2 a0 51) 0 (Int32.toInt64 (jI h2 a0 52)) h2) fun x3 h4 =>
(if 0 ≤ (x3 : Int32) then
jg ((jK h4 a0).1 = 18) (
jg ((jK h4 (jR h4 a0 22)).1 = 103 ∧ jin (x3) (jK h4 (jR h4 a0 22)).2) (
B_18_value_39 (jL h4 (jR h4 a0 22) (x3 : Int32).toNatClampNeg) h4))
else
B_18_value_39 (-1) h4))))))
def B_18_total_12 (k12 : Nat → Int64 → Int32 → jH → Option (Int64 × jH)) (a0 : Nat) (a1 : Int64) (a3 : Int32) (H : jH) : Option (Int64 × jH) :=
jg ((jK H a0).1 = 18) (
(if ((jI H a0 17) : Int32) ≤ (a3 : Int32) then
some (a1, H)
else
jg ((jK H a0).1 = 18) (
jg ((jK H (jR H a0 22)).1 = 103 ∧ jin (a3) (jK H (jR H a0 22)).2) (
jl (a1 + (jL H (jR H a0 22) (a3 : Int32).toNatClampNeg)) fun x1 =>
jl (a3 + 1) fun x2 =>
k12 a0 x1 x2 H))))
def F_18_total_12  : Nat → Nat → Int64 → Int32 → jH → Option (Int64 × jH)
  | 0 => fun _ _ _ _ => none
  | n + 1 => fun a0 a1 a3 H => B_18_total_12 (F_18_total_12  n) a0 a1 a3 H
def F_18_total (a0 : Nat) (H : jH) : Option (Int64 × jH) :=
jg ((jK H a0).1 = 18) (
jg ((jK H a0).1 = 18) (
jb (F_18_need a0 (jI H a0 13) H) fun x3 h4 =>
F_18_total_12 jfuel a0 0 0 h4))
def B_18_count_35 (k4 : Nat → Int32 → Int32 → Int32 → jH → Option (Int32 × jH)) (a0 : Nat) (a1 : Int32) (a3 : Int32) (s0 : Int32) (s1 : Int32) (H : jH) : Option (Int32 × jH) :=
jl (s0 + s1) fun x1 =>
jl (a3 + 1) fun x2 =>
k4 a0 a1 x1 x2 H
def B_18_count_4 (k4 : Nat → Int32 → Int32 → Int32 → jH → Option (Int32 × jH)) (a0 : Nat) (a1 : Int32) (a2 : Int32) (a3 : Int32) (H : jH) : Option (Int32 × jH) :=
jg ((jK H a0).1 = 18) (
jg ((jK H (jR H a0 3)).1 = 16) (
jb (F_16_size (jR H a0 3) H) fun x3 h4 =>
(if (x3 : Int32) ≤ (a3 : Int32) then
jg ((jK h4 a0).1 = 18) (
jg ((jK h4 a0).1 = 18) (
jb (F_18_need a0 (jI h4 a0 13) h4) fun x5 h6 =>
(if (a1 : Int32) = 0 then
jg ((jK h6 a0).1 = 18) (
jg ((jK h6 (jR h6 a0 3)).1 = 16) (
jb (F_16_size (jR h6 a0 3) h6) fun x7 h8 =>
some (x7, h8)))
else if (a1 : Int32) = 1 then
jg ((jK h6 a0).1 = 18) (
jg ((jK h6 a0).1 = 18) (
jb (F_18_height a0 (jI h6 a0 13) h6) fun x9 h10 =>
some (x9, h10)))
else if (a1 : Int32) = 2 then
jg ((jK h6 a0).1 = 18) (
some ((jI h6 a0 17), h6))
else if (a1 : Int32) = 3 then
jg ((jK h6 a0).1 = 18) (
some ((jI h6 a0 36), h6))
else if (a1 : Int32) = 4 then
jg ((jK h6 a0).1 = 18) (
some ((jI h6 a0 48), h6))
else if (a1 : Int32) = 5 then
some (a2, h6)
else 
some ((-1), h6))))
else
jg ((jK h4 a0).1 = 18) (
jg ((jK h4 (jR h4 a0 3)).1 = 16) (
jb (F_16_look (jR h4 a0 3) a3 4 h4) fun x11 h12 =>
(if ¬ (x11 : Int64) = 1 then
B_18_count_35 k4 a0 a1 a3 a2 0 h12
else
B_18_count_35 k4 a0 a1 a3 a2 1 h12))))))
def F_18_count_4  : Nat → Nat → Int32 → Int32 → Int32 → jH → Option (Int32 × jH)
  | 0 => fun _ _ _ _ _ => none
  | n + 1 => fun a0 a1 a2 a3 H => B_18_count_4 (F_18_count_4  n) a0 a1 a2 a3 H
def F_18_count (a0 : Nat) (a1 : Int32) (H : jH) : Option (Int32 × jH) :=
F_18_count_4 jfuel a0 a1 0 0 H
def B_18_fees_4 (k4 : Nat → Int64 → Int32 → jH → Option (Int64 × jH)) (a0 : Nat) (a1 : Int64) (a3 : Int32) (H : jH) : Option (Int64 × jH) :=
jg ((jK H a0).1 = 18) (
(if ((jI H a0 36) : Int32) ≤ (a3 : Int32) then
some (a1, H)
else
jg ((jK H a0).1 = 18) (
jg ((jK H (jR H a0 40)).1 = 103 ∧ jin (a3) (jK H (jR H a0 40)).2) (
jl (a1 + (jL H (jR H a0 40) (a3 : Int32).toNatClampNeg)) fun x1 =>
jl (a3 + 1) fun x2 =>
k4 a0 x1 x2 H))))
def F_18_fees_4  : Nat → Nat → Int64 → Int32 → jH → Option (Int64 × jH)
  | 0 => fun _ _ _ _ => none
  | n + 1 => fun a0 a1 a3 H => B_18_fees_4 (F_18_fees_4  n) a0 a1 a3 H
def F_18_fees (a0 : Nat) (H : jH) : Option (Int64 × jH) :=
F_18_fees_4 jfuel a0 0 0 H
def B_L_law_492 (k18 : Nat → Nat → Nat → Int32 → jH → Option (Int32 × jH)) (a0 : Nat) (a1 : Nat) (a2 : Nat) (a3 : Int32) (H : jH) : Option (Int32 × jH) :=
jl (a3 + 10) fun x1 =>
k18 a0 a1 a2 x1 H
def B_L_law_18 (k18 : Nat → Nat → Nat → Int32 → jH → Option (Int32 × jH)) (a0 : Nat) (a1 : Nat) (a2 : Nat) (a3 : Int32) (H : jH) : Option (Int32 × jH) :=
jg ((jK H a0).1 = 100) (
(if (((Int32.ofNat (jK H a0).2) - 10) : Int32) < (a3 : Int32) then
jg ((1 : Int32) = 0 ∨ (1 : Int32) = 1) (some (1, H))
else
jg ((jK H a0).1 = 100 ∧ jin (a3) (jK H a0).2) (
(if (((jI H a0 (a3 : Int32).toNatClampNeg) &&& 15) : Int32) = 0 then
jg ((jK H a0).1 = 100 ∧ jin ((a3 + 1)) (jK H a0).2) (
jg ((jK H a0).1 = 100 ∧ jin ((a3 + 2)) (jK H a0).2) (
jg ((jK H a0).1 = 100 ∧ jin ((a3 + 3)) (jK H a0).2) (
jg ((jK H a0).1 = 100 ∧ jin ((a3 + 4)) (jK H a0).2) (
jg ((jK H a0).1 = 100 ∧ jin ((a3 + 5)) (jK H a0).2) (
jg ((jK H a1).1 = 11) (
jb (F_11_feed a1 (jI H a0 ((a3 + 1) : Int32).toNatClampNeg) (jI H a0 ((a3 + 2) : Int32).toNatClampNeg) (jI H a0 ((a3 + 3) : Int32).toNatClampNeg) (jI H a0 ((a3 + 4) : Int32).toNatClampNeg) (jI H a0 ((a3 + 5) : Int32).toNatClampNeg) H) fun x2 h3 =>
jg ((jK h3 a0).1 = 100 ∧ jin ((a3 + 1)) (jK h3 a0).2) (
jg ((jK h3 a0).1 = 100 ∧ jin ((a3 + 2)) (jK h3 a0).2) (
jg ((jK h3 a0).1 = 100 ∧ jin ((a3 + 3)) (jK h3 a0).2) (
jg ((jK h3 a0).1 = 100 ∧ jin ((a3 + 4)) (jK h3 a0).2) (
jg ((jK h3 a0).1 = 100 ∧ jin ((a3 + 5)) (jK h3 a0).2) (
jg ((jK h3 a2).1 = 18) (
jb (F_18_feed a2 (jI h3 a0 ((a3 + 1) : Int32).toNatClampNeg) (jI h3 a0 ((a3 + 2) : Int32).toNatClampNeg) (jI h3 a0 ((a3 + 3) : Int32).toNatClampNeg) (jI h3 a0 ((a3 + 4) : Int32).toNatClampNeg) (jI h3 a0 ((a3 + 5) : Int32).toNatClampNeg) h3) fun x4 h5 =>
(if (x2 : Int32) = (x4 : Int32) then
B_L_law_492 k18 a0 a1 a2 a3 h5
else
jg ((0 : Int32) = 0 ∨ (0 : Int32) = 1) (some (0, h5)))))))))))))))
else if (((jI H a0 (a3 : Int32).toNatClampNeg) &&& 15) : Int32) = 1 then
jg ((jK H a0).1 = 100 ∧ jin ((a3 + 1)) (jK H a0).2) (
jg ((jK H a0).1 = 100 ∧ jin ((a3 + 2)) (jK H a0).2) (
jg ((jK H a1).1 = 11) (
jb (F_11_send a1 (jI H a0 ((a3 + 1) : Int32).toNatClampNeg) (jI H a0 ((a3 + 2) : Int32).toNatClampNeg) H) fun x6 h7 =>
jg ((jK h7 a0).1 = 100 ∧ jin ((a3 + 1)) (jK h7 a0).2) (
jg ((jK h7 a0).1 = 100 ∧ jin ((a3 + 2)) (jK h7 a0).2) (
jg ((jK h7 a2).1 = 18) (
jb (F_18_send a2 (jI h7 a0 ((a3 + 1) : Int32).toNatClampNeg) (jI h7 a0 ((a3 + 2) : Int32).toNatClampNeg) h7) fun x8 h9 =>
(if (x6 : Int32) = (x8 : Int32) then
B_L_law_492 k18 a0 a1 a2 a3 h9
else
jg ((0 : Int32) = 0 ∨ (0 : Int32) = 1) (some (0, h9)))))))))
else if (((jI H a0 (a3 : Int32).toNatClampNeg) &&& 15) : Int32) = 2 then
jg ((jK H a0).1 = 100 ∧ jin ((a3 + 1)) (jK H a0).2) (
jg ((jK H a1).1 = 11) (
jb (F_11_fetch a1 (jI H a0 ((a3 + 1) : Int32).toNatClampNeg) H) fun x10 h11 =>
jg ((jK h11 a0).1 = 100 ∧ jin ((a3 + 1)) (jK h11 a0).2) (
jg ((jK h11 a2).1 = 18) (
jb (F_18_fetch a2 (jI h11 a0 ((a3 + 1) : Int32).toNatClampNeg) h11) fun x12 h13 =>
(if (x10 : Int64) = x12 then
B_L_law_492 k18 a0 a1 a2 a3 h13
else
jg ((0 : Int32) = 0 ∨ (0 : Int32) = 1) (some (0, h13)))))))
else if (((jI H a0 (a3 : Int32).toNatClampNeg) &&& 15) : Int32) = 3 then
jg ((jK H a0).1 = 100 ∧ jin ((a3 + 1)) (jK H a0).2) (
jg ((jK H a0).1 = 100 ∧ jin ((a3 + 2)) (jK H a0).2) (
jg ((jK H a1).1 = 11) (
jb (F_11_block a1 (jI H a0 ((a3 + 1) : Int32).toNatClampNeg) (jI H a0 ((a3 + 2) : Int32).toNatClampNeg) H) fun x14 h15 =>
jg ((jK h15 a0).1 = 100 ∧ jin ((a3 + 1)) (jK h15 a0).2) (
jg ((jK h15 a0).1 = 100 ∧ jin ((a3 + 2)) (jK h15 a0).2) (
jg ((jK h15 a2).1 = 18) (
jb (F_18_block a2 (jI h15 a0 ((a3 + 1) : Int32).toNatClampNeg) (jI h15 a0 ((a3 + 2) : Int32).toNatClampNeg) h15) fun x16 h17 =>
(if (x14 : Int64) = x16 then
B_L_law_492 k18 a0 a1 a2 a3 h17
else
jg ((0 : Int32) = 0 ∨ (0 : Int32) = 1) (some (0, h17)))))))))
else if (((jI H a0 (a3 : Int32).toNatClampNeg) &&& 15) : Int32) = 4 then
jg ((jK H a0).1 = 100 ∧ jin ((a3 + 1)) (jK H a0).2) (
jg ((jK H a0).1 = 100 ∧ jin ((a3 + 2)) (jK H a0).2) (
jg ((jK H a0).1 = 100 ∧ jin ((a3 + 3)) (jK H a0).2) (
jg ((jK H a0).1 = 100 ∧ jin ((a3 + 4)) (jK H a0).2) (
jg ((jK H a0).1 = 100 ∧ jin ((a3 + 5)) (jK H a0).2) (
jg ((jK H a0).1 = 100 ∧ jin ((a3 + 6)) (jK H a0).2) (
jg ((jK H a0).1 = 100 ∧ jin ((a3 + 7)) (jK H a0).2) (
jg ((jK H a0).1 = 100 ∧ jin ((a3 + 8)) (jK H a0).2) (
jg ((jK H a0).1 = 100 ∧ jin ((a3 + 9)) (jK H a0).2) (
jg ((jK H a1).1 = 11) (
jb (F_11_key a1 ((jshlL (Int32.toInt64 (jI H a0 ((a3 + 1) : Int32).toNatClampNeg)) 32) ||| ((Int32.toInt64 (jI H a0 ((a3 + 2) : Int32).toNatClampNeg)) &&& 4294967295)) ((jshlL (Int32.toInt64 (jI H a0 ((a3 + 3) : Int32).toNatClampNeg)) 32) ||| ((Int32.toInt64 (jI H a0 ((a3 + 4) : Int32).toNatClampNeg)) &&& 4294967295)) ((jshlL (Int32.toInt64 (jI H a0 ((a3 + 5) : Int32).toNatClampNeg)) 32) ||| ((Int32.toInt64 (jI H a0 ((a3 + 6) : Int32).toNatClampNeg)) &&& 4294967295)) ((jshlL (Int32.toInt64 (jI H a0 ((a3 + 7) : Int32).toNatClampNeg)) 32) ||| ((Int32.toInt64 (jI H a0 ((a3 + 8) : Int32).toNatClampNeg)) &&& 4294967295)) (jI H a0 ((a3 + 9) : Int32).toNatClampNeg) H) fun x18 h19 =>
jg ((jK h19 a0).1 = 100 ∧ jin ((a3 + 1)) (jK h19 a0).2) (
jg ((jK h19 a0).1 = 100 ∧ jin ((a3 + 2)) (jK h19 a0).2) (
jg ((jK h19 a0).1 = 100 ∧ jin ((a3 + 3)) (jK h19 a0).2) (
jg ((jK h19 a0).1 = 100 ∧ jin ((a3 + 4)) (jK h19 a0).2) (
jg ((jK h19 a0).1 = 100 ∧ jin ((a3 + 5)) (jK h19 a0).2) (
jg ((jK h19 a0).1 = 100 ∧ jin ((a3 + 6)) (jK h19 a0).2) (
jg ((jK h19 a0).1 = 100 ∧ jin ((a3 + 7)) (jK h19 a0).2) (
jg ((jK h19 a0).1 = 100 ∧ jin ((a3 + 8)) (jK h19 a0).2) (
jg ((jK h19 a0).1 = 100 ∧ jin ((a3 + 9)) (jK h19 a0).2) (
jg ((jK h19 a2).1 = 18) (
jb (F_18_key a2 ((jshlL (Int32.toInt64 (jI h19 a0 ((a3 + 1) : Int32).toNatClampNeg)) 32) ||| ((Int32.toInt64 (jI h19 a0 ((a3 + 2) : Int32).toNatClampNeg)) &&& 4294967295)) ((jshlL (Int32.toInt64 (jI h19 a0 ((a3 + 3) : Int32).toNatClampNeg)) 32) ||| ((Int32.toInt64 (jI h19 a0 ((a3 + 4) : Int32).toNatClampNeg)) &&& 4294967295)) ((jshlL (Int32.toInt64 (jI h19 a0 ((a3 + 5) : Int32).toNatClampNeg)) 32) ||| ((Int32.toInt64 (jI h19 a0 ((a3 + 6) : Int32).toNatClampNeg)) &&& 4294967295)) ((jshlL (Int32.toInt64 (jI h19 a0 ((a3 + 7) : Int32).toNatClampNeg)) 32) ||| ((Int32.toInt64 (jI h19 a0 ((a3 + 8) : Int32).toNatClampNeg)) &&& 4294967295)) (jI h19 a0 ((a3 + 9) : Int32).toNatClampNeg) h19) fun x20 h21 =>
B_L_law_492 k18 a0 a1 a2 a3 h21))))))))))))))))))))
else if (((jI H a0 (a3 : Int32).toNatClampNeg) &&& 15) : Int32) = 5 then
jg ((jK H a1).1 = 11) (
jb (F_11_value a1 H) fun x22 h23 =>
jg ((jK h23 a2).1 = 18) (
jb (F_18_value a2 h23) fun x24 h25 =>
(if (x22 : Int64) = x24 then
B_L_law_492 k18 a0 a1 a2 a3 h25
else
jg ((0 : Int32) = 0 ∨ (0 : Int32) = 1) (some (0, h25)))))
else if (((jI H a0 (a3 : Int32).toNatClampNeg) &&& 15) : Int32) = 6 then
jg ((jK H a1).1 = 11) (
jb (F_11_total a1 H) fun x26 h27 =>
jg ((jK h27 a2).1 = 18) (
jb (F_18_total a2 h27) fun x28 h29 =>
(if (x26 : Int64) = x28 then
B_L_law_492 k18 a0 a1 a2 a3 h29
else
jg ((0 : Int32) = 0 ∨ (0 : Int32) = 1) (some (0, h29)))))
else if (((jI H a0 (a3 : Int32).toNatClampNeg) &&& 15) : Int32) = 7 then
jg ((jK H a0).1 = 100 ∧ jin ((a3 + 1)) (jK H a0).2) (
jg ((jK H a1).1 = 11) (
jb (F_11_count a1 (jI H a0 ((a3 + 1) : Int32).toNatClampNeg) H) fun x30 h31 =>
jg ((jK h31 a0).1 = 100 ∧ jin ((a3 + 1)) (jK h31 a0).2) (
jg ((jK h31 a2).1 = 18) (
jb (F_18_count a2 (jI h31 a0 ((a3 + 1) : Int32).toNatClampNeg) h31) fun x32 h33 =>
(if (x30 : Int32) = (x32 : Int32) then
B_L_law_492 k18 a0 a1 a2 a3 h33
else
jg ((0 : Int32) = 0 ∨ (0 : Int32) = 1) (some (0, h33)))))))
else if (((jI H a0 (a3 : Int32).toNatClampNeg) &&& 15) : Int32) = 8 then
jg ((jK H a1).1 = 11) (
jb (F_11_fees a1 H) fun x34 h35 =>
jg ((jK h35 a2).1 = 18) (
jb (F_18_fees a2 h35) fun x36 h37 =>
(if (x34 : Int64) = x36 then
B_L_law_492 k18 a0 a1 a2 a3 h37
else
jg ((0 : Int32) = 0 ∨ (0 : Int32) = 1) (some (0, h37)))))
else 
B_L_law_492 k18 a0 a1 a2 a3 H))))
def F_L_law_18  : Nat → Nat → Nat → Nat → Int32 → jH → Option (Int32 × jH)
  | 0 => fun _ _ _ _ _ => none
  | n + 1 => fun a0 a1 a2 a3 H => B_L_law_18 (F_L_law_18  n) a0 a1 a2 a3 H
def F_L_law (a0 : Nat) (H : jH) : Option (Int32 × jH) :=
jnw H 11 14 fun r38 h39 =>
jg (jF0 ≤ r38) (
jb (F_11_init r38 h39) fun x40 h41 =>
jnw h41 18 61 fun r42 h43 =>
jg (jF0 ≤ r42) (
jb (F_18_init r42 h43) fun x44 h45 =>
F_L_law_18 jfuel a0 r38 r42 0 h45))
