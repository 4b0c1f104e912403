def B_L_low_40 (k6 : Nat → Nat → Nat → Int64 → Int32 → Int32 → Int32 → jH → Option (Int32 × jH)) (a0 : Nat) (a1 : Nat) (a2 : Nat) (a3 : Int64) (a5 : Int32) (a7 : Int32) (s0 : Int32) (H : jH) : Option (Int32 × jH) :=
jl (a7 + 1) fun x1 =>
k6 a0 a1 a2 a3 a5 s0 x1 H
def B_L_low_39 (k6 : Nat → Nat → Nat → Int64 → Int32 → Int32 → Int32 → jH → Option (Int32 × jH)) (a0 : Nat) (a1 : Nat) (a2 : Nat) (a3 : Int64) (a5 : Int32) (a7 : Int32) (H : jH) : Option (Int32 × jH) :=
B_L_low_40 k6 a0 a1 a2 a3 a5 a7 0 H
def B_L_low_6 (k6 : Nat → Nat → Nat → Int64 → Int32 → Int32 → Int32 → jH → Option (Int32 × jH)) (a0 : Nat) (a1 : Nat) (a2 : Nat) (a3 : Int64) (a5 : Int32) (a6 : Int32) (a7 : Int32) (H : jH) : Option (Int32 × jH) :=
(if (a5 : Int32) ≤ (a7 : Int32) then
jg ((a6 : Int32) = 0 ∨ (a6 : Int32) = 1) (some (a6, H))
else
(if (a6 : Int32) = 0 then
B_L_low_39 k6 a0 a1 a2 a3 a5 a7 H
else
jb (F_L_put a0 a1 a2 (Int64.toInt32 (jshrL a3 (8 * a7))) H) fun x2 h3 =>
(if (x2 : Int32) = 0 then
B_L_low_39 k6 a0 a1 a2 a3 a5 a7 h3
else
B_L_low_40 k6 a0 a1 a2 a3 a5 a7 1 h3)))
def F_L_low_6  : Nat → Nat → Nat → Nat → Int64 → Int32 → Int32 → Int32 → jH → Option (Int32 × jH)
  | 0 => fun _ _ _ _ _ _ _ _ => none
  | n + 1 => fun a0 a1 a2 a3 a5 a6 a7 H => B_L_low_6 (F_L_low_6  n) a0 a1 a2 a3 a5 a6 a7 H
def F_L_low (a0 : Nat) (a1 : Nat) (a2 : Nat) (a3 : Int64) (a5 : Int32) (H : jH) : Option (Int32 × jH) :=
F_L_low_6 jfuel a0 a1 a2 a3 a5 1 0 H
def B_L_lay_67 (k6 : Nat → Nat → Nat → Int32 → Int32 → Int32 → jH → Option (Int32 × jH)) (a0 : Nat) (a1 : Nat) (a2 : Nat) (a3 : Int32) (a5 : Int32) (s0 : Int32) (H : jH) : Option (Int32 × jH) :=
jl (a5 + 1) fun x1 =>
k6 a0 a1 a2 a3 s0 x1 H
def B_L_lay_66 (k6 : Nat → Nat → Nat → Int32 → Int32 → Int32 → jH → Option (Int32 × jH)) (a0 : Nat) (a1 : Nat) (a2 : Nat) (a3 : Int32) (a5 : Int32) (H : jH) : Option (Int32 × jH) :=
B_L_lay_67 k6 a0 a1 a2 a3 a5 0 H
def B_L_lay_56 (k6 : Nat → Nat → Nat → Int32 → Int32 → Int32 → jH → Option (Int32 × jH)) (a0 : Nat) (a1 : Nat) (a2 : Nat) (a3 : Int32) (a5 : Int32) (s0 : Nat) (s1 : Nat) (s2 : Nat) (s3 : Int32) (H : jH) : Option (Int32 × jH) :=
jb (F_L_put s0 s1 s2 s3 H) fun x2 h3 =>
(if (x2 : Int32) = 0 then
B_L_lay_66 k6 a0 a1 a2 a3 a5 h3
else
B_L_lay_67 k6 a0 a1 a2 a3 a5 1 h3)
def B_L_lay_6 (k6 : Nat → Nat → Nat → Int32 → Int32 → Int32 → jH → Option (Int32 × jH)) (a0 : Nat) (a1 : Nat) (a2 : Nat) (a3 : Int32) (a4 : Int32) (a5 : Int32) (H : jH) : Option (Int32 × jH) :=
(if (32 : Int32) ≤ (a5 : Int32) then
jg ((a4 : Int32) = 0 ∨ (a4 : Int32) = 1) (some (a4, H))
else
(if (a4 : Int32) = 0 then
B_L_lay_66 k6 a0 a1 a2 a3 a5 H
else
(if 0 ≤ (a3 : Int32) then
jg (¬ (8 : Int32) = 0) (
jg ((jK H a2).1 = 103 ∧ jin (((32 + (4 * a3)) + (a5 / 8))) (jK H a2).2) (
jg (¬ (8 : Int32) = 0) (
B_L_lay_56 k6 a0 a1 a2 a3 a5 a0 a1 a2 (Int64.toInt32 (jshrL (jL H a2 (((32 + (4 * a3)) + (a5 / 8)) : Int32).toNatClampNeg) (56 - (8 * (jrem a5 8))))) H)))
else
B_L_lay_56 k6 a0 a1 a2 a3 a5 a0 a1 a2 0 H)))
def F_L_lay_6  : Nat → Nat → Nat → Nat → Int32 → Int32 → Int32 → jH → Option (Int32 × jH)
  | 0 => fun _ _ _ _ _ _ _ => none
  | n + 1 => fun a0 a1 a2 a3 a4 a5 H => B_L_lay_6 (F_L_lay_6  n) a0 a1 a2 a3 a4 a5 H
def F_L_lay (a0 : Nat) (a1 : Nat) (a2 : Nat) (a3 : Int32) (H : jH) : Option (Int32 × jH) :=
F_L_lay_6 jfuel a0 a1 a2 a3 1 0 H
def B_L_open_19 (k19 : Nat → Nat → Nat → Int32 → Int32 → jH → Option (Int32 × jH)) (a0 : Nat) (a1 : Nat) (a2 : Nat) (a3 : Int32) (a4 : Int32) (H : jH) : Option (Int32 × jH) :=
(if (56 : Int32) ≤ (a4 : Int32) then
jb (F_L_put a0 a1 a2 a3 H) fun x1 h2 =>
jg ((x1 : Int32) = 0 ∨ (x1 : Int32) = 1) (some (x1, h2))
else
jg ((jK H a1).1 = 100 ∧ jF0 ≤ a1 ∧ jin (a4) (jK H a1).2) (
jl (jsI H a1 (a4 : Int32).toNatClampNeg 0) fun h3 =>
jl (a4 + 1) fun x4 =>
k19 a0 a1 a2 a3 x4 h3))
def F_L_open_19  : Nat → Nat → Nat → Nat → Int32 → Int32 → jH → Option (Int32 × jH)
  | 0 => fun _ _ _ _ _ _ => none
  | n + 1 => fun a0 a1 a2 a3 a4 H => B_L_open_19 (F_L_open_19  n) a0 a1 a2 a3 a4 H
def F_L_open (a0 : Nat) (a1 : Nat) (a2 : Nat) (a3 : Int32) (H : jH) : Option (Int32 × jH) :=
jg ((jK H a1).1 = 100 ∧ jF0 ≤ a1 ∧ jin (49) (jK H a1).2) (
jl (jsI H a1 (49 : Int32).toNatClampNeg 1) fun h5 =>
jg ((jK h5 a1).1 = 100 ∧ jF0 ≤ a1 ∧ jin (48) (jK h5 a1).2) (
jl (jsI h5 a1 (48 : Int32).toNatClampNeg 0) fun h6 =>
jg ((jK h6 a1).1 = 100 ∧ jF0 ≤ a1 ∧ jin (50) (jK h6 a1).2) (
jl (jsI h6 a1 (50 : Int32).toNatClampNeg 0) fun h7 =>
F_L_open_19 jfuel a0 a1 a2 a3 51 h7)))
def B_L_send_66  (s0 : Int32) (H : jH) : Option (Int32 × jH) :=
jg ((s0 : Int32) = 0 ∨ (s0 : Int32) = 1) (some (s0, H))
def B_L_send_65   (H : jH) : Option (Int32 × jH) :=
B_L_send_66 0 H
def B_L_send_39  (a0 : Nat) (a1 : Nat) (a2 : Int32) (s0 : Int32) (H : jH) : Option (Int32 × jH) :=
jg ((jK H a1).1 = 100 ∧ jF0 ≤ a1 ∧ jin (50) (jK H a1).2) (
jl (jsI H a1 (50 : Int32).toNatClampNeg 0) fun h1 =>
(if (s0 : Int32) = 0 then
B_L_send_65 h1
else
jg ((jK h1 a1).1 = 100 ∧ jin (48) (jK h1 a1).2) (
jg ((jK h1 a0).1 = 11) (
jb (F_11_send a0 a2 (jI h1 a1 (48 : Int32).toNatClampNeg) h1) fun x2 h3 =>
(if (x2 : Int32) = 0 then
B_L_send_65 h3
else
B_L_send_66 1 h3)))))
def B_L_send_34  (a0 : Nat) (a1 : Nat) (a2 : Int32) (H : jH) : Option (Int32 × jH) :=
B_L_send_39 a0 a1 a2 1 H
def F_L_send (a0 : Nat) (a1 : Nat) (a2 : Int32) (H : jH) : Option (Int32 × jH) :=
jg ((jK H a1).1 = 100 ∧ jin (50) (jK H a1).2) (
(if ((jI H a1 (50 : Int32).toNatClampNeg) : Int32) = 0 then
B_L_send_34 a0 a1 a2 H
else
jg ((jK H a1).1 = 100 ∧ jin (51) (jK H a1).2) (
jg ((jK H a1).1 = 100 ∧ jin (52) (jK H a1).2) (
jg ((jK H a1).1 = 100 ∧ jin (53) (jK H a1).2) (
jg ((jK H a1).1 = 100 ∧ jin (54) (jK H a1).2) (
jg ((jK H a1).1 = 100 ∧ jin (55) (jK H a1).2) (
jg ((jK H a0).1 = 11) (
jb (F_11_feed a0 (jI H a1 (51 : Int32).toNatClampNeg) (jI H a1 (52 : Int32).toNatClampNeg) (jI H a1 (53 : Int32).toNatClampNeg) (jI H a1 (54 : Int32).toNatClampNeg) (jI H a1 (55 : Int32).toNatClampNeg) H) fun x4 h5 =>
(if (x4 : Int32) = 0 then
B_L_send_39 a0 a1 a2 0 h5
else
B_L_send_34 a0 a1 a2 h5)))))))))
def B_L_tx_231  (s0 : Int32) (H : jH) : Option (Int32 × jH) :=
jg ((s0 : Int32) = 0 ∨ (s0 : Int32) = 1) (some (s0, H))
def B_L_tx_230   (H : jH) : Option (Int32 × jH) :=
B_L_tx_231 0 H
def B_L_tx_215  (a0 : Nat) (a1 : Nat) (a2 : Nat) (H : jH) : Option (Int32 × jH) :=
jb (F_L_low a0 a1 a2 0 4 H) fun x1 h2 =>
(if (x1 : Int32) = 0 then
B_L_tx_230 h2
else
B_L_tx_231 1 h2)
def B_L_tx_167  (a0 : Nat) (a1 : Nat) (a2 : Nat) (a8 : Int64) (s0 : Int32) (H : jH) : Option (Int32 × jH) :=
(if (s0 : Int32) = 0 then
B_L_tx_230 H
else
(if (a8 : Int64) < 0 then
B_L_tx_215 a0 a1 a2 H
else
jb (F_L_low a0 a1 a2 a8 8 H) fun x3 h4 =>
(if (x3 : Int32) = 0 then
B_L_tx_230 h4
else
jb (F_L_put a0 a1 a2 1 h4) fun x5 h6 =>
(if (x5 : Int32) = 0 then
B_L_tx_230 h6
else
jb (F_L_put a0 a1 a2 81 h6) fun x7 h8 =>
(if (x7 : Int32) = 0 then
B_L_tx_230 h8
else
B_L_tx_215 a0 a1 a2 h8)))))
def B_L_tx_166  (a0 : Nat) (a1 : Nat) (a2 : Nat) (a8 : Int64) (H : jH) : Option (Int32 × jH) :=
B_L_tx_167 a0 a1 a2 a8 0 H
def B_L_tx_122  (a0 : Nat) (a1 : Nat) (a2 : Nat) (a6 : Int64) (a8 : Int64) (s0 : Nat) (s1 : Nat) (s2 : Nat) (s3 : Int32) (H : jH) : Option (Int32 × jH) :=
jb (F_L_put s0 s1 s2 s3 H) fun x9 h10 =>
(if (x9 : Int32) = 0 then
B_L_tx_166 a0 a1 a2 a8 h10
else
jb (F_L_low a0 a1 a2 a6 8 h10) fun x11 h12 =>
(if (x11 : Int32) = 0 then
B_L_tx_166 a0 a1 a2 a8 h12
else
jb (F_L_put a0 a1 a2 1 h12) fun x13 h14 =>
(if (x13 : Int32) = 0 then
B_L_tx_166 a0 a1 a2 a8 h14
else
jb (F_L_put a0 a1 a2 81 h14) fun x15 h16 =>
(if (x15 : Int32) = 0 then
B_L_tx_166 a0 a1 a2 a8 h16
else
B_L_tx_167 a0 a1 a2 a8 1 h16))))
def B_L_tx_94  (a0 : Nat) (a1 : Nat) (a2 : Nat) (a6 : Int64) (a8 : Int64) (H : jH) : Option (Int32 × jH) :=
jb (F_L_low a0 a1 a2 (-1) 4 H) fun x17 h18 =>
(if (x17 : Int32) = 0 then
B_L_tx_166 a0 a1 a2 a8 h18
else
(if 0 ≤ (a8 : Int64) then
B_L_tx_122 a0 a1 a2 a6 a8 a0 a1 a2 2 h18
else
B_L_tx_122 a0 a1 a2 a6 a8 a0 a1 a2 1 h18))
def B_L_tx_47  (a0 : Nat) (a1 : Nat) (a2 : Nat) (a3 : Int32) (a5 : Int32) (a6 : Int64) (a8 : Int64) (s0 : Nat) (s1 : Nat) (s2 : Nat) (s3 : Int64) (H : jH) : Option (Int32 × jH) :=
jb (F_L_low s0 s1 s2 s3 4 H) fun x19 h20 =>
(if (x19 : Int32) = 0 then
B_L_tx_166 a0 a1 a2 a8 h20
else
(if 0 ≤ (a3 : Int32) then
jb (F_L_put a0 a1 a2 0 h20) fun x21 h22 =>
(if (x21 : Int32) = 0 then
B_L_tx_166 a0 a1 a2 a8 h22
else
B_L_tx_94 a0 a1 a2 a6 a8 h22)
else
jb (F_L_put a0 a1 a2 4 h20) fun x23 h24 =>
(if (x23 : Int32) = 0 then
B_L_tx_166 a0 a1 a2 a8 h24
else
jb (F_L_low a0 a1 a2 (Int32.toInt64 a5) 4 h24) fun x25 h26 =>
(if (x25 : Int32) = 0 then
B_L_tx_166 a0 a1 a2 a8 h26
else
B_L_tx_94 a0 a1 a2 a6 a8 h26))))
def F_L_tx (a0 : Nat) (a1 : Nat) (a2 : Nat) (a3 : Int32) (a4 : Int32) (a5 : Int32) (a6 : Int64) (a8 : Int64) (H : jH) : Option (Int32 × jH) :=
jb (F_L_low a0 a1 a2 1 4 H) fun x27 h28 =>
(if (x27 : Int32) = 0 then
B_L_tx_166 a0 a1 a2 a8 h28
else
jb (F_L_put a0 a1 a2 1 h28) fun x29 h30 =>
(if (x29 : Int32) = 0 then
B_L_tx_166 a0 a1 a2 a8 h30
else
jb (F_L_lay a0 a1 a2 a3 h30) fun x31 h32 =>
(if (x31 : Int32) = 0 then
B_L_tx_166 a0 a1 a2 a8 h32
else
(if 0 ≤ (a3 : Int32) then
B_L_tx_47 a0 a1 a2 a3 a5 a6 a8 a0 a1 a2 (Int32.toInt64 a4) h32
else
B_L_tx_47 a0 a1 a2 a3 a5 a6 a8 a0 a1 a2 (-1) h32))))
def B_L_head_76  (s0 : Int32) (H : jH) : Option (Int32 × jH) :=
jg ((s0 : Int32) = 0 ∨ (s0 : Int32) = 1) (some (s0, H))
def B_L_head_75   (H : jH) : Option (Int32 × jH) :=
B_L_head_76 0 H
def F_L_head (a0 : Nat) (a1 : Nat) (a2 : Nat) (a3 : Int32) (a4 : Int32) (a5 : Int32) (a6 : Int32) (a7 : Int32) (H : jH) : Option (Int32 × jH) :=
jb (F_L_low a0 a1 a2 1 4 H) fun x1 h2 =>
(if (x1 : Int32) = 0 then
B_L_head_75 h2
else
jb (F_L_lay a0 a1 a2 a3 h2) fun x3 h4 =>
(if (x3 : Int32) = 0 then
B_L_head_75 h4
else
jb (F_L_lay a0 a1 a2 a4 h4) fun x5 h6 =>
(if (x5 : Int32) = 0 then
B_L_head_75 h6
else
jb (F_L_low a0 a1 a2 (Int32.toInt64 a5) 4 h6) fun x7 h8 =>
(if (x7 : Int32) = 0 then
B_L_head_75 h8
else
jb (F_L_low a0 a1 a2 (Int32.toInt64 a6) 4 h8) fun x9 h10 =>
(if (x9 : Int32) = 0 then
B_L_head_75 h10
else
jb (F_L_low a0 a1 a2 (Int32.toInt64 a7) 4 h10) fun x11 h12 =>
(if (x11 : Int32) = 0 then
B_L_head_75 h12
else
B_L_head_76 1 h12))))))
def B_L_isNoted_57 (k5 : Nat → Nat → Int32 → Int32 → Int32 → jH → Option (Int32 × jH)) (a0 : Nat) (a1 : Nat) (a2 : Int32) (a4 : Int32) (s0 : Int32) (H : jH) : Option (Int32 × jH) :=
jl (a4 + 1) fun x1 =>
k5 a0 a1 a2 s0 x1 H
def B_L_isNoted_52 (k5 : Nat → Nat → Int32 → Int32 → Int32 → jH → Option (Int32 × jH)) (a0 : Nat) (a1 : Nat) (a2 : Int32) (a4 : Int32) (H : jH) : Option (Int32 × jH) :=
B_L_isNoted_57 k5 a0 a1 a2 a4 1 H
def B_L_isNoted_5 (k5 : Nat → Nat → Int32 → Int32 → Int32 → jH → Option (Int32 × jH)) (a0 : Nat) (a1 : Nat) (a2 : Int32) (a3 : Int32) (a4 : Int32) (H : jH) : Option (Int32 × jH) :=
jg ((jK H a0).1 = 100 ∧ jin (61) (jK H a0).2) (
(if ((jI H a0 (61 : Int32).toNatClampNeg) : Int32) ≤ (a4 : Int32) then
jg ((a3 : Int32) = 0 ∨ (a3 : Int32) = 1) (some (a3, H))
else
(if ¬ (a3 : Int32) = 0 then
B_L_isNoted_52 k5 a0 a1 a2 a4 H
else
jg (¬ (3 : Int32) = 0) (
jg ((jK H a1).1 = 103 ∧ jin ((a4 / 3)) (jK H a1).2) (
jg (¬ (3 : Int32) = 0) (
jg ((jK H a1).1 = 103 ∧ jin ((32 + (4 * a2))) (jK H a1).2) (
(if ¬ (((jshrL (jL H a1 ((a4 / 3) : Int32).toNatClampNeg) (21 * (jrem a4 3))) &&& 2097151) : Int64) = ((jL H a1 ((32 + (4 * a2)) : Int32).toNatClampNeg) &&& 2097151) then
B_L_isNoted_57 k5 a0 a1 a2 a4 0 H
else
B_L_isNoted_52 k5 a0 a1 a2 a4 H))))))))
def F_L_isNoted_5  : Nat → Nat → Nat → Int32 → Int32 → Int32 → jH → Option (Int32 × jH)
  | 0 => fun _ _ _ _ _ _ => none
  | n + 1 => fun a0 a1 a2 a3 a4 H => B_L_isNoted_5 (F_L_isNoted_5  n) a0 a1 a2 a3 a4 H
def F_L_isNoted (a0 : Nat) (a1 : Nat) (a2 : Int32) (H : jH) : Option (Int32 × jH) :=
F_L_isNoted_5 jfuel a0 a1 a2 0 0 H
def B_L_note_77  (a0 : Nat) (a1 : Nat) (a2 : Int32) (a3 : Int32) (s0 : Nat) (s1 : Int32) (s2 : Int64) (H : jH) : Option (Unit × jH) :=
jg ((jK H a1).1 = 103 ∧ jin ((32 + (4 * a2))) (jK H a1).2) (
jg (¬ (3 : Int32) = 0) (
jg ((jK H s0).1 = 103 ∧ jin (s1) (jK H s0).2) (
jl (jsL H s0 (s1 : Int32).toNatClampNeg (s2 ||| (jshlL ((jL H a1 ((32 + (4 * a2)) : Int32).toNatClampNeg) &&& 2097151) (21 * (jrem a3 3))))) fun h1 =>
jg ((jK h1 a0).1 = 100 ∧ jF0 ≤ a0 ∧ jin (61) (jK h1 a0).2) (
jl (jsI h1 a0 (61 : Int32).toNatClampNeg (a3 + 1)) fun h2 =>
some ((), h2)))))
def B_L_note_57  (a0 : Nat) (a1 : Nat) (a2 : Int32) (s0 : Int32) (H : jH) : Option (Unit × jH) :=
jg (¬ (3 : Int32) = 0) (
jg (¬ (3 : Int32) = 0) (
(if ¬ ((jrem s0 3) : Int32) = 0 then
jg (¬ (3 : Int32) = 0) (
jg ((jK H a1).1 = 103 ∧ jin ((s0 / 3)) (jK H a1).2) (
B_L_note_77 a0 a1 a2 s0 a1 (s0 / 3) (jL H a1 ((s0 / 3) : Int32).toNatClampNeg) H))
else
B_L_note_77 a0 a1 a2 s0 a1 (s0 / 3) 0 H)))
def B_L_note_38  (a0 : Nat) (a1 : Nat) (a2 : Int32) (s0 : Nat) (s1 : Int32) (s2 : Int32) (H : jH) : Option (Unit × jH) :=
jg ((jK H s0).1 = 100 ∧ jF0 ≤ s0 ∧ jin (s1) (jK H s0).2) (
jl (jsI H s0 (s1 : Int32).toNatClampNeg s2) fun h3 =>
jg ((jK h3 a0).1 = 100 ∧ jin (61) (jK h3 a0).2) (
(if ((jI h3 a0 (61 : Int32).toNatClampNeg) : Int32) ≤ (94 : Int32) then
jg ((jK h3 a0).1 = 100 ∧ jin (61) (jK h3 a0).2) (
B_L_note_57 a0 a1 a2 (jI h3 a0 (61 : Int32).toNatClampNeg) h3)
else
B_L_note_57 a0 a1 a2 94 h3)))
def B_L_note_30  (a0 : Nat) (a1 : Nat) (a2 : Int32) (s0 : Nat) (s1 : Int32) (H : jH) : Option (Unit × jH) :=
B_L_note_38 a0 a1 a2 s0 s1 1 H
def F_L_note (a0 : Nat) (a1 : Nat) (a2 : Int32) (H : jH) : Option (Unit × jH) :=
jg ((jK H a0).1 = 100 ∧ jin (60) (jK H a0).2) (
(if ¬ ((jI H a0 (60 : Int32).toNatClampNeg) : Int32) = (1 : Int32) then
jb (F_L_isNoted a0 a1 a2 H) fun x4 h5 =>
(if ¬ (x4 : Int32) = 0 then
B_L_note_30 a0 a1 a2 a0 59 h5
else
jg ((jK h5 a0).1 = 100 ∧ jin (61) (jK h5 a0).2) (
(if ((jI h5 a0 (61 : Int32).toNatClampNeg) : Int32) ≤ (94 : Int32) then
jg ((jK h5 a0).1 = 100 ∧ jin (59) (jK h5 a0).2) (
B_L_note_38 a0 a1 a2 a0 59 (jI h5 a0 (59 : Int32).toNatClampNeg) h5)
else
B_L_note_30 a0 a1 a2 a0 59 h5)))
else
some ((), H)))
def F_L_first (a0 : Nat) (a1 : Nat) (a2 : Nat) (a3 : Int32) (H : jH) : Option (Unit × jH) :=
jb (F_L_begin a1 H) fun x1 h2 =>
jb (F_L_head a0 a1 a2 (-1) (-1) 1000000 545259519 0 h2) fun x3 h4 =>
jb (F_L_name a1 a2 a3 h4) fun x5 h6 =>
jg ((jK h6 a1).1 = 100 ∧ jF0 ≤ a1 ∧ jin (61) (jK h6 a1).2) (
jl (jsI h6 a1 (61 : Int32).toNatClampNeg 1) fun h7 =>
jb (F_L_note a1 a2 a3 h7) fun x8 h9 =>
some ((), h9))
def F_L_byteAt (a0 : Nat) (a1 : Int32) (H : jH) : Option (Int32 × jH) :=
jg (¬ (4 : Int32) = 0) (
jg ((jK H a0).1 = 100 ∧ jin ((32 + (a1 / 4))) (jK H a0).2) (
jg (¬ (4 : Int32) = 0) (
some (((jshr (jI H a0 ((32 + (a1 / 4)) : Int32).toNatClampNeg) (24 - (8 * (jrem a1 4)))) &&& 255), H))))
def B_L_mine_77 (k51 : Nat → Nat → Nat → Int32 → Int32 → Int32 → Int32 → Int32 → Int32 → Int32 → Int32 → Int32 → Int32 → jH → Option (Int32 × jH)) (a0 : Nat) (a1 : Nat) (a2 : Nat) (a3 : Int32) (a4 : Int32) (a5 : Int32) (a6 : Int32) (a7 : Int32) (a8 : Int32) (a9 : Int32) (a10 : Int32) (a12 : Int32) (s0 : Int32) (H : jH) : Option (Int32 × jH) :=
jl (a12 + (-1)) fun x1 =>
k51 a0 a1 a2 a3 a4 a5 a6 a7 a8 a9 a10 s0 x1 H
def B_L_mine_76 (k51 : Nat → Nat → Nat → Int32 → Int32 → Int32 → Int32 → Int32 → Int32 → Int32 → Int32 → Int32 → Int32 → jH → Option (Int32 × jH)) (a0 : Nat) (a1 : Nat) (a2 : Nat) (a3 : Int32) (a4 : Int32) (a5 : Int32) (a6 : Int32) (a7 : Int32) (a8 : Int32) (a9 : Int32) (a10 : Int32) (a12 : Int32) (H : jH) : Option (Int32 × jH) :=
B_L_mine_77 k51 a0 a1 a2 a3 a4 a5 a6 a7 a8 a9 a10 a12 0 H
def B_L_mine_157  (a1 : Nat) (a2 : Nat) (a7 : Int32) (a10 : Int32) (H : jH) : Option (Int32 × jH) :=
jg ((jK H a1).1 = 100 ∧ jF0 ≤ a1 ∧ jin (58) (jK H a1).2) (
jl (jsI H a1 (58 : Int32).toNatClampNeg a10) fun h2 =>
jb (F_L_note a1 a2 a7 h2) fun x3 h4 =>
some (a10, h4))
def B_L_mine_173 (k10 : Nat → Nat → Nat → Int32 → Int32 → Int32 → Int32 → Int32 → Int32 → Int32 → Int32 → jH → Option (Int32 × jH)) (a0 : Nat) (a1 : Nat) (a2 : Nat) (a3 : Int32) (a4 : Int32) (a5 : Int32) (a6 : Int32) (a7 : Int32) (a8 : Int32) (a9 : Int32) (a10 : Int32) (H : jH) : Option (Int32 × jH) :=
jl (a10 + 1) fun x5 =>
k10 a0 a1 a2 a3 a4 a5 a6 a7 a8 a9 x5 H
def B_L_mine_51 (k10 : Nat → Nat → Nat → Int32 → Int32 → Int32 → Int32 → Int32 → Int32 → Int32 → Int32 → jH → Option (Int32 × jH)) (k51 : Nat → Nat → Nat → Int32 → Int32 → Int32 → Int32 → Int32 → Int32 → Int32 → Int32 → Int32 → Int32 → jH → Option (Int32 × jH)) (a0 : Nat) (a1 : Nat) (a2 : Nat) (a3 : Int32) (a4 : Int32) (a5 : Int32) (a6 : Int32) (a7 : Int32) (a8 : Int32) (a9 : Int32) (a10 : Int32) (a11 : Int32) (a12 : Int32) (H : jH) : Option (Int32 × jH) :=
(if (a12 : Int32) < (a9 : Int32) then
jb (F_L_byteAt a1 (a9 - 1) H) fun x6 h7 =>
jb (F_L_byteAt a1 (a9 - 2) h7) fun x8 h9 =>
jb (F_L_byteAt a1 (a9 - 3) h9) fun x10 h11 =>
jl (((jshl x6 16) ||| (jshl x8 8)) ||| x10) fun x12 =>
(if (a8 : Int32) = 0 then
(if (a11 : Int32) = 0 then
B_L_mine_157 a1 a2 a7 a10 h11
else
(if (x12 : Int32) ≤ ((a6 &&& 8388607) : Int32) then
B_L_mine_173 k10 a0 a1 a2 a3 a4 a5 a6 a7 a8 a9 a10 h11
else
B_L_mine_157 a1 a2 a7 a10 h11))
else
(if (a11 : Int32) = 0 then
B_L_mine_173 k10 a0 a1 a2 a3 a4 a5 a6 a7 a8 a9 a10 h11
else
(if ((a6 &&& 8388607) : Int32) ≤ (x12 : Int32) then
B_L_mine_173 k10 a0 a1 a2 a3 a4 a5 a6 a7 a8 a9 a10 h11
else
B_L_mine_157 a1 a2 a7 a10 h11)))
else
(if (a11 : Int32) = 0 then
B_L_mine_76 k51 a0 a1 a2 a3 a4 a5 a6 a7 a8 a9 a10 a12 H
else
jb (F_L_byteAt a1 a12 H) fun x13 h14 =>
(if ¬ (x13 : Int32) = 0 then
B_L_mine_76 k51 a0 a1 a2 a3 a4 a5 a6 a7 a8 a9 a10 a12 h14
else
B_L_mine_77 k51 a0 a1 a2 a3 a4 a5 a6 a7 a8 a9 a10 a12 1 h14)))
def F_L_mine_51 (k10 : Nat → Nat → Nat → Int32 → Int32 → Int32 → Int32 → Int32 → Int32 → Int32 → Int32 → jH → Option (Int32 × jH)) : Nat → Nat → Nat → Nat → Int32 → Int32 → Int32 → Int32 → Int32 → Int32 → Int32 → Int32 → Int32 → Int32 → jH → Option (Int32 × jH)
  | 0 => fun _ _ _ _ _ _ _ _ _ _ _ _ _ _ => none
  | n + 1 => fun a0 a1 a2 a3 a4 a5 a6 a7 a8 a9 a10 a11 a12 H => B_L_mine_51 k10 (F_L_mine_51 k10 n) a0 a1 a2 a3 a4 a5 a6 a7 a8 a9 a10 a11 a12 H
def B_L_mine_10 (k10 : Nat → Nat → Nat → Int32 → Int32 → Int32 → Int32 → Int32 → Int32 → Int32 → Int32 → jH → Option (Int32 × jH)) (a0 : Nat) (a1 : Nat) (a2 : Nat) (a3 : Int32) (a4 : Int32) (a5 : Int32) (a6 : Int32) (a7 : Int32) (a8 : Int32) (a9 : Int32) (a10 : Int32) (H : jH) : Option (Int32 × jH) :=
(if (1000000 : Int32) ≤ (a10 : Int32) then
jg ((jK H a1).1 = 100 ∧ jF0 ≤ a1 ∧ jin (59) (jK H a1).2) (
jl (jsI H a1 (59 : Int32).toNatClampNeg 1) fun h15 =>
some ((-1), h15))
else
jb (F_L_begin a1 H) fun x16 h17 =>
jb (F_L_head a0 a1 a2 a3 a4 a5 a6 a10 h17) fun x18 h19 =>
jb (F_L_name a1 a2 a7 h19) fun x20 h21 =>
F_L_mine_51 k10 jfuel a0 a1 a2 a3 a4 a5 a6 a7 a8 a9 a10 1 31 h21)
def F_L_mine_10  : Nat → Nat → Nat → Nat → Int32 → Int32 → Int32 → Int32 → Int32 → Int32 → Int32 → Int32 → jH → Option (Int32 × jH)
  | 0 => fun _ _ _ _ _ _ _ _ _ _ _ _ => none
  | n + 1 => fun a0 a1 a2 a3 a4 a5 a6 a7 a8 a9 a10 H => B_L_mine_10 (F_L_mine_10  n) a0 a1 a2 a3 a4 a5 a6 a7 a8 a9 a10 H
def F_L_mine (a0 : Nat) (a1 : Nat) (a2 : Nat) (a3 : Int32) (a4 : Int32) (a5 : Int32) (a6 : Int32) (a7 : Int32) (a8 : Int32) (H : jH) : Option (Int32 × jH) :=
jl (jushr a6 24) fun x22 =>
F_L_mine_10 jfuel a0 a1 a2 a3 a4 a5 a6 a7 a8 x22 0 H
def B_L_answer_40 (k14 : Nat → Int32 → Int64 → Int64 → Int32 → jH → Option (Int64 × jH)) (k40 : Nat → Int32 → Int64 → Int64 → Int32 → Int32 → Int32 → jH → Option (Int64 × jH)) (a0 : Nat) (a1 : Int32) (a2 : Int64) (a4 : Int64) (a6 : Int32) (a7 : Int32) (a8 : Int32) (H : jH) : Option (Int64 × jH) :=
(if (a7 : Int32) ≤ (a8 : Int32) then
jg ((jK H a0).1 = 11) (
jb (F_11_fetch a0 a1 H) fun x1 h2 =>
jl (a6 + 1) fun x3 =>
k14 a0 a1 a2 x1 x3 h2)
else
jb (F_L_fold a2 ((jshrL a4 (48 - (8 * a8))) &&& 255) H) fun x4 h5 =>
jl (a8 + 1) fun x6 =>
k40 a0 a1 x4 a4 a6 a7 x6 h5)
def F_L_answer_40 (k14 : Nat → Int32 → Int64 → Int64 → Int32 → jH → Option (Int64 × jH)) : Nat → Nat → Int32 → Int64 → Int64 → Int32 → Int32 → Int32 → jH → Option (Int64 × jH)
  | 0 => fun _ _ _ _ _ _ _ _ => none
  | n + 1 => fun a0 a1 a2 a4 a6 a7 a8 H => B_L_answer_40 k14 (F_L_answer_40 k14 n) a0 a1 a2 a4 a6 a7 a8 H
def B_L_answer_86  (a2 : Int64) (H : jH) : Option (Int64 × jH) :=
some (a2, H)
def B_L_answer_14 (k14 : Nat → Int32 → Int64 → Int64 → Int32 → jH → Option (Int64 × jH)) (a0 : Nat) (a1 : Int32) (a2 : Int64) (a4 : Int64) (a6 : Int32) (H : jH) : Option (Int64 × jH) :=
(if (2000 : Int32) ≤ (a6 : Int32) then
B_L_answer_86 a2 H
else
(if (a4 : Int64) = 0 then
B_L_answer_86 a2 H
else
jl (Int64.toInt32 (jshrL a4 56)) fun x7 =>
F_L_answer_40 k14 jfuel a0 a1 a2 a4 a6 x7 0 H))
def F_L_answer_14  : Nat → Nat → Int32 → Int64 → Int64 → Int32 → jH → Option (Int64 × jH)
  | 0 => fun _ _ _ _ _ _ => none
  | n + 1 => fun a0 a1 a2 a4 a6 H => B_L_answer_14 (F_L_answer_14  n) a0 a1 a2 a4 a6 H
def F_L_answer (a0 : Nat) (a1 : Int32) (H : jH) : Option (Int64 × jH) :=
jg ((jK H a0).1 = 11) (
jb (F_11_fetch a0 a1 H) fun x8 h9 =>
F_L_answer_14 jfuel a0 a1 7 x8 0 h9)
def B_L_named_49 (k3 : Int64 → Nat → Int32 → Int32 → jH → Option (Int64 × jH)) (a2 : Nat) (a3 : Int32) (a4 : Int32) (s0 : Int64) (s1 : Int64) (H : jH) : Option (Int64 × jH) :=
jb (F_L_fold s0 s1 H) fun x1 h2 =>
jl (a4 + 1) fun x3 =>
k3 x1 a2 a3 x3 h2
def B_L_named_3 (k3 : Int64 → Nat → Int32 → Int32 → jH → Option (Int64 × jH)) (a0 : Int64) (a2 : Nat) (a3 : Int32) (a4 : Int32) (H : jH) : Option (Int64 × jH) :=
(if (32 : Int32) ≤ (a4 : Int32) then
some (a0, H)
else
(if 0 ≤ (a3 : Int32) then
jg (¬ (8 : Int32) = 0) (
jg ((jK H a2).1 = 103 ∧ jin (((32 + (4 * a3)) + (a4 / 8))) (jK H a2).2) (
jg (¬ (8 : Int32) = 0) (
B_L_named_49 k3 a2 a3 a4 a0 ((jshrL (jL H a2 (((32 + (4 * a3)) + (a4 / 8)) : Int32).toNatClampNeg) (56 - (8 * (jrem a4 8)))) &&& 255) H)))
else
B_L_named_49 k3 a2 a3 a4 a0 0 H))
def F_L_named_3  : Nat → Int64 → Nat → Int32 → Int32 → jH → Option (Int64 × jH)
  | 0 => fun _ _ _ _ _ => none
  | n + 1 => fun a0 a2 a3 a4 H => B_L_named_3 (F_L_named_3  n) a0 a2 a3 a4 H
def F_L_named (a0 : Int64) (a2 : Nat) (a3 : Int32) (H : jH) : Option (Int64 × jH) :=
F_L_named_3 jfuel a0 a2 a3 0 H
def F_L_verdict (a0 : Int32) (a1 : Nat) (a2 : Int32) (H : jH) : Option (Int64 × jH) :=
jb (F_L_fold 7 0 H) fun x1 h2 =>
jb (F_L_fold x1 34 h2) fun x3 h4 =>
jb (F_L_fold x3 8 h4) fun x5 h6 =>
jb (F_L_fold x5 (Int32.toInt64 a0) h6) fun x7 h8 =>
jb (F_L_named x7 a1 a2 h8) fun x9 h10 =>
some (x9, h10)
def F_L_have (a0 : Int32) (a1 : Nat) (a2 : Int32) (H : jH) : Option (Int64 × jH) :=
jb (F_L_fold 7 0 H) fun x1 h2 =>
jb (F_L_fold x1 35 h2) fun x3 h4 =>
jb (F_L_fold x3 6 h4) fun x5 h6 =>
jb (F_L_fold x5 1 h6) fun x7 h8 =>
jb (F_L_fold x7 (Int32.toInt64 a0) h8) fun x9 h10 =>
jb (F_L_named x9 a1 a2 h10) fun x11 h12 =>
some (x11, h12)
def B_L_block_130  (s0 : Int32) (H : jH) : Option (Int32 × jH) :=
jg ((s0 : Int32) = 0 ∨ (s0 : Int32) = 1) (some (s0, H))
def B_L_block_129   (H : jH) : Option (Int32 × jH) :=
B_L_block_130 0 H
def F_L_block (a0 : Nat) (a1 : Nat) (a2 : Nat) (a3 : Int32) (a4 : Int32) (a5 : Int32) (a6 : Int32) (a7 : Int32) (a8 : Int64) (H : jH) : Option (Int32 × jH) :=
jb (F_L_begin a1 H) fun x1 h2 =>
jb (F_L_tx a0 a1 a2 (-1) 0 a7 a8 (-1) h2) fun x3 h4 =>
jb (F_L_name a1 a2 7 h4) fun x5 h6 =>
jb (F_L_note a1 a2 7 h6) fun x7 h8 =>
jb (F_L_mine a0 a1 a2 a4 7 a6 545259519 a5 1 h8) fun x9 h10 =>
(if (x3 : Int32) = 0 then
B_L_block_129 h10
else
jb (F_L_open a0 a1 a2 2 h10) fun x11 h12 =>
(if (x11 : Int32) = 0 then
B_L_block_129 h12
else
jb (F_L_head a0 a1 a2 a4 7 a6 545259519 x9 h12) fun x13 h14 =>
(if (x13 : Int32) = 0 then
B_L_block_129 h14
else
jb (F_L_put a0 a1 a2 1 h14) fun x15 h16 =>
(if (x15 : Int32) = 0 then
B_L_block_129 h16
else
jb (F_L_tx a0 a1 a2 (-1) 0 a7 a8 (-1) h16) fun x17 h18 =>
(if (x17 : Int32) = 0 then
B_L_block_129 h18
else
jb (F_L_send a0 a1 a3 h18) fun x19 h20 =>
(if (x19 : Int32) = 0 then
B_L_block_129 h20
else
B_L_block_130 1 h20))))))
def B_L_isAt_77  (s0 : Int32) (H : jH) : Option (Int32 × jH) :=
jg ((s0 : Int32) = 0 ∨ (s0 : Int32) = 1) (some (s0, H))
def B_L_isAt_76   (H : jH) : Option (Int32 × jH) :=
B_L_isAt_77 0 H
def F_L_isAt (a0 : Nat) (a1 : Nat) (a2 : Int32) (a3 : Int32) (H : jH) : Option (Int32 × jH) :=
jg ((jK H a0).1 = 11) (
jb (F_11_block a0 a2 0 H) fun x1 h2 =>
jg ((jK h2 a1).1 = 103 ∧ jin ((32 + (4 * a3))) (jK h2 a1).2) (
(if ¬ (x1 : Int64) = (jL h2 a1 ((32 + (4 * a3)) : Int32).toNatClampNeg) then
B_L_isAt_76 h2
else
jg ((jK h2 a0).1 = 11) (
jb (F_11_block a0 a2 1 h2) fun x3 h4 =>
jg ((jK h4 a1).1 = 103 ∧ jin ((33 + (4 * a3))) (jK h4 a1).2) (
(if ¬ (x3 : Int64) = (jL h4 a1 ((33 + (4 * a3)) : Int32).toNatClampNeg) then
B_L_isAt_76 h4
else
jg ((jK h4 a0).1 = 11) (
jb (F_11_block a0 a2 2 h4) fun x5 h6 =>
jg ((jK h6 a1).1 = 103 ∧ jin ((34 + (4 * a3))) (jK h6 a1).2) (
(if ¬ (x5 : Int64) = (jL h6 a1 ((34 + (4 * a3)) : Int32).toNatClampNeg) then
B_L_isAt_76 h6
else
jg ((jK h6 a0).1 = 11) (
jb (F_11_block a0 a2 3 h6) fun x7 h8 =>
jg ((jK h8 a1).1 = 103 ∧ jin ((35 + (4 * a3))) (jK h8 a1).2) (
(if ¬ (x7 : Int64) = (jL h8 a1 ((35 + (4 * a3)) : Int32).toNatClampNeg) then
B_L_isAt_76 h8
else
B_L_isAt_77 1 h8))))))))))))
def F_L_coin (a0 : Nat) (a1 : Nat) (a2 : Int32) (a3 : Int32) (H : jH) : Option (Int64 × jH) :=
jg ((jK H a1).1 = 103 ∧ jin ((32 + (4 * a2))) (jK H a1).2) (
jg ((jK H a1).1 = 103 ∧ jin ((33 + (4 * a2))) (jK H a1).2) (
jg ((jK H a1).1 = 103 ∧ jin ((34 + (4 * a2))) (jK H a1).2) (
jg ((jK H a1).1 = 103 ∧ jin ((35 + (4 * a2))) (jK H a1).2) (
jg ((jK H a0).1 = 11) (
jb (F_11_key a0 (jL H a1 ((32 + (4 * a2)) : Int32).toNatClampNeg) (jL H a1 ((33 + (4 * a2)) : Int32).toNatClampNeg) (jL H a1 ((34 + (4 * a2)) : Int32).toNatClampNeg) (jL H a1 ((35 + (4 * a2)) : Int32).toNatClampNeg) a3 H) fun x1 h2 =>
jg ((jK h2 a0).1 = 11) (
jb (F_11_value a0 h2) fun x3 h4 =>
some (x3, h4)))))))
def B_L_copy_2 (k2 : Nat → Int32 → Int32 → Int32 → jH → Option (Unit × jH)) (a0 : Nat) (a1 : Int32) (a2 : Int32) (a3 : Int32) (H : jH) : Option (Unit × jH) :=
(if (4 : Int32) ≤ (a3 : Int32) then
some ((), H)
else
jg ((jK H a0).1 = 103 ∧ jin (((32 + (4 * a1)) + a3)) (jK H a0).2) (
jg ((jK H a0).1 = 103 ∧ jin (((32 + (4 * a2)) + a3)) (jK H a0).2) (
jl (jsL H a0 (((32 + (4 * a2)) + a3) : Int32).toNatClampNeg (jL H a0 (((32 + (4 * a1)) + a3) : Int32).toNatClampNeg)) fun h1 =>
jl (a3 + 1) fun x2 =>
k2 a0 a1 a2 x2 h1)))
def F_L_copy_2  : Nat → Nat → Int32 → Int32 → Int32 → jH → Option (Unit × jH)
  | 0 => fun _ _ _ _ _ => none
  | n + 1 => fun a0 a1 a2 a3 H => B_L_copy_2 (F_L_copy_2  n) a0 a1 a2 a3 H
def F_L_copy (a0 : Nat) (a1 : Int32) (a2 : Int32) (H : jH) : Option (Unit × jH) :=
F_L_copy_2 jfuel a0 a1 a2 0 H
def B_L_holds_511 (k460 : Nat → Nat → Nat → Nat → Int64 → Int32 → Int32 → Int32 → Int32 → Int32 → Int32 → Int32 → Int32 → Int32 → jH → Option (Int32 × jH)) (a0 : Nat) (a1 : Nat) (a2 : Nat) (a3 : Nat) (a4 : Int64) (a6 : Int32) (a7 : Int32) (a8 : Int32) (a9 : Int32) (a11 : Int32) (a15 : Int32) (a20 : Int32) (a21 : Int32) (s0 : Int32) (H : jH) : Option (Int32 × jH) :=
jl (a21 + 1) fun x1 =>
k460 a0 a1 a2 a3 a4 a6 a7 a8 a9 a11 a15 s0 a20 x1 H
def B_L_holds_502 (k460 : Nat → Nat → Nat → Nat → Int64 → Int32 → Int32 → Int32 → Int32 → Int32 → Int32 → Int32 → Int32 → Int32 → jH → Option (Int32 × jH)) (a0 : Nat) (a1 : Nat) (a2 : Nat) (a3 : Nat) (a4 : Int64) (a6 : Int32) (a7 : Int32) (a8 : Int32) (a9 : Int32) (a11 : Int32) (a15 : Int32) (a20 : Int32) (a21 : Int32) (s0 : Int64) (s1 : Int64) (H : jH) : Option (Int32 × jH) :=
(if ¬ (s0 : Int64) = s1 then
B_L_holds_511 k460 a0 a1 a2 a3 a4 a6 a7 a8 a9 a11 a15 a20 a21 0 H
else
B_L_holds_511 k460 a0 a1 a2 a3 a4 a6 a7 a8 a9 a11 a15 a20 a21 1 H)
def B_L_holds_499 (k460 : Nat → Nat → Nat → Nat → Int64 → Int32 → Int32 → Int32 → Int32 → Int32 → Int32 → Int32 → Int32 → Int32 → jH → Option (Int32 × jH)) (a0 : Nat) (a1 : Nat) (a2 : Nat) (a3 : Nat) (a4 : Int64) (a6 : Int32) (a7 : Int32) (a8 : Int32) (a9 : Int32) (a11 : Int32) (a15 : Int32) (a20 : Int32) (a21 : Int32) (s0 : Int64) (H : jH) : Option (Int32 × jH) :=
B_L_holds_502 k460 a0 a1 a2 a3 a4 a6 a7 a8 a9 a11 a15 a20 a21 s0 7 H
def B_L_holds_633 (k48 : Nat → Nat → Nat → Nat → Int64 → Int32 → Int32 → Int32 → Int32 → jH → Option (Int32 × jH)) (a0 : Nat) (a1 : Nat) (a2 : Nat) (a3 : Nat) (a4 : Int64) (a6 : Int32) (a7 : Int32) (a8 : Int32) (a9 : Int32) (s0 : Int32) (H : jH) : Option (Int32 × jH) :=
(if ¬ (s0 : Int32) = 0 then
jl (a9 + 1) fun x2 =>
k48 a0 a1 a2 a3 a4 a6 a7 a8 x2 H
else
jg ((0 : Int32) = 0 ∨ (0 : Int32) = 1) (some (0, H)))
def B_L_holds_632 (k48 : Nat → Nat → Nat → Nat → Int64 → Int32 → Int32 → Int32 → Int32 → jH → Option (Int32 × jH)) (a0 : Nat) (a1 : Nat) (a2 : Nat) (a3 : Nat) (a4 : Int64) (a6 : Int32) (a7 : Int32) (a8 : Int32) (a9 : Int32) (H : jH) : Option (Int32 × jH) :=
B_L_holds_633 k48 a0 a1 a2 a3 a4 a6 a7 a8 a9 0 H
def B_L_holds_624 (k48 : Nat → Nat → Nat → Nat → Int64 → Int32 → Int32 → Int32 → Int32 → jH → Option (Int32 × jH)) (a0 : Nat) (a1 : Nat) (a2 : Nat) (a3 : Nat) (a4 : Int64) (a6 : Int32) (a7 : Int32) (a8 : Int32) (a9 : Int32) (s0 : Int64) (s1 : Int64) (H : jH) : Option (Int32 × jH) :=
(if ¬ (s0 : Int64) = s1 then
B_L_holds_632 k48 a0 a1 a2 a3 a4 a6 a7 a8 a9 H
else
B_L_holds_633 k48 a0 a1 a2 a3 a4 a6 a7 a8 a9 1 H)
def B_L_holds_602 (k48 : Nat → Nat → Nat → Nat → Int64 → Int32 → Int32 → Int32 → Int32 → jH → Option (Int32 × jH)) (a0 : Nat) (a1 : Nat) (a2 : Nat) (a3 : Nat) (a4 : Int64) (a6 : Int32) (a7 : Int32) (a8 : Int32) (a9 : Int32) (a20 : Int32) (H : jH) : Option (Int32 × jH) :=
jb (F_L_coin a2 a3 7 0 H) fun x3 h4 =>
(if (a20 : Int32) = 0 then
B_L_holds_624 k48 a0 a1 a2 a3 a4 a6 a7 a8 a9 x3 (-1) h4
else
B_L_holds_624 k48 a0 a1 a2 a3 a4 a6 a7 a8 a9 x3 5000000000 h4)
def B_L_holds_519 (k48 : Nat → Nat → Nat → Nat → Int64 → Int32 → Int32 → Int32 → Int32 → jH → Option (Int32 × jH)) (a0 : Nat) (a1 : Nat) (a2 : Nat) (a3 : Nat) (a4 : Int64) (a6 : Int32) (a7 : Int32) (a8 : Int32) (a9 : Int32) (a15 : Int32) (a19 : Int32) (a20 : Int32) (H : jH) : Option (Int32 × jH) :=
(if (a19 : Int32) = 0 then
B_L_holds_632 k48 a0 a1 a2 a3 a4 a6 a7 a8 a9 H
else
jg ((jK H a2).1 = 11) (
jb (F_11_count a2 0 H) fun x5 h6 =>
(if ¬ (x5 : Int32) = (a6 : Int32) then
B_L_holds_632 k48 a0 a1 a2 a3 a4 a6 a7 a8 a9 h6
else
jg ((jK h6 a2).1 = 11) (
jb (F_11_count a2 1 h6) fun x7 h8 =>
(if ¬ (x7 : Int32) = (a7 : Int32) then
B_L_holds_632 k48 a0 a1 a2 a3 a4 a6 a7 a8 a9 h8
else
jg ((jK h8 a2).1 = 11) (
jb (F_11_count a2 2 h8) fun x9 h10 =>
(if ¬ (x9 : Int32) = (a7 : Int32) then
B_L_holds_632 k48 a0 a1 a2 a3 a4 a6 a7 a8 a9 h10
else
jg ((jK h10 a2).1 = 11) (
jb (F_11_total a2 h10) fun x11 h12 =>
(if ¬ (x11 : Int64) = (5000000000 * (Int32.toInt64 a7)) then
B_L_holds_632 k48 a0 a1 a2 a3 a4 a6 a7 a8 a9 h12
else
jg ((jK h12 a2).1 = 11) (
jb (F_11_count a2 3 h12) fun x13 h14 =>
(if ¬ (x13 : Int32) = 0 then
B_L_holds_632 k48 a0 a1 a2 a3 a4 a6 a7 a8 a9 h14
else
jg ((jK h14 a2).1 = 11) (
jb (F_11_count a2 5 h14) fun x15 h16 =>
(if ¬ (x15 : Int32) = 0 then
B_L_holds_632 k48 a0 a1 a2 a3 a4 a6 a7 a8 a9 h16
else
(if (a20 : Int32) = 0 then
B_L_holds_602 k48 a0 a1 a2 a3 a4 a6 a7 a8 a9 a20 h16
else
jb (F_L_isAt a2 a3 a15 6 h16) fun x17 h18 =>
(if (x17 : Int32) = 0 then
B_L_holds_632 k48 a0 a1 a2 a3 a4 a6 a7 a8 a9 h18
else
B_L_holds_602 k48 a0 a1 a2 a3 a4 a6 a7 a8 a9 a20 h18)))))))))))))))
def B_L_holds_460 (k48 : Nat → Nat → Nat → Nat → Int64 → Int32 → Int32 → Int32 → Int32 → jH → Option (Int32 × jH)) (k460 : Nat → Nat → Nat → Nat → Int64 → Int32 → Int32 → Int32 → Int32 → Int32 → Int32 → Int32 → Int32 → Int32 → jH → Option (Int32 × jH)) (a0 : Nat) (a1 : Nat) (a2 : Nat) (a3 : Nat) (a4 : Int64) (a6 : Int32) (a7 : Int32) (a8 : Int32) (a9 : Int32) (a11 : Int32) (a15 : Int32) (a19 : Int32) (a20 : Int32) (a21 : Int32) (H : jH) : Option (Int32 × jH) :=
(if (4 : Int32) ≤ (a21 : Int32) then
B_L_holds_519 k48 a0 a1 a2 a3 a4 a6 a7 a8 a9 a15 a19 a20 H
else
(if (a19 : Int32) = 0 then
B_L_holds_519 k48 a0 a1 a2 a3 a4 a6 a7 a8 a9 a15 a19 a20 H
else
jb (F_L_answer a2 a21 H) fun x19 h20 =>
(if (a21 : Int32) = (a11 : Int32) then
B_L_holds_499 k460 a0 a1 a2 a3 a4 a6 a7 a8 a9 a11 a15 a20 a21 x19 h20
else
(if (a20 : Int32) = 0 then
B_L_holds_499 k460 a0 a1 a2 a3 a4 a6 a7 a8 a9 a11 a15 a20 a21 x19 h20
else
jb (F_L_have 2 a3 6 h20) fun x21 h22 =>
B_L_holds_502 k460 a0 a1 a2 a3 a4 a6 a7 a8 a9 a11 a15 a20 a21 x19 x21 h22))))
def F_L_holds_460 (k48 : Nat → Nat → Nat → Nat → Int64 → Int32 → Int32 → Int32 → Int32 → jH → Option (Int32 × jH)) : Nat → Nat → Nat → Nat → Nat → Int64 → Int32 → Int32 → Int32 → Int32 → Int32 → Int32 → Int32 → Int32 → Int32 → jH → Option (Int32 × jH)
  | 0 => fun _ _ _ _ _ _ _ _ _ _ _ _ _ _ _ => none
  | n + 1 => fun a0 a1 a2 a3 a4 a6 a7 a8 a9 a11 a15 a19 a20 a21 H => B_L_holds_460 k48 (F_L_holds_460 k48 n) a0 a1 a2 a3 a4 a6 a7 a8 a9 a11 a15 a19 a20 a21 H
def B_L_holds_457 (k48 : Nat → Nat → Nat → Nat → Int64 → Int32 → Int32 → Int32 → Int32 → jH → Option (Int32 × jH)) (a0 : Nat) (a1 : Nat) (a2 : Nat) (a3 : Nat) (a4 : Int64) (a6 : Int32) (a7 : Int32) (a8 : Int32) (a9 : Int32) (a11 : Int32) (a15 : Int32) (a19 : Int32) (a20 : Int32) (H : jH) : Option (Int32 × jH) :=
F_L_holds_460 k48 jfuel a0 a1 a2 a3 a4 a6 a7 a8 a9 a11 a15 a19 a20 0 H
def B_L_holds_360 (k48 : Nat → Nat → Nat → Nat → Int64 → Int32 → Int32 → Int32 → Int32 → jH → Option (Int32 × jH)) (a0 : Nat) (a1 : Nat) (a2 : Nat) (a3 : Nat) (a4 : Int64) (a6 : Int32) (a7 : Int32) (a8 : Int32) (a9 : Int32) (a11 : Int32) (a15 : Int32) (a20 : Int32) (s0 : Int32) (H : jH) : Option (Int32 × jH) :=
jb (F_L_answer a2 a11 H) fun x23 h24 =>
B_L_holds_457 k48 a0 a1 a2 a3 a4 a6 a7 a8 a9 a11 a15 s0 a20 h24
def B_L_holds_359 (k48 : Nat → Nat → Nat → Nat → Int64 → Int32 → Int32 → Int32 → Int32 → jH → Option (Int32 × jH)) (a0 : Nat) (a1 : Nat) (a2 : Nat) (a3 : Nat) (a4 : Int64) (a6 : Int32) (a7 : Int32) (a8 : Int32) (a9 : Int32) (a11 : Int32) (a15 : Int32) (a20 : Int32) (H : jH) : Option (Int32 × jH) :=
B_L_holds_360 k48 a0 a1 a2 a3 a4 a6 a7 a8 a9 a11 a15 a20 0 H
def B_L_holds_455 (k48 : Nat → Nat → Nat → Nat → Int64 → Int32 → Int32 → Int32 → Int32 → jH → Option (Int32 × jH)) (a0 : Nat) (a1 : Nat) (a2 : Nat) (a3 : Nat) (a4 : Int64) (a6 : Int32) (a8 : Int32) (a9 : Int32) (a11 : Int32) (a15 : Int32) (a19 : Int32) (a20 : Int32) (s0 : Int32) (H : jH) : Option (Int32 × jH) :=
B_L_holds_457 k48 a0 a1 a2 a3 a4 a6 s0 a8 a9 a11 a15 a19 a20 H
def B_L_holds_399 (k48 : Nat → Nat → Nat → Nat → Int64 → Int32 → Int32 → Int32 → Int32 → jH → Option (Int32 × jH)) (a0 : Nat) (a1 : Nat) (a2 : Nat) (a3 : Nat) (a4 : Int64) (a6 : Int32) (a7 : Int32) (a8 : Int32) (a9 : Int32) (a11 : Int32) (a14 : Int32) (a15 : Int32) (a20 : Int32) (s0 : Int32) (H : jH) : Option (Int32 × jH) :=
jb (F_L_copy a3 6 a14 H) fun x25 h26 =>
jl ((a4 &&& ((jshlL 255 (8 * a14)) ^^^ (-1))) ||| (jshlL (Int32.toInt64 a15) (8 * a14))) fun x27 =>
jl (a6 + 1) fun x28 =>
(if (a20 : Int32) = 0 then
B_L_holds_455 k48 a0 a1 a2 a3 x27 x28 a8 a9 a11 a15 s0 a20 a7 h26
else
B_L_holds_455 k48 a0 a1 a2 a3 x27 x28 a8 a9 a11 a15 s0 a20 a15 h26)
def B_L_holds_398 (k48 : Nat → Nat → Nat → Nat → Int64 → Int32 → Int32 → Int32 → Int32 → jH → Option (Int32 × jH)) (a0 : Nat) (a1 : Nat) (a2 : Nat) (a3 : Nat) (a4 : Int64) (a6 : Int32) (a7 : Int32) (a8 : Int32) (a9 : Int32) (a11 : Int32) (a14 : Int32) (a15 : Int32) (a20 : Int32) (H : jH) : Option (Int32 × jH) :=
B_L_holds_399 k48 a0 a1 a2 a3 a4 a6 a7 a8 a9 a11 a14 a15 a20 0 H
def B_L_holds_289 (k48 : Nat → Nat → Nat → Nat → Int64 → Int32 → Int32 → Int32 → Int32 → jH → Option (Int32 × jH)) (a0 : Nat) (a1 : Nat) (a2 : Nat) (a3 : Nat) (a4 : Int64) (a6 : Int32) (a7 : Int32) (a8 : Int32) (a9 : Int32) (a11 : Int32) (a14 : Int32) (a15 : Int32) (a18 : Int32) (a19 : Int32) (s0 : Int32) (H : jH) : Option (Int32 × jH) :=
(if (a18 : Int32) = 0 then
(if (a19 : Int32) = 0 then
B_L_holds_398 k48 a0 a1 a2 a3 a4 a6 a7 a8 a9 a11 a14 a15 s0 H
else
jb (F_L_answer a2 a11 H) fun x29 h30 =>
jb (F_L_verdict 0 a3 6 h30) fun x31 h32 =>
(if ¬ (x29 : Int64) = x31 then
B_L_holds_398 k48 a0 a1 a2 a3 a4 a6 a7 a8 a9 a11 a14 a15 s0 h32
else
B_L_holds_399 k48 a0 a1 a2 a3 a4 a6 a7 a8 a9 a11 a14 a15 s0 1 h32))
else
jg ((jK H a2).1 = 11) (
jb (F_11_fetch a2 a11 H) fun x33 h34 =>
(if (a19 : Int32) = 0 then
B_L_holds_359 k48 a0 a1 a2 a3 a4 a6 a7 a8 a9 a11 a15 s0 h34
else
(if ¬ (((jshrL x33 32) &&& 255) : Int64) = 3 then
B_L_holds_359 k48 a0 a1 a2 a3 a4 a6 a7 a8 a9 a11 a15 s0 h34
else
jg ((jK h34 a2).1 = 11) (
jb (F_11_block a2 a7 0 h34) fun x35 h36 =>
(if ¬ ((x33 &&& 16777215) : Int64) = (jushrL x35 40) then
B_L_holds_359 k48 a0 a1 a2 a3 a4 a6 a7 a8 a9 a11 a15 s0 h36
else
jg ((jK h36 a2).1 = 11) (
jb (F_11_count a2 0 h36) fun x37 h38 =>
(if ¬ (x37 : Int32) = (a6 : Int32) then
B_L_holds_359 k48 a0 a1 a2 a3 a4 a6 a7 a8 a9 a11 a15 s0 h38
else
B_L_holds_360 k48 a0 a1 a2 a3 a4 a6 a7 a8 a9 a11 a15 s0 1 h38))))))))
def B_L_holds_288 (k48 : Nat → Nat → Nat → Nat → Int64 → Int32 → Int32 → Int32 → Int32 → jH → Option (Int32 × jH)) (a0 : Nat) (a1 : Nat) (a2 : Nat) (a3 : Nat) (a4 : Int64) (a6 : Int32) (a7 : Int32) (a8 : Int32) (a9 : Int32) (a11 : Int32) (a14 : Int32) (a15 : Int32) (a18 : Int32) (a19 : Int32) (H : jH) : Option (Int32 × jH) :=
B_L_holds_289 k48 a0 a1 a2 a3 a4 a6 a7 a8 a9 a11 a14 a15 a18 a19 0 H
def B_L_holds_224 (k48 : Nat → Nat → Nat → Nat → Int64 → Int32 → Int32 → Int32 → Int32 → jH → Option (Int32 × jH)) (a0 : Nat) (a1 : Nat) (a2 : Nat) (a3 : Nat) (a4 : Int64) (a6 : Int32) (a7 : Int32) (a8 : Int32) (a9 : Int32) (a10 : Int32) (a11 : Int32) (a13 : Int32) (a14 : Int32) (a15 : Int32) (a16 : Int64) (a18 : Int32) (s0 : Nat) (s1 : Int32) (s2 : Int32) (H : jH) : Option (Int32 × jH) :=
jg ((jK H s0).1 = 100 ∧ jF0 ≤ s0 ∧ jin (s1) (jK H s0).2) (
jl (jsI H s0 (s1 : Int32).toNatClampNeg s2) fun h39 =>
jb (F_L_block a2 a1 a3 a11 a13 6 ((1000000 + (690 * a15)) + ((jshr a10 14) &&& 1)) a9 5000000000 h39) fun x40 h41 =>
jg ((jK h41 a3).1 = 103 ∧ jin ((32 + (4 * a13))) (jK h41 a3).2) (
jl (jsL h41 a3 ((32 + (4 * a13)) : Int32).toNatClampNeg a16) fun h42 =>
(if ¬ (a18 : Int32) = 0 then
B_L_holds_288 k48 a0 a1 a2 a3 a4 a6 a7 a8 a9 a11 a14 a15 a18 x40 h42
else
(if (a15 : Int32) ≤ (a7 : Int32) then
B_L_holds_288 k48 a0 a1 a2 a3 a4 a6 a7 a8 a9 a11 a14 a15 a18 x40 h42
else
B_L_holds_289 k48 a0 a1 a2 a3 a4 a6 a7 a8 a9 a11 a14 a15 a18 x40 1 h42))))
def B_L_holds_220 (k48 : Nat → Nat → Nat → Nat → Int64 → Int32 → Int32 → Int32 → Int32 → jH → Option (Int32 × jH)) (a0 : Nat) (a1 : Nat) (a2 : Nat) (a3 : Nat) (a4 : Int64) (a6 : Int32) (a7 : Int32) (a8 : Int32) (a9 : Int32) (a10 : Int32) (a11 : Int32) (a13 : Int32) (a14 : Int32) (a15 : Int32) (a16 : Int64) (a18 : Int32) (s0 : Nat) (s1 : Int32) (H : jH) : Option (Int32 × jH) :=
jg ((jK H a1).1 = 100 ∧ jin (59) (jK H a1).2) (
B_L_holds_224 k48 a0 a1 a2 a3 a4 a6 a7 a8 a9 a10 a11 a13 a14 a15 a16 a18 s0 s1 (jI H a1 (59 : Int32).toNatClampNeg) H)
def B_L_holds_197 (k48 : Nat → Nat → Nat → Nat → Int64 → Int32 → Int32 → Int32 → Int32 → jH → Option (Int32 × jH)) (a0 : Nat) (a1 : Nat) (a2 : Nat) (a3 : Nat) (a4 : Int64) (a6 : Int32) (a7 : Int32) (a8 : Int32) (a9 : Int32) (a10 : Int32) (a11 : Int32) (a13 : Int32) (a14 : Int32) (a15 : Int32) (a16 : Int64) (a18 : Int32) (s0 : Nat) (s1 : Int32) (s2 : Int64) (H : jH) : Option (Int32 × jH) :=
jg ((jK H s0).1 = 103 ∧ jin (s1) (jK H s0).2) (
jl (jsL H s0 (s1 : Int32).toNatClampNeg s2) fun h43 =>
(if (a18 : Int32) = 0 then
B_L_holds_220 k48 a0 a1 a2 a3 a4 a6 a7 a8 a9 a10 a11 a13 a14 a15 a16 a18 a1 59 h43
else
jb (F_L_isNoted a1 a3 a13 h43) fun x44 h45 =>
(if (x44 : Int32) = 0 then
B_L_holds_220 k48 a0 a1 a2 a3 a4 a6 a7 a8 a9 a10 a11 a13 a14 a15 a16 a18 a1 59 h45
else
B_L_holds_224 k48 a0 a1 a2 a3 a4 a6 a7 a8 a9 a10 a11 a13 a14 a15 a16 a18 a1 59 1 h45)))
def B_L_holds_171 (k48 : Nat → Nat → Nat → Nat → Int64 → Int32 → Int32 → Int32 → Int32 → jH → Option (Int32 × jH)) (a0 : Nat) (a1 : Nat) (a2 : Nat) (a3 : Nat) (a4 : Int64) (a6 : Int32) (a7 : Int32) (a8 : Int32) (a9 : Int32) (a10 : Int32) (a11 : Int32) (a13 : Int32) (a14 : Int32) (a15 : Int32) (a16 : Int64) (s0 : Int32) (H : jH) : Option (Int32 × jH) :=
(if (s0 : Int32) = 0 then
B_L_holds_197 k48 a0 a1 a2 a3 a4 a6 a7 a8 a9 a10 a11 a13 a14 a15 a16 s0 a3 (32 + (4 * a13)) a16 H
else
B_L_holds_197 k48 a0 a1 a2 a3 a4 a6 a7 a8 a9 a10 a11 a13 a14 a15 a16 s0 a3 (32 + (4 * a13)) (a16 ^^^ (-1)) H)
def B_L_holds_115 (k48 : Nat → Nat → Nat → Nat → Int64 → Int32 → Int32 → Int32 → Int32 → jH → Option (Int32 × jH)) (a0 : Nat) (a1 : Nat) (a2 : Nat) (a3 : Nat) (a4 : Int64) (a6 : Int32) (a7 : Int32) (a8 : Int32) (a9 : Int32) (a10 : Int32) (a11 : Int32) (s0 : Int32) (H : jH) : Option (Int32 × jH) :=
jg (¬ (6 : Int32) = 0) (
jl (jrem s0 6) fun x46 =>
jg (¬ (6 : Int32) = 0) (
jl (jrem a6 6) fun x47 =>
jl ((Int64.toInt32 ((jshrL a4 (8 * x46)) &&& 255)) + 1) fun x48 =>
jg ((jK H a3).1 = 103 ∧ jin ((32 + (4 * x46))) (jK H a3).2) (
jl (jL H a3 ((32 + (4 * x46)) : Int32).toNatClampNeg) fun x49 =>
(if ¬ (((jshr a10 11) &&& 7) : Int32) = 0 then
B_L_holds_171 k48 a0 a1 a2 a3 a4 a6 a7 a8 a9 a10 a11 x46 x47 x48 x49 0 H
else
B_L_holds_171 k48 a0 a1 a2 a3 a4 a6 a7 a8 a9 a10 a11 x46 x47 x48 x49 1 H))))
def B_L_holds_81 (k48 : Nat → Nat → Nat → Nat → Int64 → Int32 → Int32 → Int32 → Int32 → jH → Option (Int32 × jH)) (a0 : Nat) (a1 : Nat) (a2 : Nat) (a3 : Nat) (a4 : Int64) (a6 : Int32) (a7 : Int32) (a8 : Int32) (a9 : Int32) (a10 : Int32) (a11 : Int32) (s0 : Int32) (H : jH) : Option (Int32 × jH) :=
(if ¬ (((jshr a10 2) &&& 1) : Int32) = 0 then
jg (¬ (s0 : Int32) = 0) (
B_L_holds_115 k48 a0 a1 a2 a3 a4 a6 a7 a8 a9 a10 a11 ((a6 - 1) - (jrem ((jshr a10 3) &&& 255) s0)) H)
else
B_L_holds_115 k48 a0 a1 a2 a3 a4 a6 a7 a8 a9 a10 a11 (a6 - 1) H)
def B_L_holds_48 (k48 : Nat → Nat → Nat → Nat → Int64 → Int32 → Int32 → Int32 → Int32 → jH → Option (Int32 × jH)) (a0 : Nat) (a1 : Nat) (a2 : Nat) (a3 : Nat) (a4 : Int64) (a6 : Int32) (a7 : Int32) (a8 : Int32) (a9 : Int32) (H : jH) : Option (Int32 × jH) :=
(if (a8 : Int32) ≤ (a9 : Int32) then
jg ((1 : Int32) = 0 ∨ (1 : Int32) = 1) (some (1, H))
else
jg ((jK H a0).1 = 100 ∧ jin (a9) (jK H a0).2) (
jl (jI H a0 (a9 : Int32).toNatClampNeg) fun x50 =>
jl (x50 &&& 3) fun x51 =>
(if (6 : Int32) ≤ (a6 : Int32) then
B_L_holds_81 k48 a0 a1 a2 a3 a4 a6 a7 a8 a9 x50 x51 6 H
else
B_L_holds_81 k48 a0 a1 a2 a3 a4 a6 a7 a8 a9 x50 x51 a6 H)))
def F_L_holds_48  : Nat → Nat → Nat → Nat → Nat → Int64 → Int32 → Int32 → Int32 → Int32 → jH → Option (Int32 × jH)
  | 0 => fun _ _ _ _ _ _ _ _ _ _ => none
  | n + 1 => fun a0 a1 a2 a3 a4 a6 a7 a8 a9 H => B_L_holds_48 (F_L_holds_48  n) a0 a1 a2 a3 a4 a6 a7 a8 a9 H
def B_L_holds_43  (a0 : Nat) (a1 : Nat) (a2 : Nat) (a3 : Nat) (a4 : Int64) (a6 : Int32) (a7 : Int32) (s0 : Int32) (H : jH) : Option (Int32 × jH) :=
F_L_holds_48 jfuel a0 a1 a2 a3 a4 a6 a7 s0 0 H
def F_L_holds (a0 : Nat) (a1 : Nat) (H : jH) : Option (Int32 × jH) :=
jnw H 11 14 fun r52 h53 =>
jg (jF0 ≤ r52) (
jb (F_11_init r52 h53) fun x54 h55 =>
jg (jgn (64)) (
jnw h55 103 (64 : Int32).toNatClampNeg fun r56 h57 =>
jb (F_L_first r52 a1 r56 0 h57) fun x58 h59 =>
jg ((jK h59 a0).1 = 100) (
(if (28 : Int32) ≤ ((Int32.ofNat (jK h59 a0).2) : Int32) then
B_L_holds_43 a0 a1 r52 r56 0 1 0 28 h59
else
jg ((jK h59 a0).1 = 100) (
B_L_holds_43 a0 a1 r52 r56 0 1 0 (Int32.ofNat (jK h59 a0).2) h59)))))
def B_L_law_26  (s0 : Int32) (H : jH) : Option (Int32 × jH) :=
jg ((s0 : Int32) = 0 ∨ (s0 : Int32) = 1) (some (s0, H))
def B_L_law_21   (H : jH) : Option (Int32 × jH) :=
B_L_law_26 1 H
def F_L_law (a0 : Nat) (H : jH) : Option (Int32 × jH) :=
jg (jgn (64)) (
jnw H 100 (64 : Int32).toNatClampNeg fun r1 h2 =>
jb (F_L_holds a0 r1 h2) fun x3 h4 =>
(if ¬ (x3 : Int32) = 0 then
B_L_law_21 h4
else
jg ((jK h4 r1).1 = 100 ∧ jin (59) (jK h4 r1).2) (
(if ¬ ((jI h4 r1 (59 : Int32).toNatClampNeg) : Int32) = (1 : Int32) then
B_L_law_26 0 h4
else
B_L_law_21 h4))))
