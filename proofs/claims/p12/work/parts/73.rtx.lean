/-! The reference reads a transaction. -/
section RTX
variable {t row len e p : Nat} {H : jH}
/-- so many bytes below a place, the lowest last -/
def zle (b : Nat → UInt8) (q : Nat) : Nat → Int64
  | 0 => 0
  | k + 1 => jshlL (zle b q k) 8 ||| Int32.toInt64 (jbs (b (q - (k + 1))) &&& 255)
end RTX
