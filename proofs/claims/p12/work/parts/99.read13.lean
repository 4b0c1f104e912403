/-! Points.read of the reference: bytes become a number, bit by bit. -/
theorem u8_lt (u : UInt8) : u.toNat < 256 := u.toNat_lt
/-- the number of bytes, highest first; no more than 32 are looked at -/
def rdn (b : Nat → UInt8) (f n : Nat) : Nat := nv 256 (fun k => (b (f + n - 1 - k)).toNat) (min n 32)
