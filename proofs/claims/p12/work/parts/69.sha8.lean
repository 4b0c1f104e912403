section SHA
variable {N : Nat}
/-- SHA-256 of n bytes, byte i -/
def zsha (b : Nat → UInt8) (n i : Nat) : UInt8 := zout (zH (zpad b n) n ((n + 8) / 64 + 1) ((n + 8) / 64 + 1)) i
/-- the digest of the digest -/
def znm (b : Nat → UInt8) (n i : Nat) : UInt8 := zsha (zsha b n) 32 i
end SHA
