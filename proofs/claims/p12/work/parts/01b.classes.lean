/-! The classes: their fields in order; numbers 0 .. 18. -/
def jT0 : u_T := fun k => match k with
  | 0 => ("CoinNode$Block", "row", "[B", true)
  | 1 => ("CoinNode$Block", "name", "[B", true)
  | 2 => ("CoinNode$Block", "bits", "I", true)
  | 3 => ("CoinNode$Block", "time", "J", true)
  | 4 => ("CoinNode$Block", "txs", "[LCoinNode$Tx;", false)
  | 5 => ("CoinNode$Block", "parent", "LCoinNode$Block;", false)
  | 6 => ("CoinNode$Block", "height", "I", false)
  | 7 => ("CoinNode$Block", "bad", "Z", false)
  | _ => ("CoinNode$Block", "work", "[I", true)
def jY0 : Nat → FieldType := fun k => match k with
  | 0 => .array .byte
  | 1 => .array .byte
  | 2 => .int
  | 3 => .long
  | 4 => .array (.object "CoinNode$Tx")
  | 5 => .object "CoinNode$Block"
  | 6 => .int
  | 7 => .boolean
  | _ => .array .int
theorem jY0_ok : ∀ k, k < 9 → parseFieldDescriptor (jT0 k).2.2.1 = some (jY0 k) := by decide +kernel
theorem jN0_ok : ∀ a, a < 9 → ∀ b, b < 9 → a ≠ b → (jT0 a).2.1 ≠ (jT0 b).2.1 := by decide +kernel
def jT1 : u_T := fun k => match k with
  | 0 => ("CoinNode$Chain", "hash", "LCoinNode$Hash;", true)
  | 1 => ("CoinNode$Chain", "coins", "LCoinNode$Coins;", true)
  | 2 => ("CoinNode$Chain", "scripts", "LCoinNode$Scripts;", true)
  | 3 => ("CoinNode$Chain", "known", "[LCoinNode$Block;", true)
  | 4 => ("CoinNode$Chain", "many", "I", false)
  | 5 => ("CoinNode$Chain", "bad", "I", false)
  | 6 => ("CoinNode$Chain", "tip", "LCoinNode$Block;", false)
  | 7 => ("CoinNode$Chain", "line", "[LCoinNode$Block;", true)
  | 8 => ("CoinNode$Chain", "way", "[LCoinNode$Block;", true)
  | 9 => ("CoinNode$Chain", "left", "[LCoinNode$Block;", true)
  | 10 => ("CoinNode$Chain", "leftMany", "I", false)
  | 11 => ("CoinNode$Chain", "target", "[I", true)
  | 12 => ("CoinNode$Chain", "limit", "[I", true)
  | 13 => ("CoinNode$Chain", "rest", "[I", true)
  | 14 => ("CoinNode$Chain", "times", "[J", true)
  | 15 => ("CoinNode$Chain", "names", "[B", true)
  | _ => ("CoinNode$Chain", "name", "[B", true)
def jY1 : Nat → FieldType := fun k => match k with
  | 0 => .object "CoinNode$Hash"
  | 1 => .object "CoinNode$Coins"
  | 2 => .object "CoinNode$Scripts"
  | 3 => .array (.object "CoinNode$Block")
  | 4 => .int
  | 5 => .int
  | 6 => .object "CoinNode$Block"
  | 7 => .array (.object "CoinNode$Block")
  | 8 => .array (.object "CoinNode$Block")
  | 9 => .array (.object "CoinNode$Block")
  | 10 => .int
  | 11 => .array .int
  | 12 => .array .int
  | 13 => .array .int
  | 14 => .array .long
  | 15 => .array .byte
  | _ => .array .byte
theorem jY1_ok : ∀ k, k < 17 → parseFieldDescriptor (jT1 k).2.2.1 = some (jY1 k) := by decide +kernel
theorem jN1_ok : ∀ a, a < 17 → ∀ b, b < 17 → a ≠ b → (jT1 a).2.1 ≠ (jT1 b).2.1 := by decide +kernel
def jT2 : u_T := fun k => match k with
  | 0 => ("CoinNode$Coins", "makers", "[LCoinNode$Tx;", true)
  | 1 => ("CoinNode$Coins", "numbers", "[I", true)
  | 2 => ("CoinNode$Coins", "heights", "[I", true)
  | 3 => ("CoinNode$Coins", "many", "I", false)
  | 4 => ("CoinNode$Coins", "spent", "I", false)
  | 5 => ("CoinNode$Coins", "sum", "J", false)
  | 6 => ("CoinNode$Coins", "takenMakers", "[LCoinNode$Tx;", true)
  | 7 => ("CoinNode$Coins", "takenNumbers", "[I", true)
  | _ => ("CoinNode$Coins", "takenSum", "J", false)
def jY2 : Nat → FieldType := fun k => match k with
  | 0 => .array (.object "CoinNode$Tx")
  | 1 => .array .int
  | 2 => .array .int
  | 3 => .int
  | 4 => .int
  | 5 => .long
  | 6 => .array (.object "CoinNode$Tx")
  | 7 => .array .int
  | _ => .long
theorem jY2_ok : ∀ k, k < 9 → parseFieldDescriptor (jT2 k).2.2.1 = some (jY2 k) := by decide +kernel
theorem jN2_ok : ∀ a, a < 9 → ∀ b, b < 9 → a ≠ b → (jT2 a).2.1 ≠ (jT2 b).2.1 := by decide +kernel
def jT3 : u_T := fun k => match k with
  | 0 => ("CoinNode$Hash", "ready", "[B", true)
  | 1 => ("CoinNode$Hash", "readySize", "I", false)
  | 2 => ("CoinNode$Hash", "state", "[I", true)
  | 3 => ("CoinNode$Hash", "words", "[I", true)
  | 4 => ("CoinNode$Hash", "line", "[I", true)
  | _ => ("CoinNode$Hash", "between", "[B", true)
def jY3 : Nat → FieldType := fun k => match k with
  | 0 => .array .byte
  | 1 => .int
  | 2 => .array .int
  | 3 => .array .int
  | 4 => .array .int
  | _ => .array .byte
theorem jY3_ok : ∀ k, k < 6 → parseFieldDescriptor (jT3 k).2.2.1 = some (jY3 k) := by decide +kernel
theorem jN3_ok : ∀ a, a < 6 → ∀ b, b < 6 → a ≠ b → (jT3 a).2.1 ≠ (jT3 b).2.1 := by decide +kernel
def jT4 : u_T := fun k => match k with
  | 0 => ("CoinNode$Machine", "hash", "LCoinNode$Hash;", true)
  | 1 => ("CoinNode$Machine", "stack", "LCoinNode$Stack;", true)
  | 2 => ("CoinNode$Machine", "side", "LCoinNode$Stack;", true)
  | 3 => ("CoinNode$Machine", "spare", "LCoinNode$Stack;", true)
  | 4 => ("CoinNode$Machine", "made", "[B", true)
  | 5 => ("CoinNode$Machine", "script", "[B", false)
  | 6 => ("CoinNode$Machine", "at", "I", false)
  | 7 => ("CoinNode$Machine", "end", "I", false)
  | 8 => ("CoinNode$Machine", "isLast", "Z", false)
  | 9 => ("CoinNode$Machine", "status", "I", false)
  | 10 => ("CoinNode$Machine", "operations", "I", false)
  | 11 => ("CoinNode$Machine", "parts", "[Z", true)
  | 12 => ("CoinNode$Machine", "depth", "I", false)
  | 13 => ("CoinNode$Machine", "closed", "I", false)
  | 14 => ("CoinNode$Machine", "signatures", "I", false)
  | 15 => ("CoinNode$Machine", "signatureAt", "I", false)
  | 16 => ("CoinNode$Machine", "keys", "I", false)
  | 17 => ("CoinNode$Machine", "keyAt", "I", false)
  | 18 => ("CoinNode$Machine", "operands", "I", false)
  | _ => ("CoinNode$Machine", "mustFit", "Z", false)
def jY4 : Nat → FieldType := fun k => match k with
  | 0 => .object "CoinNode$Hash"
  | 1 => .object "CoinNode$Stack"
  | 2 => .object "CoinNode$Stack"
  | 3 => .object "CoinNode$Stack"
  | 4 => .array .byte
  | 5 => .array .byte
  | 6 => .int
  | 7 => .int
  | 8 => .boolean
  | 9 => .int
  | 10 => .int
  | 11 => .array .boolean
  | 12 => .int
  | 13 => .int
  | 14 => .int
  | 15 => .int
  | 16 => .int
  | 17 => .int
  | 18 => .int
  | _ => .boolean
theorem jY4_ok : ∀ k, k < 20 → parseFieldDescriptor (jT4 k).2.2.1 = some (jY4 k) := by decide +kernel
theorem jN4_ok : ∀ a, a < 20 → ∀ b, b < 20 → a ≠ b → (jT4 a).2.1 ≠ (jT4 b).2.1 := by decide +kernel
def jT5 : u_T := fun k => match k with
  | 0 => ("CoinNode$Point", "x", "[J", true)
  | 1 => ("CoinNode$Point", "y", "[J", true)
  | 2 => ("CoinNode$Point", "z", "[J", true)
  | _ => ("CoinNode$Point", "isNone", "Z", false)
def jY5 : Nat → FieldType := fun k => match k with
  | 0 => .array .long
  | 1 => .array .long
  | 2 => .array .long
  | _ => .boolean
theorem jY5_ok : ∀ k, k < 4 → parseFieldDescriptor (jT5 k).2.2.1 = some (jY5 k) := by decide +kernel
theorem jN5_ok : ∀ a, a < 4 → ∀ b, b < 4 → a ≠ b → (jT5 a).2.1 ≠ (jT5 b).2.1 := by decide +kernel
def jT6 : u_T := fun k => match k with
  | 0 => ("CoinNode$Pool", "coins", "LCoinNode$Coins;", true)
  | 1 => ("CoinNode$Pool", "scripts", "LCoinNode$Scripts;", true)
  | 2 => ("CoinNode$Pool", "txs", "[LCoinNode$Tx;", true)
  | 3 => ("CoinNode$Pool", "gains", "[J", true)
  | 4 => ("CoinNode$Pool", "many", "I", false)
  | 5 => ("CoinNode$Pool", "before", "[LCoinNode$Tx;", true)
  | 6 => ("CoinNode$Pool", "kin", "[Z", true)
  | 7 => ("CoinNode$Pool", "takenMakers", "[LCoinNode$Tx;", true)
  | 8 => ("CoinNode$Pool", "takenNumbers", "[I", true)
  | _ => ("CoinNode$Pool", "takenSum", "J", false)
def jY6 : Nat → FieldType := fun k => match k with
  | 0 => .object "CoinNode$Coins"
  | 1 => .object "CoinNode$Scripts"
  | 2 => .array (.object "CoinNode$Tx")
  | 3 => .array .long
  | 4 => .int
  | 5 => .array (.object "CoinNode$Tx")
  | 6 => .array .boolean
  | 7 => .array (.object "CoinNode$Tx")
  | 8 => .array .int
  | _ => .long
theorem jY6_ok : ∀ k, k < 10 → parseFieldDescriptor (jT6 k).2.2.1 = some (jY6 k) := by decide +kernel
theorem jN6_ok : ∀ a, a < 10 → ∀ b, b < 10 → a ≠ b → (jT6 a).2.1 ≠ (jT6 b).2.1 := by decide +kernel
def jT7 : u_T := fun k => match k with
  | 0 => ("CoinNode$Scripts", "hash", "LCoinNode$Hash;", true)
  | 1 => ("CoinNode$Scripts", "machine", "LCoinNode$Machine;", true)
  | 2 => ("CoinNode$Scripts", "signature", "LCoinNode$Signature;", true)
  | 3 => ("CoinNode$Scripts", "signed", "[B", true)
  | 4 => ("CoinNode$Scripts", "signedSize", "I", false)
  | 5 => ("CoinNode$Scripts", "name", "[B", true)
  | 6 => ("CoinNode$Scripts", "asked", "I", false)
  | _ => ("CoinNode$Scripts", "most", "I", false)
def jY7 : Nat → FieldType := fun k => match k with
  | 0 => .object "CoinNode$Hash"
  | 1 => .object "CoinNode$Machine"
  | 2 => .object "CoinNode$Signature"
  | 3 => .array .byte
  | 4 => .int
  | 5 => .array .byte
  | 6 => .int
  | _ => .int
theorem jY7_ok : ∀ k, k < 8 → parseFieldDescriptor (jT7 k).2.2.1 = some (jY7 k) := by decide +kernel
theorem jN7_ok : ∀ a, a < 8 → ∀ b, b < 8 → a ≠ b → (jT7 a).2.1 ≠ (jT7 b).2.1 := by decide +kernel
def jT8 : u_T := fun k => match k with
  | 0 => ("CoinNode$Signature", "kind", "I", false)
  | 1 => ("CoinNode$Signature", "r", "[I", true)
  | 2 => ("CoinNode$Signature", "s", "[I", true)
  | 3 => ("CoinNode$Signature", "x", "[I", true)
  | 4 => ("CoinNode$Signature", "y", "[I", true)
  | 5 => ("CoinNode$Signature", "z", "[I", true)
  | 6 => ("CoinNode$Signature", "wide", "[I", true)
  | 7 => ("CoinNode$Signature", "high", "[I", true)
  | 8 => ("CoinNode$Signature", "powers", "[[I", true)
  | 9 => ("CoinNode$Signature", "work", "[[J", true)
  | 10 => ("CoinNode$Signature", "baseDigits", "[I", true)
  | 11 => ("CoinNode$Signature", "keyDigits", "[I", true)
  | 12 => ("CoinNode$Signature", "baseOdds", "[LCoinNode$Point;", true)
  | 13 => ("CoinNode$Signature", "keyOdds", "[LCoinNode$Point;", true)
  | 14 => ("CoinNode$Signature", "twice", "LCoinNode$Point;", true)
  | 15 => ("CoinNode$Signature", "sum", "LCoinNode$Point;", true)
  | _ => ("CoinNode$Signature", "hasBase", "Z", false)
def jY8 : Nat → FieldType := fun k => match k with
  | 0 => .int
  | 1 => .array .int
  | 2 => .array .int
  | 3 => .array .int
  | 4 => .array .int
  | 5 => .array .int
  | 6 => .array .int
  | 7 => .array .int
  | 8 => .array (.array .int)
  | 9 => .array (.array .long)
  | 10 => .array .int
  | 11 => .array .int
  | 12 => .array (.object "CoinNode$Point")
  | 13 => .array (.object "CoinNode$Point")
  | 14 => .object "CoinNode$Point"
  | 15 => .object "CoinNode$Point"
  | _ => .boolean
theorem jY8_ok : ∀ k, k < 17 → parseFieldDescriptor (jT8 k).2.2.1 = some (jY8 k) := by decide +kernel
theorem jN8_ok : ∀ a, a < 17 → ∀ b, b < 17 → a ≠ b → (jT8 a).2.1 ≠ (jT8 b).2.1 := by decide +kernel
def jT9 : u_T := fun k => match k with
  | 0 => ("CoinNode$Stack", "rows", "[[B", true)
  | 1 => ("CoinNode$Stack", "sizes", "[I", true)
  | _ => ("CoinNode$Stack", "height", "I", false)
def jY9 : Nat → FieldType := fun k => match k with
  | 0 => .array (.array .byte)
  | 1 => .array .int
  | _ => .int
theorem jY9_ok : ∀ k, k < 3 → parseFieldDescriptor (jT9 k).2.2.1 = some (jY9 k) := by decide +kernel
theorem jN9_ok : ∀ a, a < 3 → ∀ b, b < 3 → a ≠ b → (jT9 a).2.1 ≠ (jT9 b).2.1 := by decide +kernel
def jT10 : u_T := fun k => match k with
  | 0 => ("CoinNode$Tx", "row", "[B", true)
  | 1 => ("CoinNode$Tx", "from", "I", true)
  | 2 => ("CoinNode$Tx", "size", "I", false)
  | 3 => ("CoinNode$Tx", "name", "[B", true)
  | 4 => ("CoinNode$Tx", "inputs", "[I", false)
  | 5 => ("CoinNode$Tx", "outputs", "[I", false)
  | 6 => ("CoinNode$Tx", "sum", "J", false)
  | _ => ("CoinNode$Tx", "hasRootInput", "Z", false)
def jY10 : Nat → FieldType := fun k => match k with
  | 0 => .array .byte
  | 1 => .int
  | 2 => .int
  | 3 => .array .byte
  | 4 => .array .int
  | 5 => .array .int
  | 6 => .long
  | _ => .boolean
theorem jY10_ok : ∀ k, k < 8 → parseFieldDescriptor (jT10 k).2.2.1 = some (jY10 k) := by decide +kernel
theorem jN10_ok : ∀ a, a < 8 → ∀ b, b < 8 → a ≠ b → (jT10 a).2.1 ≠ (jT10 b).2.1 := by decide +kernel
def jT11 : u_T := fun k => match k with
  | 0 => ("CoinNode", "tape", "[B", true)
  | 1 => ("CoinNode", "tapeSize", "I", false)
  | 2 => ("CoinNode", "keyName", "[B", true)
  | 3 => ("CoinNode", "keyIndex", "I", false)
  | 4 => ("CoinNode", "boxes", "[[B", true)
  | 5 => ("CoinNode", "boxStarts", "[I", true)
  | 6 => ("CoinNode", "boxSizes", "[I", true)
  | 7 => ("CoinNode", "frame", "[B", true)
  | 8 => ("CoinNode", "frameSize", "I", false)
  | 9 => ("CoinNode", "hash", "LCoinNode$Hash;", true)
  | 10 => ("CoinNode", "scripts", "LCoinNode$Scripts;", true)
  | 11 => ("CoinNode", "coins", "LCoinNode$Coins;", true)
  | 12 => ("CoinNode", "chain", "LCoinNode$Chain;", true)
  | _ => ("CoinNode", "pool", "LCoinNode$Pool;", true)
def jY11 : Nat → FieldType := fun k => match k with
  | 0 => .array .byte
  | 1 => .int
  | 2 => .array .byte
  | 3 => .int
  | 4 => .array (.array .byte)
  | 5 => .array .int
  | 6 => .array .int
  | 7 => .array .byte
  | 8 => .int
  | 9 => .object "CoinNode$Hash"
  | 10 => .object "CoinNode$Scripts"
  | 11 => .object "CoinNode$Coins"
  | 12 => .object "CoinNode$Chain"
  | _ => .object "CoinNode$Pool"
theorem jY11_ok : ∀ k, k < 14 → parseFieldDescriptor (jT11 k).2.2.1 = some (jY11 k) := by decide +kernel
theorem jN11_ok : ∀ a, a < 14 → ∀ b, b < 14 → a ≠ b → (jT11 a).2.1 ≠ (jT11 b).2.1 := by decide +kernel
def jcl : List vw_C := [("CoinNode$Block", jT0, 9), ("CoinNode$Chain", jT1, 17), ("CoinNode$Coins", jT2, 9), ("CoinNode$Hash", jT3, 6), ("CoinNode$Machine", jT4, 20), ("CoinNode$Point", jT5, 4), ("CoinNode$Pool", jT6, 10), ("CoinNode$Scripts", jT7, 8), ("CoinNode$Signature", jT8, 17), ("CoinNode$Stack", jT9, 3), ("CoinNode$Tx", jT10, 8), ("CoinNode", jT11, 14)]
