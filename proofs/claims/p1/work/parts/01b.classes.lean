/-! The classes: their fields in order; numbers 0 .. 18. -/
def jT0 : u_T := fun k => match k with
  | 0 => ("CoinNode$Block", "row", "[B", true)
  | 1 => ("CoinNode$Block", "name", "[B", true)
  | 2 => ("CoinNode$Block", "bits", "I", true)
  | 3 => ("CoinNode$Block", "time", "J", true)
  | 4 => ("CoinNode$Block", "txs", "[LCoinNode$Tx;", false)
  | 5 => ("CoinNode$Block", "parent", "LCoinNode$Block;", false)
  | 6 => ("CoinNode$Block", "height", "I", false)
  | 7 => ("CoinNode$Block", "bad", "Z", false)
  | _ => ("CoinNode$Block", "work", "[I", true)
def jY0 : Nat → FieldType := fun k => match k with
  | 0 => .array .byte
  | 1 => .array .byte
  | 2 => .int
  | 3 => .long
  | 4 => .array (.object "CoinNode$Tx")
  | 5 => .object "CoinNode$Block"
  | 6 => .int
  | 7 => .boolean
  | _ => .array .int
theorem jY0_ok : ∀ k, k < 9 → parseFieldDescriptor (jT0 k).2.2.1 = some (jY0 k) := by decide +kernel
theorem jN0_ok : ∀ a, a < 9 → ∀ b, b < 9 → a ≠ b → (jT0 a).2.1 ≠ (jT0 b).2.1 := by decide +kernel
def jT1 : u_T := fun k => match k with
  | 0 => ("CoinNode$Chain", "hash", "LCoinNode$Hash;", true)
  | 1 => ("CoinNode$Chain", "coins", "LCoinNode$Coins;", true)
  | 2 => ("CoinNode$Chain", "scripts", "LCoinNode$Scripts;", true)
  | 3 => ("CoinNode$Chain", "known", "[LCoinNode$Block;", true)
  | 4 => ("CoinNode$Chain", "many", "I", false)
  | 5 => ("CoinNode$Chain", "bad", "I", false)
  | 6 => ("CoinNode$Chain", "tip", "LCoinNode$Block;", false)
  | 7 => ("CoinNode$Chain", "line", "[LCoinNode$Block;", true)
  | 8 => ("CoinNode$Chain", "way", "[LCoinNode$Block;", true)
  | 9 => ("CoinNode$Chain", "left", "[LCoinNode$Block;", true)
  | 10 => ("CoinNode$Chain", "leftMany", "I", false)
  | 11 => ("CoinNode$Chain", "target", "[I", true)
  | 12 => ("CoinNode$Chain", "limit", "[I", true)
  | 13 => ("CoinNode$Chain", "rest", "[I", true)
  | 14 => ("CoinNode$Chain", "times", "[J", true)
  | 15 => ("CoinNode$Chain", "names", "[B", true)
  | _ => ("CoinNode$Chain", "name", "[B", true)
def jY1 : Nat → FieldType := fun k => match k with
  | 0 => .object "CoinNode$Hash"
  | 1 => .object "CoinNode$Coins"
  | 2 => .object "CoinNode$Scripts"
  | 3 => .array (.object "CoinNode$Block")
  | 4 => .int
  | 5 => .int
  | 6 => .object "CoinNode$Block"
  | 7 => .array (.object "CoinNode$Block")
  | 8 => .array (.object "CoinNode$Block")
  | 9 => .array (.object "CoinNode$Block")
  | 10 => .int
  | 11 => .array .int
  | 12 => .array .int
  | 13 => .array .int
  | 14 => .array .long
  | 15 => .array .byte
  | _ => .array .byte
theorem jY1_ok : ∀ k, k < 17 → parseFieldDescriptor (jT1 k).2.2.1 = some (jY1 k) := by decide +kernel
theorem jN1_ok : ∀ a, a < 17 → ∀ b, b < 17 → a ≠ b → (jT1 a).2.1 ≠ (jT1 b).2.1 := by decide +kernel
def jT2 : u_T := fun k => match k with
  | 0 => ("CoinNode$Coins", "makers", "[LCoinNode$Tx;", true)
  | 1 => ("CoinNode$Coins", "numbers", "[I", true)
  | 2 => ("CoinNode$Coins", "heights", "[I", true)
  | 3 => ("CoinNode$Coins", "many", "I", false)
  | 4 => ("CoinNode$Coins", "spent", "I", false)
  | 5 => ("CoinNode$Coins", "sum", "J", false)
  | 6 => ("CoinNode$Coins", "takenMakers", "[LCoinNode$Tx;", true)
  | 7 => ("CoinNode$Coins", "takenNumbers", "[I", true)
  | _ => ("CoinNode$Coins", "takenSum", "J", false)
def jY2 : Nat → FieldType := fun k => match k with
  | 0 => .array (.object "CoinNode$Tx")
  | 1 => .array .int
  | 2 => .array .int
  | 3 => .int
  | 4 => .int
  | 5 => .long
  | 6 => .array (.object "CoinNode$Tx")
  | 7 => .array .int
  | _ => .long
theorem jY2_ok : ∀ k, k < 9 → parseFieldDescriptor (jT2 k).2.2.1 = some (jY2 k) := by decide +kernel
theorem jN2_ok : ∀ a, a < 9 → ∀ b, b < 9 → a ≠ b → (jT2 a).2.1 ≠ (jT2 b).2.1 := by decide +kernel
def jT3 : u_T := fun k => match k with
  | 0 => ("CoinNode$Hash", "ready", "[B", true)
  | 1 => ("CoinNode$Hash", "readySize", "I", false)
  | 2 => ("CoinNode$Hash", "state", "[I", true)
  | 3 => ("CoinNode$Hash", "words", "[I", true)
  | 4 => ("CoinNode$Hash", "line", "[I", true)
  | _ => ("CoinNode$Hash", "between", "[B", true)
def jY3 : Nat → FieldType := fun k => match k with
  | 0 => .array .byte
  | 1 => .int
  | 2 => .array .int
  | 3 => .array .int
  | 4 => .array .int
  | _ => .array .byte
theorem jY3_ok : ∀ k, k < 6 → parseFieldDescriptor (jT3 k).2.2.1 = some (jY3 k) := by decide +kernel
theorem jN3_ok : ∀ a, a < 6 → ∀ b, b < 6 → a ≠ b → (jT3 a).2.1 ≠ (jT3 b).2.1 := by decide +kernel
def jT4 : u_T := fun k => match k with
  | 0 => ("CoinNode$Machine", "hash", "LCoinNode$Hash;", true)
  | 1 => ("CoinNode$Machine", "stack", "LCoinNode$Stack;", true)
  | 2 => ("CoinNode$Machine", "side", "LCoinNode$Stack;", true)
  | 3 => ("CoinNode$Machine", "spare", "LCoinNode$Stack;", true)
  | 4 => ("CoinNode$Machine", "made", "[B", true)
  | 5 => ("CoinNode$Machine", "script", "[B", false)
  | 6 => ("CoinNode$Machine", "at", "I", false)
  | 7 => ("CoinNode$Machine", "end", "I", false)
  | 8 => ("CoinNode$Machine", "isLast", "Z", false)
  | 9 => ("CoinNode$Machine", "status", "I", false)
  | 10 => ("CoinNode$Machine", "operations", "I", false)
  | 11 => ("CoinNode$Machine", "parts", "[Z", true)
  | 12 => ("CoinNode$Machine", "depth", "I", false)
  | 13 => ("CoinNode$Machine", "closed", "I", false)
  | 14 => ("CoinNode$Machine", "signatures", "I", false)
  | 15 => ("CoinNode$Machine", "signatureAt", "I", false)
  | 16 => ("CoinNode$Machine", "keys", "I", false)
  | 17 => ("CoinNode$Machine", "keyAt", "I", false)
  | 18 => ("CoinNode$Machine", "operands", "I", false)
  | _ => ("CoinNode$Machine", "mustFit", "Z", false)
def jY4 : Nat → FieldType := fun k => match k with
  | 0 => .object "CoinNode$Hash"
  | 1 => .object "CoinNode$Stack"
  | 2 => .object "CoinNode$Stack"
  | 3 => .object "CoinNode$Stack"
  | 4 => .array .byte
  | 5 => .array .byte
  | 6 => .int
  | 7 => .int
  | 8 => .boolean
  | 9 => .int
  | 10 => .int
  | 11 => .array .boolean
  | 12 => .int
  | 13 => .int
  | 14 => .int
  | 15 => .int
  | 16 => .int
  | 17 => .int
  | 18 => .int
  | _ => .boolean
theorem jY4_ok : ∀ k, k < 20 → parseFieldDescriptor (jT4 k).2.2.1 = some (jY4 k) := by decide +kernel
theorem jN4_ok : ∀ a, a < 20 → ∀ b, b < 20 → a ≠ b → (jT4 a).2.1 ≠ (jT4 b).2.1 := by decide +kernel
def jT5 : u_T := fun k => match k with
  | 0 => ("CoinNode$Point", "x", "[J", true)
  | 1 => ("CoinNode$Point", "y", "[J", true)
  | 2 => ("CoinNode$Point", "z", "[J", true)
  | _ => ("CoinNode$Point", "isNone", "Z", false)
def jY5 : Nat → FieldType := fun k => match k with
  | 0 => .array .long
  | 1 => .array .long
  | 2 => .array .long
  | _ => .boolean
theorem jY5_ok : ∀ k, k < 4 → parseFieldDescriptor (jT5 k).2.2.1 = some (jY5 k) := by decide +kernel
theorem jN5_ok : ∀ a, a < 4 → ∀ b, b < 4 → a ≠ b → (jT5 a).2.1 ≠ (jT5 b).2.1 := by decide +kernel
def jT6 : u_T := fun k => match k with
  | 0 => ("CoinNode$Pool", "coins", "LCoinNode$Coins;", true)
  | 1 => ("CoinNode$Pool", "scripts", "LCoinNode$Scripts;", true)
  | 2 => ("CoinNode$Pool", "txs", "[LCoinNode$Tx;", true)
  | 3 => ("CoinNode$Pool", "gains", "[J", true)
  | 4 => ("CoinNode$Pool", "many", "I", false)
  | 5 => ("CoinNode$Pool", "before", "[LCoinNode$Tx;", true)
  | 6 => ("CoinNode$Pool", "kin", "[Z", true)
  | 7 => ("CoinNode$Pool", "takenMakers", "[LCoinNode$Tx;", true)
  | 8 => ("CoinNode$Pool", "takenNumbers", "[I", true)
  | _ => ("CoinNode$Pool", "takenSum", "J", false)
def jY6 : Nat → FieldType := fun k => match k with
  | 0 => .object "CoinNode$Coins"
  | 1 => .object "CoinNode$Scripts"
  | 2 => .array (.object "CoinNode$Tx")
  | 3 => .array .long
  | 4 => .int
  | 5 => .array (.object "CoinNode$Tx")
  | 6 => .array .boolean
  | 7 => .array (.object "CoinNode$Tx")
  | 8 => .array .int
  | _ => .long
theorem jY6_ok : ∀ k, k < 10 → parseFieldDescriptor (jT6 k).2.2.1 = some (jY6 k) := by decide +kernel
theorem jN6_ok : ∀ a, a < 10 → ∀ b, b < 10 → a ≠ b → (jT6 a).2.1 ≠ (jT6 b).2.1 := by decide +kernel
def jT7 : u_T := fun k => match k with
  | 0 => ("CoinNode$Scripts", "hash", "LCoinNode$Hash;", true)
  | 1 => ("CoinNode$Scripts", "machine", "LCoinNode$Machine;", true)
  | 2 => ("CoinNode$Scripts", "signature", "LCoinNode$Signature;", true)
  | 3 => ("CoinNode$Scripts", "signed", "[B", true)
  | 4 => ("CoinNode$Scripts", "signedSize", "I", false)
  | 5 => ("CoinNode$Scripts", "name", "[B", true)
  | 6 => ("CoinNode$Scripts", "asked", "I", false)
  | _ => ("CoinNode$Scripts", "most", "I", false)
def jY7 : Nat → FieldType := fun k => match k with
  | 0 => .object "CoinNode$Hash"
  | 1 => .object "CoinNode$Machine"
  | 2 => .object "CoinNode$Signature"
  | 3 => .array .byte
  | 4 => .int
  | 5 => .array .byte
  | 6 => .int
  | _ => .int
theorem jY7_ok : ∀ k, k < 8 → parseFieldDescriptor (jT7 k).2.2.1 = some (jY7 k) := by decide +kernel
theorem jN7_ok : ∀ a, a < 8 → ∀ b, b < 8 → a ≠ b → (jT7 a).2.1 ≠ (jT7 b).2.1 := by decide +kernel
def jT8 : u_T := fun k => match k with
  | 0 => ("CoinNode$Signature", "kind", "I", false)
  | 1 => ("CoinNode$Signature", "r", "[I", true)
  | 2 => ("CoinNode$Signature", "s", "[I", true)
  | 3 => ("CoinNode$Signature", "x", "[I", true)
  | 4 => ("CoinNode$Signature", "y", "[I", true)
  | 5 => ("CoinNode$Signature", "z", "[I", true)
  | 6 => ("CoinNode$Signature", "wide", "[I", true)
  | 7 => ("CoinNode$Signature", "high", "[I", true)
  | 8 => ("CoinNode$Signature", "powers", "[[I", true)
  | 9 => ("CoinNode$Signature", "work", "[[J", true)
  | 10 => ("CoinNode$Signature", "baseDigits", "[I", true)
  | 11 => ("CoinNode$Signature", "keyDigits", "[I", true)
  | 12 => ("CoinNode$Signature", "baseOdds", "[LCoinNode$Point;", true)
  | 13 => ("CoinNode$Signature", "keyOdds", "[LCoinNode$Point;", true)
  | 14 => ("CoinNode$Signature", "twice", "LCoinNode$Point;", true)
  | 15 => ("CoinNode$Signature", "sum", "LCoinNode$Point;", true)
  | _ => ("CoinNode$Signature", "hasBase", "Z", false)
def jY8 : Nat → FieldType := fun k => match k with
  | 0 => .int
  | 1 => .array .int
  | 2 => .array .int
  | 3 => .array .int
  | 4 => .array .int
  | 5 => .array .int
  | 6 => .array .int
  | 7 => .array .int
  | 8 => .array (.array .int)
  | 9 => .array (.array .long)
  | 10 => .array .int
  | 11 => .array .int
  | 12 => .array (.object "CoinNode$Point")
  | 13 => .array (.object "CoinNode$Point")
  | 14 => .object "CoinNode$Point"
  | 15 => .object "CoinNode$Point"
  | _ => .boolean
theorem jY8_ok : ∀ k, k < 17 → parseFieldDescriptor (jT8 k).2.2.1 = some (jY8 k) := by decide +kernel
theorem jN8_ok : ∀ a, a < 17 → ∀ b, b < 17 → a ≠ b → (jT8 a).2.1 ≠ (jT8 b).2.1 := by decide +kernel
def jT9 : u_T := fun k => match k with
  | 0 => ("CoinNode$Stack", "rows", "[[B", true)
  | 1 => ("CoinNode$Stack", "sizes", "[I", true)
  | _ => ("CoinNode$Stack", "height", "I", false)
def jY9 : Nat → FieldType := fun k => match k with
  | 0 => .array (.array .byte)
  | 1 => .array .int
  | _ => .int
theorem jY9_ok : ∀ k, k < 3 → parseFieldDescriptor (jT9 k).2.2.1 = some (jY9 k) := by decide +kernel
theorem jN9_ok : ∀ a, a < 3 → ∀ b, b < 3 → a ≠ b → (jT9 a).2.1 ≠ (jT9 b).2.1 := by decide +kernel
def jT10 : u_T := fun k => match k with
  | 0 => ("CoinNode$Tx", "row", "[B", true)
  | 1 => ("CoinNode$Tx", "from", "I", true)
  | 2 => ("CoinNode$Tx", "size", "I", false)
  | 3 => ("CoinNode$Tx", "name", "[B", true)
  | 4 => ("CoinNode$Tx", "inputs", "[I", false)
  | 5 => ("CoinNode$Tx", "outputs", "[I", false)
  | 6 => ("CoinNode$Tx", "sum", "J", false)
  | _ => ("CoinNode$Tx", "hasRootInput", "Z", false)
def jY10 : Nat → FieldType := fun k => match k with
  | 0 => .array .byte
  | 1 => .int
  | 2 => .int
  | 3 => .array .byte
  | 4 => .array .int
  | 5 => .array .int
  | 6 => .long
  | _ => .boolean
theorem jY10_ok : ∀ k, k < 8 → parseFieldDescriptor (jT10 k).2.2.1 = some (jY10 k) := by decide +kernel
theorem jN10_ok : ∀ a, a < 8 → ∀ b, b < 8 → a ≠ b → (jT10 a).2.1 ≠ (jT10 b).2.1 := by decide +kernel
def jT11 : u_T := fun k => match k with
  | 0 => ("CoinNode", "tape", "[B", true)
  | 1 => ("CoinNode", "tapeSize", "I", false)
  | 2 => ("CoinNode", "keyName", "[B", true)
  | 3 => ("CoinNode", "keyIndex", "I", false)
  | 4 => ("CoinNode", "boxes", "[[B", true)
  | 5 => ("CoinNode", "boxStarts", "[I", true)
  | 6 => ("CoinNode", "boxSizes", "[I", true)
  | 7 => ("CoinNode", "frame", "[B", true)
  | 8 => ("CoinNode", "frameSize", "I", false)
  | 9 => ("CoinNode", "hash", "LCoinNode$Hash;", true)
  | 10 => ("CoinNode", "scripts", "LCoinNode$Scripts;", true)
  | 11 => ("CoinNode", "coins", "LCoinNode$Coins;", true)
  | 12 => ("CoinNode", "chain", "LCoinNode$Chain;", true)
  | _ => ("CoinNode", "pool", "LCoinNode$Pool;", true)
def jY11 : Nat → FieldType := fun k => match k with
  | 0 => .array .byte
  | 1 => .int
  | 2 => .array .byte
  | 3 => .int
  | 4 => .array (.array .byte)
  | 5 => .array .int
  | 6 => .array .int
  | 7 => .array .byte
  | 8 => .int
  | 9 => .object "CoinNode$Hash"
  | 10 => .object "CoinNode$Scripts"
  | 11 => .object "CoinNode$Coins"
  | 12 => .object "CoinNode$Chain"
  | _ => .object "CoinNode$Pool"
theorem jY11_ok : ∀ k, k < 14 → parseFieldDescriptor (jT11 k).2.2.1 = some (jY11 k) := by decide +kernel
theorem jN11_ok : ∀ a, a < 14 → ∀ b, b < 14 → a ≠ b → (jT11 a).2.1 ≠ (jT11 b).2.1 := by decide +kernel
def jT12 : u_T := fun k => match k with
  | 0 => ("CoinNodeModel$Hashes", "row", "[I", true)
  | 1 => ("CoinNodeModel$Hashes", "h", "[I", true)
  | 2 => ("CoinNodeModel$Hashes", "v", "[I", true)
  | _ => ("CoinNodeModel$Hashes", "once", "[B", true)
def jY12 : Nat → FieldType := fun k => match k with
  | 0 => .array .int
  | 1 => .array .int
  | 2 => .array .int
  | _ => .array .byte
theorem jY12_ok : ∀ k, k < 4 → parseFieldDescriptor (jT12 k).2.2.1 = some (jY12 k) := by decide +kernel
theorem jN12_ok : ∀ a, a < 4 → ∀ b, b < 4 → a ≠ b → (jT12 a).2.1 ≠ (jT12 b).2.1 := by decide +kernel
def jT13 : u_T := fun k => match k with
  | 0 => ("CoinNodeModel$Points", "rows", "[I", true)
  | 1 => ("CoinNodeModel$Points", "product", "[J", true)
  | 2 => ("CoinNodeModel$Points", "folded", "[J", true)
  | 3 => ("CoinNodeModel$Points", "rest", "[I", true)
  | 4 => ("CoinNodeModel$Points", "none", "[Z", true)
  | 5 => ("CoinNodeModel$Points", "bytes", "[I", true)
  | _ => ("CoinNodeModel$Points", "many", "I", false)
def jY13 : Nat → FieldType := fun k => match k with
  | 0 => .array .int
  | 1 => .array .long
  | 2 => .array .long
  | 3 => .array .int
  | 4 => .array .boolean
  | 5 => .array .int
  | _ => .int
theorem jY13_ok : ∀ k, k < 7 → parseFieldDescriptor (jT13 k).2.2.1 = some (jY13 k) := by decide +kernel
theorem jN13_ok : ∀ a, a < 7 → ∀ b, b < 7 → a ≠ b → (jT13 a).2.1 ≠ (jT13 b).2.1 := by decide +kernel
def jT14 : u_T := fun k => match k with
  | 0 => ("CoinNodeModel$Scripts", "bytes", "[I", true)
  | 1 => ("CoinNodeModel$Scripts", "sizes", "[I", true)
  | 2 => ("CoinNodeModel$Scripts", "size", "I", false)
  | 3 => ("CoinNodeModel$Scripts", "side", "I", false)
  | 4 => ("CoinNodeModel$Scripts", "script", "[I", true)
  | 5 => ("CoinNodeModel$Scripts", "length", "I", false)
  | 6 => ("CoinNodeModel$Scripts", "fault", "I", false)
  | 7 => ("CoinNodeModel$Scripts", "operations", "I", false)
  | 8 => ("CoinNodeModel$Scripts", "left", "I", false)
  | 9 => ("CoinNodeModel$Scripts", "depth", "I", false)
  | 10 => ("CoinNodeModel$Scripts", "parts", "[I", true)
  | 11 => ("CoinNodeModel$Scripts", "number", "J", false)
  | 12 => ("CoinNodeModel$Scripts", "message", "[B", true)
  | 13 => ("CoinNodeModel$Scripts", "other", "[B", true)
  | 14 => ("CoinNodeModel$Scripts", "made", "[B", true)
  | 15 => ("CoinNodeModel$Scripts", "hashes", "LCoinNodeModel$Hashes;", true)
  | _ => ("CoinNodeModel$Scripts", "asker", "LCoinNodeModel$Asker;", true)
def jY14 : Nat → FieldType := fun k => match k with
  | 0 => .array .int
  | 1 => .array .int
  | 2 => .int
  | 3 => .int
  | 4 => .array .int
  | 5 => .int
  | 6 => .int
  | 7 => .int
  | 8 => .int
  | 9 => .int
  | 10 => .array .int
  | 11 => .long
  | 12 => .array .byte
  | 13 => .array .byte
  | 14 => .array .byte
  | 15 => .object "CoinNodeModel$Hashes"
  | _ => .object "CoinNodeModel$Asker"
theorem jY14_ok : ∀ k, k < 17 → parseFieldDescriptor (jT14 k).2.2.1 = some (jY14 k) := by decide +kernel
theorem jN14_ok : ∀ a, a < 17 → ∀ b, b < 17 → a ≠ b → (jT14 a).2.1 ≠ (jT14 b).2.1 := by decide +kernel
def jT15 : u_T := fun k => match k with
  | 0 => ("CoinNodeModel$Signing", "hashes", "LCoinNodeModel$Hashes;", true)
  | 1 => ("CoinNodeModel$Signing", "points", "LCoinNodeModel$Points;", true)
  | 2 => ("CoinNodeModel$Signing", "tx", "LCoinNodeModel$Tx;", false)
  | 3 => ("CoinNodeModel$Signing", "input", "I", false)
  | 4 => ("CoinNodeModel$Signing", "lockFrom", "[B", false)
  | 5 => ("CoinNodeModel$Signing", "lockAt", "I", false)
  | 6 => ("CoinNodeModel$Signing", "lockSize", "I", false)
  | 7 => ("CoinNodeModel$Signing", "text", "[B", true)
  | 8 => ("CoinNodeModel$Signing", "size", "I", false)
  | _ => ("CoinNodeModel$Signing", "digest", "[B", true)
def jY15 : Nat → FieldType := fun k => match k with
  | 0 => .object "CoinNodeModel$Hashes"
  | 1 => .object "CoinNodeModel$Points"
  | 2 => .object "CoinNodeModel$Tx"
  | 3 => .int
  | 4 => .array .byte
  | 5 => .int
  | 6 => .int
  | 7 => .array .byte
  | 8 => .int
  | _ => .array .byte
theorem jY15_ok : ∀ k, k < 10 → parseFieldDescriptor (jT15 k).2.2.1 = some (jY15 k) := by decide +kernel
theorem jN15_ok : ∀ a, a < 10 → ∀ b, b < 10 → a ≠ b → (jT15 a).2.1 ≠ (jT15 b).2.1 := by decide +kernel
def jT16 : u_T := fun k => match k with
  | 0 => ("CoinNodeModel$Tree", "most", "I", true)
  | 1 => ("CoinNodeModel$Tree", "many", "I", false)
  | 2 => ("CoinNodeModel$Tree", "parent", "[I", true)
  | 3 => ("CoinNodeModel$Tree", "height", "[I", true)
  | 4 => ("CoinNodeModel$Tree", "time", "[J", true)
  | 5 => ("CoinNodeModel$Tree", "bits", "[J", true)
  | 6 => ("CoinNodeModel$Tree", "bad", "[Z", true)
  | 7 => ("CoinNodeModel$Tree", "sums", "[I", true)
  | 8 => ("CoinNodeModel$Tree", "a", "[I", true)
  | 9 => ("CoinNodeModel$Tree", "b", "[I", true)
  | 10 => ("CoinNodeModel$Tree", "c", "[I", true)
  | _ => ("CoinNodeModel$Tree", "times", "[J", true)
def jY16 : Nat → FieldType := fun k => match k with
  | 0 => .int
  | 1 => .int
  | 2 => .array .int
  | 3 => .array .int
  | 4 => .array .long
  | 5 => .array .long
  | 6 => .array .boolean
  | 7 => .array .int
  | 8 => .array .int
  | 9 => .array .int
  | 10 => .array .int
  | _ => .array .long
theorem jY16_ok : ∀ k, k < 12 → parseFieldDescriptor (jT16 k).2.2.1 = some (jY16 k) := by decide +kernel
theorem jN16_ok : ∀ a, a < 12 → ∀ b, b < 12 → a ≠ b → (jT16 a).2.1 ≠ (jT16 b).2.1 := by decide +kernel
def jT17 : u_T := fun k => match k with
  | 0 => ("CoinNodeModel$Tx", "from", "[B", false)
  | 1 => ("CoinNodeModel$Tx", "at", "I", false)
  | 2 => ("CoinNodeModel$Tx", "end", "I", false)
  | 3 => ("CoinNodeModel$Tx", "place", "I", false)
  | 4 => ("CoinNodeModel$Tx", "inputs", "I", false)
  | 5 => ("CoinNodeModel$Tx", "outputs", "I", false)
  | 6 => ("CoinNodeModel$Tx", "good", "Z", false)
  | 7 => ("CoinNodeModel$Tx", "names", "[I", true)
  | 8 => ("CoinNodeModel$Tx", "indexes", "[J", true)
  | 9 => ("CoinNodeModel$Tx", "scripts", "[I", true)
  | 10 => ("CoinNodeModel$Tx", "scriptSizes", "[I", true)
  | 11 => ("CoinNodeModel$Tx", "sequences", "[I", true)
  | 12 => ("CoinNodeModel$Tx", "values", "[J", true)
  | 13 => ("CoinNodeModel$Tx", "locks", "[I", true)
  | _ => ("CoinNodeModel$Tx", "lockSizes", "[I", true)
def jY17 : Nat → FieldType := fun k => match k with
  | 0 => .array .byte
  | 1 => .int
  | 2 => .int
  | 3 => .int
  | 4 => .int
  | 5 => .int
  | 6 => .boolean
  | 7 => .array .int
  | 8 => .array .long
  | 9 => .array .int
  | 10 => .array .int
  | 11 => .array .int
  | 12 => .array .long
  | 13 => .array .int
  | _ => .array .int
theorem jY17_ok : ∀ k, k < 15 → parseFieldDescriptor (jT17 k).2.2.1 = some (jY17 k) := by decide +kernel
theorem jN17_ok : ∀ a, a < 15 → ∀ b, b < 15 → a ≠ b → (jT17 a).2.1 ≠ (jT17 b).2.1 := by decide +kernel
def jT18 : u_T := fun k => match k with
  | 0 => ("CoinNodeModel", "hashes", "LCoinNodeModel$Hashes;", true)
  | 1 => ("CoinNodeModel", "signing", "LCoinNodeModel$Signing;", true)
  | 2 => ("CoinNodeModel", "scripts", "LCoinNodeModel$Scripts;", true)
  | 3 => ("CoinNodeModel", "tree", "LCoinNodeModel$Tree;", true)
  | 4 => ("CoinNodeModel", "tx", "LCoinNodeModel$Tx;", true)
  | 5 => ("CoinNodeModel", "other", "LCoinNodeModel$Tx;", true)
  | 6 => ("CoinNodeModel", "blocks", "[B", true)
  | 7 => ("CoinNodeModel", "sizes", "[I", true)
  | 8 => ("CoinNodeModel", "names", "[B", true)
  | 9 => ("CoinNodeModel", "right", "[I", true)
  | 10 => ("CoinNodeModel", "codes", "[I", true)
  | 11 => ("CoinNodeModel", "txNames", "[B", true)
  | 12 => ("CoinNodeModel", "fresh", "[B", true)
  | 13 => ("CoinNodeModel", "tip", "I", false)
  | 14 => ("CoinNodeModel", "many", "I", false)
  | 15 => ("CoinNodeModel", "begins", "[I", true)
  | 16 => ("CoinNodeModel", "coinsOf", "I", false)
  | 17 => ("CoinNodeModel", "coins", "I", false)
  | 18 => ("CoinNodeModel", "spent", "I", false)
  | 19 => ("CoinNodeModel", "blockFees", "J", false)
  | 20 => ("CoinNodeModel", "coinNames", "[B", true)
  | 21 => ("CoinNodeModel", "coinIndexes", "[J", true)
  | 22 => ("CoinNodeModel", "coinValues", "[J", true)
  | 23 => ("CoinNodeModel", "coinHeights", "[I", true)
  | 24 => ("CoinNodeModel", "coinFirst", "[Z", true)
  | 25 => ("CoinNodeModel", "coinScripts", "[I", true)
  | 26 => ("CoinNodeModel", "coinSizes", "[I", true)
  | 27 => ("CoinNodeModel", "keptCoins", "I", false)
  | 28 => ("CoinNodeModel", "keptSpent", "I", false)
  | 29 => ("CoinNodeModel", "keptNames", "[B", true)
  | 30 => ("CoinNodeModel", "keptIndexes", "[J", true)
  | 31 => ("CoinNodeModel", "keptValues", "[J", true)
  | 32 => ("CoinNodeModel", "keptHeights", "[I", true)
  | 33 => ("CoinNodeModel", "keptFirst", "[Z", true)
  | 34 => ("CoinNodeModel", "keptScripts", "[I", true)
  | 35 => ("CoinNodeModel", "keptSizes", "[I", true)
  | 36 => ("CoinNodeModel", "pool", "I", false)
  | 37 => ("CoinNodeModel", "poolTexts", "[B", true)
  | 38 => ("CoinNodeModel", "poolSizes", "[I", true)
  | 39 => ("CoinNodeModel", "poolNames", "[B", true)
  | 40 => ("CoinNodeModel", "poolFees", "[J", true)
  | 41 => ("CoinNodeModel", "poolInputs", "[I", true)
  | 42 => ("CoinNodeModel", "poolPlaces", "[I", true)
  | 43 => ("CoinNodeModel", "poolIndexes", "[J", true)
  | 44 => ("CoinNodeModel", "inFamily", "[Z", true)
  | 45 => ("CoinNodeModel", "oldTexts", "[B", true)
  | 46 => ("CoinNodeModel", "oldSizes", "[I", true)
  | 47 => ("CoinNodeModel", "tape", "[B", true)
  | 48 => ("CoinNodeModel", "tapeSize", "I", false)
  | 49 => ("CoinNodeModel", "name", "[B", true)
  | 50 => ("CoinNodeModel", "row", "[B", true)
  | 51 => ("CoinNodeModel", "hand", "[B", true)
  | 52 => ("CoinNodeModel", "handIndex", "I", false)
  | 53 => ("CoinNodeModel", "answers", "[B", true)
  | 54 => ("CoinNodeModel", "waiting", "[I", true)
  | 55 => ("CoinNodeModel", "frame", "[B", true)
  | 56 => ("CoinNodeModel", "frameSize", "I", false)
  | 57 => ("CoinNodeModel", "lockFrom", "[B", false)
  | 58 => ("CoinNodeModel", "lockAt", "I", false)
  | 59 => ("CoinNodeModel", "lockSize", "I", false)
  | _ => ("CoinNodeModel", "isFresh", "Z", false)
def jY18 : Nat → FieldType := fun k => match k with
  | 0 => .object "CoinNodeModel$Hashes"
  | 1 => .object "CoinNodeModel$Signing"
  | 2 => .object "CoinNodeModel$Scripts"
  | 3 => .object "CoinNodeModel$Tree"
  | 4 => .object "CoinNodeModel$Tx"
  | 5 => .object "CoinNodeModel$Tx"
  | 6 => .array .byte
  | 7 => .array .int
  | 8 => .array .byte
  | 9 => .array .int
  | 10 => .array .int
  | 11 => .array .byte
  | 12 => .array .byte
  | 13 => .int
  | 14 => .int
  | 15 => .array .int
  | 16 => .int
  | 17 => .int
  | 18 => .int
  | 19 => .long
  | 20 => .array .byte
  | 21 => .array .long
  | 22 => .array .long
  | 23 => .array .int
  | 24 => .array .boolean
  | 25 => .array .int
  | 26 => .array .int
  | 27 => .int
  | 28 => .int
  | 29 => .array .byte
  | 30 => .array .long
  | 31 => .array .long
  | 32 => .array .int
  | 33 => .array .boolean
  | 34 => .array .int
  | 35 => .array .int
  | 36 => .int
  | 37 => .array .byte
  | 38 => .array .int
  | 39 => .array .byte
  | 40 => .array .long
  | 41 => .array .int
  | 42 => .array .int
  | 43 => .array .long
  | 44 => .array .boolean
  | 45 => .array .byte
  | 46 => .array .int
  | 47 => .array .byte
  | 48 => .int
  | 49 => .array .byte
  | 50 => .array .byte
  | 51 => .array .byte
  | 52 => .int
  | 53 => .array .byte
  | 54 => .array .int
  | 55 => .array .byte
  | 56 => .int
  | 57 => .array .byte
  | 58 => .int
  | 59 => .int
  | _ => .boolean
theorem jY18_ok : ∀ k, k < 61 → parseFieldDescriptor (jT18 k).2.2.1 = some (jY18 k) := by decide +kernel
theorem jN18_ok : ∀ a, a < 61 → ∀ b, b < 61 → a ≠ b → (jT18 a).2.1 ≠ (jT18 b).2.1 := by decide +kernel
def jcl : List vw_C := [("CoinNode$Block", jT0, 9), ("CoinNode$Chain", jT1, 17), ("CoinNode$Coins", jT2, 9), ("CoinNode$Hash", jT3, 6), ("CoinNode$Machine", jT4, 20), ("CoinNode$Point", jT5, 4), ("CoinNode$Pool", jT6, 10), ("CoinNode$Scripts", jT7, 8), ("CoinNode$Signature", jT8, 17), ("CoinNode$Stack", jT9, 3), ("CoinNode$Tx", jT10, 8), ("CoinNode", jT11, 14), ("CoinNodeModel$Hashes", jT12, 4), ("CoinNodeModel$Points", jT13, 7), ("CoinNodeModel$Scripts", jT14, 17), ("CoinNodeModel$Signing", jT15, 10), ("CoinNodeModel$Tree", jT16, 12), ("CoinNodeModel$Tx", jT17, 15), ("CoinNodeModel", jT18, 61)]
