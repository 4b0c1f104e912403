/-! The abstract heap: kinds (a tag and a length), ints, longs, references, the next reference, the slots made. -/
abbrev jH : Type := (Nat → Nat × Nat) × (Nat → Nat → Int32) × (Nat → Nat → Int64) × (Nat → Nat → Nat) × Nat × Nat × (Nat → Nat → UInt8)
def jK (H : jH) : Nat → Nat × Nat := H.1
def jI (H : jH) : Nat → Nat → Int32 := H.2.1
def jL (H : jH) : Nat → Nat → Int64 := H.2.2.1
def jR (H : jH) : Nat → Nat → Nat := H.2.2.2.1
def jn (H : jH) : Nat := H.2.2.2.2.1
def js (H : jH) : Nat := H.2.2.2.2.2.1
def jB (H : jH) : Nat → Nat → UInt8 := H.2.2.2.2.2.2
/-- a byte as an int, and the byte that an int leaves -/
def jbs (u : UInt8) : Int32 := u.toInt8.toInt32
def jbu (x : Int32) : UInt8 := x.toInt8.toUInt8
def jup {α : Type} (f : Nat → Nat → α) (a i : Nat) (v : α) : Nat → Nat → α := fun b j => if b = a ∧ j = i then v else f b j
def jsI (H : jH) (a i : Nat) (v : Int32) : jH := (jK H, jup (jI H) a i v, jL H, jR H, jn H, js H, jB H)
def jsL (H : jH) (a i : Nat) (v : Int64) : jH := (jK H, jI H, jup (jL H) a i v, jR H, jn H, js H, jB H)
def jsR (H : jH) (a i : Nat) (v : Nat) : jH := (jK H, jI H, jL H, jup (jR H) a i v, jn H, js H, jB H)
def jsB (H : jH) (a i : Nat) (v : UInt8) : jH := (jK H, jI H, jL H, jR H, jn H, js H, jup (jB H) a i v)
def jz {α : Type} (f : Nat → Nat → α) (a : Nat) (z : α) : Nat → Nat → α := fun b j => if b = a then z else f b j
def jnew (H : jH) (t k : Nat) : jH := (fun b => if b = jn H then (t, k) else jK H b, jz (jI H) (jn H) 0, jz (jL H) (jn H) 0, jz (jR H) (jn H) 0, jn H + 1, js H + k, jz (jB H) (jn H) 0)
def jF0 : Nat := 31
/-- the component's type of an array, by its tag -/
def jty : Nat → FieldType
  | 100 => .int
  | 101 => .byte
  | 102 => .boolean
  | 103 => .long
  | 110 => .array .byte
  | 111 => .array .int
  | 112 => .array .long
  | 113 => .object "CoinNode$Tx"
  | 114 => .object "CoinNode$Block"
  | 115 => .object "CoinNode$Point"
  | _ => .float
def jtags : List Nat := [100, 101, 102, 103, 110, 111, 112, 113, 114, 115]
/-- whether a value is an int (0), a long (1) or a reference (2), by its type -/
def jkd : FieldType → Nat
  | .long => 1
  | .object _ => 2
  | .array _ => 2
  | .byte => 3
  | _ => 0
def jfd (d : String) : Nat := match parseFieldDescriptor d with
  | some t => jkd t
  | none => 0
abbrev jG : Type := Nat × (Nat → Nat) × va_G × (Nat → ClassId)
def jad (G : jG) (a : Nat) : Nat := if a < jF0 then G.2.1 a else G.1 + (a - jF0)
def jrv (G : jG) (r : Nat) : Value := if r = 0 then .null else .ref (jad G r)
/-- an abstract value: a reference by its number, 0 null -/
def jv (G : jG) : Value → Value
  | .ref r => jrv G r
  | v => v
def jcv (G : jG) (H : jH) (a j : Nat) (k : Nat) : Value := if k = 0 then .int (jI H a j) else if k = 1 then .long (jL H a j) else if k = 2 then jrv G (jR H a j) else .int (jbs (jB H a j))
def jcell (G : jG) (H : jH) (Hr : Heap) (a : Nat) : Prop :=
  (∃ q : vw_C, jcl[(jK H a).1]? = some q ∧ (jK H a).2 = q.2.2 ∧ t_OB (jad G a) (G.2.2.1.1 (jK H a).1) q.2.2 (G.2.2.1.2 (jK H a).1) Hr (fun k => jcv G H a k (jfd (q.2.1 k).2.2.1))) ∨
  ((jK H a).1 ∈ jtags ∧ jcl[(jK H a).1]? = none ∧ Hr[jad G a]? = some (arrV (G.2.2.2 (jK H a).1) (jK H a).2 (fun j => jcv G H a j (jkd (jty (jK H a).1)))))
def jpre (G : jG) (H : jH) (U : State) (Hr : Heap) (a : Nat) : Prop :=
  ∃ cell : Cell, Hr[G.2.1 a]? = some cell ∧ U.isArrayOf cell .int ∧ cell.vm ≠ .unknown ∧ (jK H a).2 ≤ cell.slots.size ∧ cell.slots.size.toInt32 = Int32.ofNat (jK H a).2 ∧ (∀ j : Nat, j < (jK H a).2 → cell.slots[j]? = some (.int (jI H a j))) ∧ G.2.1 a < G.1
def jA (G : jG) : Nat → Prop := fun q => G.1 ≤ q
/-- the static arrays: their references, class and name -/
abbrev jsts : List (Nat × String × String) := [(1, "CoinNode$Hash", "START"), (2, "CoinNode$Hash", "ROUNDS"), (3, "CoinNode$Hash", "WORD"), (4, "CoinNode$Hash", "TURN"), (5, "CoinNode$Hash", "ADDED"), (6, "CoinNode$Machine", "MOVES"), (7, "CoinNode$Signature", "PRIME"), (8, "CoinNode$Signature", "ORDER"), (9, "CoinNode$Signature", "OVER"), (10, "CoinNode$Signature", "BASE_X"), (11, "CoinNode$Signature", "BASE_Y"), (12, "CoinNode$Point", "ROOT")]
def jAOA (t : FieldType) (U : State) : Prop := (Cond.arrayOver (.array t)).before #[] U = true
/-- words that a call keeps, but that are no words of a method's own -/
def jNw (U : State) : Prop := (∀ q ∈ jnF, va_Nw (.fieldLinkNest q.1 q.2.1 q.2.2.1 q.2.2.2.1 q.2.2.2.2.1 q.2.2.2.2.2) U) ∧ (∀ q ∈ jnM, va_Nw (.methodLinkNest q.1 q.2.1 q.2.2.1 q.2.2.2) U) ∧ ((∀ q ∈ ["CoinNode$Tx", "CoinNode$Block", "CoinNode$Point"], va_AO q U) ∧ jAOA .byte U ∧ jAOA .int U ∧ jAOA .long U) ∧
  va_Nw (.castable "[B" "java/lang/Cloneable") U
def jRel (G : jG) (H : jH) (U : State) (Hr : Heap) : Prop :=
  Hr.size + jF0 = G.1 + jn H ∧ jF0 ≤ jn H ∧ (∀ a, (jK H a).1 ≠ 99 → a < jn H ∧ (a < jF0 → (jK H a).1 = 100 ∧ jpre G H U Hr a) ∧ (jF0 ≤ a → jcell G H Hr a)) ∧ (jK H 0).1 = 99 ∧
  va_K G.2.2.1 jcl (jtags.map (fun t => (G.2.2.2 t, jty t))) U ∧ (∀ q ∈ jsts, va_Z q.2.1 q.2.2 "[I" (.ref (G.2.1 q.1)) (jA G) U Hr)
/-- a method: its code as a number and its size, the locals' number, its class, its answer's type, its name, the frames and locals that it needs -/
abbrev jM : Type := Nat × Nat × Nat × String × Option FieldType × String × Nat × Nat
/-- a walk's fixed things -/
abbrev jX : Type := (Program × Launch × Env × State) × (MethodId × Array Value × List Frame × Method × Code) × jG × jH
def jQ (G : jG) (v : Option Value) (H' : jH) : Array Value → State → Outcome → State → Prop := fun _ st oc t => oc = .returned (v.map (jv G)) ∧ jRel G H' t t.heap ∧ va_F (jA G) st t
/-- the locals: what a look-up finds is there -/
def jLoc (G : jG) (la : Array Slot) (nL : Nat) (ls : List (Nat × Value)) : Prop := la.size = nL ∧ lv_wf la ∧ ∀ (i : Nat) (v : Value), ls.lookup i = some v → la[i]? = some (.val (jv G v))
def jstk (G : jG) (st : List Value) : List Value := st.map (jv G)
def jroom (f k n o : Nat) : Room := { frames := f, cells := k, slots := n, locals := o }
def jC (mi : jM) (c : jX) : Prop :=
  c.1.1.tables.exec = Jvm.exec ∧ jn_is c.2.1.2.2.2.2.code mi.1 mi.2.1 ∧ c.2.1.2.2.2.2.maxLocals = mi.2.2.1 ∧ c.1.2.2.2.vm.findClass mi.2.2.2.1 = some c.2.1.1.cls ∧ c.2.1.2.2.2.1.sig.returnType = mi.2.2.2.2.1 ∧ c.2.1.2.2.2.1.name = mi.2.2.2.2.2.1 ∧
  c.2.1.2.2.2.1.locks = false ∧ (∀ w ∈ jws, w.before c.2.1.2.1 c.1.2.2.2 = true) ∧ jRel c.2.2.1 c.2.2.2 c.1.2.2.2 c.1.2.2.2.heap ∧ jNw c.1.2.2.2
def JV (l : Launch) (mi : jM) {α : Type} (emb : α → Option Value) (pc : Nat) (ls : List (Nat × Value)) (st : List Value) (H : jH) (o : Option (α × jH)) : Prop :=
  ∀ (r : α) (H' : jH), o = some (r, H') → (jn H ≤ jn H' ∧ js H ≤ js H') ∧ ∀ c : jX, jC mi c → c.1.2.1 = l → jn c.2.2.2 ≤ jn H → js c.2.2.2 ≤ js H →
    ∀ (Hr : Heap) (la : Array Slot) (locs : List Loc), jRel c.2.2.1 H c.1.2.2.2 Hr → va_S (jA c.2.2.1) c.1.2.2.2.heap Hr locs → jLoc c.2.2.1 la mi.2.2.1 ls →
      W c.1.1 c.1.2.1 c.1.2.2.1 (jroom mi.2.2.2.2.2.2.1 (jn H' - jn c.2.2.2) (js H' - js c.2.2.2) mi.2.2.2.2.2.2.2) c.1.2.2.2 c.2.1.1 c.2.1.2.1 c.2.1.2.2.1 c.2.1.2.2.2.1 c.2.1.2.2.2.2 Hr locs (jn H - jn c.2.2.2) (js H - js c.2.2.2)
        (MQ c.2.1.2.2.1 (jQ c.2.2.1 (emb r) H') c.2.1.2.1 c.1.2.2.2 (jn H' - jn c.2.2.2) (js H' - js c.2.2.2) (jA c.2.2.1)) (F0 c.2.1.1 pc la (jstk c.2.2.1 st))
