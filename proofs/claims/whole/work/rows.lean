section
/-! Decoding by one number: the bytes of a method's code, the first one lowest, as one number N; reads are shifts. -/
def jn_bytes : Nat → Nat → List Nat
  | _, 0 => []
  | N, S + 1 => (N % 256) :: jn_bytes (N / 256) S
theorem jn_bytes_len : ∀ (S N : Nat), (jn_bytes N S).length = S
  | 0, _ => rfl
  | S + 1, N => by simp [jn_bytes, jn_bytes_len S]
theorem jn_bytes_get : ∀ (S N i : Nat), i < S → (jn_bytes N S)[i]? = some ((N >>> (8 * i)) % 256)
  | S + 1, N, 0, _ => by simp [jn_bytes]
  | S + 1, N, i + 1, h => by
    rw [jn_bytes, List.getElem?_cons_succ, jn_bytes_get S (N / 256) i (by omega)]
    congr 2
    rw [Nat.shiftRight_eq_div_pow, Nat.shiftRight_eq_div_pow, show (256 : Nat) = 2 ^ 8 from rfl, Nat.div_div_eq_div_mul, ← Nat.pow_add]
    congr 2
    omega
def jn_is (code : ByteArray) (N S : Nat) : Prop := code.data.toList.map UInt8.toNat = jn_bytes N S
theorem jn_size {code : ByteArray} {N S : Nat} (h : jn_is code N S) : code.size = S := by
  have h1 := congrArg List.length h
  rw [jn_bytes_len, List.length_map] at h1
  rw [← h1]
  exact (Array.length_toList).symm
theorem jn_at {code : ByteArray} {N S i : Nat} (h : jn_is code N S) (hi : i < code.size) : code[i].toNat = (N >>> (8 * i)) % 256 := by
  have hs := jn_size h
  have h1 := jn_bytes_get S N i (by omega)
  rw [← h, List.getElem?_map] at h1
  have h2 : code.data.toList[i]? = some code[i] := by
    have hi' : i < code.data.size := hi
    rw [Array.getElem?_toList]
    exact Array.getElem?_eq_getElem hi'
  rw [h2] at h1
  exact Option.some.inj h1
def jw1 (N S pc a : Nat) : Bool := Nat.blt pc S && Nat.beq ((N >>> (8 * pc)) % 256) a
def jw2 (N S pc a b : Nat) : Bool := Nat.blt (pc + 1) S && Nat.beq ((N >>> (8 * pc)) % 65536) (a + 256 * b) && Nat.blt a 256 && Nat.blt b 256
def jw3 (N S pc a b c : Nat) : Bool := Nat.blt (pc + 2) S && Nat.beq ((N >>> (8 * pc)) % 16777216) (a + 256 * b + 65536 * c) && Nat.blt a 256 && Nat.blt b 256 && Nat.blt c 256
theorem jn_sh (N i j : Nat) : N >>> (8 * (i + j)) = (N >>> (8 * i)) >>> (8 * j) := by
  rw [Nat.mul_add, Nat.shiftRight_add]
theorem jw1_spec {N S pc a : Nat} (h : jw1 N S pc a = true) : pc < S ∧ (N >>> (8 * pc)) % 256 = a := by
  simp only [jw1, Bool.and_eq_true, Nat.blt_eq, Nat.beq_eq] at h
  exact h
theorem jw2_spec {N S pc a b : Nat} (h : jw2 N S pc a b = true) : pc + 1 < S ∧ (N >>> (8 * pc)) % 256 = a ∧ (N >>> (8 * (pc + 1))) % 256 = b := by
  simp only [jw2, Bool.and_eq_true, Nat.blt_eq, Nat.beq_eq] at h
  obtain ⟨⟨⟨h1, h2⟩, h3⟩, h4⟩ := h
  rw [jn_sh N pc 1]
  generalize N >>> (8 * pc) = M at *
  rw [Nat.shiftRight_eq_div_pow, show (2 : Nat) ^ (8 * 1) = 256 from rfl]
  omega
theorem jw3_spec {N S pc a b c : Nat} (h : jw3 N S pc a b c = true) : pc + 2 < S ∧ (N >>> (8 * pc)) % 256 = a ∧ (N >>> (8 * (pc + 1))) % 256 = b ∧ (N >>> (8 * (pc + 2))) % 256 = c := by
  simp only [jw3, Bool.and_eq_true, Nat.blt_eq, Nat.beq_eq] at h
  obtain ⟨⟨⟨⟨h1, h2⟩, h3⟩, h4⟩, h5⟩ := h
  rw [jn_sh N pc 1, jn_sh N pc 2]
  generalize N >>> (8 * pc) = M at *
  rw [Nat.shiftRight_eq_div_pow, Nat.shiftRight_eq_div_pow, show (2 : Nat) ^ (8 * 1) = 256 from rfl, show (2 : Nat) ^ (8 * 2) = 65536 from rfl]
  omega
theorem ju1 {code : ByteArray} {N S i b : Nat} (h : jn_is code N S) (hi : i < S) (hb : (N >>> (8 * i)) % 256 = b) : (Reader.u1 : Decoder Nat) code i = (Except.ok (b, i + 1) : Except DecodeError (Nat × Nat)) := by
  have hs := jn_size h
  have hi' : i < code.size := by omega
  have h2 := jn_at h hi'
  rw [hb] at h2
  subst h2
  show (if h : i < code.size then (do set (i + 1); Pure.pure code[i].toNat) else throw (HasTruncated.truncated i) : Decoder Nat) code i = _
  rw [dif_pos hi']
  rfl
theorem jbind {α β : Type} {x : Decoder α} {f : α → Decoder β} {code : ByteArray} {i j : Nat} {a : α} (h : x code i = Except.ok (a, j)) : (x >>= f) code i = f a code j := by
  show Except.bind (x code i) _ = _
  rw [h]
  rfl
theorem jdec {code : ByteArray} {pc j : Nat} {ins : Instr} (h : Decoder.instr pc code pc = Except.ok (ins, j)) : decode code pc = .ok (ins, j - pc) := by
  show Except.bind (Decoder.instr pc code pc) _ = _
  rw [h]
  rfl
theorem ju2 {code : ByteArray} {N S i b d : Nat} (h : jn_is code N S) (hi : i + 1 < S) (hb : (N >>> (8 * i)) % 256 = b) (hd : (N >>> (8 * (i + 1))) % 256 = d) : (Reader.u2 : Decoder Nat) code i = (Except.ok (b * 256 + d, i + 2) : Except DecodeError (Nat × Nat)) := by
  unfold Reader.u2
  refine (jbind (ju1 h (by omega) hb)).trans ?_
  refine (jbind (ju1 h (by omega) hd)).trans ?_
  rfl
theorem js2 {code : ByteArray} {N S i b d : Nat} (h : jn_is code N S) (hi : i + 1 < S) (hb : (N >>> (8 * i)) % 256 = b) (hd : (N >>> (8 * (i + 1))) % 256 = d) : (Reader.s2 : Decoder Int) code i = (Except.ok (Reader.signed 16 (b * 256 + d), i + 2) : Except DecodeError (Int × Nat)) := by
  unfold Reader.s2
  show Except.map _ ((Reader.u2 : Decoder Nat) code i) = _
  rw [ju2 h hi hb hd]
  rfl
theorem js1 {code : ByteArray} {N S i b : Nat} (h : jn_is code N S) (hi : i < S) (hb : (N >>> (8 * i)) % 256 = b) : (Reader.s1 : Decoder Int) code i = (Except.ok (Reader.signed 8 b, i + 1) : Except DecodeError (Int × Nat)) := by
  unfold Reader.s1
  show Except.map _ ((Reader.u1 : Decoder Nat) code i) = _
  rw [ju1 h hi hb]
  rfl
set_option maxRecDepth 20000 in
theorem jd_1 {code : ByteArray} {N S pc : Nat} (h : jn_is code N S) (hw : jw1 N S pc 1 = true) : decode code pc = .ok (.aconst_null, 1) := by
  obtain ⟨h1, h2⟩ := jw1_spec hw
  have h3 : Decoder.instr pc code pc = Except.ok (.aconst_null, pc + 1) := by
    unfold Decoder.instr
    exact (jbind (ju1 h h1 h2)).trans rfl
  rw [jdec h3, Nat.add_sub_cancel_left]
set_option maxRecDepth 20000 in
theorem jd_2 {code : ByteArray} {N S pc : Nat} (h : jn_is code N S) (hw : jw1 N S pc 2 = true) : decode code pc = .ok ((.iconst (-1)), 1) := by
  obtain ⟨h1, h2⟩ := jw1_spec hw
  have h3 : Decoder.instr pc code pc = Except.ok ((.iconst (-1)), pc + 1) := by
    unfold Decoder.instr
    exact (jbind (ju1 h h1 h2)).trans rfl
  rw [jdec h3, Nat.add_sub_cancel_left]
set_option maxRecDepth 20000 in
theorem jd_3 {code : ByteArray} {N S pc : Nat} (h : jn_is code N S) (hw : jw1 N S pc 3 = true) : decode code pc = .ok ((.iconst 0), 1) := by
  obtain ⟨h1, h2⟩ := jw1_spec hw
  have h3 : Decoder.instr pc code pc = Except.ok ((.iconst 0), pc + 1) := by
    unfold Decoder.instr
    exact (jbind (ju1 h h1 h2)).trans rfl
  rw [jdec h3, Nat.add_sub_cancel_left]
set_option maxRecDepth 20000 in
theorem jd_4 {code : ByteArray} {N S pc : Nat} (h : jn_is code N S) (hw : jw1 N S pc 4 = true) : decode code pc = .ok ((.iconst 1), 1) := by
  obtain ⟨h1, h2⟩ := jw1_spec hw
  have h3 : Decoder.instr pc code pc = Except.ok ((.iconst 1), pc + 1) := by
    unfold Decoder.instr
    exact (jbind (ju1 h h1 h2)).trans rfl
  rw [jdec h3, Nat.add_sub_cancel_left]
set_option maxRecDepth 20000 in
theorem jd_5 {code : ByteArray} {N S pc : Nat} (h : jn_is code N S) (hw : jw1 N S pc 5 = true) : decode code pc = .ok ((.iconst 2), 1) := by
  obtain ⟨h1, h2⟩ := jw1_spec hw
  have h3 : Decoder.instr pc code pc = Except.ok ((.iconst 2), pc + 1) := by
    unfold Decoder.instr
    exact (jbind (ju1 h h1 h2)).trans rfl
  rw [jdec h3, Nat.add_sub_cancel_left]
set_option maxRecDepth 20000 in
theorem jd_6 {code : ByteArray} {N S pc : Nat} (h : jn_is code N S) (hw : jw1 N S pc 6 = true) : decode code pc = .ok ((.iconst 3), 1) := by
  obtain ⟨h1, h2⟩ := jw1_spec hw
  have h3 : Decoder.instr pc code pc = Except.ok ((.iconst 3), pc + 1) := by
    unfold Decoder.instr
    exact (jbind (ju1 h h1 h2)).trans rfl
  rw [jdec h3, Nat.add_sub_cancel_left]
set_option maxRecDepth 20000 in
theorem jd_7 {code : ByteArray} {N S pc : Nat} (h : jn_is code N S) (hw : jw1 N S pc 7 = true) : decode code pc = .ok ((.iconst 4), 1) := by
  obtain ⟨h1, h2⟩ := jw1_spec hw
  have h3 : Decoder.instr pc code pc = Except.ok ((.iconst 4), pc + 1) := by
    unfold Decoder.instr
    exact (jbind (ju1 h h1 h2)).trans rfl
  rw [jdec h3, Nat.add_sub_cancel_left]
set_option maxRecDepth 20000 in
theorem jd_8 {code : ByteArray} {N S pc : Nat} (h : jn_is code N S) (hw : jw1 N S pc 8 = true) : decode code pc = .ok ((.iconst 5), 1) := by
  obtain ⟨h1, h2⟩ := jw1_spec hw
  have h3 : Decoder.instr pc code pc = Except.ok ((.iconst 5), pc + 1) := by
    unfold Decoder.instr
    exact (jbind (ju1 h h1 h2)).trans rfl
  rw [jdec h3, Nat.add_sub_cancel_left]
set_option maxRecDepth 20000 in
theorem jd_9 {code : ByteArray} {N S pc : Nat} (h : jn_is code N S) (hw : jw1 N S pc 9 = true) : decode code pc = .ok ((.lconst 0), 1) := by
  obtain ⟨h1, h2⟩ := jw1_spec hw
  have h3 : Decoder.instr pc code pc = Except.ok ((.lconst 0), pc + 1) := by
    unfold Decoder.instr
    exact (jbind (ju1 h h1 h2)).trans rfl
  rw [jdec h3, Nat.add_sub_cancel_left]
set_option maxRecDepth 20000 in
theorem jd_10 {code : ByteArray} {N S pc : Nat} (h : jn_is code N S) (hw : jw1 N S pc 10 = true) : decode code pc = .ok ((.lconst 1), 1) := by
  obtain ⟨h1, h2⟩ := jw1_spec hw
  have h3 : Decoder.instr pc code pc = Except.ok ((.lconst 1), pc + 1) := by
    unfold Decoder.instr
    exact (jbind (ju1 h h1 h2)).trans rfl
  rw [jdec h3, Nat.add_sub_cancel_left]
set_option maxRecDepth 20000 in
theorem jd_26 {code : ByteArray} {N S pc : Nat} (h : jn_is code N S) (hw : jw1 N S pc 26 = true) : decode code pc = .ok ((.iload_n 0), 1) := by
  obtain ⟨h1, h2⟩ := jw1_spec hw
  have h3 : Decoder.instr pc code pc = Except.ok ((.iload_n 0), pc + 1) := by
    unfold Decoder.instr
    exact (jbind (ju1 h h1 h2)).trans rfl
  rw [jdec h3, Nat.add_sub_cancel_left]
set_option maxRecDepth 20000 in
theorem jd_27 {code : ByteArray} {N S pc : Nat} (h : jn_is code N S) (hw : jw1 N S pc 27 = true) : decode code pc = .ok ((.iload_n 1), 1) := by
  obtain ⟨h1, h2⟩ := jw1_spec hw
  have h3 : Decoder.instr pc code pc = Except.ok ((.iload_n 1), pc + 1) := by
    unfold Decoder.instr
    exact (jbind (ju1 h h1 h2)).trans rfl
  rw [jdec h3, Nat.add_sub_cancel_left]
set_option maxRecDepth 20000 in
theorem jd_28 {code : ByteArray} {N S pc : Nat} (h : jn_is code N S) (hw : jw1 N S pc 28 = true) : decode code pc = .ok ((.iload_n 2), 1) := by
  obtain ⟨h1, h2⟩ := jw1_spec hw
  have h3 : Decoder.instr pc code pc = Except.ok ((.iload_n 2), pc + 1) := by
    unfold Decoder.instr
    exact (jbind (ju1 h h1 h2)).trans rfl
  rw [jdec h3, Nat.add_sub_cancel_left]
set_option maxRecDepth 20000 in
theorem jd_29 {code : ByteArray} {N S pc : Nat} (h : jn_is code N S) (hw : jw1 N S pc 29 = true) : decode code pc = .ok ((.iload_n 3), 1) := by
  obtain ⟨h1, h2⟩ := jw1_spec hw
  have h3 : Decoder.instr pc code pc = Except.ok ((.iload_n 3), pc + 1) := by
    unfold Decoder.instr
    exact (jbind (ju1 h h1 h2)).trans rfl
  rw [jdec h3, Nat.add_sub_cancel_left]
set_option maxRecDepth 20000 in
theorem jd_30 {code : ByteArray} {N S pc : Nat} (h : jn_is code N S) (hw : jw1 N S pc 30 = true) : decode code pc = .ok ((.lload_n 0), 1) := by
  obtain ⟨h1, h2⟩ := jw1_spec hw
  have h3 : Decoder.instr pc code pc = Except.ok ((.lload_n 0), pc + 1) := by
    unfold Decoder.instr
    exact (jbind (ju1 h h1 h2)).trans rfl
  rw [jdec h3, Nat.add_sub_cancel_left]
set_option maxRecDepth 20000 in
theorem jd_31 {code : ByteArray} {N S pc : Nat} (h : jn_is code N S) (hw : jw1 N S pc 31 = true) : decode code pc = .ok ((.lload_n 1), 1) := by
  obtain ⟨h1, h2⟩ := jw1_spec hw
  have h3 : Decoder.instr pc code pc = Except.ok ((.lload_n 1), pc + 1) := by
    unfold Decoder.instr
    exact (jbind (ju1 h h1 h2)).trans rfl
  rw [jdec h3, Nat.add_sub_cancel_left]
set_option maxRecDepth 20000 in
theorem jd_32 {code : ByteArray} {N S pc : Nat} (h : jn_is code N S) (hw : jw1 N S pc 32 = true) : decode code pc = .ok ((.lload_n 2), 1) := by
  obtain ⟨h1, h2⟩ := jw1_spec hw
  have h3 : Decoder.instr pc code pc = Except.ok ((.lload_n 2), pc + 1) := by
    unfold Decoder.instr
    exact (jbind (ju1 h h1 h2)).trans rfl
  rw [jdec h3, Nat.add_sub_cancel_left]
set_option maxRecDepth 20000 in
theorem jd_33 {code : ByteArray} {N S pc : Nat} (h : jn_is code N S) (hw : jw1 N S pc 33 = true) : decode code pc = .ok ((.lload_n 3), 1) := by
  obtain ⟨h1, h2⟩ := jw1_spec hw
  have h3 : Decoder.instr pc code pc = Except.ok ((.lload_n 3), pc + 1) := by
    unfold Decoder.instr
    exact (jbind (ju1 h h1 h2)).trans rfl
  rw [jdec h3, Nat.add_sub_cancel_left]
set_option maxRecDepth 20000 in
theorem jd_42 {code : ByteArray} {N S pc : Nat} (h : jn_is code N S) (hw : jw1 N S pc 42 = true) : decode code pc = .ok ((.aload_n 0), 1) := by
  obtain ⟨h1, h2⟩ := jw1_spec hw
  have h3 : Decoder.instr pc code pc = Except.ok ((.aload_n 0), pc + 1) := by
    unfold Decoder.instr
    exact (jbind (ju1 h h1 h2)).trans rfl
  rw [jdec h3, Nat.add_sub_cancel_left]
set_option maxRecDepth 20000 in
theorem jd_43 {code : ByteArray} {N S pc : Nat} (h : jn_is code N S) (hw : jw1 N S pc 43 = true) : decode code pc = .ok ((.aload_n 1), 1) := by
  obtain ⟨h1, h2⟩ := jw1_spec hw
  have h3 : Decoder.instr pc code pc = Except.ok ((.aload_n 1), pc + 1) := by
    unfold Decoder.instr
    exact (jbind (ju1 h h1 h2)).trans rfl
  rw [jdec h3, Nat.add_sub_cancel_left]
set_option maxRecDepth 20000 in
theorem jd_44 {code : ByteArray} {N S pc : Nat} (h : jn_is code N S) (hw : jw1 N S pc 44 = true) : decode code pc = .ok ((.aload_n 2), 1) := by
  obtain ⟨h1, h2⟩ := jw1_spec hw
  have h3 : Decoder.instr pc code pc = Except.ok ((.aload_n 2), pc + 1) := by
    unfold Decoder.instr
    exact (jbind (ju1 h h1 h2)).trans rfl
  rw [jdec h3, Nat.add_sub_cancel_left]
set_option maxRecDepth 20000 in
theorem jd_45 {code : ByteArray} {N S pc : Nat} (h : jn_is code N S) (hw : jw1 N S pc 45 = true) : decode code pc = .ok ((.aload_n 3), 1) := by
  obtain ⟨h1, h2⟩ := jw1_spec hw
  have h3 : Decoder.instr pc code pc = Except.ok ((.aload_n 3), pc + 1) := by
    unfold Decoder.instr
    exact (jbind (ju1 h h1 h2)).trans rfl
  rw [jdec h3, Nat.add_sub_cancel_left]
set_option maxRecDepth 20000 in
theorem jd_46 {code : ByteArray} {N S pc : Nat} (h : jn_is code N S) (hw : jw1 N S pc 46 = true) : decode code pc = .ok (.iaload, 1) := by
  obtain ⟨h1, h2⟩ := jw1_spec hw
  have h3 : Decoder.instr pc code pc = Except.ok (.iaload, pc + 1) := by
    unfold Decoder.instr
    exact (jbind (ju1 h h1 h2)).trans rfl
  rw [jdec h3, Nat.add_sub_cancel_left]
set_option maxRecDepth 20000 in
theorem jd_47 {code : ByteArray} {N S pc : Nat} (h : jn_is code N S) (hw : jw1 N S pc 47 = true) : decode code pc = .ok (.laload, 1) := by
  obtain ⟨h1, h2⟩ := jw1_spec hw
  have h3 : Decoder.instr pc code pc = Except.ok (.laload, pc + 1) := by
    unfold Decoder.instr
    exact (jbind (ju1 h h1 h2)).trans rfl
  rw [jdec h3, Nat.add_sub_cancel_left]
set_option maxRecDepth 20000 in
theorem jd_50 {code : ByteArray} {N S pc : Nat} (h : jn_is code N S) (hw : jw1 N S pc 50 = true) : decode code pc = .ok (.aaload, 1) := by
  obtain ⟨h1, h2⟩ := jw1_spec hw
  have h3 : Decoder.instr pc code pc = Except.ok (.aaload, pc + 1) := by
    unfold Decoder.instr
    exact (jbind (ju1 h h1 h2)).trans rfl
  rw [jdec h3, Nat.add_sub_cancel_left]
set_option maxRecDepth 20000 in
theorem jd_51 {code : ByteArray} {N S pc : Nat} (h : jn_is code N S) (hw : jw1 N S pc 51 = true) : decode code pc = .ok (.baload, 1) := by
  obtain ⟨h1, h2⟩ := jw1_spec hw
  have h3 : Decoder.instr pc code pc = Except.ok (.baload, pc + 1) := by
    unfold Decoder.instr
    exact (jbind (ju1 h h1 h2)).trans rfl
  rw [jdec h3, Nat.add_sub_cancel_left]
set_option maxRecDepth 20000 in
theorem jd_59 {code : ByteArray} {N S pc : Nat} (h : jn_is code N S) (hw : jw1 N S pc 59 = true) : decode code pc = .ok ((.istore_n 0), 1) := by
  obtain ⟨h1, h2⟩ := jw1_spec hw
  have h3 : Decoder.instr pc code pc = Except.ok ((.istore_n 0), pc + 1) := by
    unfold Decoder.instr
    exact (jbind (ju1 h h1 h2)).trans rfl
  rw [jdec h3, Nat.add_sub_cancel_left]
set_option maxRecDepth 20000 in
theorem jd_60 {code : ByteArray} {N S pc : Nat} (h : jn_is code N S) (hw : jw1 N S pc 60 = true) : decode code pc = .ok ((.istore_n 1), 1) := by
  obtain ⟨h1, h2⟩ := jw1_spec hw
  have h3 : Decoder.instr pc code pc = Except.ok ((.istore_n 1), pc + 1) := by
    unfold Decoder.instr
    exact (jbind (ju1 h h1 h2)).trans rfl
  rw [jdec h3, Nat.add_sub_cancel_left]
set_option maxRecDepth 20000 in
theorem jd_61 {code : ByteArray} {N S pc : Nat} (h : jn_is code N S) (hw : jw1 N S pc 61 = true) : decode code pc = .ok ((.istore_n 2), 1) := by
  obtain ⟨h1, h2⟩ := jw1_spec hw
  have h3 : Decoder.instr pc code pc = Except.ok ((.istore_n 2), pc + 1) := by
    unfold Decoder.instr
    exact (jbind (ju1 h h1 h2)).trans rfl
  rw [jdec h3, Nat.add_sub_cancel_left]
set_option maxRecDepth 20000 in
theorem jd_62 {code : ByteArray} {N S pc : Nat} (h : jn_is code N S) (hw : jw1 N S pc 62 = true) : decode code pc = .ok ((.istore_n 3), 1) := by
  obtain ⟨h1, h2⟩ := jw1_spec hw
  have h3 : Decoder.instr pc code pc = Except.ok ((.istore_n 3), pc + 1) := by
    unfold Decoder.instr
    exact (jbind (ju1 h h1 h2)).trans rfl
  rw [jdec h3, Nat.add_sub_cancel_left]
set_option maxRecDepth 20000 in
theorem jd_63 {code : ByteArray} {N S pc : Nat} (h : jn_is code N S) (hw : jw1 N S pc 63 = true) : decode code pc = .ok ((.lstore_n 0), 1) := by
  obtain ⟨h1, h2⟩ := jw1_spec hw
  have h3 : Decoder.instr pc code pc = Except.ok ((.lstore_n 0), pc + 1) := by
    unfold Decoder.instr
    exact (jbind (ju1 h h1 h2)).trans rfl
  rw [jdec h3, Nat.add_sub_cancel_left]
set_option maxRecDepth 20000 in
theorem jd_64 {code : ByteArray} {N S pc : Nat} (h : jn_is code N S) (hw : jw1 N S pc 64 = true) : decode code pc = .ok ((.lstore_n 1), 1) := by
  obtain ⟨h1, h2⟩ := jw1_spec hw
  have h3 : Decoder.instr pc code pc = Except.ok ((.lstore_n 1), pc + 1) := by
    unfold Decoder.instr
    exact (jbind (ju1 h h1 h2)).trans rfl
  rw [jdec h3, Nat.add_sub_cancel_left]
set_option maxRecDepth 20000 in
theorem jd_65 {code : ByteArray} {N S pc : Nat} (h : jn_is code N S) (hw : jw1 N S pc 65 = true) : decode code pc = .ok ((.lstore_n 2), 1) := by
  obtain ⟨h1, h2⟩ := jw1_spec hw
  have h3 : Decoder.instr pc code pc = Except.ok ((.lstore_n 2), pc + 1) := by
    unfold Decoder.instr
    exact (jbind (ju1 h h1 h2)).trans rfl
  rw [jdec h3, Nat.add_sub_cancel_left]
set_option maxRecDepth 20000 in
theorem jd_66 {code : ByteArray} {N S pc : Nat} (h : jn_is code N S) (hw : jw1 N S pc 66 = true) : decode code pc = .ok ((.lstore_n 3), 1) := by
  obtain ⟨h1, h2⟩ := jw1_spec hw
  have h3 : Decoder.instr pc code pc = Except.ok ((.lstore_n 3), pc + 1) := by
    unfold Decoder.instr
    exact (jbind (ju1 h h1 h2)).trans rfl
  rw [jdec h3, Nat.add_sub_cancel_left]
set_option maxRecDepth 20000 in
theorem jd_75 {code : ByteArray} {N S pc : Nat} (h : jn_is code N S) (hw : jw1 N S pc 75 = true) : decode code pc = .ok ((.astore_n 0), 1) := by
  obtain ⟨h1, h2⟩ := jw1_spec hw
  have h3 : Decoder.instr pc code pc = Except.ok ((.astore_n 0), pc + 1) := by
    unfold Decoder.instr
    exact (jbind (ju1 h h1 h2)).trans rfl
  rw [jdec h3, Nat.add_sub_cancel_left]
set_option maxRecDepth 20000 in
theorem jd_76 {code : ByteArray} {N S pc : Nat} (h : jn_is code N S) (hw : jw1 N S pc 76 = true) : decode code pc = .ok ((.astore_n 1), 1) := by
  obtain ⟨h1, h2⟩ := jw1_spec hw
  have h3 : Decoder.instr pc code pc = Except.ok ((.astore_n 1), pc + 1) := by
    unfold Decoder.instr
    exact (jbind (ju1 h h1 h2)).trans rfl
  rw [jdec h3, Nat.add_sub_cancel_left]
set_option maxRecDepth 20000 in
theorem jd_77 {code : ByteArray} {N S pc : Nat} (h : jn_is code N S) (hw : jw1 N S pc 77 = true) : decode code pc = .ok ((.astore_n 2), 1) := by
  obtain ⟨h1, h2⟩ := jw1_spec hw
  have h3 : Decoder.instr pc code pc = Except.ok ((.astore_n 2), pc + 1) := by
    unfold Decoder.instr
    exact (jbind (ju1 h h1 h2)).trans rfl
  rw [jdec h3, Nat.add_sub_cancel_left]
set_option maxRecDepth 20000 in
theorem jd_78 {code : ByteArray} {N S pc : Nat} (h : jn_is code N S) (hw : jw1 N S pc 78 = true) : decode code pc = .ok ((.astore_n 3), 1) := by
  obtain ⟨h1, h2⟩ := jw1_spec hw
  have h3 : Decoder.instr pc code pc = Except.ok ((.astore_n 3), pc + 1) := by
    unfold Decoder.instr
    exact (jbind (ju1 h h1 h2)).trans rfl
  rw [jdec h3, Nat.add_sub_cancel_left]
set_option maxRecDepth 20000 in
theorem jd_79 {code : ByteArray} {N S pc : Nat} (h : jn_is code N S) (hw : jw1 N S pc 79 = true) : decode code pc = .ok (.iastore, 1) := by
  obtain ⟨h1, h2⟩ := jw1_spec hw
  have h3 : Decoder.instr pc code pc = Except.ok (.iastore, pc + 1) := by
    unfold Decoder.instr
    exact (jbind (ju1 h h1 h2)).trans rfl
  rw [jdec h3, Nat.add_sub_cancel_left]
set_option maxRecDepth 20000 in
theorem jd_80 {code : ByteArray} {N S pc : Nat} (h : jn_is code N S) (hw : jw1 N S pc 80 = true) : decode code pc = .ok (.lastore, 1) := by
  obtain ⟨h1, h2⟩ := jw1_spec hw
  have h3 : Decoder.instr pc code pc = Except.ok (.lastore, pc + 1) := by
    unfold Decoder.instr
    exact (jbind (ju1 h h1 h2)).trans rfl
  rw [jdec h3, Nat.add_sub_cancel_left]
set_option maxRecDepth 20000 in
theorem jd_83 {code : ByteArray} {N S pc : Nat} (h : jn_is code N S) (hw : jw1 N S pc 83 = true) : decode code pc = .ok (.aastore, 1) := by
  obtain ⟨h1, h2⟩ := jw1_spec hw
  have h3 : Decoder.instr pc code pc = Except.ok (.aastore, pc + 1) := by
    unfold Decoder.instr
    exact (jbind (ju1 h h1 h2)).trans rfl
  rw [jdec h3, Nat.add_sub_cancel_left]
set_option maxRecDepth 20000 in
theorem jd_84 {code : ByteArray} {N S pc : Nat} (h : jn_is code N S) (hw : jw1 N S pc 84 = true) : decode code pc = .ok (.bastore, 1) := by
  obtain ⟨h1, h2⟩ := jw1_spec hw
  have h3 : Decoder.instr pc code pc = Except.ok (.bastore, pc + 1) := by
    unfold Decoder.instr
    exact (jbind (ju1 h h1 h2)).trans rfl
  rw [jdec h3, Nat.add_sub_cancel_left]
set_option maxRecDepth 20000 in
theorem jd_87 {code : ByteArray} {N S pc : Nat} (h : jn_is code N S) (hw : jw1 N S pc 87 = true) : decode code pc = .ok (.pop, 1) := by
  obtain ⟨h1, h2⟩ := jw1_spec hw
  have h3 : Decoder.instr pc code pc = Except.ok (.pop, pc + 1) := by
    unfold Decoder.instr
    exact (jbind (ju1 h h1 h2)).trans rfl
  rw [jdec h3, Nat.add_sub_cancel_left]
set_option maxRecDepth 20000 in
theorem jd_88 {code : ByteArray} {N S pc : Nat} (h : jn_is code N S) (hw : jw1 N S pc 88 = true) : decode code pc = .ok (.pop2, 1) := by
  obtain ⟨h1, h2⟩ := jw1_spec hw
  have h3 : Decoder.instr pc code pc = Except.ok (.pop2, pc + 1) := by
    unfold Decoder.instr
    exact (jbind (ju1 h h1 h2)).trans rfl
  rw [jdec h3, Nat.add_sub_cancel_left]
set_option maxRecDepth 20000 in
theorem jd_89 {code : ByteArray} {N S pc : Nat} (h : jn_is code N S) (hw : jw1 N S pc 89 = true) : decode code pc = .ok (.dup, 1) := by
  obtain ⟨h1, h2⟩ := jw1_spec hw
  have h3 : Decoder.instr pc code pc = Except.ok (.dup, pc + 1) := by
    unfold Decoder.instr
    exact (jbind (ju1 h h1 h2)).trans rfl
  rw [jdec h3, Nat.add_sub_cancel_left]
set_option maxRecDepth 20000 in
theorem jd_92 {code : ByteArray} {N S pc : Nat} (h : jn_is code N S) (hw : jw1 N S pc 92 = true) : decode code pc = .ok (.dup2, 1) := by
  obtain ⟨h1, h2⟩ := jw1_spec hw
  have h3 : Decoder.instr pc code pc = Except.ok (.dup2, pc + 1) := by
    unfold Decoder.instr
    exact (jbind (ju1 h h1 h2)).trans rfl
  rw [jdec h3, Nat.add_sub_cancel_left]
set_option maxRecDepth 20000 in
theorem jd_96 {code : ByteArray} {N S pc : Nat} (h : jn_is code N S) (hw : jw1 N S pc 96 = true) : decode code pc = .ok (.iadd, 1) := by
  obtain ⟨h1, h2⟩ := jw1_spec hw
  have h3 : Decoder.instr pc code pc = Except.ok (.iadd, pc + 1) := by
    unfold Decoder.instr
    exact (jbind (ju1 h h1 h2)).trans rfl
  rw [jdec h3, Nat.add_sub_cancel_left]
set_option maxRecDepth 20000 in
theorem jd_97 {code : ByteArray} {N S pc : Nat} (h : jn_is code N S) (hw : jw1 N S pc 97 = true) : decode code pc = .ok (.ladd, 1) := by
  obtain ⟨h1, h2⟩ := jw1_spec hw
  have h3 : Decoder.instr pc code pc = Except.ok (.ladd, pc + 1) := by
    unfold Decoder.instr
    exact (jbind (ju1 h h1 h2)).trans rfl
  rw [jdec h3, Nat.add_sub_cancel_left]
set_option maxRecDepth 20000 in
theorem jd_100 {code : ByteArray} {N S pc : Nat} (h : jn_is code N S) (hw : jw1 N S pc 100 = true) : decode code pc = .ok (.isub, 1) := by
  obtain ⟨h1, h2⟩ := jw1_spec hw
  have h3 : Decoder.instr pc code pc = Except.ok (.isub, pc + 1) := by
    unfold Decoder.instr
    exact (jbind (ju1 h h1 h2)).trans rfl
  rw [jdec h3, Nat.add_sub_cancel_left]
set_option maxRecDepth 20000 in
theorem jd_101 {code : ByteArray} {N S pc : Nat} (h : jn_is code N S) (hw : jw1 N S pc 101 = true) : decode code pc = .ok (.lsub, 1) := by
  obtain ⟨h1, h2⟩ := jw1_spec hw
  have h3 : Decoder.instr pc code pc = Except.ok (.lsub, pc + 1) := by
    unfold Decoder.instr
    exact (jbind (ju1 h h1 h2)).trans rfl
  rw [jdec h3, Nat.add_sub_cancel_left]
set_option maxRecDepth 20000 in
theorem jd_104 {code : ByteArray} {N S pc : Nat} (h : jn_is code N S) (hw : jw1 N S pc 104 = true) : decode code pc = .ok (.imul, 1) := by
  obtain ⟨h1, h2⟩ := jw1_spec hw
  have h3 : Decoder.instr pc code pc = Except.ok (.imul, pc + 1) := by
    unfold Decoder.instr
    exact (jbind (ju1 h h1 h2)).trans rfl
  rw [jdec h3, Nat.add_sub_cancel_left]
set_option maxRecDepth 20000 in
theorem jd_105 {code : ByteArray} {N S pc : Nat} (h : jn_is code N S) (hw : jw1 N S pc 105 = true) : decode code pc = .ok (.lmul, 1) := by
  obtain ⟨h1, h2⟩ := jw1_spec hw
  have h3 : Decoder.instr pc code pc = Except.ok (.lmul, pc + 1) := by
    unfold Decoder.instr
    exact (jbind (ju1 h h1 h2)).trans rfl
  rw [jdec h3, Nat.add_sub_cancel_left]
set_option maxRecDepth 20000 in
theorem jd_108 {code : ByteArray} {N S pc : Nat} (h : jn_is code N S) (hw : jw1 N S pc 108 = true) : decode code pc = .ok (.idiv, 1) := by
  obtain ⟨h1, h2⟩ := jw1_spec hw
  have h3 : Decoder.instr pc code pc = Except.ok (.idiv, pc + 1) := by
    unfold Decoder.instr
    exact (jbind (ju1 h h1 h2)).trans rfl
  rw [jdec h3, Nat.add_sub_cancel_left]
set_option maxRecDepth 20000 in
theorem jd_109 {code : ByteArray} {N S pc : Nat} (h : jn_is code N S) (hw : jw1 N S pc 109 = true) : decode code pc = .ok (.ldiv, 1) := by
  obtain ⟨h1, h2⟩ := jw1_spec hw
  have h3 : Decoder.instr pc code pc = Except.ok (.ldiv, pc + 1) := by
    unfold Decoder.instr
    exact (jbind (ju1 h h1 h2)).trans rfl
  rw [jdec h3, Nat.add_sub_cancel_left]
set_option maxRecDepth 20000 in
theorem jd_112 {code : ByteArray} {N S pc : Nat} (h : jn_is code N S) (hw : jw1 N S pc 112 = true) : decode code pc = .ok (.irem, 1) := by
  obtain ⟨h1, h2⟩ := jw1_spec hw
  have h3 : Decoder.instr pc code pc = Except.ok (.irem, pc + 1) := by
    unfold Decoder.instr
    exact (jbind (ju1 h h1 h2)).trans rfl
  rw [jdec h3, Nat.add_sub_cancel_left]
set_option maxRecDepth 20000 in
theorem jd_113 {code : ByteArray} {N S pc : Nat} (h : jn_is code N S) (hw : jw1 N S pc 113 = true) : decode code pc = .ok (.lrem, 1) := by
  obtain ⟨h1, h2⟩ := jw1_spec hw
  have h3 : Decoder.instr pc code pc = Except.ok (.lrem, pc + 1) := by
    unfold Decoder.instr
    exact (jbind (ju1 h h1 h2)).trans rfl
  rw [jdec h3, Nat.add_sub_cancel_left]
set_option maxRecDepth 20000 in
theorem jd_116 {code : ByteArray} {N S pc : Nat} (h : jn_is code N S) (hw : jw1 N S pc 116 = true) : decode code pc = .ok (.ineg, 1) := by
  obtain ⟨h1, h2⟩ := jw1_spec hw
  have h3 : Decoder.instr pc code pc = Except.ok (.ineg, pc + 1) := by
    unfold Decoder.instr
    exact (jbind (ju1 h h1 h2)).trans rfl
  rw [jdec h3, Nat.add_sub_cancel_left]
set_option maxRecDepth 20000 in
theorem jd_117 {code : ByteArray} {N S pc : Nat} (h : jn_is code N S) (hw : jw1 N S pc 117 = true) : decode code pc = .ok (.lneg, 1) := by
  obtain ⟨h1, h2⟩ := jw1_spec hw
  have h3 : Decoder.instr pc code pc = Except.ok (.lneg, pc + 1) := by
    unfold Decoder.instr
    exact (jbind (ju1 h h1 h2)).trans rfl
  rw [jdec h3, Nat.add_sub_cancel_left]
set_option maxRecDepth 20000 in
theorem jd_120 {code : ByteArray} {N S pc : Nat} (h : jn_is code N S) (hw : jw1 N S pc 120 = true) : decode code pc = .ok (.ishl, 1) := by
  obtain ⟨h1, h2⟩ := jw1_spec hw
  have h3 : Decoder.instr pc code pc = Except.ok (.ishl, pc + 1) := by
    unfold Decoder.instr
    exact (jbind (ju1 h h1 h2)).trans rfl
  rw [jdec h3, Nat.add_sub_cancel_left]
set_option maxRecDepth 20000 in
theorem jd_121 {code : ByteArray} {N S pc : Nat} (h : jn_is code N S) (hw : jw1 N S pc 121 = true) : decode code pc = .ok (.lshl, 1) := by
  obtain ⟨h1, h2⟩ := jw1_spec hw
  have h3 : Decoder.instr pc code pc = Except.ok (.lshl, pc + 1) := by
    unfold Decoder.instr
    exact (jbind (ju1 h h1 h2)).trans rfl
  rw [jdec h3, Nat.add_sub_cancel_left]
set_option maxRecDepth 20000 in
theorem jd_122 {code : ByteArray} {N S pc : Nat} (h : jn_is code N S) (hw : jw1 N S pc 122 = true) : decode code pc = .ok (.ishr, 1) := by
  obtain ⟨h1, h2⟩ := jw1_spec hw
  have h3 : Decoder.instr pc code pc = Except.ok (.ishr, pc + 1) := by
    unfold Decoder.instr
    exact (jbind (ju1 h h1 h2)).trans rfl
  rw [jdec h3, Nat.add_sub_cancel_left]
set_option maxRecDepth 20000 in
theorem jd_123 {code : ByteArray} {N S pc : Nat} (h : jn_is code N S) (hw : jw1 N S pc 123 = true) : decode code pc = .ok (.lshr, 1) := by
  obtain ⟨h1, h2⟩ := jw1_spec hw
  have h3 : Decoder.instr pc code pc = Except.ok (.lshr, pc + 1) := by
    unfold Decoder.instr
    exact (jbind (ju1 h h1 h2)).trans rfl
  rw [jdec h3, Nat.add_sub_cancel_left]
set_option maxRecDepth 20000 in
theorem jd_124 {code : ByteArray} {N S pc : Nat} (h : jn_is code N S) (hw : jw1 N S pc 124 = true) : decode code pc = .ok (.iushr, 1) := by
  obtain ⟨h1, h2⟩ := jw1_spec hw
  have h3 : Decoder.instr pc code pc = Except.ok (.iushr, pc + 1) := by
    unfold Decoder.instr
    exact (jbind (ju1 h h1 h2)).trans rfl
  rw [jdec h3, Nat.add_sub_cancel_left]
set_option maxRecDepth 20000 in
theorem jd_125 {code : ByteArray} {N S pc : Nat} (h : jn_is code N S) (hw : jw1 N S pc 125 = true) : decode code pc = .ok (.lushr, 1) := by
  obtain ⟨h1, h2⟩ := jw1_spec hw
  have h3 : Decoder.instr pc code pc = Except.ok (.lushr, pc + 1) := by
    unfold Decoder.instr
    exact (jbind (ju1 h h1 h2)).trans rfl
  rw [jdec h3, Nat.add_sub_cancel_left]
set_option maxRecDepth 20000 in
theorem jd_126 {code : ByteArray} {N S pc : Nat} (h : jn_is code N S) (hw : jw1 N S pc 126 = true) : decode code pc = .ok (.iand, 1) := by
  obtain ⟨h1, h2⟩ := jw1_spec hw
  have h3 : Decoder.instr pc code pc = Except.ok (.iand, pc + 1) := by
    unfold Decoder.instr
    exact (jbind (ju1 h h1 h2)).trans rfl
  rw [jdec h3, Nat.add_sub_cancel_left]
set_option maxRecDepth 20000 in
theorem jd_127 {code : ByteArray} {N S pc : Nat} (h : jn_is code N S) (hw : jw1 N S pc 127 = true) : decode code pc = .ok (.land, 1) := by
  obtain ⟨h1, h2⟩ := jw1_spec hw
  have h3 : Decoder.instr pc code pc = Except.ok (.land, pc + 1) := by
    unfold Decoder.instr
    exact (jbind (ju1 h h1 h2)).trans rfl
  rw [jdec h3, Nat.add_sub_cancel_left]
set_option maxRecDepth 20000 in
theorem jd_128 {code : ByteArray} {N S pc : Nat} (h : jn_is code N S) (hw : jw1 N S pc 128 = true) : decode code pc = .ok (.ior, 1) := by
  obtain ⟨h1, h2⟩ := jw1_spec hw
  have h3 : Decoder.instr pc code pc = Except.ok (.ior, pc + 1) := by
    unfold Decoder.instr
    exact (jbind (ju1 h h1 h2)).trans rfl
  rw [jdec h3, Nat.add_sub_cancel_left]
set_option maxRecDepth 20000 in
theorem jd_129 {code : ByteArray} {N S pc : Nat} (h : jn_is code N S) (hw : jw1 N S pc 129 = true) : decode code pc = .ok (.lor, 1) := by
  obtain ⟨h1, h2⟩ := jw1_spec hw
  have h3 : Decoder.instr pc code pc = Except.ok (.lor, pc + 1) := by
    unfold Decoder.instr
    exact (jbind (ju1 h h1 h2)).trans rfl
  rw [jdec h3, Nat.add_sub_cancel_left]
set_option maxRecDepth 20000 in
theorem jd_130 {code : ByteArray} {N S pc : Nat} (h : jn_is code N S) (hw : jw1 N S pc 130 = true) : decode code pc = .ok (.ixor, 1) := by
  obtain ⟨h1, h2⟩ := jw1_spec hw
  have h3 : Decoder.instr pc code pc = Except.ok (.ixor, pc + 1) := by
    unfold Decoder.instr
    exact (jbind (ju1 h h1 h2)).trans rfl
  rw [jdec h3, Nat.add_sub_cancel_left]
set_option maxRecDepth 20000 in
theorem jd_131 {code : ByteArray} {N S pc : Nat} (h : jn_is code N S) (hw : jw1 N S pc 131 = true) : decode code pc = .ok (.lxor, 1) := by
  obtain ⟨h1, h2⟩ := jw1_spec hw
  have h3 : Decoder.instr pc code pc = Except.ok (.lxor, pc + 1) := by
    unfold Decoder.instr
    exact (jbind (ju1 h h1 h2)).trans rfl
  rw [jdec h3, Nat.add_sub_cancel_left]
set_option maxRecDepth 20000 in
theorem jd_133 {code : ByteArray} {N S pc : Nat} (h : jn_is code N S) (hw : jw1 N S pc 133 = true) : decode code pc = .ok (.i2l, 1) := by
  obtain ⟨h1, h2⟩ := jw1_spec hw
  have h3 : Decoder.instr pc code pc = Except.ok (.i2l, pc + 1) := by
    unfold Decoder.instr
    exact (jbind (ju1 h h1 h2)).trans rfl
  rw [jdec h3, Nat.add_sub_cancel_left]
set_option maxRecDepth 20000 in
theorem jd_136 {code : ByteArray} {N S pc : Nat} (h : jn_is code N S) (hw : jw1 N S pc 136 = true) : decode code pc = .ok (.l2i, 1) := by
  obtain ⟨h1, h2⟩ := jw1_spec hw
  have h3 : Decoder.instr pc code pc = Except.ok (.l2i, pc + 1) := by
    unfold Decoder.instr
    exact (jbind (ju1 h h1 h2)).trans rfl
  rw [jdec h3, Nat.add_sub_cancel_left]
set_option maxRecDepth 20000 in
theorem jd_145 {code : ByteArray} {N S pc : Nat} (h : jn_is code N S) (hw : jw1 N S pc 145 = true) : decode code pc = .ok (.i2b, 1) := by
  obtain ⟨h1, h2⟩ := jw1_spec hw
  have h3 : Decoder.instr pc code pc = Except.ok (.i2b, pc + 1) := by
    unfold Decoder.instr
    exact (jbind (ju1 h h1 h2)).trans rfl
  rw [jdec h3, Nat.add_sub_cancel_left]
set_option maxRecDepth 20000 in
theorem jd_148 {code : ByteArray} {N S pc : Nat} (h : jn_is code N S) (hw : jw1 N S pc 148 = true) : decode code pc = .ok (.lcmp, 1) := by
  obtain ⟨h1, h2⟩ := jw1_spec hw
  have h3 : Decoder.instr pc code pc = Except.ok (.lcmp, pc + 1) := by
    unfold Decoder.instr
    exact (jbind (ju1 h h1 h2)).trans rfl
  rw [jdec h3, Nat.add_sub_cancel_left]
set_option maxRecDepth 20000 in
theorem jd_172 {code : ByteArray} {N S pc : Nat} (h : jn_is code N S) (hw : jw1 N S pc 172 = true) : decode code pc = .ok (.ireturn, 1) := by
  obtain ⟨h1, h2⟩ := jw1_spec hw
  have h3 : Decoder.instr pc code pc = Except.ok (.ireturn, pc + 1) := by
    unfold Decoder.instr
    exact (jbind (ju1 h h1 h2)).trans rfl
  rw [jdec h3, Nat.add_sub_cancel_left]
set_option maxRecDepth 20000 in
theorem jd_173 {code : ByteArray} {N S pc : Nat} (h : jn_is code N S) (hw : jw1 N S pc 173 = true) : decode code pc = .ok (.lreturn, 1) := by
  obtain ⟨h1, h2⟩ := jw1_spec hw
  have h3 : Decoder.instr pc code pc = Except.ok (.lreturn, pc + 1) := by
    unfold Decoder.instr
    exact (jbind (ju1 h h1 h2)).trans rfl
  rw [jdec h3, Nat.add_sub_cancel_left]
set_option maxRecDepth 20000 in
theorem jd_176 {code : ByteArray} {N S pc : Nat} (h : jn_is code N S) (hw : jw1 N S pc 176 = true) : decode code pc = .ok (.areturn, 1) := by
  obtain ⟨h1, h2⟩ := jw1_spec hw
  have h3 : Decoder.instr pc code pc = Except.ok (.areturn, pc + 1) := by
    unfold Decoder.instr
    exact (jbind (ju1 h h1 h2)).trans rfl
  rw [jdec h3, Nat.add_sub_cancel_left]
set_option maxRecDepth 20000 in
theorem jd_177 {code : ByteArray} {N S pc : Nat} (h : jn_is code N S) (hw : jw1 N S pc 177 = true) : decode code pc = .ok (.return_, 1) := by
  obtain ⟨h1, h2⟩ := jw1_spec hw
  have h3 : Decoder.instr pc code pc = Except.ok (.return_, pc + 1) := by
    unfold Decoder.instr
    exact (jbind (ju1 h h1 h2)).trans rfl
  rw [jdec h3, Nat.add_sub_cancel_left]
set_option maxRecDepth 20000 in
theorem jd_190 {code : ByteArray} {N S pc : Nat} (h : jn_is code N S) (hw : jw1 N S pc 190 = true) : decode code pc = .ok (.arraylength, 1) := by
  obtain ⟨h1, h2⟩ := jw1_spec hw
  have h3 : Decoder.instr pc code pc = Except.ok (.arraylength, pc + 1) := by
    unfold Decoder.instr
    exact (jbind (ju1 h h1 h2)).trans rfl
  rw [jdec h3, Nat.add_sub_cancel_left]
set_option maxRecDepth 20000 in
theorem jd_16 {code : ByteArray} {N S pc b : Nat} (h : jn_is code N S) (hw : jw2 N S pc 16 b = true) : decode code pc = .ok (.bipush (Reader.signed 8 b), 2) := by
  obtain ⟨h1, h2, h4⟩ := jw2_spec hw
  have h3 : Decoder.instr pc code pc = Except.ok (.bipush (Reader.signed 8 b), pc + 2) := by
    unfold Decoder.instr
    refine (jbind (ju1 h (by omega) h2)).trans ?_
    refine (jbind (js1 h (by omega) h4)).trans rfl
  rw [jdec h3, Nat.add_sub_cancel_left]
set_option maxRecDepth 20000 in
theorem jd_18 {code : ByteArray} {N S pc b : Nat} (h : jn_is code N S) (hw : jw2 N S pc 18 b = true) : decode code pc = .ok (.ldc b, 2) := by
  obtain ⟨h1, h2, h4⟩ := jw2_spec hw
  have h3 : Decoder.instr pc code pc = Except.ok (.ldc b, pc + 2) := by
    unfold Decoder.instr
    refine (jbind (ju1 h (by omega) h2)).trans ?_
    refine (jbind (ju1 h (by omega) h4)).trans rfl
  rw [jdec h3, Nat.add_sub_cancel_left]
set_option maxRecDepth 20000 in
theorem jd_21 {code : ByteArray} {N S pc b : Nat} (h : jn_is code N S) (hw : jw2 N S pc 21 b = true) : decode code pc = .ok (.iload b, 2) := by
  obtain ⟨h1, h2, h4⟩ := jw2_spec hw
  have h3 : Decoder.instr pc code pc = Except.ok (.iload b, pc + 2) := by
    unfold Decoder.instr
    refine (jbind (ju1 h (by omega) h2)).trans ?_
    refine (jbind (ju1 h (by omega) h4)).trans rfl
  rw [jdec h3, Nat.add_sub_cancel_left]
set_option maxRecDepth 20000 in
theorem jd_22 {code : ByteArray} {N S pc b : Nat} (h : jn_is code N S) (hw : jw2 N S pc 22 b = true) : decode code pc = .ok (.lload b, 2) := by
  obtain ⟨h1, h2, h4⟩ := jw2_spec hw
  have h3 : Decoder.instr pc code pc = Except.ok (.lload b, pc + 2) := by
    unfold Decoder.instr
    refine (jbind (ju1 h (by omega) h2)).trans ?_
    refine (jbind (ju1 h (by omega) h4)).trans rfl
  rw [jdec h3, Nat.add_sub_cancel_left]
set_option maxRecDepth 20000 in
theorem jd_25 {code : ByteArray} {N S pc b : Nat} (h : jn_is code N S) (hw : jw2 N S pc 25 b = true) : decode code pc = .ok (.aload b, 2) := by
  obtain ⟨h1, h2, h4⟩ := jw2_spec hw
  have h3 : Decoder.instr pc code pc = Except.ok (.aload b, pc + 2) := by
    unfold Decoder.instr
    refine (jbind (ju1 h (by omega) h2)).trans ?_
    refine (jbind (ju1 h (by omega) h4)).trans rfl
  rw [jdec h3, Nat.add_sub_cancel_left]
set_option maxRecDepth 20000 in
theorem jd_54 {code : ByteArray} {N S pc b : Nat} (h : jn_is code N S) (hw : jw2 N S pc 54 b = true) : decode code pc = .ok (.istore b, 2) := by
  obtain ⟨h1, h2, h4⟩ := jw2_spec hw
  have h3 : Decoder.instr pc code pc = Except.ok (.istore b, pc + 2) := by
    unfold Decoder.instr
    refine (jbind (ju1 h (by omega) h2)).trans ?_
    refine (jbind (ju1 h (by omega) h4)).trans rfl
  rw [jdec h3, Nat.add_sub_cancel_left]
set_option maxRecDepth 20000 in
theorem jd_55 {code : ByteArray} {N S pc b : Nat} (h : jn_is code N S) (hw : jw2 N S pc 55 b = true) : decode code pc = .ok (.lstore b, 2) := by
  obtain ⟨h1, h2, h4⟩ := jw2_spec hw
  have h3 : Decoder.instr pc code pc = Except.ok (.lstore b, pc + 2) := by
    unfold Decoder.instr
    refine (jbind (ju1 h (by omega) h2)).trans ?_
    refine (jbind (ju1 h (by omega) h4)).trans rfl
  rw [jdec h3, Nat.add_sub_cancel_left]
set_option maxRecDepth 20000 in
theorem jd_58 {code : ByteArray} {N S pc b : Nat} (h : jn_is code N S) (hw : jw2 N S pc 58 b = true) : decode code pc = .ok (.astore b, 2) := by
  obtain ⟨h1, h2, h4⟩ := jw2_spec hw
  have h3 : Decoder.instr pc code pc = Except.ok (.astore b, pc + 2) := by
    unfold Decoder.instr
    refine (jbind (ju1 h (by omega) h2)).trans ?_
    refine (jbind (ju1 h (by omega) h4)).trans rfl
  rw [jdec h3, Nat.add_sub_cancel_left]
set_option maxRecDepth 20000 in
theorem jd_188_4 {code : ByteArray} {N S pc : Nat} (h : jn_is code N S) (hw : jw2 N S pc 188 4 = true) : decode code pc = .ok (.newarray .boolean, 2) := by
  obtain ⟨h1, h2, h4⟩ := jw2_spec hw
  have h3 : Decoder.instr pc code pc = Except.ok (.newarray .boolean, pc + 2) := by
    unfold Decoder.instr
    refine (jbind (ju1 h (by omega) h2)).trans ?_
    show Decoder.newarray pc code (pc + 1) = _
    unfold Decoder.newarray
    refine (jbind (ju1 h (by omega) h4)).trans rfl
  rw [jdec h3, Nat.add_sub_cancel_left]
set_option maxRecDepth 20000 in
theorem jd_188_8 {code : ByteArray} {N S pc : Nat} (h : jn_is code N S) (hw : jw2 N S pc 188 8 = true) : decode code pc = .ok (.newarray .byte, 2) := by
  obtain ⟨h1, h2, h4⟩ := jw2_spec hw
  have h3 : Decoder.instr pc code pc = Except.ok (.newarray .byte, pc + 2) := by
    unfold Decoder.instr
    refine (jbind (ju1 h (by omega) h2)).trans ?_
    show Decoder.newarray pc code (pc + 1) = _
    unfold Decoder.newarray
    refine (jbind (ju1 h (by omega) h4)).trans rfl
  rw [jdec h3, Nat.add_sub_cancel_left]
set_option maxRecDepth 20000 in
theorem jd_188_10 {code : ByteArray} {N S pc : Nat} (h : jn_is code N S) (hw : jw2 N S pc 188 10 = true) : decode code pc = .ok (.newarray .int, 2) := by
  obtain ⟨h1, h2, h4⟩ := jw2_spec hw
  have h3 : Decoder.instr pc code pc = Except.ok (.newarray .int, pc + 2) := by
    unfold Decoder.instr
    refine (jbind (ju1 h (by omega) h2)).trans ?_
    show Decoder.newarray pc code (pc + 1) = _
    unfold Decoder.newarray
    refine (jbind (ju1 h (by omega) h4)).trans rfl
  rw [jdec h3, Nat.add_sub_cancel_left]
set_option maxRecDepth 20000 in
theorem jd_188_11 {code : ByteArray} {N S pc : Nat} (h : jn_is code N S) (hw : jw2 N S pc 188 11 = true) : decode code pc = .ok (.newarray .long, 2) := by
  obtain ⟨h1, h2, h4⟩ := jw2_spec hw
  have h3 : Decoder.instr pc code pc = Except.ok (.newarray .long, pc + 2) := by
    unfold Decoder.instr
    refine (jbind (ju1 h (by omega) h2)).trans ?_
    show Decoder.newarray pc code (pc + 1) = _
    unfold Decoder.newarray
    refine (jbind (ju1 h (by omega) h4)).trans rfl
  rw [jdec h3, Nat.add_sub_cancel_left]
set_option maxRecDepth 20000 in
theorem jd_17 {code : ByteArray} {N S pc b d : Nat} (h : jn_is code N S) (hw : jw3 N S pc 17 b d = true) : decode code pc = .ok (.sipush (Reader.signed 16 (b * 256 + d)), 3) := by
  obtain ⟨h1, h2, h4, h5⟩ := jw3_spec hw
  have h3 : Decoder.instr pc code pc = Except.ok (.sipush (Reader.signed 16 (b * 256 + d)), pc + 3) := by
    unfold Decoder.instr
    refine (jbind (ju1 h (by omega) h2)).trans ?_
    refine (jbind (js2 h (by omega) h4 h5)).trans rfl
  rw [jdec h3, Nat.add_sub_cancel_left]
set_option maxRecDepth 20000 in
theorem jd_19 {code : ByteArray} {N S pc b d : Nat} (h : jn_is code N S) (hw : jw3 N S pc 19 b d = true) : decode code pc = .ok (.ldc_w (b * 256 + d), 3) := by
  obtain ⟨h1, h2, h4, h5⟩ := jw3_spec hw
  have h3 : Decoder.instr pc code pc = Except.ok (.ldc_w (b * 256 + d), pc + 3) := by
    unfold Decoder.instr
    refine (jbind (ju1 h (by omega) h2)).trans ?_
    refine (jbind (ju2 h (by omega) h4 h5)).trans rfl
  rw [jdec h3, Nat.add_sub_cancel_left]
set_option maxRecDepth 20000 in
theorem jd_20 {code : ByteArray} {N S pc b d : Nat} (h : jn_is code N S) (hw : jw3 N S pc 20 b d = true) : decode code pc = .ok (.ldc2_w (b * 256 + d), 3) := by
  obtain ⟨h1, h2, h4, h5⟩ := jw3_spec hw
  have h3 : Decoder.instr pc code pc = Except.ok (.ldc2_w (b * 256 + d), pc + 3) := by
    unfold Decoder.instr
    refine (jbind (ju1 h (by omega) h2)).trans ?_
    refine (jbind (ju2 h (by omega) h4 h5)).trans rfl
  rw [jdec h3, Nat.add_sub_cancel_left]
set_option maxRecDepth 20000 in
theorem jd_153 {code : ByteArray} {N S pc b d : Nat} (h : jn_is code N S) (hw : jw3 N S pc 153 b d = true) : decode code pc = .ok (.ifCond .eq (Reader.signed 16 (b * 256 + d)), 3) := by
  obtain ⟨h1, h2, h4, h5⟩ := jw3_spec hw
  have h3 : Decoder.instr pc code pc = Except.ok (.ifCond .eq (Reader.signed 16 (b * 256 + d)), pc + 3) := by
    unfold Decoder.instr
    refine (jbind (ju1 h (by omega) h2)).trans ?_
    refine (jbind (js2 h (by omega) h4 h5)).trans rfl
  rw [jdec h3, Nat.add_sub_cancel_left]
set_option maxRecDepth 20000 in
theorem jd_159 {code : ByteArray} {N S pc b d : Nat} (h : jn_is code N S) (hw : jw3 N S pc 159 b d = true) : decode code pc = .ok (.if_icmp .eq (Reader.signed 16 (b * 256 + d)), 3) := by
  obtain ⟨h1, h2, h4, h5⟩ := jw3_spec hw
  have h3 : Decoder.instr pc code pc = Except.ok (.if_icmp .eq (Reader.signed 16 (b * 256 + d)), pc + 3) := by
    unfold Decoder.instr
    refine (jbind (ju1 h (by omega) h2)).trans ?_
    refine (jbind (js2 h (by omega) h4 h5)).trans rfl
  rw [jdec h3, Nat.add_sub_cancel_left]
set_option maxRecDepth 20000 in
theorem jd_154 {code : ByteArray} {N S pc b d : Nat} (h : jn_is code N S) (hw : jw3 N S pc 154 b d = true) : decode code pc = .ok (.ifCond .ne (Reader.signed 16 (b * 256 + d)), 3) := by
  obtain ⟨h1, h2, h4, h5⟩ := jw3_spec hw
  have h3 : Decoder.instr pc code pc = Except.ok (.ifCond .ne (Reader.signed 16 (b * 256 + d)), pc + 3) := by
    unfold Decoder.instr
    refine (jbind (ju1 h (by omega) h2)).trans ?_
    refine (jbind (js2 h (by omega) h4 h5)).trans rfl
  rw [jdec h3, Nat.add_sub_cancel_left]
set_option maxRecDepth 20000 in
theorem jd_160 {code : ByteArray} {N S pc b d : Nat} (h : jn_is code N S) (hw : jw3 N S pc 160 b d = true) : decode code pc = .ok (.if_icmp .ne (Reader.signed 16 (b * 256 + d)), 3) := by
  obtain ⟨h1, h2, h4, h5⟩ := jw3_spec hw
  have h3 : Decoder.instr pc code pc = Except.ok (.if_icmp .ne (Reader.signed 16 (b * 256 + d)), pc + 3) := by
    unfold Decoder.instr
    refine (jbind (ju1 h (by omega) h2)).trans ?_
    refine (jbind (js2 h (by omega) h4 h5)).trans rfl
  rw [jdec h3, Nat.add_sub_cancel_left]
set_option maxRecDepth 20000 in
theorem jd_155 {code : ByteArray} {N S pc b d : Nat} (h : jn_is code N S) (hw : jw3 N S pc 155 b d = true) : decode code pc = .ok (.ifCond .lt (Reader.signed 16 (b * 256 + d)), 3) := by
  obtain ⟨h1, h2, h4, h5⟩ := jw3_spec hw
  have h3 : Decoder.instr pc code pc = Except.ok (.ifCond .lt (Reader.signed 16 (b * 256 + d)), pc + 3) := by
    unfold Decoder.instr
    refine (jbind (ju1 h (by omega) h2)).trans ?_
    refine (jbind (js2 h (by omega) h4 h5)).trans rfl
  rw [jdec h3, Nat.add_sub_cancel_left]
set_option maxRecDepth 20000 in
theorem jd_161 {code : ByteArray} {N S pc b d : Nat} (h : jn_is code N S) (hw : jw3 N S pc 161 b d = true) : decode code pc = .ok (.if_icmp .lt (Reader.signed 16 (b * 256 + d)), 3) := by
  obtain ⟨h1, h2, h4, h5⟩ := jw3_spec hw
  have h3 : Decoder.instr pc code pc = Except.ok (.if_icmp .lt (Reader.signed 16 (b * 256 + d)), pc + 3) := by
    unfold Decoder.instr
    refine (jbind (ju1 h (by omega) h2)).trans ?_
    refine (jbind (js2 h (by omega) h4 h5)).trans rfl
  rw [jdec h3, Nat.add_sub_cancel_left]
set_option maxRecDepth 20000 in
theorem jd_156 {code : ByteArray} {N S pc b d : Nat} (h : jn_is code N S) (hw : jw3 N S pc 156 b d = true) : decode code pc = .ok (.ifCond .ge (Reader.signed 16 (b * 256 + d)), 3) := by
  obtain ⟨h1, h2, h4, h5⟩ := jw3_spec hw
  have h3 : Decoder.instr pc code pc = Except.ok (.ifCond .ge (Reader.signed 16 (b * 256 + d)), pc + 3) := by
    unfold Decoder.instr
    refine (jbind (ju1 h (by omega) h2)).trans ?_
    refine (jbind (js2 h (by omega) h4 h5)).trans rfl
  rw [jdec h3, Nat.add_sub_cancel_left]
set_option maxRecDepth 20000 in
theorem jd_162 {code : ByteArray} {N S pc b d : Nat} (h : jn_is code N S) (hw : jw3 N S pc 162 b d = true) : decode code pc = .ok (.if_icmp .ge (Reader.signed 16 (b * 256 + d)), 3) := by
  obtain ⟨h1, h2, h4, h5⟩ := jw3_spec hw
  have h3 : Decoder.instr pc code pc = Except.ok (.if_icmp .ge (Reader.signed 16 (b * 256 + d)), pc + 3) := by
    unfold Decoder.instr
    refine (jbind (ju1 h (by omega) h2)).trans ?_
    refine (jbind (js2 h (by omega) h4 h5)).trans rfl
  rw [jdec h3, Nat.add_sub_cancel_left]
set_option maxRecDepth 20000 in
theorem jd_157 {code : ByteArray} {N S pc b d : Nat} (h : jn_is code N S) (hw : jw3 N S pc 157 b d = true) : decode code pc = .ok (.ifCond .gt (Reader.signed 16 (b * 256 + d)), 3) := by
  obtain ⟨h1, h2, h4, h5⟩ := jw3_spec hw
  have h3 : Decoder.instr pc code pc = Except.ok (.ifCond .gt (Reader.signed 16 (b * 256 + d)), pc + 3) := by
    unfold Decoder.instr
    refine (jbind (ju1 h (by omega) h2)).trans ?_
    refine (jbind (js2 h (by omega) h4 h5)).trans rfl
  rw [jdec h3, Nat.add_sub_cancel_left]
set_option maxRecDepth 20000 in
theorem jd_163 {code : ByteArray} {N S pc b d : Nat} (h : jn_is code N S) (hw : jw3 N S pc 163 b d = true) : decode code pc = .ok (.if_icmp .gt (Reader.signed 16 (b * 256 + d)), 3) := by
  obtain ⟨h1, h2, h4, h5⟩ := jw3_spec hw
  have h3 : Decoder.instr pc code pc = Except.ok (.if_icmp .gt (Reader.signed 16 (b * 256 + d)), pc + 3) := by
    unfold Decoder.instr
    refine (jbind (ju1 h (by omega) h2)).trans ?_
    refine (jbind (js2 h (by omega) h4 h5)).trans rfl
  rw [jdec h3, Nat.add_sub_cancel_left]
set_option maxRecDepth 20000 in
theorem jd_158 {code : ByteArray} {N S pc b d : Nat} (h : jn_is code N S) (hw : jw3 N S pc 158 b d = true) : decode code pc = .ok (.ifCond .le (Reader.signed 16 (b * 256 + d)), 3) := by
  obtain ⟨h1, h2, h4, h5⟩ := jw3_spec hw
  have h3 : Decoder.instr pc code pc = Except.ok (.ifCond .le (Reader.signed 16 (b * 256 + d)), pc + 3) := by
    unfold Decoder.instr
    refine (jbind (ju1 h (by omega) h2)).trans ?_
    refine (jbind (js2 h (by omega) h4 h5)).trans rfl
  rw [jdec h3, Nat.add_sub_cancel_left]
set_option maxRecDepth 20000 in
theorem jd_164 {code : ByteArray} {N S pc b d : Nat} (h : jn_is code N S) (hw : jw3 N S pc 164 b d = true) : decode code pc = .ok (.if_icmp .le (Reader.signed 16 (b * 256 + d)), 3) := by
  obtain ⟨h1, h2, h4, h5⟩ := jw3_spec hw
  have h3 : Decoder.instr pc code pc = Except.ok (.if_icmp .le (Reader.signed 16 (b * 256 + d)), pc + 3) := by
    unfold Decoder.instr
    refine (jbind (ju1 h (by omega) h2)).trans ?_
    refine (jbind (js2 h (by omega) h4 h5)).trans rfl
  rw [jdec h3, Nat.add_sub_cancel_left]
set_option maxRecDepth 20000 in
theorem jd_165 {code : ByteArray} {N S pc b d : Nat} (h : jn_is code N S) (hw : jw3 N S pc 165 b d = true) : decode code pc = .ok (.if_acmp .eq (Reader.signed 16 (b * 256 + d)), 3) := by
  obtain ⟨h1, h2, h4, h5⟩ := jw3_spec hw
  have h3 : Decoder.instr pc code pc = Except.ok (.if_acmp .eq (Reader.signed 16 (b * 256 + d)), pc + 3) := by
    unfold Decoder.instr
    refine (jbind (ju1 h (by omega) h2)).trans ?_
    refine (jbind (js2 h (by omega) h4 h5)).trans rfl
  rw [jdec h3, Nat.add_sub_cancel_left]
set_option maxRecDepth 20000 in
theorem jd_166 {code : ByteArray} {N S pc b d : Nat} (h : jn_is code N S) (hw : jw3 N S pc 166 b d = true) : decode code pc = .ok (.if_acmp .ne (Reader.signed 16 (b * 256 + d)), 3) := by
  obtain ⟨h1, h2, h4, h5⟩ := jw3_spec hw
  have h3 : Decoder.instr pc code pc = Except.ok (.if_acmp .ne (Reader.signed 16 (b * 256 + d)), pc + 3) := by
    unfold Decoder.instr
    refine (jbind (ju1 h (by omega) h2)).trans ?_
    refine (jbind (js2 h (by omega) h4 h5)).trans rfl
  rw [jdec h3, Nat.add_sub_cancel_left]
set_option maxRecDepth 20000 in
theorem jd_167 {code : ByteArray} {N S pc b d : Nat} (h : jn_is code N S) (hw : jw3 N S pc 167 b d = true) : decode code pc = .ok (.goto (Reader.signed 16 (b * 256 + d)), 3) := by
  obtain ⟨h1, h2, h4, h5⟩ := jw3_spec hw
  have h3 : Decoder.instr pc code pc = Except.ok (.goto (Reader.signed 16 (b * 256 + d)), pc + 3) := by
    unfold Decoder.instr
    refine (jbind (ju1 h (by omega) h2)).trans ?_
    refine (jbind (js2 h (by omega) h4 h5)).trans rfl
  rw [jdec h3, Nat.add_sub_cancel_left]
set_option maxRecDepth 20000 in
theorem jd_178 {code : ByteArray} {N S pc b d : Nat} (h : jn_is code N S) (hw : jw3 N S pc 178 b d = true) : decode code pc = .ok (.getstatic (b * 256 + d), 3) := by
  obtain ⟨h1, h2, h4, h5⟩ := jw3_spec hw
  have h3 : Decoder.instr pc code pc = Except.ok (.getstatic (b * 256 + d), pc + 3) := by
    unfold Decoder.instr
    refine (jbind (ju1 h (by omega) h2)).trans ?_
    refine (jbind (ju2 h (by omega) h4 h5)).trans rfl
  rw [jdec h3, Nat.add_sub_cancel_left]
set_option maxRecDepth 20000 in
theorem jd_180 {code : ByteArray} {N S pc b d : Nat} (h : jn_is code N S) (hw : jw3 N S pc 180 b d = true) : decode code pc = .ok (.getfield (b * 256 + d), 3) := by
  obtain ⟨h1, h2, h4, h5⟩ := jw3_spec hw
  have h3 : Decoder.instr pc code pc = Except.ok (.getfield (b * 256 + d), pc + 3) := by
    unfold Decoder.instr
    refine (jbind (ju1 h (by omega) h2)).trans ?_
    refine (jbind (ju2 h (by omega) h4 h5)).trans rfl
  rw [jdec h3, Nat.add_sub_cancel_left]
set_option maxRecDepth 20000 in
theorem jd_181 {code : ByteArray} {N S pc b d : Nat} (h : jn_is code N S) (hw : jw3 N S pc 181 b d = true) : decode code pc = .ok (.putfield (b * 256 + d), 3) := by
  obtain ⟨h1, h2, h4, h5⟩ := jw3_spec hw
  have h3 : Decoder.instr pc code pc = Except.ok (.putfield (b * 256 + d), pc + 3) := by
    unfold Decoder.instr
    refine (jbind (ju1 h (by omega) h2)).trans ?_
    refine (jbind (ju2 h (by omega) h4 h5)).trans rfl
  rw [jdec h3, Nat.add_sub_cancel_left]
set_option maxRecDepth 20000 in
theorem jd_182 {code : ByteArray} {N S pc b d : Nat} (h : jn_is code N S) (hw : jw3 N S pc 182 b d = true) : decode code pc = .ok (.invokevirtual (b * 256 + d), 3) := by
  obtain ⟨h1, h2, h4, h5⟩ := jw3_spec hw
  have h3 : Decoder.instr pc code pc = Except.ok (.invokevirtual (b * 256 + d), pc + 3) := by
    unfold Decoder.instr
    refine (jbind (ju1 h (by omega) h2)).trans ?_
    refine (jbind (ju2 h (by omega) h4 h5)).trans rfl
  rw [jdec h3, Nat.add_sub_cancel_left]
set_option maxRecDepth 20000 in
theorem jd_183 {code : ByteArray} {N S pc b d : Nat} (h : jn_is code N S) (hw : jw3 N S pc 183 b d = true) : decode code pc = .ok (.invokespecial (b * 256 + d), 3) := by
  obtain ⟨h1, h2, h4, h5⟩ := jw3_spec hw
  have h3 : Decoder.instr pc code pc = Except.ok (.invokespecial (b * 256 + d), pc + 3) := by
    unfold Decoder.instr
    refine (jbind (ju1 h (by omega) h2)).trans ?_
    refine (jbind (ju2 h (by omega) h4 h5)).trans rfl
  rw [jdec h3, Nat.add_sub_cancel_left]
set_option maxRecDepth 20000 in
theorem jd_184 {code : ByteArray} {N S pc b d : Nat} (h : jn_is code N S) (hw : jw3 N S pc 184 b d = true) : decode code pc = .ok (.invokestatic (b * 256 + d), 3) := by
  obtain ⟨h1, h2, h4, h5⟩ := jw3_spec hw
  have h3 : Decoder.instr pc code pc = Except.ok (.invokestatic (b * 256 + d), pc + 3) := by
    unfold Decoder.instr
    refine (jbind (ju1 h (by omega) h2)).trans ?_
    refine (jbind (ju2 h (by omega) h4 h5)).trans rfl
  rw [jdec h3, Nat.add_sub_cancel_left]
set_option maxRecDepth 20000 in
theorem jd_187 {code : ByteArray} {N S pc b d : Nat} (h : jn_is code N S) (hw : jw3 N S pc 187 b d = true) : decode code pc = .ok (.new (b * 256 + d), 3) := by
  obtain ⟨h1, h2, h4, h5⟩ := jw3_spec hw
  have h3 : Decoder.instr pc code pc = Except.ok (.new (b * 256 + d), pc + 3) := by
    unfold Decoder.instr
    refine (jbind (ju1 h (by omega) h2)).trans ?_
    refine (jbind (ju2 h (by omega) h4 h5)).trans rfl
  rw [jdec h3, Nat.add_sub_cancel_left]
set_option maxRecDepth 20000 in
theorem jd_189 {code : ByteArray} {N S pc b d : Nat} (h : jn_is code N S) (hw : jw3 N S pc 189 b d = true) : decode code pc = .ok (.anewarray (b * 256 + d), 3) := by
  obtain ⟨h1, h2, h4, h5⟩ := jw3_spec hw
  have h3 : Decoder.instr pc code pc = Except.ok (.anewarray (b * 256 + d), pc + 3) := by
    unfold Decoder.instr
    refine (jbind (ju1 h (by omega) h2)).trans ?_
    refine (jbind (ju2 h (by omega) h4 h5)).trans rfl
  rw [jdec h3, Nat.add_sub_cancel_left]
set_option maxRecDepth 20000 in
theorem jd_192 {code : ByteArray} {N S pc b d : Nat} (h : jn_is code N S) (hw : jw3 N S pc 192 b d = true) : decode code pc = .ok (.checkcast (b * 256 + d), 3) := by
  obtain ⟨h1, h2, h4, h5⟩ := jw3_spec hw
  have h3 : Decoder.instr pc code pc = Except.ok (.checkcast (b * 256 + d), pc + 3) := by
    unfold Decoder.instr
    refine (jbind (ju1 h (by omega) h2)).trans ?_
    refine (jbind (ju2 h (by omega) h4 h5)).trans rfl
  rw [jdec h3, Nat.add_sub_cancel_left]
set_option maxRecDepth 20000 in
theorem jd_198 {code : ByteArray} {N S pc b d : Nat} (h : jn_is code N S) (hw : jw3 N S pc 198 b d = true) : decode code pc = .ok (.ifnull (Reader.signed 16 (b * 256 + d)), 3) := by
  obtain ⟨h1, h2, h4, h5⟩ := jw3_spec hw
  have h3 : Decoder.instr pc code pc = Except.ok (.ifnull (Reader.signed 16 (b * 256 + d)), pc + 3) := by
    unfold Decoder.instr
    refine (jbind (ju1 h (by omega) h2)).trans ?_
    refine (jbind (js2 h (by omega) h4 h5)).trans rfl
  rw [jdec h3, Nat.add_sub_cancel_left]
set_option maxRecDepth 20000 in
theorem jd_199 {code : ByteArray} {N S pc b d : Nat} (h : jn_is code N S) (hw : jw3 N S pc 199 b d = true) : decode code pc = .ok (.ifnonnull (Reader.signed 16 (b * 256 + d)), 3) := by
  obtain ⟨h1, h2, h4, h5⟩ := jw3_spec hw
  have h3 : Decoder.instr pc code pc = Except.ok (.ifnonnull (Reader.signed 16 (b * 256 + d)), pc + 3) := by
    unfold Decoder.instr
    refine (jbind (ju1 h (by omega) h2)).trans ?_
    refine (jbind (js2 h (by omega) h4 h5)).trans rfl
  rw [jdec h3, Nat.add_sub_cancel_left]
set_option maxRecDepth 20000 in
theorem jd_132 {code : ByteArray} {N S pc b d : Nat} (h : jn_is code N S) (hw : jw3 N S pc 132 b d = true) : decode code pc = .ok (.iinc b (Reader.signed 8 d), 3) := by
  obtain ⟨h1, h2, h4, h5⟩ := jw3_spec hw
  have h3 : Decoder.instr pc code pc = Except.ok (.iinc b (Reader.signed 8 d), pc + 3) := by
    unfold Decoder.instr
    refine (jbind (ju1 h (by omega) h2)).trans ?_
    refine (jbind (ju1 h (by omega) h4)).trans ?_
    refine (jbind (js1 h (by omega) h5)).trans rfl
  rw [jdec h3, Nat.add_sub_cancel_left]
def jt (pc b d tgt : Nat) : Bool := if Nat.blt (b * 256 + d) 32768 then Nat.beq (pc + (b * 256 + d)) tgt else Nat.beq (pc + (b * 256 + d)) (tgt + 65536)
theorem jt_spec {pc b d tgt : Nat} (h : jt pc b d tgt = true) : (pc : Int) + Reader.signed 16 (b * 256 + d) = (tgt : Int) := by
  unfold jt at h
  unfold Reader.signed
  generalize b * 256 + d = x at *
  split at h
  · rename_i h1
    rw [Nat.blt_eq] at h1
    rw [Nat.beq_eq] at h
    rw [if_pos (by simpa using h1)]
    omega
  · rename_i h1
    rw [Nat.blt_eq] at h1
    rw [Nat.beq_eq] at h
    rw [if_neg (by simpa using h1)]
    omega
end
section
/-! The classes: their fields in order; numbers 0 .. 18. -/
def jT0 : u_T := fun k => match k with
  | 0 => ("CoinNode$Block", "row", "[B", true)
  | 1 => ("CoinNode$Block", "name", "[B", true)
  | 2 => ("CoinNode$Block", "bits", "I", true)
  | 3 => ("CoinNode$Block", "time", "J", true)
  | 4 => ("CoinNode$Block", "txs", "[LCoinNode$Tx;", false)
  | 5 => ("CoinNode$Block", "parent", "LCoinNode$Block;", false)
  | 6 => ("CoinNode$Block", "height", "I", false)
  | 7 => ("CoinNode$Block", "bad", "Z", false)
  | _ => ("CoinNode$Block", "work", "[I", true)
def jY0 : Nat → FieldType := fun k => match k with
  | 0 => .array .byte
  | 1 => .array .byte
  | 2 => .int
  | 3 => .long
  | 4 => .array (.object "CoinNode$Tx")
  | 5 => .object "CoinNode$Block"
  | 6 => .int
  | 7 => .boolean
  | _ => .array .int
theorem jY0_ok : ∀ k, k < 9 → parseFieldDescriptor (jT0 k).2.2.1 = some (jY0 k) := by decide +kernel
theorem jN0_ok : ∀ a, a < 9 → ∀ b, b < 9 → a ≠ b → (jT0 a).2.1 ≠ (jT0 b).2.1 := by decide +kernel
def jT1 : u_T := fun k => match k with
  | 0 => ("CoinNode$Chain", "hash", "LCoinNode$Hash;", true)
  | 1 => ("CoinNode$Chain", "coins", "LCoinNode$Coins;", true)
  | 2 => ("CoinNode$Chain", "scripts", "LCoinNode$Scripts;", true)
  | 3 => ("CoinNode$Chain", "known", "[LCoinNode$Block;", true)
  | 4 => ("CoinNode$Chain", "many", "I", false)
  | 5 => ("CoinNode$Chain", "bad", "I", false)
  | 6 => ("CoinNode$Chain", "tip", "LCoinNode$Block;", false)
  | 7 => ("CoinNode$Chain", "line", "[LCoinNode$Block;", true)
  | 8 => ("CoinNode$Chain", "way", "[LCoinNode$Block;", true)
  | 9 => ("CoinNode$Chain", "left", "[LCoinNode$Block;", true)
  | 10 => ("CoinNode$Chain", "leftMany", "I", false)
  | 11 => ("CoinNode$Chain", "target", "[I", true)
  | 12 => ("CoinNode$Chain", "limit", "[I", true)
  | 13 => ("CoinNode$Chain", "rest", "[I", true)
  | 14 => ("CoinNode$Chain", "times", "[J", true)
  | 15 => ("CoinNode$Chain", "names", "[B", true)
  | _ => ("CoinNode$Chain", "name", "[B", true)
def jY1 : Nat → FieldType := fun k => match k with
  | 0 => .object "CoinNode$Hash"
  | 1 => .object "CoinNode$Coins"
  | 2 => .object "CoinNode$Scripts"
  | 3 => .array (.object "CoinNode$Block")
  | 4 => .int
  | 5 => .int
  | 6 => .object "CoinNode$Block"
  | 7 => .array (.object "CoinNode$Block")
  | 8 => .array (.object "CoinNode$Block")
  | 9 => .array (.object "CoinNode$Block")
  | 10 => .int
  | 11 => .array .int
  | 12 => .array .int
  | 13 => .array .int
  | 14 => .array .long
  | 15 => .array .byte
  | _ => .array .byte
theorem jY1_ok : ∀ k, k < 17 → parseFieldDescriptor (jT1 k).2.2.1 = some (jY1 k) := by decide +kernel
theorem jN1_ok : ∀ a, a < 17 → ∀ b, b < 17 → a ≠ b → (jT1 a).2.1 ≠ (jT1 b).2.1 := by decide +kernel
def jT2 : u_T := fun k => match k with
  | 0 => ("CoinNode$Coins", "makers", "[LCoinNode$Tx;", true)
  | 1 => ("CoinNode$Coins", "numbers", "[I", true)
  | 2 => ("CoinNode$Coins", "heights", "[I", true)
  | 3 => ("CoinNode$Coins", "many", "I", false)
  | 4 => ("CoinNode$Coins", "spent", "I", false)
  | 5 => ("CoinNode$Coins", "sum", "J", false)
  | 6 => ("CoinNode$Coins", "takenMakers", "[LCoinNode$Tx;", true)
  | 7 => ("CoinNode$Coins", "takenNumbers", "[I", true)
  | _ => ("CoinNode$Coins", "takenSum", "J", false)
def jY2 : Nat → FieldType := fun k => match k with
  | 0 => .array (.object "CoinNode$Tx")
  | 1 => .array .int
  | 2 => .array .int
  | 3 => .int
  | 4 => .int
  | 5 => .long
  | 6 => .array (.object "CoinNode$Tx")
  | 7 => .array .int
  | _ => .long
theorem jY2_ok : ∀ k, k < 9 → parseFieldDescriptor (jT2 k).2.2.1 = some (jY2 k) := by decide +kernel
theorem jN2_ok : ∀ a, a < 9 → ∀ b, b < 9 → a ≠ b → (jT2 a).2.1 ≠ (jT2 b).2.1 := by decide +kernel
def jT3 : u_T := fun k => match k with
  | 0 => ("CoinNode$Hash", "ready", "[B", true)
  | 1 => ("CoinNode$Hash", "readySize", "I", false)
  | 2 => ("CoinNode$Hash", "state", "[I", true)
  | 3 => ("CoinNode$Hash", "words", "[I", true)
  | 4 => ("CoinNode$Hash", "line", "[I", true)
  | _ => ("CoinNode$Hash", "between", "[B", true)
def jY3 : Nat → FieldType := fun k => match k with
  | 0 => .array .byte
  | 1 => .int
  | 2 => .array .int
  | 3 => .array .int
  | 4 => .array .int
  | _ => .array .byte
theorem jY3_ok : ∀ k, k < 6 → parseFieldDescriptor (jT3 k).2.2.1 = some (jY3 k) := by decide +kernel
theorem jN3_ok : ∀ a, a < 6 → ∀ b, b < 6 → a ≠ b → (jT3 a).2.1 ≠ (jT3 b).2.1 := by decide +kernel
def jT4 : u_T := fun k => match k with
  | 0 => ("CoinNode$Machine", "hash", "LCoinNode$Hash;", true)
  | 1 => ("CoinNode$Machine", "stack", "LCoinNode$Stack;", true)
  | 2 => ("CoinNode$Machine", "side", "LCoinNode$Stack;", true)
  | 3 => ("CoinNode$Machine", "spare", "LCoinNode$Stack;", true)
  | 4 => ("CoinNode$Machine", "made", "[B", true)
  | 5 => ("CoinNode$Machine", "script", "[B", false)
  | 6 => ("CoinNode$Machine", "at", "I", false)
  | 7 => ("CoinNode$Machine", "end", "I", false)
  | 8 => ("CoinNode$Machine", "isLast", "Z", false)
  | 9 => ("CoinNode$Machine", "status", "I", false)
  | 10 => ("CoinNode$Machine", "operations", "I", false)
  | 11 => ("CoinNode$Machine", "parts", "[Z", true)
  | 12 => ("CoinNode$Machine", "depth", "I", false)
  | 13 => ("CoinNode$Machine", "closed", "I", false)
  | 14 => ("CoinNode$Machine", "signatures", "I", false)
  | 15 => ("CoinNode$Machine", "signatureAt", "I", false)
  | 16 => ("CoinNode$Machine", "keys", "I", false)
  | 17 => ("CoinNode$Machine", "keyAt", "I", false)
  | 18 => ("CoinNode$Machine", "operands", "I", false)
  | _ => ("CoinNode$Machine", "mustFit", "Z", false)
def jY4 : Nat → FieldType := fun k => match k with
  | 0 => .object "CoinNode$Hash"
  | 1 => .object "CoinNode$Stack"
  | 2 => .object "CoinNode$Stack"
  | 3 => .object "CoinNode$Stack"
  | 4 => .array .byte
  | 5 => .array .byte
  | 6 => .int
  | 7 => .int
  | 8 => .boolean
  | 9 => .int
  | 10 => .int
  | 11 => .array .boolean
  | 12 => .int
  | 13 => .int
  | 14 => .int
  | 15 => .int
  | 16 => .int
  | 17 => .int
  | 18 => .int
  | _ => .boolean
theorem jY4_ok : ∀ k, k < 20 → parseFieldDescriptor (jT4 k).2.2.1 = some (jY4 k) := by decide +kernel
theorem jN4_ok : ∀ a, a < 20 → ∀ b, b < 20 → a ≠ b → (jT4 a).2.1 ≠ (jT4 b).2.1 := by decide +kernel
def jT5 : u_T := fun k => match k with
  | 0 => ("CoinNode$Point", "x", "[J", true)
  | 1 => ("CoinNode$Point", "y", "[J", true)
  | 2 => ("CoinNode$Point", "z", "[J", true)
  | _ => ("CoinNode$Point", "isNone", "Z", false)
def jY5 : Nat → FieldType := fun k => match k with
  | 0 => .array .long
  | 1 => .array .long
  | 2 => .array .long
  | _ => .boolean
theorem jY5_ok : ∀ k, k < 4 → parseFieldDescriptor (jT5 k).2.2.1 = some (jY5 k) := by decide +kernel
theorem jN5_ok : ∀ a, a < 4 → ∀ b, b < 4 → a ≠ b → (jT5 a).2.1 ≠ (jT5 b).2.1 := by decide +kernel
def jT6 : u_T := fun k => match k with
  | 0 => ("CoinNode$Pool", "coins", "LCoinNode$Coins;", true)
  | 1 => ("CoinNode$Pool", "scripts", "LCoinNode$Scripts;", true)
  | 2 => ("CoinNode$Pool", "txs", "[LCoinNode$Tx;", true)
  | 3 => ("CoinNode$Pool", "gains", "[J", true)
  | 4 => ("CoinNode$Pool", "many", "I", false)
  | 5 => ("CoinNode$Pool", "before", "[LCoinNode$Tx;", true)
  | 6 => ("CoinNode$Pool", "kin", "[Z", true)
  | 7 => ("CoinNode$Pool", "takenMakers", "[LCoinNode$Tx;", true)
  | 8 => ("CoinNode$Pool", "takenNumbers", "[I", true)
  | _ => ("CoinNode$Pool", "takenSum", "J", false)
def jY6 : Nat → FieldType := fun k => match k with
  | 0 => .object "CoinNode$Coins"
  | 1 => .object "CoinNode$Scripts"
  | 2 => .array (.object "CoinNode$Tx")
  | 3 => .array .long
  | 4 => .int
  | 5 => .array (.object "CoinNode$Tx")
  | 6 => .array .boolean
  | 7 => .array (.object "CoinNode$Tx")
  | 8 => .array .int
  | _ => .long
theorem jY6_ok : ∀ k, k < 10 → parseFieldDescriptor (jT6 k).2.2.1 = some (jY6 k) := by decide +kernel
theorem jN6_ok : ∀ a, a < 10 → ∀ b, b < 10 → a ≠ b → (jT6 a).2.1 ≠ (jT6 b).2.1 := by decide +kernel
def jT7 : u_T := fun k => match k with
  | 0 => ("CoinNode$Scripts", "hash", "LCoinNode$Hash;", true)
  | 1 => ("CoinNode$Scripts", "machine", "LCoinNode$Machine;", true)
  | 2 => ("CoinNode$Scripts", "signature", "LCoinNode$Signature;", true)
  | 3 => ("CoinNode$Scripts", "signed", "[B", true)
  | 4 => ("CoinNode$Scripts", "signedSize", "I", false)
  | 5 => ("CoinNode$Scripts", "name", "[B", true)
  | 6 => ("CoinNode$Scripts", "asked", "I", false)
  | _ => ("CoinNode$Scripts", "most", "I", false)
def jY7 : Nat → FieldType := fun k => match k with
  | 0 => .object "CoinNode$Hash"
  | 1 => .object "CoinNode$Machine"
  | 2 => .object "CoinNode$Signature"
  | 3 => .array .byte
  | 4 => .int
  | 5 => .array .byte
  | 6 => .int
  | _ => .int
theorem jY7_ok : ∀ k, k < 8 → parseFieldDescriptor (jT7 k).2.2.1 = some (jY7 k) := by decide +kernel
theorem jN7_ok : ∀ a, a < 8 → ∀ b, b < 8 → a ≠ b → (jT7 a).2.1 ≠ (jT7 b).2.1 := by decide +kernel
def jT8 : u_T := fun k => match k with
  | 0 => ("CoinNode$Signature", "kind", "I", false)
  | 1 => ("CoinNode$Signature", "r", "[I", true)
  | 2 => ("CoinNode$Signature", "s", "[I", true)
  | 3 => ("CoinNode$Signature", "x", "[I", true)
  | 4 => ("CoinNode$Signature", "y", "[I", true)
  | 5 => ("CoinNode$Signature", "z", "[I", true)
  | 6 => ("CoinNode$Signature", "wide", "[I", true)
  | 7 => ("CoinNode$Signature", "high", "[I", true)
  | 8 => ("CoinNode$Signature", "powers", "[[I", true)
  | 9 => ("CoinNode$Signature", "work", "[[J", true)
  | 10 => ("CoinNode$Signature", "baseDigits", "[I", true)
  | 11 => ("CoinNode$Signature", "keyDigits", "[I", true)
  | 12 => ("CoinNode$Signature", "baseOdds", "[LCoinNode$Point;", true)
  | 13 => ("CoinNode$Signature", "keyOdds", "[LCoinNode$Point;", true)
  | 14 => ("CoinNode$Signature", "twice", "LCoinNode$Point;", true)
  | 15 => ("CoinNode$Signature", "sum", "LCoinNode$Point;", true)
  | _ => ("CoinNode$Signature", "hasBase", "Z", false)
def jY8 : Nat → FieldType := fun k => match k with
  | 0 => .int
  | 1 => .array .int
  | 2 => .array .int
  | 3 => .array .int
  | 4 => .array .int
  | 5 => .array .int
  | 6 => .array .int
  | 7 => .array .int
  | 8 => .array (.array .int)
  | 9 => .array (.array .long)
  | 10 => .array .int
  | 11 => .array .int
  | 12 => .array (.object "CoinNode$Point")
  | 13 => .array (.object "CoinNode$Point")
  | 14 => .object "CoinNode$Point"
  | 15 => .object "CoinNode$Point"
  | _ => .boolean
theorem jY8_ok : ∀ k, k < 17 → parseFieldDescriptor (jT8 k).2.2.1 = some (jY8 k) := by decide +kernel
theorem jN8_ok : ∀ a, a < 17 → ∀ b, b < 17 → a ≠ b → (jT8 a).2.1 ≠ (jT8 b).2.1 := by decide +kernel
def jT9 : u_T := fun k => match k with
  | 0 => ("CoinNode$Stack", "rows", "[[B", true)
  | 1 => ("CoinNode$Stack", "sizes", "[I", true)
  | _ => ("CoinNode$Stack", "height", "I", false)
def jY9 : Nat → FieldType := fun k => match k with
  | 0 => .array (.array .byte)
  | 1 => .array .int
  | _ => .int
theorem jY9_ok : ∀ k, k < 3 → parseFieldDescriptor (jT9 k).2.2.1 = some (jY9 k) := by decide +kernel
theorem jN9_ok : ∀ a, a < 3 → ∀ b, b < 3 → a ≠ b → (jT9 a).2.1 ≠ (jT9 b).2.1 := by decide +kernel
def jT10 : u_T := fun k => match k with
  | 0 => ("CoinNode$Tx", "row", "[B", true)
  | 1 => ("CoinNode$Tx", "from", "I", true)
  | 2 => ("CoinNode$Tx", "size", "I", false)
  | 3 => ("CoinNode$Tx", "name", "[B", true)
  | 4 => ("CoinNode$Tx", "inputs", "[I", false)
  | 5 => ("CoinNode$Tx", "outputs", "[I", false)
  | 6 => ("CoinNode$Tx", "sum", "J", false)
  | _ => ("CoinNode$Tx", "hasRootInput", "Z", false)
def jY10 : Nat → FieldType := fun k => match k with
  | 0 => .array .byte
  | 1 => .int
  | 2 => .int
  | 3 => .array .byte
  | 4 => .array .int
  | 5 => .array .int
  | 6 => .long
  | _ => .boolean
theorem jY10_ok : ∀ k, k < 8 → parseFieldDescriptor (jT10 k).2.2.1 = some (jY10 k) := by decide +kernel
theorem jN10_ok : ∀ a, a < 8 → ∀ b, b < 8 → a ≠ b → (jT10 a).2.1 ≠ (jT10 b).2.1 := by decide +kernel
def jT11 : u_T := fun k => match k with
  | 0 => ("CoinNode", "tape", "[B", true)
  | 1 => ("CoinNode", "tapeSize", "I", false)
  | 2 => ("CoinNode", "keyName", "[B", true)
  | 3 => ("CoinNode", "keyIndex", "I", false)
  | 4 => ("CoinNode", "boxes", "[[B", true)
  | 5 => ("CoinNode", "boxStarts", "[I", true)
  | 6 => ("CoinNode", "boxSizes", "[I", true)
  | 7 => ("CoinNode", "frame", "[B", true)
  | 8 => ("CoinNode", "frameSize", "I", false)
  | 9 => ("CoinNode", "hash", "LCoinNode$Hash;", true)
  | 10 => ("CoinNode", "scripts", "LCoinNode$Scripts;", true)
  | 11 => ("CoinNode", "coins", "LCoinNode$Coins;", true)
  | 12 => ("CoinNode", "chain", "LCoinNode$Chain;", true)
  | _ => ("CoinNode", "pool", "LCoinNode$Pool;", true)
def jY11 : Nat → FieldType := fun k => match k with
  | 0 => .array .byte
  | 1 => .int
  | 2 => .array .byte
  | 3 => .int
  | 4 => .array (.array .byte)
  | 5 => .array .int
  | 6 => .array .int
  | 7 => .array .byte
  | 8 => .int
  | 9 => .object "CoinNode$Hash"
  | 10 => .object "CoinNode$Scripts"
  | 11 => .object "CoinNode$Coins"
  | 12 => .object "CoinNode$Chain"
  | _ => .object "CoinNode$Pool"
theorem jY11_ok : ∀ k, k < 14 → parseFieldDescriptor (jT11 k).2.2.1 = some (jY11 k) := by decide +kernel
theorem jN11_ok : ∀ a, a < 14 → ∀ b, b < 14 → a ≠ b → (jT11 a).2.1 ≠ (jT11 b).2.1 := by decide +kernel
def jT12 : u_T := fun k => match k with
  | 0 => ("CoinNodeModel$Hashes", "row", "[I", true)
  | 1 => ("CoinNodeModel$Hashes", "h", "[I", true)
  | 2 => ("CoinNodeModel$Hashes", "v", "[I", true)
  | _ => ("CoinNodeModel$Hashes", "once", "[B", true)
def jY12 : Nat → FieldType := fun k => match k with
  | 0 => .array .int
  | 1 => .array .int
  | 2 => .array .int
  | _ => .array .byte
theorem jY12_ok : ∀ k, k < 4 → parseFieldDescriptor (jT12 k).2.2.1 = some (jY12 k) := by decide +kernel
theorem jN12_ok : ∀ a, a < 4 → ∀ b, b < 4 → a ≠ b → (jT12 a).2.1 ≠ (jT12 b).2.1 := by decide +kernel
def jT13 : u_T := fun k => match k with
  | 0 => ("CoinNodeModel$Points", "rows", "[I", true)
  | 1 => ("CoinNodeModel$Points", "product", "[J", true)
  | 2 => ("CoinNodeModel$Points", "folded", "[J", true)
  | 3 => ("CoinNodeModel$Points", "rest", "[I", true)
  | 4 => ("CoinNodeModel$Points", "none", "[Z", true)
  | 5 => ("CoinNodeModel$Points", "bytes", "[I", true)
  | _ => ("CoinNodeModel$Points", "many", "I", false)
def jY13 : Nat → FieldType := fun k => match k with
  | 0 => .array .int
  | 1 => .array .long
  | 2 => .array .long
  | 3 => .array .int
  | 4 => .array .boolean
  | 5 => .array .int
  | _ => .int
theorem jY13_ok : ∀ k, k < 7 → parseFieldDescriptor (jT13 k).2.2.1 = some (jY13 k) := by decide +kernel
theorem jN13_ok : ∀ a, a < 7 → ∀ b, b < 7 → a ≠ b → (jT13 a).2.1 ≠ (jT13 b).2.1 := by decide +kernel
def jT14 : u_T := fun k => match k with
  | 0 => ("CoinNodeModel$Scripts", "bytes", "[I", true)
  | 1 => ("CoinNodeModel$Scripts", "sizes", "[I", true)
  | 2 => ("CoinNodeModel$Scripts", "size", "I", false)
  | 3 => ("CoinNodeModel$Scripts", "side", "I", false)
  | 4 => ("CoinNodeModel$Scripts", "script", "[I", true)
  | 5 => ("CoinNodeModel$Scripts", "length", "I", false)
  | 6 => ("CoinNodeModel$Scripts", "fault", "I", false)
  | 7 => ("CoinNodeModel$Scripts", "operations", "I", false)
  | 8 => ("CoinNodeModel$Scripts", "left", "I", false)
  | 9 => ("CoinNodeModel$Scripts", "depth", "I", false)
  | 10 => ("CoinNodeModel$Scripts", "parts", "[I", true)
  | 11 => ("CoinNodeModel$Scripts", "number", "J", false)
  | 12 => ("CoinNodeModel$Scripts", "message", "[B", true)
  | 13 => ("CoinNodeModel$Scripts", "other", "[B", true)
  | 14 => ("CoinNodeModel$Scripts", "made", "[B", true)
  | 15 => ("CoinNodeModel$Scripts", "hashes", "LCoinNodeModel$Hashes;", true)
  | _ => ("CoinNodeModel$Scripts", "asker", "LCoinNodeModel$Asker;", true)
def jY14 : Nat → FieldType := fun k => match k with
  | 0 => .array .int
  | 1 => .array .int
  | 2 => .int
  | 3 => .int
  | 4 => .array .int
  | 5 => .int
  | 6 => .int
  | 7 => .int
  | 8 => .int
  | 9 => .int
  | 10 => .array .int
  | 11 => .long
  | 12 => .array .byte
  | 13 => .array .byte
  | 14 => .array .byte
  | 15 => .object "CoinNodeModel$Hashes"
  | _ => .object "CoinNodeModel$Asker"
theorem jY14_ok : ∀ k, k < 17 → parseFieldDescriptor (jT14 k).2.2.1 = some (jY14 k) := by decide +kernel
theorem jN14_ok : ∀ a, a < 17 → ∀ b, b < 17 → a ≠ b → (jT14 a).2.1 ≠ (jT14 b).2.1 := by decide +kernel
def jT15 : u_T := fun k => match k with
  | 0 => ("CoinNodeModel$Signing", "hashes", "LCoinNodeModel$Hashes;", true)
  | 1 => ("CoinNodeModel$Signing", "points", "LCoinNodeModel$Points;", true)
  | 2 => ("CoinNodeModel$Signing", "tx", "LCoinNodeModel$Tx;", false)
  | 3 => ("CoinNodeModel$Signing", "input", "I", false)
  | 4 => ("CoinNodeModel$Signing", "lockFrom", "[B", false)
  | 5 => ("CoinNodeModel$Signing", "lockAt", "I", false)
  | 6 => ("CoinNodeModel$Signing", "lockSize", "I", false)
  | 7 => ("CoinNodeModel$Signing", "text", "[B", true)
  | 8 => ("CoinNodeModel$Signing", "size", "I", false)
  | _ => ("CoinNodeModel$Signing", "digest", "[B", true)
def jY15 : Nat → FieldType := fun k => match k with
  | 0 => .object "CoinNodeModel$Hashes"
  | 1 => .object "CoinNodeModel$Points"
  | 2 => .object "CoinNodeModel$Tx"
  | 3 => .int
  | 4 => .array .byte
  | 5 => .int
  | 6 => .int
  | 7 => .array .byte
  | 8 => .int
  | _ => .array .byte
theorem jY15_ok : ∀ k, k < 10 → parseFieldDescriptor (jT15 k).2.2.1 = some (jY15 k) := by decide +kernel
theorem jN15_ok : ∀ a, a < 10 → ∀ b, b < 10 → a ≠ b → (jT15 a).2.1 ≠ (jT15 b).2.1 := by decide +kernel
def jT16 : u_T := fun k => match k with
  | 0 => ("CoinNodeModel$Tree", "most", "I", true)
  | 1 => ("CoinNodeModel$Tree", "many", "I", false)
  | 2 => ("CoinNodeModel$Tree", "parent", "[I", true)
  | 3 => ("CoinNodeModel$Tree", "height", "[I", true)
  | 4 => ("CoinNodeModel$Tree", "time", "[J", true)
  | 5 => ("CoinNodeModel$Tree", "bits", "[J", true)
  | 6 => ("CoinNodeModel$Tree", "bad", "[Z", true)
  | 7 => ("CoinNodeModel$Tree", "sums", "[I", true)
  | 8 => ("CoinNodeModel$Tree", "a", "[I", true)
  | 9 => ("CoinNodeModel$Tree", "b", "[I", true)
  | 10 => ("CoinNodeModel$Tree", "c", "[I", true)
  | _ => ("CoinNodeModel$Tree", "times", "[J", true)
def jY16 : Nat → FieldType := fun k => match k with
  | 0 => .int
  | 1 => .int
  | 2 => .array .int
  | 3 => .array .int
  | 4 => .array .long
  | 5 => .array .long
  | 6 => .array .boolean
  | 7 => .array .int
  | 8 => .array .int
  | 9 => .array .int
  | 10 => .array .int
  | _ => .array .long
theorem jY16_ok : ∀ k, k < 12 → parseFieldDescriptor (jT16 k).2.2.1 = some (jY16 k) := by decide +kernel
theorem jN16_ok : ∀ a, a < 12 → ∀ b, b < 12 → a ≠ b → (jT16 a).2.1 ≠ (jT16 b).2.1 := by decide +kernel
def jT17 : u_T := fun k => match k with
  | 0 => ("CoinNodeModel$Tx", "from", "[B", false)
  | 1 => ("CoinNodeModel$Tx", "at", "I", false)
  | 2 => ("CoinNodeModel$Tx", "end", "I", false)
  | 3 => ("CoinNodeModel$Tx", "place", "I", false)
  | 4 => ("CoinNodeModel$Tx", "inputs", "I", false)
  | 5 => ("CoinNodeModel$Tx", "outputs", "I", false)
  | 6 => ("CoinNodeModel$Tx", "good", "Z", false)
  | 7 => ("CoinNodeModel$Tx", "names", "[I", true)
  | 8 => ("CoinNodeModel$Tx", "indexes", "[J", true)
  | 9 => ("CoinNodeModel$Tx", "scripts", "[I", true)
  | 10 => ("CoinNodeModel$Tx", "scriptSizes", "[I", true)
  | 11 => ("CoinNodeModel$Tx", "sequences", "[I", true)
  | 12 => ("CoinNodeModel$Tx", "values", "[J", true)
  | 13 => ("CoinNodeModel$Tx", "locks", "[I", true)
  | _ => ("CoinNodeModel$Tx", "lockSizes", "[I", true)
def jY17 : Nat → FieldType := fun k => match k with
  | 0 => .array .byte
  | 1 => .int
  | 2 => .int
  | 3 => .int
  | 4 => .int
  | 5 => .int
  | 6 => .boolean
  | 7 => .array .int
  | 8 => .array .long
  | 9 => .array .int
  | 10 => .array .int
  | 11 => .array .int
  | 12 => .array .long
  | 13 => .array .int
  | _ => .array .int
theorem jY17_ok : ∀ k, k < 15 → parseFieldDescriptor (jT17 k).2.2.1 = some (jY17 k) := by decide +kernel
theorem jN17_ok : ∀ a, a < 15 → ∀ b, b < 15 → a ≠ b → (jT17 a).2.1 ≠ (jT17 b).2.1 := by decide +kernel
def jT18 : u_T := fun k => match k with
  | 0 => ("CoinNodeModel", "hashes", "LCoinNodeModel$Hashes;", true)
  | 1 => ("CoinNodeModel", "signing", "LCoinNodeModel$Signing;", true)
  | 2 => ("CoinNodeModel", "scripts", "LCoinNodeModel$Scripts;", true)
  | 3 => ("CoinNodeModel", "tree", "LCoinNodeModel$Tree;", true)
  | 4 => ("CoinNodeModel", "tx", "LCoinNodeModel$Tx;", true)
  | 5 => ("CoinNodeModel", "other", "LCoinNodeModel$Tx;", true)
  | 6 => ("CoinNodeModel", "blocks", "[B", true)
  | 7 => ("CoinNodeModel", "sizes", "[I", true)
  | 8 => ("CoinNodeModel", "names", "[B", true)
  | 9 => ("CoinNodeModel", "right", "[I", true)
  | 10 => ("CoinNodeModel", "codes", "[I", true)
  | 11 => ("CoinNodeModel", "txNames", "[B", true)
  | 12 => ("CoinNodeModel", "fresh", "[B", true)
  | 13 => ("CoinNodeModel", "tip", "I", false)
  | 14 => ("CoinNodeModel", "many", "I", false)
  | 15 => ("CoinNodeModel", "begins", "[I", true)
  | 16 => ("CoinNodeModel", "coinsOf", "I", false)
  | 17 => ("CoinNodeModel", "coins", "I", false)
  | 18 => ("CoinNodeModel", "spent", "I", false)
  | 19 => ("CoinNodeModel", "blockFees", "J", false)
  | 20 => ("CoinNodeModel", "coinNames", "[B", true)
  | 21 => ("CoinNodeModel", "coinIndexes", "[J", true)
  | 22 => ("CoinNodeModel", "coinValues", "[J", true)
  | 23 => ("CoinNodeModel", "coinHeights", "[I", true)
  | 24 => ("CoinNodeModel", "coinFirst", "[Z", true)
  | 25 => ("CoinNodeModel", "coinScripts", "[I", true)
  | 26 => ("CoinNodeModel", "coinSizes", "[I", true)
  | 27 => ("CoinNodeModel", "keptCoins", "I", false)
  | 28 => ("CoinNodeModel", "keptSpent", "I", false)
  | 29 => ("CoinNodeModel", "keptNames", "[B", true)
  | 30 => ("CoinNodeModel", "keptIndexes", "[J", true)
  | 31 => ("CoinNodeModel", "keptValues", "[J", true)
  | 32 => ("CoinNodeModel", "keptHeights", "[I", true)
  | 33 => ("CoinNodeModel", "keptFirst", "[Z", true)
  | 34 => ("CoinNodeModel", "keptScripts", "[I", true)
  | 35 => ("CoinNodeModel", "keptSizes", "[I", true)
  | 36 => ("CoinNodeModel", "pool", "I", false)
  | 37 => ("CoinNodeModel", "poolTexts", "[B", true)
  | 38 => ("CoinNodeModel", "poolSizes", "[I", true)
  | 39 => ("CoinNodeModel", "poolNames", "[B", true)
  | 40 => ("CoinNodeModel", "poolFees", "[J", true)
  | 41 => ("CoinNodeModel", "poolInputs", "[I", true)
  | 42 => ("CoinNodeModel", "poolPlaces", "[I", true)
  | 43 => ("CoinNodeModel", "poolIndexes", "[J", true)
  | 44 => ("CoinNodeModel", "inFamily", "[Z", true)
  | 45 => ("CoinNodeModel", "oldTexts", "[B", true)
  | 46 => ("CoinNodeModel", "oldSizes", "[I", true)
  | 47 => ("CoinNodeModel", "tape", "[B", true)
  | 48 => ("CoinNodeModel", "tapeSize", "I", false)
  | 49 => ("CoinNodeModel", "name", "[B", true)
  | 50 => ("CoinNodeModel", "row", "[B", true)
  | 51 => ("CoinNodeModel", "hand", "[B", true)
  | 52 => ("CoinNodeModel", "handIndex", "I", false)
  | 53 => ("CoinNodeModel", "answers", "[B", true)
  | 54 => ("CoinNodeModel", "waiting", "[I", true)
  | 55 => ("CoinNodeModel", "frame", "[B", true)
  | 56 => ("CoinNodeModel", "frameSize", "I", false)
  | 57 => ("CoinNodeModel", "lockFrom", "[B", false)
  | 58 => ("CoinNodeModel", "lockAt", "I", false)
  | 59 => ("CoinNodeModel", "lockSize", "I", false)
  | _ => ("CoinNodeModel", "isFresh", "Z", false)
def jY18 : Nat → FieldType := fun k => match k with
  | 0 => .object "CoinNodeModel$Hashes"
  | 1 => .object "CoinNodeModel$Signing"
  | 2 => .object "CoinNodeModel$Scripts"
  | 3 => .object "CoinNodeModel$Tree"
  | 4 => .object "CoinNodeModel$Tx"
  | 5 => .object "CoinNodeModel$Tx"
  | 6 => .array .byte
  | 7 => .array .int
  | 8 => .array .byte
  | 9 => .array .int
  | 10 => .array .int
  | 11 => .array .byte
  | 12 => .array .byte
  | 13 => .int
  | 14 => .int
  | 15 => .array .int
  | 16 => .int
  | 17 => .int
  | 18 => .int
  | 19 => .long
  | 20 => .array .byte
  | 21 => .array .long
  | 22 => .array .long
  | 23 => .array .int
  | 24 => .array .boolean
  | 25 => .array .int
  | 26 => .array .int
  | 27 => .int
  | 28 => .int
  | 29 => .array .byte
  | 30 => .array .long
  | 31 => .array .long
  | 32 => .array .int
  | 33 => .array .boolean
  | 34 => .array .int
  | 35 => .array .int
  | 36 => .int
  | 37 => .array .byte
  | 38 => .array .int
  | 39 => .array .byte
  | 40 => .array .long
  | 41 => .array .int
  | 42 => .array .int
  | 43 => .array .long
  | 44 => .array .boolean
  | 45 => .array .byte
  | 46 => .array .int
  | 47 => .array .byte
  | 48 => .int
  | 49 => .array .byte
  | 50 => .array .byte
  | 51 => .array .byte
  | 52 => .int
  | 53 => .array .byte
  | 54 => .array .int
  | 55 => .array .byte
  | 56 => .int
  | 57 => .array .byte
  | 58 => .int
  | 59 => .int
  | _ => .boolean
theorem jY18_ok : ∀ k, k < 61 → parseFieldDescriptor (jT18 k).2.2.1 = some (jY18 k) := by decide +kernel
theorem jN18_ok : ∀ a, a < 61 → ∀ b, b < 61 → a ≠ b → (jT18 a).2.1 ≠ (jT18 b).2.1 := by decide +kernel
def jcl : List vw_C := [("CoinNode$Block", jT0, 9), ("CoinNode$Chain", jT1, 17), ("CoinNode$Coins", jT2, 9), ("CoinNode$Hash", jT3, 6), ("CoinNode$Machine", jT4, 20), ("CoinNode$Point", jT5, 4), ("CoinNode$Pool", jT6, 10), ("CoinNode$Scripts", jT7, 8), ("CoinNode$Signature", jT8, 17), ("CoinNode$Stack", jT9, 3), ("CoinNode$Tx", jT10, 8), ("CoinNode", jT11, 14), ("CoinNodeModel$Hashes", jT12, 4), ("CoinNodeModel$Points", jT13, 7), ("CoinNodeModel$Scripts", jT14, 17), ("CoinNodeModel$Signing", jT15, 10), ("CoinNodeModel$Tree", jT16, 12), ("CoinNodeModel$Tx", jT17, 15), ("CoinNodeModel", jT18, 61)]
end
section
/-! The abstract heap: kinds (a tag and a length), ints, longs, references, the next reference, the slots made. -/
abbrev jH : Type := (Nat → Nat × Nat) × (Nat → Nat → Int32) × (Nat → Nat → Int64) × (Nat → Nat → Nat) × Nat × Nat
def jK (H : jH) : Nat → Nat × Nat := H.1
def jI (H : jH) : Nat → Nat → Int32 := H.2.1
def jL (H : jH) : Nat → Nat → Int64 := H.2.2.1
def jR (H : jH) : Nat → Nat → Nat := H.2.2.2.1
def jn (H : jH) : Nat := H.2.2.2.2.1
def js (H : jH) : Nat := H.2.2.2.2.2
def jup {α : Type} (f : Nat → Nat → α) (a i : Nat) (v : α) : Nat → Nat → α := fun b j => if b = a ∧ j = i then v else f b j
def jsI (H : jH) (a i : Nat) (v : Int32) : jH := (jK H, jup (jI H) a i v, jL H, jR H, jn H, js H)
def jsL (H : jH) (a i : Nat) (v : Int64) : jH := (jK H, jI H, jup (jL H) a i v, jR H, jn H, js H)
def jsR (H : jH) (a i : Nat) (v : Nat) : jH := (jK H, jI H, jL H, jup (jR H) a i v, jn H, js H)
def jz {α : Type} (f : Nat → Nat → α) (a : Nat) (z : α) : Nat → Nat → α := fun b j => if b = a then z else f b j
def jnew (H : jH) (t k : Nat) : jH := (fun b => if b = jn H then (t, k) else jK H b, jz (jI H) (jn H) 0, jz (jL H) (jn H) 0, jz (jR H) (jn H) 0, jn H + 1, js H + k)
def jF0 : Nat := 32
/-- the component's type of an array, by its tag -/
def jty : Nat → FieldType
  | 100 => .int
  | 101 => .byte
  | 102 => .boolean
  | 103 => .long
  | 110 => .array .byte
  | 111 => .array .int
  | 112 => .array .long
  | 113 => .object "CoinNode$Tx"
  | 114 => .object "CoinNode$Block"
  | 115 => .object "CoinNode$Point"
  | _ => .float
def jtags : List Nat := [100, 101, 102, 103, 110, 111, 112, 113, 114, 115]
/-- whether a value is an int (0), a long (1) or a reference (2), by its type -/
def jkd : FieldType → Nat
  | .long => 1
  | .object _ => 2
  | .array _ => 2
  | _ => 0
def jfd (d : String) : Nat := match parseFieldDescriptor d with
  | some t => jkd t
  | none => 0
abbrev jG : Type := Nat × (Nat → Nat) × va_G × (Nat → ClassId)
def jad (G : jG) (a : Nat) : Nat := if a < jF0 then G.2.1 a else G.1 + (a - jF0)
def jrv (G : jG) (r : Nat) : Value := if r = 0 then .null else .ref (jad G r)
/-- an abstract value: a reference by its number, 0 null -/
def jv (G : jG) : Value → Value
  | .ref r => jrv G r
  | v => v
def jcv (G : jG) (H : jH) (a j : Nat) (k : Nat) : Value := if k = 0 then .int (jI H a j) else if k = 1 then .long (jL H a j) else jrv G (jR H a j)
def jcell (G : jG) (H : jH) (Hr : Heap) (a : Nat) : Prop :=
  (∃ q : vw_C, jcl[(jK H a).1]? = some q ∧ (jK H a).2 = q.2.2 ∧ t_OB (jad G a) (G.2.2.1.1 (jK H a).1) q.2.2 (G.2.2.1.2 (jK H a).1) Hr (fun k => jcv G H a k (jfd (q.2.1 k).2.2.1))) ∨
  ((jK H a).1 ∈ jtags ∧ jcl[(jK H a).1]? = none ∧ Hr[jad G a]? = some (arrV (G.2.2.2 (jK H a).1) (jK H a).2 (fun j => jcv G H a j (jkd (jty (jK H a).1)))))
def jpre (G : jG) (H : jH) (U : State) (Hr : Heap) (a : Nat) : Prop :=
  ∃ cell : Cell, Hr[G.2.1 a]? = some cell ∧ U.isArrayOf cell .int ∧ cell.vm ≠ .unknown ∧ (jK H a).2 ≤ cell.slots.size ∧ cell.slots.size.toInt32 = Int32.ofNat (jK H a).2 ∧ (∀ j : Nat, j < (jK H a).2 → cell.slots[j]? = some (.int (jI H a j))) ∧ G.2.1 a < G.1
def jA (G : jG) : Nat → Prop := fun q => G.1 ≤ q
/-- the static arrays: their references, class and name -/
abbrev jsts : List (Nat × String × String) := [(1, "CoinNode$Hash", "START"), (2, "CoinNode$Hash", "ROUNDS"), (3, "CoinNode$Hash", "WORD"), (4, "CoinNode$Hash", "TURN"), (5, "CoinNode$Hash", "ADDED"), (6, "CoinNode$Machine", "MOVES"), (7, "CoinNode$Signature", "PRIME"), (8, "CoinNode$Signature", "ORDER"), (9, "CoinNode$Signature", "OVER"), (10, "CoinNode$Signature", "BASE_X"), (11, "CoinNode$Signature", "BASE_Y"), (12, "CoinNode$Point", "ROOT"), (13, "CoinNodeModel$Hashes", "CUBES"), (14, "CoinNodeModel$Hashes", "WORDS"), (15, "CoinNodeModel$Hashes", "OTHERS"), (16, "CoinNodeModel$Hashes", "TURNS"), (17, "CoinNodeModel$Hashes", "OTHER_TURNS")]
def jRel (G : jG) (H : jH) (U : State) (Hr : Heap) : Prop :=
  Hr.size + jF0 = G.1 + jn H ∧ jF0 ≤ jn H ∧ (∀ a, (jK H a).1 ≠ 99 → a < jn H ∧ (a < jF0 → (jK H a).1 = 100 ∧ jpre G H U Hr a) ∧ (jF0 ≤ a → jcell G H Hr a)) ∧ (jK H 0).1 = 99 ∧
  va_K G.2.2.1 jcl (jtags.map (fun t => (G.2.2.2 t, jty t))) U ∧ ∀ q ∈ jsts, va_Z q.2.1 q.2.2 "[I" (.ref (G.2.1 q.1)) (jA G) U Hr
/-- a method: its code as a number and its size, the locals' number, its class, its answer's type, its name, the frames and locals that it needs -/
abbrev jM : Type := Nat × Nat × Nat × String × Option FieldType × String × Nat × Nat
/-- a walk's fixed things -/
abbrev jX : Type := (Program × Launch × Env × State) × (MethodId × Array Value × List Frame × Method × Code) × jG × jH
def jQ (G : jG) (v : Option Value) (H' : jH) : Array Value → State → Outcome → State → Prop := fun _ st oc t => oc = .returned (v.map (jv G)) ∧ jRel G H' t t.heap ∧ va_F (jA G) st t
/-- the locals: what a look-up finds is there -/
def jLoc (G : jG) (la : Array Slot) (nL : Nat) (ls : List (Nat × Value)) : Prop := la.size = nL ∧ lv_wf la ∧ ∀ (i : Nat) (v : Value), ls.lookup i = some v → la[i]? = some (.val (jv G v))
def jstk (G : jG) (st : List Value) : List Value := st.map (jv G)
def jroom (f k n o : Nat) : Room := { frames := f, cells := k, slots := n, locals := o }
def JV (mi : jM) (c : jX) {α : Type} (emb : α → Option Value) (pc : Nat) (ls : List (Nat × Value)) (st : List Value) (H : jH) (o : Option (α × jH)) : Prop :=
  jn c.2.2.2 ≤ jn H → js c.2.2.2 ≤ js H → ∀ (r : α) (H' : jH), o = some (r, H') → (jn H ≤ jn H' ∧ js H ≤ js H') ∧
    ∀ (Hr : Heap) (la : Array Slot) (locs : List Loc), jRel c.2.2.1 H c.1.2.2.2 Hr → va_S (jA c.2.2.1) c.1.2.2.2.heap Hr locs → jLoc c.2.2.1 la mi.2.2.1 ls →
      W c.1.1 c.1.2.1 c.1.2.2.1 (jroom mi.2.2.2.2.2.2.1 (jn H' - jn c.2.2.2) (js H' - js c.2.2.2) mi.2.2.2.2.2.2.2) c.1.2.2.2 c.2.1.1 c.2.1.2.1 c.2.1.2.2.1 c.2.1.2.2.2.1 c.2.1.2.2.2.2 Hr locs (jn H - jn c.2.2.2) (js H - js c.2.2.2)
        (MQ c.2.1.2.2.1 (jQ c.2.2.1 (emb r) H') c.2.1.2.1 c.1.2.2.2 (jn H' - jn c.2.2.2) (js H' - js c.2.2.2) (jA c.2.2.1)) (F0 c.2.1.1 pc la (jstk c.2.2.1 st))
def jC (mi : jM) (c : jX) : Prop :=
  c.1.1.tables.exec = Jvm.exec ∧ jn_is c.2.1.2.2.2.2.code mi.1 mi.2.1 ∧ c.2.1.2.2.2.2.maxLocals = mi.2.2.1 ∧ c.1.2.2.2.vm.findClass mi.2.2.2.1 = some c.2.1.1.cls ∧ c.2.1.2.2.2.1.sig.returnType = mi.2.2.2.2.1 ∧ c.2.1.2.2.2.1.name = mi.2.2.2.2.2.1 ∧
  c.2.1.2.2.2.1.locks = false ∧ (∀ w ∈ tables_1, w.before c.2.1.2.1 c.1.2.2.2 = true) ∧ jRel c.2.2.1 c.2.2.2 c.1.2.2.2 c.1.2.2.2.heap
end
section
theorem jcl_lt {t : Nat} {q : vw_C} (h : jcl[t]? = some q) : t < 19 := (List.getElem?_eq_some_iff.mp h).1
theorem jtag_ge {t : Nat} (h : t ∈ jtags) : 100 ≤ t := by
  simp only [jtags, List.mem_cons, List.not_mem_nil, or_false] at h
  omega
theorem jcl_none {t : Nat} (h : 19 ≤ t) : jcl[t]? = none := List.getElem?_eq_none h
theorem jad_own {G : jG} {a : Nat} (h : jF0 ≤ a) : jad G a = G.1 + (a - jF0) := if_neg (Nat.not_lt.mpr h)
theorem jad_inj {G : jG} {a b : Nat} (ha : jF0 ≤ a) (hb : jF0 ≤ b) (h : jad G a = jad G b) : a = b := by
  rw [jad_own ha, jad_own hb] at h
  omega
theorem jad_A {G : jG} {a : Nat} (h : jF0 ≤ a) : jA G (jad G a) := by
  rw [jad_own h]
  exact Nat.le_add_right _ _
theorem jcv_congr {G : jG} {H H2 : jH} {a j k : Nat} (h1 : jI H2 a j = jI H a j) (h2 : jL H2 a j = jL H a j) (h3 : jR H2 a j = jR H a j) : jcv G H2 a j k = jcv G H a j k := by
  unfold jcv
  rw [h1, h2, h3]
theorem jcell_congr {G : jG} {H H2 : jH} {Hr Hr2 : Heap} {a : Nat} (h : jcell G H Hr a) (hk : jK H2 a = jK H a) (hv : ∀ j k, jcv G H2 a j k = jcv G H a j k) (hq : Hr2[jad G a]? = Hr[jad G a]?) : jcell G H2 Hr2 a := by
  unfold jcell at h ⊢
  rw [hk]
  rcases h with ⟨q, h1, h2, h3⟩ | ⟨h1, h2, h3⟩
  · exact Or.inl ⟨q, h1, h2, (h3.kept hq).to fun k _ => (hv k _).symm⟩
  · refine Or.inr ⟨h1, h2, ?_⟩
    rw [hq, h3]
    simp only [hv]
/-- one own cell changes, its kind stays -/
theorem jrel_upd {G : jG} {H H2 : jH} {U : State} {Hr Hr2 : Heap} {o : Nat} (hR : jRel G H U Hr) (ho : jF0 ≤ o) (hsz : Hr2.size = Hr.size) (hoff : ∀ q, q ≠ jad G o → Hr2[q]? = Hr[q]?)
    (hK : jK H2 = jK H) (hn : jn H2 = jn H) (hv : ∀ a, a ≠ o → ∀ j, jI H2 a j = jI H a j ∧ jL H2 a j = jL H a j ∧ jR H2 a j = jR H a j) (hc : jcell G H2 Hr2 o) : jRel G H2 U Hr2 := by
  obtain ⟨r1, r2, r3, r4, r5, r6⟩ := hR
  refine ⟨by rw [hsz, hn]; exact r1, by rw [hn]; exact r2, fun a ha => ?_, by rw [hK]; exact r4, r5, fun q hq => ?_⟩
  · rw [hK] at ha
    obtain ⟨s1, s2, s3⟩ := r3 a ha
    refine ⟨by rw [hn]; exact s1, fun hlt => ?_, fun hge => ?_⟩
    · obtain ⟨t1, cell, t2, t3, t4, t5, t6, t7, t8⟩ := s2 hlt
      have hne : a ≠ o := by omega
      refine ⟨by rw [hK]; exact t1, cell, ?_, t3, t4, by rw [hK]; exact t5, by rw [hK]; exact t6, fun j hj => ?_, t8⟩
      · rw [hoff _ (by rw [jad_own ho]; omega)]
        exact t2
      · rw [hK] at hj
        rw [(hv a hne j).1]
        exact t7 j hj
    · by_cases hao : a = o
      · subst hao
        exact hc
      · exact jcell_congr (s3 hge) (by rw [hK]) (fun j k => jcv_congr (hv a hao j).1 (hv a hao j).2.1 (hv a hao j).2.2) (hoff _ fun e => hao (jad_inj hge ho e))
  · refine (r6 q hq).kept fun a ha hA => hoff a fun e => hA ?_
    rw [e]
    exact jad_A ho
/-- a new cell -/
theorem jrel_new {G : jG} {H : jH} {U : State} {Hr Hr2 : Heap} {t k : Nat} (hR : jRel G H U Hr) (ht : t ≠ 99) (hsz : Hr2.size = Hr.size + 1) (hoff : ∀ q, q < Hr.size → Hr2[q]? = Hr[q]?)
    (hc : jcell G (jnew H t k) Hr2 (jn H)) : jRel G (jnew H t k) U Hr2 := by
  obtain ⟨r1, r2, r3, r4, r5, r6⟩ := hR
  have hn : jn (jnew H t k) = jn H + 1 := rfl
  have hKn : ∀ b, b ≠ jn H → jK (jnew H t k) b = jK H b := fun b hb => if_neg hb
  refine ⟨by rw [hsz, hn]; omega, by rw [hn]; omega, fun a ha => ?_, by rw [hKn 0 (by unfold jF0 at r2; omega)]; exact r4, r5, fun q hq => ?_⟩
  · by_cases hao : a = jn H
    · subst hao
      exact ⟨by rw [hn]; omega, fun h => by omega, fun _ => hc⟩
    · rw [hKn a hao] at ha
      obtain ⟨s1, s2, s3⟩ := r3 a ha
      have hI : ∀ j, jI (jnew H t k) a j = jI H a j := fun j => if_neg hao
      have hL : ∀ j, jL (jnew H t k) a j = jL H a j := fun j => if_neg hao
      have hRr : ∀ j, jR (jnew H t k) a j = jR H a j := fun j => if_neg hao
      refine ⟨by rw [hn]; omega, fun hlt => ?_, fun hge => ?_⟩
      · obtain ⟨t1, cell, t2, t3, t4, t5, t6, t7, t8⟩ := s2 hlt
        refine ⟨by rw [hKn a hao]; exact t1, cell, ?_, t3, t4, by rw [hKn a hao]; exact t5, by rw [hKn a hao]; exact t6, fun j hj => ?_, t8⟩
        · rw [hoff _ (Array.getElem?_eq_some_iff.mp t2).1]
          exact t2
        · rw [hKn a hao] at hj
          rw [hI]
          exact t7 j hj
      · refine jcell_congr (s3 hge) (hKn a hao) (fun j k => jcv_congr (hI j) (hL j) (hRr j)) (hoff _ ?_)
        rw [jad_own hge]
        omega
  · exact (r6 q hq).kept fun a ha _ => hoff a ha
theorem jrel_moved {G : jG} {H : jH} {u U : State} {Hr : Heap} (hvm : u.vm.Alike U.vm) (hR : jRel G H u Hr) : jRel G H U Hr := by
  obtain ⟨r1, r2, r3, r4, r5, r6⟩ := hR
  refine ⟨r1, r2, fun a ha => ?_, r4, va_K.moved hvm r5, fun q hq => (r6 q hq).moved hvm⟩
  obtain ⟨s1, s2, s3⟩ := r3 a ha
  refine ⟨s1, fun hlt => ?_, s3⟩
  obtain ⟨t1, cell, t2, t3, t4⟩ := s2 hlt
  exact ⟨t1, cell, t2, State.isArrayOf_alike hvm t3, t4⟩
/-- an object -/
theorem jrel_obj {G : jG} {H : jH} {U : State} {Hr : Heap} {o t : Nat} {q : vw_C} (hR : jRel G H U Hr) (ht : (jK H o).1 = t) (hq : jcl[t]? = some q) : jF0 ≤ o ∧ (jK H o).2 = q.2.2 ∧ t_OB (jad G o) (G.2.2.1.1 t) q.2.2 (G.2.2.1.2 t) Hr (fun k => jcv G H o k (jfd (q.2.1 k).2.2.1)) := by
  have hlt := jcl_lt hq
  obtain ⟨-, s2, s3⟩ := hR.2.2.1 o (by omega)
  have hge : jF0 ≤ o := by
    apply Nat.not_lt.mp
    intro h
    have := (s2 h).1
    omega
  refine ⟨hge, ?_⟩
  rcases s3 hge with ⟨q', h1, h2, h3⟩ | ⟨h1, -, -⟩
  · rw [ht] at h1 h3
    rw [h1] at hq
    cases hq
    exact ⟨h2, h3⟩
  · have := jtag_ge h1
    omega
/-- an own array -/
theorem jrel_arr {G : jG} {H : jH} {U : State} {Hr : Heap} {o t : Nat} (hR : jRel G H U Hr) (ht : (jK H o).1 = t) (hm : t ∈ jtags) (ho : jF0 ≤ o ∨ t ≠ 100) : jF0 ≤ o ∧ Hr[jad G o]? = some (arrV (G.2.2.2 t) (jK H o).2 (fun j => jcv G H o j (jkd (jty t)))) := by
  have hge := jtag_ge hm
  obtain ⟨-, s2, s3⟩ := hR.2.2.1 o (by omega)
  have hge2 : jF0 ≤ o := by
    rcases ho with h | h
    · exact h
    · apply Nat.not_lt.mp
      intro h2
      have := (s2 h2).1
      omega
  refine ⟨hge2, ?_⟩
  rcases s3 hge2 with ⟨q', h1, -, -⟩ | ⟨-, -, h3⟩
  · have := jcl_lt h1
    omega
  · rw [ht] at h3
    exact h3
theorem jrel_ty {G : jG} {H : jH} {U : State} {Hr : Heap} {t : Nat} (hR : jRel G H U Hr) (hm : t ∈ jtags) : ArrOfT U (G.2.2.2 t) (jty t) ∧ va_RA U (G.2.2.2 t) (jty t) := by
  obtain ⟨k, hk⟩ := List.getElem?_of_mem hm
  exact hR.2.2.2.2.1.2 k (G.2.2.2 t, jty t) (by rw [List.getElem?_map, hk]; rfl)
def jin (i : Int32) (n : Nat) : Prop := 0 ≤ i.toInt ∧ i.toInt < n
theorem jin_vp {i : Int32} {n : Nat} (h : jin i n) : vp_in i n := vp_in_iff.mpr h
theorem jin_lt {i : Int32} {n : Nat} (h : jin i n) : i.toNatClampNeg < n := by
  have := jin_vp h
  exact Nat.not_le.mp fun q => this (Or.inr q)
theorem jLoc_at {G : jG} {la : Array Slot} {nL : Nat} {ls : List (Nat × Value)} {i : Nat} {v : Value} (h : jLoc G la nL ls) (hi : ls.lookup i = some v) : la[i]? = some (.val (jv G v)) := h.2.2 i v hi
/-- the list of what look-ups find -/
def jE (G : jG) (ls : List (Nat × Value)) : List (Nat × Value) := ls.filterMap (fun q => (ls.lookup q.1).map (fun v => (q.1, jv G v)))
theorem jLoc_has {G : jG} {la : Array Slot} {nL : Nat} {ls : List (Nat × Value)} (h : jLoc G la nL ls) : lv_has la nL (jE G ls) := by
  refine ⟨h.1, h.2.1, fun q hq => ?_⟩
  obtain ⟨q0, -, h2⟩ := List.mem_filterMap.mp hq
  cases hl : ls.lookup q0.1 with
  | none => rw [hl] at h2; cases h2
  | some v =>
    rw [hl] at h2
    cases h2
    exact h.2.2 _ _ hl
theorem jmem_lookup {ls : List (Nat × Value)} {i : Nat} {v : Value} (h : ls.lookup i = some v) : (i, v) ∈ ls := by
  induction ls with
  | nil => cases h
  | cons q l ih =>
    obtain ⟨a, b⟩ := q
    simp only [List.lookup] at h
    split at h
    · rename_i he
      have : i = a := by simpa using he
      cases h
      rw [this]
      exact List.mem_cons_self
    · exact List.mem_cons_of_mem _ (ih h)
theorem jE_mem {G : jG} {ls : List (Nat × Value)} {i : Nat} {v : Value} (h : ls.lookup i = some v) : (i, jv G v) ∈ jE G ls := by
  refine List.mem_filterMap.mpr ⟨(i, v), jmem_lookup h, ?_⟩
  show (ls.lookup i).map _ = _
  rw [h]
  rfl
theorem jv_cat (G : jG) (v : Value) : (jv G v).category = v.category := by
  cases v <;> try rfl
  unfold jv jrv
  simp only
  split <;> rfl
/-- no long stands at a place -/
def jnol (ls : List (Nat × Value)) (i : Nat) : Bool := match ls.lookup i with
  | some (.long _) => false
  | some (.double _) => false
  | _ => true
theorem jnol_cat {ls : List (Nat × Value)} {i : Nat} {v : Value} (h : jnol ls i = true) (hv : ls.lookup i = some v) : v.category ≠ 2 := by
  unfold jnol at h
  rw [hv] at h
  cases v <;> simp_all [Value.category]
/-- what a store of a value of one word leaves -/
theorem jLoc_store {G : jG} {la la' : Array Slot} {nL i : Nat} {v : Value} {ls : List (Nat × Value)} (hn : i = 0 ∨ jnol ls (i - 1) = true)
    (h' : lv_has la' nL ((i, jv G v) :: (jE G ls).filter (fun q => !(q.1 == i) && !(q.1 + 1 == i && q.2.category == 2)))) : jLoc G la' nL ((i, v) :: ls) := by
  refine ⟨h'.1, h'.2.1, fun j w hj => ?_⟩
  simp only [List.lookup] at hj
  split at hj
  · rename_i he
    have : j = i := by simpa using he
    subst this
    cases hj
    exact h'.2.2 (j, _) List.mem_cons_self
  · rename_i he
    have hji : j ≠ i := by simpa using he
    refine h'.2.2 (j, jv G w) (List.mem_cons_of_mem _ (List.mem_filter.mpr ⟨jE_mem hj, ?_⟩))
    simp only [Bool.and_eq_true, Bool.not_eq_true', beq_eq_false_iff_ne, ne_eq, Bool.and_eq_false_iff]
    refine ⟨hji, ?_⟩
    by_cases h1 : j + 1 = i
    · right
      rcases hn with h0 | h0
      · omega
      · have : i - 1 = j := by omega
        rw [this] at h0
        show ¬ (jv G w).category = 2
        rw [jv_cat]
        exact jnol_cat h0 hj
    · exact Or.inl h1
/-- what a store of a long leaves -/
theorem jLoc_store2 {G : jG} {la la' : Array Slot} {nL i : Nat} {v : Value} {ls : List (Nat × Value)} (hn : i = 0 ∨ jnol ls (i - 1) = true) (hn2 : ls.lookup (i + 1) = none)
    (h' : lv_has la' nL ((i, jv G v) :: (jE G ls).filter (fun q => !(q.1 == i) && (!(q.1 == i + 1) && !(q.1 + 1 == i && q.2.category == 2))))) : jLoc G la' nL ((i, v) :: ls) := by
  refine ⟨h'.1, h'.2.1, fun j w hj => ?_⟩
  simp only [List.lookup] at hj
  split at hj
  · rename_i he
    have : j = i := by simpa using he
    subst this
    cases hj
    exact h'.2.2 (j, _) List.mem_cons_self
  · rename_i he
    have hji : j ≠ i := by simpa using he
    have hji2 : j ≠ i + 1 := fun e => by rw [e, hn2] at hj; cases hj
    refine h'.2.2 (j, jv G w) (List.mem_cons_of_mem _ (List.mem_filter.mpr ⟨jE_mem hj, ?_⟩))
    simp only [Bool.and_eq_true, Bool.not_eq_true', beq_eq_false_iff_ne, ne_eq, Bool.and_eq_false_iff]
    refine ⟨hji, hji2, ?_⟩
    by_cases h1 : j + 1 = i
    · right
      rcases hn with h0 | h0
      · omega
      · have : i - 1 = j := by omega
        rw [this] at h0
        show ¬ (jv G w).category = 2
        rw [jv_cat]
        exact jnol_cat h0 hj
    · exact Or.inl h1
/-- fewer locals: each is found in the longer list -/
def jsub : List (Nat × Value) → List (Nat × Value) → Prop
  | [], _ => True
  | q :: t, ls => ls.lookup q.1 = some q.2 ∧ jsub t ls
theorem jsub_mem {l ls : List (Nat × Value)} (h : jsub l ls) : ∀ q ∈ l, ls.lookup q.1 = some q.2 := by
  induction l with
  | nil => intro q hq; cases hq
  | cons a t ih =>
    intro q hq
    rcases List.mem_cons.mp hq with e | e
    · rw [e]; exact h.1
    · exact ih h.2 q e
theorem jLoc_sub {G : jG} {la : Array Slot} {nL : Nat} {l ls : List (Nat × Value)} (h : jLoc G la nL ls) (hs : jsub l ls) : jLoc G la nL l :=
  ⟨h.1, h.2.1, fun i v hi => h.2.2 i v (jsub_mem hs (i, v) (jmem_lookup hi))⟩
end
