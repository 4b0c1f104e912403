section
/-! Decoding by one number: the bytes of a method's code, the first one lowest, as one number N; reads are shifts. -/
def jn_bytes : Nat → Nat → List Nat
  | _, 0 => []
  | N, S + 1 => (N % 256) :: jn_bytes (N / 256) S
theorem jn_bytes_len : ∀ (S N : Nat), (jn_bytes N S).length = S
  | 0, _ => rfl
  | S + 1, N => by simp [jn_bytes, jn_bytes_len S]
theorem jn_bytes_get : ∀ (S N i : Nat), i < S → (jn_bytes N S)[i]? = some ((N >>> (8 * i)) % 256)
  | S + 1, N, 0, _ => by simp [jn_bytes]
  | S + 1, N, i + 1, h => by
    rw [jn_bytes, List.getElem?_cons_succ, jn_bytes_get S (N / 256) i (by omega)]
    congr 2
    rw [Nat.shiftRight_eq_div_pow, Nat.shiftRight_eq_div_pow, show (256 : Nat) = 2 ^ 8 from rfl, Nat.div_div_eq_div_mul, ← Nat.pow_add]
    congr 2
    omega
def jn_is (code : ByteArray) (N S : Nat) : Prop := code.data.toList.map UInt8.toNat = jn_bytes N S
theorem jn_size {code : ByteArray} {N S : Nat} (h : jn_is code N S) : code.size = S := by
  have h1 := congrArg List.length h
  rw [jn_bytes_len, List.length_map] at h1
  rw [← h1]
  exact (Array.length_toList).symm
theorem jn_at {code : ByteArray} {N S i : Nat} (h : jn_is code N S) (hi : i < code.size) : code[i].toNat = (N >>> (8 * i)) % 256 := by
  have hs := jn_size h
  have h1 := jn_bytes_get S N i (by omega)
  rw [← h, List.getElem?_map] at h1
  have h2 : code.data.toList[i]? = some code[i] := by
    have hi' : i < code.data.size := hi
    rw [Array.getElem?_toList]
    exact Array.getElem?_eq_getElem hi'
  rw [h2] at h1
  exact Option.some.inj h1
def jw1 (N S pc a : Nat) : Bool := Nat.blt pc S && Nat.beq ((N >>> (8 * pc)) % 256) a
def jw2 (N S pc a b : Nat) : Bool := Nat.blt (pc + 1) S && Nat.beq ((N >>> (8 * pc)) % 65536) (a + 256 * b) && Nat.blt a 256 && Nat.blt b 256
def jw3 (N S pc a b c : Nat) : Bool := Nat.blt (pc + 2) S && Nat.beq ((N >>> (8 * pc)) % 16777216) (a + 256 * b + 65536 * c) && Nat.blt a 256 && Nat.blt b 256 && Nat.blt c 256
theorem jn_sh (N i j : Nat) : N >>> (8 * (i + j)) = (N >>> (8 * i)) >>> (8 * j) := by
  rw [Nat.mul_add, Nat.shiftRight_add]
theorem jw1_spec {N S pc a : Nat} (h : jw1 N S pc a = true) : pc < S ∧ (N >>> (8 * pc)) % 256 = a := by
  simp only [jw1, Bool.and_eq_true, Nat.blt_eq, Nat.beq_eq] at h
  exact h
theorem jw2_spec {N S pc a b : Nat} (h : jw2 N S pc a b = true) : pc + 1 < S ∧ (N >>> (8 * pc)) % 256 = a ∧ (N >>> (8 * (pc + 1))) % 256 = b := by
  simp only [jw2, Bool.and_eq_true, Nat.blt_eq, Nat.beq_eq] at h
  obtain ⟨⟨⟨h1, h2⟩, h3⟩, h4⟩ := h
  rw [jn_sh N pc 1]
  generalize N >>> (8 * pc) = M at *
  rw [Nat.shiftRight_eq_div_pow, show (2 : Nat) ^ (8 * 1) = 256 from rfl]
  omega
theorem jw3_spec {N S pc a b c : Nat} (h : jw3 N S pc a b c = true) : pc + 2 < S ∧ (N >>> (8 * pc)) % 256 = a ∧ (N >>> (8 * (pc + 1))) % 256 = b ∧ (N >>> (8 * (pc + 2))) % 256 = c := by
  simp only [jw3, Bool.and_eq_true, Nat.blt_eq, Nat.beq_eq] at h
  obtain ⟨⟨⟨⟨h1, h2⟩, h3⟩, h4⟩, h5⟩ := h
  rw [jn_sh N pc 1, jn_sh N pc 2]
  generalize N >>> (8 * pc) = M at *
  rw [Nat.shiftRight_eq_div_pow, Nat.shiftRight_eq_div_pow, show (2 : Nat) ^ (8 * 1) = 256 from rfl, show (2 : Nat) ^ (8 * 2) = 65536 from rfl]
  omega
theorem ju1 {code : ByteArray} {N S i b : Nat} (h : jn_is code N S) (hi : i < S) (hb : (N >>> (8 * i)) % 256 = b) : (Reader.u1 : Decoder Nat) code i = (Except.ok (b, i + 1) : Except DecodeError (Nat × Nat)) := by
  have hs := jn_size h
  have hi' : i < code.size := by omega
  have h2 := jn_at h hi'
  rw [hb] at h2
  subst h2
  show (if h : i < code.size then (do set (i + 1); Pure.pure code[i].toNat) else throw (HasTruncated.truncated i) : Decoder Nat) code i = _
  rw [dif_pos hi']
  rfl
theorem jbind {α β : Type} {x : Decoder α} {f : α → Decoder β} {code : ByteArray} {i j : Nat} {a : α} (h : x code i = Except.ok (a, j)) : (x >>= f) code i = f a code j := by
  show Except.bind (x code i) _ = _
  rw [h]
  rfl
theorem jdec {code : ByteArray} {pc j : Nat} {ins : Instr} (h : Decoder.instr pc code pc = Except.ok (ins, j)) : decode code pc = .ok (ins, j - pc) := by
  show Except.bind (Decoder.instr pc code pc) _ = _
  rw [h]
  rfl
theorem ju2 {code : ByteArray} {N S i b d : Nat} (h : jn_is code N S) (hi : i + 1 < S) (hb : (N >>> (8 * i)) % 256 = b) (hd : (N >>> (8 * (i + 1))) % 256 = d) : (Reader.u2 : Decoder Nat) code i = (Except.ok (b * 256 + d, i + 2) : Except DecodeError (Nat × Nat)) := by
  unfold Reader.u2
  refine (jbind (ju1 h (by omega) hb)).trans ?_
  refine (jbind (ju1 h (by omega) hd)).trans ?_
  rfl
theorem js2 {code : ByteArray} {N S i b d : Nat} (h : jn_is code N S) (hi : i + 1 < S) (hb : (N >>> (8 * i)) % 256 = b) (hd : (N >>> (8 * (i + 1))) % 256 = d) : (Reader.s2 : Decoder Int) code i = (Except.ok (Reader.signed 16 (b * 256 + d), i + 2) : Except DecodeError (Int × Nat)) := by
  unfold Reader.s2
  show Except.map _ ((Reader.u2 : Decoder Nat) code i) = _
  rw [ju2 h hi hb hd]
  rfl
theorem js1 {code : ByteArray} {N S i b : Nat} (h : jn_is code N S) (hi : i < S) (hb : (N >>> (8 * i)) % 256 = b) : (Reader.s1 : Decoder Int) code i = (Except.ok (Reader.signed 8 b, i + 1) : Except DecodeError (Int × Nat)) := by
  unfold Reader.s1
  show Except.map _ ((Reader.u1 : Decoder Nat) code i) = _
  rw [ju1 h hi hb]
  rfl
set_option maxRecDepth 20000 in
theorem jd_1 {code : ByteArray} {N S pc : Nat} (h : jn_is code N S) (hw : jw1 N S pc 1 = true) : decode code pc = .ok (.aconst_null, 1) := by
  obtain ⟨h1, h2⟩ := jw1_spec hw
  have h3 : Decoder.instr pc code pc = Except.ok (.aconst_null, pc + 1) := by
    unfold Decoder.instr
    exact (jbind (ju1 h h1 h2)).trans rfl
  rw [jdec h3, Nat.add_sub_cancel_left]
set_option maxRecDepth 20000 in
theorem jd_2 {code : ByteArray} {N S pc : Nat} (h : jn_is code N S) (hw : jw1 N S pc 2 = true) : decode code pc = .ok ((.iconst (-1)), 1) := by
  obtain ⟨h1, h2⟩ := jw1_spec hw
  have h3 : Decoder.instr pc code pc = Except.ok ((.iconst (-1)), pc + 1) := by
    unfold Decoder.instr
    exact (jbind (ju1 h h1 h2)).trans rfl
  rw [jdec h3, Nat.add_sub_cancel_left]
set_option maxRecDepth 20000 in
theorem jd_3 {code : ByteArray} {N S pc : Nat} (h : jn_is code N S) (hw : jw1 N S pc 3 = true) : decode code pc = .ok ((.iconst 0), 1) := by
  obtain ⟨h1, h2⟩ := jw1_spec hw
  have h3 : Decoder.instr pc code pc = Except.ok ((.iconst 0), pc + 1) := by
    unfold Decoder.instr
    exact (jbind (ju1 h h1 h2)).trans rfl
  rw [jdec h3, Nat.add_sub_cancel_left]
set_option maxRecDepth 20000 in
theorem jd_4 {code : ByteArray} {N S pc : Nat} (h : jn_is code N S) (hw : jw1 N S pc 4 = true) : decode code pc = .ok ((.iconst 1), 1) := by
  obtain ⟨h1, h2⟩ := jw1_spec hw
  have h3 : Decoder.instr pc code pc = Except.ok ((.iconst 1), pc + 1) := by
    unfold Decoder.instr
    exact (jbind (ju1 h h1 h2)).trans rfl
  rw [jdec h3, Nat.add_sub_cancel_left]
set_option maxRecDepth 20000 in
theorem jd_5 {code : ByteArray} {N S pc : Nat} (h : jn_is code N S) (hw : jw1 N S pc 5 = true) : decode code pc = .ok ((.iconst 2), 1) := by
  obtain ⟨h1, h2⟩ := jw1_spec hw
  have h3 : Decoder.instr pc code pc = Except.ok ((.iconst 2), pc + 1) := by
    unfold Decoder.instr
    exact (jbind (ju1 h h1 h2)).trans rfl
  rw [jdec h3, Nat.add_sub_cancel_left]
set_option maxRecDepth 20000 in
theorem jd_6 {code : ByteArray} {N S pc : Nat} (h : jn_is code N S) (hw : jw1 N S pc 6 = true) : decode code pc = .ok ((.iconst 3), 1) := by
  obtain ⟨h1, h2⟩ := jw1_spec hw
  have h3 : Decoder.instr pc code pc = Except.ok ((.iconst 3), pc + 1) := by
    unfold Decoder.instr
    exact (jbind (ju1 h h1 h2)).trans rfl
  rw [jdec h3, Nat.add_sub_cancel_left]
set_option maxRecDepth 20000 in
theorem jd_7 {code : ByteArray} {N S pc : Nat} (h : jn_is code N S) (hw : jw1 N S pc 7 = true) : decode code pc = .ok ((.iconst 4), 1) := by
  obtain ⟨h1, h2⟩ := jw1_spec hw
  have h3 : Decoder.instr pc code pc = Except.ok ((.iconst 4), pc + 1) := by
    unfold Decoder.instr
    exact (jbind (ju1 h h1 h2)).trans rfl
  rw [jdec h3, Nat.add_sub_cancel_left]
set_option maxRecDepth 20000 in
theorem jd_8 {code : ByteArray} {N S pc : Nat} (h : jn_is code N S) (hw : jw1 N S pc 8 = true) : decode code pc = .ok ((.iconst 5), 1) := by
  obtain ⟨h1, h2⟩ := jw1_spec hw
  have h3 : Decoder.instr pc code pc = Except.ok ((.iconst 5), pc + 1) := by
    unfold Decoder.instr
    exact (jbind (ju1 h h1 h2)).trans rfl
  rw [jdec h3, Nat.add_sub_cancel_left]
set_option maxRecDepth 20000 in
theorem jd_9 {code : ByteArray} {N S pc : Nat} (h : jn_is code N S) (hw : jw1 N S pc 9 = true) : decode code pc = .ok ((.lconst 0), 1) := by
  obtain ⟨h1, h2⟩ := jw1_spec hw
  have h3 : Decoder.instr pc code pc = Except.ok ((.lconst 0), pc + 1) := by
    unfold Decoder.instr
    exact (jbind (ju1 h h1 h2)).trans rfl
  rw [jdec h3, Nat.add_sub_cancel_left]
set_option maxRecDepth 20000 in
theorem jd_10 {code : ByteArray} {N S pc : Nat} (h : jn_is code N S) (hw : jw1 N S pc 10 = true) : decode code pc = .ok ((.lconst 1), 1) := by
  obtain ⟨h1, h2⟩ := jw1_spec hw
  have h3 : Decoder.instr pc code pc = Except.ok ((.lconst 1), pc + 1) := by
    unfold Decoder.instr
    exact (jbind (ju1 h h1 h2)).trans rfl
  rw [jdec h3, Nat.add_sub_cancel_left]
set_option maxRecDepth 20000 in
theorem jd_26 {code : ByteArray} {N S pc : Nat} (h : jn_is code N S) (hw : jw1 N S pc 26 = true) : decode code pc = .ok ((.iload_n 0), 1) := by
  obtain ⟨h1, h2⟩ := jw1_spec hw
  have h3 : Decoder.instr pc code pc = Except.ok ((.iload_n 0), pc + 1) := by
    unfold Decoder.instr
    exact (jbind (ju1 h h1 h2)).trans rfl
  rw [jdec h3, Nat.add_sub_cancel_left]
set_option maxRecDepth 20000 in
theorem jd_27 {code : ByteArray} {N S pc : Nat} (h : jn_is code N S) (hw : jw1 N S pc 27 = true) : decode code pc = .ok ((.iload_n 1), 1) := by
  obtain ⟨h1, h2⟩ := jw1_spec hw
  have h3 : Decoder.instr pc code pc = Except.ok ((.iload_n 1), pc + 1) := by
    unfold Decoder.instr
    exact (jbind (ju1 h h1 h2)).trans rfl
  rw [jdec h3, Nat.add_sub_cancel_left]
set_option maxRecDepth 20000 in
theorem jd_28 {code : ByteArray} {N S pc : Nat} (h : jn_is code N S) (hw : jw1 N S pc 28 = true) : decode code pc = .ok ((.iload_n 2), 1) := by
  obtain ⟨h1, h2⟩ := jw1_spec hw
  have h3 : Decoder.instr pc code pc = Except.ok ((.iload_n 2), pc + 1) := by
    unfold Decoder.instr
    exact (jbind (ju1 h h1 h2)).trans rfl
  rw [jdec h3, Nat.add_sub_cancel_left]
set_option maxRecDepth 20000 in
theorem jd_29 {code : ByteArray} {N S pc : Nat} (h : jn_is code N S) (hw : jw1 N S pc 29 = true) : decode code pc = .ok ((.iload_n 3), 1) := by
  obtain ⟨h1, h2⟩ := jw1_spec hw
  have h3 : Decoder.instr pc code pc = Except.ok ((.iload_n 3), pc + 1) := by
    unfold Decoder.instr
    exact (jbind (ju1 h h1 h2)).trans rfl
  rw [jdec h3, Nat.add_sub_cancel_left]
set_option maxRecDepth 20000 in
theorem jd_30 {code : ByteArray} {N S pc : Nat} (h : jn_is code N S) (hw : jw1 N S pc 30 = true) : decode code pc = .ok ((.lload_n 0), 1) := by
  obtain ⟨h1, h2⟩ := jw1_spec hw
  have h3 : Decoder.instr pc code pc = Except.ok ((.lload_n 0), pc + 1) := by
    unfold Decoder.instr
    exact (jbind (ju1 h h1 h2)).trans rfl
  rw [jdec h3, Nat.add_sub_cancel_left]
set_option maxRecDepth 20000 in
theorem jd_31 {code : ByteArray} {N S pc : Nat} (h : jn_is code N S) (hw : jw1 N S pc 31 = true) : decode code pc = .ok ((.lload_n 1), 1) := by
  obtain ⟨h1, h2⟩ := jw1_spec hw
  have h3 : Decoder.instr pc code pc = Except.ok ((.lload_n 1), pc + 1) := by
    unfold Decoder.instr
    exact (jbind (ju1 h h1 h2)).trans rfl
  rw [jdec h3, Nat.add_sub_cancel_left]
set_option maxRecDepth 20000 in
theorem jd_32 {code : ByteArray} {N S pc : Nat} (h : jn_is code N S) (hw : jw1 N S pc 32 = true) : decode code pc = .ok ((.lload_n 2), 1) := by
  obtain ⟨h1, h2⟩ := jw1_spec hw
  have h3 : Decoder.instr pc code pc = Except.ok ((.lload_n 2), pc + 1) := by
    unfold Decoder.instr
    exact (jbind (ju1 h h1 h2)).trans rfl
  rw [jdec h3, Nat.add_sub_cancel_left]
set_option maxRecDepth 20000 in
theorem jd_33 {code : ByteArray} {N S pc : Nat} (h : jn_is code N S) (hw : jw1 N S pc 33 = true) : decode code pc = .ok ((.lload_n 3), 1) := by
  obtain ⟨h1, h2⟩ := jw1_spec hw
  have h3 : Decoder.instr pc code pc = Except.ok ((.lload_n 3), pc + 1) := by
    unfold Decoder.instr
    exact (jbind (ju1 h h1 h2)).trans rfl
  rw [jdec h3, Nat.add_sub_cancel_left]
set_option maxRecDepth 20000 in
theorem jd_42 {code : ByteArray} {N S pc : Nat} (h : jn_is code N S) (hw : jw1 N S pc 42 = true) : decode code pc = .ok ((.aload_n 0), 1) := by
  obtain ⟨h1, h2⟩ := jw1_spec hw
  have h3 : Decoder.instr pc code pc = Except.ok ((.aload_n 0), pc + 1) := by
    unfold Decoder.instr
    exact (jbind (ju1 h h1 h2)).trans rfl
  rw [jdec h3, Nat.add_sub_cancel_left]
set_option maxRecDepth 20000 in
theorem jd_43 {code : ByteArray} {N S pc : Nat} (h : jn_is code N S) (hw : jw1 N S pc 43 = true) : decode code pc = .ok ((.aload_n 1), 1) := by
  obtain ⟨h1, h2⟩ := jw1_spec hw
  have h3 : Decoder.instr pc code pc = Except.ok ((.aload_n 1), pc + 1) := by
    unfold Decoder.instr
    exact (jbind (ju1 h h1 h2)).trans rfl
  rw [jdec h3, Nat.add_sub_cancel_left]
set_option maxRecDepth 20000 in
theorem jd_44 {code : ByteArray} {N S pc : Nat} (h : jn_is code N S) (hw : jw1 N S pc 44 = true) : decode code pc = .ok ((.aload_n 2), 1) := by
  obtain ⟨h1, h2⟩ := jw1_spec hw
  have h3 : Decoder.instr pc code pc = Except.ok ((.aload_n 2), pc + 1) := by
    unfold Decoder.instr
    exact (jbind (ju1 h h1 h2)).trans rfl
  rw [jdec h3, Nat.add_sub_cancel_left]
set_option maxRecDepth 20000 in
theorem jd_45 {code : ByteArray} {N S pc : Nat} (h : jn_is code N S) (hw : jw1 N S pc 45 = true) : decode code pc = .ok ((.aload_n 3), 1) := by
  obtain ⟨h1, h2⟩ := jw1_spec hw
  have h3 : Decoder.instr pc code pc = Except.ok ((.aload_n 3), pc + 1) := by
    unfold Decoder.instr
    exact (jbind (ju1 h h1 h2)).trans rfl
  rw [jdec h3, Nat.add_sub_cancel_left]
set_option maxRecDepth 20000 in
theorem jd_46 {code : ByteArray} {N S pc : Nat} (h : jn_is code N S) (hw : jw1 N S pc 46 = true) : decode code pc = .ok (.iaload, 1) := by
  obtain ⟨h1, h2⟩ := jw1_spec hw
  have h3 : Decoder.instr pc code pc = Except.ok (.iaload, pc + 1) := by
    unfold Decoder.instr
    exact (jbind (ju1 h h1 h2)).trans rfl
  rw [jdec h3, Nat.add_sub_cancel_left]
set_option maxRecDepth 20000 in
theorem jd_47 {code : ByteArray} {N S pc : Nat} (h : jn_is code N S) (hw : jw1 N S pc 47 = true) : decode code pc = .ok (.laload, 1) := by
  obtain ⟨h1, h2⟩ := jw1_spec hw
  have h3 : Decoder.instr pc code pc = Except.ok (.laload, pc + 1) := by
    unfold Decoder.instr
    exact (jbind (ju1 h h1 h2)).trans rfl
  rw [jdec h3, Nat.add_sub_cancel_left]
set_option maxRecDepth 20000 in
theorem jd_50 {code : ByteArray} {N S pc : Nat} (h : jn_is code N S) (hw : jw1 N S pc 50 = true) : decode code pc = .ok (.aaload, 1) := by
  obtain ⟨h1, h2⟩ := jw1_spec hw
  have h3 : Decoder.instr pc code pc = Except.ok (.aaload, pc + 1) := by
    unfold Decoder.instr
    exact (jbind (ju1 h h1 h2)).trans rfl
  rw [jdec h3, Nat.add_sub_cancel_left]
set_option maxRecDepth 20000 in
theorem jd_51 {code : ByteArray} {N S pc : Nat} (h : jn_is code N S) (hw : jw1 N S pc 51 = true) : decode code pc = .ok (.baload, 1) := by
  obtain ⟨h1, h2⟩ := jw1_spec hw
  have h3 : Decoder.instr pc code pc = Except.ok (.baload, pc + 1) := by
    unfold Decoder.instr
    exact (jbind (ju1 h h1 h2)).trans rfl
  rw [jdec h3, Nat.add_sub_cancel_left]
set_option maxRecDepth 20000 in
theorem jd_59 {code : ByteArray} {N S pc : Nat} (h : jn_is code N S) (hw : jw1 N S pc 59 = true) : decode code pc = .ok ((.istore_n 0), 1) := by
  obtain ⟨h1, h2⟩ := jw1_spec hw
  have h3 : Decoder.instr pc code pc = Except.ok ((.istore_n 0), pc + 1) := by
    unfold Decoder.instr
    exact (jbind (ju1 h h1 h2)).trans rfl
  rw [jdec h3, Nat.add_sub_cancel_left]
set_option maxRecDepth 20000 in
theorem jd_60 {code : ByteArray} {N S pc : Nat} (h : jn_is code N S) (hw : jw1 N S pc 60 = true) : decode code pc = .ok ((.istore_n 1), 1) := by
  obtain ⟨h1, h2⟩ := jw1_spec hw
  have h3 : Decoder.instr pc code pc = Except.ok ((.istore_n 1), pc + 1) := by
    unfold Decoder.instr
    exact (jbind (ju1 h h1 h2)).trans rfl
  rw [jdec h3, Nat.add_sub_cancel_left]
set_option maxRecDepth 20000 in
theorem jd_61 {code : ByteArray} {N S pc : Nat} (h : jn_is code N S) (hw : jw1 N S pc 61 = true) : decode code pc = .ok ((.istore_n 2), 1) := by
  obtain ⟨h1, h2⟩ := jw1_spec hw
  have h3 : Decoder.instr pc code pc = Except.ok ((.istore_n 2), pc + 1) := by
    unfold Decoder.instr
    exact (jbind (ju1 h h1 h2)).trans rfl
  rw [jdec h3, Nat.add_sub_cancel_left]
set_option maxRecDepth 20000 in
theorem jd_62 {code : ByteArray} {N S pc : Nat} (h : jn_is code N S) (hw : jw1 N S pc 62 = true) : decode code pc = .ok ((.istore_n 3), 1) := by
  obtain ⟨h1, h2⟩ := jw1_spec hw
  have h3 : Decoder.instr pc code pc = Except.ok ((.istore_n 3), pc + 1) := by
    unfold Decoder.instr
    exact (jbind (ju1 h h1 h2)).trans rfl
  rw [jdec h3, Nat.add_sub_cancel_left]
set_option maxRecDepth 20000 in
theorem jd_63 {code : ByteArray} {N S pc : Nat} (h : jn_is code N S) (hw : jw1 N S pc 63 = true) : decode code pc = .ok ((.lstore_n 0), 1) := by
  obtain ⟨h1, h2⟩ := jw1_spec hw
  have h3 : Decoder.instr pc code pc = Except.ok ((.lstore_n 0), pc + 1) := by
    unfold Decoder.instr
    exact (jbind (ju1 h h1 h2)).trans rfl
  rw [jdec h3, Nat.add_sub_cancel_left]
set_option maxRecDepth 20000 in
theorem jd_64 {code : ByteArray} {N S pc : Nat} (h : jn_is code N S) (hw : jw1 N S pc 64 = true) : decode code pc = .ok ((.lstore_n 1), 1) := by
  obtain ⟨h1, h2⟩ := jw1_spec hw
  have h3 : Decoder.instr pc code pc = Except.ok ((.lstore_n 1), pc + 1) := by
    unfold Decoder.instr
    exact (jbind (ju1 h h1 h2)).trans rfl
  rw [jdec h3, Nat.add_sub_cancel_left]
set_option maxRecDepth 20000 in
theorem jd_65 {code : ByteArray} {N S pc : Nat} (h : jn_is code N S) (hw : jw1 N S pc 65 = true) : decode code pc = .ok ((.lstore_n 2), 1) := by
  obtain ⟨h1, h2⟩ := jw1_spec hw
  have h3 : Decoder.instr pc code pc = Except.ok ((.lstore_n 2), pc + 1) := by
    unfold Decoder.instr
    exact (jbind (ju1 h h1 h2)).trans rfl
  rw [jdec h3, Nat.add_sub_cancel_left]
set_option maxRecDepth 20000 in
theorem jd_66 {code : ByteArray} {N S pc : Nat} (h : jn_is code N S) (hw : jw1 N S pc 66 = true) : decode code pc = .ok ((.lstore_n 3), 1) := by
  obtain ⟨h1, h2⟩ := jw1_spec hw
  have h3 : Decoder.instr pc code pc = Except.ok ((.lstore_n 3), pc + 1) := by
    unfold Decoder.instr
    exact (jbind (ju1 h h1 h2)).trans rfl
  rw [jdec h3, Nat.add_sub_cancel_left]
set_option maxRecDepth 20000 in
theorem jd_75 {code : ByteArray} {N S pc : Nat} (h : jn_is code N S) (hw : jw1 N S pc 75 = true) : decode code pc = .ok ((.astore_n 0), 1) := by
  obtain ⟨h1, h2⟩ := jw1_spec hw
  have h3 : Decoder.instr pc code pc = Except.ok ((.astore_n 0), pc + 1) := by
    unfold Decoder.instr
    exact (jbind (ju1 h h1 h2)).trans rfl
  rw [jdec h3, Nat.add_sub_cancel_left]
set_option maxRecDepth 20000 in
theorem jd_76 {code : ByteArray} {N S pc : Nat} (h : jn_is code N S) (hw : jw1 N S pc 76 = true) : decode code pc = .ok ((.astore_n 1), 1) := by
  obtain ⟨h1, h2⟩ := jw1_spec hw
  have h3 : Decoder.instr pc code pc = Except.ok ((.astore_n 1), pc + 1) := by
    unfold Decoder.instr
    exact (jbind (ju1 h h1 h2)).trans rfl
  rw [jdec h3, Nat.add_sub_cancel_left]
set_option maxRecDepth 20000 in
theorem jd_77 {code : ByteArray} {N S pc : Nat} (h : jn_is code N S) (hw : jw1 N S pc 77 = true) : decode code pc = .ok ((.astore_n 2), 1) := by
  obtain ⟨h1, h2⟩ := jw1_spec hw
  have h3 : Decoder.instr pc code pc = Except.ok ((.astore_n 2), pc + 1) := by
    unfold Decoder.instr
    exact (jbind (ju1 h h1 h2)).trans rfl
  rw [jdec h3, Nat.add_sub_cancel_left]
set_option maxRecDepth 20000 in
theorem jd_78 {code : ByteArray} {N S pc : Nat} (h : jn_is code N S) (hw : jw1 N S pc 78 = true) : decode code pc = .ok ((.astore_n 3), 1) := by
  obtain ⟨h1, h2⟩ := jw1_spec hw
  have h3 : Decoder.instr pc code pc = Except.ok ((.astore_n 3), pc + 1) := by
    unfold Decoder.instr
    exact (jbind (ju1 h h1 h2)).trans rfl
  rw [jdec h3, Nat.add_sub_cancel_left]
set_option maxRecDepth 20000 in
theorem jd_79 {code : ByteArray} {N S pc : Nat} (h : jn_is code N S) (hw : jw1 N S pc 79 = true) : decode code pc = .ok (.iastore, 1) := by
  obtain ⟨h1, h2⟩ := jw1_spec hw
  have h3 : Decoder.instr pc code pc = Except.ok (.iastore, pc + 1) := by
    unfold Decoder.instr
    exact (jbind (ju1 h h1 h2)).trans rfl
  rw [jdec h3, Nat.add_sub_cancel_left]
set_option maxRecDepth 20000 in
theorem jd_80 {code : ByteArray} {N S pc : Nat} (h : jn_is code N S) (hw : jw1 N S pc 80 = true) : decode code pc = .ok (.lastore, 1) := by
  obtain ⟨h1, h2⟩ := jw1_spec hw
  have h3 : Decoder.instr pc code pc = Except.ok (.lastore, pc + 1) := by
    unfold Decoder.instr
    exact (jbind (ju1 h h1 h2)).trans rfl
  rw [jdec h3, Nat.add_sub_cancel_left]
set_option maxRecDepth 20000 in
theorem jd_83 {code : ByteArray} {N S pc : Nat} (h : jn_is code N S) (hw : jw1 N S pc 83 = true) : decode code pc = .ok (.aastore, 1) := by
  obtain ⟨h1, h2⟩ := jw1_spec hw
  have h3 : Decoder.instr pc code pc = Except.ok (.aastore, pc + 1) := by
    unfold Decoder.instr
    exact (jbind (ju1 h h1 h2)).trans rfl
  rw [jdec h3, Nat.add_sub_cancel_left]
set_option maxRecDepth 20000 in
theorem jd_84 {code : ByteArray} {N S pc : Nat} (h : jn_is code N S) (hw : jw1 N S pc 84 = true) : decode code pc = .ok (.bastore, 1) := by
  obtain ⟨h1, h2⟩ := jw1_spec hw
  have h3 : Decoder.instr pc code pc = Except.ok (.bastore, pc + 1) := by
    unfold Decoder.instr
    exact (jbind (ju1 h h1 h2)).trans rfl
  rw [jdec h3, Nat.add_sub_cancel_left]
set_option maxRecDepth 20000 in
theorem jd_87 {code : ByteArray} {N S pc : Nat} (h : jn_is code N S) (hw : jw1 N S pc 87 = true) : decode code pc = .ok (.pop, 1) := by
  obtain ⟨h1, h2⟩ := jw1_spec hw
  have h3 : Decoder.instr pc code pc = Except.ok (.pop, pc + 1) := by
    unfold Decoder.instr
    exact (jbind (ju1 h h1 h2)).trans rfl
  rw [jdec h3, Nat.add_sub_cancel_left]
set_option maxRecDepth 20000 in
theorem jd_88 {code : ByteArray} {N S pc : Nat} (h : jn_is code N S) (hw : jw1 N S pc 88 = true) : decode code pc = .ok (.pop2, 1) := by
  obtain ⟨h1, h2⟩ := jw1_spec hw
  have h3 : Decoder.instr pc code pc = Except.ok (.pop2, pc + 1) := by
    unfold Decoder.instr
    exact (jbind (ju1 h h1 h2)).trans rfl
  rw [jdec h3, Nat.add_sub_cancel_left]
set_option maxRecDepth 20000 in
theorem jd_89 {code : ByteArray} {N S pc : Nat} (h : jn_is code N S) (hw : jw1 N S pc 89 = true) : decode code pc = .ok (.dup, 1) := by
  obtain ⟨h1, h2⟩ := jw1_spec hw
  have h3 : Decoder.instr pc code pc = Except.ok (.dup, pc + 1) := by
    unfold Decoder.instr
    exact (jbind (ju1 h h1 h2)).trans rfl
  rw [jdec h3, Nat.add_sub_cancel_left]
set_option maxRecDepth 20000 in
theorem jd_92 {code : ByteArray} {N S pc : Nat} (h : jn_is code N S) (hw : jw1 N S pc 92 = true) : decode code pc = .ok (.dup2, 1) := by
  obtain ⟨h1, h2⟩ := jw1_spec hw
  have h3 : Decoder.instr pc code pc = Except.ok (.dup2, pc + 1) := by
    unfold Decoder.instr
    exact (jbind (ju1 h h1 h2)).trans rfl
  rw [jdec h3, Nat.add_sub_cancel_left]
set_option maxRecDepth 20000 in
theorem jd_96 {code : ByteArray} {N S pc : Nat} (h : jn_is code N S) (hw : jw1 N S pc 96 = true) : decode code pc = .ok (.iadd, 1) := by
  obtain ⟨h1, h2⟩ := jw1_spec hw
  have h3 : Decoder.instr pc code pc = Except.ok (.iadd, pc + 1) := by
    unfold Decoder.instr
    exact (jbind (ju1 h h1 h2)).trans rfl
  rw [jdec h3, Nat.add_sub_cancel_left]
set_option maxRecDepth 20000 in
theorem jd_97 {code : ByteArray} {N S pc : Nat} (h : jn_is code N S) (hw : jw1 N S pc 97 = true) : decode code pc = .ok (.ladd, 1) := by
  obtain ⟨h1, h2⟩ := jw1_spec hw
  have h3 : Decoder.instr pc code pc = Except.ok (.ladd, pc + 1) := by
    unfold Decoder.instr
    exact (jbind (ju1 h h1 h2)).trans rfl
  rw [jdec h3, Nat.add_sub_cancel_left]
set_option maxRecDepth 20000 in
theorem jd_100 {code : ByteArray} {N S pc : Nat} (h : jn_is code N S) (hw : jw1 N S pc 100 = true) : decode code pc = .ok (.isub, 1) := by
  obtain ⟨h1, h2⟩ := jw1_spec hw
  have h3 : Decoder.instr pc code pc = Except.ok (.isub, pc + 1) := by
    unfold Decoder.instr
    exact (jbind (ju1 h h1 h2)).trans rfl
  rw [jdec h3, Nat.add_sub_cancel_left]
set_option maxRecDepth 20000 in
theorem jd_101 {code : ByteArray} {N S pc : Nat} (h : jn_is code N S) (hw : jw1 N S pc 101 = true) : decode code pc = .ok (.lsub, 1) := by
  obtain ⟨h1, h2⟩ := jw1_spec hw
  have h3 : Decoder.instr pc code pc = Except.ok (.lsub, pc + 1) := by
    unfold Decoder.instr
    exact (jbind (ju1 h h1 h2)).trans rfl
  rw [jdec h3, Nat.add_sub_cancel_left]
set_option maxRecDepth 20000 in
theorem jd_104 {code : ByteArray} {N S pc : Nat} (h : jn_is code N S) (hw : jw1 N S pc 104 = true) : decode code pc = .ok (.imul, 1) := by
  obtain ⟨h1, h2⟩ := jw1_spec hw
  have h3 : Decoder.instr pc code pc = Except.ok (.imul, pc + 1) := by
    unfold Decoder.instr
    exact (jbind (ju1 h h1 h2)).trans rfl
  rw [jdec h3, Nat.add_sub_cancel_left]
set_option maxRecDepth 20000 in
theorem jd_105 {code : ByteArray} {N S pc : Nat} (h : jn_is code N S) (hw : jw1 N S pc 105 = true) : decode code pc = .ok (.lmul, 1) := by
  obtain ⟨h1, h2⟩ := jw1_spec hw
  have h3 : Decoder.instr pc code pc = Except.ok (.lmul, pc + 1) := by
    unfold Decoder.instr
    exact (jbind (ju1 h h1 h2)).trans rfl
  rw [jdec h3, Nat.add_sub_cancel_left]
set_option maxRecDepth 20000 in
theorem jd_108 {code : ByteArray} {N S pc : Nat} (h : jn_is code N S) (hw : jw1 N S pc 108 = true) : decode code pc = .ok (.idiv, 1) := by
  obtain ⟨h1, h2⟩ := jw1_spec hw
  have h3 : Decoder.instr pc code pc = Except.ok (.idiv, pc + 1) := by
    unfold Decoder.instr
    exact (jbind (ju1 h h1 h2)).trans rfl
  rw [jdec h3, Nat.add_sub_cancel_left]
set_option maxRecDepth 20000 in
theorem jd_109 {code : ByteArray} {N S pc : Nat} (h : jn_is code N S) (hw : jw1 N S pc 109 = true) : decode code pc = .ok (.ldiv, 1) := by
  obtain ⟨h1, h2⟩ := jw1_spec hw
  have h3 : Decoder.instr pc code pc = Except.ok (.ldiv, pc + 1) := by
    unfold Decoder.instr
    exact (jbind (ju1 h h1 h2)).trans rfl
  rw [jdec h3, Nat.add_sub_cancel_left]
set_option maxRecDepth 20000 in
theorem jd_112 {code : ByteArray} {N S pc : Nat} (h : jn_is code N S) (hw : jw1 N S pc 112 = true) : decode code pc = .ok (.irem, 1) := by
  obtain ⟨h1, h2⟩ := jw1_spec hw
  have h3 : Decoder.instr pc code pc = Except.ok (.irem, pc + 1) := by
    unfold Decoder.instr
    exact (jbind (ju1 h h1 h2)).trans rfl
  rw [jdec h3, Nat.add_sub_cancel_left]
set_option maxRecDepth 20000 in
theorem jd_113 {code : ByteArray} {N S pc : Nat} (h : jn_is code N S) (hw : jw1 N S pc 113 = true) : decode code pc = .ok (.lrem, 1) := by
  obtain ⟨h1, h2⟩ := jw1_spec hw
  have h3 : Decoder.instr pc code pc = Except.ok (.lrem, pc + 1) := by
    unfold Decoder.instr
    exact (jbind (ju1 h h1 h2)).trans rfl
  rw [jdec h3, Nat.add_sub_cancel_left]
set_option maxRecDepth 20000 in
theorem jd_116 {code : ByteArray} {N S pc : Nat} (h : jn_is code N S) (hw : jw1 N S pc 116 = true) : decode code pc = .ok (.ineg, 1) := by
  obtain ⟨h1, h2⟩ := jw1_spec hw
  have h3 : Decoder.instr pc code pc = Except.ok (.ineg, pc + 1) := by
    unfold Decoder.instr
    exact (jbind (ju1 h h1 h2)).trans rfl
  rw [jdec h3, Nat.add_sub_cancel_left]
set_option maxRecDepth 20000 in
theorem jd_117 {code : ByteArray} {N S pc : Nat} (h : jn_is code N S) (hw : jw1 N S pc 117 = true) : decode code pc = .ok (.lneg, 1) := by
  obtain ⟨h1, h2⟩ := jw1_spec hw
  have h3 : Decoder.instr pc code pc = Except.ok (.lneg, pc + 1) := by
    unfold Decoder.instr
    exact (jbind (ju1 h h1 h2)).trans rfl
  rw [jdec h3, Nat.add_sub_cancel_left]
set_option maxRecDepth 20000 in
theorem jd_120 {code : ByteArray} {N S pc : Nat} (h : jn_is code N S) (hw : jw1 N S pc 120 = true) : decode code pc = .ok (.ishl, 1) := by
  obtain ⟨h1, h2⟩ := jw1_spec hw
  have h3 : Decoder.instr pc code pc = Except.ok (.ishl, pc + 1) := by
    unfold Decoder.instr
    exact (jbind (ju1 h h1 h2)).trans rfl
  rw [jdec h3, Nat.add_sub_cancel_left]
set_option maxRecDepth 20000 in
theorem jd_121 {code : ByteArray} {N S pc : Nat} (h : jn_is code N S) (hw : jw1 N S pc 121 = true) : decode code pc = .ok (.lshl, 1) := by
  obtain ⟨h1, h2⟩ := jw1_spec hw
  have h3 : Decoder.instr pc code pc = Except.ok (.lshl, pc + 1) := by
    unfold Decoder.instr
    exact (jbind (ju1 h h1 h2)).trans rfl
  rw [jdec h3, Nat.add_sub_cancel_left]
set_option maxRecDepth 20000 in
theorem jd_122 {code : ByteArray} {N S pc : Nat} (h : jn_is code N S) (hw : jw1 N S pc 122 = true) : decode code pc = .ok (.ishr, 1) := by
  obtain ⟨h1, h2⟩ := jw1_spec hw
  have h3 : Decoder.instr pc code pc = Except.ok (.ishr, pc + 1) := by
    unfold Decoder.instr
    exact (jbind (ju1 h h1 h2)).trans rfl
  rw [jdec h3, Nat.add_sub_cancel_left]
set_option maxRecDepth 20000 in
theorem jd_123 {code : ByteArray} {N S pc : Nat} (h : jn_is code N S) (hw : jw1 N S pc 123 = true) : decode code pc = .ok (.lshr, 1) := by
  obtain ⟨h1, h2⟩ := jw1_spec hw
  have h3 : Decoder.instr pc code pc = Except.ok (.lshr, pc + 1) := by
    unfold Decoder.instr
    exact (jbind (ju1 h h1 h2)).trans rfl
  rw [jdec h3, Nat.add_sub_cancel_left]
set_option maxRecDepth 20000 in
theorem jd_124 {code : ByteArray} {N S pc : Nat} (h : jn_is code N S) (hw : jw1 N S pc 124 = true) : decode code pc = .ok (.iushr, 1) := by
  obtain ⟨h1, h2⟩ := jw1_spec hw
  have h3 : Decoder.instr pc code pc = Except.ok (.iushr, pc + 1) := by
    unfold Decoder.instr
    exact (jbind (ju1 h h1 h2)).trans rfl
  rw [jdec h3, Nat.add_sub_cancel_left]
set_option maxRecDepth 20000 in
theorem jd_125 {code : ByteArray} {N S pc : Nat} (h : jn_is code N S) (hw : jw1 N S pc 125 = true) : decode code pc = .ok (.lushr, 1) := by
  obtain ⟨h1, h2⟩ := jw1_spec hw
  have h3 : Decoder.instr pc code pc = Except.ok (.lushr, pc + 1) := by
    unfold Decoder.instr
    exact (jbind (ju1 h h1 h2)).trans rfl
  rw [jdec h3, Nat.add_sub_cancel_left]
set_option maxRecDepth 20000 in
theorem jd_126 {code : ByteArray} {N S pc : Nat} (h : jn_is code N S) (hw : jw1 N S pc 126 = true) : decode code pc = .ok (.iand, 1) := by
  obtain ⟨h1, h2⟩ := jw1_spec hw
  have h3 : Decoder.instr pc code pc = Except.ok (.iand, pc + 1) := by
    unfold Decoder.instr
    exact (jbind (ju1 h h1 h2)).trans rfl
  rw [jdec h3, Nat.add_sub_cancel_left]
set_option maxRecDepth 20000 in
theorem jd_127 {code : ByteArray} {N S pc : Nat} (h : jn_is code N S) (hw : jw1 N S pc 127 = true) : decode code pc = .ok (.land, 1) := by
  obtain ⟨h1, h2⟩ := jw1_spec hw
  have h3 : Decoder.instr pc code pc = Except.ok (.land, pc + 1) := by
    unfold Decoder.instr
    exact (jbind (ju1 h h1 h2)).trans rfl
  rw [jdec h3, Nat.add_sub_cancel_left]
set_option maxRecDepth 20000 in
theorem jd_128 {code : ByteArray} {N S pc : Nat} (h : jn_is code N S) (hw : jw1 N S pc 128 = true) : decode code pc = .ok (.ior, 1) := by
  obtain ⟨h1, h2⟩ := jw1_spec hw
  have h3 : Decoder.instr pc code pc = Except.ok (.ior, pc + 1) := by
    unfold Decoder.instr
    exact (jbind (ju1 h h1 h2)).trans rfl
  rw [jdec h3, Nat.add_sub_cancel_left]
set_option maxRecDepth 20000 in
theorem jd_129 {code : ByteArray} {N S pc : Nat} (h : jn_is code N S) (hw : jw1 N S pc 129 = true) : decode code pc = .ok (.lor, 1) := by
  obtain ⟨h1, h2⟩ := jw1_spec hw
  have h3 : Decoder.instr pc code pc = Except.ok (.lor, pc + 1) := by
    unfold Decoder.instr
    exact (jbind (ju1 h h1 h2)).trans rfl
  rw [jdec h3, Nat.add_sub_cancel_left]
set_option maxRecDepth 20000 in
theorem jd_130 {code : ByteArray} {N S pc : Nat} (h : jn_is code N S) (hw : jw1 N S pc 130 = true) : decode code pc = .ok (.ixor, 1) := by
  obtain ⟨h1, h2⟩ := jw1_spec hw
  have h3 : Decoder.instr pc code pc = Except.ok (.ixor, pc + 1) := by
    unfold Decoder.instr
    exact (jbind (ju1 h h1 h2)).trans rfl
  rw [jdec h3, Nat.add_sub_cancel_left]
set_option maxRecDepth 20000 in
theorem jd_131 {code : ByteArray} {N S pc : Nat} (h : jn_is code N S) (hw : jw1 N S pc 131 = true) : decode code pc = .ok (.lxor, 1) := by
  obtain ⟨h1, h2⟩ := jw1_spec hw
  have h3 : Decoder.instr pc code pc = Except.ok (.lxor, pc + 1) := by
    unfold Decoder.instr
    exact (jbind (ju1 h h1 h2)).trans rfl
  rw [jdec h3, Nat.add_sub_cancel_left]
set_option maxRecDepth 20000 in
theorem jd_133 {code : ByteArray} {N S pc : Nat} (h : jn_is code N S) (hw : jw1 N S pc 133 = true) : decode code pc = .ok (.i2l, 1) := by
  obtain ⟨h1, h2⟩ := jw1_spec hw
  have h3 : Decoder.instr pc code pc = Except.ok (.i2l, pc + 1) := by
    unfold Decoder.instr
    exact (jbind (ju1 h h1 h2)).trans rfl
  rw [jdec h3, Nat.add_sub_cancel_left]
set_option maxRecDepth 20000 in
theorem jd_136 {code : ByteArray} {N S pc : Nat} (h : jn_is code N S) (hw : jw1 N S pc 136 = true) : decode code pc = .ok (.l2i, 1) := by
  obtain ⟨h1, h2⟩ := jw1_spec hw
  have h3 : Decoder.instr pc code pc = Except.ok (.l2i, pc + 1) := by
    unfold Decoder.instr
    exact (jbind (ju1 h h1 h2)).trans rfl
  rw [jdec h3, Nat.add_sub_cancel_left]
set_option maxRecDepth 20000 in
theorem jd_145 {code : ByteArray} {N S pc : Nat} (h : jn_is code N S) (hw : jw1 N S pc 145 = true) : decode code pc = .ok (.i2b, 1) := by
  obtain ⟨h1, h2⟩ := jw1_spec hw
  have h3 : Decoder.instr pc code pc = Except.ok (.i2b, pc + 1) := by
    unfold Decoder.instr
    exact (jbind (ju1 h h1 h2)).trans rfl
  rw [jdec h3, Nat.add_sub_cancel_left]
set_option maxRecDepth 20000 in
theorem jd_148 {code : ByteArray} {N S pc : Nat} (h : jn_is code N S) (hw : jw1 N S pc 148 = true) : decode code pc = .ok (.lcmp, 1) := by
  obtain ⟨h1, h2⟩ := jw1_spec hw
  have h3 : Decoder.instr pc code pc = Except.ok (.lcmp, pc + 1) := by
    unfold Decoder.instr
    exact (jbind (ju1 h h1 h2)).trans rfl
  rw [jdec h3, Nat.add_sub_cancel_left]
set_option maxRecDepth 20000 in
theorem jd_172 {code : ByteArray} {N S pc : Nat} (h : jn_is code N S) (hw : jw1 N S pc 172 = true) : decode code pc = .ok (.ireturn, 1) := by
  obtain ⟨h1, h2⟩ := jw1_spec hw
  have h3 : Decoder.instr pc code pc = Except.ok (.ireturn, pc + 1) := by
    unfold Decoder.instr
    exact (jbind (ju1 h h1 h2)).trans rfl
  rw [jdec h3, Nat.add_sub_cancel_left]
set_option maxRecDepth 20000 in
theorem jd_173 {code : ByteArray} {N S pc : Nat} (h : jn_is code N S) (hw : jw1 N S pc 173 = true) : decode code pc = .ok (.lreturn, 1) := by
  obtain ⟨h1, h2⟩ := jw1_spec hw
  have h3 : Decoder.instr pc code pc = Except.ok (.lreturn, pc + 1) := by
    unfold Decoder.instr
    exact (jbind (ju1 h h1 h2)).trans rfl
  rw [jdec h3, Nat.add_sub_cancel_left]
set_option maxRecDepth 20000 in
theorem jd_176 {code : ByteArray} {N S pc : Nat} (h : jn_is code N S) (hw : jw1 N S pc 176 = true) : decode code pc = .ok (.areturn, 1) := by
  obtain ⟨h1, h2⟩ := jw1_spec hw
  have h3 : Decoder.instr pc code pc = Except.ok (.areturn, pc + 1) := by
    unfold Decoder.instr
    exact (jbind (ju1 h h1 h2)).trans rfl
  rw [jdec h3, Nat.add_sub_cancel_left]
set_option maxRecDepth 20000 in
theorem jd_177 {code : ByteArray} {N S pc : Nat} (h : jn_is code N S) (hw : jw1 N S pc 177 = true) : decode code pc = .ok (.return_, 1) := by
  obtain ⟨h1, h2⟩ := jw1_spec hw
  have h3 : Decoder.instr pc code pc = Except.ok (.return_, pc + 1) := by
    unfold Decoder.instr
    exact (jbind (ju1 h h1 h2)).trans rfl
  rw [jdec h3, Nat.add_sub_cancel_left]
set_option maxRecDepth 20000 in
theorem jd_190 {code : ByteArray} {N S pc : Nat} (h : jn_is code N S) (hw : jw1 N S pc 190 = true) : decode code pc = .ok (.arraylength, 1) := by
  obtain ⟨h1, h2⟩ := jw1_spec hw
  have h3 : Decoder.instr pc code pc = Except.ok (.arraylength, pc + 1) := by
    unfold Decoder.instr
    exact (jbind (ju1 h h1 h2)).trans rfl
  rw [jdec h3, Nat.add_sub_cancel_left]
set_option maxRecDepth 20000 in
theorem jd_16 {code : ByteArray} {N S pc b : Nat} (h : jn_is code N S) (hw : jw2 N S pc 16 b = true) : decode code pc = .ok (.bipush (Reader.signed 8 b), 2) := by
  obtain ⟨h1, h2, h4⟩ := jw2_spec hw
  have h3 : Decoder.instr pc code pc = Except.ok (.bipush (Reader.signed 8 b), pc + 2) := by
    unfold Decoder.instr
    refine (jbind (ju1 h (by omega) h2)).trans ?_
    refine (jbind (js1 h (by omega) h4)).trans rfl
  rw [jdec h3, Nat.add_sub_cancel_left]
set_option maxRecDepth 20000 in
theorem jd_18 {code : ByteArray} {N S pc b : Nat} (h : jn_is code N S) (hw : jw2 N S pc 18 b = true) : decode code pc = .ok (.ldc b, 2) := by
  obtain ⟨h1, h2, h4⟩ := jw2_spec hw
  have h3 : Decoder.instr pc code pc = Except.ok (.ldc b, pc + 2) := by
    unfold Decoder.instr
    refine (jbind (ju1 h (by omega) h2)).trans ?_
    refine (jbind (ju1 h (by omega) h4)).trans rfl
  rw [jdec h3, Nat.add_sub_cancel_left]
set_option maxRecDepth 20000 in
theorem jd_21 {code : ByteArray} {N S pc b : Nat} (h : jn_is code N S) (hw : jw2 N S pc 21 b = true) : decode code pc = .ok (.iload b, 2) := by
  obtain ⟨h1, h2, h4⟩ := jw2_spec hw
  have h3 : Decoder.instr pc code pc = Except.ok (.iload b, pc + 2) := by
    unfold Decoder.instr
    refine (jbind (ju1 h (by omega) h2)).trans ?_
    refine (jbind (ju1 h (by omega) h4)).trans rfl
  rw [jdec h3, Nat.add_sub_cancel_left]
set_option maxRecDepth 20000 in
theorem jd_22 {code : ByteArray} {N S pc b : Nat} (h : jn_is code N S) (hw : jw2 N S pc 22 b = true) : decode code pc = .ok (.lload b, 2) := by
  obtain ⟨h1, h2, h4⟩ := jw2_spec hw
  have h3 : Decoder.instr pc code pc = Except.ok (.lload b, pc + 2) := by
    unfold Decoder.instr
    refine (jbind (ju1 h (by omega) h2)).trans ?_
    refine (jbind (ju1 h (by omega) h4)).trans rfl
  rw [jdec h3, Nat.add_sub_cancel_left]
set_option maxRecDepth 20000 in
theorem jd_25 {code : ByteArray} {N S pc b : Nat} (h : jn_is code N S) (hw : jw2 N S pc 25 b = true) : decode code pc = .ok (.aload b, 2) := by
  obtain ⟨h1, h2, h4⟩ := jw2_spec hw
  have h3 : Decoder.instr pc code pc = Except.ok (.aload b, pc + 2) := by
    unfold Decoder.instr
    refine (jbind (ju1 h (by omega) h2)).trans ?_
    refine (jbind (ju1 h (by omega) h4)).trans rfl
  rw [jdec h3, Nat.add_sub_cancel_left]
set_option maxRecDepth 20000 in
theorem jd_54 {code : ByteArray} {N S pc b : Nat} (h : jn_is code N S) (hw : jw2 N S pc 54 b = true) : decode code pc = .ok (.istore b, 2) := by
  obtain ⟨h1, h2, h4⟩ := jw2_spec hw
  have h3 : Decoder.instr pc code pc = Except.ok (.istore b, pc + 2) := by
    unfold Decoder.instr
    refine (jbind (ju1 h (by omega) h2)).trans ?_
    refine (jbind (ju1 h (by omega) h4)).trans rfl
  rw [jdec h3, Nat.add_sub_cancel_left]
set_option maxRecDepth 20000 in
theorem jd_55 {code : ByteArray} {N S pc b : Nat} (h : jn_is code N S) (hw : jw2 N S pc 55 b = true) : decode code pc = .ok (.lstore b, 2) := by
  obtain ⟨h1, h2, h4⟩ := jw2_spec hw
  have h3 : Decoder.instr pc code pc = Except.ok (.lstore b, pc + 2) := by
    unfold Decoder.instr
    refine (jbind (ju1 h (by omega) h2)).trans ?_
    refine (jbind (ju1 h (by omega) h4)).trans rfl
  rw [jdec h3, Nat.add_sub_cancel_left]
set_option maxRecDepth 20000 in
theorem jd_58 {code : ByteArray} {N S pc b : Nat} (h : jn_is code N S) (hw : jw2 N S pc 58 b = true) : decode code pc = .ok (.astore b, 2) := by
  obtain ⟨h1, h2, h4⟩ := jw2_spec hw
  have h3 : Decoder.instr pc code pc = Except.ok (.astore b, pc + 2) := by
    unfold Decoder.instr
    refine (jbind (ju1 h (by omega) h2)).trans ?_
    refine (jbind (ju1 h (by omega) h4)).trans rfl
  rw [jdec h3, Nat.add_sub_cancel_left]
set_option maxRecDepth 20000 in
theorem jd_188_4 {code : ByteArray} {N S pc : Nat} (h : jn_is code N S) (hw : jw2 N S pc 188 4 = true) : decode code pc = .ok (.newarray .boolean, 2) := by
  obtain ⟨h1, h2, h4⟩ := jw2_spec hw
  have h3 : Decoder.instr pc code pc = Except.ok (.newarray .boolean, pc + 2) := by
    unfold Decoder.instr
    refine (jbind (ju1 h (by omega) h2)).trans ?_
    show Decoder.newarray pc code (pc + 1) = _
    unfold Decoder.newarray
    refine (jbind (ju1 h (by omega) h4)).trans rfl
  rw [jdec h3, Nat.add_sub_cancel_left]
set_option maxRecDepth 20000 in
theorem jd_188_8 {code : ByteArray} {N S pc : Nat} (h : jn_is code N S) (hw : jw2 N S pc 188 8 = true) : decode code pc = .ok (.newarray .byte, 2) := by
  obtain ⟨h1, h2, h4⟩ := jw2_spec hw
  have h3 : Decoder.instr pc code pc = Except.ok (.newarray .byte, pc + 2) := by
    unfold Decoder.instr
    refine (jbind (ju1 h (by omega) h2)).trans ?_
    show Decoder.newarray pc code (pc + 1) = _
    unfold Decoder.newarray
    refine (jbind (ju1 h (by omega) h4)).trans rfl
  rw [jdec h3, Nat.add_sub_cancel_left]
set_option maxRecDepth 20000 in
theorem jd_188_10 {code : ByteArray} {N S pc : Nat} (h : jn_is code N S) (hw : jw2 N S pc 188 10 = true) : decode code pc = .ok (.newarray .int, 2) := by
  obtain ⟨h1, h2, h4⟩ := jw2_spec hw
  have h3 : Decoder.instr pc code pc = Except.ok (.newarray .int, pc + 2) := by
    unfold Decoder.instr
    refine (jbind (ju1 h (by omega) h2)).trans ?_
    show Decoder.newarray pc code (pc + 1) = _
    unfold Decoder.newarray
    refine (jbind (ju1 h (by omega) h4)).trans rfl
  rw [jdec h3, Nat.add_sub_cancel_left]
set_option maxRecDepth 20000 in
theorem jd_188_11 {code : ByteArray} {N S pc : Nat} (h : jn_is code N S) (hw : jw2 N S pc 188 11 = true) : decode code pc = .ok (.newarray .long, 2) := by
  obtain ⟨h1, h2, h4⟩ := jw2_spec hw
  have h3 : Decoder.instr pc code pc = Except.ok (.newarray .long, pc + 2) := by
    unfold Decoder.instr
    refine (jbind (ju1 h (by omega) h2)).trans ?_
    show Decoder.newarray pc code (pc + 1) = _
    unfold Decoder.newarray
    refine (jbind (ju1 h (by omega) h4)).trans rfl
  rw [jdec h3, Nat.add_sub_cancel_left]
set_option maxRecDepth 20000 in
theorem jd_17 {code : ByteArray} {N S pc b d : Nat} (h : jn_is code N S) (hw : jw3 N S pc 17 b d = true) : decode code pc = .ok (.sipush (Reader.signed 16 (b * 256 + d)), 3) := by
  obtain ⟨h1, h2, h4, h5⟩ := jw3_spec hw
  have h3 : Decoder.instr pc code pc = Except.ok (.sipush (Reader.signed 16 (b * 256 + d)), pc + 3) := by
    unfold Decoder.instr
    refine (jbind (ju1 h (by omega) h2)).trans ?_
    refine (jbind (js2 h (by omega) h4 h5)).trans rfl
  rw [jdec h3, Nat.add_sub_cancel_left]
set_option maxRecDepth 20000 in
theorem jd_19 {code : ByteArray} {N S pc b d : Nat} (h : jn_is code N S) (hw : jw3 N S pc 19 b d = true) : decode code pc = .ok (.ldc_w (b * 256 + d), 3) := by
  obtain ⟨h1, h2, h4, h5⟩ := jw3_spec hw
  have h3 : Decoder.instr pc code pc = Except.ok (.ldc_w (b * 256 + d), pc + 3) := by
    unfold Decoder.instr
    refine (jbind (ju1 h (by omega) h2)).trans ?_
    refine (jbind (ju2 h (by omega) h4 h5)).trans rfl
  rw [jdec h3, Nat.add_sub_cancel_left]
set_option maxRecDepth 20000 in
theorem jd_20 {code : ByteArray} {N S pc b d : Nat} (h : jn_is code N S) (hw : jw3 N S pc 20 b d = true) : decode code pc = .ok (.ldc2_w (b * 256 + d), 3) := by
  obtain ⟨h1, h2, h4, h5⟩ := jw3_spec hw
  have h3 : Decoder.instr pc code pc = Except.ok (.ldc2_w (b * 256 + d), pc + 3) := by
    unfold Decoder.instr
    refine (jbind (ju1 h (by omega) h2)).trans ?_
    refine (jbind (ju2 h (by omega) h4 h5)).trans rfl
  rw [jdec h3, Nat.add_sub_cancel_left]
set_option maxRecDepth 20000 in
theorem jd_153 {code : ByteArray} {N S pc b d : Nat} (h : jn_is code N S) (hw : jw3 N S pc 153 b d = true) : decode code pc = .ok (.ifCond .eq (Reader.signed 16 (b * 256 + d)), 3) := by
  obtain ⟨h1, h2, h4, h5⟩ := jw3_spec hw
  have h3 : Decoder.instr pc code pc = Except.ok (.ifCond .eq (Reader.signed 16 (b * 256 + d)), pc + 3) := by
    unfold Decoder.instr
    refine (jbind (ju1 h (by omega) h2)).trans ?_
    refine (jbind (js2 h (by omega) h4 h5)).trans rfl
  rw [jdec h3, Nat.add_sub_cancel_left]
set_option maxRecDepth 20000 in
theorem jd_159 {code : ByteArray} {N S pc b d : Nat} (h : jn_is code N S) (hw : jw3 N S pc 159 b d = true) : decode code pc = .ok (.if_icmp .eq (Reader.signed 16 (b * 256 + d)), 3) := by
  obtain ⟨h1, h2, h4, h5⟩ := jw3_spec hw
  have h3 : Decoder.instr pc code pc = Except.ok (.if_icmp .eq (Reader.signed 16 (b * 256 + d)), pc + 3) := by
    unfold Decoder.instr
    refine (jbind (ju1 h (by omega) h2)).trans ?_
    refine (jbind (js2 h (by omega) h4 h5)).trans rfl
  rw [jdec h3, Nat.add_sub_cancel_left]
set_option maxRecDepth 20000 in
theorem jd_154 {code : ByteArray} {N S pc b d : Nat} (h : jn_is code N S) (hw : jw3 N S pc 154 b d = true) : decode code pc = .ok (.ifCond .ne (Reader.signed 16 (b * 256 + d)), 3) := by
  obtain ⟨h1, h2, h4, h5⟩ := jw3_spec hw
  have h3 : Decoder.instr pc code pc = Except.ok (.ifCond .ne (Reader.signed 16 (b * 256 + d)), pc + 3) := by
    unfold Decoder.instr
    refine (jbind (ju1 h (by omega) h2)).trans ?_
    refine (jbind (js2 h (by omega) h4 h5)).trans rfl
  rw [jdec h3, Nat.add_sub_cancel_left]
set_option maxRecDepth 20000 in
theorem jd_160 {code : ByteArray} {N S pc b d : Nat} (h : jn_is code N S) (hw : jw3 N S pc 160 b d = true) : decode code pc = .ok (.if_icmp .ne (Reader.signed 16 (b * 256 + d)), 3) := by
  obtain ⟨h1, h2, h4, h5⟩ := jw3_spec hw
  have h3 : Decoder.instr pc code pc = Except.ok (.if_icmp .ne (Reader.signed 16 (b * 256 + d)), pc + 3) := by
    unfold Decoder.instr
    refine (jbind (ju1 h (by omega) h2)).trans ?_
    refine (jbind (js2 h (by omega) h4 h5)).trans rfl
  rw [jdec h3, Nat.add_sub_cancel_left]
set_option maxRecDepth 20000 in
theorem jd_155 {code : ByteArray} {N S pc b d : Nat} (h : jn_is code N S) (hw : jw3 N S pc 155 b d = true) : decode code pc = .ok (.ifCond .lt (Reader.signed 16 (b * 256 + d)), 3) := by
  obtain ⟨h1, h2, h4, h5⟩ := jw3_spec hw
  have h3 : Decoder.instr pc code pc = Except.ok (.ifCond .lt (Reader.signed 16 (b * 256 + d)), pc + 3) := by
    unfold Decoder.instr
    refine (jbind (ju1 h (by omega) h2)).trans ?_
    refine (jbind (js2 h (by omega) h4 h5)).trans rfl
  rw [jdec h3, Nat.add_sub_cancel_left]
set_option maxRecDepth 20000 in
theorem jd_161 {code : ByteArray} {N S pc b d : Nat} (h : jn_is code N S) (hw : jw3 N S pc 161 b d = true) : decode code pc = .ok (.if_icmp .lt (Reader.signed 16 (b * 256 + d)), 3) := by
  obtain ⟨h1, h2, h4, h5⟩ := jw3_spec hw
  have h3 : Decoder.instr pc code pc = Except.ok (.if_icmp .lt (Reader.signed 16 (b * 256 + d)), pc + 3) := by
    unfold Decoder.instr
    refine (jbind (ju1 h (by omega) h2)).trans ?_
    refine (jbind (js2 h (by omega) h4 h5)).trans rfl
  rw [jdec h3, Nat.add_sub_cancel_left]
set_option maxRecDepth 20000 in
theorem jd_156 {code : ByteArray} {N S pc b d : Nat} (h : jn_is code N S) (hw : jw3 N S pc 156 b d = true) : decode code pc = .ok (.ifCond .ge (Reader.signed 16 (b * 256 + d)), 3) := by
  obtain ⟨h1, h2, h4, h5⟩ := jw3_spec hw
  have h3 : Decoder.instr pc code pc = Except.ok (.ifCond .ge (Reader.signed 16 (b * 256 + d)), pc + 3) := by
    unfold Decoder.instr
    refine (jbind (ju1 h (by omega) h2)).trans ?_
    refine (jbind (js2 h (by omega) h4 h5)).trans rfl
  rw [jdec h3, Nat.add_sub_cancel_left]
set_option maxRecDepth 20000 in
theorem jd_162 {code : ByteArray} {N S pc b d : Nat} (h : jn_is code N S) (hw : jw3 N S pc 162 b d = true) : decode code pc = .ok (.if_icmp .ge (Reader.signed 16 (b * 256 + d)), 3) := by
  obtain ⟨h1, h2, h4, h5⟩ := jw3_spec hw
  have h3 : Decoder.instr pc code pc = Except.ok (.if_icmp .ge (Reader.signed 16 (b * 256 + d)), pc + 3) := by
    unfold Decoder.instr
    refine (jbind (ju1 h (by omega) h2)).trans ?_
    refine (jbind (js2 h (by omega) h4 h5)).trans rfl
  rw [jdec h3, Nat.add_sub_cancel_left]
set_option maxRecDepth 20000 in
theorem jd_157 {code : ByteArray} {N S pc b d : Nat} (h : jn_is code N S) (hw : jw3 N S pc 157 b d = true) : decode code pc = .ok (.ifCond .gt (Reader.signed 16 (b * 256 + d)), 3) := by
  obtain ⟨h1, h2, h4, h5⟩ := jw3_spec hw
  have h3 : Decoder.instr pc code pc = Except.ok (.ifCond .gt (Reader.signed 16 (b * 256 + d)), pc + 3) := by
    unfold Decoder.instr
    refine (jbind (ju1 h (by omega) h2)).trans ?_
    refine (jbind (js2 h (by omega) h4 h5)).trans rfl
  rw [jdec h3, Nat.add_sub_cancel_left]
set_option maxRecDepth 20000 in
theorem jd_163 {code : ByteArray} {N S pc b d : Nat} (h : jn_is code N S) (hw : jw3 N S pc 163 b d = true) : decode code pc = .ok (.if_icmp .gt (Reader.signed 16 (b * 256 + d)), 3) := by
  obtain ⟨h1, h2, h4, h5⟩ := jw3_spec hw
  have h3 : Decoder.instr pc code pc = Except.ok (.if_icmp .gt (Reader.signed 16 (b * 256 + d)), pc + 3) := by
    unfold Decoder.instr
    refine (jbind (ju1 h (by omega) h2)).trans ?_
    refine (jbind (js2 h (by omega) h4 h5)).trans rfl
  rw [jdec h3, Nat.add_sub_cancel_left]
set_option maxRecDepth 20000 in
theorem jd_158 {code : ByteArray} {N S pc b d : Nat} (h : jn_is code N S) (hw : jw3 N S pc 158 b d = true) : decode code pc = .ok (.ifCond .le (Reader.signed 16 (b * 256 + d)), 3) := by
  obtain ⟨h1, h2, h4, h5⟩ := jw3_spec hw
  have h3 : Decoder.instr pc code pc = Except.ok (.ifCond .le (Reader.signed 16 (b * 256 + d)), pc + 3) := by
    unfold Decoder.instr
    refine (jbind (ju1 h (by omega) h2)).trans ?_
    refine (jbind (js2 h (by omega) h4 h5)).trans rfl
  rw [jdec h3, Nat.add_sub_cancel_left]
set_option maxRecDepth 20000 in
theorem jd_164 {code : ByteArray} {N S pc b d : Nat} (h : jn_is code N S) (hw : jw3 N S pc 164 b d = true) : decode code pc = .ok (.if_icmp .le (Reader.signed 16 (b * 256 + d)), 3) := by
  obtain ⟨h1, h2, h4, h5⟩ := jw3_spec hw
  have h3 : Decoder.instr pc code pc = Except.ok (.if_icmp .le (Reader.signed 16 (b * 256 + d)), pc + 3) := by
    unfold Decoder.instr
    refine (jbind (ju1 h (by omega) h2)).trans ?_
    refine (jbind (js2 h (by omega) h4 h5)).trans rfl
  rw [jdec h3, Nat.add_sub_cancel_left]
set_option maxRecDepth 20000 in
theorem jd_165 {code : ByteArray} {N S pc b d : Nat} (h : jn_is code N S) (hw : jw3 N S pc 165 b d = true) : decode code pc = .ok (.if_acmp .eq (Reader.signed 16 (b * 256 + d)), 3) := by
  obtain ⟨h1, h2, h4, h5⟩ := jw3_spec hw
  have h3 : Decoder.instr pc code pc = Except.ok (.if_acmp .eq (Reader.signed 16 (b * 256 + d)), pc + 3) := by
    unfold Decoder.instr
    refine (jbind (ju1 h (by omega) h2)).trans ?_
    refine (jbind (js2 h (by omega) h4 h5)).trans rfl
  rw [jdec h3, Nat.add_sub_cancel_left]
set_option maxRecDepth 20000 in
theorem jd_166 {code : ByteArray} {N S pc b d : Nat} (h : jn_is code N S) (hw : jw3 N S pc 166 b d = true) : decode code pc = .ok (.if_acmp .ne (Reader.signed 16 (b * 256 + d)), 3) := by
  obtain ⟨h1, h2, h4, h5⟩ := jw3_spec hw
  have h3 : Decoder.instr pc code pc = Except.ok (.if_acmp .ne (Reader.signed 16 (b * 256 + d)), pc + 3) := by
    unfold Decoder.instr
    refine (jbind (ju1 h (by omega) h2)).trans ?_
    refine (jbind (js2 h (by omega) h4 h5)).trans rfl
  rw [jdec h3, Nat.add_sub_cancel_left]
set_option maxRecDepth 20000 in
theorem jd_167 {code : ByteArray} {N S pc b d : Nat} (h : jn_is code N S) (hw : jw3 N S pc 167 b d = true) : decode code pc = .ok (.goto (Reader.signed 16 (b * 256 + d)), 3) := by
  obtain ⟨h1, h2, h4, h5⟩ := jw3_spec hw
  have h3 : Decoder.instr pc code pc = Except.ok (.goto (Reader.signed 16 (b * 256 + d)), pc + 3) := by
    unfold Decoder.instr
    refine (jbind (ju1 h (by omega) h2)).trans ?_
    refine (jbind (js2 h (by omega) h4 h5)).trans rfl
  rw [jdec h3, Nat.add_sub_cancel_left]
set_option maxRecDepth 20000 in
theorem jd_178 {code : ByteArray} {N S pc b d : Nat} (h : jn_is code N S) (hw : jw3 N S pc 178 b d = true) : decode code pc = .ok (.getstatic (b * 256 + d), 3) := by
  obtain ⟨h1, h2, h4, h5⟩ := jw3_spec hw
  have h3 : Decoder.instr pc code pc = Except.ok (.getstatic (b * 256 + d), pc + 3) := by
    unfold Decoder.instr
    refine (jbind (ju1 h (by omega) h2)).trans ?_
    refine (jbind (ju2 h (by omega) h4 h5)).trans rfl
  rw [jdec h3, Nat.add_sub_cancel_left]
set_option maxRecDepth 20000 in
theorem jd_180 {code : ByteArray} {N S pc b d : Nat} (h : jn_is code N S) (hw : jw3 N S pc 180 b d = true) : decode code pc = .ok (.getfield (b * 256 + d), 3) := by
  obtain ⟨h1, h2, h4, h5⟩ := jw3_spec hw
  have h3 : Decoder.instr pc code pc = Except.ok (.getfield (b * 256 + d), pc + 3) := by
    unfold Decoder.instr
    refine (jbind (ju1 h (by omega) h2)).trans ?_
    refine (jbind (ju2 h (by omega) h4 h5)).trans rfl
  rw [jdec h3, Nat.add_sub_cancel_left]
set_option maxRecDepth 20000 in
theorem jd_181 {code : ByteArray} {N S pc b d : Nat} (h : jn_is code N S) (hw : jw3 N S pc 181 b d = true) : decode code pc = .ok (.putfield (b * 256 + d), 3) := by
  obtain ⟨h1, h2, h4, h5⟩ := jw3_spec hw
  have h3 : Decoder.instr pc code pc = Except.ok (.putfield (b * 256 + d), pc + 3) := by
    unfold Decoder.instr
    refine (jbind (ju1 h (by omega) h2)).trans ?_
    refine (jbind (ju2 h (by omega) h4 h5)).trans rfl
  rw [jdec h3, Nat.add_sub_cancel_left]
set_option maxRecDepth 20000 in
theorem jd_182 {code : ByteArray} {N S pc b d : Nat} (h : jn_is code N S) (hw : jw3 N S pc 182 b d = true) : decode code pc = .ok (.invokevirtual (b * 256 + d), 3) := by
  obtain ⟨h1, h2, h4, h5⟩ := jw3_spec hw
  have h3 : Decoder.instr pc code pc = Except.ok (.invokevirtual (b * 256 + d), pc + 3) := by
    unfold Decoder.instr
    refine (jbind (ju1 h (by omega) h2)).trans ?_
    refine (jbind (ju2 h (by omega) h4 h5)).trans rfl
  rw [jdec h3, Nat.add_sub_cancel_left]
set_option maxRecDepth 20000 in
theorem jd_183 {code : ByteArray} {N S pc b d : Nat} (h : jn_is code N S) (hw : jw3 N S pc 183 b d = true) : decode code pc = .ok (.invokespecial (b * 256 + d), 3) := by
  obtain ⟨h1, h2, h4, h5⟩ := jw3_spec hw
  have h3 : Decoder.instr pc code pc = Except.ok (.invokespecial (b * 256 + d), pc + 3) := by
    unfold Decoder.instr
    refine (jbind (ju1 h (by omega) h2)).trans ?_
    refine (jbind (ju2 h (by omega) h4 h5)).trans rfl
  rw [jdec h3, Nat.add_sub_cancel_left]
set_option maxRecDepth 20000 in
theorem jd_184 {code : ByteArray} {N S pc b d : Nat} (h : jn_is code N S) (hw : jw3 N S pc 184 b d = true) : decode code pc = .ok (.invokestatic (b * 256 + d), 3) := by
  obtain ⟨h1, h2, h4, h5⟩ := jw3_spec hw
  have h3 : Decoder.instr pc code pc = Except.ok (.invokestatic (b * 256 + d), pc + 3) := by
    unfold Decoder.instr
    refine (jbind (ju1 h (by omega) h2)).trans ?_
    refine (jbind (ju2 h (by omega) h4 h5)).trans rfl
  rw [jdec h3, Nat.add_sub_cancel_left]
set_option maxRecDepth 20000 in
theorem jd_187 {code : ByteArray} {N S pc b d : Nat} (h : jn_is code N S) (hw : jw3 N S pc 187 b d = true) : decode code pc = .ok (.new (b * 256 + d), 3) := by
  obtain ⟨h1, h2, h4, h5⟩ := jw3_spec hw
  have h3 : Decoder.instr pc code pc = Except.ok (.new (b * 256 + d), pc + 3) := by
    unfold Decoder.instr
    refine (jbind (ju1 h (by omega) h2)).trans ?_
    refine (jbind (ju2 h (by omega) h4 h5)).trans rfl
  rw [jdec h3, Nat.add_sub_cancel_left]
set_option maxRecDepth 20000 in
theorem jd_189 {code : ByteArray} {N S pc b d : Nat} (h : jn_is code N S) (hw : jw3 N S pc 189 b d = true) : decode code pc = .ok (.anewarray (b * 256 + d), 3) := by
  obtain ⟨h1, h2, h4, h5⟩ := jw3_spec hw
  have h3 : Decoder.instr pc code pc = Except.ok (.anewarray (b * 256 + d), pc + 3) := by
    unfold Decoder.instr
    refine (jbind (ju1 h (by omega) h2)).trans ?_
    refine (jbind (ju2 h (by omega) h4 h5)).trans rfl
  rw [jdec h3, Nat.add_sub_cancel_left]
set_option maxRecDepth 20000 in
theorem jd_192 {code : ByteArray} {N S pc b d : Nat} (h : jn_is code N S) (hw : jw3 N S pc 192 b d = true) : decode code pc = .ok (.checkcast (b * 256 + d), 3) := by
  obtain ⟨h1, h2, h4, h5⟩ := jw3_spec hw
  have h3 : Decoder.instr pc code pc = Except.ok (.checkcast (b * 256 + d), pc + 3) := by
    unfold Decoder.instr
    refine (jbind (ju1 h (by omega) h2)).trans ?_
    refine (jbind (ju2 h (by omega) h4 h5)).trans rfl
  rw [jdec h3, Nat.add_sub_cancel_left]
set_option maxRecDepth 20000 in
theorem jd_198 {code : ByteArray} {N S pc b d : Nat} (h : jn_is code N S) (hw : jw3 N S pc 198 b d = true) : decode code pc = .ok (.ifnull (Reader.signed 16 (b * 256 + d)), 3) := by
  obtain ⟨h1, h2, h4, h5⟩ := jw3_spec hw
  have h3 : Decoder.instr pc code pc = Except.ok (.ifnull (Reader.signed 16 (b * 256 + d)), pc + 3) := by
    unfold Decoder.instr
    refine (jbind (ju1 h (by omega) h2)).trans ?_
    refine (jbind (js2 h (by omega) h4 h5)).trans rfl
  rw [jdec h3, Nat.add_sub_cancel_left]
set_option maxRecDepth 20000 in
theorem jd_199 {code : ByteArray} {N S pc b d : Nat} (h : jn_is code N S) (hw : jw3 N S pc 199 b d = true) : decode code pc = .ok (.ifnonnull (Reader.signed 16 (b * 256 + d)), 3) := by
  obtain ⟨h1, h2, h4, h5⟩ := jw3_spec hw
  have h3 : Decoder.instr pc code pc = Except.ok (.ifnonnull (Reader.signed 16 (b * 256 + d)), pc + 3) := by
    unfold Decoder.instr
    refine (jbind (ju1 h (by omega) h2)).trans ?_
    refine (jbind (js2 h (by omega) h4 h5)).trans rfl
  rw [jdec h3, Nat.add_sub_cancel_left]
set_option maxRecDepth 20000 in
theorem jd_132 {code : ByteArray} {N S pc b d : Nat} (h : jn_is code N S) (hw : jw3 N S pc 132 b d = true) : decode code pc = .ok (.iinc b (Reader.signed 8 d), 3) := by
  obtain ⟨h1, h2, h4, h5⟩ := jw3_spec hw
  have h3 : Decoder.instr pc code pc = Except.ok (.iinc b (Reader.signed 8 d), pc + 3) := by
    unfold Decoder.instr
    refine (jbind (ju1 h (by omega) h2)).trans ?_
    refine (jbind (ju1 h (by omega) h4)).trans ?_
    refine (jbind (js1 h (by omega) h5)).trans rfl
  rw [jdec h3, Nat.add_sub_cancel_left]
def jt (pc b d tgt : Nat) : Bool := if Nat.blt (b * 256 + d) 32768 then Nat.beq (pc + (b * 256 + d)) tgt else Nat.beq (pc + (b * 256 + d)) (tgt + 65536)
theorem jt_spec {pc b d tgt : Nat} (h : jt pc b d tgt = true) : (pc : Int) + Reader.signed 16 (b * 256 + d) = (tgt : Int) := by
  unfold jt at h
  unfold Reader.signed
  generalize b * 256 + d = x at *
  split at h
  · rename_i h1
    rw [Nat.blt_eq] at h1
    rw [Nat.beq_eq] at h
    rw [if_pos (by simpa using h1)]
    omega
  · rename_i h1
    rw [Nat.blt_eq] at h1
    rw [Nat.beq_eq] at h
    rw [if_neg (by simpa using h1)]
    omega
end
section
/-! The classes: their fields in order; numbers 0 .. 18. -/
def jT0 : u_T := fun k => match k with
  | 0 => ("CoinNode$Block", "row", "[B", true)
  | 1 => ("CoinNode$Block", "name", "[B", true)
  | 2 => ("CoinNode$Block", "bits", "I", true)
  | 3 => ("CoinNode$Block", "time", "J", true)
  | 4 => ("CoinNode$Block", "txs", "[LCoinNode$Tx;", false)
  | 5 => ("CoinNode$Block", "parent", "LCoinNode$Block;", false)
  | 6 => ("CoinNode$Block", "height", "I", false)
  | 7 => ("CoinNode$Block", "bad", "Z", false)
  | _ => ("CoinNode$Block", "work", "[I", true)
def jY0 : Nat → FieldType := fun k => match k with
  | 0 => .array .byte
  | 1 => .array .byte
  | 2 => .int
  | 3 => .long
  | 4 => .array (.object "CoinNode$Tx")
  | 5 => .object "CoinNode$Block"
  | 6 => .int
  | 7 => .boolean
  | _ => .array .int
theorem jY0_ok : ∀ k, k < 9 → parseFieldDescriptor (jT0 k).2.2.1 = some (jY0 k) := by decide +kernel
theorem jN0_ok : ∀ a, a < 9 → ∀ b, b < 9 → a ≠ b → (jT0 a).2.1 ≠ (jT0 b).2.1 := by decide +kernel
def jT1 : u_T := fun k => match k with
  | 0 => ("CoinNode$Chain", "hash", "LCoinNode$Hash;", true)
  | 1 => ("CoinNode$Chain", "coins", "LCoinNode$Coins;", true)
  | 2 => ("CoinNode$Chain", "scripts", "LCoinNode$Scripts;", true)
  | 3 => ("CoinNode$Chain", "known", "[LCoinNode$Block;", true)
  | 4 => ("CoinNode$Chain", "many", "I", false)
  | 5 => ("CoinNode$Chain", "bad", "I", false)
  | 6 => ("CoinNode$Chain", "tip", "LCoinNode$Block;", false)
  | 7 => ("CoinNode$Chain", "line", "[LCoinNode$Block;", true)
  | 8 => ("CoinNode$Chain", "way", "[LCoinNode$Block;", true)
  | 9 => ("CoinNode$Chain", "left", "[LCoinNode$Block;", true)
  | 10 => ("CoinNode$Chain", "leftMany", "I", false)
  | 11 => ("CoinNode$Chain", "target", "[I", true)
  | 12 => ("CoinNode$Chain", "limit", "[I", true)
  | 13 => ("CoinNode$Chain", "rest", "[I", true)
  | 14 => ("CoinNode$Chain", "times", "[J", true)
  | 15 => ("CoinNode$Chain", "names", "[B", true)
  | _ => ("CoinNode$Chain", "name", "[B", true)
def jY1 : Nat → FieldType := fun k => match k with
  | 0 => .object "CoinNode$Hash"
  | 1 => .object "CoinNode$Coins"
  | 2 => .object "CoinNode$Scripts"
  | 3 => .array (.object "CoinNode$Block")
  | 4 => .int
  | 5 => .int
  | 6 => .object "CoinNode$Block"
  | 7 => .array (.object "CoinNode$Block")
  | 8 => .array (.object "CoinNode$Block")
  | 9 => .array (.object "CoinNode$Block")
  | 10 => .int
  | 11 => .array .int
  | 12 => .array .int
  | 13 => .array .int
  | 14 => .array .long
  | 15 => .array .byte
  | _ => .array .byte
theorem jY1_ok : ∀ k, k < 17 → parseFieldDescriptor (jT1 k).2.2.1 = some (jY1 k) := by decide +kernel
theorem jN1_ok : ∀ a, a < 17 → ∀ b, b < 17 → a ≠ b → (jT1 a).2.1 ≠ (jT1 b).2.1 := by decide +kernel
def jT2 : u_T := fun k => match k with
  | 0 => ("CoinNode$Coins", "makers", "[LCoinNode$Tx;", true)
  | 1 => ("CoinNode$Coins", "numbers", "[I", true)
  | 2 => ("CoinNode$Coins", "heights", "[I", true)
  | 3 => ("CoinNode$Coins", "many", "I", false)
  | 4 => ("CoinNode$Coins", "spent", "I", false)
  | 5 => ("CoinNode$Coins", "sum", "J", false)
  | 6 => ("CoinNode$Coins", "takenMakers", "[LCoinNode$Tx;", true)
  | 7 => ("CoinNode$Coins", "takenNumbers", "[I", true)
  | _ => ("CoinNode$Coins", "takenSum", "J", false)
def jY2 : Nat → FieldType := fun k => match k with
  | 0 => .array (.object "CoinNode$Tx")
  | 1 => .array .int
  | 2 => .array .int
  | 3 => .int
  | 4 => .int
  | 5 => .long
  | 6 => .array (.object "CoinNode$Tx")
  | 7 => .array .int
  | _ => .long
theorem jY2_ok : ∀ k, k < 9 → parseFieldDescriptor (jT2 k).2.2.1 = some (jY2 k) := by decide +kernel
theorem jN2_ok : ∀ a, a < 9 → ∀ b, b < 9 → a ≠ b → (jT2 a).2.1 ≠ (jT2 b).2.1 := by decide +kernel
def jT3 : u_T := fun k => match k with
  | 0 => ("CoinNode$Hash", "ready", "[B", true)
  | 1 => ("CoinNode$Hash", "readySize", "I", false)
  | 2 => ("CoinNode$Hash", "state", "[I", true)
  | 3 => ("CoinNode$Hash", "words", "[I", true)
  | 4 => ("CoinNode$Hash", "line", "[I", true)
  | _ => ("CoinNode$Hash", "between", "[B", true)
def jY3 : Nat → FieldType := fun k => match k with
  | 0 => .array .byte
  | 1 => .int
  | 2 => .array .int
  | 3 => .array .int
  | 4 => .array .int
  | _ => .array .byte
theorem jY3_ok : ∀ k, k < 6 → parseFieldDescriptor (jT3 k).2.2.1 = some (jY3 k) := by decide +kernel
theorem jN3_ok : ∀ a, a < 6 → ∀ b, b < 6 → a ≠ b → (jT3 a).2.1 ≠ (jT3 b).2.1 := by decide +kernel
def jT4 : u_T := fun k => match k with
  | 0 => ("CoinNode$Machine", "hash", "LCoinNode$Hash;", true)
  | 1 => ("CoinNode$Machine", "stack", "LCoinNode$Stack;", true)
  | 2 => ("CoinNode$Machine", "side", "LCoinNode$Stack;", true)
  | 3 => ("CoinNode$Machine", "spare", "LCoinNode$Stack;", true)
  | 4 => ("CoinNode$Machine", "made", "[B", true)
  | 5 => ("CoinNode$Machine", "script", "[B", false)
  | 6 => ("CoinNode$Machine", "at", "I", false)
  | 7 => ("CoinNode$Machine", "end", "I", false)
  | 8 => ("CoinNode$Machine", "isLast", "Z", false)
  | 9 => ("CoinNode$Machine", "status", "I", false)
  | 10 => ("CoinNode$Machine", "operations", "I", false)
  | 11 => ("CoinNode$Machine", "parts", "[Z", true)
  | 12 => ("CoinNode$Machine", "depth", "I", false)
  | 13 => ("CoinNode$Machine", "closed", "I", false)
  | 14 => ("CoinNode$Machine", "signatures", "I", false)
  | 15 => ("CoinNode$Machine", "signatureAt", "I", false)
  | 16 => ("CoinNode$Machine", "keys", "I", false)
  | 17 => ("CoinNode$Machine", "keyAt", "I", false)
  | 18 => ("CoinNode$Machine", "operands", "I", false)
  | _ => ("CoinNode$Machine", "mustFit", "Z", false)
def jY4 : Nat → FieldType := fun k => match k with
  | 0 => .object "CoinNode$Hash"
  | 1 => .object "CoinNode$Stack"
  | 2 => .object "CoinNode$Stack"
  | 3 => .object "CoinNode$Stack"
  | 4 => .array .byte
  | 5 => .array .byte
  | 6 => .int
  | 7 => .int
  | 8 => .boolean
  | 9 => .int
  | 10 => .int
  | 11 => .array .boolean
  | 12 => .int
  | 13 => .int
  | 14 => .int
  | 15 => .int
  | 16 => .int
  | 17 => .int
  | 18 => .int
  | _ => .boolean
theorem jY4_ok : ∀ k, k < 20 → parseFieldDescriptor (jT4 k).2.2.1 = some (jY4 k) := by decide +kernel
theorem jN4_ok : ∀ a, a < 20 → ∀ b, b < 20 → a ≠ b → (jT4 a).2.1 ≠ (jT4 b).2.1 := by decide +kernel
def jT5 : u_T := fun k => match k with
  | 0 => ("CoinNode$Point", "x", "[J", true)
  | 1 => ("CoinNode$Point", "y", "[J", true)
  | 2 => ("CoinNode$Point", "z", "[J", true)
  | _ => ("CoinNode$Point", "isNone", "Z", false)
def jY5 : Nat → FieldType := fun k => match k with
  | 0 => .array .long
  | 1 => .array .long
  | 2 => .array .long
  | _ => .boolean
theorem jY5_ok : ∀ k, k < 4 → parseFieldDescriptor (jT5 k).2.2.1 = some (jY5 k) := by decide +kernel
theorem jN5_ok : ∀ a, a < 4 → ∀ b, b < 4 → a ≠ b → (jT5 a).2.1 ≠ (jT5 b).2.1 := by decide +kernel
def jT6 : u_T := fun k => match k with
  | 0 => ("CoinNode$Pool", "coins", "LCoinNode$Coins;", true)
  | 1 => ("CoinNode$Pool", "scripts", "LCoinNode$Scripts;", true)
  | 2 => ("CoinNode$Pool", "txs", "[LCoinNode$Tx;", true)
  | 3 => ("CoinNode$Pool", "gains", "[J", true)
  | 4 => ("CoinNode$Pool", "many", "I", false)
  | 5 => ("CoinNode$Pool", "before", "[LCoinNode$Tx;", true)
  | 6 => ("CoinNode$Pool", "kin", "[Z", true)
  | 7 => ("CoinNode$Pool", "takenMakers", "[LCoinNode$Tx;", true)
  | 8 => ("CoinNode$Pool", "takenNumbers", "[I", true)
  | _ => ("CoinNode$Pool", "takenSum", "J", false)
def jY6 : Nat → FieldType := fun k => match k with
  | 0 => .object "CoinNode$Coins"
  | 1 => .object "CoinNode$Scripts"
  | 2 => .array (.object "CoinNode$Tx")
  | 3 => .array .long
  | 4 => .int
  | 5 => .array (.object "CoinNode$Tx")
  | 6 => .array .boolean
  | 7 => .array (.object "CoinNode$Tx")
  | 8 => .array .int
  | _ => .long
theorem jY6_ok : ∀ k, k < 10 → parseFieldDescriptor (jT6 k).2.2.1 = some (jY6 k) := by decide +kernel
theorem jN6_ok : ∀ a, a < 10 → ∀ b, b < 10 → a ≠ b → (jT6 a).2.1 ≠ (jT6 b).2.1 := by decide +kernel
def jT7 : u_T := fun k => match k with
  | 0 => ("CoinNode$Scripts", "hash", "LCoinNode$Hash;", true)
  | 1 => ("CoinNode$Scripts", "machine", "LCoinNode$Machine;", true)
  | 2 => ("CoinNode$Scripts", "signature", "LCoinNode$Signature;", true)
  | 3 => ("CoinNode$Scripts", "signed", "[B", true)
  | 4 => ("CoinNode$Scripts", "signedSize", "I", false)
  | 5 => ("CoinNode$Scripts", "name", "[B", true)
  | 6 => ("CoinNode$Scripts", "asked", "I", false)
  | _ => ("CoinNode$Scripts", "most", "I", false)
def jY7 : Nat → FieldType := fun k => match k with
  | 0 => .object "CoinNode$Hash"
  | 1 => .object "CoinNode$Machine"
  | 2 => .object "CoinNode$Signature"
  | 3 => .array .byte
  | 4 => .int
  | 5 => .array .byte
  | 6 => .int
  | _ => .int
theorem jY7_ok : ∀ k, k < 8 → parseFieldDescriptor (jT7 k).2.2.1 = some (jY7 k) := by decide +kernel
theorem jN7_ok : ∀ a, a < 8 → ∀ b, b < 8 → a ≠ b → (jT7 a).2.1 ≠ (jT7 b).2.1 := by decide +kernel
def jT8 : u_T := fun k => match k with
  | 0 => ("CoinNode$Signature", "kind", "I", false)
  | 1 => ("CoinNode$Signature", "r", "[I", true)
  | 2 => ("CoinNode$Signature", "s", "[I", true)
  | 3 => ("CoinNode$Signature", "x", "[I", true)
  | 4 => ("CoinNode$Signature", "y", "[I", true)
  | 5 => ("CoinNode$Signature", "z", "[I", true)
  | 6 => ("CoinNode$Signature", "wide", "[I", true)
  | 7 => ("CoinNode$Signature", "high", "[I", true)
  | 8 => ("CoinNode$Signature", "powers", "[[I", true)
  | 9 => ("CoinNode$Signature", "work", "[[J", true)
  | 10 => ("CoinNode$Signature", "baseDigits", "[I", true)
  | 11 => ("CoinNode$Signature", "keyDigits", "[I", true)
  | 12 => ("CoinNode$Signature", "baseOdds", "[LCoinNode$Point;", true)
  | 13 => ("CoinNode$Signature", "keyOdds", "[LCoinNode$Point;", true)
  | 14 => ("CoinNode$Signature", "twice", "LCoinNode$Point;", true)
  | 15 => ("CoinNode$Signature", "sum", "LCoinNode$Point;", true)
  | _ => ("CoinNode$Signature", "hasBase", "Z", false)
def jY8 : Nat → FieldType := fun k => match k with
  | 0 => .int
  | 1 => .array .int
  | 2 => .array .int
  | 3 => .array .int
  | 4 => .array .int
  | 5 => .array .int
  | 6 => .array .int
  | 7 => .array .int
  | 8 => .array (.array .int)
  | 9 => .array (.array .long)
  | 10 => .array .int
  | 11 => .array .int
  | 12 => .array (.object "CoinNode$Point")
  | 13 => .array (.object "CoinNode$Point")
  | 14 => .object "CoinNode$Point"
  | 15 => .object "CoinNode$Point"
  | _ => .boolean
theorem jY8_ok : ∀ k, k < 17 → parseFieldDescriptor (jT8 k).2.2.1 = some (jY8 k) := by decide +kernel
theorem jN8_ok : ∀ a, a < 17 → ∀ b, b < 17 → a ≠ b → (jT8 a).2.1 ≠ (jT8 b).2.1 := by decide +kernel
def jT9 : u_T := fun k => match k with
  | 0 => ("CoinNode$Stack", "rows", "[[B", true)
  | 1 => ("CoinNode$Stack", "sizes", "[I", true)
  | _ => ("CoinNode$Stack", "height", "I", false)
def jY9 : Nat → FieldType := fun k => match k with
  | 0 => .array (.array .byte)
  | 1 => .array .int
  | _ => .int
theorem jY9_ok : ∀ k, k < 3 → parseFieldDescriptor (jT9 k).2.2.1 = some (jY9 k) := by decide +kernel
theorem jN9_ok : ∀ a, a < 3 → ∀ b, b < 3 → a ≠ b → (jT9 a).2.1 ≠ (jT9 b).2.1 := by decide +kernel
def jT10 : u_T := fun k => match k with
  | 0 => ("CoinNode$Tx", "row", "[B", true)
  | 1 => ("CoinNode$Tx", "from", "I", true)
  | 2 => ("CoinNode$Tx", "size", "I", false)
  | 3 => ("CoinNode$Tx", "name", "[B", true)
  | 4 => ("CoinNode$Tx", "inputs", "[I", false)
  | 5 => ("CoinNode$Tx", "outputs", "[I", false)
  | 6 => ("CoinNode$Tx", "sum", "J", false)
  | _ => ("CoinNode$Tx", "hasRootInput", "Z", false)
def jY10 : Nat → FieldType := fun k => match k with
  | 0 => .array .byte
  | 1 => .int
  | 2 => .int
  | 3 => .array .byte
  | 4 => .array .int
  | 5 => .array .int
  | 6 => .long
  | _ => .boolean
theorem jY10_ok : ∀ k, k < 8 → parseFieldDescriptor (jT10 k).2.2.1 = some (jY10 k) := by decide +kernel
theorem jN10_ok : ∀ a, a < 8 → ∀ b, b < 8 → a ≠ b → (jT10 a).2.1 ≠ (jT10 b).2.1 := by decide +kernel
def jT11 : u_T := fun k => match k with
  | 0 => ("CoinNode", "tape", "[B", true)
  | 1 => ("CoinNode", "tapeSize", "I", false)
  | 2 => ("CoinNode", "keyName", "[B", true)
  | 3 => ("CoinNode", "keyIndex", "I", false)
  | 4 => ("CoinNode", "boxes", "[[B", true)
  | 5 => ("CoinNode", "boxStarts", "[I", true)
  | 6 => ("CoinNode", "boxSizes", "[I", true)
  | 7 => ("CoinNode", "frame", "[B", true)
  | 8 => ("CoinNode", "frameSize", "I", false)
  | 9 => ("CoinNode", "hash", "LCoinNode$Hash;", true)
  | 10 => ("CoinNode", "scripts", "LCoinNode$Scripts;", true)
  | 11 => ("CoinNode", "coins", "LCoinNode$Coins;", true)
  | 12 => ("CoinNode", "chain", "LCoinNode$Chain;", true)
  | _ => ("CoinNode", "pool", "LCoinNode$Pool;", true)
def jY11 : Nat → FieldType := fun k => match k with
  | 0 => .array .byte
  | 1 => .int
  | 2 => .array .byte
  | 3 => .int
  | 4 => .array (.array .byte)
  | 5 => .array .int
  | 6 => .array .int
  | 7 => .array .byte
  | 8 => .int
  | 9 => .object "CoinNode$Hash"
  | 10 => .object "CoinNode$Scripts"
  | 11 => .object "CoinNode$Coins"
  | 12 => .object "CoinNode$Chain"
  | _ => .object "CoinNode$Pool"
theorem jY11_ok : ∀ k, k < 14 → parseFieldDescriptor (jT11 k).2.2.1 = some (jY11 k) := by decide +kernel
theorem jN11_ok : ∀ a, a < 14 → ∀ b, b < 14 → a ≠ b → (jT11 a).2.1 ≠ (jT11 b).2.1 := by decide +kernel
def jT12 : u_T := fun k => match k with
  | 0 => ("CoinNodeModel$Hashes", "row", "[I", true)
  | 1 => ("CoinNodeModel$Hashes", "h", "[I", true)
  | 2 => ("CoinNodeModel$Hashes", "v", "[I", true)
  | _ => ("CoinNodeModel$Hashes", "once", "[B", true)
def jY12 : Nat → FieldType := fun k => match k with
  | 0 => .array .int
  | 1 => .array .int
  | 2 => .array .int
  | _ => .array .byte
theorem jY12_ok : ∀ k, k < 4 → parseFieldDescriptor (jT12 k).2.2.1 = some (jY12 k) := by decide +kernel
theorem jN12_ok : ∀ a, a < 4 → ∀ b, b < 4 → a ≠ b → (jT12 a).2.1 ≠ (jT12 b).2.1 := by decide +kernel
def jT13 : u_T := fun k => match k with
  | 0 => ("CoinNodeModel$Points", "rows", "[I", true)
  | 1 => ("CoinNodeModel$Points", "product", "[J", true)
  | 2 => ("CoinNodeModel$Points", "folded", "[J", true)
  | 3 => ("CoinNodeModel$Points", "rest", "[I", true)
  | 4 => ("CoinNodeModel$Points", "none", "[Z", true)
  | 5 => ("CoinNodeModel$Points", "bytes", "[I", true)
  | _ => ("CoinNodeModel$Points", "many", "I", false)
def jY13 : Nat → FieldType := fun k => match k with
  | 0 => .array .int
  | 1 => .array .long
  | 2 => .array .long
  | 3 => .array .int
  | 4 => .array .boolean
  | 5 => .array .int
  | _ => .int
theorem jY13_ok : ∀ k, k < 7 → parseFieldDescriptor (jT13 k).2.2.1 = some (jY13 k) := by decide +kernel
theorem jN13_ok : ∀ a, a < 7 → ∀ b, b < 7 → a ≠ b → (jT13 a).2.1 ≠ (jT13 b).2.1 := by decide +kernel
def jT14 : u_T := fun k => match k with
  | 0 => ("CoinNodeModel$Scripts", "bytes", "[I", true)
  | 1 => ("CoinNodeModel$Scripts", "sizes", "[I", true)
  | 2 => ("CoinNodeModel$Scripts", "size", "I", false)
  | 3 => ("CoinNodeModel$Scripts", "side", "I", false)
  | 4 => ("CoinNodeModel$Scripts", "script", "[I", true)
  | 5 => ("CoinNodeModel$Scripts", "length", "I", false)
  | 6 => ("CoinNodeModel$Scripts", "fault", "I", false)
  | 7 => ("CoinNodeModel$Scripts", "operations", "I", false)
  | 8 => ("CoinNodeModel$Scripts", "left", "I", false)
  | 9 => ("CoinNodeModel$Scripts", "depth", "I", false)
  | 10 => ("CoinNodeModel$Scripts", "parts", "[I", true)
  | 11 => ("CoinNodeModel$Scripts", "number", "J", false)
  | 12 => ("CoinNodeModel$Scripts", "message", "[B", true)
  | 13 => ("CoinNodeModel$Scripts", "other", "[B", true)
  | 14 => ("CoinNodeModel$Scripts", "made", "[B", true)
  | 15 => ("CoinNodeModel$Scripts", "hashes", "LCoinNodeModel$Hashes;", true)
  | _ => ("CoinNodeModel$Scripts", "asker", "LCoinNodeModel$Asker;", true)
def jY14 : Nat → FieldType := fun k => match k with
  | 0 => .array .int
  | 1 => .array .int
  | 2 => .int
  | 3 => .int
  | 4 => .array .int
  | 5 => .int
  | 6 => .int
  | 7 => .int
  | 8 => .int
  | 9 => .int
  | 10 => .array .int
  | 11 => .long
  | 12 => .array .byte
  | 13 => .array .byte
  | 14 => .array .byte
  | 15 => .object "CoinNodeModel$Hashes"
  | _ => .object "CoinNodeModel$Asker"
theorem jY14_ok : ∀ k, k < 17 → parseFieldDescriptor (jT14 k).2.2.1 = some (jY14 k) := by decide +kernel
theorem jN14_ok : ∀ a, a < 17 → ∀ b, b < 17 → a ≠ b → (jT14 a).2.1 ≠ (jT14 b).2.1 := by decide +kernel
def jT15 : u_T := fun k => match k with
  | 0 => ("CoinNodeModel$Signing", "hashes", "LCoinNodeModel$Hashes;", true)
  | 1 => ("CoinNodeModel$Signing", "points", "LCoinNodeModel$Points;", true)
  | 2 => ("CoinNodeModel$Signing", "tx", "LCoinNodeModel$Tx;", false)
  | 3 => ("CoinNodeModel$Signing", "input", "I", false)
  | 4 => ("CoinNodeModel$Signing", "lockFrom", "[B", false)
  | 5 => ("CoinNodeModel$Signing", "lockAt", "I", false)
  | 6 => ("CoinNodeModel$Signing", "lockSize", "I", false)
  | 7 => ("CoinNodeModel$Signing", "text", "[B", true)
  | 8 => ("CoinNodeModel$Signing", "size", "I", false)
  | _ => ("CoinNodeModel$Signing", "digest", "[B", true)
def jY15 : Nat → FieldType := fun k => match k with
  | 0 => .object "CoinNodeModel$Hashes"
  | 1 => .object "CoinNodeModel$Points"
  | 2 => .object "CoinNodeModel$Tx"
  | 3 => .int
  | 4 => .array .byte
  | 5 => .int
  | 6 => .int
  | 7 => .array .byte
  | 8 => .int
  | _ => .array .byte
theorem jY15_ok : ∀ k, k < 10 → parseFieldDescriptor (jT15 k).2.2.1 = some (jY15 k) := by decide +kernel
theorem jN15_ok : ∀ a, a < 10 → ∀ b, b < 10 → a ≠ b → (jT15 a).2.1 ≠ (jT15 b).2.1 := by decide +kernel
def jT16 : u_T := fun k => match k with
  | 0 => ("CoinNodeModel$Tree", "most", "I", true)
  | 1 => ("CoinNodeModel$Tree", "many", "I", false)
  | 2 => ("CoinNodeModel$Tree", "parent", "[I", true)
  | 3 => ("CoinNodeModel$Tree", "height", "[I", true)
  | 4 => ("CoinNodeModel$Tree", "time", "[J", true)
  | 5 => ("CoinNodeModel$Tree", "bits", "[J", true)
  | 6 => ("CoinNodeModel$Tree", "bad", "[Z", true)
  | 7 => ("CoinNodeModel$Tree", "sums", "[I", true)
  | 8 => ("CoinNodeModel$Tree", "a", "[I", true)
  | 9 => ("CoinNodeModel$Tree", "b", "[I", true)
  | 10 => ("CoinNodeModel$Tree", "c", "[I", true)
  | _ => ("CoinNodeModel$Tree", "times", "[J", true)
def jY16 : Nat → FieldType := fun k => match k with
  | 0 => .int
  | 1 => .int
  | 2 => .array .int
  | 3 => .array .int
  | 4 => .array .long
  | 5 => .array .long
  | 6 => .array .boolean
  | 7 => .array .int
  | 8 => .array .int
  | 9 => .array .int
  | 10 => .array .int
  | _ => .array .long
theorem jY16_ok : ∀ k, k < 12 → parseFieldDescriptor (jT16 k).2.2.1 = some (jY16 k) := by decide +kernel
theorem jN16_ok : ∀ a, a < 12 → ∀ b, b < 12 → a ≠ b → (jT16 a).2.1 ≠ (jT16 b).2.1 := by decide +kernel
def jT17 : u_T := fun k => match k with
  | 0 => ("CoinNodeModel$Tx", "from", "[B", false)
  | 1 => ("CoinNodeModel$Tx", "at", "I", false)
  | 2 => ("CoinNodeModel$Tx", "end", "I", false)
  | 3 => ("CoinNodeModel$Tx", "place", "I", false)
  | 4 => ("CoinNodeModel$Tx", "inputs", "I", false)
  | 5 => ("CoinNodeModel$Tx", "outputs", "I", false)
  | 6 => ("CoinNodeModel$Tx", "good", "Z", false)
  | 7 => ("CoinNodeModel$Tx", "names", "[I", true)
  | 8 => ("CoinNodeModel$Tx", "indexes", "[J", true)
  | 9 => ("CoinNodeModel$Tx", "scripts", "[I", true)
  | 10 => ("CoinNodeModel$Tx", "scriptSizes", "[I", true)
  | 11 => ("CoinNodeModel$Tx", "sequences", "[I", true)
  | 12 => ("CoinNodeModel$Tx", "values", "[J", true)
  | 13 => ("CoinNodeModel$Tx", "locks", "[I", true)
  | _ => ("CoinNodeModel$Tx", "lockSizes", "[I", true)
def jY17 : Nat → FieldType := fun k => match k with
  | 0 => .array .byte
  | 1 => .int
  | 2 => .int
  | 3 => .int
  | 4 => .int
  | 5 => .int
  | 6 => .boolean
  | 7 => .array .int
  | 8 => .array .long
  | 9 => .array .int
  | 10 => .array .int
  | 11 => .array .int
  | 12 => .array .long
  | 13 => .array .int
  | _ => .array .int
theorem jY17_ok : ∀ k, k < 15 → parseFieldDescriptor (jT17 k).2.2.1 = some (jY17 k) := by decide +kernel
theorem jN17_ok : ∀ a, a < 15 → ∀ b, b < 15 → a ≠ b → (jT17 a).2.1 ≠ (jT17 b).2.1 := by decide +kernel
def jT18 : u_T := fun k => match k with
  | 0 => ("CoinNodeModel", "hashes", "LCoinNodeModel$Hashes;", true)
  | 1 => ("CoinNodeModel", "signing", "LCoinNodeModel$Signing;", true)
  | 2 => ("CoinNodeModel", "scripts", "LCoinNodeModel$Scripts;", true)
  | 3 => ("CoinNodeModel", "tree", "LCoinNodeModel$Tree;", true)
  | 4 => ("CoinNodeModel", "tx", "LCoinNodeModel$Tx;", true)
  | 5 => ("CoinNodeModel", "other", "LCoinNodeModel$Tx;", true)
  | 6 => ("CoinNodeModel", "blocks", "[B", true)
  | 7 => ("CoinNodeModel", "sizes", "[I", true)
  | 8 => ("CoinNodeModel", "names", "[B", true)
  | 9 => ("CoinNodeModel", "right", "[I", true)
  | 10 => ("CoinNodeModel", "codes", "[I", true)
  | 11 => ("CoinNodeModel", "txNames", "[B", true)
  | 12 => ("CoinNodeModel", "fresh", "[B", true)
  | 13 => ("CoinNodeModel", "tip", "I", false)
  | 14 => ("CoinNodeModel", "many", "I", false)
  | 15 => ("CoinNodeModel", "begins", "[I", true)
  | 16 => ("CoinNodeModel", "coinsOf", "I", false)
  | 17 => ("CoinNodeModel", "coins", "I", false)
  | 18 => ("CoinNodeModel", "spent", "I", false)
  | 19 => ("CoinNodeModel", "blockFees", "J", false)
  | 20 => ("CoinNodeModel", "coinNames", "[B", true)
  | 21 => ("CoinNodeModel", "coinIndexes", "[J", true)
  | 22 => ("CoinNodeModel", "coinValues", "[J", true)
  | 23 => ("CoinNodeModel", "coinHeights", "[I", true)
  | 24 => ("CoinNodeModel", "coinFirst", "[Z", true)
  | 25 => ("CoinNodeModel", "coinScripts", "[I", true)
  | 26 => ("CoinNodeModel", "coinSizes", "[I", true)
  | 27 => ("CoinNodeModel", "keptCoins", "I", false)
  | 28 => ("CoinNodeModel", "keptSpent", "I", false)
  | 29 => ("CoinNodeModel", "keptNames", "[B", true)
  | 30 => ("CoinNodeModel", "keptIndexes", "[J", true)
  | 31 => ("CoinNodeModel", "keptValues", "[J", true)
  | 32 => ("CoinNodeModel", "keptHeights", "[I", true)
  | 33 => ("CoinNodeModel", "keptFirst", "[Z", true)
  | 34 => ("CoinNodeModel", "keptScripts", "[I", true)
  | 35 => ("CoinNodeModel", "keptSizes", "[I", true)
  | 36 => ("CoinNodeModel", "pool", "I", false)
  | 37 => ("CoinNodeModel", "poolTexts", "[B", true)
  | 38 => ("CoinNodeModel", "poolSizes", "[I", true)
  | 39 => ("CoinNodeModel", "poolNames", "[B", true)
  | 40 => ("CoinNodeModel", "poolFees", "[J", true)
  | 41 => ("CoinNodeModel", "poolInputs", "[I", true)
  | 42 => ("CoinNodeModel", "poolPlaces", "[I", true)
  | 43 => ("CoinNodeModel", "poolIndexes", "[J", true)
  | 44 => ("CoinNodeModel", "inFamily", "[Z", true)
  | 45 => ("CoinNodeModel", "oldTexts", "[B", true)
  | 46 => ("CoinNodeModel", "oldSizes", "[I", true)
  | 47 => ("CoinNodeModel", "tape", "[B", true)
  | 48 => ("CoinNodeModel", "tapeSize", "I", false)
  | 49 => ("CoinNodeModel", "name", "[B", true)
  | 50 => ("CoinNodeModel", "row", "[B", true)
  | 51 => ("CoinNodeModel", "hand", "[B", true)
  | 52 => ("CoinNodeModel", "handIndex", "I", false)
  | 53 => ("CoinNodeModel", "answers", "[B", true)
  | 54 => ("CoinNodeModel", "waiting", "[I", true)
  | 55 => ("CoinNodeModel", "frame", "[B", true)
  | 56 => ("CoinNodeModel", "frameSize", "I", false)
  | 57 => ("CoinNodeModel", "lockFrom", "[B", false)
  | 58 => ("CoinNodeModel", "lockAt", "I", false)
  | 59 => ("CoinNodeModel", "lockSize", "I", false)
  | _ => ("CoinNodeModel", "isFresh", "Z", false)
def jY18 : Nat → FieldType := fun k => match k with
  | 0 => .object "CoinNodeModel$Hashes"
  | 1 => .object "CoinNodeModel$Signing"
  | 2 => .object "CoinNodeModel$Scripts"
  | 3 => .object "CoinNodeModel$Tree"
  | 4 => .object "CoinNodeModel$Tx"
  | 5 => .object "CoinNodeModel$Tx"
  | 6 => .array .byte
  | 7 => .array .int
  | 8 => .array .byte
  | 9 => .array .int
  | 10 => .array .int
  | 11 => .array .byte
  | 12 => .array .byte
  | 13 => .int
  | 14 => .int
  | 15 => .array .int
  | 16 => .int
  | 17 => .int
  | 18 => .int
  | 19 => .long
  | 20 => .array .byte
  | 21 => .array .long
  | 22 => .array .long
  | 23 => .array .int
  | 24 => .array .boolean
  | 25 => .array .int
  | 26 => .array .int
  | 27 => .int
  | 28 => .int
  | 29 => .array .byte
  | 30 => .array .long
  | 31 => .array .long
  | 32 => .array .int
  | 33 => .array .boolean
  | 34 => .array .int
  | 35 => .array .int
  | 36 => .int
  | 37 => .array .byte
  | 38 => .array .int
  | 39 => .array .byte
  | 40 => .array .long
  | 41 => .array .int
  | 42 => .array .int
  | 43 => .array .long
  | 44 => .array .boolean
  | 45 => .array .byte
  | 46 => .array .int
  | 47 => .array .byte
  | 48 => .int
  | 49 => .array .byte
  | 50 => .array .byte
  | 51 => .array .byte
  | 52 => .int
  | 53 => .array .byte
  | 54 => .array .int
  | 55 => .array .byte
  | 56 => .int
  | 57 => .array .byte
  | 58 => .int
  | 59 => .int
  | _ => .boolean
theorem jY18_ok : ∀ k, k < 61 → parseFieldDescriptor (jT18 k).2.2.1 = some (jY18 k) := by decide +kernel
theorem jN18_ok : ∀ a, a < 61 → ∀ b, b < 61 → a ≠ b → (jT18 a).2.1 ≠ (jT18 b).2.1 := by decide +kernel
def jcl : List vw_C := [("CoinNode$Block", jT0, 9), ("CoinNode$Chain", jT1, 17), ("CoinNode$Coins", jT2, 9), ("CoinNode$Hash", jT3, 6), ("CoinNode$Machine", jT4, 20), ("CoinNode$Point", jT5, 4), ("CoinNode$Pool", jT6, 10), ("CoinNode$Scripts", jT7, 8), ("CoinNode$Signature", jT8, 17), ("CoinNode$Stack", jT9, 3), ("CoinNode$Tx", jT10, 8), ("CoinNode", jT11, 14), ("CoinNodeModel$Hashes", jT12, 4), ("CoinNodeModel$Points", jT13, 7), ("CoinNodeModel$Scripts", jT14, 17), ("CoinNodeModel$Signing", jT15, 10), ("CoinNodeModel$Tree", jT16, 12), ("CoinNodeModel$Tx", jT17, 15), ("CoinNodeModel", jT18, 61)]
end
section
/-! The words of the tables, by their places. -/
def jpriv : List MethodName := [⟨"CoinNode", "layOnTape", "(I)V"⟩, ⟨"CoinNode", "takeTransaction", "(I[B)V"⟩, ⟨"CoinNode$Tx", "readInputs", "(I)I"⟩, ⟨"CoinNode$Tx", "isRootInput", "(I)Z"⟩, ⟨"CoinNode$Tx", "readOutputs", "(I)I"⟩, ⟨"CoinNode", "answerVerdict", "(II[B)V"⟩, ⟨"CoinNode", "begin", "(I)V"⟩, ⟨"CoinNode", "put", "(I)V"⟩, ⟨"CoinNode", "post", "(I)V"⟩, ⟨"CoinNode$Pool", "clash", "(LCoinNode$Tx;)I"⟩, ⟨"CoinNode$Pool", "take", "(LCoinNode$Tx;I)I"⟩, ⟨"CoinNode$Machine", "push", "(I)V"⟩, ⟨"CoinNode$Machine", "part", "(I)V"⟩, ⟨"CoinNode$Machine", "has", "(I)Z"⟩, ⟨"CoinNode$Machine", "small", "(I)V"⟩, ⟨"CoinNode$Machine", "pass", "(I)V"⟩, ⟨"CoinNode$Machine", "arrange", "(I)V"⟩, ⟨"CoinNode$Machine", "move", "(I)V"⟩, ⟨"CoinNode$Machine", "compare", "(I)V"⟩, ⟨"CoinNode$Machine", "calculate", "(I)V"⟩, ⟨"CoinNode$Machine", "digest", "(I)V"⟩, ⟨"CoinNode$Machine", "ask", "(I)V"⟩, ⟨"CoinNode$Machine", "finish", "(Z)V"⟩, ⟨"CoinNode$Scripts", "write", "(LCoinNode$Tx;ILCoinNode$Tx;II)V"⟩, ⟨"CoinNode$Scripts", "put", "([BII)V"⟩, ⟨"CoinNode$Scripts", "fill", "(II)V"⟩, ⟨"CoinNode$Signature", "invert", "([I)V"⟩, ⟨"CoinNode$Signature", "multiply", "([I[I[I)V"⟩, ⟨"CoinNode$Signature", "isAtX", "()Z"⟩, ⟨"CoinNode$Pool", "knot", "(LCoinNode$Tx;)I"⟩, ⟨"CoinNode$Pool", "markKin", "(LCoinNode$Tx;)V"⟩, ⟨"CoinNode$Pool", "dropLeast", "(LCoinNode$Tx;)Z"⟩, ⟨"CoinNode", "tellOthers", "(II[B)V"⟩, ⟨"CoinNode", "put", "([BII)V"⟩, ⟨"CoinNode$Chain", "bitsBehind", "(LCoinNode$Block;)I"⟩, ⟨"CoinNode$Chain", "median", "(LCoinNode$Block;)J"⟩, ⟨"CoinNode$Chain", "setWork", "(LCoinNode$Block;)V"⟩, ⟨"CoinNode$Chain", "best", "()LCoinNode$Block;"⟩, ⟨"CoinNode$Chain", "layWay", "(LCoinNode$Block;)I"⟩, ⟨"CoinNode$Chain", "replay", "(I)V"⟩, ⟨"CoinNode$Coins", "change", "(LCoinNode$Tx;IZ)V"⟩, ⟨"CoinNode$Coins", "take", "(LCoinNode$Tx;I)I"⟩, ⟨"CoinNode$Coins", "faultOfMaking", "(LCoinNode$Tx;I)I"⟩, ⟨"CoinNode$Chain", "move", "(ILCoinNode$Block;)V"⟩, ⟨"CoinNode$Chain", "condemn", "(LCoinNode$Block;)V"⟩, ⟨"CoinNode", "answerBlock", "(ILCoinNode$Block;IZ)V"⟩, ⟨"CoinNode", "askWhatIsBehind", "(I)V"⟩, ⟨"CoinNode", "answerWhatIsBehind", "(I[B)V"⟩, ⟨"CoinNode", "answerGive", "(I[B)V"⟩, ⟨"CoinNode", "answerIHave", "(I[B)V"⟩, ⟨"CoinNodeModel$Points", "write", "(IJJJJ)V"⟩, ⟨"CoinNodeModel$Points", "nothing", "(I)V"⟩, ⟨"CoinNodeModel$Tree", "join", "(IJJ)V"⟩, ⟨"CoinNodeModel$Tree", "quotient", "()V"⟩, ⟨"CoinNodeModel", "write", "(I)V"⟩, ⟨"CoinNodeModel", "message", "(II)V"⟩, ⟨"CoinNodeModel", "comes", "([BIIZ)I"⟩, ⟨"CoinNodeModel", "need", "(I)V"⟩, ⟨"CoinNodeModel", "height", "(I)I"⟩, ⟨"CoinNodeModel$Tree", "isBlock", "(I)Z"⟩, ⟨"CoinNodeModel", "openBlock", "(I)V"⟩, ⟨"CoinNodeModel", "open", "([BII)Z"⟩, ⟨"CoinNodeModel$Tx", "pass", "(I)V"⟩, ⟨"CoinNodeModel$Tx", "size", "(I)I"⟩, ⟨"CoinNodeModel$Tx", "low", "(I)J"⟩, ⟨"CoinNodeModel", "apply", "(IZ)V"⟩, ⟨"CoinNodeModel", "coin", "([BIJ)I"⟩, ⟨"CoinNodeModel", "dropCoin", "(I)V"⟩, ⟨"CoinNodeModel", "nameOf", "(LCoinNodeModel$Tx;[BI)V"⟩, ⟨"CoinNodeModel", "inPool", "([BI)I"⟩, ⟨"CoinNodeModel", "spends", "(I[BIJ)Z"⟩, ⟨"CoinNodeModel", "find", "([BIJ)J"⟩, ⟨"CoinNodeModel", "openPool", "(I)V"⟩, ⟨"CoinNodeModel", "fails", "(LCoinNodeModel$Tx;I[BII)Z"⟩, ⟨"CoinNodeModel$Scripts", "next", "(I)I"⟩, ⟨"CoinNodeModel$Scripts", "isDone", "()Z"⟩, ⟨"CoinNodeModel$Scripts", "fails", "(I)V"⟩, ⟨"CoinNodeModel$Scripts", "pushes", "(IIZ)I"⟩, ⟨"CoinNodeModel$Scripts", "flow", "(I)V"⟩, ⟨"CoinNodeModel$Scripts", "has", "(I)Z"⟩, ⟨"CoinNodeModel$Scripts", "isTrueRow", "(I)Z"⟩, ⟨"CoinNodeModel$Scripts", "pushNumber", "(J)V"⟩, ⟨"CoinNodeModel$Scripts", "operation", "(I)V"⟩, ⟨"CoinNodeModel$Scripts", "moves", "(I)V"⟩, ⟨"CoinNodeModel$Scripts", "copy", "(II)V"⟩, ⟨"CoinNodeModel$Scripts", "push", "(I)V"⟩, ⟨"CoinNodeModel$Scripts", "again", "(III)V"⟩, ⟨"CoinNodeModel$Scripts", "turn", "(II)V"⟩, ⟨"CoinNodeModel$Scripts", "top", "(I)I"⟩, ⟨"CoinNodeModel$Scripts", "takeOut", "(I)V"⟩, ⟨"CoinNodeModel$Scripts", "pick", "(Z)V"⟩, ⟨"CoinNodeModel$Scripts", "reads", "(I)Z"⟩, ⟨"CoinNodeModel$Scripts", "equal", "(Z)V"⟩, ⟨"CoinNodeModel$Scripts", "isSame", "(II)Z"⟩, ⟨"CoinNodeModel$Scripts", "pushTruth", "(Z)V"⟩, ⟨"CoinNodeModel$Scripts", "mustBeTrue", "()V"⟩, ⟨"CoinNodeModel$Scripts", "numberOfOne", "(I)V"⟩, ⟨"CoinNodeModel$Scripts", "numberOfTwo", "(I)V"⟩, ⟨"CoinNodeModel$Scripts", "digest", "(I)V"⟩, ⟨"CoinNodeModel$Scripts", "digested", "(IZ)V"⟩, ⟨"CoinNodeModel$Hashes", "step", "(III)V"⟩, ⟨"CoinNodeModel$Scripts", "one", "(Z)V"⟩, ⟨"CoinNodeModel$Scripts", "fit", "(II)Z"⟩, ⟨"CoinNodeModel$Points", "read", "(III)V"⟩, ⟨"CoinNodeModel$Points", "compare", "(II)I"⟩, ⟨"CoinNodeModel$Points", "curve", "(II)V"⟩, ⟨"CoinNodeModel$Points", "multiply", "(IIII)V"⟩, ⟨"CoinNodeModel$Points", "carry", "()V"⟩, ⟨"CoinNodeModel$Points", "isWide", "()Z"⟩, ⟨"CoinNodeModel$Points", "fold", "(I)V"⟩, ⟨"CoinNodeModel$Points", "add", "(III)V"⟩, ⟨"CoinNodeModel$Points", "plus", "(IIII)V"⟩, ⟨"CoinNodeModel$Points", "copy", "(II)V"⟩, ⟨"CoinNodeModel$Points", "roots", "(II)Z"⟩, ⟨"CoinNodeModel$Points", "power", "(III)V"⟩, ⟨"CoinNodeModel$Points", "bit", "(II)Z"⟩, ⟨"CoinNodeModel$Points", "isOdd", "(I)Z"⟩, ⟨"CoinNodeModel$Points", "minus", "(IIII)V"⟩, ⟨"CoinNodeModel$Points", "isPoint", "(II)Z"⟩, ⟨"CoinNodeModel$Points", "numberEnd", "(II)I"⟩, ⟨"CoinNodeModel$Signing", "write", "(I)V"⟩, ⟨"CoinNodeModel$Signing", "copy", "([BII)V"⟩, ⟨"CoinNodeModel$Signing", "fill", "(II)V"⟩, ⟨"CoinNodeModel$Signing", "word", "(I)J"⟩, ⟨"CoinNodeModel$Points", "isNothing", "(I)Z"⟩, ⟨"CoinNodeModel$Points", "divide", "(IIII)V"⟩, ⟨"CoinNodeModel$Points", "multiple", "(I)V"⟩, ⟨"CoinNodeModel$Points", "isNone", "(I)Z"⟩, ⟨"CoinNodeModel$Points", "twice", "(I)V"⟩, ⟨"CoinNodeModel$Points", "copyPoint", "(II)V"⟩, ⟨"CoinNodeModel$Points", "join", "(II)V"⟩, ⟨"CoinNodeModel$Points", "load", "(II)V"⟩, ⟨"CoinNodeModel$Scripts", "several", "(Z)V"⟩, ⟨"CoinNodeModel", "lacks", "()Z"⟩, ⟨"CoinNodeModel", "hangsOnItself", "()Z"⟩, ⟨"CoinNodeModel", "family", "([BI)V"⟩, ⟨"CoinNodeModel", "hangs", "(I[BI)Z"⟩, ⟨"CoinNodeModel", "evict", "()V"⟩, ⟨"CoinNodeModel", "verdict", "(II[BI)V"⟩, ⟨"CoinNodeModel", "begin", "(I)V"⟩, ⟨"CoinNodeModel", "put", "(I)V"⟩, ⟨"CoinNodeModel", "tell", "(I)V"⟩, ⟨"CoinNodeModel", "tellOthers", "(II[BI)V"⟩, ⟨"CoinNodeModel", "copy", "([BII)V"⟩, ⟨"CoinNodeModel", "arrives", "(I)I"⟩, ⟨"CoinNodeModel", "known", "([BI)I"⟩, ⟨"CoinNodeModel", "head", "(II)J"⟩, ⟨"CoinNodeModel$Tree", "scale", "(JJ)V"⟩, ⟨"CoinNodeModel", "isAbove", "(J)Z"⟩, ⟨"CoinNodeModel", "isFramed", "()Z"⟩, ⟨"CoinNodeModel", "isRooted", "()Z"⟩, ⟨"CoinNodeModel", "isFaulty", "()Z"⟩, ⟨"CoinNodeModel", "choose", "()V"⟩, ⟨"CoinNodeModel", "look", "(I)I"⟩, ⟨"CoinNodeModel", "parent", "(I)I"⟩, ⟨"CoinNodeModel", "keep", "()V"⟩, ⟨"CoinNodeModel", "faultOf", "(I)I"⟩, ⟨"CoinNodeModel", "wrong", "(I)I"⟩, ⟨"CoinNodeModel", "back", "()V"⟩, ⟨"CoinNodeModel", "renew", "(I)V"⟩, ⟨"CoinNodeModel", "askBehind", "(I)V"⟩, ⟨"CoinNodeModel", "isList", "(IIII)Z"⟩, ⟨"CoinNodeModel", "heads", "(II)V"⟩, ⟨"CoinNodeModel", "give", "(II)V"⟩, ⟨"CoinNodeModel", "want", "(II)V"⟩]
def jsel (y : MethodName) : Cond := .selects y.cls y y
def jws : List Cond := tables_1.filter goodWord ++ jpriv.map jsel
theorem jws_t {w : Cond} {i : Nat} (h : tables_1[i]? = some w) (hg : goodWord w = true) : w ∈ jws := List.mem_append_left _ (List.mem_filter.mpr ⟨List.mem_of_getElem? h, hg⟩)
theorem jws_1 {w : Cond} (h : w ∈ tables_1_1) (hg : goodWord w = true) : w ∈ jws := List.mem_append_left _ (List.mem_filter.mpr ⟨List.mem_append_left _ h, hg⟩)
theorem jws_2 {w : Cond} (h : w ∈ tables_1_2) (hg : goodWord w = true) : w ∈ jws := List.mem_append_left _ (List.mem_filter.mpr ⟨List.mem_append_right _ (List.mem_append_left _ h), hg⟩)
theorem jws_3 {w : Cond} (h : w ∈ tables_1_3) (hg : goodWord w = true) : w ∈ jws := List.mem_append_left _ (List.mem_filter.mpr ⟨List.mem_append_right _ (List.mem_append_right _ (List.mem_append_left _ h)), hg⟩)
theorem jws_4 {w : Cond} (h : w ∈ tables_1_4) (hg : goodWord w = true) : w ∈ jws := List.mem_append_left _ (List.mem_filter.mpr ⟨List.mem_append_right _ (List.mem_append_right _ (List.mem_append_right _ (List.mem_append_left _ h))), hg⟩)
theorem jws_5 {w : Cond} (h : w ∈ tables_1_5) (hg : goodWord w = true) : w ∈ jws := List.mem_append_left _ (List.mem_filter.mpr ⟨List.mem_append_right _ (List.mem_append_right _ (List.mem_append_right _ (List.mem_append_right _ (List.mem_append_left _ h)))), hg⟩)
theorem jws_6 {w : Cond} (h : w ∈ tables_1_6) (hg : goodWord w = true) : w ∈ jws := List.mem_append_left _ (List.mem_filter.mpr ⟨List.mem_append_right _ (List.mem_append_right _ (List.mem_append_right _ (List.mem_append_right _ (List.mem_append_right _ (List.mem_append_left _ h))))), hg⟩)
theorem jws_7 {w : Cond} (h : w ∈ tables_1_7) (hg : goodWord w = true) : w ∈ jws := List.mem_append_left _ (List.mem_filter.mpr ⟨List.mem_append_right _ (List.mem_append_right _ (List.mem_append_right _ (List.mem_append_right _ (List.mem_append_right _ (List.mem_append_right _ (List.mem_append_left _ h)))))), hg⟩)
theorem jws_8 {w : Cond} (h : w ∈ tables_1_8) (hg : goodWord w = true) : w ∈ jws := List.mem_append_left _ (List.mem_filter.mpr ⟨List.mem_append_right _ (List.mem_append_right _ (List.mem_append_right _ (List.mem_append_right _ (List.mem_append_right _ (List.mem_append_right _ (List.mem_append_right _ (List.mem_append_left _ h))))))), hg⟩)
theorem jws_9 {w : Cond} (h : w ∈ tables_1_9) (hg : goodWord w = true) : w ∈ jws := List.mem_append_left _ (List.mem_filter.mpr ⟨List.mem_append_right _ (List.mem_append_right _ (List.mem_append_right _ (List.mem_append_right _ (List.mem_append_right _ (List.mem_append_right _ (List.mem_append_right _ (List.mem_append_right _ (List.mem_append_left _ h)))))))), hg⟩)
theorem jws_10 {w : Cond} (h : w ∈ tables_1_10) (hg : goodWord w = true) : w ∈ jws := List.mem_append_left _ (List.mem_filter.mpr ⟨List.mem_append_right _ (List.mem_append_right _ (List.mem_append_right _ (List.mem_append_right _ (List.mem_append_right _ (List.mem_append_right _ (List.mem_append_right _ (List.mem_append_right _ (List.mem_append_right _ (List.mem_append_left _ h))))))))), hg⟩)
theorem jws_11 {w : Cond} (h : w ∈ tables_1_11) (hg : goodWord w = true) : w ∈ jws := List.mem_append_left _ (List.mem_filter.mpr ⟨List.mem_append_right _ (List.mem_append_right _ (List.mem_append_right _ (List.mem_append_right _ (List.mem_append_right _ (List.mem_append_right _ (List.mem_append_right _ (List.mem_append_right _ (List.mem_append_right _ (List.mem_append_right _ (h)))))))))), hg⟩)
theorem jws_p {y : MethodName} {i : Nat} (h : jpriv[i]? = some y) : jsel y ∈ jws := List.mem_append_right _ (List.mem_map.mpr ⟨y, List.mem_of_getElem? h, rfl⟩)
theorem jws_good : ∀ w ∈ jws, goodWord w = true := by
  intro w hw
  rcases List.mem_append.mp hw with h | h
  · exact (List.mem_filter.mp h).2
  · obtain ⟨y, -, rfl⟩ := List.mem_map.mp h
    rfl
theorem jw_0 : (Jvm.Cond.initialized "CoinNodeLaw") ∈ jws := jws_1 (List.mem_of_getElem? (i := 0) rfl) rfl
theorem jw_1 : (Jvm.Cond.initialized "CoinNode") ∈ jws := jws_1 (List.mem_of_getElem? (i := 1) rfl) rfl
theorem jw_2 : (Jvm.Cond.initialized "CoinNode$Hash") ∈ jws := jws_1 (List.mem_of_getElem? (i := 2) rfl) rfl
theorem jw_3 : (Jvm.Cond.initialized "CoinNode$Scripts") ∈ jws := jws_1 (List.mem_of_getElem? (i := 3) rfl) rfl
theorem jw_4 : (Jvm.Cond.initialized "CoinNode$Signature") ∈ jws := jws_1 (List.mem_of_getElem? (i := 4) rfl) rfl
theorem jw_5 : (Jvm.Cond.initialized "CoinNode$Point") ∈ jws := jws_1 (List.mem_of_getElem? (i := 5) rfl) rfl
theorem jw_6 : (Jvm.Cond.initialized "CoinNode$Machine") ∈ jws := jws_1 (List.mem_of_getElem? (i := 6) rfl) rfl
theorem jw_7 : (Jvm.Cond.initialized "CoinNode$Stack") ∈ jws := jws_1 (List.mem_of_getElem? (i := 7) rfl) rfl
theorem jw_8 : (Jvm.Cond.initialized "CoinNode$Coins") ∈ jws := jws_1 (List.mem_of_getElem? (i := 8) rfl) rfl
theorem jw_9 : (Jvm.Cond.initialized "CoinNode$Chain") ∈ jws := jws_1 (List.mem_of_getElem? (i := 9) rfl) rfl
theorem jw_10 : (Jvm.Cond.initialized "CoinNode$Block") ∈ jws := jws_1 (List.mem_of_getElem? (i := 10) rfl) rfl
theorem jw_11 : (Jvm.Cond.initialized "CoinNode$Tx") ∈ jws := jws_1 (List.mem_of_getElem? (i := 11) rfl) rfl
theorem jw_12 : (Jvm.Cond.initialized "java/lang/System") ∈ jws := jws_1 (List.mem_of_getElem? (i := 12) rfl) rfl
theorem jw_13 : (Jvm.Cond.initialized "CoinNode$Pool") ∈ jws := jws_1 (List.mem_of_getElem? (i := 13) rfl) rfl
theorem jw_14 : (Jvm.Cond.initialized "CoinNodeModel") ∈ jws := jws_1 (List.mem_of_getElem? (i := 14) rfl) rfl
theorem jw_15 : (Jvm.Cond.initialized "CoinNodeModel$Hashes") ∈ jws := jws_1 (List.mem_of_getElem? (i := 15) rfl) rfl
theorem jw_16 : (Jvm.Cond.initialized "CoinNodeModel$Signing") ∈ jws := jws_1 (List.mem_of_getElem? (i := 16) rfl) rfl
theorem jw_17 : (Jvm.Cond.initialized "CoinNodeModel$Points") ∈ jws := jws_1 (List.mem_of_getElem? (i := 17) rfl) rfl
theorem jw_18 : (Jvm.Cond.initialized "CoinNodeModel$Scripts") ∈ jws := jws_1 (List.mem_of_getElem? (i := 18) rfl) rfl
theorem jw_19 : (Jvm.Cond.initialized "CoinNodeModel$Tree") ∈ jws := jws_1 (List.mem_of_getElem? (i := 19) rfl) rfl
theorem jw_20 : (Jvm.Cond.initialized "CoinNodeModel$Tx") ∈ jws := jws_1 (List.mem_of_getElem? (i := 20) rfl) rfl
theorem jw_21 : (Jvm.Cond.initialized "java/util/Arrays") ∈ jws := jws_1 (List.mem_of_getElem? (i := 21) rfl) rfl
theorem jw_22 : (Jvm.Cond.initialized "java/lang/Math") ∈ jws := jws_1 (List.mem_of_getElem? (i := 22) rfl) rfl
theorem jw_23 : (Jvm.Cond.classLink "CoinNodeLaw" (7 : Nat) "CoinNode") ∈ jws := jws_1 (List.mem_of_getElem? (i := 23) rfl) rfl
theorem jw_24 : (Jvm.Cond.instantiable "CoinNode" (14 : Nat)) ∈ jws := jws_1 (List.mem_of_getElem? (i := 24) rfl) rfl
theorem jw_25 : (Jvm.Cond.methodLink "CoinNodeLaw" (9 : Nat) ({ cls := "CoinNode", name := "<init>", desc := "()V" } : Jvm.MethodName)) ∈ jws := jws_1 (List.mem_of_getElem? (i := 25) rfl) rfl
theorem jw_26 : (Jvm.Cond.instanceMethod ({ cls := "CoinNode", name := "<init>", desc := "()V" } : Jvm.MethodName)) ∈ jws := jws_1 (List.mem_of_getElem? (i := 26) rfl) rfl
theorem jw_27 : (Jvm.Cond.code ({ cls := "CoinNode", name := "<init>", desc := "()V" } : Jvm.MethodName) prog_1_method_1_code (1 : Nat) (Option.none : Option Jvm.ClassFile.FieldType)) ∈ jws := jws_1 (List.mem_of_getElem? (i := 27) rfl) rfl
theorem jw_28 : (Jvm.Cond.methodLink "CoinNode" (1 : Nat) ({ cls := "java/lang/Object", name := "<init>", desc := "()V" } : Jvm.MethodName)) ∈ jws := jws_1 (List.mem_of_getElem? (i := 28) rfl) rfl
theorem jw_29 : (Jvm.Cond.instanceMethod ({ cls := "java/lang/Object", name := "<init>", desc := "()V" } : Jvm.MethodName)) ∈ jws := jws_1 (List.mem_of_getElem? (i := 29) rfl) rfl
theorem jw_30 : (Jvm.Cond.code ({ cls := "java/lang/Object", name := "<init>", desc := "()V" } : Jvm.MethodName) object_method_1_code (1 : Nat) (Option.none : Option Jvm.ClassFile.FieldType)) ∈ jws := jws_1 (List.mem_of_getElem? (i := 30) rfl) rfl
theorem jw_31 : (Jvm.Cond.classLink "CoinNode" (16 : Nat) "[[B") ∈ jws := jws_1 (List.mem_of_getElem? (i := 31) rfl) rfl
theorem jw_33 : (Jvm.Cond.classLink "CoinNode" (31 : Nat) "CoinNode$Hash") ∈ jws := jws_1 (List.mem_of_getElem? (i := 33) rfl) rfl
theorem jw_34 : (Jvm.Cond.instantiable "CoinNode$Hash" (6 : Nat)) ∈ jws := jws_1 (List.mem_of_getElem? (i := 34) rfl) rfl
theorem jw_36 : (Jvm.Cond.instanceMethod ({ cls := "CoinNode$Hash", name := "<init>", desc := "()V" } : Jvm.MethodName)) ∈ jws := jws_1 (List.mem_of_getElem? (i := 36) rfl) rfl
theorem jw_37 : (Jvm.Cond.code ({ cls := "CoinNode$Hash", name := "<init>", desc := "()V" } : Jvm.MethodName) prog_5_method_1_code (1 : Nat) (Option.none : Option Jvm.ClassFile.FieldType)) ∈ jws := jws_1 (List.mem_of_getElem? (i := 37) rfl) rfl
theorem jw_38 : (Jvm.Cond.methodLink "CoinNode$Hash" (3 : Nat) ({ cls := "java/lang/Object", name := "<init>", desc := "()V" } : Jvm.MethodName)) ∈ jws := jws_1 (List.mem_of_getElem? (i := 38) rfl) rfl
theorem jw_39 : (Jvm.Cond.fieldLink "CoinNode$Hash" (11 : Nat) "CoinNode$Hash" "ready" "[B") ∈ jws := jws_1 (List.mem_of_getElem? (i := 39) rfl) rfl
theorem jw_40 : (Jvm.Cond.fieldLink "CoinNode$Hash" (28 : Nat) "CoinNode$Hash" "readySize" "I") ∈ jws := jws_1 (List.mem_of_getElem? (i := 40) rfl) rfl
theorem jw_41 : (Jvm.Cond.fieldLink "CoinNode$Hash" (15 : Nat) "CoinNode$Hash" "state" "[I") ∈ jws := jws_1 (List.mem_of_getElem? (i := 41) rfl) rfl
theorem jw_42 : (Jvm.Cond.fieldLink "CoinNode$Hash" (19 : Nat) "CoinNode$Hash" "words" "[I") ∈ jws := jws_1 (List.mem_of_getElem? (i := 42) rfl) rfl
theorem jw_43 : (Jvm.Cond.fieldLink "CoinNode$Hash" (22 : Nat) "CoinNode$Hash" "line" "[I") ∈ jws := jws_1 (List.mem_of_getElem? (i := 43) rfl) rfl
theorem jw_44 : (Jvm.Cond.fieldLink "CoinNode$Hash" (25 : Nat) "CoinNode$Hash" "between" "[B") ∈ jws := jws_1 (List.mem_of_getElem? (i := 44) rfl) rfl
theorem jw_45 : (Jvm.Cond.laysFinal "CoinNode$Hash" "CoinNode$Hash" "ready" "[B") ∈ jws := jws_1 (List.mem_of_getElem? (i := 45) rfl) rfl
theorem jw_47 : (Jvm.Cond.lays "CoinNode$Hash" "CoinNode$Hash" "readySize" "I") ∈ jws := jws_1 (List.mem_of_getElem? (i := 47) rfl) rfl
theorem jw_49 : (Jvm.Cond.laysFinal "CoinNode$Hash" "CoinNode$Hash" "state" "[I") ∈ jws := jws_1 (List.mem_of_getElem? (i := 49) rfl) rfl
theorem jw_51 : (Jvm.Cond.laysFinal "CoinNode$Hash" "CoinNode$Hash" "words" "[I") ∈ jws := jws_1 (List.mem_of_getElem? (i := 51) rfl) rfl
theorem jw_53 : (Jvm.Cond.laysFinal "CoinNode$Hash" "CoinNode$Hash" "line" "[I") ∈ jws := jws_1 (List.mem_of_getElem? (i := 53) rfl) rfl
theorem jw_55 : (Jvm.Cond.laysFinal "CoinNode$Hash" "CoinNode$Hash" "between" "[B") ∈ jws := jws_1 (List.mem_of_getElem? (i := 55) rfl) rfl
theorem jw_58 : (Jvm.Cond.arrayClass Jvm.ClassFile.FieldType.byte) ∈ jws := jws_1 (List.mem_of_getElem? (i := 58) rfl) rfl
theorem jw_59 : (Jvm.Cond.arrayClass Jvm.ClassFile.FieldType.int) ∈ jws := jws_1 (List.mem_of_getElem? (i := 59) rfl) rfl
theorem jw_60 : (Jvm.Cond.classLink "CoinNode" (38 : Nat) "CoinNode$Scripts") ∈ jws := jws_1 (List.mem_of_getElem? (i := 60) rfl) rfl
theorem jw_61 : (Jvm.Cond.instantiable "CoinNode$Scripts" (8 : Nat)) ∈ jws := jws_1 (List.mem_of_getElem? (i := 61) rfl) rfl
theorem jw_62 : (Jvm.Cond.methodLink "CoinNode" (40 : Nat) ({ cls := "CoinNode$Scripts", name := "<init>", desc := "(LCoinNode$Hash;)V" } : Jvm.MethodName)) ∈ jws := jws_1 (List.mem_of_getElem? (i := 62) rfl) rfl
theorem jw_63 : (Jvm.Cond.instanceMethod ({ cls := "CoinNode$Scripts", name := "<init>", desc := "(LCoinNode$Hash;)V" } : Jvm.MethodName)) ∈ jws := jws_1 (List.mem_of_getElem? (i := 63) rfl) rfl
theorem jw_64 : (Jvm.Cond.code ({ cls := "CoinNode$Scripts", name := "<init>", desc := "(LCoinNode$Hash;)V" } : Jvm.MethodName) prog_9_method_1_code (2 : Nat) (Option.none : Option Jvm.ClassFile.FieldType)) ∈ jws := jws_1 (List.mem_of_getElem? (i := 64) rfl) rfl
theorem jw_65 : (Jvm.Cond.methodLink "CoinNode$Scripts" (3 : Nat) ({ cls := "java/lang/Object", name := "<init>", desc := "()V" } : Jvm.MethodName)) ∈ jws := jws_1 (List.mem_of_getElem? (i := 65) rfl) rfl
theorem jw_66 : (Jvm.Cond.classLink "CoinNode$Scripts" (9 : Nat) "CoinNode$Signature") ∈ jws := jws_1 (List.mem_of_getElem? (i := 66) rfl) rfl
theorem jw_67 : (Jvm.Cond.instantiable "CoinNode$Signature" (17 : Nat)) ∈ jws := jws_1 (List.mem_of_getElem? (i := 67) rfl) rfl
theorem jw_68 : (Jvm.Cond.methodLink "CoinNode$Scripts" (11 : Nat) ({ cls := "CoinNode$Signature", name := "<init>", desc := "()V" } : Jvm.MethodName)) ∈ jws := jws_1 (List.mem_of_getElem? (i := 68) rfl) rfl
theorem jw_69 : (Jvm.Cond.instanceMethod ({ cls := "CoinNode$Signature", name := "<init>", desc := "()V" } : Jvm.MethodName)) ∈ jws := jws_1 (List.mem_of_getElem? (i := 69) rfl) rfl
theorem jw_70 : (Jvm.Cond.code ({ cls := "CoinNode$Signature", name := "<init>", desc := "()V" } : Jvm.MethodName) prog_10_method_1_code (2 : Nat) (Option.none : Option Jvm.ClassFile.FieldType)) ∈ jws := jws_1 (List.mem_of_getElem? (i := 70) rfl) rfl
theorem jw_71 : (Jvm.Cond.methodLink "CoinNode$Signature" (3 : Nat) ({ cls := "java/lang/Object", name := "<init>", desc := "()V" } : Jvm.MethodName)) ∈ jws := jws_1 (List.mem_of_getElem? (i := 71) rfl) rfl
theorem jw_72 : (Jvm.Cond.classLink "CoinNode$Signature" (33 : Nat) "[[I") ∈ jws := jws_1 (List.mem_of_getElem? (i := 72) rfl) rfl
theorem jw_74 : (Jvm.Cond.classLink "CoinNode$Signature" (38 : Nat) "[[J") ∈ jws := jws_1 (List.mem_of_getElem? (i := 74) rfl) rfl
theorem jw_76 : (Jvm.Cond.classLink "CoinNode$Signature" (49 : Nat) "CoinNode$Point") ∈ jws := jws_1 (List.mem_of_getElem? (i := 76) rfl) rfl
theorem jw_78 : (Jvm.Cond.instantiable "CoinNode$Point" (4 : Nat)) ∈ jws := jws_1 (List.mem_of_getElem? (i := 78) rfl) rfl
theorem jw_80 : (Jvm.Cond.instanceMethod ({ cls := "CoinNode$Point", name := "<init>", desc := "()V" } : Jvm.MethodName)) ∈ jws := jws_1 (List.mem_of_getElem? (i := 80) rfl) rfl
theorem jw_81 : (Jvm.Cond.code ({ cls := "CoinNode$Point", name := "<init>", desc := "()V" } : Jvm.MethodName) prog_7_method_1_code (1 : Nat) (Option.none : Option Jvm.ClassFile.FieldType)) ∈ jws := jws_1 (List.mem_of_getElem? (i := 81) rfl) rfl
theorem jw_82 : (Jvm.Cond.methodLink "CoinNode$Point" (1 : Nat) ({ cls := "java/lang/Object", name := "<init>", desc := "()V" } : Jvm.MethodName)) ∈ jws := jws_1 (List.mem_of_getElem? (i := 82) rfl) rfl
theorem jw_83 : (Jvm.Cond.fieldLink "CoinNode$Point" (7 : Nat) "CoinNode$Point" "x" "[J") ∈ jws := jws_1 (List.mem_of_getElem? (i := 83) rfl) rfl
theorem jw_84 : (Jvm.Cond.fieldLink "CoinNode$Signature" (89 : Nat) "CoinNode$Point" "x" "[J") ∈ jws := jws_1 (List.mem_of_getElem? (i := 84) rfl) rfl
theorem jw_85 : (Jvm.Cond.fieldLink "CoinNode$Point" (13 : Nat) "CoinNode$Point" "y" "[J") ∈ jws := jws_1 (List.mem_of_getElem? (i := 85) rfl) rfl
theorem jw_86 : (Jvm.Cond.fieldLink "CoinNode$Signature" (105 : Nat) "CoinNode$Point" "y" "[J") ∈ jws := jws_1 (List.mem_of_getElem? (i := 86) rfl) rfl
theorem jw_87 : (Jvm.Cond.fieldLink "CoinNode$Point" (16 : Nat) "CoinNode$Point" "z" "[J") ∈ jws := jws_1 (List.mem_of_getElem? (i := 87) rfl) rfl
theorem jw_88 : (Jvm.Cond.fieldLink "CoinNode$Signature" (168 : Nat) "CoinNode$Point" "z" "[J") ∈ jws := jws_1 (List.mem_of_getElem? (i := 88) rfl) rfl
theorem jw_89 : (Jvm.Cond.fieldLink "CoinNode$Point" (19 : Nat) "CoinNode$Point" "isNone" "Z") ∈ jws := jws_1 (List.mem_of_getElem? (i := 89) rfl) rfl
theorem jw_90 : (Jvm.Cond.fieldLink "CoinNode$Signature" (155 : Nat) "CoinNode$Point" "isNone" "Z") ∈ jws := jws_1 (List.mem_of_getElem? (i := 90) rfl) rfl
theorem jw_91 : (Jvm.Cond.laysFinal "CoinNode$Point" "CoinNode$Point" "x" "[J") ∈ jws := jws_1 (List.mem_of_getElem? (i := 91) rfl) rfl
theorem jw_93 : (Jvm.Cond.laysFinal "CoinNode$Point" "CoinNode$Point" "y" "[J") ∈ jws := jws_1 (List.mem_of_getElem? (i := 93) rfl) rfl
theorem jw_95 : (Jvm.Cond.laysFinal "CoinNode$Point" "CoinNode$Point" "z" "[J") ∈ jws := jws_1 (List.mem_of_getElem? (i := 95) rfl) rfl
theorem jw_97 : (Jvm.Cond.lays "CoinNode$Point" "CoinNode$Point" "isNone" "Z") ∈ jws := jws_1 (List.mem_of_getElem? (i := 97) rfl) rfl
theorem jw_100 : (Jvm.Cond.arrayClass Jvm.ClassFile.FieldType.long) ∈ jws := jws_1 (List.mem_of_getElem? (i := 100) rfl) rfl
theorem jw_101 : (Jvm.Cond.fieldLink "CoinNode$Signature" (66 : Nat) "CoinNode$Signature" "kind" "I") ∈ jws := jws_1 (List.mem_of_getElem? (i := 101) rfl) rfl
theorem jw_102 : (Jvm.Cond.fieldLink "CoinNode$Scripts" (97 : Nat) "CoinNode$Signature" "kind" "I") ∈ jws := jws_1 (List.mem_of_getElem? (i := 102) rfl) rfl
theorem jw_103 : (Jvm.Cond.fieldLink "CoinNode$Signature" (9 : Nat) "CoinNode$Signature" "r" "[I") ∈ jws := jws_1 (List.mem_of_getElem? (i := 103) rfl) rfl
theorem jw_104 : (Jvm.Cond.fieldLink "CoinNode$Signature" (15 : Nat) "CoinNode$Signature" "s" "[I") ∈ jws := jws_1 (List.mem_of_getElem? (i := 104) rfl) rfl
theorem jw_105 : (Jvm.Cond.fieldLink "CoinNode$Signature" (18 : Nat) "CoinNode$Signature" "x" "[I") ∈ jws := jws_1 (List.mem_of_getElem? (i := 105) rfl) rfl
theorem jw_106 : (Jvm.Cond.fieldLink "CoinNode$Signature" (21 : Nat) "CoinNode$Signature" "y" "[I") ∈ jws := jws_1 (List.mem_of_getElem? (i := 106) rfl) rfl
theorem jw_107 : (Jvm.Cond.fieldLink "CoinNode$Signature" (24 : Nat) "CoinNode$Signature" "z" "[I") ∈ jws := jws_1 (List.mem_of_getElem? (i := 107) rfl) rfl
theorem jw_108 : (Jvm.Cond.fieldLink "CoinNode$Signature" (27 : Nat) "CoinNode$Signature" "wide" "[I") ∈ jws := jws_1 (List.mem_of_getElem? (i := 108) rfl) rfl
theorem jw_109 : (Jvm.Cond.fieldLink "CoinNode$Signature" (30 : Nat) "CoinNode$Signature" "high" "[I") ∈ jws := jws_1 (List.mem_of_getElem? (i := 109) rfl) rfl
theorem jw_110 : (Jvm.Cond.fieldLink "CoinNode$Signature" (35 : Nat) "CoinNode$Signature" "powers" "[[I") ∈ jws := jws_1 (List.mem_of_getElem? (i := 110) rfl) rfl
theorem jw_111 : (Jvm.Cond.fieldLink "CoinNode$Signature" (40 : Nat) "CoinNode$Signature" "work" "[[J") ∈ jws := jws_1 (List.mem_of_getElem? (i := 111) rfl) rfl
theorem jw_112 : (Jvm.Cond.fieldLink "CoinNode$Signature" (43 : Nat) "CoinNode$Signature" "baseDigits" "[I") ∈ jws := jws_1 (List.mem_of_getElem? (i := 112) rfl) rfl
theorem jw_113 : (Jvm.Cond.fieldLink "CoinNode$Signature" (46 : Nat) "CoinNode$Signature" "keyDigits" "[I") ∈ jws := jws_1 (List.mem_of_getElem? (i := 113) rfl) rfl
theorem jw_114 : (Jvm.Cond.fieldLink "CoinNode$Signature" (51 : Nat) "CoinNode$Signature" "baseOdds" "[LCoinNode$Point;") ∈ jws := jws_1 (List.mem_of_getElem? (i := 114) rfl) rfl
theorem jw_115 : (Jvm.Cond.fieldLink "CoinNode$Signature" (55 : Nat) "CoinNode$Signature" "keyOdds" "[LCoinNode$Point;") ∈ jws := jws_1 (List.mem_of_getElem? (i := 115) rfl) rfl
theorem jw_116 : (Jvm.Cond.fieldLink "CoinNode$Signature" (59 : Nat) "CoinNode$Signature" "twice" "LCoinNode$Point;") ∈ jws := jws_1 (List.mem_of_getElem? (i := 116) rfl) rfl
theorem jw_117 : (Jvm.Cond.fieldLink "CoinNode$Signature" (63 : Nat) "CoinNode$Signature" "sum" "LCoinNode$Point;") ∈ jws := jws_1 (List.mem_of_getElem? (i := 117) rfl) rfl
theorem jw_118 : (Jvm.Cond.fieldLink "CoinNode$Signature" (134 : Nat) "CoinNode$Signature" "hasBase" "Z") ∈ jws := jws_1 (List.mem_of_getElem? (i := 118) rfl) rfl
theorem jw_119 : (Jvm.Cond.lays "CoinNode$Signature" "CoinNode$Signature" "kind" "I") ∈ jws := jws_1 (List.mem_of_getElem? (i := 119) rfl) rfl
theorem jw_121 : (Jvm.Cond.laysFinal "CoinNode$Signature" "CoinNode$Signature" "r" "[I") ∈ jws := jws_1 (List.mem_of_getElem? (i := 121) rfl) rfl
theorem jw_123 : (Jvm.Cond.laysFinal "CoinNode$Signature" "CoinNode$Signature" "s" "[I") ∈ jws := jws_1 (List.mem_of_getElem? (i := 123) rfl) rfl
theorem jw_125 : (Jvm.Cond.laysFinal "CoinNode$Signature" "CoinNode$Signature" "x" "[I") ∈ jws := jws_1 (List.mem_of_getElem? (i := 125) rfl) rfl
theorem jw_127 : (Jvm.Cond.laysFinal "CoinNode$Signature" "CoinNode$Signature" "y" "[I") ∈ jws := jws_1 (List.mem_of_getElem? (i := 127) rfl) rfl
theorem jw_129 : (Jvm.Cond.laysFinal "CoinNode$Signature" "CoinNode$Signature" "z" "[I") ∈ jws := jws_1 (List.mem_of_getElem? (i := 129) rfl) rfl
theorem jw_131 : (Jvm.Cond.laysFinal "CoinNode$Signature" "CoinNode$Signature" "wide" "[I") ∈ jws := jws_1 (List.mem_of_getElem? (i := 131) rfl) rfl
theorem jw_133 : (Jvm.Cond.laysFinal "CoinNode$Signature" "CoinNode$Signature" "high" "[I") ∈ jws := jws_1 (List.mem_of_getElem? (i := 133) rfl) rfl
theorem jw_135 : (Jvm.Cond.laysFinal "CoinNode$Signature" "CoinNode$Signature" "powers" "[[I") ∈ jws := jws_1 (List.mem_of_getElem? (i := 135) rfl) rfl
theorem jw_137 : (Jvm.Cond.laysFinal "CoinNode$Signature" "CoinNode$Signature" "work" "[[J") ∈ jws := jws_1 (List.mem_of_getElem? (i := 137) rfl) rfl
theorem jw_139 : (Jvm.Cond.laysFinal "CoinNode$Signature" "CoinNode$Signature" "baseDigits" "[I") ∈ jws := jws_1 (List.mem_of_getElem? (i := 139) rfl) rfl
theorem jw_141 : (Jvm.Cond.laysFinal "CoinNode$Signature" "CoinNode$Signature" "keyDigits" "[I") ∈ jws := jws_1 (List.mem_of_getElem? (i := 141) rfl) rfl
theorem jw_143 : (Jvm.Cond.laysFinal "CoinNode$Signature" "CoinNode$Signature" "baseOdds" "[LCoinNode$Point;") ∈ jws := jws_1 (List.mem_of_getElem? (i := 143) rfl) rfl
theorem jw_145 : (Jvm.Cond.laysFinal "CoinNode$Signature" "CoinNode$Signature" "keyOdds" "[LCoinNode$Point;") ∈ jws := jws_1 (List.mem_of_getElem? (i := 145) rfl) rfl
theorem jw_147 : (Jvm.Cond.laysFinal "CoinNode$Signature" "CoinNode$Signature" "twice" "LCoinNode$Point;") ∈ jws := jws_1 (List.mem_of_getElem? (i := 147) rfl) rfl
theorem jw_149 : (Jvm.Cond.laysFinal "CoinNode$Signature" "CoinNode$Signature" "sum" "LCoinNode$Point;") ∈ jws := jws_1 (List.mem_of_getElem? (i := 149) rfl) rfl
theorem jw_151 : (Jvm.Cond.lays "CoinNode$Signature" "CoinNode$Signature" "hasBase" "Z") ∈ jws := jws_1 (List.mem_of_getElem? (i := 151) rfl) rfl
theorem jw_154 : (Jvm.Cond.classLink "CoinNode$Scripts" (29 : Nat) "CoinNode$Machine") ∈ jws := jws_1 (List.mem_of_getElem? (i := 154) rfl) rfl
theorem jw_155 : (Jvm.Cond.instantiable "CoinNode$Machine" (20 : Nat)) ∈ jws := jws_1 (List.mem_of_getElem? (i := 155) rfl) rfl
theorem jw_156 : (Jvm.Cond.methodLink "CoinNode$Scripts" (31 : Nat) ({ cls := "CoinNode$Machine", name := "<init>", desc := "(LCoinNode$Hash;)V" } : Jvm.MethodName)) ∈ jws := jws_1 (List.mem_of_getElem? (i := 156) rfl) rfl
theorem jw_157 : (Jvm.Cond.instanceMethod ({ cls := "CoinNode$Machine", name := "<init>", desc := "(LCoinNode$Hash;)V" } : Jvm.MethodName)) ∈ jws := jws_1 (List.mem_of_getElem? (i := 157) rfl) rfl
theorem jw_158 : (Jvm.Cond.code ({ cls := "CoinNode$Machine", name := "<init>", desc := "(LCoinNode$Hash;)V" } : Jvm.MethodName) prog_6_method_1_code (2 : Nat) (Option.none : Option Jvm.ClassFile.FieldType)) ∈ jws := jws_1 (List.mem_of_getElem? (i := 158) rfl) rfl
theorem jw_159 : (Jvm.Cond.methodLink "CoinNode$Machine" (5 : Nat) ({ cls := "java/lang/Object", name := "<init>", desc := "()V" } : Jvm.MethodName)) ∈ jws := jws_1 (List.mem_of_getElem? (i := 159) rfl) rfl
theorem jw_160 : (Jvm.Cond.classLink "CoinNode$Machine" (11 : Nat) "CoinNode$Stack") ∈ jws := jws_1 (List.mem_of_getElem? (i := 160) rfl) rfl
theorem jw_161 : (Jvm.Cond.instantiable "CoinNode$Stack" (3 : Nat)) ∈ jws := jws_1 (List.mem_of_getElem? (i := 161) rfl) rfl
theorem jw_163 : (Jvm.Cond.instanceMethod ({ cls := "CoinNode$Stack", name := "<init>", desc := "()V" } : Jvm.MethodName)) ∈ jws := jws_1 (List.mem_of_getElem? (i := 163) rfl) rfl
theorem jw_164 : (Jvm.Cond.code ({ cls := "CoinNode$Stack", name := "<init>", desc := "()V" } : Jvm.MethodName) prog_11_method_1_code (1 : Nat) (Option.none : Option Jvm.ClassFile.FieldType)) ∈ jws := jws_1 (List.mem_of_getElem? (i := 164) rfl) rfl
theorem jw_165 : (Jvm.Cond.methodLink "CoinNode$Stack" (1 : Nat) ({ cls := "java/lang/Object", name := "<init>", desc := "()V" } : Jvm.MethodName)) ∈ jws := jws_1 (List.mem_of_getElem? (i := 165) rfl) rfl
theorem jw_166 : (Jvm.Cond.classLink "CoinNode$Stack" (9 : Nat) "[[B") ∈ jws := jws_1 (List.mem_of_getElem? (i := 166) rfl) rfl
theorem jw_167 : (Jvm.Cond.fieldLink "CoinNode$Stack" (11 : Nat) "CoinNode$Stack" "rows" "[[B") ∈ jws := jws_1 (List.mem_of_getElem? (i := 167) rfl) rfl
theorem jw_168 : (Jvm.Cond.fieldLink "CoinNode$Machine" (174 : Nat) "CoinNode$Stack" "rows" "[[B") ∈ jws := jws_1 (List.mem_of_getElem? (i := 168) rfl) rfl
theorem jw_169 : (Jvm.Cond.fieldLink "CoinNode$Stack" (14 : Nat) "CoinNode$Stack" "sizes" "[I") ∈ jws := jws_1 (List.mem_of_getElem? (i := 169) rfl) rfl
theorem jw_170 : (Jvm.Cond.fieldLink "CoinNode$Machine" (142 : Nat) "CoinNode$Stack" "sizes" "[I") ∈ jws := jws_1 (List.mem_of_getElem? (i := 170) rfl) rfl
theorem jw_171 : (Jvm.Cond.fieldLink "CoinNode$Stack" (18 : Nat) "CoinNode$Stack" "height" "I") ∈ jws := jws_1 (List.mem_of_getElem? (i := 171) rfl) rfl
theorem jw_172 : (Jvm.Cond.fieldLink "CoinNode$Machine" (41 : Nat) "CoinNode$Stack" "height" "I") ∈ jws := jws_1 (List.mem_of_getElem? (i := 172) rfl) rfl
theorem jw_173 : (Jvm.Cond.laysFinal "CoinNode$Stack" "CoinNode$Stack" "rows" "[[B") ∈ jws := jws_1 (List.mem_of_getElem? (i := 173) rfl) rfl
theorem jw_175 : (Jvm.Cond.laysFinal "CoinNode$Stack" "CoinNode$Stack" "sizes" "[I") ∈ jws := jws_1 (List.mem_of_getElem? (i := 175) rfl) rfl
theorem jw_177 : (Jvm.Cond.lays "CoinNode$Stack" "CoinNode$Stack" "height" "I") ∈ jws := jws_1 (List.mem_of_getElem? (i := 177) rfl) rfl
theorem jw_180 : (Jvm.Cond.fieldLink "CoinNode$Machine" (37 : Nat) "CoinNode$Machine" "hash" "LCoinNode$Hash;") ∈ jws := jws_1 (List.mem_of_getElem? (i := 180) rfl) rfl
theorem jw_181 : (Jvm.Cond.fieldLink "CoinNode$Machine" (14 : Nat) "CoinNode$Machine" "stack" "LCoinNode$Stack;") ∈ jws := jws_1 (List.mem_of_getElem? (i := 181) rfl) rfl
theorem jw_182 : (Jvm.Cond.fieldLink "CoinNode$Machine" (20 : Nat) "CoinNode$Machine" "side" "LCoinNode$Stack;") ∈ jws := jws_1 (List.mem_of_getElem? (i := 182) rfl) rfl
theorem jw_183 : (Jvm.Cond.fieldLink "CoinNode$Machine" (23 : Nat) "CoinNode$Machine" "spare" "LCoinNode$Stack;") ∈ jws := jws_1 (List.mem_of_getElem? (i := 183) rfl) rfl
theorem jw_184 : (Jvm.Cond.fieldLink "CoinNode$Machine" (26 : Nat) "CoinNode$Machine" "made" "[B") ∈ jws := jws_1 (List.mem_of_getElem? (i := 184) rfl) rfl
theorem jw_185 : (Jvm.Cond.fieldLink "CoinNode$Machine" (30 : Nat) "CoinNode$Machine" "script" "[B") ∈ jws := jws_1 (List.mem_of_getElem? (i := 185) rfl) rfl
theorem jw_186 : (Jvm.Cond.fieldLink "CoinNode$Machine" (62 : Nat) "CoinNode$Machine" "at" "I") ∈ jws := jws_1 (List.mem_of_getElem? (i := 186) rfl) rfl
theorem jw_187 : (Jvm.Cond.fieldLink "CoinNode$Machine" (65 : Nat) "CoinNode$Machine" "end" "I") ∈ jws := jws_1 (List.mem_of_getElem? (i := 187) rfl) rfl
theorem jw_188 : (Jvm.Cond.fieldLink "CoinNode$Machine" (45 : Nat) "CoinNode$Machine" "isLast" "Z") ∈ jws := jws_1 (List.mem_of_getElem? (i := 188) rfl) rfl
theorem jw_189 : (Jvm.Cond.fieldLink "CoinNode$Scripts" (123 : Nat) "CoinNode$Machine" "isLast" "Z") ∈ jws := jws_1 (List.mem_of_getElem? (i := 189) rfl) rfl
theorem jw_190 : (Jvm.Cond.fieldLink "CoinNode$Scripts" (75 : Nat) "CoinNode$Machine" "status" "I") ∈ jws := jws_1 (List.mem_of_getElem? (i := 190) rfl) rfl
theorem jw_191 : (Jvm.Cond.fieldLink "CoinNode$Machine" (68 : Nat) "CoinNode$Machine" "status" "I") ∈ jws := jws_1 (List.mem_of_getElem? (i := 191) rfl) rfl
theorem jw_192 : (Jvm.Cond.fieldLink "CoinNode$Machine" (53 : Nat) "CoinNode$Machine" "operations" "I") ∈ jws := jws_1 (List.mem_of_getElem? (i := 192) rfl) rfl
theorem jw_193 : (Jvm.Cond.fieldLink "CoinNode$Machine" (33 : Nat) "CoinNode$Machine" "parts" "[Z") ∈ jws := jws_1 (List.mem_of_getElem? (i := 193) rfl) rfl
theorem jw_194 : (Jvm.Cond.fieldLink "CoinNode$Machine" (56 : Nat) "CoinNode$Machine" "depth" "I") ∈ jws := jws_1 (List.mem_of_getElem? (i := 194) rfl) rfl
theorem jw_195 : (Jvm.Cond.fieldLink "CoinNode$Machine" (59 : Nat) "CoinNode$Machine" "closed" "I") ∈ jws := jws_1 (List.mem_of_getElem? (i := 195) rfl) rfl
theorem jw_196 : (Jvm.Cond.fieldLink "CoinNode$Machine" (106 : Nat) "CoinNode$Machine" "signatures" "I") ∈ jws := jws_1 (List.mem_of_getElem? (i := 196) rfl) rfl
theorem jw_197 : (Jvm.Cond.fieldLink "CoinNode$Machine" (198 : Nat) "CoinNode$Machine" "signatureAt" "I") ∈ jws := jws_1 (List.mem_of_getElem? (i := 197) rfl) rfl
theorem jw_198 : (Jvm.Cond.fieldLink "CoinNode$Machine" (192 : Nat) "CoinNode$Machine" "keys" "I") ∈ jws := jws_1 (List.mem_of_getElem? (i := 198) rfl) rfl
theorem jw_199 : (Jvm.Cond.fieldLink "CoinNode$Machine" (195 : Nat) "CoinNode$Machine" "keyAt" "I") ∈ jws := jws_1 (List.mem_of_getElem? (i := 199) rfl) rfl
theorem jw_200 : (Jvm.Cond.fieldLink "CoinNode$Machine" (201 : Nat) "CoinNode$Machine" "operands" "I") ∈ jws := jws_1 (List.mem_of_getElem? (i := 200) rfl) rfl
theorem jw_201 : (Jvm.Cond.fieldLink "CoinNode$Machine" (189 : Nat) "CoinNode$Machine" "mustFit" "Z") ∈ jws := jws_1 (List.mem_of_getElem? (i := 201) rfl) rfl
theorem jw_202 : (Jvm.Cond.laysFinal "CoinNode$Machine" "CoinNode$Machine" "hash" "LCoinNode$Hash;") ∈ jws := jws_1 (List.mem_of_getElem? (i := 202) rfl) rfl
theorem jw_204 : (Jvm.Cond.laysFinal "CoinNode$Machine" "CoinNode$Machine" "stack" "LCoinNode$Stack;") ∈ jws := jws_1 (List.mem_of_getElem? (i := 204) rfl) rfl
theorem jw_206 : (Jvm.Cond.laysFinal "CoinNode$Machine" "CoinNode$Machine" "side" "LCoinNode$Stack;") ∈ jws := jws_1 (List.mem_of_getElem? (i := 206) rfl) rfl
theorem jw_208 : (Jvm.Cond.laysFinal "CoinNode$Machine" "CoinNode$Machine" "spare" "LCoinNode$Stack;") ∈ jws := jws_1 (List.mem_of_getElem? (i := 208) rfl) rfl
theorem jw_210 : (Jvm.Cond.laysFinal "CoinNode$Machine" "CoinNode$Machine" "made" "[B") ∈ jws := jws_1 (List.mem_of_getElem? (i := 210) rfl) rfl
theorem jw_212 : (Jvm.Cond.lays "CoinNode$Machine" "CoinNode$Machine" "script" "[B") ∈ jws := jws_1 (List.mem_of_getElem? (i := 212) rfl) rfl
theorem jw_214 : (Jvm.Cond.lays "CoinNode$Machine" "CoinNode$Machine" "at" "I") ∈ jws := jws_1 (List.mem_of_getElem? (i := 214) rfl) rfl
theorem jw_216 : (Jvm.Cond.lays "CoinNode$Machine" "CoinNode$Machine" "end" "I") ∈ jws := jws_1 (List.mem_of_getElem? (i := 216) rfl) rfl
theorem jw_218 : (Jvm.Cond.lays "CoinNode$Machine" "CoinNode$Machine" "isLast" "Z") ∈ jws := jws_1 (List.mem_of_getElem? (i := 218) rfl) rfl
theorem jw_220 : (Jvm.Cond.lays "CoinNode$Machine" "CoinNode$Machine" "status" "I") ∈ jws := jws_1 (List.mem_of_getElem? (i := 220) rfl) rfl
theorem jw_222 : (Jvm.Cond.lays "CoinNode$Machine" "CoinNode$Machine" "operations" "I") ∈ jws := jws_1 (List.mem_of_getElem? (i := 222) rfl) rfl
theorem jw_224 : (Jvm.Cond.laysFinal "CoinNode$Machine" "CoinNode$Machine" "parts" "[Z") ∈ jws := jws_1 (List.mem_of_getElem? (i := 224) rfl) rfl
theorem jw_226 : (Jvm.Cond.lays "CoinNode$Machine" "CoinNode$Machine" "depth" "I") ∈ jws := jws_1 (List.mem_of_getElem? (i := 226) rfl) rfl
theorem jw_228 : (Jvm.Cond.lays "CoinNode$Machine" "CoinNode$Machine" "closed" "I") ∈ jws := jws_1 (List.mem_of_getElem? (i := 228) rfl) rfl
theorem jw_230 : (Jvm.Cond.lays "CoinNode$Machine" "CoinNode$Machine" "signatures" "I") ∈ jws := jws_1 (List.mem_of_getElem? (i := 230) rfl) rfl
theorem jw_232 : (Jvm.Cond.lays "CoinNode$Machine" "CoinNode$Machine" "signatureAt" "I") ∈ jws := jws_1 (List.mem_of_getElem? (i := 232) rfl) rfl
theorem jw_234 : (Jvm.Cond.lays "CoinNode$Machine" "CoinNode$Machine" "keys" "I") ∈ jws := jws_1 (List.mem_of_getElem? (i := 234) rfl) rfl
theorem jw_236 : (Jvm.Cond.lays "CoinNode$Machine" "CoinNode$Machine" "keyAt" "I") ∈ jws := jws_1 (List.mem_of_getElem? (i := 236) rfl) rfl
theorem jw_238 : (Jvm.Cond.lays "CoinNode$Machine" "CoinNode$Machine" "operands" "I") ∈ jws := jws_1 (List.mem_of_getElem? (i := 238) rfl) rfl
theorem jw_240 : (Jvm.Cond.lays "CoinNode$Machine" "CoinNode$Machine" "mustFit" "Z") ∈ jws := jws_2 (List.mem_of_getElem? (i := 0) rfl) rfl
theorem jw_243 : (Jvm.Cond.arrayClass Jvm.ClassFile.FieldType.boolean) ∈ jws := jws_2 (List.mem_of_getElem? (i := 3) rfl) rfl
theorem jw_244 : (Jvm.Cond.fieldLink "CoinNode$Scripts" (25 : Nat) "CoinNode$Scripts" "hash" "LCoinNode$Hash;") ∈ jws := jws_2 (List.mem_of_getElem? (i := 4) rfl) rfl
theorem jw_245 : (Jvm.Cond.fieldLink "CoinNode$Scripts" (34 : Nat) "CoinNode$Scripts" "machine" "LCoinNode$Machine;") ∈ jws := jws_2 (List.mem_of_getElem? (i := 5) rfl) rfl
theorem jw_246 : (Jvm.Cond.fieldLink "CoinNode$Scripts" (12 : Nat) "CoinNode$Scripts" "signature" "LCoinNode$Signature;") ∈ jws := jws_2 (List.mem_of_getElem? (i := 6) rfl) rfl
theorem jw_247 : (Jvm.Cond.fieldLink "CoinNode$Scripts" (18 : Nat) "CoinNode$Scripts" "signed" "[B") ∈ jws := jws_2 (List.mem_of_getElem? (i := 7) rfl) rfl
theorem jw_248 : (Jvm.Cond.fieldLink "CoinNode$Scripts" (104 : Nat) "CoinNode$Scripts" "signedSize" "I") ∈ jws := jws_2 (List.mem_of_getElem? (i := 8) rfl) rfl
theorem jw_249 : (Jvm.Cond.fieldLink "CoinNode$Scripts" (22 : Nat) "CoinNode$Scripts" "name" "[B") ∈ jws := jws_2 (List.mem_of_getElem? (i := 9) rfl) rfl
theorem jw_250 : (Jvm.Cond.fieldLink "CoinNode$Scripts" (42 : Nat) "CoinNode$Scripts" "asked" "I") ∈ jws := jws_2 (List.mem_of_getElem? (i := 10) rfl) rfl
theorem jw_251 : (Jvm.Cond.fieldLink "CoinNode$Scripts" (38 : Nat) "CoinNode$Scripts" "most" "I") ∈ jws := jws_2 (List.mem_of_getElem? (i := 11) rfl) rfl
theorem jw_252 : (Jvm.Cond.laysFinal "CoinNode$Scripts" "CoinNode$Scripts" "hash" "LCoinNode$Hash;") ∈ jws := jws_2 (List.mem_of_getElem? (i := 12) rfl) rfl
theorem jw_254 : (Jvm.Cond.laysFinal "CoinNode$Scripts" "CoinNode$Scripts" "machine" "LCoinNode$Machine;") ∈ jws := jws_2 (List.mem_of_getElem? (i := 14) rfl) rfl
theorem jw_256 : (Jvm.Cond.laysFinal "CoinNode$Scripts" "CoinNode$Scripts" "signature" "LCoinNode$Signature;") ∈ jws := jws_2 (List.mem_of_getElem? (i := 16) rfl) rfl
theorem jw_258 : (Jvm.Cond.laysFinal "CoinNode$Scripts" "CoinNode$Scripts" "signed" "[B") ∈ jws := jws_2 (List.mem_of_getElem? (i := 18) rfl) rfl
theorem jw_260 : (Jvm.Cond.lays "CoinNode$Scripts" "CoinNode$Scripts" "signedSize" "I") ∈ jws := jws_2 (List.mem_of_getElem? (i := 20) rfl) rfl
theorem jw_262 : (Jvm.Cond.laysFinal "CoinNode$Scripts" "CoinNode$Scripts" "name" "[B") ∈ jws := jws_2 (List.mem_of_getElem? (i := 22) rfl) rfl
theorem jw_264 : (Jvm.Cond.lays "CoinNode$Scripts" "CoinNode$Scripts" "asked" "I") ∈ jws := jws_2 (List.mem_of_getElem? (i := 24) rfl) rfl
theorem jw_266 : (Jvm.Cond.lays "CoinNode$Scripts" "CoinNode$Scripts" "most" "I") ∈ jws := jws_2 (List.mem_of_getElem? (i := 26) rfl) rfl
theorem jw_269 : (Jvm.Cond.classLink "CoinNode" (47 : Nat) "CoinNode$Coins") ∈ jws := jws_2 (List.mem_of_getElem? (i := 29) rfl) rfl
theorem jw_270 : (Jvm.Cond.instantiable "CoinNode$Coins" (9 : Nat)) ∈ jws := jws_2 (List.mem_of_getElem? (i := 30) rfl) rfl
theorem jw_272 : (Jvm.Cond.instanceMethod ({ cls := "CoinNode$Coins", name := "<init>", desc := "()V" } : Jvm.MethodName)) ∈ jws := jws_2 (List.mem_of_getElem? (i := 32) rfl) rfl
theorem jw_273 : (Jvm.Cond.code ({ cls := "CoinNode$Coins", name := "<init>", desc := "()V" } : Jvm.MethodName) prog_4_method_1_code (1 : Nat) (Option.none : Option Jvm.ClassFile.FieldType)) ∈ jws := jws_2 (List.mem_of_getElem? (i := 33) rfl) rfl
theorem jw_274 : (Jvm.Cond.methodLink "CoinNode$Coins" (1 : Nat) ({ cls := "java/lang/Object", name := "<init>", desc := "()V" } : Jvm.MethodName)) ∈ jws := jws_2 (List.mem_of_getElem? (i := 34) rfl) rfl
theorem jw_275 : (Jvm.Cond.classLink "CoinNode$Coins" (9 : Nat) "CoinNode$Tx") ∈ jws := jws_2 (List.mem_of_getElem? (i := 35) rfl) rfl
theorem jw_277 : (Jvm.Cond.fieldLink "CoinNode$Coins" (11 : Nat) "CoinNode$Coins" "makers" "[LCoinNode$Tx;") ∈ jws := jws_2 (List.mem_of_getElem? (i := 37) rfl) rfl
theorem jw_278 : (Jvm.Cond.fieldLink "CoinNode$Coins" (15 : Nat) "CoinNode$Coins" "numbers" "[I") ∈ jws := jws_2 (List.mem_of_getElem? (i := 38) rfl) rfl
theorem jw_279 : (Jvm.Cond.fieldLink "CoinNode$Coins" (19 : Nat) "CoinNode$Coins" "heights" "[I") ∈ jws := jws_2 (List.mem_of_getElem? (i := 39) rfl) rfl
theorem jw_280 : (Jvm.Cond.fieldLink "CoinNode$Coins" (28 : Nat) "CoinNode$Coins" "many" "I") ∈ jws := jws_2 (List.mem_of_getElem? (i := 40) rfl) rfl
theorem jw_281 : (Jvm.Cond.fieldLink "CoinNode" (171 : Nat) "CoinNode$Coins" "many" "I") ∈ jws := jws_2 (List.mem_of_getElem? (i := 41) rfl) rfl
theorem jw_282 : (Jvm.Cond.fieldLink "CoinNode$Coins" (32 : Nat) "CoinNode$Coins" "spent" "I") ∈ jws := jws_2 (List.mem_of_getElem? (i := 42) rfl) rfl
theorem jw_283 : (Jvm.Cond.fieldLink "CoinNode$Coins" (35 : Nat) "CoinNode$Coins" "sum" "J") ∈ jws := jws_2 (List.mem_of_getElem? (i := 43) rfl) rfl
theorem jw_284 : (Jvm.Cond.fieldLink "CoinNode" (164 : Nat) "CoinNode$Coins" "sum" "J") ∈ jws := jws_2 (List.mem_of_getElem? (i := 44) rfl) rfl
theorem jw_285 : (Jvm.Cond.fieldLink "CoinNode$Coins" (22 : Nat) "CoinNode$Coins" "takenMakers" "[LCoinNode$Tx;") ∈ jws := jws_2 (List.mem_of_getElem? (i := 45) rfl) rfl
theorem jw_286 : (Jvm.Cond.fieldLink "CoinNode$Coins" (25 : Nat) "CoinNode$Coins" "takenNumbers" "[I") ∈ jws := jws_2 (List.mem_of_getElem? (i := 46) rfl) rfl
theorem jw_287 : (Jvm.Cond.fieldLink "CoinNode$Coins" (85 : Nat) "CoinNode$Coins" "takenSum" "J") ∈ jws := jws_2 (List.mem_of_getElem? (i := 47) rfl) rfl
theorem jw_288 : (Jvm.Cond.laysFinal "CoinNode$Coins" "CoinNode$Coins" "makers" "[LCoinNode$Tx;") ∈ jws := jws_2 (List.mem_of_getElem? (i := 48) rfl) rfl
theorem jw_290 : (Jvm.Cond.laysFinal "CoinNode$Coins" "CoinNode$Coins" "numbers" "[I") ∈ jws := jws_2 (List.mem_of_getElem? (i := 50) rfl) rfl
theorem jw_292 : (Jvm.Cond.laysFinal "CoinNode$Coins" "CoinNode$Coins" "heights" "[I") ∈ jws := jws_2 (List.mem_of_getElem? (i := 52) rfl) rfl
theorem jw_294 : (Jvm.Cond.lays "CoinNode$Coins" "CoinNode$Coins" "many" "I") ∈ jws := jws_2 (List.mem_of_getElem? (i := 54) rfl) rfl
theorem jw_296 : (Jvm.Cond.lays "CoinNode$Coins" "CoinNode$Coins" "spent" "I") ∈ jws := jws_2 (List.mem_of_getElem? (i := 56) rfl) rfl
theorem jw_298 : (Jvm.Cond.lays "CoinNode$Coins" "CoinNode$Coins" "sum" "J") ∈ jws := jws_2 (List.mem_of_getElem? (i := 58) rfl) rfl
theorem jw_300 : (Jvm.Cond.laysFinal "CoinNode$Coins" "CoinNode$Coins" "takenMakers" "[LCoinNode$Tx;") ∈ jws := jws_2 (List.mem_of_getElem? (i := 60) rfl) rfl
theorem jw_302 : (Jvm.Cond.laysFinal "CoinNode$Coins" "CoinNode$Coins" "takenNumbers" "[I") ∈ jws := jws_2 (List.mem_of_getElem? (i := 62) rfl) rfl
theorem jw_304 : (Jvm.Cond.lays "CoinNode$Coins" "CoinNode$Coins" "takenSum" "J") ∈ jws := jws_2 (List.mem_of_getElem? (i := 64) rfl) rfl
theorem jw_307 : (Jvm.Cond.classLink "CoinNode" (54 : Nat) "CoinNode$Chain") ∈ jws := jws_2 (List.mem_of_getElem? (i := 67) rfl) rfl
theorem jw_308 : (Jvm.Cond.instantiable "CoinNode$Chain" (17 : Nat)) ∈ jws := jws_2 (List.mem_of_getElem? (i := 68) rfl) rfl
theorem jw_309 : (Jvm.Cond.methodLink "CoinNode" (56 : Nat) ({ cls := "CoinNode$Chain", name := "<init>", desc := "(LCoinNode$Hash;LCoinNode$Coins;LCoinNode$Scripts;)V" } : Jvm.MethodName)) ∈ jws := jws_2 (List.mem_of_getElem? (i := 69) rfl) rfl
theorem jw_310 : (Jvm.Cond.instanceMethod ({ cls := "CoinNode$Chain", name := "<init>", desc := "(LCoinNode$Hash;LCoinNode$Coins;LCoinNode$Scripts;)V" } : Jvm.MethodName)) ∈ jws := jws_2 (List.mem_of_getElem? (i := 70) rfl) rfl
theorem jw_311 : (Jvm.Cond.code ({ cls := "CoinNode$Chain", name := "<init>", desc := "(LCoinNode$Hash;LCoinNode$Coins;LCoinNode$Scripts;)V" } : Jvm.MethodName) prog_3_method_1_code (6 : Nat) (Option.none : Option Jvm.ClassFile.FieldType)) ∈ jws := jws_2 (List.mem_of_getElem? (i := 71) rfl) rfl
theorem jw_312 : (Jvm.Cond.methodLink "CoinNode$Chain" (3 : Nat) ({ cls := "java/lang/Object", name := "<init>", desc := "()V" } : Jvm.MethodName)) ∈ jws := jws_2 (List.mem_of_getElem? (i := 72) rfl) rfl
theorem jw_313 : (Jvm.Cond.classLink "CoinNode$Chain" (11 : Nat) "CoinNode$Block") ∈ jws := jws_2 (List.mem_of_getElem? (i := 73) rfl) rfl
theorem jw_315 : (Jvm.Cond.constant "CoinNode$Chain" (59 : Nat) (1000000 : Int32)) ∈ jws := jws_2 (List.mem_of_getElem? (i := 75) rfl) rfl
theorem jw_316 : (Jvm.Cond.constant "CoinNode$Chain" (60 : Nat) (545259519 : Int32)) ∈ jws := jws_2 (List.mem_of_getElem? (i := 76) rfl) rfl
theorem jw_317 : (Jvm.Cond.instantiable "CoinNode$Block" (9 : Nat)) ∈ jws := jws_2 (List.mem_of_getElem? (i := 77) rfl) rfl
theorem jw_318 : (Jvm.Cond.methodLink "CoinNode$Chain" (61 : Nat) ({ cls := "CoinNode$Block", name := "<init>", desc := "([B)V" } : Jvm.MethodName)) ∈ jws := jws_2 (List.mem_of_getElem? (i := 78) rfl) rfl
theorem jw_319 : (Jvm.Cond.instanceMethod ({ cls := "CoinNode$Block", name := "<init>", desc := "([B)V" } : Jvm.MethodName)) ∈ jws := jws_2 (List.mem_of_getElem? (i := 79) rfl) rfl
theorem jw_320 : (Jvm.Cond.code ({ cls := "CoinNode$Block", name := "<init>", desc := "([B)V" } : Jvm.MethodName) prog_2_method_1_code (2 : Nat) (Option.none : Option Jvm.ClassFile.FieldType)) ∈ jws := jws_2 (List.mem_of_getElem? (i := 80) rfl) rfl
theorem jw_321 : (Jvm.Cond.methodLink "CoinNode$Block" (3 : Nat) ({ cls := "java/lang/Object", name := "<init>", desc := "()V" } : Jvm.MethodName)) ∈ jws := jws_2 (List.mem_of_getElem? (i := 81) rfl) rfl
theorem jw_322 : (Jvm.Cond.classLink "CoinNode$Block" (15 : Nat) "CoinNode$Tx") ∈ jws := jws_2 (List.mem_of_getElem? (i := 82) rfl) rfl
theorem jw_323 : (Jvm.Cond.methodLink "CoinNode$Block" (28 : Nat) ({ cls := "CoinNode$Tx", name := "low", desc := "([BI)I" } : Jvm.MethodName)) ∈ jws := jws_2 (List.mem_of_getElem? (i := 83) rfl) rfl
theorem jw_324 : (Jvm.Cond.static ({ cls := "CoinNode$Tx", name := "low", desc := "([BI)I" } : Jvm.MethodName)) ∈ jws := jws_2 (List.mem_of_getElem? (i := 84) rfl) rfl
theorem jw_325 : (Jvm.Cond.code ({ cls := "CoinNode$Tx", name := "low", desc := "([BI)I" } : Jvm.MethodName) prog_12_method_6_code (2 : Nat) (Option.some Jvm.ClassFile.FieldType.int)) ∈ jws := jws_2 (List.mem_of_getElem? (i := 85) rfl) rfl
theorem jw_326 : (Jvm.Cond.constantLong "CoinNode$Block" (32 : Nat) (4294967295 : Int64)) ∈ jws := jws_2 (List.mem_of_getElem? (i := 86) rfl) rfl
theorem jw_327 : (Jvm.Cond.fieldLink "CoinNode$Block" (25 : Nat) "CoinNode$Block" "row" "[B") ∈ jws := jws_2 (List.mem_of_getElem? (i := 87) rfl) rfl
theorem jw_328 : (Jvm.Cond.fieldLink "CoinNode$Chain" (89 : Nat) "CoinNode$Block" "row" "[B") ∈ jws := jws_2 (List.mem_of_getElem? (i := 88) rfl) rfl
theorem jw_329 : (Jvm.Cond.fieldLink "CoinNode" (220 : Nat) "CoinNode$Block" "row" "[B") ∈ jws := jws_2 (List.mem_of_getElem? (i := 89) rfl) rfl
theorem jw_330 : (Jvm.Cond.fieldLink "CoinNode$Block" (9 : Nat) "CoinNode$Block" "name" "[B") ∈ jws := jws_2 (List.mem_of_getElem? (i := 90) rfl) rfl
theorem jw_331 : (Jvm.Cond.fieldLink "CoinNode$Chain" (64 : Nat) "CoinNode$Block" "name" "[B") ∈ jws := jws_2 (List.mem_of_getElem? (i := 91) rfl) rfl
theorem jw_332 : (Jvm.Cond.fieldLink "CoinNode" (148 : Nat) "CoinNode$Block" "name" "[B") ∈ jws := jws_2 (List.mem_of_getElem? (i := 92) rfl) rfl
theorem jw_333 : (Jvm.Cond.fieldLink "CoinNode$Block" (38 : Nat) "CoinNode$Block" "bits" "I") ∈ jws := jws_2 (List.mem_of_getElem? (i := 93) rfl) rfl
theorem jw_334 : (Jvm.Cond.fieldLink "CoinNode$Chain" (99 : Nat) "CoinNode$Block" "bits" "I") ∈ jws := jws_2 (List.mem_of_getElem? (i := 94) rfl) rfl
theorem jw_335 : (Jvm.Cond.fieldLink "CoinNode$Block" (34 : Nat) "CoinNode$Block" "time" "J") ∈ jws := jws_2 (List.mem_of_getElem? (i := 95) rfl) rfl
theorem jw_336 : (Jvm.Cond.fieldLink "CoinNode$Chain" (106 : Nat) "CoinNode$Block" "time" "J") ∈ jws := jws_2 (List.mem_of_getElem? (i := 96) rfl) rfl
theorem jw_337 : (Jvm.Cond.fieldLink "CoinNode$Block" (17 : Nat) "CoinNode$Block" "txs" "[LCoinNode$Tx;") ∈ jws := jws_2 (List.mem_of_getElem? (i := 97) rfl) rfl
theorem jw_338 : (Jvm.Cond.fieldLink "CoinNode$Pool" (101 : Nat) "CoinNode$Block" "txs" "[LCoinNode$Tx;") ∈ jws := jws_2 (List.mem_of_getElem? (i := 98) rfl) rfl
theorem jw_339 : (Jvm.Cond.fieldLink "CoinNode$Coins" (63 : Nat) "CoinNode$Block" "txs" "[LCoinNode$Tx;") ∈ jws := jws_2 (List.mem_of_getElem? (i := 99) rfl) rfl
theorem jw_340 : (Jvm.Cond.fieldLink "CoinNode$Chain" (92 : Nat) "CoinNode$Block" "parent" "LCoinNode$Block;") ∈ jws := jws_2 (List.mem_of_getElem? (i := 100) rfl) rfl
theorem jw_341 : (Jvm.Cond.fieldLink "CoinNode$Chain" (78 : Nat) "CoinNode$Block" "height" "I") ∈ jws := jws_2 (List.mem_of_getElem? (i := 101) rfl) rfl
theorem jw_342 : (Jvm.Cond.fieldLink "CoinNode" (114 : Nat) "CoinNode$Block" "height" "I") ∈ jws := jws_2 (List.mem_of_getElem? (i := 102) rfl) rfl
theorem jw_343 : (Jvm.Cond.fieldLink "CoinNode$Coins" (68 : Nat) "CoinNode$Block" "height" "I") ∈ jws := jws_2 (List.mem_of_getElem? (i := 103) rfl) rfl
theorem jw_344 : (Jvm.Cond.fieldLink "CoinNode$Chain" (95 : Nat) "CoinNode$Block" "bad" "Z") ∈ jws := jws_2 (List.mem_of_getElem? (i := 104) rfl) rfl
theorem jw_345 : (Jvm.Cond.fieldLink "CoinNode$Block" (21 : Nat) "CoinNode$Block" "work" "[I") ∈ jws := jws_2 (List.mem_of_getElem? (i := 105) rfl) rfl
theorem jw_346 : (Jvm.Cond.fieldLink "CoinNode$Chain" (164 : Nat) "CoinNode$Block" "work" "[I") ∈ jws := jws_2 (List.mem_of_getElem? (i := 106) rfl) rfl
theorem jw_347 : (Jvm.Cond.laysFinal "CoinNode$Block" "CoinNode$Block" "row" "[B") ∈ jws := jws_2 (List.mem_of_getElem? (i := 107) rfl) rfl
theorem jw_349 : (Jvm.Cond.laysFinal "CoinNode$Block" "CoinNode$Block" "name" "[B") ∈ jws := jws_2 (List.mem_of_getElem? (i := 109) rfl) rfl
theorem jw_351 : (Jvm.Cond.laysFinal "CoinNode$Block" "CoinNode$Block" "bits" "I") ∈ jws := jws_2 (List.mem_of_getElem? (i := 111) rfl) rfl
theorem jw_353 : (Jvm.Cond.laysFinal "CoinNode$Block" "CoinNode$Block" "time" "J") ∈ jws := jws_2 (List.mem_of_getElem? (i := 113) rfl) rfl
theorem jw_355 : (Jvm.Cond.lays "CoinNode$Block" "CoinNode$Block" "txs" "[LCoinNode$Tx;") ∈ jws := jws_2 (List.mem_of_getElem? (i := 115) rfl) rfl
theorem jw_357 : (Jvm.Cond.lays "CoinNode$Block" "CoinNode$Block" "parent" "LCoinNode$Block;") ∈ jws := jws_2 (List.mem_of_getElem? (i := 117) rfl) rfl
theorem jw_359 : (Jvm.Cond.lays "CoinNode$Block" "CoinNode$Block" "height" "I") ∈ jws := jws_2 (List.mem_of_getElem? (i := 119) rfl) rfl
theorem jw_361 : (Jvm.Cond.lays "CoinNode$Block" "CoinNode$Block" "bad" "Z") ∈ jws := jws_2 (List.mem_of_getElem? (i := 121) rfl) rfl
theorem jw_363 : (Jvm.Cond.laysFinal "CoinNode$Block" "CoinNode$Block" "work" "[I") ∈ jws := jws_2 (List.mem_of_getElem? (i := 123) rfl) rfl
theorem jw_366 : (Jvm.Cond.methodLink "CoinNode$Chain" (65 : Nat) ({ cls := "CoinNode$Hash", name := "name", desc := "([BII[B)V" } : Jvm.MethodName)) ∈ jws := jws_2 (List.mem_of_getElem? (i := 126) rfl) rfl
theorem jw_367 : (Jvm.Cond.instanceMethod ({ cls := "CoinNode$Hash", name := "name", desc := "([BII[B)V" } : Jvm.MethodName)) ∈ jws := jws_2 (List.mem_of_getElem? (i := 127) rfl) rfl
theorem jw_368 : (Jvm.Cond.selects "CoinNode$Hash" ({ cls := "CoinNode$Hash", name := "name", desc := "([BII[B)V" } : Jvm.MethodName) ({ cls := "CoinNode$Hash", name := "name", desc := "([BII[B)V" } : Jvm.MethodName)) ∈ jws := jws_2 (List.mem_of_getElem? (i := 128) rfl) rfl
theorem jw_369 : (Jvm.Cond.code ({ cls := "CoinNode$Hash", name := "name", desc := "([BII[B)V" } : Jvm.MethodName) prog_5_method_5_code (5 : Nat) (Option.none : Option Jvm.ClassFile.FieldType)) ∈ jws := jws_2 (List.mem_of_getElem? (i := 129) rfl) rfl
theorem jw_370 : (Jvm.Cond.methodLink "CoinNode$Hash" (58 : Nat) ({ cls := "CoinNode$Hash", name := "take", desc := "([BII)V" } : Jvm.MethodName)) ∈ jws := jws_2 (List.mem_of_getElem? (i := 130) rfl) rfl
theorem jw_371 : (Jvm.Cond.instanceMethod ({ cls := "CoinNode$Hash", name := "take", desc := "([BII)V" } : Jvm.MethodName)) ∈ jws := jws_2 (List.mem_of_getElem? (i := 131) rfl) rfl
theorem jw_372 : (Jvm.Cond.selects "CoinNode$Hash" ({ cls := "CoinNode$Hash", name := "take", desc := "([BII)V" } : Jvm.MethodName) ({ cls := "CoinNode$Hash", name := "take", desc := "([BII)V" } : Jvm.MethodName)) ∈ jws := jws_2 (List.mem_of_getElem? (i := 132) rfl) rfl
theorem jw_373 : (Jvm.Cond.code ({ cls := "CoinNode$Hash", name := "take", desc := "([BII)V" } : Jvm.MethodName) prog_5_method_2_code (5 : Nat) (Option.none : Option Jvm.ClassFile.FieldType)) ∈ jws := jws_2 (List.mem_of_getElem? (i := 133) rfl) rfl
theorem jw_374 : (Jvm.Cond.methodLink "CoinNode$Hash" (32 : Nat) ({ cls := "java/lang/System", name := "arraycopy", desc := "(Ljava/lang/Object;ILjava/lang/Object;II)V" } : Jvm.MethodName)) ∈ jws := jws_2 (List.mem_of_getElem? (i := 134) rfl) rfl
theorem jw_375 : (Jvm.Cond.static ({ cls := "java/lang/System", name := "arraycopy", desc := "(Ljava/lang/Object;ILjava/lang/Object;II)V" } : Jvm.MethodName)) ∈ jws := jws_2 (List.mem_of_getElem? (i := 135) rfl) rfl
theorem jw_376 : (Jvm.Cond.native ({ cls := "java/lang/System", name := "arraycopy", desc := "(Ljava/lang/Object;ILjava/lang/Object;II)V" } : Jvm.MethodName)) ∈ jws := jws_2 (List.mem_of_getElem? (i := 136) rfl) rfl
theorem jw_377 : (Jvm.Cond.methodLink "CoinNode$Hash" (62 : Nat) ({ cls := "CoinNode$Hash", name := "digest", desc := "([B)V" } : Jvm.MethodName)) ∈ jws := jws_2 (List.mem_of_getElem? (i := 137) rfl) rfl
theorem jw_378 : (Jvm.Cond.instanceMethod ({ cls := "CoinNode$Hash", name := "digest", desc := "([B)V" } : Jvm.MethodName)) ∈ jws := jws_2 (List.mem_of_getElem? (i := 138) rfl) rfl
theorem jw_379 : (Jvm.Cond.selects "CoinNode$Hash" ({ cls := "CoinNode$Hash", name := "digest", desc := "([B)V" } : Jvm.MethodName) ({ cls := "CoinNode$Hash", name := "digest", desc := "([B)V" } : Jvm.MethodName)) ∈ jws := jws_2 (List.mem_of_getElem? (i := 139) rfl) rfl
theorem jw_380 : (Jvm.Cond.code ({ cls := "CoinNode$Hash", name := "digest", desc := "([B)V" } : Jvm.MethodName) prog_5_method_3_code (15 : Nat) (Option.none : Option Jvm.ClassFile.FieldType)) ∈ jws := jws_2 (List.mem_of_getElem? (i := 140) rfl) rfl
theorem jw_381 : (Jvm.Cond.fieldLink "CoinNode$Hash" (38 : Nat) "CoinNode$Hash" "START" "[I") ∈ jws := jws_2 (List.mem_of_getElem? (i := 141) rfl) rfl
theorem jw_383 : (Jvm.Cond.fieldLink "CoinNode$Hash" (41 : Nat) "CoinNode$Hash" "ROUNDS" "[I") ∈ jws := jws_2 (List.mem_of_getElem? (i := 143) rfl) rfl
theorem jw_385 : (Jvm.Cond.fieldLink "CoinNode$Chain" (47 : Nat) "CoinNode$Chain" "hash" "LCoinNode$Hash;") ∈ jws := jws_2 (List.mem_of_getElem? (i := 145) rfl) rfl
theorem jw_386 : (Jvm.Cond.fieldLink "CoinNode$Chain" (51 : Nat) "CoinNode$Chain" "coins" "LCoinNode$Coins;") ∈ jws := jws_2 (List.mem_of_getElem? (i := 146) rfl) rfl
theorem jw_387 : (Jvm.Cond.fieldLink "CoinNode$Chain" (55 : Nat) "CoinNode$Chain" "scripts" "LCoinNode$Scripts;") ∈ jws := jws_2 (List.mem_of_getElem? (i := 147) rfl) rfl
theorem jw_388 : (Jvm.Cond.fieldLink "CoinNode$Chain" (13 : Nat) "CoinNode$Chain" "known" "[LCoinNode$Block;") ∈ jws := jws_2 (List.mem_of_getElem? (i := 148) rfl) rfl
theorem jw_389 : (Jvm.Cond.fieldLink "CoinNode$Chain" (70 : Nat) "CoinNode$Chain" "many" "I") ∈ jws := jws_2 (List.mem_of_getElem? (i := 149) rfl) rfl
theorem jw_390 : (Jvm.Cond.fieldLink "CoinNode" (168 : Nat) "CoinNode$Chain" "many" "I") ∈ jws := jws_2 (List.mem_of_getElem? (i := 150) rfl) rfl
theorem jw_391 : (Jvm.Cond.fieldLink "CoinNode" (173 : Nat) "CoinNode$Chain" "bad" "I") ∈ jws := jws_2 (List.mem_of_getElem? (i := 151) rfl) rfl
theorem jw_392 : (Jvm.Cond.fieldLink "CoinNode$Chain" (181 : Nat) "CoinNode$Chain" "bad" "I") ∈ jws := jws_2 (List.mem_of_getElem? (i := 152) rfl) rfl
theorem jw_393 : (Jvm.Cond.fieldLink "CoinNode$Chain" (74 : Nat) "CoinNode$Chain" "tip" "LCoinNode$Block;") ∈ jws := jws_2 (List.mem_of_getElem? (i := 153) rfl) rfl
theorem jw_394 : (Jvm.Cond.fieldLink "CoinNode" (90 : Nat) "CoinNode$Chain" "tip" "LCoinNode$Block;") ∈ jws := jws_2 (List.mem_of_getElem? (i := 154) rfl) rfl
theorem jw_395 : (Jvm.Cond.fieldLink "CoinNode$Chain" (17 : Nat) "CoinNode$Chain" "line" "[LCoinNode$Block;") ∈ jws := jws_2 (List.mem_of_getElem? (i := 155) rfl) rfl
theorem jw_396 : (Jvm.Cond.fieldLink "CoinNode$Chain" (20 : Nat) "CoinNode$Chain" "way" "[LCoinNode$Block;") ∈ jws := jws_2 (List.mem_of_getElem? (i := 156) rfl) rfl
theorem jw_397 : (Jvm.Cond.fieldLink "CoinNode$Chain" (23 : Nat) "CoinNode$Chain" "left" "[LCoinNode$Block;") ∈ jws := jws_2 (List.mem_of_getElem? (i := 157) rfl) rfl
theorem jw_398 : (Jvm.Cond.fieldLink "CoinNode" (107 : Nat) "CoinNode$Chain" "left" "[LCoinNode$Block;") ∈ jws := jws_2 (List.mem_of_getElem? (i := 158) rfl) rfl
theorem jw_399 : (Jvm.Cond.fieldLink "CoinNode" (111 : Nat) "CoinNode$Chain" "leftMany" "I") ∈ jws := jws_2 (List.mem_of_getElem? (i := 159) rfl) rfl
theorem jw_400 : (Jvm.Cond.fieldLink "CoinNode$Chain" (133 : Nat) "CoinNode$Chain" "leftMany" "I") ∈ jws := jws_2 (List.mem_of_getElem? (i := 160) rfl) rfl
theorem jw_401 : (Jvm.Cond.fieldLink "CoinNode$Chain" (26 : Nat) "CoinNode$Chain" "target" "[I") ∈ jws := jws_2 (List.mem_of_getElem? (i := 161) rfl) rfl
theorem jw_402 : (Jvm.Cond.fieldLink "CoinNode$Chain" (30 : Nat) "CoinNode$Chain" "limit" "[I") ∈ jws := jws_2 (List.mem_of_getElem? (i := 162) rfl) rfl
theorem jw_403 : (Jvm.Cond.fieldLink "CoinNode$Chain" (33 : Nat) "CoinNode$Chain" "rest" "[I") ∈ jws := jws_2 (List.mem_of_getElem? (i := 163) rfl) rfl
theorem jw_404 : (Jvm.Cond.fieldLink "CoinNode$Chain" (36 : Nat) "CoinNode$Chain" "times" "[J") ∈ jws := jws_2 (List.mem_of_getElem? (i := 164) rfl) rfl
theorem jw_405 : (Jvm.Cond.fieldLink "CoinNode$Chain" (40 : Nat) "CoinNode$Chain" "names" "[B") ∈ jws := jws_2 (List.mem_of_getElem? (i := 165) rfl) rfl
theorem jw_406 : (Jvm.Cond.fieldLink "CoinNode$Chain" (44 : Nat) "CoinNode$Chain" "name" "[B") ∈ jws := jws_2 (List.mem_of_getElem? (i := 166) rfl) rfl
theorem jw_407 : (Jvm.Cond.laysFinal "CoinNode$Chain" "CoinNode$Chain" "hash" "LCoinNode$Hash;") ∈ jws := jws_2 (List.mem_of_getElem? (i := 167) rfl) rfl
theorem jw_409 : (Jvm.Cond.laysFinal "CoinNode$Chain" "CoinNode$Chain" "coins" "LCoinNode$Coins;") ∈ jws := jws_2 (List.mem_of_getElem? (i := 169) rfl) rfl
theorem jw_411 : (Jvm.Cond.laysFinal "CoinNode$Chain" "CoinNode$Chain" "scripts" "LCoinNode$Scripts;") ∈ jws := jws_2 (List.mem_of_getElem? (i := 171) rfl) rfl
theorem jw_413 : (Jvm.Cond.laysFinal "CoinNode$Chain" "CoinNode$Chain" "known" "[LCoinNode$Block;") ∈ jws := jws_2 (List.mem_of_getElem? (i := 173) rfl) rfl
theorem jw_415 : (Jvm.Cond.lays "CoinNode$Chain" "CoinNode$Chain" "many" "I") ∈ jws := jws_2 (List.mem_of_getElem? (i := 175) rfl) rfl
theorem jw_417 : (Jvm.Cond.lays "CoinNode$Chain" "CoinNode$Chain" "bad" "I") ∈ jws := jws_2 (List.mem_of_getElem? (i := 177) rfl) rfl
theorem jw_419 : (Jvm.Cond.lays "CoinNode$Chain" "CoinNode$Chain" "tip" "LCoinNode$Block;") ∈ jws := jws_2 (List.mem_of_getElem? (i := 179) rfl) rfl
theorem jw_421 : (Jvm.Cond.laysFinal "CoinNode$Chain" "CoinNode$Chain" "line" "[LCoinNode$Block;") ∈ jws := jws_2 (List.mem_of_getElem? (i := 181) rfl) rfl
theorem jw_423 : (Jvm.Cond.laysFinal "CoinNode$Chain" "CoinNode$Chain" "way" "[LCoinNode$Block;") ∈ jws := jws_2 (List.mem_of_getElem? (i := 183) rfl) rfl
theorem jw_425 : (Jvm.Cond.laysFinal "CoinNode$Chain" "CoinNode$Chain" "left" "[LCoinNode$Block;") ∈ jws := jws_2 (List.mem_of_getElem? (i := 185) rfl) rfl
theorem jw_427 : (Jvm.Cond.lays "CoinNode$Chain" "CoinNode$Chain" "leftMany" "I") ∈ jws := jws_2 (List.mem_of_getElem? (i := 187) rfl) rfl
theorem jw_429 : (Jvm.Cond.laysFinal "CoinNode$Chain" "CoinNode$Chain" "target" "[I") ∈ jws := jws_2 (List.mem_of_getElem? (i := 189) rfl) rfl
theorem jw_431 : (Jvm.Cond.laysFinal "CoinNode$Chain" "CoinNode$Chain" "limit" "[I") ∈ jws := jws_2 (List.mem_of_getElem? (i := 191) rfl) rfl
theorem jw_433 : (Jvm.Cond.laysFinal "CoinNode$Chain" "CoinNode$Chain" "rest" "[I") ∈ jws := jws_2 (List.mem_of_getElem? (i := 193) rfl) rfl
theorem jw_435 : (Jvm.Cond.laysFinal "CoinNode$Chain" "CoinNode$Chain" "times" "[J") ∈ jws := jws_2 (List.mem_of_getElem? (i := 195) rfl) rfl
theorem jw_437 : (Jvm.Cond.laysFinal "CoinNode$Chain" "CoinNode$Chain" "names" "[B") ∈ jws := jws_2 (List.mem_of_getElem? (i := 197) rfl) rfl
theorem jw_439 : (Jvm.Cond.laysFinal "CoinNode$Chain" "CoinNode$Chain" "name" "[B") ∈ jws := jws_2 (List.mem_of_getElem? (i := 199) rfl) rfl
theorem jw_442 : (Jvm.Cond.classLink "CoinNode" (63 : Nat) "CoinNode$Pool") ∈ jws := jws_2 (List.mem_of_getElem? (i := 202) rfl) rfl
theorem jw_443 : (Jvm.Cond.instantiable "CoinNode$Pool" (10 : Nat)) ∈ jws := jws_2 (List.mem_of_getElem? (i := 203) rfl) rfl
theorem jw_444 : (Jvm.Cond.methodLink "CoinNode" (65 : Nat) ({ cls := "CoinNode$Pool", name := "<init>", desc := "(LCoinNode$Coins;LCoinNode$Scripts;)V" } : Jvm.MethodName)) ∈ jws := jws_2 (List.mem_of_getElem? (i := 204) rfl) rfl
theorem jw_445 : (Jvm.Cond.instanceMethod ({ cls := "CoinNode$Pool", name := "<init>", desc := "(LCoinNode$Coins;LCoinNode$Scripts;)V" } : Jvm.MethodName)) ∈ jws := jws_2 (List.mem_of_getElem? (i := 205) rfl) rfl
theorem jw_446 : (Jvm.Cond.code ({ cls := "CoinNode$Pool", name := "<init>", desc := "(LCoinNode$Coins;LCoinNode$Scripts;)V" } : Jvm.MethodName) prog_8_method_1_code (3 : Nat) (Option.none : Option Jvm.ClassFile.FieldType)) ∈ jws := jws_2 (List.mem_of_getElem? (i := 206) rfl) rfl
theorem jw_447 : (Jvm.Cond.methodLink "CoinNode$Pool" (1 : Nat) ({ cls := "java/lang/Object", name := "<init>", desc := "()V" } : Jvm.MethodName)) ∈ jws := jws_2 (List.mem_of_getElem? (i := 207) rfl) rfl
theorem jw_448 : (Jvm.Cond.classLink "CoinNode$Pool" (9 : Nat) "CoinNode$Tx") ∈ jws := jws_2 (List.mem_of_getElem? (i := 208) rfl) rfl
theorem jw_449 : (Jvm.Cond.fieldLink "CoinNode$Pool" (33 : Nat) "CoinNode$Pool" "coins" "LCoinNode$Coins;") ∈ jws := jws_2 (List.mem_of_getElem? (i := 209) rfl) rfl
theorem jw_450 : (Jvm.Cond.fieldLink "CoinNode$Pool" (37 : Nat) "CoinNode$Pool" "scripts" "LCoinNode$Scripts;") ∈ jws := jws_2 (List.mem_of_getElem? (i := 210) rfl) rfl
theorem jw_451 : (Jvm.Cond.fieldLink "CoinNode$Pool" (11 : Nat) "CoinNode$Pool" "txs" "[LCoinNode$Tx;") ∈ jws := jws_2 (List.mem_of_getElem? (i := 211) rfl) rfl
theorem jw_452 : (Jvm.Cond.fieldLink "CoinNode$Pool" (15 : Nat) "CoinNode$Pool" "gains" "[J") ∈ jws := jws_2 (List.mem_of_getElem? (i := 212) rfl) rfl
theorem jw_453 : (Jvm.Cond.fieldLink "CoinNode$Pool" (41 : Nat) "CoinNode$Pool" "many" "I") ∈ jws := jws_2 (List.mem_of_getElem? (i := 213) rfl) rfl
theorem jw_454 : (Jvm.Cond.fieldLink "CoinNode" (172 : Nat) "CoinNode$Pool" "many" "I") ∈ jws := jws_2 (List.mem_of_getElem? (i := 214) rfl) rfl
theorem jw_455 : (Jvm.Cond.fieldLink "CoinNode$Pool" (19 : Nat) "CoinNode$Pool" "before" "[LCoinNode$Tx;") ∈ jws := jws_2 (List.mem_of_getElem? (i := 215) rfl) rfl
theorem jw_456 : (Jvm.Cond.fieldLink "CoinNode$Pool" (22 : Nat) "CoinNode$Pool" "kin" "[Z") ∈ jws := jws_2 (List.mem_of_getElem? (i := 216) rfl) rfl
theorem jw_457 : (Jvm.Cond.fieldLink "CoinNode$Pool" (26 : Nat) "CoinNode$Pool" "takenMakers" "[LCoinNode$Tx;") ∈ jws := jws_2 (List.mem_of_getElem? (i := 217) rfl) rfl
theorem jw_458 : (Jvm.Cond.fieldLink "CoinNode$Pool" (29 : Nat) "CoinNode$Pool" "takenNumbers" "[I") ∈ jws := jws_2 (List.mem_of_getElem? (i := 218) rfl) rfl
theorem jw_459 : (Jvm.Cond.fieldLink "CoinNode$Pool" (84 : Nat) "CoinNode$Pool" "takenSum" "J") ∈ jws := jws_2 (List.mem_of_getElem? (i := 219) rfl) rfl
theorem jw_460 : (Jvm.Cond.laysFinal "CoinNode$Pool" "CoinNode$Pool" "coins" "LCoinNode$Coins;") ∈ jws := jws_2 (List.mem_of_getElem? (i := 220) rfl) rfl
theorem jw_462 : (Jvm.Cond.laysFinal "CoinNode$Pool" "CoinNode$Pool" "scripts" "LCoinNode$Scripts;") ∈ jws := jws_2 (List.mem_of_getElem? (i := 222) rfl) rfl
theorem jw_464 : (Jvm.Cond.laysFinal "CoinNode$Pool" "CoinNode$Pool" "txs" "[LCoinNode$Tx;") ∈ jws := jws_2 (List.mem_of_getElem? (i := 224) rfl) rfl
theorem jw_466 : (Jvm.Cond.laysFinal "CoinNode$Pool" "CoinNode$Pool" "gains" "[J") ∈ jws := jws_2 (List.mem_of_getElem? (i := 226) rfl) rfl
theorem jw_468 : (Jvm.Cond.lays "CoinNode$Pool" "CoinNode$Pool" "many" "I") ∈ jws := jws_2 (List.mem_of_getElem? (i := 228) rfl) rfl
theorem jw_470 : (Jvm.Cond.laysFinal "CoinNode$Pool" "CoinNode$Pool" "before" "[LCoinNode$Tx;") ∈ jws := jws_2 (List.mem_of_getElem? (i := 230) rfl) rfl
theorem jw_472 : (Jvm.Cond.laysFinal "CoinNode$Pool" "CoinNode$Pool" "kin" "[Z") ∈ jws := jws_2 (List.mem_of_getElem? (i := 232) rfl) rfl
theorem jw_474 : (Jvm.Cond.laysFinal "CoinNode$Pool" "CoinNode$Pool" "takenMakers" "[LCoinNode$Tx;") ∈ jws := jws_2 (List.mem_of_getElem? (i := 234) rfl) rfl
theorem jw_476 : (Jvm.Cond.laysFinal "CoinNode$Pool" "CoinNode$Pool" "takenNumbers" "[I") ∈ jws := jws_2 (List.mem_of_getElem? (i := 236) rfl) rfl
theorem jw_478 : (Jvm.Cond.lays "CoinNode$Pool" "CoinNode$Pool" "takenSum" "J") ∈ jws := jws_2 (List.mem_of_getElem? (i := 238) rfl) rfl
theorem jw_481 : (Jvm.Cond.fieldLink "CoinNode" (9 : Nat) "CoinNode" "tape" "[B") ∈ jws := jws_3 (List.mem_of_getElem? (i := 1) rfl) rfl
theorem jw_482 : (Jvm.Cond.fieldLink "CoinNode" (72 : Nat) "CoinNode" "tapeSize" "I") ∈ jws := jws_3 (List.mem_of_getElem? (i := 2) rfl) rfl
theorem jw_483 : (Jvm.Cond.fieldLink "CoinNode" (13 : Nat) "CoinNode" "keyName" "[B") ∈ jws := jws_3 (List.mem_of_getElem? (i := 3) rfl) rfl
theorem jw_484 : (Jvm.Cond.fieldLink "CoinNode" (151 : Nat) "CoinNode" "keyIndex" "I") ∈ jws := jws_3 (List.mem_of_getElem? (i := 4) rfl) rfl
theorem jw_485 : (Jvm.Cond.fieldLink "CoinNode" (18 : Nat) "CoinNode" "boxes" "[[B") ∈ jws := jws_3 (List.mem_of_getElem? (i := 5) rfl) rfl
theorem jw_486 : (Jvm.Cond.fieldLink "CoinNode" (21 : Nat) "CoinNode" "boxStarts" "[I") ∈ jws := jws_3 (List.mem_of_getElem? (i := 6) rfl) rfl
theorem jw_487 : (Jvm.Cond.fieldLink "CoinNode" (25 : Nat) "CoinNode" "boxSizes" "[I") ∈ jws := jws_3 (List.mem_of_getElem? (i := 7) rfl) rfl
theorem jw_488 : (Jvm.Cond.fieldLink "CoinNode" (28 : Nat) "CoinNode" "frame" "[B") ∈ jws := jws_3 (List.mem_of_getElem? (i := 8) rfl) rfl
theorem jw_489 : (Jvm.Cond.fieldLink "CoinNode" (233 : Nat) "CoinNode" "frameSize" "I") ∈ jws := jws_3 (List.mem_of_getElem? (i := 9) rfl) rfl
theorem jw_490 : (Jvm.Cond.fieldLink "CoinNode" (34 : Nat) "CoinNode" "hash" "LCoinNode$Hash;") ∈ jws := jws_3 (List.mem_of_getElem? (i := 10) rfl) rfl
theorem jw_491 : (Jvm.Cond.fieldLink "CoinNode" (43 : Nat) "CoinNode" "scripts" "LCoinNode$Scripts;") ∈ jws := jws_3 (List.mem_of_getElem? (i := 11) rfl) rfl
theorem jw_492 : (Jvm.Cond.fieldLink "CoinNode" (50 : Nat) "CoinNode" "coins" "LCoinNode$Coins;") ∈ jws := jws_3 (List.mem_of_getElem? (i := 12) rfl) rfl
theorem jw_493 : (Jvm.Cond.fieldLink "CoinNode" (59 : Nat) "CoinNode" "chain" "LCoinNode$Chain;") ∈ jws := jws_3 (List.mem_of_getElem? (i := 13) rfl) rfl
theorem jw_494 : (Jvm.Cond.fieldLink "CoinNode" (68 : Nat) "CoinNode" "pool" "LCoinNode$Pool;") ∈ jws := jws_3 (List.mem_of_getElem? (i := 14) rfl) rfl
theorem jw_495 : (Jvm.Cond.laysFinal "CoinNode" "CoinNode" "tape" "[B") ∈ jws := jws_3 (List.mem_of_getElem? (i := 15) rfl) rfl
theorem jw_497 : (Jvm.Cond.lays "CoinNode" "CoinNode" "tapeSize" "I") ∈ jws := jws_3 (List.mem_of_getElem? (i := 17) rfl) rfl
theorem jw_499 : (Jvm.Cond.laysFinal "CoinNode" "CoinNode" "keyName" "[B") ∈ jws := jws_3 (List.mem_of_getElem? (i := 19) rfl) rfl
theorem jw_501 : (Jvm.Cond.lays "CoinNode" "CoinNode" "keyIndex" "I") ∈ jws := jws_3 (List.mem_of_getElem? (i := 21) rfl) rfl
theorem jw_503 : (Jvm.Cond.laysFinal "CoinNode" "CoinNode" "boxes" "[[B") ∈ jws := jws_3 (List.mem_of_getElem? (i := 23) rfl) rfl
theorem jw_505 : (Jvm.Cond.laysFinal "CoinNode" "CoinNode" "boxStarts" "[I") ∈ jws := jws_3 (List.mem_of_getElem? (i := 25) rfl) rfl
theorem jw_507 : (Jvm.Cond.laysFinal "CoinNode" "CoinNode" "boxSizes" "[I") ∈ jws := jws_3 (List.mem_of_getElem? (i := 27) rfl) rfl
theorem jw_509 : (Jvm.Cond.laysFinal "CoinNode" "CoinNode" "frame" "[B") ∈ jws := jws_3 (List.mem_of_getElem? (i := 29) rfl) rfl
theorem jw_511 : (Jvm.Cond.lays "CoinNode" "CoinNode" "frameSize" "I") ∈ jws := jws_3 (List.mem_of_getElem? (i := 31) rfl) rfl
theorem jw_513 : (Jvm.Cond.laysFinal "CoinNode" "CoinNode" "hash" "LCoinNode$Hash;") ∈ jws := jws_3 (List.mem_of_getElem? (i := 33) rfl) rfl
theorem jw_515 : (Jvm.Cond.laysFinal "CoinNode" "CoinNode" "scripts" "LCoinNode$Scripts;") ∈ jws := jws_3 (List.mem_of_getElem? (i := 35) rfl) rfl
theorem jw_517 : (Jvm.Cond.laysFinal "CoinNode" "CoinNode" "coins" "LCoinNode$Coins;") ∈ jws := jws_3 (List.mem_of_getElem? (i := 37) rfl) rfl
theorem jw_519 : (Jvm.Cond.laysFinal "CoinNode" "CoinNode" "chain" "LCoinNode$Chain;") ∈ jws := jws_3 (List.mem_of_getElem? (i := 39) rfl) rfl
theorem jw_521 : (Jvm.Cond.laysFinal "CoinNode" "CoinNode" "pool" "LCoinNode$Pool;") ∈ jws := jws_3 (List.mem_of_getElem? (i := 41) rfl) rfl
theorem jw_524 : (Jvm.Cond.methodLink "CoinNodeLaw" (13 : Nat) ({ cls := "CoinNode", name := "feed", desc := "(IIIII)Z" } : Jvm.MethodName)) ∈ jws := jws_3 (List.mem_of_getElem? (i := 44) rfl) rfl
theorem jw_525 : (Jvm.Cond.instanceMethod ({ cls := "CoinNode", name := "feed", desc := "(IIIII)Z" } : Jvm.MethodName)) ∈ jws := jws_3 (List.mem_of_getElem? (i := 45) rfl) rfl
theorem jw_526 : (Jvm.Cond.selects "CoinNode" ({ cls := "CoinNode", name := "feed", desc := "(IIIII)Z" } : Jvm.MethodName) ({ cls := "CoinNode", name := "feed", desc := "(IIIII)Z" } : Jvm.MethodName)) ∈ jws := jws_3 (List.mem_of_getElem? (i := 46) rfl) rfl
theorem jw_527 : (Jvm.Cond.code ({ cls := "CoinNode", name := "feed", desc := "(IIIII)Z" } : Jvm.MethodName) prog_1_method_2_code (6 : Nat) (Option.some Jvm.ClassFile.FieldType.boolean)) ∈ jws := jws_3 (List.mem_of_getElem? (i := 47) rfl) rfl
theorem jw_528 : (Jvm.Cond.methodLink "CoinNode" (76 : Nat) ({ cls := "CoinNode", name := "layOnTape", desc := "(I)V" } : Jvm.MethodName)) ∈ jws := jws_3 (List.mem_of_getElem? (i := 48) rfl) rfl
theorem jw_530 : (Jvm.Cond.instanceMethod ({ cls := "CoinNode", name := "layOnTape", desc := "(I)V" } : Jvm.MethodName)) ∈ jws := jws_3 (List.mem_of_getElem? (i := 50) rfl) rfl
theorem jw_531 : (Jvm.Cond.code ({ cls := "CoinNode", name := "layOnTape", desc := "(I)V" } : Jvm.MethodName) prog_1_method_11_code (3 : Nat) (Option.none : Option Jvm.ClassFile.FieldType)) ∈ jws := jws_3 (List.mem_of_getElem? (i := 51) rfl) rfl
theorem jw_532 : (Jvm.Cond.methodLink "CoinNodeLaw" (18 : Nat) ({ cls := "CoinNode", name := "send", desc := "(II)Z" } : Jvm.MethodName)) ∈ jws := jws_3 (List.mem_of_getElem? (i := 52) rfl) rfl
theorem jw_533 : (Jvm.Cond.instanceMethod ({ cls := "CoinNode", name := "send", desc := "(II)Z" } : Jvm.MethodName)) ∈ jws := jws_3 (List.mem_of_getElem? (i := 53) rfl) rfl
theorem jw_534 : (Jvm.Cond.selects "CoinNode" ({ cls := "CoinNode", name := "send", desc := "(II)Z" } : Jvm.MethodName) ({ cls := "CoinNode", name := "send", desc := "(II)Z" } : Jvm.MethodName)) ∈ jws := jws_3 (List.mem_of_getElem? (i := 54) rfl) rfl
theorem jw_535 : (Jvm.Cond.code ({ cls := "CoinNode", name := "send", desc := "(II)Z" } : Jvm.MethodName) prog_1_method_3_code (7 : Nat) (Option.some Jvm.ClassFile.FieldType.boolean)) ∈ jws := jws_3 (List.mem_of_getElem? (i := 55) rfl) rfl
theorem jw_536 : (Jvm.Cond.methodLink "CoinNode" (80 : Nat) ({ cls := "java/util/Arrays", name := "copyOf", desc := "([BI)[B" } : Jvm.MethodName)) ∈ jws := jws_3 (List.mem_of_getElem? (i := 56) rfl) rfl
theorem jw_537 : (Jvm.Cond.static ({ cls := "java/util/Arrays", name := "copyOf", desc := "([BI)[B" } : Jvm.MethodName)) ∈ jws := jws_3 (List.mem_of_getElem? (i := 57) rfl) rfl
theorem jw_538 : (Jvm.Cond.code ({ cls := "java/util/Arrays", name := "copyOf", desc := "([BI)[B" } : Jvm.MethodName) prog_25_method_121_code (3 : Nat) (Option.some (Jvm.ClassFile.FieldType.array Jvm.ClassFile.FieldType.byte))) ∈ jws := jws_3 (List.mem_of_getElem? (i := 58) rfl) rfl
theorem jw_539 : (Jvm.Cond.methodLink "java/util/Arrays" (310 : Nat) ({ cls := "[B", name := "clone", desc := "()Ljava/lang/Object;" } : Jvm.MethodName)) ∈ jws := jws_3 (List.mem_of_getElem? (i := 59) rfl) rfl
theorem jw_541 : (Jvm.Cond.native ({ cls := "java/lang/Object", name := "clone", desc := "()Ljava/lang/Object;" } : Jvm.MethodName)) ∈ jws := jws_3 (List.mem_of_getElem? (i := 61) rfl) rfl
theorem jw_542 : (Jvm.Cond.instanceMethod ({ cls := "java/lang/Object", name := "clone", desc := "()Ljava/lang/Object;" } : Jvm.MethodName)) ∈ jws := jws_3 (List.mem_of_getElem? (i := 62) rfl) rfl
theorem jw_543 : (Jvm.Cond.selects "[B" ({ cls := "[B", name := "clone", desc := "()Ljava/lang/Object;" } : Jvm.MethodName) ({ cls := "java/lang/Object", name := "clone", desc := "()Ljava/lang/Object;" } : Jvm.MethodName)) ∈ jws := jws_3 (List.mem_of_getElem? (i := 63) rfl) rfl
theorem jw_545 : (Jvm.Cond.classLink "java/util/Arrays" (311 : Nat) "[B") ∈ jws := jws_3 (List.mem_of_getElem? (i := 65) rfl) rfl
theorem jw_546 : (Jvm.Cond.methodLink "java/util/Arrays" (304 : Nat) ({ cls := "java/lang/Math", name := "min", desc := "(II)I" } : Jvm.MethodName)) ∈ jws := jws_3 (List.mem_of_getElem? (i := 66) rfl) rfl
theorem jw_547 : (Jvm.Cond.static ({ cls := "java/lang/Math", name := "min", desc := "(II)I" } : Jvm.MethodName)) ∈ jws := jws_3 (List.mem_of_getElem? (i := 67) rfl) rfl
theorem jw_548 : (Jvm.Cond.code ({ cls := "java/lang/Math", name := "min", desc := "(II)I" } : Jvm.MethodName) prog_23_method_69_code (2 : Nat) (Option.some Jvm.ClassFile.FieldType.int)) ∈ jws := jws_3 (List.mem_of_getElem? (i := 68) rfl) rfl
theorem jw_549 : (Jvm.Cond.methodLink "java/util/Arrays" (150 : Nat) ({ cls := "java/lang/System", name := "arraycopy", desc := "(Ljava/lang/Object;ILjava/lang/Object;II)V" } : Jvm.MethodName)) ∈ jws := jws_3 (List.mem_of_getElem? (i := 69) rfl) rfl
theorem jw_550 : (Jvm.Cond.methodLink "CoinNode" (86 : Nat) ({ cls := "CoinNode", name := "takeTransaction", desc := "(I[B)V" } : Jvm.MethodName)) ∈ jws := jws_3 (List.mem_of_getElem? (i := 70) rfl) rfl
theorem jw_552 : (Jvm.Cond.instanceMethod ({ cls := "CoinNode", name := "takeTransaction", desc := "(I[B)V" } : Jvm.MethodName)) ∈ jws := jws_3 (List.mem_of_getElem? (i := 72) rfl) rfl
theorem jw_553 : (Jvm.Cond.code ({ cls := "CoinNode", name := "takeTransaction", desc := "(I[B)V" } : Jvm.MethodName) prog_1_method_12_code (5 : Nat) (Option.none : Option Jvm.ClassFile.FieldType)) ∈ jws := jws_3 (List.mem_of_getElem? (i := 73) rfl) rfl
theorem jw_554 : (Jvm.Cond.methodLink "CoinNode" (180 : Nat) ({ cls := "CoinNode$Tx", name := "read", desc := "([BI)LCoinNode$Tx;" } : Jvm.MethodName)) ∈ jws := jws_3 (List.mem_of_getElem? (i := 74) rfl) rfl
theorem jw_555 : (Jvm.Cond.static ({ cls := "CoinNode$Tx", name := "read", desc := "([BI)LCoinNode$Tx;" } : Jvm.MethodName)) ∈ jws := jws_3 (List.mem_of_getElem? (i := 75) rfl) rfl
theorem jw_556 : (Jvm.Cond.code ({ cls := "CoinNode$Tx", name := "read", desc := "([BI)LCoinNode$Tx;" } : Jvm.MethodName) prog_12_method_2_code (4 : Nat) (Option.some (Jvm.ClassFile.FieldType.object "CoinNode$Tx"))) ∈ jws := jws_3 (List.mem_of_getElem? (i := 76) rfl) rfl
theorem jw_557 : (Jvm.Cond.classLink "CoinNode$Tx" (10 : Nat) "CoinNode$Tx") ∈ jws := jws_3 (List.mem_of_getElem? (i := 77) rfl) rfl
theorem jw_558 : (Jvm.Cond.instantiable "CoinNode$Tx" (8 : Nat)) ∈ jws := jws_3 (List.mem_of_getElem? (i := 78) rfl) rfl
theorem jw_559 : (Jvm.Cond.methodLink "CoinNode$Tx" (29 : Nat) ({ cls := "CoinNode$Tx", name := "<init>", desc := "([BI)V" } : Jvm.MethodName)) ∈ jws := jws_3 (List.mem_of_getElem? (i := 79) rfl) rfl
theorem jw_560 : (Jvm.Cond.instanceMethod ({ cls := "CoinNode$Tx", name := "<init>", desc := "([BI)V" } : Jvm.MethodName)) ∈ jws := jws_3 (List.mem_of_getElem? (i := 80) rfl) rfl
theorem jw_561 : (Jvm.Cond.code ({ cls := "CoinNode$Tx", name := "<init>", desc := "([BI)V" } : Jvm.MethodName) prog_12_method_1_code (3 : Nat) (Option.none : Option Jvm.ClassFile.FieldType)) ∈ jws := jws_3 (List.mem_of_getElem? (i := 81) rfl) rfl
theorem jw_562 : (Jvm.Cond.methodLink "CoinNode$Tx" (3 : Nat) ({ cls := "java/lang/Object", name := "<init>", desc := "()V" } : Jvm.MethodName)) ∈ jws := jws_3 (List.mem_of_getElem? (i := 82) rfl) rfl
theorem jw_563 : (Jvm.Cond.fieldLink "CoinNode$Tx" (22 : Nat) "CoinNode$Tx" "row" "[B") ∈ jws := jws_3 (List.mem_of_getElem? (i := 83) rfl) rfl
theorem jw_564 : (Jvm.Cond.fieldLink "CoinNode$Scripts" (58 : Nat) "CoinNode$Tx" "row" "[B") ∈ jws := jws_3 (List.mem_of_getElem? (i := 84) rfl) rfl
theorem jw_565 : (Jvm.Cond.fieldLink "CoinNode$Pool" (122 : Nat) "CoinNode$Tx" "row" "[B") ∈ jws := jws_3 (List.mem_of_getElem? (i := 85) rfl) rfl
theorem jw_566 : (Jvm.Cond.fieldLink "CoinNode$Coins" (95 : Nat) "CoinNode$Tx" "row" "[B") ∈ jws := jws_3 (List.mem_of_getElem? (i := 86) rfl) rfl
theorem jw_567 : (Jvm.Cond.fieldLink "CoinNode" (229 : Nat) "CoinNode$Tx" "row" "[B") ∈ jws := jws_3 (List.mem_of_getElem? (i := 87) rfl) rfl
theorem jw_568 : (Jvm.Cond.fieldLink "CoinNode$Tx" (25 : Nat) "CoinNode$Tx" "from" "I") ∈ jws := jws_3 (List.mem_of_getElem? (i := 88) rfl) rfl
theorem jw_569 : (Jvm.Cond.fieldLink "CoinNode$Scripts" (137 : Nat) "CoinNode$Tx" "from" "I") ∈ jws := jws_3 (List.mem_of_getElem? (i := 89) rfl) rfl
theorem jw_570 : (Jvm.Cond.fieldLink "CoinNode" (230 : Nat) "CoinNode$Tx" "from" "I") ∈ jws := jws_3 (List.mem_of_getElem? (i := 90) rfl) rfl
theorem jw_571 : (Jvm.Cond.fieldLink "CoinNode$Tx" (39 : Nat) "CoinNode$Tx" "size" "I") ∈ jws := jws_3 (List.mem_of_getElem? (i := 91) rfl) rfl
theorem jw_572 : (Jvm.Cond.fieldLink "CoinNode$Block" (53 : Nat) "CoinNode$Tx" "size" "I") ∈ jws := jws_3 (List.mem_of_getElem? (i := 92) rfl) rfl
theorem jw_573 : (Jvm.Cond.fieldLink "CoinNode$Scripts" (147 : Nat) "CoinNode$Tx" "size" "I") ∈ jws := jws_3 (List.mem_of_getElem? (i := 93) rfl) rfl
theorem jw_574 : (Jvm.Cond.fieldLink "CoinNode$Pool" (155 : Nat) "CoinNode$Tx" "size" "I") ∈ jws := jws_3 (List.mem_of_getElem? (i := 94) rfl) rfl
theorem jw_575 : (Jvm.Cond.fieldLink "CoinNode" (185 : Nat) "CoinNode$Tx" "size" "I") ∈ jws := jws_3 (List.mem_of_getElem? (i := 95) rfl) rfl
theorem jw_576 : (Jvm.Cond.fieldLink "CoinNode$Tx" (9 : Nat) "CoinNode$Tx" "name" "[B") ∈ jws := jws_3 (List.mem_of_getElem? (i := 96) rfl) rfl
theorem jw_577 : (Jvm.Cond.fieldLink "CoinNode$Block" (56 : Nat) "CoinNode$Tx" "name" "[B") ∈ jws := jws_3 (List.mem_of_getElem? (i := 97) rfl) rfl
theorem jw_578 : (Jvm.Cond.fieldLink "CoinNode$Pool" (45 : Nat) "CoinNode$Tx" "name" "[B") ∈ jws := jws_3 (List.mem_of_getElem? (i := 98) rfl) rfl
theorem jw_579 : (Jvm.Cond.fieldLink "CoinNode$Coins" (39 : Nat) "CoinNode$Tx" "name" "[B") ∈ jws := jws_3 (List.mem_of_getElem? (i := 99) rfl) rfl
theorem jw_580 : (Jvm.Cond.fieldLink "CoinNode" (188 : Nat) "CoinNode$Tx" "name" "[B") ∈ jws := jws_3 (List.mem_of_getElem? (i := 100) rfl) rfl
theorem jw_581 : (Jvm.Cond.fieldLink "CoinNode$Tx" (15 : Nat) "CoinNode$Tx" "inputs" "[I") ∈ jws := jws_3 (List.mem_of_getElem? (i := 101) rfl) rfl
theorem jw_582 : (Jvm.Cond.fieldLink "CoinNode$Scripts" (45 : Nat) "CoinNode$Tx" "inputs" "[I") ∈ jws := jws_3 (List.mem_of_getElem? (i := 102) rfl) rfl
theorem jw_583 : (Jvm.Cond.fieldLink "CoinNode$Block" (62 : Nat) "CoinNode$Tx" "inputs" "[I") ∈ jws := jws_3 (List.mem_of_getElem? (i := 103) rfl) rfl
theorem jw_584 : (Jvm.Cond.fieldLink "CoinNode$Pool" (115 : Nat) "CoinNode$Tx" "inputs" "[I") ∈ jws := jws_3 (List.mem_of_getElem? (i := 104) rfl) rfl
theorem jw_585 : (Jvm.Cond.fieldLink "CoinNode$Coins" (79 : Nat) "CoinNode$Tx" "inputs" "[I") ∈ jws := jws_3 (List.mem_of_getElem? (i := 105) rfl) rfl
theorem jw_586 : (Jvm.Cond.fieldLink "CoinNode$Tx" (19 : Nat) "CoinNode$Tx" "outputs" "[I") ∈ jws := jws_3 (List.mem_of_getElem? (i := 106) rfl) rfl
theorem jw_587 : (Jvm.Cond.fieldLink "CoinNode$Scripts" (134 : Nat) "CoinNode$Tx" "outputs" "[I") ∈ jws := jws_3 (List.mem_of_getElem? (i := 107) rfl) rfl
theorem jw_588 : (Jvm.Cond.fieldLink "CoinNode$Block" (92 : Nat) "CoinNode$Tx" "outputs" "[I") ∈ jws := jws_3 (List.mem_of_getElem? (i := 108) rfl) rfl
theorem jw_589 : (Jvm.Cond.fieldLink "CoinNode$Pool" (134 : Nat) "CoinNode$Tx" "outputs" "[I") ∈ jws := jws_3 (List.mem_of_getElem? (i := 109) rfl) rfl
theorem jw_590 : (Jvm.Cond.fieldLink "CoinNode$Coins" (111 : Nat) "CoinNode$Tx" "outputs" "[I") ∈ jws := jws_3 (List.mem_of_getElem? (i := 110) rfl) rfl
theorem jw_591 : (Jvm.Cond.fieldLink "CoinNode$Tx" (54 : Nat) "CoinNode$Tx" "sum" "J") ∈ jws := jws_3 (List.mem_of_getElem? (i := 111) rfl) rfl
theorem jw_592 : (Jvm.Cond.fieldLink "CoinNode$Pool" (88 : Nat) "CoinNode$Tx" "sum" "J") ∈ jws := jws_3 (List.mem_of_getElem? (i := 112) rfl) rfl
theorem jw_593 : (Jvm.Cond.fieldLink "CoinNode$Coins" (88 : Nat) "CoinNode$Tx" "sum" "J") ∈ jws := jws_3 (List.mem_of_getElem? (i := 113) rfl) rfl
theorem jw_594 : (Jvm.Cond.fieldLink "CoinNode$Block" (65 : Nat) "CoinNode$Tx" "hasRootInput" "Z") ∈ jws := jws_3 (List.mem_of_getElem? (i := 114) rfl) rfl
theorem jw_595 : (Jvm.Cond.fieldLink "CoinNode$Tx" (46 : Nat) "CoinNode$Tx" "hasRootInput" "Z") ∈ jws := jws_3 (List.mem_of_getElem? (i := 115) rfl) rfl
theorem jw_596 : (Jvm.Cond.fieldLink "CoinNode$Pool" (59 : Nat) "CoinNode$Tx" "hasRootInput" "Z") ∈ jws := jws_3 (List.mem_of_getElem? (i := 116) rfl) rfl
theorem jw_597 : (Jvm.Cond.fieldLink "CoinNode$Coins" (53 : Nat) "CoinNode$Tx" "hasRootInput" "Z") ∈ jws := jws_3 (List.mem_of_getElem? (i := 117) rfl) rfl
theorem jw_598 : (Jvm.Cond.laysFinal "CoinNode$Tx" "CoinNode$Tx" "row" "[B") ∈ jws := jws_3 (List.mem_of_getElem? (i := 118) rfl) rfl
theorem jw_600 : (Jvm.Cond.laysFinal "CoinNode$Tx" "CoinNode$Tx" "from" "I") ∈ jws := jws_3 (List.mem_of_getElem? (i := 120) rfl) rfl
theorem jw_602 : (Jvm.Cond.lays "CoinNode$Tx" "CoinNode$Tx" "size" "I") ∈ jws := jws_3 (List.mem_of_getElem? (i := 122) rfl) rfl
theorem jw_604 : (Jvm.Cond.laysFinal "CoinNode$Tx" "CoinNode$Tx" "name" "[B") ∈ jws := jws_3 (List.mem_of_getElem? (i := 124) rfl) rfl
theorem jw_606 : (Jvm.Cond.lays "CoinNode$Tx" "CoinNode$Tx" "inputs" "[I") ∈ jws := jws_3 (List.mem_of_getElem? (i := 126) rfl) rfl
theorem jw_608 : (Jvm.Cond.lays "CoinNode$Tx" "CoinNode$Tx" "outputs" "[I") ∈ jws := jws_3 (List.mem_of_getElem? (i := 128) rfl) rfl
theorem jw_610 : (Jvm.Cond.lays "CoinNode$Tx" "CoinNode$Tx" "sum" "J") ∈ jws := jws_3 (List.mem_of_getElem? (i := 130) rfl) rfl
theorem jw_612 : (Jvm.Cond.lays "CoinNode$Tx" "CoinNode$Tx" "hasRootInput" "Z") ∈ jws := jws_3 (List.mem_of_getElem? (i := 132) rfl) rfl
theorem jw_615 : (Jvm.Cond.methodLink "CoinNode$Tx" (32 : Nat) ({ cls := "CoinNode$Tx", name := "readInputs", desc := "(I)I" } : Jvm.MethodName)) ∈ jws := jws_3 (List.mem_of_getElem? (i := 135) rfl) rfl
theorem jw_617 : (Jvm.Cond.instanceMethod ({ cls := "CoinNode$Tx", name := "readInputs", desc := "(I)I" } : Jvm.MethodName)) ∈ jws := jws_3 (List.mem_of_getElem? (i := 137) rfl) rfl
theorem jw_618 : (Jvm.Cond.code ({ cls := "CoinNode$Tx", name := "readInputs", desc := "(I)I" } : Jvm.MethodName) prog_12_method_3_code (6 : Nat) (Option.some Jvm.ClassFile.FieldType.int)) ∈ jws := jws_3 (List.mem_of_getElem? (i := 138) rfl) rfl
theorem jw_619 : (Jvm.Cond.methodLink "CoinNode$Tx" (42 : Nat) ({ cls := "CoinNode$Tx", name := "sizeAt", desc := "([BII)I" } : Jvm.MethodName)) ∈ jws := jws_3 (List.mem_of_getElem? (i := 139) rfl) rfl
theorem jw_620 : (Jvm.Cond.static ({ cls := "CoinNode$Tx", name := "sizeAt", desc := "([BII)I" } : Jvm.MethodName)) ∈ jws := jws_3 (List.mem_of_getElem? (i := 140) rfl) rfl
theorem jw_621 : (Jvm.Cond.code ({ cls := "CoinNode$Tx", name := "sizeAt", desc := "([BII)I" } : Jvm.MethodName) prog_12_method_5_code (4 : Nat) (Option.some Jvm.ClassFile.FieldType.int)) ∈ jws := jws_3 (List.mem_of_getElem? (i := 141) rfl) rfl
theorem jw_622 : (Jvm.Cond.methodLink "CoinNode$Tx" (50 : Nat) ({ cls := "CoinNode$Tx", name := "isRootInput", desc := "(I)Z" } : Jvm.MethodName)) ∈ jws := jws_3 (List.mem_of_getElem? (i := 142) rfl) rfl
theorem jw_624 : (Jvm.Cond.instanceMethod ({ cls := "CoinNode$Tx", name := "isRootInput", desc := "(I)Z" } : Jvm.MethodName)) ∈ jws := jws_3 (List.mem_of_getElem? (i := 144) rfl) rfl
theorem jw_625 : (Jvm.Cond.code ({ cls := "CoinNode$Tx", name := "isRootInput", desc := "(I)Z" } : Jvm.MethodName) prog_12_method_12_code (4 : Nat) (Option.some Jvm.ClassFile.FieldType.boolean)) ∈ jws := jws_3 (List.mem_of_getElem? (i := 145) rfl) rfl
theorem jw_626 : (Jvm.Cond.methodLink "CoinNode$Tx" (36 : Nat) ({ cls := "CoinNode$Tx", name := "readOutputs", desc := "(I)I" } : Jvm.MethodName)) ∈ jws := jws_3 (List.mem_of_getElem? (i := 146) rfl) rfl
theorem jw_628 : (Jvm.Cond.instanceMethod ({ cls := "CoinNode$Tx", name := "readOutputs", desc := "(I)I" } : Jvm.MethodName)) ∈ jws := jws_3 (List.mem_of_getElem? (i := 148) rfl) rfl
theorem jw_629 : (Jvm.Cond.code ({ cls := "CoinNode$Tx", name := "readOutputs", desc := "(I)I" } : Jvm.MethodName) prog_12_method_4_code (6 : Nat) (Option.some Jvm.ClassFile.FieldType.int)) ∈ jws := jws_3 (List.mem_of_getElem? (i := 149) rfl) rfl
theorem jw_630 : (Jvm.Cond.methodLink "CoinNode$Tx" (58 : Nat) ({ cls := "CoinNode$Tx", name := "worth", desc := "(I)J" } : Jvm.MethodName)) ∈ jws := jws_3 (List.mem_of_getElem? (i := 150) rfl) rfl
theorem jw_631 : (Jvm.Cond.instanceMethod ({ cls := "CoinNode$Tx", name := "worth", desc := "(I)J" } : Jvm.MethodName)) ∈ jws := jws_3 (List.mem_of_getElem? (i := 151) rfl) rfl
theorem jw_632 : (Jvm.Cond.selects "CoinNode$Tx" ({ cls := "CoinNode$Tx", name := "worth", desc := "(I)J" } : Jvm.MethodName) ({ cls := "CoinNode$Tx", name := "worth", desc := "(I)J" } : Jvm.MethodName)) ∈ jws := jws_3 (List.mem_of_getElem? (i := 152) rfl) rfl
theorem jw_633 : (Jvm.Cond.code ({ cls := "CoinNode$Tx", name := "worth", desc := "(I)J" } : Jvm.MethodName) prog_12_method_8_code (3 : Nat) (Option.some Jvm.ClassFile.FieldType.long)) ∈ jws := jws_3 (List.mem_of_getElem? (i := 153) rfl) rfl
theorem jw_634 : (Jvm.Cond.methodLink "CoinNode$Tx" (62 : Nat) ({ cls := "CoinNode$Tx", name := "low", desc := "([BI)I" } : Jvm.MethodName)) ∈ jws := jws_3 (List.mem_of_getElem? (i := 154) rfl) rfl
theorem jw_635 : (Jvm.Cond.constantLong "CoinNode$Tx" (66 : Nat) (4294967295 : Int64)) ∈ jws := jws_3 (List.mem_of_getElem? (i := 155) rfl) rfl
theorem jw_636 : (Jvm.Cond.methodLink "CoinNode" (134 : Nat) ({ cls := "CoinNode", name := "answerVerdict", desc := "(II[B)V" } : Jvm.MethodName)) ∈ jws := jws_3 (List.mem_of_getElem? (i := 156) rfl) rfl
theorem jw_638 : (Jvm.Cond.instanceMethod ({ cls := "CoinNode", name := "answerVerdict", desc := "(II[B)V" } : Jvm.MethodName)) ∈ jws := jws_3 (List.mem_of_getElem? (i := 158) rfl) rfl
theorem jw_639 : (Jvm.Cond.code ({ cls := "CoinNode", name := "answerVerdict", desc := "(II[B)V" } : Jvm.MethodName) prog_1_method_14_code (5 : Nat) (Option.none : Option Jvm.ClassFile.FieldType)) ∈ jws := jws_3 (List.mem_of_getElem? (i := 159) rfl) rfl
theorem jw_640 : (Jvm.Cond.methodLink "CoinNode" (202 : Nat) ({ cls := "CoinNode", name := "begin", desc := "(I)V" } : Jvm.MethodName)) ∈ jws := jws_3 (List.mem_of_getElem? (i := 160) rfl) rfl
theorem jw_642 : (Jvm.Cond.instanceMethod ({ cls := "CoinNode", name := "begin", desc := "(I)V" } : Jvm.MethodName)) ∈ jws := jws_3 (List.mem_of_getElem? (i := 162) rfl) rfl
theorem jw_643 : (Jvm.Cond.code ({ cls := "CoinNode", name := "begin", desc := "(I)V" } : Jvm.MethodName) prog_1_method_21_code (2 : Nat) (Option.none : Option Jvm.ClassFile.FieldType)) ∈ jws := jws_3 (List.mem_of_getElem? (i := 163) rfl) rfl
theorem jw_644 : (Jvm.Cond.methodLink "CoinNode" (205 : Nat) ({ cls := "CoinNode", name := "put", desc := "(I)V" } : Jvm.MethodName)) ∈ jws := jws_3 (List.mem_of_getElem? (i := 164) rfl) rfl
theorem jw_646 : (Jvm.Cond.instanceMethod ({ cls := "CoinNode", name := "put", desc := "(I)V" } : Jvm.MethodName)) ∈ jws := jws_3 (List.mem_of_getElem? (i := 166) rfl) rfl
theorem jw_647 : (Jvm.Cond.code ({ cls := "CoinNode", name := "put", desc := "(I)V" } : Jvm.MethodName) prog_1_method_22_code (2 : Nat) (Option.none : Option Jvm.ClassFile.FieldType)) ∈ jws := jws_3 (List.mem_of_getElem? (i := 167) rfl) rfl
theorem jw_648 : (Jvm.Cond.methodLink "CoinNode" (208 : Nat) ({ cls := "CoinNode", name := "post", desc := "(I)V" } : Jvm.MethodName)) ∈ jws := jws_3 (List.mem_of_getElem? (i := 168) rfl) rfl
theorem jw_650 : (Jvm.Cond.instanceMethod ({ cls := "CoinNode", name := "post", desc := "(I)V" } : Jvm.MethodName)) ∈ jws := jws_3 (List.mem_of_getElem? (i := 170) rfl) rfl
theorem jw_651 : (Jvm.Cond.code ({ cls := "CoinNode", name := "post", desc := "(I)V" } : Jvm.MethodName) prog_1_method_24_code (5 : Nat) (Option.none : Option Jvm.ClassFile.FieldType)) ∈ jws := jws_3 (List.mem_of_getElem? (i := 171) rfl) rfl
theorem jw_652 : (Jvm.Cond.methodLink "CoinNode" (189 : Nat) ({ cls := "CoinNode$Hash", name := "name", desc := "([BII[B)V" } : Jvm.MethodName)) ∈ jws := jws_3 (List.mem_of_getElem? (i := 172) rfl) rfl
theorem jw_653 : (Jvm.Cond.methodLink "CoinNode" (192 : Nat) ({ cls := "CoinNode$Pool", name := "offer", desc := "(LCoinNode$Tx;IZ)I" } : Jvm.MethodName)) ∈ jws := jws_3 (List.mem_of_getElem? (i := 173) rfl) rfl
theorem jw_654 : (Jvm.Cond.instanceMethod ({ cls := "CoinNode$Pool", name := "offer", desc := "(LCoinNode$Tx;IZ)I" } : Jvm.MethodName)) ∈ jws := jws_3 (List.mem_of_getElem? (i := 174) rfl) rfl
theorem jw_655 : (Jvm.Cond.selects "CoinNode$Pool" ({ cls := "CoinNode$Pool", name := "offer", desc := "(LCoinNode$Tx;IZ)I" } : Jvm.MethodName) ({ cls := "CoinNode$Pool", name := "offer", desc := "(LCoinNode$Tx;IZ)I" } : Jvm.MethodName)) ∈ jws := jws_3 (List.mem_of_getElem? (i := 175) rfl) rfl
theorem jw_656 : (Jvm.Cond.code ({ cls := "CoinNode$Pool", name := "offer", desc := "(LCoinNode$Tx;IZ)I" } : Jvm.MethodName) prog_8_method_4_code (5 : Nat) (Option.some Jvm.ClassFile.FieldType.int)) ∈ jws := jws_3 (List.mem_of_getElem? (i := 176) rfl) rfl
theorem jw_657 : (Jvm.Cond.methodLink "CoinNode$Pool" (55 : Nat) ({ cls := "CoinNode$Tx", name := "fault", desc := "()I" } : Jvm.MethodName)) ∈ jws := jws_3 (List.mem_of_getElem? (i := 177) rfl) rfl
theorem jw_658 : (Jvm.Cond.instanceMethod ({ cls := "CoinNode$Tx", name := "fault", desc := "()I" } : Jvm.MethodName)) ∈ jws := jws_3 (List.mem_of_getElem? (i := 178) rfl) rfl
theorem jw_659 : (Jvm.Cond.selects "CoinNode$Tx" ({ cls := "CoinNode$Tx", name := "fault", desc := "()I" } : Jvm.MethodName) ({ cls := "CoinNode$Tx", name := "fault", desc := "()I" } : Jvm.MethodName)) ∈ jws := jws_3 (List.mem_of_getElem? (i := 179) rfl) rfl
theorem jw_660 : (Jvm.Cond.code ({ cls := "CoinNode$Tx", name := "fault", desc := "()I" } : Jvm.MethodName) prog_12_method_14_code (3 : Nat) (Option.some Jvm.ClassFile.FieldType.int)) ∈ jws := jws_3 (List.mem_of_getElem? (i := 180) rfl) rfl
theorem jw_661 : (Jvm.Cond.methodLink "CoinNode$Tx" (70 : Nat) ({ cls := "CoinNode$Tx", name := "isTooMuch", desc := "()Z" } : Jvm.MethodName)) ∈ jws := jws_3 (List.mem_of_getElem? (i := 181) rfl) rfl
theorem jw_662 : (Jvm.Cond.instanceMethod ({ cls := "CoinNode$Tx", name := "isTooMuch", desc := "()Z" } : Jvm.MethodName)) ∈ jws := jws_3 (List.mem_of_getElem? (i := 182) rfl) rfl
theorem jw_663 : (Jvm.Cond.selects "CoinNode$Tx" ({ cls := "CoinNode$Tx", name := "isTooMuch", desc := "()Z" } : Jvm.MethodName) ({ cls := "CoinNode$Tx", name := "isTooMuch", desc := "()Z" } : Jvm.MethodName)) ∈ jws := jws_3 (List.mem_of_getElem? (i := 183) rfl) rfl
theorem jw_664 : (Jvm.Cond.code ({ cls := "CoinNode$Tx", name := "isTooMuch", desc := "()Z" } : Jvm.MethodName) prog_12_method_13_code (6 : Nat) (Option.some Jvm.ClassFile.FieldType.boolean)) ∈ jws := jws_3 (List.mem_of_getElem? (i := 184) rfl) rfl
theorem jw_665 : (Jvm.Cond.constantLong "CoinNode$Tx" (68 : Nat) (2100000000000000 : Int64)) ∈ jws := jws_3 (List.mem_of_getElem? (i := 185) rfl) rfl
theorem jw_666 : (Jvm.Cond.methodLink "CoinNode$Tx" (74 : Nat) ({ cls := "CoinNode$Tx", name := "index", desc := "(I)I" } : Jvm.MethodName)) ∈ jws := jws_3 (List.mem_of_getElem? (i := 186) rfl) rfl
theorem jw_667 : (Jvm.Cond.instanceMethod ({ cls := "CoinNode$Tx", name := "index", desc := "(I)I" } : Jvm.MethodName)) ∈ jws := jws_3 (List.mem_of_getElem? (i := 187) rfl) rfl
theorem jw_668 : (Jvm.Cond.selects "CoinNode$Tx" ({ cls := "CoinNode$Tx", name := "index", desc := "(I)I" } : Jvm.MethodName) ({ cls := "CoinNode$Tx", name := "index", desc := "(I)I" } : Jvm.MethodName)) ∈ jws := jws_3 (List.mem_of_getElem? (i := 188) rfl) rfl
theorem jw_669 : (Jvm.Cond.code ({ cls := "CoinNode$Tx", name := "index", desc := "(I)I" } : Jvm.MethodName) prog_12_method_7_code (2 : Nat) (Option.some Jvm.ClassFile.FieldType.int)) ∈ jws := jws_3 (List.mem_of_getElem? (i := 189) rfl) rfl
theorem jw_670 : (Jvm.Cond.methodLink "CoinNode$Tx" (77 : Nat) ({ cls := "CoinNode$Hash", name := "same", desc := "([BI[BI)Z" } : Jvm.MethodName)) ∈ jws := jws_3 (List.mem_of_getElem? (i := 190) rfl) rfl
theorem jw_671 : (Jvm.Cond.static ({ cls := "CoinNode$Hash", name := "same", desc := "([BI[BI)Z" } : Jvm.MethodName)) ∈ jws := jws_3 (List.mem_of_getElem? (i := 191) rfl) rfl
theorem jw_672 : (Jvm.Cond.code ({ cls := "CoinNode$Hash", name := "same", desc := "([BI[BI)Z" } : Jvm.MethodName) prog_5_method_6_code (5 : Nat) (Option.some Jvm.ClassFile.FieldType.boolean)) ∈ jws := jws_3 (List.mem_of_getElem? (i := 192) rfl) rfl
theorem jw_673 : (Jvm.Cond.methodLink "CoinNode$Pool" (63 : Nat) ({ cls := "CoinNode$Pool", name := "clash", desc := "(LCoinNode$Tx;)I" } : Jvm.MethodName)) ∈ jws := jws_3 (List.mem_of_getElem? (i := 193) rfl) rfl
theorem jw_675 : (Jvm.Cond.instanceMethod ({ cls := "CoinNode$Pool", name := "clash", desc := "(LCoinNode$Tx;)I" } : Jvm.MethodName)) ∈ jws := jws_3 (List.mem_of_getElem? (i := 195) rfl) rfl
theorem jw_676 : (Jvm.Cond.code ({ cls := "CoinNode$Pool", name := "clash", desc := "(LCoinNode$Tx;)I" } : Jvm.MethodName) prog_8_method_6_code (3 : Nat) (Option.some Jvm.ClassFile.FieldType.int)) ∈ jws := jws_3 (List.mem_of_getElem? (i := 196) rfl) rfl
theorem jw_677 : (Jvm.Cond.methodLink "CoinNode$Pool" (108 : Nat) ({ cls := "CoinNode$Pool", name := "find", desc := "([BI)LCoinNode$Tx;" } : Jvm.MethodName)) ∈ jws := jws_3 (List.mem_of_getElem? (i := 197) rfl) rfl
theorem jw_678 : (Jvm.Cond.instanceMethod ({ cls := "CoinNode$Pool", name := "find", desc := "([BI)LCoinNode$Tx;" } : Jvm.MethodName)) ∈ jws := jws_3 (List.mem_of_getElem? (i := 198) rfl) rfl
theorem jw_679 : (Jvm.Cond.selects "CoinNode$Pool" ({ cls := "CoinNode$Pool", name := "find", desc := "([BI)LCoinNode$Tx;" } : Jvm.MethodName) ({ cls := "CoinNode$Pool", name := "find", desc := "([BI)LCoinNode$Tx;" } : Jvm.MethodName)) ∈ jws := jws_3 (List.mem_of_getElem? (i := 199) rfl) rfl
theorem jw_680 : (Jvm.Cond.code ({ cls := "CoinNode$Pool", name := "find", desc := "([BI)LCoinNode$Tx;" } : Jvm.MethodName) prog_8_method_3_code (4 : Nat) (Option.some (Jvm.ClassFile.FieldType.object "CoinNode$Tx"))) ∈ jws := jws_3 (List.mem_of_getElem? (i := 200) rfl) rfl
theorem jw_681 : (Jvm.Cond.methodLink "CoinNode$Pool" (49 : Nat) ({ cls := "CoinNode$Hash", name := "same", desc := "([BI[BI)Z" } : Jvm.MethodName)) ∈ jws := jws_3 (List.mem_of_getElem? (i := 201) rfl) rfl
theorem jw_682 : (Jvm.Cond.methodLink "CoinNode$Pool" (112 : Nat) ({ cls := "CoinNode$Tx", name := "sharesKeyWith", desc := "(LCoinNode$Tx;)Z" } : Jvm.MethodName)) ∈ jws := jws_3 (List.mem_of_getElem? (i := 202) rfl) rfl
theorem jw_683 : (Jvm.Cond.instanceMethod ({ cls := "CoinNode$Tx", name := "sharesKeyWith", desc := "(LCoinNode$Tx;)Z" } : Jvm.MethodName)) ∈ jws := jws_3 (List.mem_of_getElem? (i := 203) rfl) rfl
theorem jw_684 : (Jvm.Cond.selects "CoinNode$Tx" ({ cls := "CoinNode$Tx", name := "sharesKeyWith", desc := "(LCoinNode$Tx;)Z" } : Jvm.MethodName) ({ cls := "CoinNode$Tx", name := "sharesKeyWith", desc := "(LCoinNode$Tx;)Z" } : Jvm.MethodName)) ∈ jws := jws_3 (List.mem_of_getElem? (i := 204) rfl) rfl
theorem jw_685 : (Jvm.Cond.code ({ cls := "CoinNode$Tx", name := "sharesKeyWith", desc := "(LCoinNode$Tx;)Z" } : Jvm.MethodName) prog_12_method_16_code (4 : Nat) (Option.some Jvm.ClassFile.FieldType.boolean)) ∈ jws := jws_3 (List.mem_of_getElem? (i := 205) rfl) rfl
theorem jw_686 : (Jvm.Cond.methodLink "CoinNode$Pool" (67 : Nat) ({ cls := "CoinNode$Pool", name := "take", desc := "(LCoinNode$Tx;I)I" } : Jvm.MethodName)) ∈ jws := jws_3 (List.mem_of_getElem? (i := 206) rfl) rfl
theorem jw_688 : (Jvm.Cond.instanceMethod ({ cls := "CoinNode$Pool", name := "take", desc := "(LCoinNode$Tx;I)I" } : Jvm.MethodName)) ∈ jws := jws_3 (List.mem_of_getElem? (i := 208) rfl) rfl
theorem jw_689 : (Jvm.Cond.code ({ cls := "CoinNode$Pool", name := "take", desc := "(LCoinNode$Tx;I)I" } : Jvm.MethodName) prog_8_method_7_code (8 : Nat) (Option.some Jvm.ClassFile.FieldType.int)) ∈ jws := jws_3 (List.mem_of_getElem? (i := 209) rfl) rfl
theorem jw_690 : (Jvm.Cond.methodLink "CoinNode$Pool" (118 : Nat) ({ cls := "CoinNode$Tx", name := "index", desc := "(I)I" } : Jvm.MethodName)) ∈ jws := jws_3 (List.mem_of_getElem? (i := 210) rfl) rfl
theorem jw_691 : (Jvm.Cond.methodLink "CoinNode$Pool" (125 : Nat) ({ cls := "CoinNode$Coins", name := "find", desc := "([BII)I" } : Jvm.MethodName)) ∈ jws := jws_3 (List.mem_of_getElem? (i := 211) rfl) rfl
theorem jw_692 : (Jvm.Cond.instanceMethod ({ cls := "CoinNode$Coins", name := "find", desc := "([BII)I" } : Jvm.MethodName)) ∈ jws := jws_3 (List.mem_of_getElem? (i := 212) rfl) rfl
theorem jw_693 : (Jvm.Cond.selects "CoinNode$Coins" ({ cls := "CoinNode$Coins", name := "find", desc := "([BII)I" } : Jvm.MethodName) ({ cls := "CoinNode$Coins", name := "find", desc := "([BII)I" } : Jvm.MethodName)) ∈ jws := jws_3 (List.mem_of_getElem? (i := 213) rfl) rfl
theorem jw_694 : (Jvm.Cond.code ({ cls := "CoinNode$Coins", name := "find", desc := "([BII)I" } : Jvm.MethodName) prog_4_method_3_code (5 : Nat) (Option.some Jvm.ClassFile.FieldType.int)) ∈ jws := jws_3 (List.mem_of_getElem? (i := 214) rfl) rfl
theorem jw_695 : (Jvm.Cond.methodLink "CoinNode$Coins" (43 : Nat) ({ cls := "CoinNode$Hash", name := "same", desc := "([BI[BI)Z" } : Jvm.MethodName)) ∈ jws := jws_3 (List.mem_of_getElem? (i := 215) rfl) rfl
theorem jw_696 : (Jvm.Cond.methodLink "CoinNode$Pool" (130 : Nat) ({ cls := "CoinNode$Coins", name := "maker", desc := "(I)LCoinNode$Tx;" } : Jvm.MethodName)) ∈ jws := jws_3 (List.mem_of_getElem? (i := 216) rfl) rfl
theorem jw_697 : (Jvm.Cond.instanceMethod ({ cls := "CoinNode$Coins", name := "maker", desc := "(I)LCoinNode$Tx;" } : Jvm.MethodName)) ∈ jws := jws_3 (List.mem_of_getElem? (i := 217) rfl) rfl
theorem jw_698 : (Jvm.Cond.selects "CoinNode$Coins" ({ cls := "CoinNode$Coins", name := "maker", desc := "(I)LCoinNode$Tx;" } : Jvm.MethodName) ({ cls := "CoinNode$Coins", name := "maker", desc := "(I)LCoinNode$Tx;" } : Jvm.MethodName)) ∈ jws := jws_3 (List.mem_of_getElem? (i := 218) rfl) rfl
theorem jw_699 : (Jvm.Cond.code ({ cls := "CoinNode$Coins", name := "maker", desc := "(I)LCoinNode$Tx;" } : Jvm.MethodName) prog_4_method_4_code (2 : Nat) (Option.some (Jvm.ClassFile.FieldType.object "CoinNode$Tx"))) ∈ jws := jws_3 (List.mem_of_getElem? (i := 219) rfl) rfl
theorem jw_700 : (Jvm.Cond.methodLink "CoinNode$Pool" (137 : Nat) ({ cls := "CoinNode$Coins", name := "isUnripe", desc := "(II)Z" } : Jvm.MethodName)) ∈ jws := jws_3 (List.mem_of_getElem? (i := 220) rfl) rfl
theorem jw_701 : (Jvm.Cond.instanceMethod ({ cls := "CoinNode$Coins", name := "isUnripe", desc := "(II)Z" } : Jvm.MethodName)) ∈ jws := jws_3 (List.mem_of_getElem? (i := 221) rfl) rfl
theorem jw_702 : (Jvm.Cond.selects "CoinNode$Coins" ({ cls := "CoinNode$Coins", name := "isUnripe", desc := "(II)Z" } : Jvm.MethodName) ({ cls := "CoinNode$Coins", name := "isUnripe", desc := "(II)Z" } : Jvm.MethodName)) ∈ jws := jws_3 (List.mem_of_getElem? (i := 222) rfl) rfl
theorem jw_703 : (Jvm.Cond.code ({ cls := "CoinNode$Coins", name := "isUnripe", desc := "(II)Z" } : Jvm.MethodName) prog_4_method_6_code (3 : Nat) (Option.some Jvm.ClassFile.FieldType.boolean)) ∈ jws := jws_3 (List.mem_of_getElem? (i := 223) rfl) rfl
theorem jw_704 : (Jvm.Cond.methodLink "CoinNode$Pool" (141 : Nat) ({ cls := "CoinNode$Tx", name := "worth", desc := "(I)J" } : Jvm.MethodName)) ∈ jws := jws_3 (List.mem_of_getElem? (i := 224) rfl) rfl
theorem jw_705 : (Jvm.Cond.methodLink "CoinNode$Pool" (71 : Nat) ({ cls := "CoinNode$Scripts", name := "begin", desc := "(I)V" } : Jvm.MethodName)) ∈ jws := jws_3 (List.mem_of_getElem? (i := 225) rfl) rfl
theorem jw_706 : (Jvm.Cond.instanceMethod ({ cls := "CoinNode$Scripts", name := "begin", desc := "(I)V" } : Jvm.MethodName)) ∈ jws := jws_3 (List.mem_of_getElem? (i := 226) rfl) rfl
theorem jw_707 : (Jvm.Cond.selects "CoinNode$Scripts" ({ cls := "CoinNode$Scripts", name := "begin", desc := "(I)V" } : Jvm.MethodName) ({ cls := "CoinNode$Scripts", name := "begin", desc := "(I)V" } : Jvm.MethodName)) ∈ jws := jws_3 (List.mem_of_getElem? (i := 227) rfl) rfl
theorem jw_708 : (Jvm.Cond.code ({ cls := "CoinNode$Scripts", name := "begin", desc := "(I)V" } : Jvm.MethodName) prog_9_method_2_code (2 : Nat) (Option.none : Option Jvm.ClassFile.FieldType)) ∈ jws := jws_3 (List.mem_of_getElem? (i := 228) rfl) rfl
theorem jw_709 : (Jvm.Cond.methodLink "CoinNode$Pool" (77 : Nat) ({ cls := "CoinNode$Scripts", name := "pass", desc := "(LCoinNode$Tx;[LCoinNode$Tx;[I)Z" } : Jvm.MethodName)) ∈ jws := jws_3 (List.mem_of_getElem? (i := 229) rfl) rfl
theorem jw_710 : (Jvm.Cond.instanceMethod ({ cls := "CoinNode$Scripts", name := "pass", desc := "(LCoinNode$Tx;[LCoinNode$Tx;[I)Z" } : Jvm.MethodName)) ∈ jws := jws_3 (List.mem_of_getElem? (i := 230) rfl) rfl
theorem jw_711 : (Jvm.Cond.selects "CoinNode$Scripts" ({ cls := "CoinNode$Scripts", name := "pass", desc := "(LCoinNode$Tx;[LCoinNode$Tx;[I)Z" } : Jvm.MethodName) ({ cls := "CoinNode$Scripts", name := "pass", desc := "(LCoinNode$Tx;[LCoinNode$Tx;[I)Z" } : Jvm.MethodName)) ∈ jws := jws_3 (List.mem_of_getElem? (i := 231) rfl) rfl
theorem jw_712 : (Jvm.Cond.code ({ cls := "CoinNode$Scripts", name := "pass", desc := "(LCoinNode$Tx;[LCoinNode$Tx;[I)Z" } : Jvm.MethodName) prog_9_method_3_code (9 : Nat) (Option.some Jvm.ClassFile.FieldType.boolean)) ∈ jws := jws_3 (List.mem_of_getElem? (i := 232) rfl) rfl
theorem jw_713 : (Jvm.Cond.methodLink "CoinNode$Scripts" (51 : Nat) ({ cls := "CoinNode$Tx", name := "outputScript", desc := "(I)I" } : Jvm.MethodName)) ∈ jws := jws_3 (List.mem_of_getElem? (i := 233) rfl) rfl
theorem jw_714 : (Jvm.Cond.instanceMethod ({ cls := "CoinNode$Tx", name := "outputScript", desc := "(I)I" } : Jvm.MethodName)) ∈ jws := jws_3 (List.mem_of_getElem? (i := 234) rfl) rfl
theorem jw_715 : (Jvm.Cond.selects "CoinNode$Tx" ({ cls := "CoinNode$Tx", name := "outputScript", desc := "(I)I" } : Jvm.MethodName) ({ cls := "CoinNode$Tx", name := "outputScript", desc := "(I)I" } : Jvm.MethodName)) ∈ jws := jws_3 (List.mem_of_getElem? (i := 235) rfl) rfl
theorem jw_716 : (Jvm.Cond.code ({ cls := "CoinNode$Tx", name := "outputScript", desc := "(I)I" } : Jvm.MethodName) prog_12_method_10_code (2 : Nat) (Option.some Jvm.ClassFile.FieldType.int)) ∈ jws := jws_3 (List.mem_of_getElem? (i := 236) rfl) rfl
theorem jw_717 : (Jvm.Cond.methodLink "CoinNode$Scripts" (55 : Nat) ({ cls := "CoinNode$Machine", name := "clear", desc := "()V" } : Jvm.MethodName)) ∈ jws := jws_3 (List.mem_of_getElem? (i := 237) rfl) rfl
theorem jw_718 : (Jvm.Cond.instanceMethod ({ cls := "CoinNode$Machine", name := "clear", desc := "()V" } : Jvm.MethodName)) ∈ jws := jws_3 (List.mem_of_getElem? (i := 238) rfl) rfl
theorem jw_719 : (Jvm.Cond.selects "CoinNode$Machine" ({ cls := "CoinNode$Machine", name := "clear", desc := "()V" } : Jvm.MethodName) ({ cls := "CoinNode$Machine", name := "clear", desc := "()V" } : Jvm.MethodName)) ∈ jws := jws_3 (List.mem_of_getElem? (i := 239) rfl) rfl
theorem jw_720 : (Jvm.Cond.code ({ cls := "CoinNode$Machine", name := "clear", desc := "()V" } : Jvm.MethodName) prog_6_method_2_code (1 : Nat) (Option.none : Option Jvm.ClassFile.FieldType)) ∈ jws := jws_4 (List.mem_of_getElem? (i := 0) rfl) rfl
theorem jw_721 : (Jvm.Cond.methodLink "CoinNode$Scripts" (61 : Nat) ({ cls := "CoinNode$Tx", name := "inputScript", desc := "(I)I" } : Jvm.MethodName)) ∈ jws := jws_4 (List.mem_of_getElem? (i := 1) rfl) rfl
theorem jw_722 : (Jvm.Cond.instanceMethod ({ cls := "CoinNode$Tx", name := "inputScript", desc := "(I)I" } : Jvm.MethodName)) ∈ jws := jws_4 (List.mem_of_getElem? (i := 2) rfl) rfl
theorem jw_723 : (Jvm.Cond.selects "CoinNode$Tx" ({ cls := "CoinNode$Tx", name := "inputScript", desc := "(I)I" } : Jvm.MethodName) ({ cls := "CoinNode$Tx", name := "inputScript", desc := "(I)I" } : Jvm.MethodName)) ∈ jws := jws_4 (List.mem_of_getElem? (i := 3) rfl) rfl
theorem jw_724 : (Jvm.Cond.code ({ cls := "CoinNode$Tx", name := "inputScript", desc := "(I)I" } : Jvm.MethodName) prog_12_method_9_code (2 : Nat) (Option.some Jvm.ClassFile.FieldType.int)) ∈ jws := jws_4 (List.mem_of_getElem? (i := 4) rfl) rfl
theorem jw_725 : (Jvm.Cond.methodLink "CoinNode$Scripts" (64 : Nat) ({ cls := "CoinNode$Tx", name := "scriptSize", desc := "(I)I" } : Jvm.MethodName)) ∈ jws := jws_4 (List.mem_of_getElem? (i := 5) rfl) rfl
theorem jw_726 : (Jvm.Cond.instanceMethod ({ cls := "CoinNode$Tx", name := "scriptSize", desc := "(I)I" } : Jvm.MethodName)) ∈ jws := jws_4 (List.mem_of_getElem? (i := 6) rfl) rfl
theorem jw_727 : (Jvm.Cond.selects "CoinNode$Tx" ({ cls := "CoinNode$Tx", name := "scriptSize", desc := "(I)I" } : Jvm.MethodName) ({ cls := "CoinNode$Tx", name := "scriptSize", desc := "(I)I" } : Jvm.MethodName)) ∈ jws := jws_4 (List.mem_of_getElem? (i := 7) rfl) rfl
theorem jw_728 : (Jvm.Cond.code ({ cls := "CoinNode$Tx", name := "scriptSize", desc := "(I)I" } : Jvm.MethodName) prog_12_method_11_code (2 : Nat) (Option.some Jvm.ClassFile.FieldType.int)) ∈ jws := jws_4 (List.mem_of_getElem? (i := 8) rfl) rfl
theorem jw_729 : (Jvm.Cond.methodLink "CoinNode$Scripts" (67 : Nat) ({ cls := "CoinNode$Machine", name := "open", desc := "([BII)V" } : Jvm.MethodName)) ∈ jws := jws_4 (List.mem_of_getElem? (i := 9) rfl) rfl
theorem jw_730 : (Jvm.Cond.instanceMethod ({ cls := "CoinNode$Machine", name := "open", desc := "([BII)V" } : Jvm.MethodName)) ∈ jws := jws_4 (List.mem_of_getElem? (i := 10) rfl) rfl
theorem jw_731 : (Jvm.Cond.selects "CoinNode$Machine" ({ cls := "CoinNode$Machine", name := "open", desc := "([BII)V" } : Jvm.MethodName) ({ cls := "CoinNode$Machine", name := "open", desc := "([BII)V" } : Jvm.MethodName)) ∈ jws := jws_4 (List.mem_of_getElem? (i := 11) rfl) rfl
theorem jw_732 : (Jvm.Cond.code ({ cls := "CoinNode$Machine", name := "open", desc := "([BII)V" } : Jvm.MethodName) prog_6_method_4_code (4 : Nat) (Option.none : Option Jvm.ClassFile.FieldType)) ∈ jws := jws_4 (List.mem_of_getElem? (i := 12) rfl) rfl
theorem jw_733 : (Jvm.Cond.methodLink "CoinNode$Scripts" (71 : Nat) ({ cls := "CoinNode$Machine", name := "run", desc := "()I" } : Jvm.MethodName)) ∈ jws := jws_4 (List.mem_of_getElem? (i := 13) rfl) rfl
theorem jw_734 : (Jvm.Cond.instanceMethod ({ cls := "CoinNode$Machine", name := "run", desc := "()I" } : Jvm.MethodName)) ∈ jws := jws_4 (List.mem_of_getElem? (i := 14) rfl) rfl
theorem jw_735 : (Jvm.Cond.selects "CoinNode$Machine" ({ cls := "CoinNode$Machine", name := "run", desc := "()I" } : Jvm.MethodName) ({ cls := "CoinNode$Machine", name := "run", desc := "()I" } : Jvm.MethodName)) ∈ jws := jws_4 (List.mem_of_getElem? (i := 15) rfl) rfl
theorem jw_736 : (Jvm.Cond.code ({ cls := "CoinNode$Machine", name := "run", desc := "()I" } : Jvm.MethodName) prog_6_method_6_code (3 : Nat) (Option.some Jvm.ClassFile.FieldType.int)) ∈ jws := jws_4 (List.mem_of_getElem? (i := 16) rfl) rfl
theorem jw_737 : (Jvm.Cond.methodLink "CoinNode$Machine" (75 : Nat) ({ cls := "CoinNode$Machine", name := "push", desc := "(I)V" } : Jvm.MethodName)) ∈ jws := jws_4 (List.mem_of_getElem? (i := 17) rfl) rfl
theorem jw_739 : (Jvm.Cond.instanceMethod ({ cls := "CoinNode$Machine", name := "push", desc := "(I)V" } : Jvm.MethodName)) ∈ jws := jws_4 (List.mem_of_getElem? (i := 19) rfl) rfl
theorem jw_740 : (Jvm.Cond.code ({ cls := "CoinNode$Machine", name := "push", desc := "(I)V" } : Jvm.MethodName) prog_6_method_8_code (4 : Nat) (Option.none : Option Jvm.ClassFile.FieldType)) ∈ jws := jws_4 (List.mem_of_getElem? (i := 20) rfl) rfl
theorem jw_741 : (Jvm.Cond.methodLink "CoinNode$Machine" (113 : Nat) ({ cls := "CoinNode$Stack", name := "put", desc := "([BII)V" } : Jvm.MethodName)) ∈ jws := jws_4 (List.mem_of_getElem? (i := 21) rfl) rfl
theorem jw_742 : (Jvm.Cond.instanceMethod ({ cls := "CoinNode$Stack", name := "put", desc := "([BII)V" } : Jvm.MethodName)) ∈ jws := jws_4 (List.mem_of_getElem? (i := 22) rfl) rfl
theorem jw_743 : (Jvm.Cond.selects "CoinNode$Stack" ({ cls := "CoinNode$Stack", name := "put", desc := "([BII)V" } : Jvm.MethodName) ({ cls := "CoinNode$Stack", name := "put", desc := "([BII)V" } : Jvm.MethodName)) ∈ jws := jws_4 (List.mem_of_getElem? (i := 23) rfl) rfl
theorem jw_744 : (Jvm.Cond.code ({ cls := "CoinNode$Stack", name := "put", desc := "([BII)V" } : Jvm.MethodName) prog_11_method_2_code (4 : Nat) (Option.none : Option Jvm.ClassFile.FieldType)) ∈ jws := jws_4 (List.mem_of_getElem? (i := 24) rfl) rfl
theorem jw_745 : (Jvm.Cond.methodLink "CoinNode$Stack" (22 : Nat) ({ cls := "java/lang/System", name := "arraycopy", desc := "(Ljava/lang/Object;ILjava/lang/Object;II)V" } : Jvm.MethodName)) ∈ jws := jws_4 (List.mem_of_getElem? (i := 25) rfl) rfl
theorem jw_746 : (Jvm.Cond.methodLink "CoinNode$Machine" (79 : Nat) ({ cls := "CoinNode$Machine", name := "part", desc := "(I)V" } : Jvm.MethodName)) ∈ jws := jws_4 (List.mem_of_getElem? (i := 26) rfl) rfl
theorem jw_748 : (Jvm.Cond.instanceMethod ({ cls := "CoinNode$Machine", name := "part", desc := "(I)V" } : Jvm.MethodName)) ∈ jws := jws_4 (List.mem_of_getElem? (i := 28) rfl) rfl
theorem jw_749 : (Jvm.Cond.code ({ cls := "CoinNode$Machine", name := "part", desc := "(I)V" } : Jvm.MethodName) prog_6_method_9_code (3 : Nat) (Option.none : Option Jvm.ClassFile.FieldType)) ∈ jws := jws_4 (List.mem_of_getElem? (i := 29) rfl) rfl
theorem jw_750 : (Jvm.Cond.methodLink "CoinNode$Machine" (116 : Nat) ({ cls := "CoinNode$Machine", name := "has", desc := "(I)Z" } : Jvm.MethodName)) ∈ jws := jws_4 (List.mem_of_getElem? (i := 30) rfl) rfl
theorem jw_752 : (Jvm.Cond.instanceMethod ({ cls := "CoinNode$Machine", name := "has", desc := "(I)Z" } : Jvm.MethodName)) ∈ jws := jws_4 (List.mem_of_getElem? (i := 32) rfl) rfl
theorem jw_753 : (Jvm.Cond.code ({ cls := "CoinNode$Machine", name := "has", desc := "(I)Z" } : Jvm.MethodName) prog_6_method_7_code (2 : Nat) (Option.some Jvm.ClassFile.FieldType.boolean)) ∈ jws := jws_4 (List.mem_of_getElem? (i := 33) rfl) rfl
theorem jw_754 : (Jvm.Cond.methodLink "CoinNode$Machine" (71 : Nat) ({ cls := "CoinNode$Stack", name := "isTrue", desc := "(I)Z" } : Jvm.MethodName)) ∈ jws := jws_4 (List.mem_of_getElem? (i := 34) rfl) rfl
theorem jw_755 : (Jvm.Cond.instanceMethod ({ cls := "CoinNode$Stack", name := "isTrue", desc := "(I)Z" } : Jvm.MethodName)) ∈ jws := jws_4 (List.mem_of_getElem? (i := 35) rfl) rfl
theorem jw_756 : (Jvm.Cond.selects "CoinNode$Stack" ({ cls := "CoinNode$Stack", name := "isTrue", desc := "(I)Z" } : Jvm.MethodName) ({ cls := "CoinNode$Stack", name := "isTrue", desc := "(I)Z" } : Jvm.MethodName)) ∈ jws := jws_4 (List.mem_of_getElem? (i := 36) rfl) rfl
theorem jw_757 : (Jvm.Cond.code ({ cls := "CoinNode$Stack", name := "isTrue", desc := "(I)Z" } : Jvm.MethodName) prog_11_method_7_code (5 : Nat) (Option.some Jvm.ClassFile.FieldType.boolean)) ∈ jws := jws_4 (List.mem_of_getElem? (i := 37) rfl) rfl
theorem jw_758 : (Jvm.Cond.methodLink "CoinNode$Machine" (119 : Nat) ({ cls := "CoinNode$Stack", name := "drop", desc := "(I)V" } : Jvm.MethodName)) ∈ jws := jws_4 (List.mem_of_getElem? (i := 38) rfl) rfl
theorem jw_759 : (Jvm.Cond.instanceMethod ({ cls := "CoinNode$Stack", name := "drop", desc := "(I)V" } : Jvm.MethodName)) ∈ jws := jws_4 (List.mem_of_getElem? (i := 39) rfl) rfl
theorem jw_760 : (Jvm.Cond.selects "CoinNode$Stack" ({ cls := "CoinNode$Stack", name := "drop", desc := "(I)V" } : Jvm.MethodName) ({ cls := "CoinNode$Stack", name := "drop", desc := "(I)V" } : Jvm.MethodName)) ∈ jws := jws_4 (List.mem_of_getElem? (i := 40) rfl) rfl
theorem jw_761 : (Jvm.Cond.code ({ cls := "CoinNode$Stack", name := "drop", desc := "(I)V" } : Jvm.MethodName) prog_11_method_9_code (2 : Nat) (Option.none : Option Jvm.ClassFile.FieldType)) ∈ jws := jws_4 (List.mem_of_getElem? (i := 41) rfl) rfl
theorem jw_762 : (Jvm.Cond.methodLink "CoinNode$Stack" (34 : Nat) ({ cls := "java/lang/Math", name := "max", desc := "(II)I" } : Jvm.MethodName)) ∈ jws := jws_4 (List.mem_of_getElem? (i := 42) rfl) rfl
theorem jw_763 : (Jvm.Cond.static ({ cls := "java/lang/Math", name := "max", desc := "(II)I" } : Jvm.MethodName)) ∈ jws := jws_4 (List.mem_of_getElem? (i := 43) rfl) rfl
theorem jw_764 : (Jvm.Cond.code ({ cls := "java/lang/Math", name := "max", desc := "(II)I" } : Jvm.MethodName) prog_23_method_65_code (2 : Nat) (Option.some Jvm.ClassFile.FieldType.int)) ∈ jws := jws_4 (List.mem_of_getElem? (i := 44) rfl) rfl
theorem jw_765 : (Jvm.Cond.methodLink "CoinNode$Machine" (82 : Nat) ({ cls := "CoinNode$Machine", name := "small", desc := "(I)V" } : Jvm.MethodName)) ∈ jws := jws_4 (List.mem_of_getElem? (i := 45) rfl) rfl
theorem jw_767 : (Jvm.Cond.instanceMethod ({ cls := "CoinNode$Machine", name := "small", desc := "(I)V" } : Jvm.MethodName)) ∈ jws := jws_4 (List.mem_of_getElem? (i := 47) rfl) rfl
theorem jw_768 : (Jvm.Cond.code ({ cls := "CoinNode$Machine", name := "small", desc := "(I)V" } : Jvm.MethodName) prog_6_method_10_code (2 : Nat) (Option.none : Option Jvm.ClassFile.FieldType)) ∈ jws := jws_4 (List.mem_of_getElem? (i := 48) rfl) rfl
theorem jw_769 : (Jvm.Cond.constantLong "CoinNode$Machine" (122 : Nat) (-1 : Int64)) ∈ jws := jws_4 (List.mem_of_getElem? (i := 49) rfl) rfl
theorem jw_770 : (Jvm.Cond.methodLink "CoinNode$Machine" (124 : Nat) ({ cls := "CoinNode$Stack", name := "putNumber", desc := "(J)V" } : Jvm.MethodName)) ∈ jws := jws_4 (List.mem_of_getElem? (i := 50) rfl) rfl
theorem jw_771 : (Jvm.Cond.instanceMethod ({ cls := "CoinNode$Stack", name := "putNumber", desc := "(J)V" } : Jvm.MethodName)) ∈ jws := jws_4 (List.mem_of_getElem? (i := 51) rfl) rfl
theorem jw_772 : (Jvm.Cond.selects "CoinNode$Stack" ({ cls := "CoinNode$Stack", name := "putNumber", desc := "(J)V" } : Jvm.MethodName) ({ cls := "CoinNode$Stack", name := "putNumber", desc := "(J)V" } : Jvm.MethodName)) ∈ jws := jws_4 (List.mem_of_getElem? (i := 52) rfl) rfl
theorem jw_773 : (Jvm.Cond.code ({ cls := "CoinNode$Stack", name := "putNumber", desc := "(J)V" } : Jvm.MethodName) prog_11_method_4_code (8 : Nat) (Option.none : Option Jvm.ClassFile.FieldType)) ∈ jws := jws_4 (List.mem_of_getElem? (i := 53) rfl) rfl
theorem jw_774 : (Jvm.Cond.methodLink "CoinNode$Stack" (28 : Nat) ({ cls := "java/lang/Math", name := "abs", desc := "(J)J" } : Jvm.MethodName)) ∈ jws := jws_4 (List.mem_of_getElem? (i := 54) rfl) rfl
theorem jw_775 : (Jvm.Cond.static ({ cls := "java/lang/Math", name := "abs", desc := "(J)J" } : Jvm.MethodName)) ∈ jws := jws_4 (List.mem_of_getElem? (i := 55) rfl) rfl
theorem jw_776 : (Jvm.Cond.code ({ cls := "java/lang/Math", name := "abs", desc := "(J)J" } : Jvm.MethodName) prog_23_method_61_code (2 : Nat) (Option.some Jvm.ClassFile.FieldType.long)) ∈ jws := jws_4 (List.mem_of_getElem? (i := 56) rfl) rfl
theorem jw_777 : (Jvm.Cond.methodLink "CoinNode$Machine" (85 : Nat) ({ cls := "CoinNode$Machine", name := "pass", desc := "(I)V" } : Jvm.MethodName)) ∈ jws := jws_4 (List.mem_of_getElem? (i := 57) rfl) rfl
theorem jw_779 : (Jvm.Cond.instanceMethod ({ cls := "CoinNode$Machine", name := "pass", desc := "(I)V" } : Jvm.MethodName)) ∈ jws := jws_4 (List.mem_of_getElem? (i := 59) rfl) rfl
theorem jw_780 : (Jvm.Cond.code ({ cls := "CoinNode$Machine", name := "pass", desc := "(I)V" } : Jvm.MethodName) prog_6_method_11_code (2 : Nat) (Option.none : Option Jvm.ClassFile.FieldType)) ∈ jws := jws_4 (List.mem_of_getElem? (i := 60) rfl) rfl
theorem jw_781 : (Jvm.Cond.methodLink "CoinNode$Machine" (128 : Nat) ({ cls := "CoinNode$Stack", name := "putCopy", desc := "(LCoinNode$Stack;I)V" } : Jvm.MethodName)) ∈ jws := jws_4 (List.mem_of_getElem? (i := 61) rfl) rfl
theorem jw_782 : (Jvm.Cond.instanceMethod ({ cls := "CoinNode$Stack", name := "putCopy", desc := "(LCoinNode$Stack;I)V" } : Jvm.MethodName)) ∈ jws := jws_4 (List.mem_of_getElem? (i := 62) rfl) rfl
theorem jw_783 : (Jvm.Cond.selects "CoinNode$Stack" ({ cls := "CoinNode$Stack", name := "putCopy", desc := "(LCoinNode$Stack;I)V" } : Jvm.MethodName) ({ cls := "CoinNode$Stack", name := "putCopy", desc := "(LCoinNode$Stack;I)V" } : Jvm.MethodName)) ∈ jws := jws_4 (List.mem_of_getElem? (i := 63) rfl) rfl
theorem jw_784 : (Jvm.Cond.code ({ cls := "CoinNode$Stack", name := "putCopy", desc := "(LCoinNode$Stack;I)V" } : Jvm.MethodName) prog_11_method_3_code (3 : Nat) (Option.none : Option Jvm.ClassFile.FieldType)) ∈ jws := jws_4 (List.mem_of_getElem? (i := 64) rfl) rfl
theorem jw_785 : (Jvm.Cond.methodLink "CoinNode$Machine" (88 : Nat) ({ cls := "CoinNode$Machine", name := "arrange", desc := "(I)V" } : Jvm.MethodName)) ∈ jws := jws_4 (List.mem_of_getElem? (i := 65) rfl) rfl
theorem jw_787 : (Jvm.Cond.instanceMethod ({ cls := "CoinNode$Machine", name := "arrange", desc := "(I)V" } : Jvm.MethodName)) ∈ jws := jws_4 (List.mem_of_getElem? (i := 67) rfl) rfl
theorem jw_788 : (Jvm.Cond.code ({ cls := "CoinNode$Machine", name := "arrange", desc := "(I)V" } : Jvm.MethodName) prog_6_method_12_code (4 : Nat) (Option.none : Option Jvm.ClassFile.FieldType)) ∈ jws := jws_4 (List.mem_of_getElem? (i := 68) rfl) rfl
theorem jw_789 : (Jvm.Cond.methodLink "CoinNode$Machine" (132 : Nat) ({ cls := "CoinNode$Stack", name := "isNumber", desc := "(I)Z" } : Jvm.MethodName)) ∈ jws := jws_4 (List.mem_of_getElem? (i := 69) rfl) rfl
theorem jw_790 : (Jvm.Cond.instanceMethod ({ cls := "CoinNode$Stack", name := "isNumber", desc := "(I)Z" } : Jvm.MethodName)) ∈ jws := jws_4 (List.mem_of_getElem? (i := 70) rfl) rfl
theorem jw_791 : (Jvm.Cond.selects "CoinNode$Stack" ({ cls := "CoinNode$Stack", name := "isNumber", desc := "(I)Z" } : Jvm.MethodName) ({ cls := "CoinNode$Stack", name := "isNumber", desc := "(I)Z" } : Jvm.MethodName)) ∈ jws := jws_4 (List.mem_of_getElem? (i := 71) rfl) rfl
theorem jw_792 : (Jvm.Cond.code ({ cls := "CoinNode$Stack", name := "isNumber", desc := "(I)Z" } : Jvm.MethodName) prog_11_method_5_code (2 : Nat) (Option.some Jvm.ClassFile.FieldType.boolean)) ∈ jws := jws_4 (List.mem_of_getElem? (i := 72) rfl) rfl
theorem jw_793 : (Jvm.Cond.methodLink "CoinNode$Machine" (135 : Nat) ({ cls := "CoinNode$Stack", name := "number", desc := "(I)J" } : Jvm.MethodName)) ∈ jws := jws_4 (List.mem_of_getElem? (i := 73) rfl) rfl
theorem jw_794 : (Jvm.Cond.instanceMethod ({ cls := "CoinNode$Stack", name := "number", desc := "(I)J" } : Jvm.MethodName)) ∈ jws := jws_4 (List.mem_of_getElem? (i := 74) rfl) rfl
theorem jw_795 : (Jvm.Cond.selects "CoinNode$Stack" ({ cls := "CoinNode$Stack", name := "number", desc := "(I)J" } : Jvm.MethodName) ({ cls := "CoinNode$Stack", name := "number", desc := "(I)J" } : Jvm.MethodName)) ∈ jws := jws_4 (List.mem_of_getElem? (i := 75) rfl) rfl
theorem jw_796 : (Jvm.Cond.code ({ cls := "CoinNode$Stack", name := "number", desc := "(I)J" } : Jvm.MethodName) prog_11_method_6_code (8 : Nat) (Option.some Jvm.ClassFile.FieldType.long)) ∈ jws := jws_4 (List.mem_of_getElem? (i := 76) rfl) rfl
theorem jw_797 : (Jvm.Cond.methodLink "CoinNode$Machine" (139 : Nat) ({ cls := "CoinNode$Stack", name := "lift", desc := "(I)V" } : Jvm.MethodName)) ∈ jws := jws_4 (List.mem_of_getElem? (i := 77) rfl) rfl
theorem jw_798 : (Jvm.Cond.instanceMethod ({ cls := "CoinNode$Stack", name := "lift", desc := "(I)V" } : Jvm.MethodName)) ∈ jws := jws_4 (List.mem_of_getElem? (i := 78) rfl) rfl
theorem jw_799 : (Jvm.Cond.selects "CoinNode$Stack" ({ cls := "CoinNode$Stack", name := "lift", desc := "(I)V" } : Jvm.MethodName) ({ cls := "CoinNode$Stack", name := "lift", desc := "(I)V" } : Jvm.MethodName)) ∈ jws := jws_4 (List.mem_of_getElem? (i := 79) rfl) rfl
theorem jw_800 : (Jvm.Cond.code ({ cls := "CoinNode$Stack", name := "lift", desc := "(I)V" } : Jvm.MethodName) prog_11_method_10_code (5 : Nat) (Option.none : Option Jvm.ClassFile.FieldType)) ∈ jws := jws_4 (List.mem_of_getElem? (i := 80) rfl) rfl
theorem jw_801 : (Jvm.Cond.methodLink "CoinNode$Machine" (91 : Nat) ({ cls := "CoinNode$Machine", name := "move", desc := "(I)V" } : Jvm.MethodName)) ∈ jws := jws_4 (List.mem_of_getElem? (i := 81) rfl) rfl
theorem jw_803 : (Jvm.Cond.instanceMethod ({ cls := "CoinNode$Machine", name := "move", desc := "(I)V" } : Jvm.MethodName)) ∈ jws := jws_4 (List.mem_of_getElem? (i := 83) rfl) rfl
theorem jw_804 : (Jvm.Cond.code ({ cls := "CoinNode$Machine", name := "move", desc := "(I)V" } : Jvm.MethodName) prog_6_method_13_code (6 : Nat) (Option.none : Option Jvm.ClassFile.FieldType)) ∈ jws := jws_4 (List.mem_of_getElem? (i := 84) rfl) rfl
theorem jw_805 : (Jvm.Cond.fieldLink "CoinNode$Machine" (146 : Nat) "CoinNode$Machine" "MOVES" "[I") ∈ jws := jws_4 (List.mem_of_getElem? (i := 85) rfl) rfl
theorem jw_807 : (Jvm.Cond.methodLink "CoinNode$Machine" (94 : Nat) ({ cls := "CoinNode$Machine", name := "compare", desc := "(I)V" } : Jvm.MethodName)) ∈ jws := jws_4 (List.mem_of_getElem? (i := 87) rfl) rfl
theorem jw_809 : (Jvm.Cond.instanceMethod ({ cls := "CoinNode$Machine", name := "compare", desc := "(I)V" } : Jvm.MethodName)) ∈ jws := jws_4 (List.mem_of_getElem? (i := 89) rfl) rfl
theorem jw_810 : (Jvm.Cond.code ({ cls := "CoinNode$Machine", name := "compare", desc := "(I)V" } : Jvm.MethodName) prog_6_method_14_code (3 : Nat) (Option.none : Option Jvm.ClassFile.FieldType)) ∈ jws := jws_4 (List.mem_of_getElem? (i := 90) rfl) rfl
theorem jw_811 : (Jvm.Cond.methodLink "CoinNode$Machine" (149 : Nat) ({ cls := "CoinNode$Stack", name := "isTopTwice", desc := "()Z" } : Jvm.MethodName)) ∈ jws := jws_4 (List.mem_of_getElem? (i := 91) rfl) rfl
theorem jw_812 : (Jvm.Cond.instanceMethod ({ cls := "CoinNode$Stack", name := "isTopTwice", desc := "()Z" } : Jvm.MethodName)) ∈ jws := jws_4 (List.mem_of_getElem? (i := 92) rfl) rfl
theorem jw_813 : (Jvm.Cond.selects "CoinNode$Stack" ({ cls := "CoinNode$Stack", name := "isTopTwice", desc := "()Z" } : Jvm.MethodName) ({ cls := "CoinNode$Stack", name := "isTopTwice", desc := "()Z" } : Jvm.MethodName)) ∈ jws := jws_4 (List.mem_of_getElem? (i := 93) rfl) rfl
theorem jw_814 : (Jvm.Cond.code ({ cls := "CoinNode$Stack", name := "isTopTwice", desc := "()Z" } : Jvm.MethodName) prog_11_method_8_code (2 : Nat) (Option.some Jvm.ClassFile.FieldType.boolean)) ∈ jws := jws_4 (List.mem_of_getElem? (i := 94) rfl) rfl
theorem jw_815 : (Jvm.Cond.methodLink "CoinNode$Machine" (97 : Nat) ({ cls := "CoinNode$Machine", name := "calculate", desc := "(I)V" } : Jvm.MethodName)) ∈ jws := jws_4 (List.mem_of_getElem? (i := 95) rfl) rfl
theorem jw_817 : (Jvm.Cond.instanceMethod ({ cls := "CoinNode$Machine", name := "calculate", desc := "(I)V" } : Jvm.MethodName)) ∈ jws := jws_4 (List.mem_of_getElem? (i := 97) rfl) rfl
theorem jw_818 : (Jvm.Cond.code ({ cls := "CoinNode$Machine", name := "calculate", desc := "(I)V" } : Jvm.MethodName) prog_6_method_15_code (9 : Nat) (Option.none : Option Jvm.ClassFile.FieldType)) ∈ jws := jws_4 (List.mem_of_getElem? (i := 98) rfl) rfl
theorem jw_819 : (Jvm.Cond.methodLink "CoinNode$Machine" (153 : Nat) ({ cls := "CoinNode$Machine", name := "ofOne", desc := "(IJ)J" } : Jvm.MethodName)) ∈ jws := jws_4 (List.mem_of_getElem? (i := 99) rfl) rfl
theorem jw_820 : (Jvm.Cond.static ({ cls := "CoinNode$Machine", name := "ofOne", desc := "(IJ)J" } : Jvm.MethodName)) ∈ jws := jws_4 (List.mem_of_getElem? (i := 100) rfl) rfl
theorem jw_821 : (Jvm.Cond.code ({ cls := "CoinNode$Machine", name := "ofOne", desc := "(IJ)J" } : Jvm.MethodName) prog_6_method_16_code (3 : Nat) (Option.some Jvm.ClassFile.FieldType.long)) ∈ jws := jws_4 (List.mem_of_getElem? (i := 101) rfl) rfl
theorem jw_822 : (Jvm.Cond.methodLink "CoinNode$Machine" (161 : Nat) ({ cls := "java/lang/Math", name := "abs", desc := "(J)J" } : Jvm.MethodName)) ∈ jws := jws_4 (List.mem_of_getElem? (i := 102) rfl) rfl
theorem jw_823 : (Jvm.Cond.methodLink "CoinNode$Machine" (157 : Nat) ({ cls := "CoinNode$Machine", name := "ofTwo", desc := "(IJJ)J" } : Jvm.MethodName)) ∈ jws := jws_4 (List.mem_of_getElem? (i := 103) rfl) rfl
theorem jw_824 : (Jvm.Cond.static ({ cls := "CoinNode$Machine", name := "ofTwo", desc := "(IJJ)J" } : Jvm.MethodName)) ∈ jws := jws_4 (List.mem_of_getElem? (i := 104) rfl) rfl
theorem jw_825 : (Jvm.Cond.code ({ cls := "CoinNode$Machine", name := "ofTwo", desc := "(IJJ)J" } : Jvm.MethodName) prog_6_method_17_code (5 : Nat) (Option.some Jvm.ClassFile.FieldType.long)) ∈ jws := jws_4 (List.mem_of_getElem? (i := 105) rfl) rfl
theorem jw_826 : (Jvm.Cond.methodLink "CoinNode$Machine" (167 : Nat) ({ cls := "java/lang/Math", name := "min", desc := "(JJ)J" } : Jvm.MethodName)) ∈ jws := jws_4 (List.mem_of_getElem? (i := 106) rfl) rfl
theorem jw_827 : (Jvm.Cond.static ({ cls := "java/lang/Math", name := "min", desc := "(JJ)J" } : Jvm.MethodName)) ∈ jws := jws_4 (List.mem_of_getElem? (i := 107) rfl) rfl
theorem jw_828 : (Jvm.Cond.code ({ cls := "java/lang/Math", name := "min", desc := "(JJ)J" } : Jvm.MethodName) prog_23_method_70_code (4 : Nat) (Option.some Jvm.ClassFile.FieldType.long)) ∈ jws := jws_4 (List.mem_of_getElem? (i := 108) rfl) rfl
theorem jw_829 : (Jvm.Cond.methodLink "CoinNode$Machine" (171 : Nat) ({ cls := "java/lang/Math", name := "max", desc := "(JJ)J" } : Jvm.MethodName)) ∈ jws := jws_4 (List.mem_of_getElem? (i := 109) rfl) rfl
theorem jw_830 : (Jvm.Cond.static ({ cls := "java/lang/Math", name := "max", desc := "(JJ)J" } : Jvm.MethodName)) ∈ jws := jws_4 (List.mem_of_getElem? (i := 110) rfl) rfl
theorem jw_831 : (Jvm.Cond.code ({ cls := "java/lang/Math", name := "max", desc := "(JJ)J" } : Jvm.MethodName) prog_23_method_66_code (4 : Nat) (Option.some Jvm.ClassFile.FieldType.long)) ∈ jws := jws_4 (List.mem_of_getElem? (i := 111) rfl) rfl
theorem jw_832 : (Jvm.Cond.methodLink "CoinNode$Machine" (100 : Nat) ({ cls := "CoinNode$Machine", name := "digest", desc := "(I)V" } : Jvm.MethodName)) ∈ jws := jws_4 (List.mem_of_getElem? (i := 112) rfl) rfl
theorem jw_834 : (Jvm.Cond.instanceMethod ({ cls := "CoinNode$Machine", name := "digest", desc := "(I)V" } : Jvm.MethodName)) ∈ jws := jws_4 (List.mem_of_getElem? (i := 114) rfl) rfl
theorem jw_835 : (Jvm.Cond.code ({ cls := "CoinNode$Machine", name := "digest", desc := "(I)V" } : Jvm.MethodName) prog_6_method_18_code (3 : Nat) (Option.none : Option Jvm.ClassFile.FieldType)) ∈ jws := jws_4 (List.mem_of_getElem? (i := 115) rfl) rfl
theorem jw_836 : (Jvm.Cond.methodLink "CoinNode$Machine" (178 : Nat) ({ cls := "CoinNode$Hash", name := "take", desc := "([BII)V" } : Jvm.MethodName)) ∈ jws := jws_4 (List.mem_of_getElem? (i := 116) rfl) rfl
theorem jw_837 : (Jvm.Cond.methodLink "CoinNode$Machine" (183 : Nat) ({ cls := "CoinNode$Hash", name := "digest", desc := "([B)V" } : Jvm.MethodName)) ∈ jws := jws_4 (List.mem_of_getElem? (i := 117) rfl) rfl
theorem jw_838 : (Jvm.Cond.methodLink "CoinNode$Machine" (186 : Nat) ({ cls := "CoinNode$Hash", name := "ripe", desc := "([B)V" } : Jvm.MethodName)) ∈ jws := jws_4 (List.mem_of_getElem? (i := 118) rfl) rfl
theorem jw_839 : (Jvm.Cond.instanceMethod ({ cls := "CoinNode$Hash", name := "ripe", desc := "([B)V" } : Jvm.MethodName)) ∈ jws := jws_4 (List.mem_of_getElem? (i := 119) rfl) rfl
theorem jw_840 : (Jvm.Cond.selects "CoinNode$Hash" ({ cls := "CoinNode$Hash", name := "ripe", desc := "([B)V" } : Jvm.MethodName) ({ cls := "CoinNode$Hash", name := "ripe", desc := "([B)V" } : Jvm.MethodName)) ∈ jws := jws_4 (List.mem_of_getElem? (i := 120) rfl) rfl
theorem jw_841 : (Jvm.Cond.code ({ cls := "CoinNode$Hash", name := "ripe", desc := "([B)V" } : Jvm.MethodName) prog_5_method_4_code (15 : Nat) (Option.none : Option Jvm.ClassFile.FieldType)) ∈ jws := jws_4 (List.mem_of_getElem? (i := 121) rfl) rfl
theorem jw_842 : (Jvm.Cond.constant "CoinNode$Hash" (44 : Nat) (1732584193 : Int32)) ∈ jws := jws_4 (List.mem_of_getElem? (i := 122) rfl) rfl
theorem jw_843 : (Jvm.Cond.constant "CoinNode$Hash" (45 : Nat) (-271733879 : Int32)) ∈ jws := jws_4 (List.mem_of_getElem? (i := 123) rfl) rfl
theorem jw_844 : (Jvm.Cond.constant "CoinNode$Hash" (46 : Nat) (-1732584194 : Int32)) ∈ jws := jws_4 (List.mem_of_getElem? (i := 124) rfl) rfl
theorem jw_845 : (Jvm.Cond.constant "CoinNode$Hash" (47 : Nat) (271733878 : Int32)) ∈ jws := jws_4 (List.mem_of_getElem? (i := 125) rfl) rfl
theorem jw_846 : (Jvm.Cond.constant "CoinNode$Hash" (48 : Nat) (-1009589776 : Int32)) ∈ jws := jws_4 (List.mem_of_getElem? (i := 126) rfl) rfl
theorem jw_847 : (Jvm.Cond.fieldLink "CoinNode$Hash" (49 : Nat) "CoinNode$Hash" "WORD" "[I") ∈ jws := jws_4 (List.mem_of_getElem? (i := 127) rfl) rfl
theorem jw_849 : (Jvm.Cond.fieldLink "CoinNode$Hash" (52 : Nat) "CoinNode$Hash" "ADDED" "[I") ∈ jws := jws_4 (List.mem_of_getElem? (i := 129) rfl) rfl
theorem jw_851 : (Jvm.Cond.fieldLink "CoinNode$Hash" (55 : Nat) "CoinNode$Hash" "TURN" "[I") ∈ jws := jws_4 (List.mem_of_getElem? (i := 131) rfl) rfl
theorem jw_853 : (Jvm.Cond.methodLink "CoinNode$Machine" (103 : Nat) ({ cls := "CoinNode$Machine", name := "ask", desc := "(I)V" } : Jvm.MethodName)) ∈ jws := jws_4 (List.mem_of_getElem? (i := 133) rfl) rfl
theorem jw_855 : (Jvm.Cond.instanceMethod ({ cls := "CoinNode$Machine", name := "ask", desc := "(I)V" } : Jvm.MethodName)) ∈ jws := jws_4 (List.mem_of_getElem? (i := 135) rfl) rfl
theorem jw_856 : (Jvm.Cond.code ({ cls := "CoinNode$Machine", name := "ask", desc := "(I)V" } : Jvm.MethodName) prog_6_method_19_code (2 : Nat) (Option.none : Option Jvm.ClassFile.FieldType)) ∈ jws := jws_4 (List.mem_of_getElem? (i := 136) rfl) rfl
theorem jw_857 : (Jvm.Cond.constantLong "CoinNode$Machine" (204 : Nat) (8 : Int64)) ∈ jws := jws_4 (List.mem_of_getElem? (i := 137) rfl) rfl
theorem jw_858 : (Jvm.Cond.methodLink "CoinNode$Machine" (109 : Nat) ({ cls := "CoinNode$Machine", name := "finish", desc := "(Z)V" } : Jvm.MethodName)) ∈ jws := jws_4 (List.mem_of_getElem? (i := 138) rfl) rfl
theorem jw_860 : (Jvm.Cond.instanceMethod ({ cls := "CoinNode$Machine", name := "finish", desc := "(Z)V" } : Jvm.MethodName)) ∈ jws := jws_4 (List.mem_of_getElem? (i := 140) rfl) rfl
theorem jw_861 : (Jvm.Cond.code ({ cls := "CoinNode$Machine", name := "finish", desc := "(Z)V" } : Jvm.MethodName) prog_6_method_21_code (2 : Nat) (Option.none : Option Jvm.ClassFile.FieldType)) ∈ jws := jws_4 (List.mem_of_getElem? (i := 141) rfl) rfl
theorem jw_862 : (Jvm.Cond.methodLink "CoinNode$Scripts" (78 : Nat) ({ cls := "CoinNode$Machine", name := "signature", desc := "()[B" } : Jvm.MethodName)) ∈ jws := jws_4 (List.mem_of_getElem? (i := 142) rfl) rfl
theorem jw_863 : (Jvm.Cond.instanceMethod ({ cls := "CoinNode$Machine", name := "signature", desc := "()[B" } : Jvm.MethodName)) ∈ jws := jws_4 (List.mem_of_getElem? (i := 143) rfl) rfl
theorem jw_864 : (Jvm.Cond.selects "CoinNode$Machine" ({ cls := "CoinNode$Machine", name := "signature", desc := "()[B" } : Jvm.MethodName) ({ cls := "CoinNode$Machine", name := "signature", desc := "()[B" } : Jvm.MethodName)) ∈ jws := jws_4 (List.mem_of_getElem? (i := 144) rfl) rfl
theorem jw_865 : (Jvm.Cond.code ({ cls := "CoinNode$Machine", name := "signature", desc := "()[B" } : Jvm.MethodName) prog_6_method_22_code (1 : Nat) (Option.some (Jvm.ClassFile.FieldType.array Jvm.ClassFile.FieldType.byte))) ∈ jws := jws_4 (List.mem_of_getElem? (i := 145) rfl) rfl
theorem jw_866 : (Jvm.Cond.methodLink "CoinNode$Scripts" (81 : Nat) ({ cls := "CoinNode$Machine", name := "signatureSize", desc := "()I" } : Jvm.MethodName)) ∈ jws := jws_4 (List.mem_of_getElem? (i := 146) rfl) rfl
theorem jw_867 : (Jvm.Cond.instanceMethod ({ cls := "CoinNode$Machine", name := "signatureSize", desc := "()I" } : Jvm.MethodName)) ∈ jws := jws_4 (List.mem_of_getElem? (i := 147) rfl) rfl
theorem jw_868 : (Jvm.Cond.selects "CoinNode$Machine" ({ cls := "CoinNode$Machine", name := "signatureSize", desc := "()I" } : Jvm.MethodName) ({ cls := "CoinNode$Machine", name := "signatureSize", desc := "()I" } : Jvm.MethodName)) ∈ jws := jws_4 (List.mem_of_getElem? (i := 148) rfl) rfl
theorem jw_869 : (Jvm.Cond.code ({ cls := "CoinNode$Machine", name := "signatureSize", desc := "()I" } : Jvm.MethodName) prog_6_method_23_code (1 : Nat) (Option.some Jvm.ClassFile.FieldType.int)) ∈ jws := jws_4 (List.mem_of_getElem? (i := 149) rfl) rfl
theorem jw_870 : (Jvm.Cond.methodLink "CoinNode$Scripts" (84 : Nat) ({ cls := "CoinNode$Signature", name := "setSignature", desc := "([BI)Z" } : Jvm.MethodName)) ∈ jws := jws_4 (List.mem_of_getElem? (i := 150) rfl) rfl
theorem jw_871 : (Jvm.Cond.instanceMethod ({ cls := "CoinNode$Signature", name := "setSignature", desc := "([BI)Z" } : Jvm.MethodName)) ∈ jws := jws_4 (List.mem_of_getElem? (i := 151) rfl) rfl
theorem jw_872 : (Jvm.Cond.selects "CoinNode$Signature" ({ cls := "CoinNode$Signature", name := "setSignature", desc := "([BI)Z" } : Jvm.MethodName) ({ cls := "CoinNode$Signature", name := "setSignature", desc := "([BI)Z" } : Jvm.MethodName)) ∈ jws := jws_4 (List.mem_of_getElem? (i := 152) rfl) rfl
theorem jw_873 : (Jvm.Cond.code ({ cls := "CoinNode$Signature", name := "setSignature", desc := "([BI)Z" } : Jvm.MethodName) prog_10_method_2_code (5 : Nat) (Option.some Jvm.ClassFile.FieldType.boolean)) ∈ jws := jws_4 (List.mem_of_getElem? (i := 153) rfl) rfl
theorem jw_874 : (Jvm.Cond.methodLink "CoinNode$Signature" (70 : Nat) ({ cls := "CoinNode$Signature", name := "setNumber", desc := "([I[BII)Z" } : Jvm.MethodName)) ∈ jws := jws_4 (List.mem_of_getElem? (i := 154) rfl) rfl
theorem jw_875 : (Jvm.Cond.static ({ cls := "CoinNode$Signature", name := "setNumber", desc := "([I[BII)Z" } : Jvm.MethodName)) ∈ jws := jws_4 (List.mem_of_getElem? (i := 155) rfl) rfl
theorem jw_876 : (Jvm.Cond.code ({ cls := "CoinNode$Signature", name := "setNumber", desc := "([I[BII)Z" } : Jvm.MethodName) prog_10_method_3_code (5 : Nat) (Option.some Jvm.ClassFile.FieldType.boolean)) ∈ jws := jws_4 (List.mem_of_getElem? (i := 156) rfl) rfl
theorem jw_877 : (Jvm.Cond.methodLink "CoinNode$Signature" (74 : Nat) ({ cls := "CoinNode$Signature", name := "set", desc := "([I[BII)V" } : Jvm.MethodName)) ∈ jws := jws_4 (List.mem_of_getElem? (i := 157) rfl) rfl
theorem jw_878 : (Jvm.Cond.static ({ cls := "CoinNode$Signature", name := "set", desc := "([I[BII)V" } : Jvm.MethodName)) ∈ jws := jws_4 (List.mem_of_getElem? (i := 158) rfl) rfl
theorem jw_879 : (Jvm.Cond.code ({ cls := "CoinNode$Signature", name := "set", desc := "([I[BII)V" } : Jvm.MethodName) prog_10_method_8_code (6 : Nat) (Option.none : Option Jvm.ClassFile.FieldType)) ∈ jws := jws_4 (List.mem_of_getElem? (i := 159) rfl) rfl
theorem jw_880 : (Jvm.Cond.methodLink "CoinNode$Signature" (172 : Nat) ({ cls := "java/util/Arrays", name := "fill", desc := "([II)V" } : Jvm.MethodName)) ∈ jws := jws_4 (List.mem_of_getElem? (i := 160) rfl) rfl
theorem jw_881 : (Jvm.Cond.static ({ cls := "java/util/Arrays", name := "fill", desc := "([II)V" } : Jvm.MethodName)) ∈ jws := jws_4 (List.mem_of_getElem? (i := 161) rfl) rfl
theorem jw_882 : (Jvm.Cond.code ({ cls := "java/util/Arrays", name := "fill", desc := "([II)V" } : Jvm.MethodName) prog_25_method_103_code (4 : Nat) (Option.none : Option Jvm.ClassFile.FieldType)) ∈ jws := jws_4 (List.mem_of_getElem? (i := 162) rfl) rfl
theorem jw_883 : (Jvm.Cond.methodLink "CoinNode$Signature" (78 : Nat) ({ cls := "CoinNode$Signature", name := "isNothing", desc := "([I)Z" } : Jvm.MethodName)) ∈ jws := jws_4 (List.mem_of_getElem? (i := 163) rfl) rfl
theorem jw_884 : (Jvm.Cond.static ({ cls := "CoinNode$Signature", name := "isNothing", desc := "([I)Z" } : Jvm.MethodName)) ∈ jws := jws_4 (List.mem_of_getElem? (i := 164) rfl) rfl
theorem jw_885 : (Jvm.Cond.code ({ cls := "CoinNode$Signature", name := "isNothing", desc := "([I)Z" } : Jvm.MethodName) prog_10_method_9_code (3 : Nat) (Option.some Jvm.ClassFile.FieldType.boolean)) ∈ jws := jws_4 (List.mem_of_getElem? (i := 165) rfl) rfl
theorem jw_886 : (Jvm.Cond.fieldLink "CoinNode$Signature" (82 : Nat) "CoinNode$Signature" "ORDER" "[I") ∈ jws := jws_4 (List.mem_of_getElem? (i := 166) rfl) rfl
theorem jw_888 : (Jvm.Cond.methodLink "CoinNode$Signature" (85 : Nat) ({ cls := "CoinNode$Signature", name := "isBelow", desc := "([I[I)Z" } : Jvm.MethodName)) ∈ jws := jws_4 (List.mem_of_getElem? (i := 168) rfl) rfl
theorem jw_889 : (Jvm.Cond.static ({ cls := "CoinNode$Signature", name := "isBelow", desc := "([I[I)Z" } : Jvm.MethodName)) ∈ jws := jws_4 (List.mem_of_getElem? (i := 169) rfl) rfl
theorem jw_890 : (Jvm.Cond.code ({ cls := "CoinNode$Signature", name := "isBelow", desc := "([I[I)Z" } : Jvm.MethodName) prog_10_method_10_code (3 : Nat) (Option.some Jvm.ClassFile.FieldType.boolean)) ∈ jws := jws_4 (List.mem_of_getElem? (i := 170) rfl) rfl
theorem jw_891 : (Jvm.Cond.methodLink "CoinNode$Signature" (178 : Nat) ({ cls := "java/lang/Math", name := "min", desc := "(II)I" } : Jvm.MethodName)) ∈ jws := jws_4 (List.mem_of_getElem? (i := 171) rfl) rfl
theorem jw_892 : (Jvm.Cond.constantLong "CoinNode$Signature" (170 : Nat) (4294967295 : Int64)) ∈ jws := jws_4 (List.mem_of_getElem? (i := 172) rfl) rfl
theorem jw_893 : (Jvm.Cond.methodLink "CoinNode$Scripts" (88 : Nat) ({ cls := "CoinNode$Machine", name := "publicKey", desc := "()[B" } : Jvm.MethodName)) ∈ jws := jws_4 (List.mem_of_getElem? (i := 173) rfl) rfl
theorem jw_894 : (Jvm.Cond.instanceMethod ({ cls := "CoinNode$Machine", name := "publicKey", desc := "()[B" } : Jvm.MethodName)) ∈ jws := jws_4 (List.mem_of_getElem? (i := 174) rfl) rfl
theorem jw_895 : (Jvm.Cond.selects "CoinNode$Machine" ({ cls := "CoinNode$Machine", name := "publicKey", desc := "()[B" } : Jvm.MethodName) ({ cls := "CoinNode$Machine", name := "publicKey", desc := "()[B" } : Jvm.MethodName)) ∈ jws := jws_4 (List.mem_of_getElem? (i := 175) rfl) rfl
theorem jw_896 : (Jvm.Cond.code ({ cls := "CoinNode$Machine", name := "publicKey", desc := "()[B" } : Jvm.MethodName) prog_6_method_24_code (1 : Nat) (Option.some (Jvm.ClassFile.FieldType.array Jvm.ClassFile.FieldType.byte))) ∈ jws := jws_4 (List.mem_of_getElem? (i := 176) rfl) rfl
theorem jw_897 : (Jvm.Cond.methodLink "CoinNode$Scripts" (91 : Nat) ({ cls := "CoinNode$Machine", name := "publicKeySize", desc := "()I" } : Jvm.MethodName)) ∈ jws := jws_4 (List.mem_of_getElem? (i := 177) rfl) rfl
theorem jw_898 : (Jvm.Cond.instanceMethod ({ cls := "CoinNode$Machine", name := "publicKeySize", desc := "()I" } : Jvm.MethodName)) ∈ jws := jws_4 (List.mem_of_getElem? (i := 178) rfl) rfl
theorem jw_899 : (Jvm.Cond.selects "CoinNode$Machine" ({ cls := "CoinNode$Machine", name := "publicKeySize", desc := "()I" } : Jvm.MethodName) ({ cls := "CoinNode$Machine", name := "publicKeySize", desc := "()I" } : Jvm.MethodName)) ∈ jws := jws_4 (List.mem_of_getElem? (i := 179) rfl) rfl
theorem jw_900 : (Jvm.Cond.code ({ cls := "CoinNode$Machine", name := "publicKeySize", desc := "()I" } : Jvm.MethodName) prog_6_method_25_code (1 : Nat) (Option.some Jvm.ClassFile.FieldType.int)) ∈ jws := jws_4 (List.mem_of_getElem? (i := 180) rfl) rfl
theorem jw_901 : (Jvm.Cond.methodLink "CoinNode$Scripts" (94 : Nat) ({ cls := "CoinNode$Signature", name := "setKey", desc := "([BI)Z" } : Jvm.MethodName)) ∈ jws := jws_4 (List.mem_of_getElem? (i := 181) rfl) rfl
theorem jw_902 : (Jvm.Cond.instanceMethod ({ cls := "CoinNode$Signature", name := "setKey", desc := "([BI)Z" } : Jvm.MethodName)) ∈ jws := jws_4 (List.mem_of_getElem? (i := 182) rfl) rfl
theorem jw_903 : (Jvm.Cond.selects "CoinNode$Signature" ({ cls := "CoinNode$Signature", name := "setKey", desc := "([BI)Z" } : Jvm.MethodName) ({ cls := "CoinNode$Signature", name := "setKey", desc := "([BI)Z" } : Jvm.MethodName)) ∈ jws := jws_4 (List.mem_of_getElem? (i := 183) rfl) rfl
theorem jw_904 : (Jvm.Cond.code ({ cls := "CoinNode$Signature", name := "setKey", desc := "([BI)Z" } : Jvm.MethodName) prog_10_method_4_code (9 : Nat) (Option.some Jvm.ClassFile.FieldType.boolean)) ∈ jws := jws_4 (List.mem_of_getElem? (i := 184) rfl) rfl
theorem jw_905 : (Jvm.Cond.methodLink "CoinNode$Signature" (92 : Nat) ({ cls := "CoinNode$Signature", name := "spread", desc := "([I[J)V" } : Jvm.MethodName)) ∈ jws := jws_4 (List.mem_of_getElem? (i := 185) rfl) rfl
theorem jw_906 : (Jvm.Cond.static ({ cls := "CoinNode$Signature", name := "spread", desc := "([I[J)V" } : Jvm.MethodName)) ∈ jws := jws_4 (List.mem_of_getElem? (i := 186) rfl) rfl
theorem jw_907 : (Jvm.Cond.code ({ cls := "CoinNode$Signature", name := "spread", desc := "([I[J)V" } : Jvm.MethodName) prog_10_method_11_code (9 : Nat) (Option.none : Option Jvm.ClassFile.FieldType)) ∈ jws := jws_4 (List.mem_of_getElem? (i := 187) rfl) rfl
theorem jw_908 : (Jvm.Cond.constantLong "CoinNode$Signature" (182 : Nat) (67108863 : Int64)) ∈ jws := jws_4 (List.mem_of_getElem? (i := 188) rfl) rfl
theorem jw_909 : (Jvm.Cond.fieldLink "CoinNode$Signature" (96 : Nat) "CoinNode$Signature" "PRIME" "[I") ∈ jws := jws_4 (List.mem_of_getElem? (i := 189) rfl) rfl
theorem jw_911 : (Jvm.Cond.methodLink "CoinNode$Signature" (99 : Nat) ({ cls := "CoinNode$Point", name := "multiply", desc := "([J[J[J)V" } : Jvm.MethodName)) ∈ jws := jws_4 (List.mem_of_getElem? (i := 191) rfl) rfl
theorem jw_912 : (Jvm.Cond.static ({ cls := "CoinNode$Point", name := "multiply", desc := "([J[J[J)V" } : Jvm.MethodName)) ∈ jws := jws_4 (List.mem_of_getElem? (i := 192) rfl) rfl
theorem jw_913 : (Jvm.Cond.code ({ cls := "CoinNode$Point", name := "multiply", desc := "([J[J[J)V" } : Jvm.MethodName) prog_7_method_10_code (67 : Nat) (Option.none : Option Jvm.ClassFile.FieldType)) ∈ jws := jws_4 (List.mem_of_getElem? (i := 193) rfl) rfl
theorem jw_914 : (Jvm.Cond.constantLong "CoinNode$Point" (67 : Nat) (67108863 : Int64)) ∈ jws := jws_4 (List.mem_of_getElem? (i := 194) rfl) rfl
theorem jw_915 : (Jvm.Cond.constantLong "CoinNode$Point" (69 : Nat) (15632 : Int64)) ∈ jws := jws_4 (List.mem_of_getElem? (i := 195) rfl) rfl
theorem jw_916 : (Jvm.Cond.constantLong "CoinNode$Point" (71 : Nat) (1024 : Int64)) ∈ jws := jws_4 (List.mem_of_getElem? (i := 196) rfl) rfl
theorem jw_917 : (Jvm.Cond.constantLong "CoinNode$Signature" (103 : Nat) (7 : Int64)) ∈ jws := jws_4 (List.mem_of_getElem? (i := 197) rfl) rfl
theorem jw_918 : (Jvm.Cond.methodLink "CoinNode$Signature" (107 : Nat) ({ cls := "CoinNode$Point", name := "root", desc := "([J[J[[J)V" } : Jvm.MethodName)) ∈ jws := jws_4 (List.mem_of_getElem? (i := 198) rfl) rfl
theorem jw_919 : (Jvm.Cond.static ({ cls := "CoinNode$Point", name := "root", desc := "([J[J[[J)V" } : Jvm.MethodName)) ∈ jws := jws_4 (List.mem_of_getElem? (i := 199) rfl) rfl
theorem jw_920 : (Jvm.Cond.code ({ cls := "CoinNode$Point", name := "root", desc := "([J[J[[J)V" } : Jvm.MethodName) prog_7_method_6_code (6 : Nat) (Option.none : Option Jvm.ClassFile.FieldType)) ∈ jws := jws_4 (List.mem_of_getElem? (i := 200) rfl) rfl
theorem jw_921 : (Jvm.Cond.methodLink "CoinNode$Point" (35 : Nat) ({ cls := "CoinNode$Point", name := "mix", desc := "([J[JJ[JJ)V" } : Jvm.MethodName)) ∈ jws := jws_4 (List.mem_of_getElem? (i := 201) rfl) rfl
theorem jw_922 : (Jvm.Cond.static ({ cls := "CoinNode$Point", name := "mix", desc := "([J[JJ[JJ)V" } : Jvm.MethodName)) ∈ jws := jws_4 (List.mem_of_getElem? (i := 202) rfl) rfl
theorem jw_923 : (Jvm.Cond.code ({ cls := "CoinNode$Point", name := "mix", desc := "([J[JJ[JJ)V" } : Jvm.MethodName) prog_7_method_7_code (8 : Nat) (Option.none : Option Jvm.ClassFile.FieldType)) ∈ jws := jws_4 (List.mem_of_getElem? (i := 203) rfl) rfl
theorem jw_924 : (Jvm.Cond.fieldLink "CoinNode$Point" (63 : Nat) "CoinNode$Point" "ROOT" "[I") ∈ jws := jws_4 (List.mem_of_getElem? (i := 204) rfl) rfl
theorem jw_926 : (Jvm.Cond.methodLink "CoinNode$Point" (29 : Nat) ({ cls := "CoinNode$Point", name := "multiply", desc := "([J[J[J)V" } : Jvm.MethodName)) ∈ jws := jws_4 (List.mem_of_getElem? (i := 206) rfl) rfl
theorem jw_927 : (Jvm.Cond.constantLong "CoinNode$Signature" (111 : Nat) (-1 : Int64)) ∈ jws := jws_4 (List.mem_of_getElem? (i := 207) rfl) rfl
theorem jw_928 : (Jvm.Cond.methodLink "CoinNode$Signature" (113 : Nat) ({ cls := "CoinNode$Point", name := "mix", desc := "([J[JJ[JJ)V" } : Jvm.MethodName)) ∈ jws := jws_4 (List.mem_of_getElem? (i := 208) rfl) rfl
theorem jw_929 : (Jvm.Cond.methodLink "CoinNode$Signature" (117 : Nat) ({ cls := "CoinNode$Point", name := "normalize", desc := "([J)Z" } : Jvm.MethodName)) ∈ jws := jws_4 (List.mem_of_getElem? (i := 209) rfl) rfl
theorem jw_930 : (Jvm.Cond.static ({ cls := "CoinNode$Point", name := "normalize", desc := "([J)Z" } : Jvm.MethodName)) ∈ jws := jws_4 (List.mem_of_getElem? (i := 210) rfl) rfl
theorem jw_931 : (Jvm.Cond.code ({ cls := "CoinNode$Point", name := "normalize", desc := "([J)Z" } : Jvm.MethodName) prog_7_method_9_code (6 : Nat) (Option.some Jvm.ClassFile.FieldType.boolean)) ∈ jws := jws_4 (List.mem_of_getElem? (i := 211) rfl) rfl
theorem jw_932 : (Jvm.Cond.constantLong "CoinNode$Point" (73 : Nat) (4194303 : Int64)) ∈ jws := jws_4 (List.mem_of_getElem? (i := 212) rfl) rfl
theorem jw_933 : (Jvm.Cond.constantLong "CoinNode$Point" (75 : Nat) (977 : Int64)) ∈ jws := jws_4 (List.mem_of_getElem? (i := 213) rfl) rfl
theorem jw_934 : (Jvm.Cond.constantLong "CoinNode$Point" (77 : Nat) (64 : Int64)) ∈ jws := jws_4 (List.mem_of_getElem? (i := 214) rfl) rfl
theorem jw_935 : (Jvm.Cond.methodLink "CoinNode$Signature" (121 : Nat) ({ cls := "CoinNode$Point", name := "unit", desc := "()V" } : Jvm.MethodName)) ∈ jws := jws_4 (List.mem_of_getElem? (i := 215) rfl) rfl
theorem jw_936 : (Jvm.Cond.instanceMethod ({ cls := "CoinNode$Point", name := "unit", desc := "()V" } : Jvm.MethodName)) ∈ jws := jws_4 (List.mem_of_getElem? (i := 216) rfl) rfl
theorem jw_937 : (Jvm.Cond.selects "CoinNode$Point" ({ cls := "CoinNode$Point", name := "unit", desc := "()V" } : Jvm.MethodName) ({ cls := "CoinNode$Point", name := "unit", desc := "()V" } : Jvm.MethodName)) ∈ jws := jws_4 (List.mem_of_getElem? (i := 217) rfl) rfl
theorem jw_938 : (Jvm.Cond.code ({ cls := "CoinNode$Point", name := "unit", desc := "()V" } : Jvm.MethodName) prog_7_method_2_code (1 : Nat) (Option.none : Option Jvm.ClassFile.FieldType)) ∈ jws := jws_4 (List.mem_of_getElem? (i := 218) rfl) rfl
theorem jw_939 : (Jvm.Cond.methodLink "CoinNode$Point" (23 : Nat) ({ cls := "java/util/Arrays", name := "fill", desc := "([JJ)V" } : Jvm.MethodName)) ∈ jws := jws_4 (List.mem_of_getElem? (i := 219) rfl) rfl
theorem jw_940 : (Jvm.Cond.static ({ cls := "java/util/Arrays", name := "fill", desc := "([JJ)V" } : Jvm.MethodName)) ∈ jws := jws_4 (List.mem_of_getElem? (i := 220) rfl) rfl
theorem jw_941 : (Jvm.Cond.code ({ cls := "java/util/Arrays", name := "fill", desc := "([JJ)V" } : Jvm.MethodName) prog_25_method_101_code (5 : Nat) (Option.none : Option Jvm.ClassFile.FieldType)) ∈ jws := jws_4 (List.mem_of_getElem? (i := 221) rfl) rfl
theorem jw_942 : (Jvm.Cond.methodLink "CoinNode$Signature" (124 : Nat) ({ cls := "CoinNode$Point", name := "set", desc := "(LCoinNode$Point;Z)V" } : Jvm.MethodName)) ∈ jws := jws_4 (List.mem_of_getElem? (i := 222) rfl) rfl
theorem jw_943 : (Jvm.Cond.instanceMethod ({ cls := "CoinNode$Point", name := "set", desc := "(LCoinNode$Point;Z)V" } : Jvm.MethodName)) ∈ jws := jws_4 (List.mem_of_getElem? (i := 223) rfl) rfl
theorem jw_944 : (Jvm.Cond.selects "CoinNode$Point" ({ cls := "CoinNode$Point", name := "set", desc := "(LCoinNode$Point;Z)V" } : Jvm.MethodName) ({ cls := "CoinNode$Point", name := "set", desc := "(LCoinNode$Point;Z)V" } : Jvm.MethodName)) ∈ jws := jws_4 (List.mem_of_getElem? (i := 224) rfl) rfl
theorem jw_945 : (Jvm.Cond.code ({ cls := "CoinNode$Point", name := "set", desc := "(LCoinNode$Point;Z)V" } : Jvm.MethodName) prog_7_method_3_code (4 : Nat) (Option.none : Option Jvm.ClassFile.FieldType)) ∈ jws := jws_4 (List.mem_of_getElem? (i := 225) rfl) rfl
theorem jw_946 : (Jvm.Cond.methodLink "CoinNode$Signature" (127 : Nat) ({ cls := "CoinNode$Point", name := "twice", desc := "([[J)V" } : Jvm.MethodName)) ∈ jws := jws_4 (List.mem_of_getElem? (i := 226) rfl) rfl
theorem jw_947 : (Jvm.Cond.instanceMethod ({ cls := "CoinNode$Point", name := "twice", desc := "([[J)V" } : Jvm.MethodName)) ∈ jws := jws_4 (List.mem_of_getElem? (i := 227) rfl) rfl
theorem jw_948 : (Jvm.Cond.selects "CoinNode$Point" ({ cls := "CoinNode$Point", name := "twice", desc := "([[J)V" } : Jvm.MethodName) ({ cls := "CoinNode$Point", name := "twice", desc := "([[J)V" } : Jvm.MethodName)) ∈ jws := jws_4 (List.mem_of_getElem? (i := 228) rfl) rfl
theorem jw_949 : (Jvm.Cond.code ({ cls := "CoinNode$Point", name := "twice", desc := "([[J)V" } : Jvm.MethodName) prog_7_method_4_code (6 : Nat) (Option.none : Option Jvm.ClassFile.FieldType)) ∈ jws := jws_4 (List.mem_of_getElem? (i := 229) rfl) rfl
theorem jw_950 : (Jvm.Cond.constantLong "CoinNode$Point" (33 : Nat) (2 : Int64)) ∈ jws := jws_4 (List.mem_of_getElem? (i := 230) rfl) rfl
theorem jw_951 : (Jvm.Cond.constantLong "CoinNode$Point" (39 : Nat) (9 : Int64)) ∈ jws := jws_4 (List.mem_of_getElem? (i := 231) rfl) rfl
theorem jw_952 : (Jvm.Cond.constantLong "CoinNode$Point" (41 : Nat) (-8 : Int64)) ∈ jws := jws_4 (List.mem_of_getElem? (i := 232) rfl) rfl
theorem jw_953 : (Jvm.Cond.methodLink "CoinNode$Point" (43 : Nat) ({ cls := "CoinNode$Point", name := "settle", desc := "([J)V" } : Jvm.MethodName)) ∈ jws := jws_4 (List.mem_of_getElem? (i := 233) rfl) rfl
theorem jw_954 : (Jvm.Cond.static ({ cls := "CoinNode$Point", name := "settle", desc := "([J)V" } : Jvm.MethodName)) ∈ jws := jws_4 (List.mem_of_getElem? (i := 234) rfl) rfl
theorem jw_955 : (Jvm.Cond.code ({ cls := "CoinNode$Point", name := "settle", desc := "([J)V" } : Jvm.MethodName) prog_7_method_8_code (3 : Nat) (Option.none : Option Jvm.ClassFile.FieldType)) ∈ jws := jws_4 (List.mem_of_getElem? (i := 235) rfl) rfl
theorem jw_956 : (Jvm.Cond.constantLong "CoinNode$Point" (47 : Nat) (4 : Int64)) ∈ jws := jws_4 (List.mem_of_getElem? (i := 236) rfl) rfl
theorem jw_957 : (Jvm.Cond.constantLong "CoinNode$Point" (49 : Nat) (-1 : Int64)) ∈ jws := jws_4 (List.mem_of_getElem? (i := 237) rfl) rfl
theorem jw_958 : (Jvm.Cond.constantLong "CoinNode$Point" (51 : Nat) (3 : Int64)) ∈ jws := jws_4 (List.mem_of_getElem? (i := 238) rfl) rfl
theorem jw_959 : (Jvm.Cond.methodLink "CoinNode$Signature" (130 : Nat) ({ cls := "CoinNode$Point", name := "add", desc := "(LCoinNode$Point;Z[[J)Z" } : Jvm.MethodName)) ∈ jws := jws_4 (List.mem_of_getElem? (i := 239) rfl) rfl
theorem jw_960 : (Jvm.Cond.instanceMethod ({ cls := "CoinNode$Point", name := "add", desc := "(LCoinNode$Point;Z[[J)Z" } : Jvm.MethodName)) ∈ jws := jws_5 (List.mem_of_getElem? (i := 0) rfl) rfl
theorem jw_961 : (Jvm.Cond.selects "CoinNode$Point" ({ cls := "CoinNode$Point", name := "add", desc := "(LCoinNode$Point;Z[[J)Z" } : Jvm.MethodName) ({ cls := "CoinNode$Point", name := "add", desc := "(LCoinNode$Point;Z[[J)Z" } : Jvm.MethodName)) ∈ jws := jws_5 (List.mem_of_getElem? (i := 1) rfl) rfl
theorem jw_962 : (Jvm.Cond.code ({ cls := "CoinNode$Point", name := "add", desc := "(LCoinNode$Point;Z[[J)Z" } : Jvm.MethodName) prog_7_method_5_code (10 : Nat) (Option.some Jvm.ClassFile.FieldType.boolean)) ∈ jws := jws_5 (List.mem_of_getElem? (i := 2) rfl) rfl
theorem jw_963 : (Jvm.Cond.methodLink "CoinNode$Point" (53 : Nat) ({ cls := "CoinNode$Point", name := "set", desc := "(LCoinNode$Point;Z)V" } : Jvm.MethodName)) ∈ jws := jws_5 (List.mem_of_getElem? (i := 3) rfl) rfl
theorem jw_964 : (Jvm.Cond.methodLink "CoinNode$Point" (57 : Nat) ({ cls := "CoinNode$Point", name := "normalize", desc := "([J)Z" } : Jvm.MethodName)) ∈ jws := jws_5 (List.mem_of_getElem? (i := 4) rfl) rfl
theorem jw_965 : (Jvm.Cond.constantLong "CoinNode$Point" (61 : Nat) (-2 : Int64)) ∈ jws := jws_5 (List.mem_of_getElem? (i := 5) rfl) rfl
theorem jw_966 : (Jvm.Cond.methodLink "CoinNode$Scripts" (100 : Nat) ({ cls := "CoinNode$Scripts", name := "write", desc := "(LCoinNode$Tx;ILCoinNode$Tx;II)V" } : Jvm.MethodName)) ∈ jws := jws_5 (List.mem_of_getElem? (i := 6) rfl) rfl
theorem jw_968 : (Jvm.Cond.instanceMethod ({ cls := "CoinNode$Scripts", name := "write", desc := "(LCoinNode$Tx;ILCoinNode$Tx;II)V" } : Jvm.MethodName)) ∈ jws := jws_5 (List.mem_of_getElem? (i := 8) rfl) rfl
theorem jw_969 : (Jvm.Cond.code ({ cls := "CoinNode$Scripts", name := "write", desc := "(LCoinNode$Tx;ILCoinNode$Tx;II)V" } : Jvm.MethodName) prog_9_method_4_code (11 : Nat) (Option.none : Option Jvm.ClassFile.FieldType)) ∈ jws := jws_5 (List.mem_of_getElem? (i := 9) rfl) rfl
theorem jw_970 : (Jvm.Cond.methodLink "CoinNode$Scripts" (140 : Nat) ({ cls := "CoinNode$Scripts", name := "put", desc := "([BII)V" } : Jvm.MethodName)) ∈ jws := jws_5 (List.mem_of_getElem? (i := 10) rfl) rfl
theorem jw_972 : (Jvm.Cond.instanceMethod ({ cls := "CoinNode$Scripts", name := "put", desc := "([BII)V" } : Jvm.MethodName)) ∈ jws := jws_5 (List.mem_of_getElem? (i := 12) rfl) rfl
theorem jw_973 : (Jvm.Cond.code ({ cls := "CoinNode$Scripts", name := "put", desc := "([BII)V" } : Jvm.MethodName) prog_9_method_5_code (4 : Nat) (Option.none : Option Jvm.ClassFile.FieldType)) ∈ jws := jws_5 (List.mem_of_getElem? (i := 13) rfl) rfl
theorem jw_974 : (Jvm.Cond.methodLink "CoinNode$Scripts" (150 : Nat) ({ cls := "java/lang/System", name := "arraycopy", desc := "(Ljava/lang/Object;ILjava/lang/Object;II)V" } : Jvm.MethodName)) ∈ jws := jws_5 (List.mem_of_getElem? (i := 14) rfl) rfl
theorem jw_975 : (Jvm.Cond.methodLink "CoinNode$Scripts" (143 : Nat) ({ cls := "CoinNode$Scripts", name := "fill", desc := "(II)V" } : Jvm.MethodName)) ∈ jws := jws_5 (List.mem_of_getElem? (i := 15) rfl) rfl
theorem jw_977 : (Jvm.Cond.instanceMethod ({ cls := "CoinNode$Scripts", name := "fill", desc := "(II)V" } : Jvm.MethodName)) ∈ jws := jws_5 (List.mem_of_getElem? (i := 17) rfl) rfl
theorem jw_978 : (Jvm.Cond.code ({ cls := "CoinNode$Scripts", name := "fill", desc := "(II)V" } : Jvm.MethodName) prog_9_method_6_code (4 : Nat) (Option.none : Option Jvm.ClassFile.FieldType)) ∈ jws := jws_5 (List.mem_of_getElem? (i := 18) rfl) rfl
theorem jw_979 : (Jvm.Cond.methodLink "CoinNode$Scripts" (107 : Nat) ({ cls := "CoinNode$Hash", name := "name", desc := "([BII[B)V" } : Jvm.MethodName)) ∈ jws := jws_5 (List.mem_of_getElem? (i := 19) rfl) rfl
theorem jw_980 : (Jvm.Cond.methodLink "CoinNode$Scripts" (112 : Nat) ({ cls := "CoinNode$Signature", name := "setBase", desc := "()V" } : Jvm.MethodName)) ∈ jws := jws_5 (List.mem_of_getElem? (i := 20) rfl) rfl
theorem jw_981 : (Jvm.Cond.instanceMethod ({ cls := "CoinNode$Signature", name := "setBase", desc := "()V" } : Jvm.MethodName)) ∈ jws := jws_5 (List.mem_of_getElem? (i := 21) rfl) rfl
theorem jw_982 : (Jvm.Cond.selects "CoinNode$Signature" ({ cls := "CoinNode$Signature", name := "setBase", desc := "()V" } : Jvm.MethodName) ({ cls := "CoinNode$Signature", name := "setBase", desc := "()V" } : Jvm.MethodName)) ∈ jws := jws_5 (List.mem_of_getElem? (i := 22) rfl) rfl
theorem jw_983 : (Jvm.Cond.code ({ cls := "CoinNode$Signature", name := "setBase", desc := "()V" } : Jvm.MethodName) prog_10_method_5_code (2 : Nat) (Option.none : Option Jvm.ClassFile.FieldType)) ∈ jws := jws_5 (List.mem_of_getElem? (i := 23) rfl) rfl
theorem jw_984 : (Jvm.Cond.fieldLink "CoinNode$Signature" (138 : Nat) "CoinNode$Signature" "BASE_X" "[I") ∈ jws := jws_5 (List.mem_of_getElem? (i := 24) rfl) rfl
theorem jw_986 : (Jvm.Cond.fieldLink "CoinNode$Signature" (141 : Nat) "CoinNode$Signature" "BASE_Y" "[I") ∈ jws := jws_5 (List.mem_of_getElem? (i := 26) rfl) rfl
theorem jw_988 : (Jvm.Cond.methodLink "CoinNode$Scripts" (115 : Nat) ({ cls := "CoinNode$Signature", name := "holds", desc := "([BZ)Z" } : Jvm.MethodName)) ∈ jws := jws_5 (List.mem_of_getElem? (i := 28) rfl) rfl
theorem jw_989 : (Jvm.Cond.instanceMethod ({ cls := "CoinNode$Signature", name := "holds", desc := "([BZ)Z" } : Jvm.MethodName)) ∈ jws := jws_5 (List.mem_of_getElem? (i := 29) rfl) rfl
theorem jw_990 : (Jvm.Cond.selects "CoinNode$Signature" ({ cls := "CoinNode$Signature", name := "holds", desc := "([BZ)Z" } : Jvm.MethodName) ({ cls := "CoinNode$Signature", name := "holds", desc := "([BZ)Z" } : Jvm.MethodName)) ∈ jws := jws_5 (List.mem_of_getElem? (i := 30) rfl) rfl
theorem jw_991 : (Jvm.Cond.code ({ cls := "CoinNode$Signature", name := "holds", desc := "([BZ)Z" } : Jvm.MethodName) prog_10_method_6_code (8 : Nat) (Option.some Jvm.ClassFile.FieldType.boolean)) ∈ jws := jws_5 (List.mem_of_getElem? (i := 31) rfl) rfl
theorem jw_992 : (Jvm.Cond.methodLink "CoinNode$Signature" (144 : Nat) ({ cls := "CoinNode$Signature", name := "invert", desc := "([I)V" } : Jvm.MethodName)) ∈ jws := jws_5 (List.mem_of_getElem? (i := 32) rfl) rfl
theorem jw_994 : (Jvm.Cond.instanceMethod ({ cls := "CoinNode$Signature", name := "invert", desc := "([I)V" } : Jvm.MethodName)) ∈ jws := jws_5 (List.mem_of_getElem? (i := 34) rfl) rfl
theorem jw_995 : (Jvm.Cond.code ({ cls := "CoinNode$Signature", name := "invert", desc := "([I)V" } : Jvm.MethodName) prog_10_method_13_code (4 : Nat) (Option.none : Option Jvm.ClassFile.FieldType)) ∈ jws := jws_5 (List.mem_of_getElem? (i := 35) rfl) rfl
theorem jw_996 : (Jvm.Cond.methodLink "CoinNode$Signature" (148 : Nat) ({ cls := "CoinNode$Signature", name := "multiply", desc := "([I[I[I)V" } : Jvm.MethodName)) ∈ jws := jws_5 (List.mem_of_getElem? (i := 36) rfl) rfl
theorem jw_998 : (Jvm.Cond.instanceMethod ({ cls := "CoinNode$Signature", name := "multiply", desc := "([I[I[I)V" } : Jvm.MethodName)) ∈ jws := jws_5 (List.mem_of_getElem? (i := 38) rfl) rfl
theorem jw_999 : (Jvm.Cond.code ({ cls := "CoinNode$Signature", name := "multiply", desc := "([I[I[I)V" } : Jvm.MethodName) prog_10_method_12_code (12 : Nat) (Option.none : Option Jvm.ClassFile.FieldType)) ∈ jws := jws_5 (List.mem_of_getElem? (i := 39) rfl) rfl
theorem jw_1000 : (Jvm.Cond.fieldLink "CoinNode$Signature" (184 : Nat) "CoinNode$Signature" "OVER" "[I") ∈ jws := jws_5 (List.mem_of_getElem? (i := 40) rfl) rfl
theorem jw_1002 : (Jvm.Cond.methodLink "CoinNode$Signature" (187 : Nat) ({ cls := "java/lang/System", name := "arraycopy", desc := "(Ljava/lang/Object;ILjava/lang/Object;II)V" } : Jvm.MethodName)) ∈ jws := jws_5 (List.mem_of_getElem? (i := 42) rfl) rfl
theorem jw_1003 : (Jvm.Cond.methodLink "CoinNode$Signature" (151 : Nat) ({ cls := "CoinNode$Signature", name := "setDigits", desc := "([I[I)V" } : Jvm.MethodName)) ∈ jws := jws_5 (List.mem_of_getElem? (i := 43) rfl) rfl
theorem jw_1004 : (Jvm.Cond.static ({ cls := "CoinNode$Signature", name := "setDigits", desc := "([I[I)V" } : Jvm.MethodName)) ∈ jws := jws_5 (List.mem_of_getElem? (i := 44) rfl) rfl
theorem jw_1005 : (Jvm.Cond.code ({ cls := "CoinNode$Signature", name := "setDigits", desc := "([I[I)V" } : Jvm.MethodName) prog_10_method_14_code (9 : Nat) (Option.none : Option Jvm.ClassFile.FieldType)) ∈ jws := jws_5 (List.mem_of_getElem? (i := 45) rfl) rfl
theorem jw_1006 : (Jvm.Cond.methodLink "CoinNode$Signature" (158 : Nat) ({ cls := "java/lang/Math", name := "abs", desc := "(I)I" } : Jvm.MethodName)) ∈ jws := jws_5 (List.mem_of_getElem? (i := 46) rfl) rfl
theorem jw_1007 : (Jvm.Cond.static ({ cls := "java/lang/Math", name := "abs", desc := "(I)I" } : Jvm.MethodName)) ∈ jws := jws_5 (List.mem_of_getElem? (i := 47) rfl) rfl
theorem jw_1008 : (Jvm.Cond.code ({ cls := "java/lang/Math", name := "abs", desc := "(I)I" } : Jvm.MethodName) prog_23_method_59_code (1 : Nat) (Option.some Jvm.ClassFile.FieldType.int)) ∈ jws := jws_5 (List.mem_of_getElem? (i := 48) rfl) rfl
theorem jw_1009 : (Jvm.Cond.methodLink "CoinNode$Signature" (164 : Nat) ({ cls := "CoinNode$Signature", name := "isAtX", desc := "()Z" } : Jvm.MethodName)) ∈ jws := jws_5 (List.mem_of_getElem? (i := 49) rfl) rfl
theorem jw_1011 : (Jvm.Cond.instanceMethod ({ cls := "CoinNode$Signature", name := "isAtX", desc := "()Z" } : Jvm.MethodName)) ∈ jws := jws_5 (List.mem_of_getElem? (i := 51) rfl) rfl
theorem jw_1012 : (Jvm.Cond.code ({ cls := "CoinNode$Signature", name := "isAtX", desc := "()Z" } : Jvm.MethodName) prog_10_method_7_code (5 : Nat) (Option.some Jvm.ClassFile.FieldType.boolean)) ∈ jws := jws_5 (List.mem_of_getElem? (i := 52) rfl) rfl
theorem jw_1013 : (Jvm.Cond.methodLink "CoinNode$Scripts" (119 : Nat) ({ cls := "CoinNode$Machine", name := "answer", desc := "(Z)V" } : Jvm.MethodName)) ∈ jws := jws_5 (List.mem_of_getElem? (i := 53) rfl) rfl
theorem jw_1014 : (Jvm.Cond.instanceMethod ({ cls := "CoinNode$Machine", name := "answer", desc := "(Z)V" } : Jvm.MethodName)) ∈ jws := jws_5 (List.mem_of_getElem? (i := 54) rfl) rfl
theorem jw_1015 : (Jvm.Cond.selects "CoinNode$Machine" ({ cls := "CoinNode$Machine", name := "answer", desc := "(Z)V" } : Jvm.MethodName) ({ cls := "CoinNode$Machine", name := "answer", desc := "(Z)V" } : Jvm.MethodName)) ∈ jws := jws_5 (List.mem_of_getElem? (i := 55) rfl) rfl
theorem jw_1016 : (Jvm.Cond.code ({ cls := "CoinNode$Machine", name := "answer", desc := "(Z)V" } : Jvm.MethodName) prog_6_method_20_code (2 : Nat) (Option.none : Option Jvm.ClassFile.FieldType)) ∈ jws := jws_5 (List.mem_of_getElem? (i := 56) rfl) rfl
theorem jw_1017 : (Jvm.Cond.methodLink "CoinNode$Scripts" (127 : Nat) ({ cls := "CoinNode$Machine", name := "openLast", desc := "([BII)V" } : Jvm.MethodName)) ∈ jws := jws_5 (List.mem_of_getElem? (i := 57) rfl) rfl
theorem jw_1018 : (Jvm.Cond.instanceMethod ({ cls := "CoinNode$Machine", name := "openLast", desc := "([BII)V" } : Jvm.MethodName)) ∈ jws := jws_5 (List.mem_of_getElem? (i := 58) rfl) rfl
theorem jw_1019 : (Jvm.Cond.selects "CoinNode$Machine" ({ cls := "CoinNode$Machine", name := "openLast", desc := "([BII)V" } : Jvm.MethodName) ({ cls := "CoinNode$Machine", name := "openLast", desc := "([BII)V" } : Jvm.MethodName)) ∈ jws := jws_5 (List.mem_of_getElem? (i := 59) rfl) rfl
theorem jw_1020 : (Jvm.Cond.code ({ cls := "CoinNode$Machine", name := "openLast", desc := "([BII)V" } : Jvm.MethodName) prog_6_method_3_code (4 : Nat) (Option.none : Option Jvm.ClassFile.FieldType)) ∈ jws := jws_5 (List.mem_of_getElem? (i := 60) rfl) rfl
theorem jw_1021 : (Jvm.Cond.methodLink "CoinNode$Machine" (49 : Nat) ({ cls := "CoinNode$Machine", name := "open", desc := "([BII)V" } : Jvm.MethodName)) ∈ jws := jws_5 (List.mem_of_getElem? (i := 61) rfl) rfl
theorem jw_1022 : (Jvm.Cond.methodLink "CoinNode$Scripts" (130 : Nat) ({ cls := "CoinNode$Machine", name := "isHappy", desc := "()Z" } : Jvm.MethodName)) ∈ jws := jws_5 (List.mem_of_getElem? (i := 62) rfl) rfl
theorem jw_1023 : (Jvm.Cond.instanceMethod ({ cls := "CoinNode$Machine", name := "isHappy", desc := "()Z" } : Jvm.MethodName)) ∈ jws := jws_5 (List.mem_of_getElem? (i := 63) rfl) rfl
theorem jw_1024 : (Jvm.Cond.selects "CoinNode$Machine" ({ cls := "CoinNode$Machine", name := "isHappy", desc := "()Z" } : Jvm.MethodName) ({ cls := "CoinNode$Machine", name := "isHappy", desc := "()Z" } : Jvm.MethodName)) ∈ jws := jws_5 (List.mem_of_getElem? (i := 64) rfl) rfl
theorem jw_1025 : (Jvm.Cond.code ({ cls := "CoinNode$Machine", name := "isHappy", desc := "()Z" } : Jvm.MethodName) prog_6_method_5_code (1 : Nat) (Option.some Jvm.ClassFile.FieldType.boolean)) ∈ jws := jws_5 (List.mem_of_getElem? (i := 65) rfl) rfl
theorem jw_1026 : (Jvm.Cond.methodLink "CoinNode$Pool" (81 : Nat) ({ cls := "CoinNode$Pool", name := "knot", desc := "(LCoinNode$Tx;)I" } : Jvm.MethodName)) ∈ jws := jws_5 (List.mem_of_getElem? (i := 66) rfl) rfl
theorem jw_1028 : (Jvm.Cond.instanceMethod ({ cls := "CoinNode$Pool", name := "knot", desc := "(LCoinNode$Tx;)I" } : Jvm.MethodName)) ∈ jws := jws_5 (List.mem_of_getElem? (i := 68) rfl) rfl
theorem jw_1029 : (Jvm.Cond.code ({ cls := "CoinNode$Pool", name := "knot", desc := "(LCoinNode$Tx;)I" } : Jvm.MethodName) prog_8_method_8_code (4 : Nat) (Option.some Jvm.ClassFile.FieldType.int)) ∈ jws := jws_5 (List.mem_of_getElem? (i := 69) rfl) rfl
theorem jw_1030 : (Jvm.Cond.methodLink "CoinNode$Pool" (145 : Nat) ({ cls := "CoinNode$Tx", name := "missesOutputOf", desc := "(LCoinNode$Tx;)Z" } : Jvm.MethodName)) ∈ jws := jws_5 (List.mem_of_getElem? (i := 70) rfl) rfl
theorem jw_1031 : (Jvm.Cond.instanceMethod ({ cls := "CoinNode$Tx", name := "missesOutputOf", desc := "(LCoinNode$Tx;)Z" } : Jvm.MethodName)) ∈ jws := jws_5 (List.mem_of_getElem? (i := 71) rfl) rfl
theorem jw_1032 : (Jvm.Cond.selects "CoinNode$Tx" ({ cls := "CoinNode$Tx", name := "missesOutputOf", desc := "(LCoinNode$Tx;)Z" } : Jvm.MethodName) ({ cls := "CoinNode$Tx", name := "missesOutputOf", desc := "(LCoinNode$Tx;)Z" } : Jvm.MethodName)) ∈ jws := jws_5 (List.mem_of_getElem? (i := 72) rfl) rfl
theorem jw_1033 : (Jvm.Cond.code ({ cls := "CoinNode$Tx", name := "missesOutputOf", desc := "(LCoinNode$Tx;)Z" } : Jvm.MethodName) prog_12_method_17_code (4 : Nat) (Option.some Jvm.ClassFile.FieldType.boolean)) ∈ jws := jws_5 (List.mem_of_getElem? (i := 73) rfl) rfl
theorem jw_1034 : (Jvm.Cond.methodLink "CoinNode$Pool" (148 : Nat) ({ cls := "CoinNode$Pool", name := "markKin", desc := "(LCoinNode$Tx;)V" } : Jvm.MethodName)) ∈ jws := jws_5 (List.mem_of_getElem? (i := 74) rfl) rfl
theorem jw_1036 : (Jvm.Cond.instanceMethod ({ cls := "CoinNode$Pool", name := "markKin", desc := "(LCoinNode$Tx;)V" } : Jvm.MethodName)) ∈ jws := jws_5 (List.mem_of_getElem? (i := 76) rfl) rfl
theorem jw_1037 : (Jvm.Cond.code ({ cls := "CoinNode$Pool", name := "markKin", desc := "(LCoinNode$Tx;)V" } : Jvm.MethodName) prog_8_method_9_code (6 : Nat) (Option.none : Option Jvm.ClassFile.FieldType)) ∈ jws := jws_5 (List.mem_of_getElem? (i := 77) rfl) rfl
theorem jw_1038 : (Jvm.Cond.methodLink "CoinNode$Pool" (152 : Nat) ({ cls := "CoinNode$Tx", name := "spendsOf", desc := "(LCoinNode$Tx;)Z" } : Jvm.MethodName)) ∈ jws := jws_5 (List.mem_of_getElem? (i := 78) rfl) rfl
theorem jw_1039 : (Jvm.Cond.instanceMethod ({ cls := "CoinNode$Tx", name := "spendsOf", desc := "(LCoinNode$Tx;)Z" } : Jvm.MethodName)) ∈ jws := jws_5 (List.mem_of_getElem? (i := 79) rfl) rfl
theorem jw_1040 : (Jvm.Cond.selects "CoinNode$Tx" ({ cls := "CoinNode$Tx", name := "spendsOf", desc := "(LCoinNode$Tx;)Z" } : Jvm.MethodName) ({ cls := "CoinNode$Tx", name := "spendsOf", desc := "(LCoinNode$Tx;)Z" } : Jvm.MethodName)) ∈ jws := jws_5 (List.mem_of_getElem? (i := 80) rfl) rfl
theorem jw_1041 : (Jvm.Cond.code ({ cls := "CoinNode$Tx", name := "spendsOf", desc := "(LCoinNode$Tx;)Z" } : Jvm.MethodName) prog_12_method_15_code (3 : Nat) (Option.some Jvm.ClassFile.FieldType.boolean)) ∈ jws := jws_5 (List.mem_of_getElem? (i := 81) rfl) rfl
theorem jw_1042 : (Jvm.Cond.methodLink "CoinNode$Pool" (91 : Nat) ({ cls := "CoinNode$Pool", name := "dropLeast", desc := "(LCoinNode$Tx;)Z" } : Jvm.MethodName)) ∈ jws := jws_5 (List.mem_of_getElem? (i := 82) rfl) rfl
theorem jw_1044 : (Jvm.Cond.instanceMethod ({ cls := "CoinNode$Pool", name := "dropLeast", desc := "(LCoinNode$Tx;)Z" } : Jvm.MethodName)) ∈ jws := jws_5 (List.mem_of_getElem? (i := 84) rfl) rfl
theorem jw_1045 : (Jvm.Cond.code ({ cls := "CoinNode$Pool", name := "dropLeast", desc := "(LCoinNode$Tx;)Z" } : Jvm.MethodName) prog_8_method_10_code (13 : Nat) (Option.some Jvm.ClassFile.FieldType.boolean)) ∈ jws := jws_5 (List.mem_of_getElem? (i := 85) rfl) rfl
theorem jw_1046 : (Jvm.Cond.methodLink "CoinNode$Pool" (158 : Nat) ({ cls := "CoinNode$Pool", name := "isDearer", desc := "(JJJJ)Z" } : Jvm.MethodName)) ∈ jws := jws_5 (List.mem_of_getElem? (i := 86) rfl) rfl
theorem jw_1047 : (Jvm.Cond.static ({ cls := "CoinNode$Pool", name := "isDearer", desc := "(JJJJ)Z" } : Jvm.MethodName)) ∈ jws := jws_5 (List.mem_of_getElem? (i := 87) rfl) rfl
theorem jw_1048 : (Jvm.Cond.code ({ cls := "CoinNode$Pool", name := "isDearer", desc := "(JJJJ)Z" } : Jvm.MethodName) prog_8_method_11_code (12 : Nat) (Option.some Jvm.ClassFile.FieldType.boolean)) ∈ jws := jws_5 (List.mem_of_getElem? (i := 88) rfl) rfl
theorem jw_1049 : (Jvm.Cond.methodLink "CoinNode" (196 : Nat) ({ cls := "CoinNode", name := "tellOthers", desc := "(II[B)V" } : Jvm.MethodName)) ∈ jws := jws_5 (List.mem_of_getElem? (i := 89) rfl) rfl
theorem jw_1051 : (Jvm.Cond.instanceMethod ({ cls := "CoinNode", name := "tellOthers", desc := "(II[B)V" } : Jvm.MethodName)) ∈ jws := jws_5 (List.mem_of_getElem? (i := 91) rfl) rfl
theorem jw_1052 : (Jvm.Cond.code ({ cls := "CoinNode", name := "tellOthers", desc := "(II[B)V" } : Jvm.MethodName) prog_1_method_15_code (5 : Nat) (Option.none : Option Jvm.ClassFile.FieldType)) ∈ jws := jws_5 (List.mem_of_getElem? (i := 92) rfl) rfl
theorem jw_1053 : (Jvm.Cond.methodLink "CoinNode" (211 : Nat) ({ cls := "CoinNode", name := "put", desc := "([BII)V" } : Jvm.MethodName)) ∈ jws := jws_5 (List.mem_of_getElem? (i := 93) rfl) rfl
theorem jw_1055 : (Jvm.Cond.instanceMethod ({ cls := "CoinNode", name := "put", desc := "([BII)V" } : Jvm.MethodName)) ∈ jws := jws_5 (List.mem_of_getElem? (i := 95) rfl) rfl
theorem jw_1056 : (Jvm.Cond.code ({ cls := "CoinNode", name := "put", desc := "([BII)V" } : Jvm.MethodName) prog_1_method_23_code (4 : Nat) (Option.none : Option Jvm.ClassFile.FieldType)) ∈ jws := jws_5 (List.mem_of_getElem? (i := 96) rfl) rfl
theorem jw_1057 : (Jvm.Cond.methodLink "CoinNode" (236 : Nat) ({ cls := "java/lang/System", name := "arraycopy", desc := "(Ljava/lang/Object;ILjava/lang/Object;II)V" } : Jvm.MethodName)) ∈ jws := jws_5 (List.mem_of_getElem? (i := 97) rfl) rfl
theorem jw_1058 : (Jvm.Cond.methodLink "CoinNode" (94 : Nat) ({ cls := "CoinNode$Block", name := "read", desc := "([BLCoinNode$Hash;)LCoinNode$Block;" } : Jvm.MethodName)) ∈ jws := jws_5 (List.mem_of_getElem? (i := 98) rfl) rfl
theorem jw_1059 : (Jvm.Cond.static ({ cls := "CoinNode$Block", name := "read", desc := "([BLCoinNode$Hash;)LCoinNode$Block;" } : Jvm.MethodName)) ∈ jws := jws_5 (List.mem_of_getElem? (i := 99) rfl) rfl
theorem jw_1060 : (Jvm.Cond.code ({ cls := "CoinNode$Block", name := "read", desc := "([BLCoinNode$Hash;)LCoinNode$Block;" } : Jvm.MethodName) prog_2_method_2_code (7 : Nat) (Option.some (Jvm.ClassFile.FieldType.object "CoinNode$Block"))) ∈ jws := jws_5 (List.mem_of_getElem? (i := 100) rfl) rfl
theorem jw_1061 : (Jvm.Cond.methodLink "CoinNode$Block" (42 : Nat) ({ cls := "CoinNode$Tx", name := "sizeAt", desc := "([BII)I" } : Jvm.MethodName)) ∈ jws := jws_5 (List.mem_of_getElem? (i := 101) rfl) rfl
theorem jw_1062 : (Jvm.Cond.classLink "CoinNode$Block" (10 : Nat) "CoinNode$Block") ∈ jws := jws_5 (List.mem_of_getElem? (i := 102) rfl) rfl
theorem jw_1063 : (Jvm.Cond.methodLink "CoinNode$Block" (46 : Nat) ({ cls := "CoinNode$Block", name := "<init>", desc := "([B)V" } : Jvm.MethodName)) ∈ jws := jws_5 (List.mem_of_getElem? (i := 103) rfl) rfl
theorem jw_1064 : (Jvm.Cond.methodLink "CoinNode$Block" (49 : Nat) ({ cls := "CoinNode$Tx", name := "read", desc := "([BI)LCoinNode$Tx;" } : Jvm.MethodName)) ∈ jws := jws_5 (List.mem_of_getElem? (i := 104) rfl) rfl
theorem jw_1065 : (Jvm.Cond.methodLink "CoinNode$Block" (57 : Nat) ({ cls := "CoinNode$Hash", name := "name", desc := "([BII[B)V" } : Jvm.MethodName)) ∈ jws := jws_5 (List.mem_of_getElem? (i := 105) rfl) rfl
theorem jw_1066 : (Jvm.Cond.methodLink "CoinNode" (100 : Nat) ({ cls := "CoinNode$Chain", name := "refusal", desc := "(LCoinNode$Block;)I" } : Jvm.MethodName)) ∈ jws := jws_5 (List.mem_of_getElem? (i := 106) rfl) rfl
theorem jw_1067 : (Jvm.Cond.instanceMethod ({ cls := "CoinNode$Chain", name := "refusal", desc := "(LCoinNode$Block;)I" } : Jvm.MethodName)) ∈ jws := jws_5 (List.mem_of_getElem? (i := 107) rfl) rfl
theorem jw_1068 : (Jvm.Cond.selects "CoinNode$Chain" ({ cls := "CoinNode$Chain", name := "refusal", desc := "(LCoinNode$Block;)I" } : Jvm.MethodName) ({ cls := "CoinNode$Chain", name := "refusal", desc := "(LCoinNode$Block;)I" } : Jvm.MethodName)) ∈ jws := jws_5 (List.mem_of_getElem? (i := 108) rfl) rfl
theorem jw_1069 : (Jvm.Cond.code ({ cls := "CoinNode$Chain", name := "refusal", desc := "(LCoinNode$Block;)I" } : Jvm.MethodName) prog_3_method_4_code (3 : Nat) (Option.some Jvm.ClassFile.FieldType.int)) ∈ jws := jws_5 (List.mem_of_getElem? (i := 109) rfl) rfl
theorem jw_1070 : (Jvm.Cond.methodLink "CoinNode$Chain" (85 : Nat) ({ cls := "CoinNode$Chain", name := "find", desc := "([BI)LCoinNode$Block;" } : Jvm.MethodName)) ∈ jws := jws_5 (List.mem_of_getElem? (i := 110) rfl) rfl
theorem jw_1071 : (Jvm.Cond.instanceMethod ({ cls := "CoinNode$Chain", name := "find", desc := "([BI)LCoinNode$Block;" } : Jvm.MethodName)) ∈ jws := jws_5 (List.mem_of_getElem? (i := 111) rfl) rfl
theorem jw_1072 : (Jvm.Cond.selects "CoinNode$Chain" ({ cls := "CoinNode$Chain", name := "find", desc := "([BI)LCoinNode$Block;" } : Jvm.MethodName) ({ cls := "CoinNode$Chain", name := "find", desc := "([BI)LCoinNode$Block;" } : Jvm.MethodName)) ∈ jws := jws_5 (List.mem_of_getElem? (i := 112) rfl) rfl
theorem jw_1073 : (Jvm.Cond.code ({ cls := "CoinNode$Chain", name := "find", desc := "([BI)LCoinNode$Block;" } : Jvm.MethodName) prog_3_method_3_code (4 : Nat) (Option.some (Jvm.ClassFile.FieldType.object "CoinNode$Block"))) ∈ jws := jws_5 (List.mem_of_getElem? (i := 113) rfl) rfl
theorem jw_1074 : (Jvm.Cond.methodLink "CoinNode$Chain" (81 : Nat) ({ cls := "CoinNode$Hash", name := "same", desc := "([BI[BI)Z" } : Jvm.MethodName)) ∈ jws := jws_5 (List.mem_of_getElem? (i := 114) rfl) rfl
theorem jw_1075 : (Jvm.Cond.methodLink "CoinNode$Chain" (102 : Nat) ({ cls := "CoinNode$Chain", name := "bitsBehind", desc := "(LCoinNode$Block;)I" } : Jvm.MethodName)) ∈ jws := jws_5 (List.mem_of_getElem? (i := 115) rfl) rfl
theorem jw_1077 : (Jvm.Cond.instanceMethod ({ cls := "CoinNode$Chain", name := "bitsBehind", desc := "(LCoinNode$Block;)I" } : Jvm.MethodName)) ∈ jws := jws_5 (List.mem_of_getElem? (i := 117) rfl) rfl
theorem jw_1078 : (Jvm.Cond.code ({ cls := "CoinNode$Chain", name := "bitsBehind", desc := "(LCoinNode$Block;)I" } : Jvm.MethodName) prog_3_method_12_code (8 : Nat) (Option.some Jvm.ClassFile.FieldType.int)) ∈ jws := jws_5 (List.mem_of_getElem? (i := 118) rfl) rfl
theorem jw_1079 : (Jvm.Cond.constantLong "CoinNode$Chain" (183 : Nat) (1200 : Int64)) ∈ jws := jws_5 (List.mem_of_getElem? (i := 119) rfl) rfl
theorem jw_1080 : (Jvm.Cond.constantLong "CoinNode$Chain" (185 : Nat) (19200 : Int64)) ∈ jws := jws_5 (List.mem_of_getElem? (i := 120) rfl) rfl
theorem jw_1081 : (Jvm.Cond.methodLink "CoinNode$Chain" (187 : Nat) ({ cls := "java/lang/Math", name := "min", desc := "(JJ)J" } : Jvm.MethodName)) ∈ jws := jws_5 (List.mem_of_getElem? (i := 121) rfl) rfl
theorem jw_1082 : (Jvm.Cond.methodLink "CoinNode$Chain" (193 : Nat) ({ cls := "java/lang/Math", name := "max", desc := "(JJ)J" } : Jvm.MethodName)) ∈ jws := jws_5 (List.mem_of_getElem? (i := 122) rfl) rfl
theorem jw_1083 : (Jvm.Cond.methodLink "CoinNode$Chain" (114 : Nat) ({ cls := "CoinNode$Chain", name := "setTarget", desc := "([II)V" } : Jvm.MethodName)) ∈ jws := jws_5 (List.mem_of_getElem? (i := 123) rfl) rfl
theorem jw_1084 : (Jvm.Cond.static ({ cls := "CoinNode$Chain", name := "setTarget", desc := "([II)V" } : Jvm.MethodName)) ∈ jws := jws_5 (List.mem_of_getElem? (i := 124) rfl) rfl
theorem jw_1085 : (Jvm.Cond.code ({ cls := "CoinNode$Chain", name := "setTarget", desc := "([II)V" } : Jvm.MethodName) prog_3_method_15_code (6 : Nat) (Option.none : Option Jvm.ClassFile.FieldType)) ∈ jws := jws_5 (List.mem_of_getElem? (i := 125) rfl) rfl
theorem jw_1086 : (Jvm.Cond.constant "CoinNode$Chain" (209 : Nat) (8388607 : Int32)) ∈ jws := jws_5 (List.mem_of_getElem? (i := 126) rfl) rfl
theorem jw_1087 : (Jvm.Cond.methodLink "CoinNode$Chain" (210 : Nat) ({ cls := "java/util/Arrays", name := "fill", desc := "([II)V" } : Jvm.MethodName)) ∈ jws := jws_5 (List.mem_of_getElem? (i := 127) rfl) rfl
theorem jw_1088 : (Jvm.Cond.constantLong "CoinNode$Chain" (196 : Nat) (4294967295 : Int64)) ∈ jws := jws_5 (List.mem_of_getElem? (i := 128) rfl) rfl
theorem jw_1089 : (Jvm.Cond.constantLong "CoinNode$Chain" (198 : Nat) (4800 : Int64)) ∈ jws := jws_5 (List.mem_of_getElem? (i := 129) rfl) rfl
theorem jw_1090 : (Jvm.Cond.methodLink "CoinNode$Chain" (167 : Nat) ({ cls := "CoinNode$Chain", name := "compare", desc := "([I[I)I" } : Jvm.MethodName)) ∈ jws := jws_5 (List.mem_of_getElem? (i := 130) rfl) rfl
theorem jw_1091 : (Jvm.Cond.static ({ cls := "CoinNode$Chain", name := "compare", desc := "([I[I)I" } : Jvm.MethodName)) ∈ jws := jws_5 (List.mem_of_getElem? (i := 131) rfl) rfl
theorem jw_1092 : (Jvm.Cond.code ({ cls := "CoinNode$Chain", name := "compare", desc := "([I[I)I" } : Jvm.MethodName) prog_3_method_16_code (3 : Nat) (Option.some Jvm.ClassFile.FieldType.int)) ∈ jws := jws_5 (List.mem_of_getElem? (i := 132) rfl) rfl
theorem jw_1093 : (Jvm.Cond.methodLink "CoinNode$Chain" (215 : Nat) ({ cls := "java/lang/Math", name := "min", desc := "(II)I" } : Jvm.MethodName)) ∈ jws := jws_5 (List.mem_of_getElem? (i := 133) rfl) rfl
theorem jw_1094 : (Jvm.Cond.methodLink "CoinNode$Chain" (200 : Nat) ({ cls := "CoinNode$Chain", name := "compact", desc := "([I)I" } : Jvm.MethodName)) ∈ jws := jws_5 (List.mem_of_getElem? (i := 134) rfl) rfl
theorem jw_1095 : (Jvm.Cond.static ({ cls := "CoinNode$Chain", name := "compact", desc := "([I)I" } : Jvm.MethodName)) ∈ jws := jws_5 (List.mem_of_getElem? (i := 135) rfl) rfl
theorem jw_1096 : (Jvm.Cond.code ({ cls := "CoinNode$Chain", name := "compact", desc := "([I)I" } : Jvm.MethodName) prog_3_method_13_code (3 : Nat) (Option.some Jvm.ClassFile.FieldType.int)) ∈ jws := jws_5 (List.mem_of_getElem? (i := 136) rfl) rfl
theorem jw_1097 : (Jvm.Cond.methodLink "CoinNode$Chain" (204 : Nat) ({ cls := "CoinNode$Chain", name := "byteOf", desc := "([II)I" } : Jvm.MethodName)) ∈ jws := jws_5 (List.mem_of_getElem? (i := 137) rfl) rfl
theorem jw_1098 : (Jvm.Cond.static ({ cls := "CoinNode$Chain", name := "byteOf", desc := "([II)I" } : Jvm.MethodName)) ∈ jws := jws_5 (List.mem_of_getElem? (i := 138) rfl) rfl
theorem jw_1099 : (Jvm.Cond.code ({ cls := "CoinNode$Chain", name := "byteOf", desc := "([II)I" } : Jvm.MethodName) prog_3_method_14_code (2 : Nat) (Option.some Jvm.ClassFile.FieldType.int)) ∈ jws := jws_5 (List.mem_of_getElem? (i := 139) rfl) rfl
theorem jw_1100 : (Jvm.Cond.constant "CoinNode$Chain" (208 : Nat) (8388608 : Int32)) ∈ jws := jws_5 (List.mem_of_getElem? (i := 140) rfl) rfl
theorem jw_1101 : (Jvm.Cond.methodLink "CoinNode$Chain" (110 : Nat) ({ cls := "CoinNode$Chain", name := "median", desc := "(LCoinNode$Block;)J" } : Jvm.MethodName)) ∈ jws := jws_5 (List.mem_of_getElem? (i := 141) rfl) rfl
theorem jw_1103 : (Jvm.Cond.instanceMethod ({ cls := "CoinNode$Chain", name := "median", desc := "(LCoinNode$Block;)J" } : Jvm.MethodName)) ∈ jws := jws_5 (List.mem_of_getElem? (i := 143) rfl) rfl
theorem jw_1104 : (Jvm.Cond.code ({ cls := "CoinNode$Chain", name := "median", desc := "(LCoinNode$Block;)J" } : Jvm.MethodName) prog_3_method_11_code (5 : Nat) (Option.some Jvm.ClassFile.FieldType.long)) ∈ jws := jws_5 (List.mem_of_getElem? (i := 144) rfl) rfl
theorem jw_1105 : (Jvm.Cond.methodLink "CoinNode$Chain" (118 : Nat) ({ cls := "CoinNode$Chain", name := "isAbove", desc := "([B[I)Z" } : Jvm.MethodName)) ∈ jws := jws_5 (List.mem_of_getElem? (i := 145) rfl) rfl
theorem jw_1106 : (Jvm.Cond.static ({ cls := "CoinNode$Chain", name := "isAbove", desc := "([B[I)Z" } : Jvm.MethodName)) ∈ jws := jws_5 (List.mem_of_getElem? (i := 146) rfl) rfl
theorem jw_1107 : (Jvm.Cond.code ({ cls := "CoinNode$Chain", name := "isAbove", desc := "([B[I)Z" } : Jvm.MethodName) prog_3_method_17_code (5 : Nat) (Option.some Jvm.ClassFile.FieldType.boolean)) ∈ jws := jws_5 (List.mem_of_getElem? (i := 147) rfl) rfl
theorem jw_1108 : (Jvm.Cond.methodLink "CoinNode$Chain" (122 : Nat) ({ cls := "CoinNode$Block", name := "isShaped", desc := "()Z" } : Jvm.MethodName)) ∈ jws := jws_5 (List.mem_of_getElem? (i := 148) rfl) rfl
theorem jw_1109 : (Jvm.Cond.instanceMethod ({ cls := "CoinNode$Block", name := "isShaped", desc := "()Z" } : Jvm.MethodName)) ∈ jws := jws_5 (List.mem_of_getElem? (i := 149) rfl) rfl
theorem jw_1110 : (Jvm.Cond.selects "CoinNode$Block" ({ cls := "CoinNode$Block", name := "isShaped", desc := "()Z" } : Jvm.MethodName) ({ cls := "CoinNode$Block", name := "isShaped", desc := "()Z" } : Jvm.MethodName)) ∈ jws := jws_5 (List.mem_of_getElem? (i := 150) rfl) rfl
theorem jw_1111 : (Jvm.Cond.code ({ cls := "CoinNode$Block", name := "isShaped", desc := "()Z" } : Jvm.MethodName) prog_2_method_3_code (3 : Nat) (Option.some Jvm.ClassFile.FieldType.boolean)) ∈ jws := jws_5 (List.mem_of_getElem? (i := 151) rfl) rfl
theorem jw_1112 : (Jvm.Cond.methodLink "CoinNode$Block" (69 : Nat) ({ cls := "CoinNode$Tx", name := "inputScript", desc := "(I)I" } : Jvm.MethodName)) ∈ jws := jws_5 (List.mem_of_getElem? (i := 152) rfl) rfl
theorem jw_1113 : (Jvm.Cond.methodLink "CoinNode$Block" (73 : Nat) ({ cls := "CoinNode$Tx", name := "scriptSize", desc := "(I)I" } : Jvm.MethodName)) ∈ jws := jws_5 (List.mem_of_getElem? (i := 153) rfl) rfl
theorem jw_1114 : (Jvm.Cond.methodLink "CoinNode$Chain" (126 : Nat) ({ cls := "CoinNode$Block", name := "isRooted", desc := "([B[BLCoinNode$Hash;)Z" } : Jvm.MethodName)) ∈ jws := jws_5 (List.mem_of_getElem? (i := 154) rfl) rfl
theorem jw_1115 : (Jvm.Cond.instanceMethod ({ cls := "CoinNode$Block", name := "isRooted", desc := "([B[BLCoinNode$Hash;)Z" } : Jvm.MethodName)) ∈ jws := jws_5 (List.mem_of_getElem? (i := 155) rfl) rfl
theorem jw_1116 : (Jvm.Cond.selects "CoinNode$Block" ({ cls := "CoinNode$Block", name := "isRooted", desc := "([B[BLCoinNode$Hash;)Z" } : Jvm.MethodName) ({ cls := "CoinNode$Block", name := "isRooted", desc := "([B[BLCoinNode$Hash;)Z" } : Jvm.MethodName)) ∈ jws := jws_5 (List.mem_of_getElem? (i := 156) rfl) rfl
theorem jw_1117 : (Jvm.Cond.code ({ cls := "CoinNode$Block", name := "isRooted", desc := "([B[BLCoinNode$Hash;)Z" } : Jvm.MethodName) prog_2_method_4_code (9 : Nat) (Option.some Jvm.ClassFile.FieldType.boolean)) ∈ jws := jws_5 (List.mem_of_getElem? (i := 157) rfl) rfl
theorem jw_1118 : (Jvm.Cond.methodLink "CoinNode$Block" (76 : Nat) ({ cls := "java/lang/Math", name := "min", desc := "(II)I" } : Jvm.MethodName)) ∈ jws := jws_5 (List.mem_of_getElem? (i := 158) rfl) rfl
theorem jw_1119 : (Jvm.Cond.methodLink "CoinNode$Block" (82 : Nat) ({ cls := "java/lang/System", name := "arraycopy", desc := "(Ljava/lang/Object;ILjava/lang/Object;II)V" } : Jvm.MethodName)) ∈ jws := jws_5 (List.mem_of_getElem? (i := 159) rfl) rfl
theorem jw_1120 : (Jvm.Cond.methodLink "CoinNode$Block" (88 : Nat) ({ cls := "CoinNode$Hash", name := "same", desc := "([BI[BI)Z" } : Jvm.MethodName)) ∈ jws := jws_5 (List.mem_of_getElem? (i := 160) rfl) rfl
theorem jw_1121 : (Jvm.Cond.methodLink "CoinNode$Chain" (130 : Nat) ({ cls := "CoinNode$Block", name := "isFaulty", desc := "()Z" } : Jvm.MethodName)) ∈ jws := jws_5 (List.mem_of_getElem? (i := 161) rfl) rfl
theorem jw_1122 : (Jvm.Cond.instanceMethod ({ cls := "CoinNode$Block", name := "isFaulty", desc := "()Z" } : Jvm.MethodName)) ∈ jws := jws_5 (List.mem_of_getElem? (i := 162) rfl) rfl
theorem jw_1123 : (Jvm.Cond.selects "CoinNode$Block" ({ cls := "CoinNode$Block", name := "isFaulty", desc := "()Z" } : Jvm.MethodName) ({ cls := "CoinNode$Block", name := "isFaulty", desc := "()Z" } : Jvm.MethodName)) ∈ jws := jws_5 (List.mem_of_getElem? (i := 163) rfl) rfl
theorem jw_1124 : (Jvm.Cond.code ({ cls := "CoinNode$Block", name := "isFaulty", desc := "()Z" } : Jvm.MethodName) prog_2_method_5_code (4 : Nat) (Option.some Jvm.ClassFile.FieldType.boolean)) ∈ jws := jws_5 (List.mem_of_getElem? (i := 164) rfl) rfl
theorem jw_1125 : (Jvm.Cond.methodLink "CoinNode$Block" (95 : Nat) ({ cls := "CoinNode$Tx", name := "isTooMuch", desc := "()Z" } : Jvm.MethodName)) ∈ jws := jws_5 (List.mem_of_getElem? (i := 165) rfl) rfl
theorem jw_1126 : (Jvm.Cond.methodLink "CoinNode$Block" (99 : Nat) ({ cls := "CoinNode$Tx", name := "fault", desc := "()I" } : Jvm.MethodName)) ∈ jws := jws_5 (List.mem_of_getElem? (i := 166) rfl) rfl
theorem jw_1127 : (Jvm.Cond.methodLink "CoinNode" (104 : Nat) ({ cls := "CoinNode$Chain", name := "adopt", desc := "(LCoinNode$Block;)I" } : Jvm.MethodName)) ∈ jws := jws_5 (List.mem_of_getElem? (i := 167) rfl) rfl
theorem jw_1128 : (Jvm.Cond.instanceMethod ({ cls := "CoinNode$Chain", name := "adopt", desc := "(LCoinNode$Block;)I" } : Jvm.MethodName)) ∈ jws := jws_5 (List.mem_of_getElem? (i := 168) rfl) rfl
theorem jw_1129 : (Jvm.Cond.selects "CoinNode$Chain" ({ cls := "CoinNode$Chain", name := "adopt", desc := "(LCoinNode$Block;)I" } : Jvm.MethodName) ({ cls := "CoinNode$Chain", name := "adopt", desc := "(LCoinNode$Block;)I" } : Jvm.MethodName)) ∈ jws := jws_5 (List.mem_of_getElem? (i := 169) rfl) rfl
theorem jw_1130 : (Jvm.Cond.code ({ cls := "CoinNode$Chain", name := "adopt", desc := "(LCoinNode$Block;)I" } : Jvm.MethodName) prog_3_method_5_code (9 : Nat) (Option.some Jvm.ClassFile.FieldType.int)) ∈ jws := jws_5 (List.mem_of_getElem? (i := 170) rfl) rfl
theorem jw_1131 : (Jvm.Cond.methodLink "CoinNode$Chain" (136 : Nat) ({ cls := "CoinNode$Chain", name := "setWork", desc := "(LCoinNode$Block;)V" } : Jvm.MethodName)) ∈ jws := jws_5 (List.mem_of_getElem? (i := 171) rfl) rfl
theorem jw_1133 : (Jvm.Cond.instanceMethod ({ cls := "CoinNode$Chain", name := "setWork", desc := "(LCoinNode$Block;)V" } : Jvm.MethodName)) ∈ jws := jws_5 (List.mem_of_getElem? (i := 173) rfl) rfl
theorem jw_1134 : (Jvm.Cond.code ({ cls := "CoinNode$Chain", name := "setWork", desc := "(LCoinNode$Block;)V" } : Jvm.MethodName) prog_3_method_18_code (7 : Nat) (Option.none : Option Jvm.ClassFile.FieldType)) ∈ jws := jws_5 (List.mem_of_getElem? (i := 174) rfl) rfl
theorem jw_1135 : (Jvm.Cond.methodLink "CoinNode$Chain" (140 : Nat) ({ cls := "CoinNode$Chain", name := "best", desc := "()LCoinNode$Block;" } : Jvm.MethodName)) ∈ jws := jws_5 (List.mem_of_getElem? (i := 175) rfl) rfl
theorem jw_1137 : (Jvm.Cond.instanceMethod ({ cls := "CoinNode$Chain", name := "best", desc := "()LCoinNode$Block;" } : Jvm.MethodName)) ∈ jws := jws_5 (List.mem_of_getElem? (i := 177) rfl) rfl
theorem jw_1138 : (Jvm.Cond.code ({ cls := "CoinNode$Chain", name := "best", desc := "()LCoinNode$Block;" } : Jvm.MethodName) prog_3_method_6_code (5 : Nat) (Option.some (Jvm.ClassFile.FieldType.object "CoinNode$Block"))) ∈ jws := jws_5 (List.mem_of_getElem? (i := 178) rfl) rfl
theorem jw_1139 : (Jvm.Cond.methodLink "CoinNode$Chain" (144 : Nat) ({ cls := "CoinNode$Chain", name := "layWay", desc := "(LCoinNode$Block;)I" } : Jvm.MethodName)) ∈ jws := jws_5 (List.mem_of_getElem? (i := 179) rfl) rfl
theorem jw_1141 : (Jvm.Cond.instanceMethod ({ cls := "CoinNode$Chain", name := "layWay", desc := "(LCoinNode$Block;)I" } : Jvm.MethodName)) ∈ jws := jws_5 (List.mem_of_getElem? (i := 181) rfl) rfl
theorem jw_1142 : (Jvm.Cond.code ({ cls := "CoinNode$Chain", name := "layWay", desc := "(LCoinNode$Block;)I" } : Jvm.MethodName) prog_3_method_7_code (4 : Nat) (Option.some Jvm.ClassFile.FieldType.int)) ∈ jws := jws_5 (List.mem_of_getElem? (i := 182) rfl) rfl
theorem jw_1143 : (Jvm.Cond.methodLink "CoinNode$Chain" (171 : Nat) ({ cls := "CoinNode$Chain", name := "at", desc := "(I)LCoinNode$Block;" } : Jvm.MethodName)) ∈ jws := jws_5 (List.mem_of_getElem? (i := 183) rfl) rfl
theorem jw_1144 : (Jvm.Cond.instanceMethod ({ cls := "CoinNode$Chain", name := "at", desc := "(I)LCoinNode$Block;" } : Jvm.MethodName)) ∈ jws := jws_5 (List.mem_of_getElem? (i := 184) rfl) rfl
theorem jw_1145 : (Jvm.Cond.selects "CoinNode$Chain" ({ cls := "CoinNode$Chain", name := "at", desc := "(I)LCoinNode$Block;" } : Jvm.MethodName) ({ cls := "CoinNode$Chain", name := "at", desc := "(I)LCoinNode$Block;" } : Jvm.MethodName)) ∈ jws := jws_5 (List.mem_of_getElem? (i := 185) rfl) rfl
theorem jw_1146 : (Jvm.Cond.code ({ cls := "CoinNode$Chain", name := "at", desc := "(I)LCoinNode$Block;" } : Jvm.MethodName) prog_3_method_2_code (2 : Nat) (Option.some (Jvm.ClassFile.FieldType.object "CoinNode$Block"))) ∈ jws := jws_5 (List.mem_of_getElem? (i := 186) rfl) rfl
theorem jw_1147 : (Jvm.Cond.methodLink "CoinNode$Chain" (147 : Nat) ({ cls := "CoinNode$Chain", name := "replay", desc := "(I)V" } : Jvm.MethodName)) ∈ jws := jws_5 (List.mem_of_getElem? (i := 187) rfl) rfl
theorem jw_1149 : (Jvm.Cond.instanceMethod ({ cls := "CoinNode$Chain", name := "replay", desc := "(I)V" } : Jvm.MethodName)) ∈ jws := jws_5 (List.mem_of_getElem? (i := 189) rfl) rfl
theorem jw_1150 : (Jvm.Cond.code ({ cls := "CoinNode$Chain", name := "replay", desc := "(I)V" } : Jvm.MethodName) prog_3_method_8_code (3 : Nat) (Option.none : Option Jvm.ClassFile.FieldType)) ∈ jws := jws_5 (List.mem_of_getElem? (i := 190) rfl) rfl
theorem jw_1151 : (Jvm.Cond.methodLink "CoinNode$Chain" (175 : Nat) ({ cls := "CoinNode$Coins", name := "clear", desc := "()V" } : Jvm.MethodName)) ∈ jws := jws_5 (List.mem_of_getElem? (i := 191) rfl) rfl
theorem jw_1152 : (Jvm.Cond.instanceMethod ({ cls := "CoinNode$Coins", name := "clear", desc := "()V" } : Jvm.MethodName)) ∈ jws := jws_5 (List.mem_of_getElem? (i := 192) rfl) rfl
theorem jw_1153 : (Jvm.Cond.selects "CoinNode$Coins" ({ cls := "CoinNode$Coins", name := "clear", desc := "()V" } : Jvm.MethodName) ({ cls := "CoinNode$Coins", name := "clear", desc := "()V" } : Jvm.MethodName)) ∈ jws := jws_5 (List.mem_of_getElem? (i := 193) rfl) rfl
theorem jw_1154 : (Jvm.Cond.code ({ cls := "CoinNode$Coins", name := "clear", desc := "()V" } : Jvm.MethodName) prog_4_method_2_code (1 : Nat) (Option.none : Option Jvm.ClassFile.FieldType)) ∈ jws := jws_5 (List.mem_of_getElem? (i := 194) rfl) rfl
theorem jw_1155 : (Jvm.Cond.methodLink "CoinNode$Chain" (178 : Nat) ({ cls := "CoinNode$Coins", name := "apply", desc := "(LCoinNode$Block;)V" } : Jvm.MethodName)) ∈ jws := jws_5 (List.mem_of_getElem? (i := 195) rfl) rfl
theorem jw_1156 : (Jvm.Cond.instanceMethod ({ cls := "CoinNode$Coins", name := "apply", desc := "(LCoinNode$Block;)V" } : Jvm.MethodName)) ∈ jws := jws_5 (List.mem_of_getElem? (i := 196) rfl) rfl
theorem jw_1157 : (Jvm.Cond.selects "CoinNode$Coins" ({ cls := "CoinNode$Coins", name := "apply", desc := "(LCoinNode$Block;)V" } : Jvm.MethodName) ({ cls := "CoinNode$Coins", name := "apply", desc := "(LCoinNode$Block;)V" } : Jvm.MethodName)) ∈ jws := jws_5 (List.mem_of_getElem? (i := 197) rfl) rfl
theorem jw_1158 : (Jvm.Cond.code ({ cls := "CoinNode$Coins", name := "apply", desc := "(LCoinNode$Block;)V" } : Jvm.MethodName) prog_4_method_8_code (3 : Nat) (Option.none : Option Jvm.ClassFile.FieldType)) ∈ jws := jws_5 (List.mem_of_getElem? (i := 198) rfl) rfl
theorem jw_1159 : (Jvm.Cond.methodLink "CoinNode$Coins" (89 : Nat) ({ cls := "CoinNode$Coins", name := "change", desc := "(LCoinNode$Tx;IZ)V" } : Jvm.MethodName)) ∈ jws := jws_5 (List.mem_of_getElem? (i := 199) rfl) rfl
theorem jw_1161 : (Jvm.Cond.instanceMethod ({ cls := "CoinNode$Coins", name := "change", desc := "(LCoinNode$Tx;IZ)V" } : Jvm.MethodName)) ∈ jws := jws_5 (List.mem_of_getElem? (i := 201) rfl) rfl
theorem jw_1162 : (Jvm.Cond.code ({ cls := "CoinNode$Coins", name := "change", desc := "(LCoinNode$Tx;IZ)V" } : Jvm.MethodName) prog_4_method_11_code (6 : Nat) (Option.none : Option Jvm.ClassFile.FieldType)) ∈ jws := jws_5 (List.mem_of_getElem? (i := 202) rfl) rfl
theorem jw_1163 : (Jvm.Cond.methodLink "CoinNode$Coins" (98 : Nat) ({ cls := "CoinNode$Tx", name := "index", desc := "(I)I" } : Jvm.MethodName)) ∈ jws := jws_5 (List.mem_of_getElem? (i := 203) rfl) rfl
theorem jw_1164 : (Jvm.Cond.methodLink "CoinNode$Coins" (102 : Nat) ({ cls := "CoinNode$Coins", name := "find", desc := "([BII)I" } : Jvm.MethodName)) ∈ jws := jws_5 (List.mem_of_getElem? (i := 204) rfl) rfl
theorem jw_1165 : (Jvm.Cond.methodLink "CoinNode$Coins" (49 : Nat) ({ cls := "CoinNode$Tx", name := "worth", desc := "(I)J" } : Jvm.MethodName)) ∈ jws := jws_5 (List.mem_of_getElem? (i := 205) rfl) rfl
theorem jw_1166 : (Jvm.Cond.methodLink "CoinNode$Chain" (151 : Nat) ({ cls := "CoinNode$Coins", name := "judge", desc := "(LCoinNode$Block;LCoinNode$Scripts;)I" } : Jvm.MethodName)) ∈ jws := jws_5 (List.mem_of_getElem? (i := 206) rfl) rfl
theorem jw_1167 : (Jvm.Cond.instanceMethod ({ cls := "CoinNode$Coins", name := "judge", desc := "(LCoinNode$Block;LCoinNode$Scripts;)I" } : Jvm.MethodName)) ∈ jws := jws_5 (List.mem_of_getElem? (i := 207) rfl) rfl
theorem jw_1168 : (Jvm.Cond.selects "CoinNode$Coins" ({ cls := "CoinNode$Coins", name := "judge", desc := "(LCoinNode$Block;LCoinNode$Scripts;)I" } : Jvm.MethodName) ({ cls := "CoinNode$Coins", name := "judge", desc := "(LCoinNode$Block;LCoinNode$Scripts;)I" } : Jvm.MethodName)) ∈ jws := jws_5 (List.mem_of_getElem? (i := 208) rfl) rfl
theorem jw_1169 : (Jvm.Cond.code ({ cls := "CoinNode$Coins", name := "judge", desc := "(LCoinNode$Block;LCoinNode$Scripts;)I" } : Jvm.MethodName) prog_4_method_7_code (8 : Nat) (Option.some Jvm.ClassFile.FieldType.int)) ∈ jws := jws_5 (List.mem_of_getElem? (i := 209) rfl) rfl
theorem jw_1170 : (Jvm.Cond.methodLink "CoinNode$Coins" (57 : Nat) ({ cls := "CoinNode$Scripts", name := "begin", desc := "(I)V" } : Jvm.MethodName)) ∈ jws := jws_5 (List.mem_of_getElem? (i := 210) rfl) rfl
theorem jw_1171 : (Jvm.Cond.methodLink "CoinNode$Coins" (71 : Nat) ({ cls := "CoinNode$Coins", name := "take", desc := "(LCoinNode$Tx;I)I" } : Jvm.MethodName)) ∈ jws := jws_5 (List.mem_of_getElem? (i := 211) rfl) rfl
theorem jw_1173 : (Jvm.Cond.instanceMethod ({ cls := "CoinNode$Coins", name := "take", desc := "(LCoinNode$Tx;I)I" } : Jvm.MethodName)) ∈ jws := jws_5 (List.mem_of_getElem? (i := 213) rfl) rfl
theorem jw_1174 : (Jvm.Cond.code ({ cls := "CoinNode$Coins", name := "take", desc := "(LCoinNode$Tx;I)I" } : Jvm.MethodName) prog_4_method_9_code (6 : Nat) (Option.some Jvm.ClassFile.FieldType.int)) ∈ jws := jws_5 (List.mem_of_getElem? (i := 214) rfl) rfl
theorem jw_1175 : (Jvm.Cond.methodLink "CoinNode$Coins" (106 : Nat) ({ cls := "CoinNode$Coins", name := "isUnripe", desc := "(II)Z" } : Jvm.MethodName)) ∈ jws := jws_5 (List.mem_of_getElem? (i := 215) rfl) rfl
theorem jw_1176 : (Jvm.Cond.methodLink "CoinNode$Coins" (110 : Nat) ({ cls := "CoinNode$Coins", name := "worth", desc := "(I)J" } : Jvm.MethodName)) ∈ jws := jws_5 (List.mem_of_getElem? (i := 216) rfl) rfl
theorem jw_1177 : (Jvm.Cond.instanceMethod ({ cls := "CoinNode$Coins", name := "worth", desc := "(I)J" } : Jvm.MethodName)) ∈ jws := jws_5 (List.mem_of_getElem? (i := 217) rfl) rfl
theorem jw_1178 : (Jvm.Cond.selects "CoinNode$Coins" ({ cls := "CoinNode$Coins", name := "worth", desc := "(I)J" } : Jvm.MethodName) ({ cls := "CoinNode$Coins", name := "worth", desc := "(I)J" } : Jvm.MethodName)) ∈ jws := jws_5 (List.mem_of_getElem? (i := 218) rfl) rfl
theorem jw_1179 : (Jvm.Cond.code ({ cls := "CoinNode$Coins", name := "worth", desc := "(I)J" } : Jvm.MethodName) prog_4_method_5_code (2 : Nat) (Option.some Jvm.ClassFile.FieldType.long)) ∈ jws := jws_5 (List.mem_of_getElem? (i := 219) rfl) rfl
theorem jw_1180 : (Jvm.Cond.methodLink "CoinNode$Coins" (75 : Nat) ({ cls := "CoinNode$Scripts", name := "pass", desc := "(LCoinNode$Tx;[LCoinNode$Tx;[I)Z" } : Jvm.MethodName)) ∈ jws := jws_5 (List.mem_of_getElem? (i := 220) rfl) rfl
theorem jw_1181 : (Jvm.Cond.methodLink "CoinNode$Coins" (82 : Nat) ({ cls := "CoinNode$Coins", name := "faultOfMaking", desc := "(LCoinNode$Tx;I)I" } : Jvm.MethodName)) ∈ jws := jws_5 (List.mem_of_getElem? (i := 221) rfl) rfl
theorem jw_1183 : (Jvm.Cond.instanceMethod ({ cls := "CoinNode$Coins", name := "faultOfMaking", desc := "(LCoinNode$Tx;I)I" } : Jvm.MethodName)) ∈ jws := jws_5 (List.mem_of_getElem? (i := 223) rfl) rfl
theorem jw_1184 : (Jvm.Cond.code ({ cls := "CoinNode$Coins", name := "faultOfMaking", desc := "(LCoinNode$Tx;I)I" } : Jvm.MethodName) prog_4_method_10_code (4 : Nat) (Option.some Jvm.ClassFile.FieldType.int)) ∈ jws := jws_5 (List.mem_of_getElem? (i := 224) rfl) rfl
theorem jw_1185 : (Jvm.Cond.constantLong "CoinNode$Coins" (93 : Nat) (5000000000 : Int64)) ∈ jws := jws_5 (List.mem_of_getElem? (i := 225) rfl) rfl
theorem jw_1186 : (Jvm.Cond.methodLink "CoinNode$Chain" (157 : Nat) ({ cls := "CoinNode$Chain", name := "move", desc := "(ILCoinNode$Block;)V" } : Jvm.MethodName)) ∈ jws := jws_5 (List.mem_of_getElem? (i := 226) rfl) rfl
theorem jw_1188 : (Jvm.Cond.instanceMethod ({ cls := "CoinNode$Chain", name := "move", desc := "(ILCoinNode$Block;)V" } : Jvm.MethodName)) ∈ jws := jws_5 (List.mem_of_getElem? (i := 228) rfl) rfl
theorem jw_1189 : (Jvm.Cond.code ({ cls := "CoinNode$Chain", name := "move", desc := "(ILCoinNode$Block;)V" } : Jvm.MethodName) prog_3_method_9_code (4 : Nat) (Option.none : Option Jvm.ClassFile.FieldType)) ∈ jws := jws_5 (List.mem_of_getElem? (i := 229) rfl) rfl
theorem jw_1190 : (Jvm.Cond.methodLink "CoinNode$Chain" (161 : Nat) ({ cls := "CoinNode$Chain", name := "condemn", desc := "(LCoinNode$Block;)V" } : Jvm.MethodName)) ∈ jws := jws_5 (List.mem_of_getElem? (i := 230) rfl) rfl
theorem jw_1192 : (Jvm.Cond.instanceMethod ({ cls := "CoinNode$Chain", name := "condemn", desc := "(LCoinNode$Block;)V" } : Jvm.MethodName)) ∈ jws := jws_5 (List.mem_of_getElem? (i := 232) rfl) rfl
theorem jw_1193 : (Jvm.Cond.code ({ cls := "CoinNode$Chain", name := "condemn", desc := "(LCoinNode$Block;)V" } : Jvm.MethodName) prog_3_method_10_code (4 : Nat) (Option.none : Option Jvm.ClassFile.FieldType)) ∈ jws := jws_5 (List.mem_of_getElem? (i := 233) rfl) rfl
theorem jw_1194 : (Jvm.Cond.methodLink "CoinNode" (117 : Nat) ({ cls := "CoinNode$Pool", name := "makeAnew", desc := "([LCoinNode$Block;II)V" } : Jvm.MethodName)) ∈ jws := jws_5 (List.mem_of_getElem? (i := 234) rfl) rfl
theorem jw_1195 : (Jvm.Cond.instanceMethod ({ cls := "CoinNode$Pool", name := "makeAnew", desc := "([LCoinNode$Block;II)V" } : Jvm.MethodName)) ∈ jws := jws_5 (List.mem_of_getElem? (i := 235) rfl) rfl
theorem jw_1196 : (Jvm.Cond.selects "CoinNode$Pool" ({ cls := "CoinNode$Pool", name := "makeAnew", desc := "([LCoinNode$Block;II)V" } : Jvm.MethodName) ({ cls := "CoinNode$Pool", name := "makeAnew", desc := "([LCoinNode$Block;II)V" } : Jvm.MethodName)) ∈ jws := jws_5 (List.mem_of_getElem? (i := 236) rfl) rfl
theorem jw_1197 : (Jvm.Cond.code ({ cls := "CoinNode$Pool", name := "makeAnew", desc := "([LCoinNode$Block;II)V" } : Jvm.MethodName) prog_8_method_5_code (7 : Nat) (Option.none : Option Jvm.ClassFile.FieldType)) ∈ jws := jws_5 (List.mem_of_getElem? (i := 237) rfl) rfl
theorem jw_1198 : (Jvm.Cond.methodLink "CoinNode$Pool" (95 : Nat) ({ cls := "java/lang/System", name := "arraycopy", desc := "(Ljava/lang/Object;ILjava/lang/Object;II)V" } : Jvm.MethodName)) ∈ jws := jws_5 (List.mem_of_getElem? (i := 238) rfl) rfl
theorem jw_1199 : (Jvm.Cond.methodLink "CoinNode$Pool" (104 : Nat) ({ cls := "CoinNode$Pool", name := "offer", desc := "(LCoinNode$Tx;IZ)I" } : Jvm.MethodName)) ∈ jws := jws_5 (List.mem_of_getElem? (i := 239) rfl) rfl
theorem jw_1200 : (Jvm.Cond.methodLink "CoinNode" (121 : Nat) ({ cls := "CoinNode", name := "answerBlock", desc := "(ILCoinNode$Block;IZ)V" } : Jvm.MethodName)) ∈ jws := jws_6 (List.mem_of_getElem? (i := 0) rfl) rfl
theorem jw_1202 : (Jvm.Cond.instanceMethod ({ cls := "CoinNode", name := "answerBlock", desc := "(ILCoinNode$Block;IZ)V" } : Jvm.MethodName)) ∈ jws := jws_6 (List.mem_of_getElem? (i := 2) rfl) rfl
theorem jw_1203 : (Jvm.Cond.code ({ cls := "CoinNode", name := "answerBlock", desc := "(ILCoinNode$Block;IZ)V" } : Jvm.MethodName) prog_1_method_13_code (5 : Nat) (Option.none : Option Jvm.ClassFile.FieldType)) ∈ jws := jws_6 (List.mem_of_getElem? (i := 3) rfl) rfl
theorem jw_1204 : (Jvm.Cond.methodLink "CoinNode" (199 : Nat) ({ cls := "CoinNode", name := "askWhatIsBehind", desc := "(I)V" } : Jvm.MethodName)) ∈ jws := jws_6 (List.mem_of_getElem? (i := 4) rfl) rfl
theorem jw_1206 : (Jvm.Cond.instanceMethod ({ cls := "CoinNode", name := "askWhatIsBehind", desc := "(I)V" } : Jvm.MethodName)) ∈ jws := jws_6 (List.mem_of_getElem? (i := 6) rfl) rfl
theorem jw_1207 : (Jvm.Cond.code ({ cls := "CoinNode", name := "askWhatIsBehind", desc := "(I)V" } : Jvm.MethodName) prog_1_method_16_code (7 : Nat) (Option.none : Option Jvm.ClassFile.FieldType)) ∈ jws := jws_6 (List.mem_of_getElem? (i := 7) rfl) rfl
theorem jw_1208 : (Jvm.Cond.methodLink "CoinNode" (144 : Nat) ({ cls := "CoinNode$Chain", name := "at", desc := "(I)LCoinNode$Block;" } : Jvm.MethodName)) ∈ jws := jws_6 (List.mem_of_getElem? (i := 8) rfl) rfl
theorem jw_1209 : (Jvm.Cond.methodLink "CoinNode" (214 : Nat) ({ cls := "java/lang/Math", name := "max", desc := "(II)I" } : Jvm.MethodName)) ∈ jws := jws_6 (List.mem_of_getElem? (i := 9) rfl) rfl
theorem jw_1210 : (Jvm.Cond.methodLink "CoinNode" (125 : Nat) ({ cls := "CoinNode", name := "answerWhatIsBehind", desc := "(I[B)V" } : Jvm.MethodName)) ∈ jws := jws_6 (List.mem_of_getElem? (i := 10) rfl) rfl
theorem jw_1212 : (Jvm.Cond.instanceMethod ({ cls := "CoinNode", name := "answerWhatIsBehind", desc := "(I[B)V" } : Jvm.MethodName)) ∈ jws := jws_6 (List.mem_of_getElem? (i := 12) rfl) rfl
theorem jw_1213 : (Jvm.Cond.code ({ cls := "CoinNode", name := "answerWhatIsBehind", desc := "(I[B)V" } : Jvm.MethodName) prog_1_method_17_code (8 : Nat) (Option.none : Option Jvm.ClassFile.FieldType)) ∈ jws := jws_6 (List.mem_of_getElem? (i := 13) rfl) rfl
theorem jw_1214 : (Jvm.Cond.methodLink "CoinNode" (217 : Nat) ({ cls := "CoinNode$Chain", name := "find", desc := "([BI)LCoinNode$Block;" } : Jvm.MethodName)) ∈ jws := jws_6 (List.mem_of_getElem? (i := 14) rfl) rfl
theorem jw_1215 : (Jvm.Cond.methodLink "CoinNode" (138 : Nat) ({ cls := "java/lang/Math", name := "min", desc := "(II)I" } : Jvm.MethodName)) ∈ jws := jws_6 (List.mem_of_getElem? (i := 15) rfl) rfl
theorem jw_1216 : (Jvm.Cond.methodLink "CoinNode" (128 : Nat) ({ cls := "CoinNode", name := "answerGive", desc := "(I[B)V" } : Jvm.MethodName)) ∈ jws := jws_6 (List.mem_of_getElem? (i := 16) rfl) rfl
theorem jw_1218 : (Jvm.Cond.instanceMethod ({ cls := "CoinNode", name := "answerGive", desc := "(I[B)V" } : Jvm.MethodName)) ∈ jws := jws_6 (List.mem_of_getElem? (i := 18) rfl) rfl
theorem jw_1219 : (Jvm.Cond.code ({ cls := "CoinNode", name := "answerGive", desc := "(I[B)V" } : Jvm.MethodName) prog_1_method_18_code (6 : Nat) (Option.none : Option Jvm.ClassFile.FieldType)) ∈ jws := jws_6 (List.mem_of_getElem? (i := 19) rfl) rfl
theorem jw_1220 : (Jvm.Cond.methodLink "CoinNode" (223 : Nat) ({ cls := "CoinNode", name := "isList", desc := "([B)Z" } : Jvm.MethodName)) ∈ jws := jws_6 (List.mem_of_getElem? (i := 20) rfl) rfl
theorem jw_1221 : (Jvm.Cond.static ({ cls := "CoinNode", name := "isList", desc := "([B)Z" } : Jvm.MethodName)) ∈ jws := jws_6 (List.mem_of_getElem? (i := 21) rfl) rfl
theorem jw_1222 : (Jvm.Cond.code ({ cls := "CoinNode", name := "isList", desc := "([B)Z" } : Jvm.MethodName) prog_1_method_20_code (3 : Nat) (Option.some Jvm.ClassFile.FieldType.boolean)) ∈ jws := jws_6 (List.mem_of_getElem? (i := 22) rfl) rfl
theorem jw_1223 : (Jvm.Cond.methodLink "CoinNode" (227 : Nat) ({ cls := "CoinNode$Pool", name := "find", desc := "([BI)LCoinNode$Tx;" } : Jvm.MethodName)) ∈ jws := jws_6 (List.mem_of_getElem? (i := 23) rfl) rfl
theorem jw_1224 : (Jvm.Cond.methodLink "CoinNode" (131 : Nat) ({ cls := "CoinNode", name := "answerIHave", desc := "(I[B)V" } : Jvm.MethodName)) ∈ jws := jws_6 (List.mem_of_getElem? (i := 24) rfl) rfl
theorem jw_1226 : (Jvm.Cond.instanceMethod ({ cls := "CoinNode", name := "answerIHave", desc := "(I[B)V" } : Jvm.MethodName)) ∈ jws := jws_6 (List.mem_of_getElem? (i := 26) rfl) rfl
theorem jw_1227 : (Jvm.Cond.code ({ cls := "CoinNode", name := "answerIHave", desc := "(I[B)V" } : Jvm.MethodName) prog_1_method_19_code (6 : Nat) (Option.none : Option Jvm.ClassFile.FieldType)) ∈ jws := jws_6 (List.mem_of_getElem? (i := 27) rfl) rfl
theorem jw_1228 : (Jvm.Cond.methodLink "CoinNodeLaw" (23 : Nat) ({ cls := "CoinNode", name := "fetch", desc := "(I)J" } : Jvm.MethodName)) ∈ jws := jws_6 (List.mem_of_getElem? (i := 28) rfl) rfl
theorem jw_1229 : (Jvm.Cond.instanceMethod ({ cls := "CoinNode", name := "fetch", desc := "(I)J" } : Jvm.MethodName)) ∈ jws := jws_6 (List.mem_of_getElem? (i := 29) rfl) rfl
theorem jw_1230 : (Jvm.Cond.selects "CoinNode" ({ cls := "CoinNode", name := "fetch", desc := "(I)J" } : Jvm.MethodName) ({ cls := "CoinNode", name := "fetch", desc := "(I)J" } : Jvm.MethodName)) ∈ jws := jws_6 (List.mem_of_getElem? (i := 30) rfl) rfl
theorem jw_1231 : (Jvm.Cond.code ({ cls := "CoinNode", name := "fetch", desc := "(I)J" } : Jvm.MethodName) prog_1_method_4_code (8 : Nat) (Option.some Jvm.ClassFile.FieldType.long)) ∈ jws := jws_6 (List.mem_of_getElem? (i := 31) rfl) rfl
theorem jw_1232 : (Jvm.Cond.methodLink "CoinNodeLaw" (28 : Nat) ({ cls := "CoinNode", name := "block", desc := "(II)J" } : Jvm.MethodName)) ∈ jws := jws_6 (List.mem_of_getElem? (i := 32) rfl) rfl
theorem jw_1233 : (Jvm.Cond.instanceMethod ({ cls := "CoinNode", name := "block", desc := "(II)J" } : Jvm.MethodName)) ∈ jws := jws_6 (List.mem_of_getElem? (i := 33) rfl) rfl
theorem jw_1234 : (Jvm.Cond.selects "CoinNode" ({ cls := "CoinNode", name := "block", desc := "(II)J" } : Jvm.MethodName) ({ cls := "CoinNode", name := "block", desc := "(II)J" } : Jvm.MethodName)) ∈ jws := jws_6 (List.mem_of_getElem? (i := 34) rfl) rfl
theorem jw_1235 : (Jvm.Cond.code ({ cls := "CoinNode", name := "block", desc := "(II)J" } : Jvm.MethodName) prog_1_method_5_code (7 : Nat) (Option.some Jvm.ClassFile.FieldType.long)) ∈ jws := jws_6 (List.mem_of_getElem? (i := 35) rfl) rfl
theorem jw_1236 : (Jvm.Cond.methodLink "CoinNodeLaw" (35 : Nat) ({ cls := "CoinNode", name := "key", desc := "(JJJJI)V" } : Jvm.MethodName)) ∈ jws := jws_6 (List.mem_of_getElem? (i := 36) rfl) rfl
theorem jw_1237 : (Jvm.Cond.instanceMethod ({ cls := "CoinNode", name := "key", desc := "(JJJJI)V" } : Jvm.MethodName)) ∈ jws := jws_6 (List.mem_of_getElem? (i := 37) rfl) rfl
theorem jw_1238 : (Jvm.Cond.selects "CoinNode" ({ cls := "CoinNode", name := "key", desc := "(JJJJI)V" } : Jvm.MethodName) ({ cls := "CoinNode", name := "key", desc := "(JJJJI)V" } : Jvm.MethodName)) ∈ jws := jws_6 (List.mem_of_getElem? (i := 38) rfl) rfl
theorem jw_1239 : (Jvm.Cond.code ({ cls := "CoinNode", name := "key", desc := "(JJJJI)V" } : Jvm.MethodName) prog_1_method_6_code (12 : Nat) (Option.none : Option Jvm.ClassFile.FieldType)) ∈ jws := jws_6 (List.mem_of_getElem? (i := 39) rfl) rfl
theorem jw_1240 : (Jvm.Cond.methodLink "CoinNodeLaw" (40 : Nat) ({ cls := "CoinNode", name := "value", desc := "()J" } : Jvm.MethodName)) ∈ jws := jws_6 (List.mem_of_getElem? (i := 40) rfl) rfl
theorem jw_1241 : (Jvm.Cond.instanceMethod ({ cls := "CoinNode", name := "value", desc := "()J" } : Jvm.MethodName)) ∈ jws := jws_6 (List.mem_of_getElem? (i := 41) rfl) rfl
theorem jw_1242 : (Jvm.Cond.selects "CoinNode" ({ cls := "CoinNode", name := "value", desc := "()J" } : Jvm.MethodName) ({ cls := "CoinNode", name := "value", desc := "()J" } : Jvm.MethodName)) ∈ jws := jws_6 (List.mem_of_getElem? (i := 42) rfl) rfl
theorem jw_1243 : (Jvm.Cond.code ({ cls := "CoinNode", name := "value", desc := "()J" } : Jvm.MethodName) prog_1_method_7_code (2 : Nat) (Option.some Jvm.ClassFile.FieldType.long)) ∈ jws := jws_6 (List.mem_of_getElem? (i := 43) rfl) rfl
theorem jw_1244 : (Jvm.Cond.methodLink "CoinNode" (154 : Nat) ({ cls := "CoinNode$Coins", name := "find", desc := "([BII)I" } : Jvm.MethodName)) ∈ jws := jws_6 (List.mem_of_getElem? (i := 44) rfl) rfl
theorem jw_1245 : (Jvm.Cond.constantLong "CoinNode" (158 : Nat) (-1 : Int64)) ∈ jws := jws_6 (List.mem_of_getElem? (i := 45) rfl) rfl
theorem jw_1246 : (Jvm.Cond.methodLink "CoinNode" (160 : Nat) ({ cls := "CoinNode$Coins", name := "worth", desc := "(I)J" } : Jvm.MethodName)) ∈ jws := jws_6 (List.mem_of_getElem? (i := 46) rfl) rfl
theorem jw_1247 : (Jvm.Cond.methodLink "CoinNodeLaw" (45 : Nat) ({ cls := "CoinNode", name := "total", desc := "()J" } : Jvm.MethodName)) ∈ jws := jws_6 (List.mem_of_getElem? (i := 47) rfl) rfl
theorem jw_1248 : (Jvm.Cond.instanceMethod ({ cls := "CoinNode", name := "total", desc := "()J" } : Jvm.MethodName)) ∈ jws := jws_6 (List.mem_of_getElem? (i := 48) rfl) rfl
theorem jw_1249 : (Jvm.Cond.selects "CoinNode" ({ cls := "CoinNode", name := "total", desc := "()J" } : Jvm.MethodName) ({ cls := "CoinNode", name := "total", desc := "()J" } : Jvm.MethodName)) ∈ jws := jws_6 (List.mem_of_getElem? (i := 49) rfl) rfl
theorem jw_1250 : (Jvm.Cond.code ({ cls := "CoinNode", name := "total", desc := "()J" } : Jvm.MethodName) prog_1_method_8_code (1 : Nat) (Option.some Jvm.ClassFile.FieldType.long)) ∈ jws := jws_6 (List.mem_of_getElem? (i := 50) rfl) rfl
theorem jw_1251 : (Jvm.Cond.methodLink "CoinNodeLaw" (49 : Nat) ({ cls := "CoinNode", name := "count", desc := "(I)I" } : Jvm.MethodName)) ∈ jws := jws_6 (List.mem_of_getElem? (i := 51) rfl) rfl
theorem jw_1252 : (Jvm.Cond.instanceMethod ({ cls := "CoinNode", name := "count", desc := "(I)I" } : Jvm.MethodName)) ∈ jws := jws_6 (List.mem_of_getElem? (i := 52) rfl) rfl
theorem jw_1253 : (Jvm.Cond.selects "CoinNode" ({ cls := "CoinNode", name := "count", desc := "(I)I" } : Jvm.MethodName) ({ cls := "CoinNode", name := "count", desc := "(I)I" } : Jvm.MethodName)) ∈ jws := jws_6 (List.mem_of_getElem? (i := 53) rfl) rfl
theorem jw_1254 : (Jvm.Cond.code ({ cls := "CoinNode", name := "count", desc := "(I)I" } : Jvm.MethodName) prog_1_method_9_code (2 : Nat) (Option.some Jvm.ClassFile.FieldType.int)) ∈ jws := jws_6 (List.mem_of_getElem? (i := 54) rfl) rfl
theorem jw_1255 : (Jvm.Cond.methodLink "CoinNodeLaw" (54 : Nat) ({ cls := "CoinNode", name := "fees", desc := "()J" } : Jvm.MethodName)) ∈ jws := jws_6 (List.mem_of_getElem? (i := 55) rfl) rfl
theorem jw_1256 : (Jvm.Cond.instanceMethod ({ cls := "CoinNode", name := "fees", desc := "()J" } : Jvm.MethodName)) ∈ jws := jws_6 (List.mem_of_getElem? (i := 56) rfl) rfl
theorem jw_1257 : (Jvm.Cond.selects "CoinNode" ({ cls := "CoinNode", name := "fees", desc := "()J" } : Jvm.MethodName) ({ cls := "CoinNode", name := "fees", desc := "()J" } : Jvm.MethodName)) ∈ jws := jws_6 (List.mem_of_getElem? (i := 57) rfl) rfl
theorem jw_1258 : (Jvm.Cond.code ({ cls := "CoinNode", name := "fees", desc := "()J" } : Jvm.MethodName) prog_1_method_10_code (1 : Nat) (Option.some Jvm.ClassFile.FieldType.long)) ∈ jws := jws_6 (List.mem_of_getElem? (i := 58) rfl) rfl
theorem jw_1259 : (Jvm.Cond.methodLink "CoinNode" (176 : Nat) ({ cls := "CoinNode$Pool", name := "gain", desc := "()J" } : Jvm.MethodName)) ∈ jws := jws_6 (List.mem_of_getElem? (i := 59) rfl) rfl
theorem jw_1260 : (Jvm.Cond.instanceMethod ({ cls := "CoinNode$Pool", name := "gain", desc := "()J" } : Jvm.MethodName)) ∈ jws := jws_6 (List.mem_of_getElem? (i := 60) rfl) rfl
theorem jw_1261 : (Jvm.Cond.selects "CoinNode$Pool" ({ cls := "CoinNode$Pool", name := "gain", desc := "()J" } : Jvm.MethodName) ({ cls := "CoinNode$Pool", name := "gain", desc := "()J" } : Jvm.MethodName)) ∈ jws := jws_6 (List.mem_of_getElem? (i := 61) rfl) rfl
theorem jw_1262 : (Jvm.Cond.code ({ cls := "CoinNode$Pool", name := "gain", desc := "()J" } : Jvm.MethodName) prog_8_method_2_code (4 : Nat) (Option.some Jvm.ClassFile.FieldType.long)) ∈ jws := jws_6 (List.mem_of_getElem? (i := 62) rfl) rfl
theorem jw_1263 : (Jvm.Cond.classLink "CoinNodeLaw" (10 : Nat) "CoinNodeModel") ∈ jws := jws_6 (List.mem_of_getElem? (i := 63) rfl) rfl
theorem jw_1264 : (Jvm.Cond.instantiable "CoinNodeModel" (61 : Nat)) ∈ jws := jws_6 (List.mem_of_getElem? (i := 64) rfl) rfl
theorem jw_1265 : (Jvm.Cond.methodLink "CoinNodeLaw" (12 : Nat) ({ cls := "CoinNodeModel", name := "<init>", desc := "()V" } : Jvm.MethodName)) ∈ jws := jws_6 (List.mem_of_getElem? (i := 65) rfl) rfl
theorem jw_1266 : (Jvm.Cond.instanceMethod ({ cls := "CoinNodeModel", name := "<init>", desc := "()V" } : Jvm.MethodName)) ∈ jws := jws_6 (List.mem_of_getElem? (i := 66) rfl) rfl
theorem jw_1267 : (Jvm.Cond.code ({ cls := "CoinNodeModel", name := "<init>", desc := "()V" } : Jvm.MethodName) prog_14_method_2_code (2 : Nat) (Option.none : Option Jvm.ClassFile.FieldType)) ∈ jws := jws_6 (List.mem_of_getElem? (i := 67) rfl) rfl
theorem jw_1268 : (Jvm.Cond.methodLink "CoinNodeModel" (1 : Nat) ({ cls := "java/lang/Object", name := "<init>", desc := "()V" } : Jvm.MethodName)) ∈ jws := jws_6 (List.mem_of_getElem? (i := 68) rfl) rfl
theorem jw_1269 : (Jvm.Cond.classLink "CoinNodeModel" (7 : Nat) "CoinNodeModel$Hashes") ∈ jws := jws_6 (List.mem_of_getElem? (i := 69) rfl) rfl
theorem jw_1270 : (Jvm.Cond.instantiable "CoinNodeModel$Hashes" (4 : Nat)) ∈ jws := jws_6 (List.mem_of_getElem? (i := 70) rfl) rfl
theorem jw_1272 : (Jvm.Cond.instanceMethod ({ cls := "CoinNodeModel$Hashes", name := "<init>", desc := "()V" } : Jvm.MethodName)) ∈ jws := jws_6 (List.mem_of_getElem? (i := 72) rfl) rfl
theorem jw_1273 : (Jvm.Cond.code ({ cls := "CoinNodeModel$Hashes", name := "<init>", desc := "()V" } : Jvm.MethodName) prog_16_method_1_code (1 : Nat) (Option.none : Option Jvm.ClassFile.FieldType)) ∈ jws := jws_6 (List.mem_of_getElem? (i := 73) rfl) rfl
theorem jw_1274 : (Jvm.Cond.methodLink "CoinNodeModel$Hashes" (1 : Nat) ({ cls := "java/lang/Object", name := "<init>", desc := "()V" } : Jvm.MethodName)) ∈ jws := jws_6 (List.mem_of_getElem? (i := 74) rfl) rfl
theorem jw_1275 : (Jvm.Cond.fieldLink "CoinNodeModel$Hashes" (7 : Nat) "CoinNodeModel$Hashes" "row" "[I") ∈ jws := jws_6 (List.mem_of_getElem? (i := 75) rfl) rfl
theorem jw_1276 : (Jvm.Cond.fieldLink "CoinNodeModel$Hashes" (13 : Nat) "CoinNodeModel$Hashes" "h" "[I") ∈ jws := jws_6 (List.mem_of_getElem? (i := 76) rfl) rfl
theorem jw_1277 : (Jvm.Cond.fieldLink "CoinNodeModel$Hashes" (16 : Nat) "CoinNodeModel$Hashes" "v" "[I") ∈ jws := jws_6 (List.mem_of_getElem? (i := 77) rfl) rfl
theorem jw_1278 : (Jvm.Cond.fieldLink "CoinNodeModel$Hashes" (19 : Nat) "CoinNodeModel$Hashes" "once" "[B") ∈ jws := jws_6 (List.mem_of_getElem? (i := 78) rfl) rfl
theorem jw_1279 : (Jvm.Cond.laysFinal "CoinNodeModel$Hashes" "CoinNodeModel$Hashes" "row" "[I") ∈ jws := jws_6 (List.mem_of_getElem? (i := 79) rfl) rfl
theorem jw_1281 : (Jvm.Cond.laysFinal "CoinNodeModel$Hashes" "CoinNodeModel$Hashes" "h" "[I") ∈ jws := jws_6 (List.mem_of_getElem? (i := 81) rfl) rfl
theorem jw_1283 : (Jvm.Cond.laysFinal "CoinNodeModel$Hashes" "CoinNodeModel$Hashes" "v" "[I") ∈ jws := jws_6 (List.mem_of_getElem? (i := 83) rfl) rfl
theorem jw_1285 : (Jvm.Cond.laysFinal "CoinNodeModel$Hashes" "CoinNodeModel$Hashes" "once" "[B") ∈ jws := jws_6 (List.mem_of_getElem? (i := 85) rfl) rfl
theorem jw_1288 : (Jvm.Cond.classLink "CoinNodeModel" (16 : Nat) "CoinNodeModel$Signing") ∈ jws := jws_6 (List.mem_of_getElem? (i := 88) rfl) rfl
theorem jw_1289 : (Jvm.Cond.instantiable "CoinNodeModel$Signing" (10 : Nat)) ∈ jws := jws_6 (List.mem_of_getElem? (i := 89) rfl) rfl
theorem jw_1290 : (Jvm.Cond.methodLink "CoinNodeModel" (18 : Nat) ({ cls := "CoinNodeModel$Signing", name := "<init>", desc := "(LCoinNodeModel$Hashes;)V" } : Jvm.MethodName)) ∈ jws := jws_6 (List.mem_of_getElem? (i := 90) rfl) rfl
theorem jw_1291 : (Jvm.Cond.instanceMethod ({ cls := "CoinNodeModel$Signing", name := "<init>", desc := "(LCoinNodeModel$Hashes;)V" } : Jvm.MethodName)) ∈ jws := jws_6 (List.mem_of_getElem? (i := 91) rfl) rfl
theorem jw_1292 : (Jvm.Cond.code ({ cls := "CoinNodeModel$Signing", name := "<init>", desc := "(LCoinNodeModel$Hashes;)V" } : Jvm.MethodName) prog_19_method_1_code (2 : Nat) (Option.none : Option Jvm.ClassFile.FieldType)) ∈ jws := jws_6 (List.mem_of_getElem? (i := 92) rfl) rfl
theorem jw_1293 : (Jvm.Cond.methodLink "CoinNodeModel$Signing" (1 : Nat) ({ cls := "java/lang/Object", name := "<init>", desc := "()V" } : Jvm.MethodName)) ∈ jws := jws_6 (List.mem_of_getElem? (i := 93) rfl) rfl
theorem jw_1294 : (Jvm.Cond.classLink "CoinNodeModel$Signing" (7 : Nat) "CoinNodeModel$Points") ∈ jws := jws_6 (List.mem_of_getElem? (i := 94) rfl) rfl
theorem jw_1295 : (Jvm.Cond.instantiable "CoinNodeModel$Points" (7 : Nat)) ∈ jws := jws_6 (List.mem_of_getElem? (i := 95) rfl) rfl
theorem jw_1296 : (Jvm.Cond.methodLink "CoinNodeModel$Signing" (9 : Nat) ({ cls := "CoinNodeModel$Points", name := "<init>", desc := "()V" } : Jvm.MethodName)) ∈ jws := jws_6 (List.mem_of_getElem? (i := 96) rfl) rfl
theorem jw_1297 : (Jvm.Cond.instanceMethod ({ cls := "CoinNodeModel$Points", name := "<init>", desc := "()V" } : Jvm.MethodName)) ∈ jws := jws_6 (List.mem_of_getElem? (i := 97) rfl) rfl
theorem jw_1298 : (Jvm.Cond.code ({ cls := "CoinNodeModel$Points", name := "<init>", desc := "()V" } : Jvm.MethodName) prog_17_method_1_code (5 : Nat) (Option.none : Option Jvm.ClassFile.FieldType)) ∈ jws := jws_6 (List.mem_of_getElem? (i := 98) rfl) rfl
theorem jw_1299 : (Jvm.Cond.methodLink "CoinNodeModel$Points" (1 : Nat) ({ cls := "java/lang/Object", name := "<init>", desc := "()V" } : Jvm.MethodName)) ∈ jws := jws_6 (List.mem_of_getElem? (i := 99) rfl) rfl
theorem jw_1300 : (Jvm.Cond.constantLong "CoinNodeModel$Points" (30 : Nat) (-1 : Int64)) ∈ jws := jws_6 (List.mem_of_getElem? (i := 100) rfl) rfl
theorem jw_1301 : (Jvm.Cond.constantLong "CoinNodeModel$Points" (32 : Nat) (-4294968273 : Int64)) ∈ jws := jws_6 (List.mem_of_getElem? (i := 101) rfl) rfl
theorem jw_1302 : (Jvm.Cond.methodLink "CoinNodeModel$Points" (34 : Nat) ({ cls := "CoinNodeModel$Points", name := "write", desc := "(IJJJJ)V" } : Jvm.MethodName)) ∈ jws := jws_6 (List.mem_of_getElem? (i := 102) rfl) rfl
theorem jw_1304 : (Jvm.Cond.instanceMethod ({ cls := "CoinNodeModel$Points", name := "write", desc := "(IJJJJ)V" } : Jvm.MethodName)) ∈ jws := jws_6 (List.mem_of_getElem? (i := 104) rfl) rfl
theorem jw_1305 : (Jvm.Cond.code ({ cls := "CoinNodeModel$Points", name := "write", desc := "(IJJJJ)V" } : Jvm.MethodName) prog_17_method_3_code (13 : Nat) (Option.none : Option Jvm.ClassFile.FieldType)) ∈ jws := jws_6 (List.mem_of_getElem? (i := 105) rfl) rfl
theorem jw_1306 : (Jvm.Cond.methodLink "CoinNodeModel$Points" (62 : Nat) ({ cls := "CoinNodeModel$Points", name := "nothing", desc := "(I)V" } : Jvm.MethodName)) ∈ jws := jws_6 (List.mem_of_getElem? (i := 106) rfl) rfl
theorem jw_1308 : (Jvm.Cond.instanceMethod ({ cls := "CoinNodeModel$Points", name := "nothing", desc := "(I)V" } : Jvm.MethodName)) ∈ jws := jws_6 (List.mem_of_getElem? (i := 108) rfl) rfl
theorem jw_1309 : (Jvm.Cond.code ({ cls := "CoinNodeModel$Points", name := "nothing", desc := "(I)V" } : Jvm.MethodName) prog_17_method_5_code (3 : Nat) (Option.none : Option Jvm.ClassFile.FieldType)) ∈ jws := jws_6 (List.mem_of_getElem? (i := 109) rfl) rfl
theorem jw_1310 : (Jvm.Cond.methodLink "CoinNodeModel$Points" (66 : Nat) ({ cls := "CoinNodeModel$Points", name := "wordOf", desc := "(IJJJJ)J" } : Jvm.MethodName)) ∈ jws := jws_6 (List.mem_of_getElem? (i := 110) rfl) rfl
theorem jw_1311 : (Jvm.Cond.static ({ cls := "CoinNodeModel$Points", name := "wordOf", desc := "(IJJJJ)J" } : Jvm.MethodName)) ∈ jws := jws_6 (List.mem_of_getElem? (i := 111) rfl) rfl
theorem jw_1312 : (Jvm.Cond.code ({ cls := "CoinNodeModel$Points", name := "wordOf", desc := "(IJJJJ)J" } : Jvm.MethodName) prog_17_method_2_code (9 : Nat) (Option.some Jvm.ClassFile.FieldType.long)) ∈ jws := jws_6 (List.mem_of_getElem? (i := 112) rfl) rfl
theorem jw_1313 : (Jvm.Cond.constantLong "CoinNodeModel$Points" (38 : Nat) (-2 : Int64)) ∈ jws := jws_6 (List.mem_of_getElem? (i := 113) rfl) rfl
theorem jw_1314 : (Jvm.Cond.constantLong "CoinNodeModel$Points" (40 : Nat) (-4994812053365940165 : Int64)) ∈ jws := jws_6 (List.mem_of_getElem? (i := 114) rfl) rfl
theorem jw_1315 : (Jvm.Cond.constantLong "CoinNodeModel$Points" (42 : Nat) (-4624529908474429119 : Int64)) ∈ jws := jws_6 (List.mem_of_getElem? (i := 115) rfl) rfl
theorem jw_1316 : (Jvm.Cond.constantLong "CoinNodeModel$Points" (44 : Nat) (8772561819708210092 : Int64)) ∈ jws := jws_6 (List.mem_of_getElem? (i := 116) rfl) rfl
theorem jw_1317 : (Jvm.Cond.constantLong "CoinNodeModel$Points" (46 : Nat) (6170039885052185351 : Int64)) ∈ jws := jws_6 (List.mem_of_getElem? (i := 117) rfl) rfl
theorem jw_1318 : (Jvm.Cond.constantLong "CoinNodeModel$Points" (48 : Nat) (188021827762530521 : Int64)) ∈ jws := jws_6 (List.mem_of_getElem? (i := 118) rfl) rfl
theorem jw_1319 : (Jvm.Cond.constantLong "CoinNodeModel$Points" (50 : Nat) (6481385041966929816 : Int64)) ∈ jws := jws_6 (List.mem_of_getElem? (i := 119) rfl) rfl
theorem jw_1320 : (Jvm.Cond.constantLong "CoinNodeModel$Points" (52 : Nat) (5204712524664259685 : Int64)) ∈ jws := jws_6 (List.mem_of_getElem? (i := 120) rfl) rfl
theorem jw_1321 : (Jvm.Cond.constantLong "CoinNodeModel$Points" (54 : Nat) (6747795201694173352 : Int64)) ∈ jws := jws_6 (List.mem_of_getElem? (i := 121) rfl) rfl
theorem jw_1322 : (Jvm.Cond.constantLong "CoinNodeModel$Points" (56 : Nat) (-209500633525038055 : Int64)) ∈ jws := jws_6 (List.mem_of_getElem? (i := 122) rfl) rfl
theorem jw_1323 : (Jvm.Cond.constantLong "CoinNodeModel$Points" (58 : Nat) (-7185545363635252040 : Int64)) ∈ jws := jws_6 (List.mem_of_getElem? (i := 123) rfl) rfl
theorem jw_1324 : (Jvm.Cond.constant "CoinNodeModel$Points" (60 : Nat) (67108863 : Int32)) ∈ jws := jws_6 (List.mem_of_getElem? (i := 124) rfl) rfl
theorem jw_1325 : (Jvm.Cond.constant "CoinNodeModel$Points" (61 : Nat) (4194303 : Int32)) ∈ jws := jws_6 (List.mem_of_getElem? (i := 125) rfl) rfl
theorem jw_1326 : (Jvm.Cond.fieldLink "CoinNodeModel$Points" (7 : Nat) "CoinNodeModel$Points" "rows" "[I") ∈ jws := jws_6 (List.mem_of_getElem? (i := 126) rfl) rfl
theorem jw_1327 : (Jvm.Cond.fieldLink "CoinNodeModel$Points" (13 : Nat) "CoinNodeModel$Points" "product" "[J") ∈ jws := jws_6 (List.mem_of_getElem? (i := 127) rfl) rfl
theorem jw_1328 : (Jvm.Cond.fieldLink "CoinNodeModel$Points" (17 : Nat) "CoinNodeModel$Points" "folded" "[J") ∈ jws := jws_6 (List.mem_of_getElem? (i := 128) rfl) rfl
theorem jw_1329 : (Jvm.Cond.fieldLink "CoinNodeModel$Points" (20 : Nat) "CoinNodeModel$Points" "rest" "[I") ∈ jws := jws_6 (List.mem_of_getElem? (i := 129) rfl) rfl
theorem jw_1330 : (Jvm.Cond.fieldLink "CoinNodeModel$Points" (23 : Nat) "CoinNodeModel$Points" "none" "[Z") ∈ jws := jws_6 (List.mem_of_getElem? (i := 130) rfl) rfl
theorem jw_1331 : (Jvm.Cond.fieldLink "CoinNodeModel$Points" (27 : Nat) "CoinNodeModel$Points" "bytes" "[I") ∈ jws := jws_6 (List.mem_of_getElem? (i := 131) rfl) rfl
theorem jw_1332 : (Jvm.Cond.fieldLink "CoinNodeModel$Points" (163 : Nat) "CoinNodeModel$Points" "many" "I") ∈ jws := jws_6 (List.mem_of_getElem? (i := 132) rfl) rfl
theorem jw_1333 : (Jvm.Cond.laysFinal "CoinNodeModel$Points" "CoinNodeModel$Points" "rows" "[I") ∈ jws := jws_6 (List.mem_of_getElem? (i := 133) rfl) rfl
theorem jw_1335 : (Jvm.Cond.laysFinal "CoinNodeModel$Points" "CoinNodeModel$Points" "product" "[J") ∈ jws := jws_6 (List.mem_of_getElem? (i := 135) rfl) rfl
theorem jw_1337 : (Jvm.Cond.laysFinal "CoinNodeModel$Points" "CoinNodeModel$Points" "folded" "[J") ∈ jws := jws_6 (List.mem_of_getElem? (i := 137) rfl) rfl
theorem jw_1339 : (Jvm.Cond.laysFinal "CoinNodeModel$Points" "CoinNodeModel$Points" "rest" "[I") ∈ jws := jws_6 (List.mem_of_getElem? (i := 139) rfl) rfl
theorem jw_1341 : (Jvm.Cond.laysFinal "CoinNodeModel$Points" "CoinNodeModel$Points" "none" "[Z") ∈ jws := jws_6 (List.mem_of_getElem? (i := 141) rfl) rfl
theorem jw_1343 : (Jvm.Cond.laysFinal "CoinNodeModel$Points" "CoinNodeModel$Points" "bytes" "[I") ∈ jws := jws_6 (List.mem_of_getElem? (i := 143) rfl) rfl
theorem jw_1345 : (Jvm.Cond.lays "CoinNodeModel$Points" "CoinNodeModel$Points" "many" "I") ∈ jws := jws_6 (List.mem_of_getElem? (i := 145) rfl) rfl
theorem jw_1348 : (Jvm.Cond.fieldLink "CoinNodeModel$Signing" (23 : Nat) "CoinNodeModel$Signing" "hashes" "LCoinNodeModel$Hashes;") ∈ jws := jws_6 (List.mem_of_getElem? (i := 148) rfl) rfl
theorem jw_1349 : (Jvm.Cond.fieldLink "CoinNodeModel$Signing" (10 : Nat) "CoinNodeModel$Signing" "points" "LCoinNodeModel$Points;") ∈ jws := jws_6 (List.mem_of_getElem? (i := 149) rfl) rfl
theorem jw_1350 : (Jvm.Cond.fieldLink "CoinNodeModel$Signing" (31 : Nat) "CoinNodeModel$Signing" "tx" "LCoinNodeModel$Tx;") ∈ jws := jws_6 (List.mem_of_getElem? (i := 150) rfl) rfl
theorem jw_1352 : (Jvm.Cond.fieldLink "CoinNodeModel$Signing" (54 : Nat) "CoinNodeModel$Signing" "input" "I") ∈ jws := jws_6 (List.mem_of_getElem? (i := 152) rfl) rfl
theorem jw_1354 : (Jvm.Cond.fieldLink "CoinNodeModel$Signing" (64 : Nat) "CoinNodeModel$Signing" "lockFrom" "[B") ∈ jws := jws_6 (List.mem_of_getElem? (i := 154) rfl) rfl
theorem jw_1356 : (Jvm.Cond.fieldLink "CoinNodeModel$Signing" (67 : Nat) "CoinNodeModel$Signing" "lockAt" "I") ∈ jws := jws_6 (List.mem_of_getElem? (i := 156) rfl) rfl
theorem jw_1358 : (Jvm.Cond.fieldLink "CoinNodeModel$Signing" (61 : Nat) "CoinNodeModel$Signing" "lockSize" "I") ∈ jws := jws_6 (List.mem_of_getElem? (i := 158) rfl) rfl
theorem jw_1360 : (Jvm.Cond.fieldLink "CoinNodeModel$Signing" (16 : Nat) "CoinNodeModel$Signing" "text" "[B") ∈ jws := jws_6 (List.mem_of_getElem? (i := 160) rfl) rfl
theorem jw_1361 : (Jvm.Cond.fieldLink "CoinNodeModel$Signing" (27 : Nat) "CoinNodeModel$Signing" "size" "I") ∈ jws := jws_6 (List.mem_of_getElem? (i := 161) rfl) rfl
theorem jw_1362 : (Jvm.Cond.fieldLink "CoinNodeModel$Signing" (20 : Nat) "CoinNodeModel$Signing" "digest" "[B") ∈ jws := jws_6 (List.mem_of_getElem? (i := 162) rfl) rfl
theorem jw_1363 : (Jvm.Cond.laysFinal "CoinNodeModel$Signing" "CoinNodeModel$Signing" "hashes" "LCoinNodeModel$Hashes;") ∈ jws := jws_6 (List.mem_of_getElem? (i := 163) rfl) rfl
theorem jw_1365 : (Jvm.Cond.laysFinal "CoinNodeModel$Signing" "CoinNodeModel$Signing" "points" "LCoinNodeModel$Points;") ∈ jws := jws_6 (List.mem_of_getElem? (i := 165) rfl) rfl
theorem jw_1367 : (Jvm.Cond.lays "CoinNodeModel$Signing" "CoinNodeModel$Signing" "tx" "LCoinNodeModel$Tx;") ∈ jws := jws_6 (List.mem_of_getElem? (i := 167) rfl) rfl
theorem jw_1369 : (Jvm.Cond.lays "CoinNodeModel$Signing" "CoinNodeModel$Signing" "input" "I") ∈ jws := jws_6 (List.mem_of_getElem? (i := 169) rfl) rfl
theorem jw_1371 : (Jvm.Cond.lays "CoinNodeModel$Signing" "CoinNodeModel$Signing" "lockFrom" "[B") ∈ jws := jws_6 (List.mem_of_getElem? (i := 171) rfl) rfl
theorem jw_1373 : (Jvm.Cond.lays "CoinNodeModel$Signing" "CoinNodeModel$Signing" "lockAt" "I") ∈ jws := jws_6 (List.mem_of_getElem? (i := 173) rfl) rfl
theorem jw_1375 : (Jvm.Cond.lays "CoinNodeModel$Signing" "CoinNodeModel$Signing" "lockSize" "I") ∈ jws := jws_6 (List.mem_of_getElem? (i := 175) rfl) rfl
theorem jw_1377 : (Jvm.Cond.laysFinal "CoinNodeModel$Signing" "CoinNodeModel$Signing" "text" "[B") ∈ jws := jws_6 (List.mem_of_getElem? (i := 177) rfl) rfl
theorem jw_1379 : (Jvm.Cond.lays "CoinNodeModel$Signing" "CoinNodeModel$Signing" "size" "I") ∈ jws := jws_6 (List.mem_of_getElem? (i := 179) rfl) rfl
theorem jw_1381 : (Jvm.Cond.laysFinal "CoinNodeModel$Signing" "CoinNodeModel$Signing" "digest" "[B") ∈ jws := jws_6 (List.mem_of_getElem? (i := 181) rfl) rfl
theorem jw_1384 : (Jvm.Cond.classLink "CoinNodeModel" (25 : Nat) "CoinNodeModel$Scripts") ∈ jws := jws_6 (List.mem_of_getElem? (i := 184) rfl) rfl
theorem jw_1385 : (Jvm.Cond.instantiable "CoinNodeModel$Scripts" (17 : Nat)) ∈ jws := jws_6 (List.mem_of_getElem? (i := 185) rfl) rfl
theorem jw_1386 : (Jvm.Cond.methodLink "CoinNodeModel" (27 : Nat) ({ cls := "CoinNodeModel$Scripts", name := "<init>", desc := "(LCoinNodeModel$Hashes;LCoinNodeModel$Asker;)V" } : Jvm.MethodName)) ∈ jws := jws_6 (List.mem_of_getElem? (i := 186) rfl) rfl
theorem jw_1387 : (Jvm.Cond.instanceMethod ({ cls := "CoinNodeModel$Scripts", name := "<init>", desc := "(LCoinNodeModel$Hashes;LCoinNodeModel$Asker;)V" } : Jvm.MethodName)) ∈ jws := jws_6 (List.mem_of_getElem? (i := 187) rfl) rfl
theorem jw_1388 : (Jvm.Cond.code ({ cls := "CoinNodeModel$Scripts", name := "<init>", desc := "(LCoinNodeModel$Hashes;LCoinNodeModel$Asker;)V" } : Jvm.MethodName) prog_18_method_1_code (3 : Nat) (Option.none : Option Jvm.ClassFile.FieldType)) ∈ jws := jws_6 (List.mem_of_getElem? (i := 188) rfl) rfl
theorem jw_1389 : (Jvm.Cond.methodLink "CoinNodeModel$Scripts" (1 : Nat) ({ cls := "java/lang/Object", name := "<init>", desc := "()V" } : Jvm.MethodName)) ∈ jws := jws_6 (List.mem_of_getElem? (i := 189) rfl) rfl
theorem jw_1390 : (Jvm.Cond.fieldLink "CoinNodeModel$Scripts" (7 : Nat) "CoinNodeModel$Scripts" "bytes" "[I") ∈ jws := jws_6 (List.mem_of_getElem? (i := 190) rfl) rfl
theorem jw_1391 : (Jvm.Cond.fieldLink "CoinNodeModel$Scripts" (13 : Nat) "CoinNodeModel$Scripts" "sizes" "[I") ∈ jws := jws_6 (List.mem_of_getElem? (i := 191) rfl) rfl
theorem jw_1392 : (Jvm.Cond.fieldLink "CoinNodeModel$Scripts" (44 : Nat) "CoinNodeModel$Scripts" "size" "I") ∈ jws := jws_6 (List.mem_of_getElem? (i := 192) rfl) rfl
theorem jw_1393 : (Jvm.Cond.fieldLink "CoinNodeModel$Scripts" (129 : Nat) "CoinNodeModel$Scripts" "side" "I") ∈ jws := jws_6 (List.mem_of_getElem? (i := 193) rfl) rfl
theorem jw_1394 : (Jvm.Cond.fieldLink "CoinNodeModel$Scripts" (16 : Nat) "CoinNodeModel$Scripts" "script" "[I") ∈ jws := jws_6 (List.mem_of_getElem? (i := 194) rfl) rfl
theorem jw_1395 : (Jvm.Cond.fieldLink "CoinNodeModel$Scripts" (40 : Nat) "CoinNodeModel$Scripts" "length" "I") ∈ jws := jws_6 (List.mem_of_getElem? (i := 195) rfl) rfl
theorem jw_1396 : (Jvm.Cond.fieldLink "CoinNodeModel$Scripts" (57 : Nat) "CoinNodeModel$Scripts" "fault" "I") ∈ jws := jws_6 (List.mem_of_getElem? (i := 196) rfl) rfl
theorem jw_1397 : (Jvm.Cond.fieldLink "CoinNodeModel$Scripts" (113 : Nat) "CoinNodeModel$Scripts" "operations" "I") ∈ jws := jws_6 (List.mem_of_getElem? (i := 197) rfl) rfl
theorem jw_1398 : (Jvm.Cond.fieldLink "CoinNodeModel$Scripts" (88 : Nat) "CoinNodeModel$Scripts" "left" "I") ∈ jws := jws_6 (List.mem_of_getElem? (i := 198) rfl) rfl
theorem jw_1400 : (Jvm.Cond.fieldLink "CoinNodeModel$Scripts" (116 : Nat) "CoinNodeModel$Scripts" "depth" "I") ∈ jws := jws_6 (List.mem_of_getElem? (i := 200) rfl) rfl
theorem jw_1401 : (Jvm.Cond.fieldLink "CoinNodeModel$Scripts" (19 : Nat) "CoinNodeModel$Scripts" "parts" "[I") ∈ jws := jws_6 (List.mem_of_getElem? (i := 201) rfl) rfl
theorem jw_1402 : (Jvm.Cond.fieldLink "CoinNodeModel$Scripts" (72 : Nat) "CoinNodeModel$Scripts" "number" "J") ∈ jws := jws_6 (List.mem_of_getElem? (i := 202) rfl) rfl
theorem jw_1403 : (Jvm.Cond.fieldLink "CoinNodeModel$Scripts" (22 : Nat) "CoinNodeModel$Scripts" "message" "[B") ∈ jws := jws_6 (List.mem_of_getElem? (i := 203) rfl) rfl
theorem jw_1404 : (Jvm.Cond.fieldLink "CoinNodeModel$Scripts" (26 : Nat) "CoinNodeModel$Scripts" "other" "[B") ∈ jws := jws_6 (List.mem_of_getElem? (i := 204) rfl) rfl
theorem jw_1405 : (Jvm.Cond.fieldLink "CoinNodeModel$Scripts" (29 : Nat) "CoinNodeModel$Scripts" "made" "[B") ∈ jws := jws_6 (List.mem_of_getElem? (i := 205) rfl) rfl
theorem jw_1406 : (Jvm.Cond.fieldLink "CoinNodeModel$Scripts" (32 : Nat) "CoinNodeModel$Scripts" "hashes" "LCoinNodeModel$Hashes;") ∈ jws := jws_6 (List.mem_of_getElem? (i := 206) rfl) rfl
theorem jw_1407 : (Jvm.Cond.fieldLink "CoinNodeModel$Scripts" (36 : Nat) "CoinNodeModel$Scripts" "asker" "LCoinNodeModel$Asker;") ∈ jws := jws_6 (List.mem_of_getElem? (i := 207) rfl) rfl
theorem jw_1408 : (Jvm.Cond.laysFinal "CoinNodeModel$Scripts" "CoinNodeModel$Scripts" "bytes" "[I") ∈ jws := jws_6 (List.mem_of_getElem? (i := 208) rfl) rfl
theorem jw_1410 : (Jvm.Cond.laysFinal "CoinNodeModel$Scripts" "CoinNodeModel$Scripts" "sizes" "[I") ∈ jws := jws_6 (List.mem_of_getElem? (i := 210) rfl) rfl
theorem jw_1412 : (Jvm.Cond.lays "CoinNodeModel$Scripts" "CoinNodeModel$Scripts" "size" "I") ∈ jws := jws_6 (List.mem_of_getElem? (i := 212) rfl) rfl
theorem jw_1414 : (Jvm.Cond.lays "CoinNodeModel$Scripts" "CoinNodeModel$Scripts" "side" "I") ∈ jws := jws_6 (List.mem_of_getElem? (i := 214) rfl) rfl
theorem jw_1416 : (Jvm.Cond.laysFinal "CoinNodeModel$Scripts" "CoinNodeModel$Scripts" "script" "[I") ∈ jws := jws_6 (List.mem_of_getElem? (i := 216) rfl) rfl
theorem jw_1418 : (Jvm.Cond.lays "CoinNodeModel$Scripts" "CoinNodeModel$Scripts" "length" "I") ∈ jws := jws_6 (List.mem_of_getElem? (i := 218) rfl) rfl
theorem jw_1420 : (Jvm.Cond.lays "CoinNodeModel$Scripts" "CoinNodeModel$Scripts" "fault" "I") ∈ jws := jws_6 (List.mem_of_getElem? (i := 220) rfl) rfl
theorem jw_1422 : (Jvm.Cond.lays "CoinNodeModel$Scripts" "CoinNodeModel$Scripts" "operations" "I") ∈ jws := jws_6 (List.mem_of_getElem? (i := 222) rfl) rfl
theorem jw_1424 : (Jvm.Cond.lays "CoinNodeModel$Scripts" "CoinNodeModel$Scripts" "left" "I") ∈ jws := jws_6 (List.mem_of_getElem? (i := 224) rfl) rfl
theorem jw_1426 : (Jvm.Cond.lays "CoinNodeModel$Scripts" "CoinNodeModel$Scripts" "depth" "I") ∈ jws := jws_6 (List.mem_of_getElem? (i := 226) rfl) rfl
theorem jw_1428 : (Jvm.Cond.laysFinal "CoinNodeModel$Scripts" "CoinNodeModel$Scripts" "parts" "[I") ∈ jws := jws_6 (List.mem_of_getElem? (i := 228) rfl) rfl
theorem jw_1430 : (Jvm.Cond.lays "CoinNodeModel$Scripts" "CoinNodeModel$Scripts" "number" "J") ∈ jws := jws_6 (List.mem_of_getElem? (i := 230) rfl) rfl
theorem jw_1432 : (Jvm.Cond.laysFinal "CoinNodeModel$Scripts" "CoinNodeModel$Scripts" "message" "[B") ∈ jws := jws_6 (List.mem_of_getElem? (i := 232) rfl) rfl
theorem jw_1434 : (Jvm.Cond.laysFinal "CoinNodeModel$Scripts" "CoinNodeModel$Scripts" "other" "[B") ∈ jws := jws_6 (List.mem_of_getElem? (i := 234) rfl) rfl
theorem jw_1436 : (Jvm.Cond.laysFinal "CoinNodeModel$Scripts" "CoinNodeModel$Scripts" "made" "[B") ∈ jws := jws_6 (List.mem_of_getElem? (i := 236) rfl) rfl
theorem jw_1438 : (Jvm.Cond.laysFinal "CoinNodeModel$Scripts" "CoinNodeModel$Scripts" "hashes" "LCoinNodeModel$Hashes;") ∈ jws := jws_6 (List.mem_of_getElem? (i := 238) rfl) rfl
theorem jw_1440 : (Jvm.Cond.laysFinal "CoinNodeModel$Scripts" "CoinNodeModel$Scripts" "asker" "LCoinNodeModel$Asker;") ∈ jws := jws_7 (List.mem_of_getElem? (i := 0) rfl) rfl
theorem jw_1443 : (Jvm.Cond.classLink "CoinNodeModel" (34 : Nat) "CoinNodeModel$Tree") ∈ jws := jws_7 (List.mem_of_getElem? (i := 3) rfl) rfl
theorem jw_1444 : (Jvm.Cond.instantiable "CoinNodeModel$Tree" (12 : Nat)) ∈ jws := jws_7 (List.mem_of_getElem? (i := 4) rfl) rfl
theorem jw_1445 : (Jvm.Cond.constant "CoinNodeModel" (36 : Nat) (1000000 : Int32)) ∈ jws := jws_7 (List.mem_of_getElem? (i := 5) rfl) rfl
theorem jw_1446 : (Jvm.Cond.methodLink "CoinNodeModel" (37 : Nat) ({ cls := "CoinNodeModel$Tree", name := "<init>", desc := "(II)V" } : Jvm.MethodName)) ∈ jws := jws_7 (List.mem_of_getElem? (i := 6) rfl) rfl
theorem jw_1447 : (Jvm.Cond.instanceMethod ({ cls := "CoinNodeModel$Tree", name := "<init>", desc := "(II)V" } : Jvm.MethodName)) ∈ jws := jws_7 (List.mem_of_getElem? (i := 7) rfl) rfl
theorem jw_1448 : (Jvm.Cond.code ({ cls := "CoinNodeModel$Tree", name := "<init>", desc := "(II)V" } : Jvm.MethodName) prog_20_method_1_code (3 : Nat) (Option.none : Option Jvm.ClassFile.FieldType)) ∈ jws := jws_7 (List.mem_of_getElem? (i := 8) rfl) rfl
theorem jw_1449 : (Jvm.Cond.methodLink "CoinNodeModel$Tree" (1 : Nat) ({ cls := "java/lang/Object", name := "<init>", desc := "()V" } : Jvm.MethodName)) ∈ jws := jws_7 (List.mem_of_getElem? (i := 9) rfl) rfl
theorem jw_1450 : (Jvm.Cond.constantLong "CoinNodeModel$Tree" (46 : Nat) (4294967295 : Int64)) ∈ jws := jws_7 (List.mem_of_getElem? (i := 10) rfl) rfl
theorem jw_1451 : (Jvm.Cond.constantLong "CoinNodeModel$Tree" (48 : Nat) (545259519 : Int64)) ∈ jws := jws_7 (List.mem_of_getElem? (i := 11) rfl) rfl
theorem jw_1452 : (Jvm.Cond.methodLink "CoinNodeModel$Tree" (50 : Nat) ({ cls := "CoinNodeModel$Tree", name := "join", desc := "(IJJ)V" } : Jvm.MethodName)) ∈ jws := jws_7 (List.mem_of_getElem? (i := 12) rfl) rfl
theorem jw_1454 : (Jvm.Cond.instanceMethod ({ cls := "CoinNodeModel$Tree", name := "join", desc := "(IJJ)V" } : Jvm.MethodName)) ∈ jws := jws_7 (List.mem_of_getElem? (i := 14) rfl) rfl
theorem jw_1455 : (Jvm.Cond.code ({ cls := "CoinNodeModel$Tree", name := "join", desc := "(IJJ)V" } : Jvm.MethodName) prog_20_method_2_code (10 : Nat) (Option.none : Option Jvm.ClassFile.FieldType)) ∈ jws := jws_7 (List.mem_of_getElem? (i := 15) rfl) rfl
theorem jw_1456 : (Jvm.Cond.methodLink "CoinNodeModel$Tree" (57 : Nat) ({ cls := "CoinNodeModel$Tree", name := "open", desc := "(J[I)V" } : Jvm.MethodName)) ∈ jws := jws_7 (List.mem_of_getElem? (i := 16) rfl) rfl
theorem jw_1457 : (Jvm.Cond.static ({ cls := "CoinNodeModel$Tree", name := "open", desc := "(J[I)V" } : Jvm.MethodName)) ∈ jws := jws_7 (List.mem_of_getElem? (i := 17) rfl) rfl
theorem jw_1458 : (Jvm.Cond.code ({ cls := "CoinNodeModel$Tree", name := "open", desc := "(J[I)V" } : Jvm.MethodName) prog_20_method_6_code (8 : Nat) (Option.none : Option Jvm.ClassFile.FieldType)) ∈ jws := jws_7 (List.mem_of_getElem? (i := 18) rfl) rfl
theorem jw_1459 : (Jvm.Cond.methodLink "CoinNodeModel$Tree" (64 : Nat) ({ cls := "CoinNodeModel$Tree", name := "nothing", desc := "([I)V" } : Jvm.MethodName)) ∈ jws := jws_7 (List.mem_of_getElem? (i := 19) rfl) rfl
theorem jw_1460 : (Jvm.Cond.static ({ cls := "CoinNodeModel$Tree", name := "nothing", desc := "([I)V" } : Jvm.MethodName)) ∈ jws := jws_7 (List.mem_of_getElem? (i := 20) rfl) rfl
theorem jw_1461 : (Jvm.Cond.code ({ cls := "CoinNodeModel$Tree", name := "nothing", desc := "([I)V" } : Jvm.MethodName) prog_20_method_3_code (2 : Nat) (Option.none : Option Jvm.ClassFile.FieldType)) ∈ jws := jws_7 (List.mem_of_getElem? (i := 21) rfl) rfl
theorem jw_1462 : (Jvm.Cond.constantLong "CoinNodeModel$Tree" (68 : Nat) (8388607 : Int64)) ∈ jws := jws_7 (List.mem_of_getElem? (i := 22) rfl) rfl
theorem jw_1463 : (Jvm.Cond.constantLong "CoinNodeModel$Tree" (70 : Nat) (255 : Int64)) ∈ jws := jws_7 (List.mem_of_getElem? (i := 23) rfl) rfl
theorem jw_1464 : (Jvm.Cond.methodLink "CoinNodeModel$Tree" (61 : Nat) ({ cls := "CoinNodeModel$Tree", name := "quotient", desc := "()V" } : Jvm.MethodName)) ∈ jws := jws_7 (List.mem_of_getElem? (i := 24) rfl) rfl
theorem jw_1466 : (Jvm.Cond.instanceMethod ({ cls := "CoinNodeModel$Tree", name := "quotient", desc := "()V" } : Jvm.MethodName)) ∈ jws := jws_7 (List.mem_of_getElem? (i := 26) rfl) rfl
theorem jw_1467 : (Jvm.Cond.code ({ cls := "CoinNodeModel$Tree", name := "quotient", desc := "()V" } : Jvm.MethodName) prog_20_method_7_code (7 : Nat) (Option.none : Option Jvm.ClassFile.FieldType)) ∈ jws := jws_7 (List.mem_of_getElem? (i := 27) rfl) rfl
theorem jw_1468 : (Jvm.Cond.methodLink "CoinNodeModel$Tree" (72 : Nat) ({ cls := "CoinNodeModel$Tree", name := "compareRows", desc := "([I[I)I" } : Jvm.MethodName)) ∈ jws := jws_7 (List.mem_of_getElem? (i := 28) rfl) rfl
theorem jw_1469 : (Jvm.Cond.static ({ cls := "CoinNodeModel$Tree", name := "compareRows", desc := "([I[I)I" } : Jvm.MethodName)) ∈ jws := jws_7 (List.mem_of_getElem? (i := 29) rfl) rfl
theorem jw_1470 : (Jvm.Cond.code ({ cls := "CoinNodeModel$Tree", name := "compareRows", desc := "([I[I)I" } : Jvm.MethodName) prog_20_method_4_code (4 : Nat) (Option.some Jvm.ClassFile.FieldType.int)) ∈ jws := jws_7 (List.mem_of_getElem? (i := 30) rfl) rfl
theorem jw_1471 : (Jvm.Cond.fieldLink "CoinNodeModel$Tree" (42 : Nat) "CoinNodeModel$Tree" "most" "I") ∈ jws := jws_7 (List.mem_of_getElem? (i := 31) rfl) rfl
theorem jw_1472 : (Jvm.Cond.fieldLink "CoinNodeModel$Tree" (54 : Nat) "CoinNodeModel$Tree" "many" "I") ∈ jws := jws_7 (List.mem_of_getElem? (i := 32) rfl) rfl
theorem jw_1473 : (Jvm.Cond.fieldLink "CoinNodeModel$Tree" (7 : Nat) "CoinNodeModel$Tree" "parent" "[I") ∈ jws := jws_7 (List.mem_of_getElem? (i := 33) rfl) rfl
theorem jw_1474 : (Jvm.Cond.fieldLink "CoinNodeModel$Tree" (13 : Nat) "CoinNodeModel$Tree" "height" "[I") ∈ jws := jws_7 (List.mem_of_getElem? (i := 34) rfl) rfl
theorem jw_1475 : (Jvm.Cond.fieldLink "CoinNodeModel$Tree" (16 : Nat) "CoinNodeModel$Tree" "time" "[J") ∈ jws := jws_7 (List.mem_of_getElem? (i := 35) rfl) rfl
theorem jw_1476 : (Jvm.Cond.fieldLink "CoinNodeModel$Tree" (20 : Nat) "CoinNodeModel$Tree" "bits" "[J") ∈ jws := jws_7 (List.mem_of_getElem? (i := 36) rfl) rfl
theorem jw_1477 : (Jvm.Cond.fieldLink "CoinNodeModel$Tree" (23 : Nat) "CoinNodeModel$Tree" "bad" "[Z") ∈ jws := jws_7 (List.mem_of_getElem? (i := 37) rfl) rfl
theorem jw_1478 : (Jvm.Cond.fieldLink "CoinNodeModel$Tree" (27 : Nat) "CoinNodeModel$Tree" "sums" "[I") ∈ jws := jws_7 (List.mem_of_getElem? (i := 38) rfl) rfl
theorem jw_1479 : (Jvm.Cond.fieldLink "CoinNodeModel$Tree" (30 : Nat) "CoinNodeModel$Tree" "a" "[I") ∈ jws := jws_7 (List.mem_of_getElem? (i := 39) rfl) rfl
theorem jw_1480 : (Jvm.Cond.fieldLink "CoinNodeModel$Tree" (33 : Nat) "CoinNodeModel$Tree" "b" "[I") ∈ jws := jws_7 (List.mem_of_getElem? (i := 40) rfl) rfl
theorem jw_1481 : (Jvm.Cond.fieldLink "CoinNodeModel$Tree" (36 : Nat) "CoinNodeModel$Tree" "c" "[I") ∈ jws := jws_7 (List.mem_of_getElem? (i := 41) rfl) rfl
theorem jw_1482 : (Jvm.Cond.fieldLink "CoinNodeModel$Tree" (39 : Nat) "CoinNodeModel$Tree" "times" "[J") ∈ jws := jws_7 (List.mem_of_getElem? (i := 42) rfl) rfl
theorem jw_1483 : (Jvm.Cond.laysFinal "CoinNodeModel$Tree" "CoinNodeModel$Tree" "most" "I") ∈ jws := jws_7 (List.mem_of_getElem? (i := 43) rfl) rfl
theorem jw_1485 : (Jvm.Cond.lays "CoinNodeModel$Tree" "CoinNodeModel$Tree" "many" "I") ∈ jws := jws_7 (List.mem_of_getElem? (i := 45) rfl) rfl
theorem jw_1487 : (Jvm.Cond.laysFinal "CoinNodeModel$Tree" "CoinNodeModel$Tree" "parent" "[I") ∈ jws := jws_7 (List.mem_of_getElem? (i := 47) rfl) rfl
theorem jw_1489 : (Jvm.Cond.laysFinal "CoinNodeModel$Tree" "CoinNodeModel$Tree" "height" "[I") ∈ jws := jws_7 (List.mem_of_getElem? (i := 49) rfl) rfl
theorem jw_1491 : (Jvm.Cond.laysFinal "CoinNodeModel$Tree" "CoinNodeModel$Tree" "time" "[J") ∈ jws := jws_7 (List.mem_of_getElem? (i := 51) rfl) rfl
theorem jw_1493 : (Jvm.Cond.laysFinal "CoinNodeModel$Tree" "CoinNodeModel$Tree" "bits" "[J") ∈ jws := jws_7 (List.mem_of_getElem? (i := 53) rfl) rfl
theorem jw_1495 : (Jvm.Cond.laysFinal "CoinNodeModel$Tree" "CoinNodeModel$Tree" "bad" "[Z") ∈ jws := jws_7 (List.mem_of_getElem? (i := 55) rfl) rfl
theorem jw_1497 : (Jvm.Cond.laysFinal "CoinNodeModel$Tree" "CoinNodeModel$Tree" "sums" "[I") ∈ jws := jws_7 (List.mem_of_getElem? (i := 57) rfl) rfl
theorem jw_1499 : (Jvm.Cond.laysFinal "CoinNodeModel$Tree" "CoinNodeModel$Tree" "a" "[I") ∈ jws := jws_7 (List.mem_of_getElem? (i := 59) rfl) rfl
theorem jw_1501 : (Jvm.Cond.laysFinal "CoinNodeModel$Tree" "CoinNodeModel$Tree" "b" "[I") ∈ jws := jws_7 (List.mem_of_getElem? (i := 61) rfl) rfl
theorem jw_1503 : (Jvm.Cond.laysFinal "CoinNodeModel$Tree" "CoinNodeModel$Tree" "c" "[I") ∈ jws := jws_7 (List.mem_of_getElem? (i := 63) rfl) rfl
theorem jw_1505 : (Jvm.Cond.laysFinal "CoinNodeModel$Tree" "CoinNodeModel$Tree" "times" "[J") ∈ jws := jws_7 (List.mem_of_getElem? (i := 65) rfl) rfl
theorem jw_1508 : (Jvm.Cond.classLink "CoinNodeModel" (44 : Nat) "CoinNodeModel$Tx") ∈ jws := jws_7 (List.mem_of_getElem? (i := 68) rfl) rfl
theorem jw_1509 : (Jvm.Cond.instantiable "CoinNodeModel$Tx" (15 : Nat)) ∈ jws := jws_7 (List.mem_of_getElem? (i := 69) rfl) rfl
theorem jw_1511 : (Jvm.Cond.instanceMethod ({ cls := "CoinNodeModel$Tx", name := "<init>", desc := "()V" } : Jvm.MethodName)) ∈ jws := jws_7 (List.mem_of_getElem? (i := 71) rfl) rfl
theorem jw_1512 : (Jvm.Cond.code ({ cls := "CoinNodeModel$Tx", name := "<init>", desc := "()V" } : Jvm.MethodName) prog_21_method_1_code (1 : Nat) (Option.none : Option Jvm.ClassFile.FieldType)) ∈ jws := jws_7 (List.mem_of_getElem? (i := 72) rfl) rfl
theorem jw_1513 : (Jvm.Cond.methodLink "CoinNodeModel$Tx" (3 : Nat) ({ cls := "java/lang/Object", name := "<init>", desc := "()V" } : Jvm.MethodName)) ∈ jws := jws_7 (List.mem_of_getElem? (i := 73) rfl) rfl
theorem jw_1514 : (Jvm.Cond.fieldLink "CoinNodeModel$Tx" (52 : Nat) "CoinNodeModel$Tx" "from" "[B") ∈ jws := jws_7 (List.mem_of_getElem? (i := 74) rfl) rfl
theorem jw_1518 : (Jvm.Cond.fieldLink "CoinNodeModel$Tx" (72 : Nat) "CoinNodeModel$Tx" "at" "I") ∈ jws := jws_7 (List.mem_of_getElem? (i := 78) rfl) rfl
theorem jw_1520 : (Jvm.Cond.fieldLink "CoinNodeModel$Tx" (45 : Nat) "CoinNodeModel$Tx" "end" "I") ∈ jws := jws_7 (List.mem_of_getElem? (i := 80) rfl) rfl
theorem jw_1521 : (Jvm.Cond.fieldLink "CoinNodeModel$Tx" (41 : Nat) "CoinNodeModel$Tx" "place" "I") ∈ jws := jws_7 (List.mem_of_getElem? (i := 81) rfl) rfl
theorem jw_1525 : (Jvm.Cond.fieldLink "CoinNodeModel$Tx" (79 : Nat) "CoinNodeModel$Tx" "inputs" "I") ∈ jws := jws_7 (List.mem_of_getElem? (i := 85) rfl) rfl
theorem jw_1528 : (Jvm.Cond.fieldLink "CoinNodeModel$Tx" (82 : Nat) "CoinNodeModel$Tx" "outputs" "I") ∈ jws := jws_7 (List.mem_of_getElem? (i := 88) rfl) rfl
theorem jw_1529 : (Jvm.Cond.fieldLink "CoinNodeModel$Tx" (37 : Nat) "CoinNodeModel$Tx" "good" "Z") ∈ jws := jws_7 (List.mem_of_getElem? (i := 89) rfl) rfl
theorem jw_1530 : (Jvm.Cond.fieldLink "CoinNodeModel$Tx" (11 : Nat) "CoinNodeModel$Tx" "names" "[I") ∈ jws := jws_7 (List.mem_of_getElem? (i := 90) rfl) rfl
theorem jw_1533 : (Jvm.Cond.fieldLink "CoinNodeModel$Tx" (15 : Nat) "CoinNodeModel$Tx" "indexes" "[J") ∈ jws := jws_7 (List.mem_of_getElem? (i := 93) rfl) rfl
theorem jw_1535 : (Jvm.Cond.fieldLink "CoinNodeModel$Tx" (19 : Nat) "CoinNodeModel$Tx" "scripts" "[I") ∈ jws := jws_7 (List.mem_of_getElem? (i := 95) rfl) rfl
theorem jw_1537 : (Jvm.Cond.fieldLink "CoinNodeModel$Tx" (22 : Nat) "CoinNodeModel$Tx" "scriptSizes" "[I") ∈ jws := jws_7 (List.mem_of_getElem? (i := 97) rfl) rfl
theorem jw_1539 : (Jvm.Cond.fieldLink "CoinNodeModel$Tx" (25 : Nat) "CoinNodeModel$Tx" "sequences" "[I") ∈ jws := jws_7 (List.mem_of_getElem? (i := 99) rfl) rfl
theorem jw_1541 : (Jvm.Cond.fieldLink "CoinNodeModel$Tx" (28 : Nat) "CoinNodeModel$Tx" "values" "[J") ∈ jws := jws_7 (List.mem_of_getElem? (i := 101) rfl) rfl
theorem jw_1544 : (Jvm.Cond.fieldLink "CoinNodeModel$Tx" (31 : Nat) "CoinNodeModel$Tx" "locks" "[I") ∈ jws := jws_7 (List.mem_of_getElem? (i := 104) rfl) rfl
theorem jw_1547 : (Jvm.Cond.fieldLink "CoinNodeModel$Tx" (34 : Nat) "CoinNodeModel$Tx" "lockSizes" "[I") ∈ jws := jws_7 (List.mem_of_getElem? (i := 107) rfl) rfl
theorem jw_1550 : (Jvm.Cond.lays "CoinNodeModel$Tx" "CoinNodeModel$Tx" "from" "[B") ∈ jws := jws_7 (List.mem_of_getElem? (i := 110) rfl) rfl
theorem jw_1552 : (Jvm.Cond.lays "CoinNodeModel$Tx" "CoinNodeModel$Tx" "at" "I") ∈ jws := jws_7 (List.mem_of_getElem? (i := 112) rfl) rfl
theorem jw_1554 : (Jvm.Cond.lays "CoinNodeModel$Tx" "CoinNodeModel$Tx" "end" "I") ∈ jws := jws_7 (List.mem_of_getElem? (i := 114) rfl) rfl
theorem jw_1556 : (Jvm.Cond.lays "CoinNodeModel$Tx" "CoinNodeModel$Tx" "place" "I") ∈ jws := jws_7 (List.mem_of_getElem? (i := 116) rfl) rfl
theorem jw_1558 : (Jvm.Cond.lays "CoinNodeModel$Tx" "CoinNodeModel$Tx" "inputs" "I") ∈ jws := jws_7 (List.mem_of_getElem? (i := 118) rfl) rfl
theorem jw_1560 : (Jvm.Cond.lays "CoinNodeModel$Tx" "CoinNodeModel$Tx" "outputs" "I") ∈ jws := jws_7 (List.mem_of_getElem? (i := 120) rfl) rfl
theorem jw_1562 : (Jvm.Cond.lays "CoinNodeModel$Tx" "CoinNodeModel$Tx" "good" "Z") ∈ jws := jws_7 (List.mem_of_getElem? (i := 122) rfl) rfl
theorem jw_1564 : (Jvm.Cond.laysFinal "CoinNodeModel$Tx" "CoinNodeModel$Tx" "names" "[I") ∈ jws := jws_7 (List.mem_of_getElem? (i := 124) rfl) rfl
theorem jw_1566 : (Jvm.Cond.laysFinal "CoinNodeModel$Tx" "CoinNodeModel$Tx" "indexes" "[J") ∈ jws := jws_7 (List.mem_of_getElem? (i := 126) rfl) rfl
theorem jw_1568 : (Jvm.Cond.laysFinal "CoinNodeModel$Tx" "CoinNodeModel$Tx" "scripts" "[I") ∈ jws := jws_7 (List.mem_of_getElem? (i := 128) rfl) rfl
theorem jw_1570 : (Jvm.Cond.laysFinal "CoinNodeModel$Tx" "CoinNodeModel$Tx" "scriptSizes" "[I") ∈ jws := jws_7 (List.mem_of_getElem? (i := 130) rfl) rfl
theorem jw_1572 : (Jvm.Cond.laysFinal "CoinNodeModel$Tx" "CoinNodeModel$Tx" "sequences" "[I") ∈ jws := jws_7 (List.mem_of_getElem? (i := 132) rfl) rfl
theorem jw_1574 : (Jvm.Cond.laysFinal "CoinNodeModel$Tx" "CoinNodeModel$Tx" "values" "[J") ∈ jws := jws_7 (List.mem_of_getElem? (i := 134) rfl) rfl
theorem jw_1576 : (Jvm.Cond.laysFinal "CoinNodeModel$Tx" "CoinNodeModel$Tx" "locks" "[I") ∈ jws := jws_7 (List.mem_of_getElem? (i := 136) rfl) rfl
theorem jw_1578 : (Jvm.Cond.laysFinal "CoinNodeModel$Tx" "CoinNodeModel$Tx" "lockSizes" "[I") ∈ jws := jws_7 (List.mem_of_getElem? (i := 138) rfl) rfl
theorem jw_1581 : (Jvm.Cond.constant "CoinNodeModel" (54 : Nat) (600000 : Int32)) ∈ jws := jws_7 (List.mem_of_getElem? (i := 141) rfl) rfl
theorem jw_1582 : (Jvm.Cond.constant "CoinNodeModel" (72 : Nat) (115200 : Int32)) ∈ jws := jws_7 (List.mem_of_getElem? (i := 142) rfl) rfl
theorem jw_1583 : (Jvm.Cond.constant "CoinNodeModel" (82 : Nat) (54400 : Int32)) ∈ jws := jws_7 (List.mem_of_getElem? (i := 143) rfl) rfl
theorem jw_1584 : (Jvm.Cond.constant "CoinNodeModel" (127 : Nat) (84000 : Int32)) ∈ jws := jws_7 (List.mem_of_getElem? (i := 144) rfl) rfl
theorem jw_1585 : (Jvm.Cond.constant "CoinNodeModel" (179 : Nat) (545259519 : Int32)) ∈ jws := jws_7 (List.mem_of_getElem? (i := 145) rfl) rfl
theorem jw_1586 : (Jvm.Cond.methodLink "CoinNodeModel" (180 : Nat) ({ cls := "CoinNodeModel$Hashes", name := "name", desc := "([BII[BI)V" } : Jvm.MethodName)) ∈ jws := jws_7 (List.mem_of_getElem? (i := 146) rfl) rfl
theorem jw_1587 : (Jvm.Cond.instanceMethod ({ cls := "CoinNodeModel$Hashes", name := "name", desc := "([BII[BI)V" } : Jvm.MethodName)) ∈ jws := jws_7 (List.mem_of_getElem? (i := 147) rfl) rfl
theorem jw_1588 : (Jvm.Cond.selects "CoinNodeModel$Hashes" ({ cls := "CoinNodeModel$Hashes", name := "name", desc := "([BII[BI)V" } : Jvm.MethodName) ({ cls := "CoinNodeModel$Hashes", name := "name", desc := "([BII[BI)V" } : Jvm.MethodName)) ∈ jws := jws_7 (List.mem_of_getElem? (i := 148) rfl) rfl
theorem jw_1589 : (Jvm.Cond.code ({ cls := "CoinNodeModel$Hashes", name := "name", desc := "([BII[BI)V" } : Jvm.MethodName) prog_16_method_5_code (6 : Nat) (Option.none : Option Jvm.ClassFile.FieldType)) ∈ jws := jws_7 (List.mem_of_getElem? (i := 149) rfl) rfl
theorem jw_1590 : (Jvm.Cond.methodLink "CoinNodeModel$Hashes" (42 : Nat) ({ cls := "CoinNodeModel$Hashes", name := "wide", desc := "([BII[BI)V" } : Jvm.MethodName)) ∈ jws := jws_7 (List.mem_of_getElem? (i := 150) rfl) rfl
theorem jw_1591 : (Jvm.Cond.instanceMethod ({ cls := "CoinNodeModel$Hashes", name := "wide", desc := "([BII[BI)V" } : Jvm.MethodName)) ∈ jws := jws_7 (List.mem_of_getElem? (i := 151) rfl) rfl
theorem jw_1592 : (Jvm.Cond.selects "CoinNodeModel$Hashes" ({ cls := "CoinNodeModel$Hashes", name := "wide", desc := "([BII[BI)V" } : Jvm.MethodName) ({ cls := "CoinNodeModel$Hashes", name := "wide", desc := "([BII[BI)V" } : Jvm.MethodName)) ∈ jws := jws_7 (List.mem_of_getElem? (i := 152) rfl) rfl
theorem jw_1593 : (Jvm.Cond.code ({ cls := "CoinNodeModel$Hashes", name := "wide", desc := "([BII[BI)V" } : Jvm.MethodName) prog_16_method_4_code (11 : Nat) (Option.none : Option Jvm.ClassFile.FieldType)) ∈ jws := jws_7 (List.mem_of_getElem? (i := 153) rfl) rfl
theorem jw_1594 : (Jvm.Cond.constant "CoinNodeModel$Hashes" (23 : Nat) (1779033703 : Int32)) ∈ jws := jws_7 (List.mem_of_getElem? (i := 154) rfl) rfl
theorem jw_1595 : (Jvm.Cond.constant "CoinNodeModel$Hashes" (24 : Nat) (-1150833019 : Int32)) ∈ jws := jws_7 (List.mem_of_getElem? (i := 155) rfl) rfl
theorem jw_1596 : (Jvm.Cond.constant "CoinNodeModel$Hashes" (25 : Nat) (1013904242 : Int32)) ∈ jws := jws_7 (List.mem_of_getElem? (i := 156) rfl) rfl
theorem jw_1597 : (Jvm.Cond.constant "CoinNodeModel$Hashes" (26 : Nat) (-1521486534 : Int32)) ∈ jws := jws_7 (List.mem_of_getElem? (i := 157) rfl) rfl
theorem jw_1598 : (Jvm.Cond.constant "CoinNodeModel$Hashes" (27 : Nat) (1359893119 : Int32)) ∈ jws := jws_7 (List.mem_of_getElem? (i := 158) rfl) rfl
theorem jw_1599 : (Jvm.Cond.constant "CoinNodeModel$Hashes" (28 : Nat) (-1694144372 : Int32)) ∈ jws := jws_7 (List.mem_of_getElem? (i := 159) rfl) rfl
theorem jw_1600 : (Jvm.Cond.constant "CoinNodeModel$Hashes" (29 : Nat) (528734635 : Int32)) ∈ jws := jws_7 (List.mem_of_getElem? (i := 160) rfl) rfl
theorem jw_1601 : (Jvm.Cond.constant "CoinNodeModel$Hashes" (30 : Nat) (1541459225 : Int32)) ∈ jws := jws_7 (List.mem_of_getElem? (i := 161) rfl) rfl
theorem jw_1602 : (Jvm.Cond.methodLink "CoinNodeModel$Hashes" (31 : Nat) ({ cls := "CoinNodeModel$Hashes", name := "padded", desc := "([BIIIZ)I" } : Jvm.MethodName)) ∈ jws := jws_7 (List.mem_of_getElem? (i := 162) rfl) rfl
theorem jw_1603 : (Jvm.Cond.static ({ cls := "CoinNodeModel$Hashes", name := "padded", desc := "([BIIIZ)I" } : Jvm.MethodName)) ∈ jws := jws_7 (List.mem_of_getElem? (i := 163) rfl) rfl
theorem jw_1604 : (Jvm.Cond.code ({ cls := "CoinNodeModel$Hashes", name := "padded", desc := "([BIIIZ)I" } : Jvm.MethodName) prog_16_method_2_code (7 : Nat) (Option.some Jvm.ClassFile.FieldType.int)) ∈ jws := jws_7 (List.mem_of_getElem? (i := 164) rfl) rfl
theorem jw_1605 : (Jvm.Cond.methodLink "CoinNodeModel$Hashes" (35 : Nat) ({ cls := "CoinNodeModel$Hashes", name := "right", desc := "(II)I" } : Jvm.MethodName)) ∈ jws := jws_7 (List.mem_of_getElem? (i := 165) rfl) rfl
theorem jw_1606 : (Jvm.Cond.static ({ cls := "CoinNodeModel$Hashes", name := "right", desc := "(II)I" } : Jvm.MethodName)) ∈ jws := jws_7 (List.mem_of_getElem? (i := 166) rfl) rfl
theorem jw_1607 : (Jvm.Cond.code ({ cls := "CoinNodeModel$Hashes", name := "right", desc := "(II)I" } : Jvm.MethodName) prog_16_method_3_code (2 : Nat) (Option.some Jvm.ClassFile.FieldType.int)) ∈ jws := jws_7 (List.mem_of_getElem? (i := 167) rfl) rfl
theorem jw_1608 : (Jvm.Cond.fieldLink "CoinNodeModel$Hashes" (39 : Nat) "CoinNodeModel$Hashes" "CUBES" "[I") ∈ jws := jws_7 (List.mem_of_getElem? (i := 168) rfl) rfl
theorem jw_1610 : (Jvm.Cond.fieldLink "CoinNodeModel" (10 : Nat) "CoinNodeModel" "hashes" "LCoinNodeModel$Hashes;") ∈ jws := jws_7 (List.mem_of_getElem? (i := 170) rfl) rfl
theorem jw_1611 : (Jvm.Cond.fieldLink "CoinNodeModel" (21 : Nat) "CoinNodeModel" "signing" "LCoinNodeModel$Signing;") ∈ jws := jws_7 (List.mem_of_getElem? (i := 171) rfl) rfl
theorem jw_1612 : (Jvm.Cond.fieldLink "CoinNodeModel" (30 : Nat) "CoinNodeModel" "scripts" "LCoinNodeModel$Scripts;") ∈ jws := jws_7 (List.mem_of_getElem? (i := 172) rfl) rfl
theorem jw_1613 : (Jvm.Cond.fieldLink "CoinNodeModel" (40 : Nat) "CoinNodeModel" "tree" "LCoinNodeModel$Tree;") ∈ jws := jws_7 (List.mem_of_getElem? (i := 173) rfl) rfl
theorem jw_1614 : (Jvm.Cond.fieldLink "CoinNodeModel" (47 : Nat) "CoinNodeModel" "tx" "LCoinNodeModel$Tx;") ∈ jws := jws_7 (List.mem_of_getElem? (i := 174) rfl) rfl
theorem jw_1615 : (Jvm.Cond.fieldLink "CoinNodeModel" (51 : Nat) "CoinNodeModel" "other" "LCoinNodeModel$Tx;") ∈ jws := jws_7 (List.mem_of_getElem? (i := 175) rfl) rfl
theorem jw_1616 : (Jvm.Cond.fieldLink "CoinNodeModel" (55 : Nat) "CoinNodeModel" "blocks" "[B") ∈ jws := jws_7 (List.mem_of_getElem? (i := 176) rfl) rfl
theorem jw_1617 : (Jvm.Cond.fieldLink "CoinNodeModel" (59 : Nat) "CoinNodeModel" "sizes" "[I") ∈ jws := jws_7 (List.mem_of_getElem? (i := 177) rfl) rfl
theorem jw_1618 : (Jvm.Cond.fieldLink "CoinNodeModel" (63 : Nat) "CoinNodeModel" "names" "[B") ∈ jws := jws_7 (List.mem_of_getElem? (i := 178) rfl) rfl
theorem jw_1619 : (Jvm.Cond.fieldLink "CoinNodeModel" (66 : Nat) "CoinNodeModel" "right" "[I") ∈ jws := jws_7 (List.mem_of_getElem? (i := 179) rfl) rfl
theorem jw_1620 : (Jvm.Cond.fieldLink "CoinNodeModel" (69 : Nat) "CoinNodeModel" "codes" "[I") ∈ jws := jws_7 (List.mem_of_getElem? (i := 180) rfl) rfl
theorem jw_1621 : (Jvm.Cond.fieldLink "CoinNodeModel" (73 : Nat) "CoinNodeModel" "txNames" "[B") ∈ jws := jws_7 (List.mem_of_getElem? (i := 181) rfl) rfl
theorem jw_1622 : (Jvm.Cond.fieldLink "CoinNodeModel" (76 : Nat) "CoinNodeModel" "fresh" "[B") ∈ jws := jws_7 (List.mem_of_getElem? (i := 182) rfl) rfl
theorem jw_1623 : (Jvm.Cond.fieldLink "CoinNodeModel" (340 : Nat) "CoinNodeModel" "tip" "I") ∈ jws := jws_7 (List.mem_of_getElem? (i := 183) rfl) rfl
theorem jw_1624 : (Jvm.Cond.fieldLink "CoinNodeModel" (232 : Nat) "CoinNodeModel" "many" "I") ∈ jws := jws_7 (List.mem_of_getElem? (i := 184) rfl) rfl
theorem jw_1625 : (Jvm.Cond.fieldLink "CoinNodeModel" (79 : Nat) "CoinNodeModel" "begins" "[I") ∈ jws := jws_7 (List.mem_of_getElem? (i := 185) rfl) rfl
theorem jw_1626 : (Jvm.Cond.fieldLink "CoinNodeModel" (247 : Nat) "CoinNodeModel" "coinsOf" "I") ∈ jws := jws_7 (List.mem_of_getElem? (i := 186) rfl) rfl
theorem jw_1627 : (Jvm.Cond.fieldLink "CoinNodeModel" (183 : Nat) "CoinNodeModel" "coins" "I") ∈ jws := jws_7 (List.mem_of_getElem? (i := 187) rfl) rfl
theorem jw_1628 : (Jvm.Cond.fieldLink "CoinNodeModel" (191 : Nat) "CoinNodeModel" "spent" "I") ∈ jws := jws_7 (List.mem_of_getElem? (i := 188) rfl) rfl
theorem jw_1629 : (Jvm.Cond.fieldLink "CoinNodeModel" (305 : Nat) "CoinNodeModel" "blockFees" "J") ∈ jws := jws_7 (List.mem_of_getElem? (i := 189) rfl) rfl
theorem jw_1630 : (Jvm.Cond.fieldLink "CoinNodeModel" (83 : Nat) "CoinNodeModel" "coinNames" "[B") ∈ jws := jws_7 (List.mem_of_getElem? (i := 190) rfl) rfl
theorem jw_1631 : (Jvm.Cond.fieldLink "CoinNodeModel" (86 : Nat) "CoinNodeModel" "coinIndexes" "[J") ∈ jws := jws_7 (List.mem_of_getElem? (i := 191) rfl) rfl
theorem jw_1632 : (Jvm.Cond.fieldLink "CoinNodeModel" (90 : Nat) "CoinNodeModel" "coinValues" "[J") ∈ jws := jws_7 (List.mem_of_getElem? (i := 192) rfl) rfl
theorem jw_1633 : (Jvm.Cond.fieldLink "CoinNodeModel" (93 : Nat) "CoinNodeModel" "coinHeights" "[I") ∈ jws := jws_7 (List.mem_of_getElem? (i := 193) rfl) rfl
theorem jw_1634 : (Jvm.Cond.fieldLink "CoinNodeModel" (96 : Nat) "CoinNodeModel" "coinFirst" "[Z") ∈ jws := jws_7 (List.mem_of_getElem? (i := 194) rfl) rfl
theorem jw_1635 : (Jvm.Cond.fieldLink "CoinNodeModel" (100 : Nat) "CoinNodeModel" "coinScripts" "[I") ∈ jws := jws_7 (List.mem_of_getElem? (i := 195) rfl) rfl
theorem jw_1636 : (Jvm.Cond.fieldLink "CoinNodeModel" (103 : Nat) "CoinNodeModel" "coinSizes" "[I") ∈ jws := jws_7 (List.mem_of_getElem? (i := 196) rfl) rfl
theorem jw_1637 : (Jvm.Cond.fieldLink "CoinNodeModel" (324 : Nat) "CoinNodeModel" "keptCoins" "I") ∈ jws := jws_7 (List.mem_of_getElem? (i := 197) rfl) rfl
theorem jw_1638 : (Jvm.Cond.fieldLink "CoinNodeModel" (327 : Nat) "CoinNodeModel" "keptSpent" "I") ∈ jws := jws_7 (List.mem_of_getElem? (i := 198) rfl) rfl
theorem jw_1639 : (Jvm.Cond.fieldLink "CoinNodeModel" (106 : Nat) "CoinNodeModel" "keptNames" "[B") ∈ jws := jws_7 (List.mem_of_getElem? (i := 199) rfl) rfl
theorem jw_1640 : (Jvm.Cond.fieldLink "CoinNodeModel" (109 : Nat) "CoinNodeModel" "keptIndexes" "[J") ∈ jws := jws_7 (List.mem_of_getElem? (i := 200) rfl) rfl
theorem jw_1641 : (Jvm.Cond.fieldLink "CoinNodeModel" (112 : Nat) "CoinNodeModel" "keptValues" "[J") ∈ jws := jws_7 (List.mem_of_getElem? (i := 201) rfl) rfl
theorem jw_1642 : (Jvm.Cond.fieldLink "CoinNodeModel" (115 : Nat) "CoinNodeModel" "keptHeights" "[I") ∈ jws := jws_7 (List.mem_of_getElem? (i := 202) rfl) rfl
theorem jw_1643 : (Jvm.Cond.fieldLink "CoinNodeModel" (118 : Nat) "CoinNodeModel" "keptFirst" "[Z") ∈ jws := jws_7 (List.mem_of_getElem? (i := 203) rfl) rfl
theorem jw_1644 : (Jvm.Cond.fieldLink "CoinNodeModel" (121 : Nat) "CoinNodeModel" "keptScripts" "[I") ∈ jws := jws_7 (List.mem_of_getElem? (i := 204) rfl) rfl
theorem jw_1645 : (Jvm.Cond.fieldLink "CoinNodeModel" (124 : Nat) "CoinNodeModel" "keptSizes" "[I") ∈ jws := jws_7 (List.mem_of_getElem? (i := 205) rfl) rfl
theorem jw_1646 : (Jvm.Cond.fieldLink "CoinNodeModel" (353 : Nat) "CoinNodeModel" "pool" "I") ∈ jws := jws_7 (List.mem_of_getElem? (i := 206) rfl) rfl
theorem jw_1647 : (Jvm.Cond.fieldLink "CoinNodeModel" (128 : Nat) "CoinNodeModel" "poolTexts" "[B") ∈ jws := jws_7 (List.mem_of_getElem? (i := 207) rfl) rfl
theorem jw_1648 : (Jvm.Cond.fieldLink "CoinNodeModel" (131 : Nat) "CoinNodeModel" "poolSizes" "[I") ∈ jws := jws_7 (List.mem_of_getElem? (i := 208) rfl) rfl
theorem jw_1649 : (Jvm.Cond.fieldLink "CoinNodeModel" (134 : Nat) "CoinNodeModel" "poolNames" "[B") ∈ jws := jws_7 (List.mem_of_getElem? (i := 209) rfl) rfl
theorem jw_1650 : (Jvm.Cond.fieldLink "CoinNodeModel" (137 : Nat) "CoinNodeModel" "poolFees" "[J") ∈ jws := jws_7 (List.mem_of_getElem? (i := 210) rfl) rfl
theorem jw_1651 : (Jvm.Cond.fieldLink "CoinNodeModel" (140 : Nat) "CoinNodeModel" "poolInputs" "[I") ∈ jws := jws_7 (List.mem_of_getElem? (i := 211) rfl) rfl
theorem jw_1652 : (Jvm.Cond.fieldLink "CoinNodeModel" (143 : Nat) "CoinNodeModel" "poolPlaces" "[I") ∈ jws := jws_7 (List.mem_of_getElem? (i := 212) rfl) rfl
theorem jw_1653 : (Jvm.Cond.fieldLink "CoinNodeModel" (146 : Nat) "CoinNodeModel" "poolIndexes" "[J") ∈ jws := jws_7 (List.mem_of_getElem? (i := 213) rfl) rfl
theorem jw_1654 : (Jvm.Cond.fieldLink "CoinNodeModel" (149 : Nat) "CoinNodeModel" "inFamily" "[Z") ∈ jws := jws_7 (List.mem_of_getElem? (i := 214) rfl) rfl
theorem jw_1655 : (Jvm.Cond.fieldLink "CoinNodeModel" (152 : Nat) "CoinNodeModel" "oldTexts" "[B") ∈ jws := jws_7 (List.mem_of_getElem? (i := 215) rfl) rfl
theorem jw_1656 : (Jvm.Cond.fieldLink "CoinNodeModel" (155 : Nat) "CoinNodeModel" "oldSizes" "[I") ∈ jws := jws_7 (List.mem_of_getElem? (i := 216) rfl) rfl
theorem jw_1657 : (Jvm.Cond.fieldLink "CoinNodeModel" (158 : Nat) "CoinNodeModel" "tape" "[B") ∈ jws := jws_7 (List.mem_of_getElem? (i := 217) rfl) rfl
theorem jw_1658 : (Jvm.Cond.fieldLink "CoinNodeModel" (510 : Nat) "CoinNodeModel" "tapeSize" "I") ∈ jws := jws_7 (List.mem_of_getElem? (i := 218) rfl) rfl
theorem jw_1659 : (Jvm.Cond.fieldLink "CoinNodeModel" (161 : Nat) "CoinNodeModel" "name" "[B") ∈ jws := jws_7 (List.mem_of_getElem? (i := 219) rfl) rfl
theorem jw_1660 : (Jvm.Cond.fieldLink "CoinNodeModel" (164 : Nat) "CoinNodeModel" "row" "[B") ∈ jws := jws_7 (List.mem_of_getElem? (i := 220) rfl) rfl
theorem jw_1661 : (Jvm.Cond.fieldLink "CoinNodeModel" (167 : Nat) "CoinNodeModel" "hand" "[B") ∈ jws := jws_7 (List.mem_of_getElem? (i := 221) rfl) rfl
theorem jw_1662 : (Jvm.Cond.fieldLink "CoinNodeModel" (522 : Nat) "CoinNodeModel" "handIndex" "I") ∈ jws := jws_7 (List.mem_of_getElem? (i := 222) rfl) rfl
theorem jw_1663 : (Jvm.Cond.fieldLink "CoinNodeModel" (170 : Nat) "CoinNodeModel" "answers" "[B") ∈ jws := jws_7 (List.mem_of_getElem? (i := 223) rfl) rfl
theorem jw_1664 : (Jvm.Cond.fieldLink "CoinNodeModel" (173 : Nat) "CoinNodeModel" "waiting" "[I") ∈ jws := jws_7 (List.mem_of_getElem? (i := 224) rfl) rfl
theorem jw_1665 : (Jvm.Cond.fieldLink "CoinNodeModel" (176 : Nat) "CoinNodeModel" "frame" "[B") ∈ jws := jws_7 (List.mem_of_getElem? (i := 225) rfl) rfl
theorem jw_1666 : (Jvm.Cond.fieldLink "CoinNodeModel" (467 : Nat) "CoinNodeModel" "frameSize" "I") ∈ jws := jws_7 (List.mem_of_getElem? (i := 226) rfl) rfl
theorem jw_1667 : (Jvm.Cond.fieldLink "CoinNodeModel" (372 : Nat) "CoinNodeModel" "lockFrom" "[B") ∈ jws := jws_7 (List.mem_of_getElem? (i := 227) rfl) rfl
theorem jw_1668 : (Jvm.Cond.fieldLink "CoinNodeModel" (373 : Nat) "CoinNodeModel" "lockAt" "I") ∈ jws := jws_7 (List.mem_of_getElem? (i := 228) rfl) rfl
theorem jw_1669 : (Jvm.Cond.fieldLink "CoinNodeModel" (374 : Nat) "CoinNodeModel" "lockSize" "I") ∈ jws := jws_7 (List.mem_of_getElem? (i := 229) rfl) rfl
theorem jw_1670 : (Jvm.Cond.fieldLink "CoinNodeModel" (368 : Nat) "CoinNodeModel" "isFresh" "Z") ∈ jws := jws_7 (List.mem_of_getElem? (i := 230) rfl) rfl
theorem jw_1671 : (Jvm.Cond.laysFinal "CoinNodeModel" "CoinNodeModel" "hashes" "LCoinNodeModel$Hashes;") ∈ jws := jws_7 (List.mem_of_getElem? (i := 231) rfl) rfl
theorem jw_1673 : (Jvm.Cond.laysFinal "CoinNodeModel" "CoinNodeModel" "signing" "LCoinNodeModel$Signing;") ∈ jws := jws_7 (List.mem_of_getElem? (i := 233) rfl) rfl
theorem jw_1675 : (Jvm.Cond.laysFinal "CoinNodeModel" "CoinNodeModel" "scripts" "LCoinNodeModel$Scripts;") ∈ jws := jws_7 (List.mem_of_getElem? (i := 235) rfl) rfl
theorem jw_1677 : (Jvm.Cond.laysFinal "CoinNodeModel" "CoinNodeModel" "tree" "LCoinNodeModel$Tree;") ∈ jws := jws_7 (List.mem_of_getElem? (i := 237) rfl) rfl
theorem jw_1679 : (Jvm.Cond.laysFinal "CoinNodeModel" "CoinNodeModel" "tx" "LCoinNodeModel$Tx;") ∈ jws := jws_7 (List.mem_of_getElem? (i := 239) rfl) rfl
theorem jw_1681 : (Jvm.Cond.laysFinal "CoinNodeModel" "CoinNodeModel" "other" "LCoinNodeModel$Tx;") ∈ jws := jws_8 (List.mem_of_getElem? (i := 1) rfl) rfl
theorem jw_1683 : (Jvm.Cond.laysFinal "CoinNodeModel" "CoinNodeModel" "blocks" "[B") ∈ jws := jws_8 (List.mem_of_getElem? (i := 3) rfl) rfl
theorem jw_1685 : (Jvm.Cond.laysFinal "CoinNodeModel" "CoinNodeModel" "sizes" "[I") ∈ jws := jws_8 (List.mem_of_getElem? (i := 5) rfl) rfl
theorem jw_1687 : (Jvm.Cond.laysFinal "CoinNodeModel" "CoinNodeModel" "names" "[B") ∈ jws := jws_8 (List.mem_of_getElem? (i := 7) rfl) rfl
theorem jw_1689 : (Jvm.Cond.laysFinal "CoinNodeModel" "CoinNodeModel" "right" "[I") ∈ jws := jws_8 (List.mem_of_getElem? (i := 9) rfl) rfl
theorem jw_1691 : (Jvm.Cond.laysFinal "CoinNodeModel" "CoinNodeModel" "codes" "[I") ∈ jws := jws_8 (List.mem_of_getElem? (i := 11) rfl) rfl
theorem jw_1693 : (Jvm.Cond.laysFinal "CoinNodeModel" "CoinNodeModel" "txNames" "[B") ∈ jws := jws_8 (List.mem_of_getElem? (i := 13) rfl) rfl
theorem jw_1695 : (Jvm.Cond.laysFinal "CoinNodeModel" "CoinNodeModel" "fresh" "[B") ∈ jws := jws_8 (List.mem_of_getElem? (i := 15) rfl) rfl
theorem jw_1697 : (Jvm.Cond.lays "CoinNodeModel" "CoinNodeModel" "tip" "I") ∈ jws := jws_8 (List.mem_of_getElem? (i := 17) rfl) rfl
theorem jw_1699 : (Jvm.Cond.lays "CoinNodeModel" "CoinNodeModel" "many" "I") ∈ jws := jws_8 (List.mem_of_getElem? (i := 19) rfl) rfl
theorem jw_1701 : (Jvm.Cond.laysFinal "CoinNodeModel" "CoinNodeModel" "begins" "[I") ∈ jws := jws_8 (List.mem_of_getElem? (i := 21) rfl) rfl
theorem jw_1703 : (Jvm.Cond.lays "CoinNodeModel" "CoinNodeModel" "coinsOf" "I") ∈ jws := jws_8 (List.mem_of_getElem? (i := 23) rfl) rfl
theorem jw_1705 : (Jvm.Cond.lays "CoinNodeModel" "CoinNodeModel" "coins" "I") ∈ jws := jws_8 (List.mem_of_getElem? (i := 25) rfl) rfl
theorem jw_1707 : (Jvm.Cond.lays "CoinNodeModel" "CoinNodeModel" "spent" "I") ∈ jws := jws_8 (List.mem_of_getElem? (i := 27) rfl) rfl
theorem jw_1709 : (Jvm.Cond.lays "CoinNodeModel" "CoinNodeModel" "blockFees" "J") ∈ jws := jws_8 (List.mem_of_getElem? (i := 29) rfl) rfl
theorem jw_1711 : (Jvm.Cond.laysFinal "CoinNodeModel" "CoinNodeModel" "coinNames" "[B") ∈ jws := jws_8 (List.mem_of_getElem? (i := 31) rfl) rfl
theorem jw_1713 : (Jvm.Cond.laysFinal "CoinNodeModel" "CoinNodeModel" "coinIndexes" "[J") ∈ jws := jws_8 (List.mem_of_getElem? (i := 33) rfl) rfl
theorem jw_1715 : (Jvm.Cond.laysFinal "CoinNodeModel" "CoinNodeModel" "coinValues" "[J") ∈ jws := jws_8 (List.mem_of_getElem? (i := 35) rfl) rfl
theorem jw_1717 : (Jvm.Cond.laysFinal "CoinNodeModel" "CoinNodeModel" "coinHeights" "[I") ∈ jws := jws_8 (List.mem_of_getElem? (i := 37) rfl) rfl
theorem jw_1719 : (Jvm.Cond.laysFinal "CoinNodeModel" "CoinNodeModel" "coinFirst" "[Z") ∈ jws := jws_8 (List.mem_of_getElem? (i := 39) rfl) rfl
theorem jw_1721 : (Jvm.Cond.laysFinal "CoinNodeModel" "CoinNodeModel" "coinScripts" "[I") ∈ jws := jws_8 (List.mem_of_getElem? (i := 41) rfl) rfl
theorem jw_1723 : (Jvm.Cond.laysFinal "CoinNodeModel" "CoinNodeModel" "coinSizes" "[I") ∈ jws := jws_8 (List.mem_of_getElem? (i := 43) rfl) rfl
theorem jw_1725 : (Jvm.Cond.lays "CoinNodeModel" "CoinNodeModel" "keptCoins" "I") ∈ jws := jws_8 (List.mem_of_getElem? (i := 45) rfl) rfl
theorem jw_1727 : (Jvm.Cond.lays "CoinNodeModel" "CoinNodeModel" "keptSpent" "I") ∈ jws := jws_8 (List.mem_of_getElem? (i := 47) rfl) rfl
theorem jw_1729 : (Jvm.Cond.laysFinal "CoinNodeModel" "CoinNodeModel" "keptNames" "[B") ∈ jws := jws_8 (List.mem_of_getElem? (i := 49) rfl) rfl
theorem jw_1731 : (Jvm.Cond.laysFinal "CoinNodeModel" "CoinNodeModel" "keptIndexes" "[J") ∈ jws := jws_8 (List.mem_of_getElem? (i := 51) rfl) rfl
theorem jw_1733 : (Jvm.Cond.laysFinal "CoinNodeModel" "CoinNodeModel" "keptValues" "[J") ∈ jws := jws_8 (List.mem_of_getElem? (i := 53) rfl) rfl
theorem jw_1735 : (Jvm.Cond.laysFinal "CoinNodeModel" "CoinNodeModel" "keptHeights" "[I") ∈ jws := jws_8 (List.mem_of_getElem? (i := 55) rfl) rfl
theorem jw_1737 : (Jvm.Cond.laysFinal "CoinNodeModel" "CoinNodeModel" "keptFirst" "[Z") ∈ jws := jws_8 (List.mem_of_getElem? (i := 57) rfl) rfl
theorem jw_1739 : (Jvm.Cond.laysFinal "CoinNodeModel" "CoinNodeModel" "keptScripts" "[I") ∈ jws := jws_8 (List.mem_of_getElem? (i := 59) rfl) rfl
theorem jw_1741 : (Jvm.Cond.laysFinal "CoinNodeModel" "CoinNodeModel" "keptSizes" "[I") ∈ jws := jws_8 (List.mem_of_getElem? (i := 61) rfl) rfl
theorem jw_1743 : (Jvm.Cond.lays "CoinNodeModel" "CoinNodeModel" "pool" "I") ∈ jws := jws_8 (List.mem_of_getElem? (i := 63) rfl) rfl
theorem jw_1745 : (Jvm.Cond.laysFinal "CoinNodeModel" "CoinNodeModel" "poolTexts" "[B") ∈ jws := jws_8 (List.mem_of_getElem? (i := 65) rfl) rfl
theorem jw_1747 : (Jvm.Cond.laysFinal "CoinNodeModel" "CoinNodeModel" "poolSizes" "[I") ∈ jws := jws_8 (List.mem_of_getElem? (i := 67) rfl) rfl
theorem jw_1749 : (Jvm.Cond.laysFinal "CoinNodeModel" "CoinNodeModel" "poolNames" "[B") ∈ jws := jws_8 (List.mem_of_getElem? (i := 69) rfl) rfl
theorem jw_1751 : (Jvm.Cond.laysFinal "CoinNodeModel" "CoinNodeModel" "poolFees" "[J") ∈ jws := jws_8 (List.mem_of_getElem? (i := 71) rfl) rfl
theorem jw_1753 : (Jvm.Cond.laysFinal "CoinNodeModel" "CoinNodeModel" "poolInputs" "[I") ∈ jws := jws_8 (List.mem_of_getElem? (i := 73) rfl) rfl
theorem jw_1755 : (Jvm.Cond.laysFinal "CoinNodeModel" "CoinNodeModel" "poolPlaces" "[I") ∈ jws := jws_8 (List.mem_of_getElem? (i := 75) rfl) rfl
theorem jw_1757 : (Jvm.Cond.laysFinal "CoinNodeModel" "CoinNodeModel" "poolIndexes" "[J") ∈ jws := jws_8 (List.mem_of_getElem? (i := 77) rfl) rfl
theorem jw_1759 : (Jvm.Cond.laysFinal "CoinNodeModel" "CoinNodeModel" "inFamily" "[Z") ∈ jws := jws_8 (List.mem_of_getElem? (i := 79) rfl) rfl
theorem jw_1761 : (Jvm.Cond.laysFinal "CoinNodeModel" "CoinNodeModel" "oldTexts" "[B") ∈ jws := jws_8 (List.mem_of_getElem? (i := 81) rfl) rfl
theorem jw_1763 : (Jvm.Cond.laysFinal "CoinNodeModel" "CoinNodeModel" "oldSizes" "[I") ∈ jws := jws_8 (List.mem_of_getElem? (i := 83) rfl) rfl
theorem jw_1765 : (Jvm.Cond.laysFinal "CoinNodeModel" "CoinNodeModel" "tape" "[B") ∈ jws := jws_8 (List.mem_of_getElem? (i := 85) rfl) rfl
theorem jw_1767 : (Jvm.Cond.lays "CoinNodeModel" "CoinNodeModel" "tapeSize" "I") ∈ jws := jws_8 (List.mem_of_getElem? (i := 87) rfl) rfl
theorem jw_1769 : (Jvm.Cond.laysFinal "CoinNodeModel" "CoinNodeModel" "name" "[B") ∈ jws := jws_8 (List.mem_of_getElem? (i := 89) rfl) rfl
theorem jw_1771 : (Jvm.Cond.laysFinal "CoinNodeModel" "CoinNodeModel" "row" "[B") ∈ jws := jws_8 (List.mem_of_getElem? (i := 91) rfl) rfl
theorem jw_1773 : (Jvm.Cond.laysFinal "CoinNodeModel" "CoinNodeModel" "hand" "[B") ∈ jws := jws_8 (List.mem_of_getElem? (i := 93) rfl) rfl
theorem jw_1775 : (Jvm.Cond.lays "CoinNodeModel" "CoinNodeModel" "handIndex" "I") ∈ jws := jws_8 (List.mem_of_getElem? (i := 95) rfl) rfl
theorem jw_1777 : (Jvm.Cond.laysFinal "CoinNodeModel" "CoinNodeModel" "answers" "[B") ∈ jws := jws_8 (List.mem_of_getElem? (i := 97) rfl) rfl
theorem jw_1779 : (Jvm.Cond.laysFinal "CoinNodeModel" "CoinNodeModel" "waiting" "[I") ∈ jws := jws_8 (List.mem_of_getElem? (i := 99) rfl) rfl
theorem jw_1781 : (Jvm.Cond.laysFinal "CoinNodeModel" "CoinNodeModel" "frame" "[B") ∈ jws := jws_8 (List.mem_of_getElem? (i := 101) rfl) rfl
theorem jw_1783 : (Jvm.Cond.lays "CoinNodeModel" "CoinNodeModel" "frameSize" "I") ∈ jws := jws_8 (List.mem_of_getElem? (i := 103) rfl) rfl
theorem jw_1785 : (Jvm.Cond.lays "CoinNodeModel" "CoinNodeModel" "lockFrom" "[B") ∈ jws := jws_8 (List.mem_of_getElem? (i := 105) rfl) rfl
theorem jw_1787 : (Jvm.Cond.lays "CoinNodeModel" "CoinNodeModel" "lockAt" "I") ∈ jws := jws_8 (List.mem_of_getElem? (i := 107) rfl) rfl
theorem jw_1789 : (Jvm.Cond.lays "CoinNodeModel" "CoinNodeModel" "lockSize" "I") ∈ jws := jws_8 (List.mem_of_getElem? (i := 109) rfl) rfl
theorem jw_1791 : (Jvm.Cond.lays "CoinNodeModel" "CoinNodeModel" "isFresh" "Z") ∈ jws := jws_8 (List.mem_of_getElem? (i := 111) rfl) rfl
theorem jw_1794 : (Jvm.Cond.methodLink "CoinNodeLaw" (17 : Nat) ({ cls := "CoinNodeModel", name := "feed", desc := "(IIIII)Z" } : Jvm.MethodName)) ∈ jws := jws_8 (List.mem_of_getElem? (i := 114) rfl) rfl
theorem jw_1795 : (Jvm.Cond.instanceMethod ({ cls := "CoinNodeModel", name := "feed", desc := "(IIIII)Z" } : Jvm.MethodName)) ∈ jws := jws_8 (List.mem_of_getElem? (i := 115) rfl) rfl
theorem jw_1796 : (Jvm.Cond.selects "CoinNodeModel" ({ cls := "CoinNodeModel", name := "feed", desc := "(IIIII)Z" } : Jvm.MethodName) ({ cls := "CoinNodeModel", name := "feed", desc := "(IIIII)Z" } : Jvm.MethodName)) ∈ jws := jws_8 (List.mem_of_getElem? (i := 116) rfl) rfl
theorem jw_1797 : (Jvm.Cond.code ({ cls := "CoinNodeModel", name := "feed", desc := "(IIIII)Z" } : Jvm.MethodName) prog_14_method_51_code (6 : Nat) (Option.some Jvm.ClassFile.FieldType.boolean)) ∈ jws := jws_8 (List.mem_of_getElem? (i := 117) rfl) rfl
theorem jw_1798 : (Jvm.Cond.methodLink "CoinNodeModel" (513 : Nat) ({ cls := "CoinNodeModel", name := "write", desc := "(I)V" } : Jvm.MethodName)) ∈ jws := jws_8 (List.mem_of_getElem? (i := 118) rfl) rfl
theorem jw_1800 : (Jvm.Cond.instanceMethod ({ cls := "CoinNodeModel", name := "write", desc := "(I)V" } : Jvm.MethodName)) ∈ jws := jws_8 (List.mem_of_getElem? (i := 120) rfl) rfl
theorem jw_1801 : (Jvm.Cond.code ({ cls := "CoinNodeModel", name := "write", desc := "(I)V" } : Jvm.MethodName) prog_14_method_50_code (3 : Nat) (Option.none : Option Jvm.ClassFile.FieldType)) ∈ jws := jws_8 (List.mem_of_getElem? (i := 121) rfl) rfl
theorem jw_1802 : (Jvm.Cond.methodLink "CoinNodeLaw" (22 : Nat) ({ cls := "CoinNodeModel", name := "send", desc := "(II)Z" } : Jvm.MethodName)) ∈ jws := jws_8 (List.mem_of_getElem? (i := 122) rfl) rfl
theorem jw_1803 : (Jvm.Cond.instanceMethod ({ cls := "CoinNodeModel", name := "send", desc := "(II)Z" } : Jvm.MethodName)) ∈ jws := jws_8 (List.mem_of_getElem? (i := 123) rfl) rfl
theorem jw_1804 : (Jvm.Cond.selects "CoinNodeModel" ({ cls := "CoinNodeModel", name := "send", desc := "(II)Z" } : Jvm.MethodName) ({ cls := "CoinNodeModel", name := "send", desc := "(II)Z" } : Jvm.MethodName)) ∈ jws := jws_8 (List.mem_of_getElem? (i := 124) rfl) rfl
theorem jw_1805 : (Jvm.Cond.code ({ cls := "CoinNodeModel", name := "send", desc := "(II)Z" } : Jvm.MethodName) prog_14_method_53_code (3 : Nat) (Option.some Jvm.ClassFile.FieldType.boolean)) ∈ jws := jws_8 (List.mem_of_getElem? (i := 125) rfl) rfl
theorem jw_1806 : (Jvm.Cond.methodLink "CoinNodeModel" (516 : Nat) ({ cls := "CoinNodeModel", name := "isPeer", desc := "(I)Z" } : Jvm.MethodName)) ∈ jws := jws_8 (List.mem_of_getElem? (i := 126) rfl) rfl
theorem jw_1807 : (Jvm.Cond.static ({ cls := "CoinNodeModel", name := "isPeer", desc := "(I)Z" } : Jvm.MethodName)) ∈ jws := jws_8 (List.mem_of_getElem? (i := 127) rfl) rfl
theorem jw_1808 : (Jvm.Cond.code ({ cls := "CoinNodeModel", name := "isPeer", desc := "(I)Z" } : Jvm.MethodName) prog_14_method_52_code (1 : Nat) (Option.some Jvm.ClassFile.FieldType.boolean)) ∈ jws := jws_8 (List.mem_of_getElem? (i := 128) rfl) rfl
theorem jw_1809 : (Jvm.Cond.methodLink "CoinNodeModel" (519 : Nat) ({ cls := "CoinNodeModel", name := "message", desc := "(II)V" } : Jvm.MethodName)) ∈ jws := jws_8 (List.mem_of_getElem? (i := 129) rfl) rfl
theorem jw_1811 : (Jvm.Cond.instanceMethod ({ cls := "CoinNodeModel", name := "message", desc := "(II)V" } : Jvm.MethodName)) ∈ jws := jws_8 (List.mem_of_getElem? (i := 131) rfl) rfl
theorem jw_1812 : (Jvm.Cond.code ({ cls := "CoinNodeModel", name := "message", desc := "(II)V" } : Jvm.MethodName) prog_14_method_49_code (6 : Nat) (Option.none : Option Jvm.ClassFile.FieldType)) ∈ jws := jws_8 (List.mem_of_getElem? (i := 132) rfl) rfl
theorem jw_1813 : (Jvm.Cond.methodLink "CoinNodeModel" (413 : Nat) ({ cls := "CoinNodeModel", name := "comes", desc := "([BIIZ)I" } : Jvm.MethodName)) ∈ jws := jws_8 (List.mem_of_getElem? (i := 133) rfl) rfl
theorem jw_1815 : (Jvm.Cond.instanceMethod ({ cls := "CoinNodeModel", name := "comes", desc := "([BIIZ)I" } : Jvm.MethodName)) ∈ jws := jws_8 (List.mem_of_getElem? (i := 135) rfl) rfl
theorem jw_1816 : (Jvm.Cond.code ({ cls := "CoinNodeModel", name := "comes", desc := "([BIIZ)I" } : Jvm.MethodName) prog_14_method_29_code (12 : Nat) (Option.some Jvm.ClassFile.FieldType.int)) ∈ jws := jws_8 (List.mem_of_getElem? (i := 136) rfl) rfl
theorem jw_1817 : (Jvm.Cond.methodLink "CoinNodeModel" (312 : Nat) ({ cls := "CoinNodeModel", name := "need", desc := "(I)V" } : Jvm.MethodName)) ∈ jws := jws_8 (List.mem_of_getElem? (i := 137) rfl) rfl
theorem jw_1819 : (Jvm.Cond.instanceMethod ({ cls := "CoinNodeModel", name := "need", desc := "(I)V" } : Jvm.MethodName)) ∈ jws := jws_8 (List.mem_of_getElem? (i := 139) rfl) rfl
theorem jw_1820 : (Jvm.Cond.code ({ cls := "CoinNodeModel", name := "need", desc := "(I)V" } : Jvm.MethodName) prog_14_method_11_code (6 : Nat) (Option.none : Option Jvm.ClassFile.FieldType)) ∈ jws := jws_8 (List.mem_of_getElem? (i := 140) rfl) rfl
theorem jw_1821 : (Jvm.Cond.methodLink "CoinNodeModel" (250 : Nat) ({ cls := "CoinNodeModel", name := "height", desc := "(I)I" } : Jvm.MethodName)) ∈ jws := jws_8 (List.mem_of_getElem? (i := 141) rfl) rfl
theorem jw_1823 : (Jvm.Cond.instanceMethod ({ cls := "CoinNodeModel", name := "height", desc := "(I)I" } : Jvm.MethodName)) ∈ jws := jws_8 (List.mem_of_getElem? (i := 143) rfl) rfl
theorem jw_1824 : (Jvm.Cond.code ({ cls := "CoinNodeModel", name := "height", desc := "(I)I" } : Jvm.MethodName) prog_14_method_9_code (2 : Nat) (Option.some Jvm.ClassFile.FieldType.int)) ∈ jws := jws_8 (List.mem_of_getElem? (i := 144) rfl) rfl
theorem jw_1825 : (Jvm.Cond.methodLink "CoinNodeModel" (243 : Nat) ({ cls := "CoinNodeModel$Tree", name := "look", desc := "(II)J" } : Jvm.MethodName)) ∈ jws := jws_8 (List.mem_of_getElem? (i := 145) rfl) rfl
theorem jw_1826 : (Jvm.Cond.instanceMethod ({ cls := "CoinNodeModel$Tree", name := "look", desc := "(II)J" } : Jvm.MethodName)) ∈ jws := jws_8 (List.mem_of_getElem? (i := 146) rfl) rfl
theorem jw_1827 : (Jvm.Cond.selects "CoinNodeModel$Tree" ({ cls := "CoinNodeModel$Tree", name := "look", desc := "(II)J" } : Jvm.MethodName) ({ cls := "CoinNodeModel$Tree", name := "look", desc := "(II)J" } : Jvm.MethodName)) ∈ jws := jws_8 (List.mem_of_getElem? (i := 147) rfl) rfl
theorem jw_1828 : (Jvm.Cond.code ({ cls := "CoinNodeModel$Tree", name := "look", desc := "(II)J" } : Jvm.MethodName) prog_20_method_21_code (5 : Nat) (Option.some Jvm.ClassFile.FieldType.long)) ∈ jws := jws_8 (List.mem_of_getElem? (i := 148) rfl) rfl
theorem jw_1829 : (Jvm.Cond.methodLink "CoinNodeModel$Tree" (102 : Nat) ({ cls := "CoinNodeModel$Tree", name := "isBlock", desc := "(I)Z" } : Jvm.MethodName)) ∈ jws := jws_8 (List.mem_of_getElem? (i := 149) rfl) rfl
theorem jw_1831 : (Jvm.Cond.instanceMethod ({ cls := "CoinNodeModel$Tree", name := "isBlock", desc := "(I)Z" } : Jvm.MethodName)) ∈ jws := jws_8 (List.mem_of_getElem? (i := 151) rfl) rfl
theorem jw_1832 : (Jvm.Cond.code ({ cls := "CoinNodeModel$Tree", name := "isBlock", desc := "(I)Z" } : Jvm.MethodName) prog_20_method_15_code (2 : Nat) (Option.some Jvm.ClassFile.FieldType.boolean)) ∈ jws := jws_8 (List.mem_of_getElem? (i := 152) rfl) rfl
theorem jw_1833 : (Jvm.Cond.constantLong "CoinNodeModel$Tree" (106 : Nat) (-1 : Int64)) ∈ jws := jws_8 (List.mem_of_getElem? (i := 153) rfl) rfl
theorem jw_1834 : (Jvm.Cond.methodLink "CoinNodeModel" (254 : Nat) ({ cls := "CoinNodeModel$Tree", name := "below", desc := "(II)I" } : Jvm.MethodName)) ∈ jws := jws_8 (List.mem_of_getElem? (i := 154) rfl) rfl
theorem jw_1835 : (Jvm.Cond.instanceMethod ({ cls := "CoinNodeModel$Tree", name := "below", desc := "(II)I" } : Jvm.MethodName)) ∈ jws := jws_8 (List.mem_of_getElem? (i := 155) rfl) rfl
theorem jw_1836 : (Jvm.Cond.selects "CoinNodeModel$Tree" ({ cls := "CoinNodeModel$Tree", name := "below", desc := "(II)I" } : Jvm.MethodName) ({ cls := "CoinNodeModel$Tree", name := "below", desc := "(II)I" } : Jvm.MethodName)) ∈ jws := jws_8 (List.mem_of_getElem? (i := 156) rfl) rfl
theorem jw_1837 : (Jvm.Cond.code ({ cls := "CoinNodeModel$Tree", name := "below", desc := "(II)I" } : Jvm.MethodName) prog_20_method_16_code (4 : Nat) (Option.some Jvm.ClassFile.FieldType.int)) ∈ jws := jws_8 (List.mem_of_getElem? (i := 157) rfl) rfl
theorem jw_1838 : (Jvm.Cond.methodLink "CoinNodeModel" (258 : Nat) ({ cls := "CoinNodeModel", name := "openBlock", desc := "(I)V" } : Jvm.MethodName)) ∈ jws := jws_8 (List.mem_of_getElem? (i := 158) rfl) rfl
theorem jw_1840 : (Jvm.Cond.instanceMethod ({ cls := "CoinNodeModel", name := "openBlock", desc := "(I)V" } : Jvm.MethodName)) ∈ jws := jws_8 (List.mem_of_getElem? (i := 160) rfl) rfl
theorem jw_1841 : (Jvm.Cond.code ({ cls := "CoinNodeModel", name := "openBlock", desc := "(I)V" } : Jvm.MethodName) prog_14_method_8_code (2 : Nat) (Option.none : Option Jvm.ClassFile.FieldType)) ∈ jws := jws_8 (List.mem_of_getElem? (i := 161) rfl) rfl
theorem jw_1842 : (Jvm.Cond.methodLink "CoinNodeModel" (239 : Nat) ({ cls := "CoinNodeModel", name := "open", desc := "([BII)Z" } : Jvm.MethodName)) ∈ jws := jws_8 (List.mem_of_getElem? (i := 162) rfl) rfl
theorem jw_1844 : (Jvm.Cond.instanceMethod ({ cls := "CoinNodeModel", name := "open", desc := "([BII)Z" } : Jvm.MethodName)) ∈ jws := jws_8 (List.mem_of_getElem? (i := 164) rfl) rfl
theorem jw_1845 : (Jvm.Cond.code ({ cls := "CoinNodeModel", name := "open", desc := "([BII)Z" } : Jvm.MethodName) prog_14_method_7_code (7 : Nat) (Option.some Jvm.ClassFile.FieldType.boolean)) ∈ jws := jws_8 (List.mem_of_getElem? (i := 165) rfl) rfl
theorem jw_1846 : (Jvm.Cond.methodLink "CoinNodeModel" (235 : Nat) ({ cls := "CoinNodeModel$Tx", name := "read", desc := "([BII)I" } : Jvm.MethodName)) ∈ jws := jws_8 (List.mem_of_getElem? (i := 166) rfl) rfl
theorem jw_1847 : (Jvm.Cond.instanceMethod ({ cls := "CoinNodeModel$Tx", name := "read", desc := "([BII)I" } : Jvm.MethodName)) ∈ jws := jws_8 (List.mem_of_getElem? (i := 167) rfl) rfl
theorem jw_1848 : (Jvm.Cond.selects "CoinNodeModel$Tx" ({ cls := "CoinNodeModel$Tx", name := "read", desc := "([BII)I" } : Jvm.MethodName) ({ cls := "CoinNodeModel$Tx", name := "read", desc := "([BII)I" } : Jvm.MethodName)) ∈ jws := jws_8 (List.mem_of_getElem? (i := 168) rfl) rfl
theorem jw_1849 : (Jvm.Cond.code ({ cls := "CoinNodeModel$Tx", name := "read", desc := "([BII)I" } : Jvm.MethodName) prog_21_method_5_code (5 : Nat) (Option.some Jvm.ClassFile.FieldType.int)) ∈ jws := jws_8 (List.mem_of_getElem? (i := 169) rfl) rfl
theorem jw_1850 : (Jvm.Cond.methodLink "CoinNodeModel$Tx" (48 : Nat) ({ cls := "CoinNodeModel$Tx", name := "pass", desc := "(I)V" } : Jvm.MethodName)) ∈ jws := jws_8 (List.mem_of_getElem? (i := 170) rfl) rfl
theorem jw_1852 : (Jvm.Cond.instanceMethod ({ cls := "CoinNodeModel$Tx", name := "pass", desc := "(I)V" } : Jvm.MethodName)) ∈ jws := jws_8 (List.mem_of_getElem? (i := 172) rfl) rfl
theorem jw_1853 : (Jvm.Cond.code ({ cls := "CoinNodeModel$Tx", name := "pass", desc := "(I)V" } : Jvm.MethodName) prog_21_method_2_code (2 : Nat) (Option.none : Option Jvm.ClassFile.FieldType)) ∈ jws := jws_8 (List.mem_of_getElem? (i := 173) rfl) rfl
theorem jw_1854 : (Jvm.Cond.methodLink "CoinNodeModel$Tx" (75 : Nat) ({ cls := "CoinNodeModel$Tx", name := "size", desc := "(I)I" } : Jvm.MethodName)) ∈ jws := jws_8 (List.mem_of_getElem? (i := 174) rfl) rfl
theorem jw_1856 : (Jvm.Cond.instanceMethod ({ cls := "CoinNodeModel$Tx", name := "size", desc := "(I)I" } : Jvm.MethodName)) ∈ jws := jws_8 (List.mem_of_getElem? (i := 176) rfl) rfl
theorem jw_1857 : (Jvm.Cond.code ({ cls := "CoinNodeModel$Tx", name := "size", desc := "(I)I" } : Jvm.MethodName) prog_21_method_4_code (4 : Nat) (Option.some Jvm.ClassFile.FieldType.int)) ∈ jws := jws_8 (List.mem_of_getElem? (i := 177) rfl) rfl
theorem jw_1858 : (Jvm.Cond.methodLink "CoinNodeModel$Tx" (56 : Nat) ({ cls := "CoinNodeModel$Tx", name := "low", desc := "(I)J" } : Jvm.MethodName)) ∈ jws := jws_8 (List.mem_of_getElem? (i := 178) rfl) rfl
theorem jw_1860 : (Jvm.Cond.instanceMethod ({ cls := "CoinNodeModel$Tx", name := "low", desc := "(I)J" } : Jvm.MethodName)) ∈ jws := jws_8 (List.mem_of_getElem? (i := 180) rfl) rfl
theorem jw_1861 : (Jvm.Cond.code ({ cls := "CoinNodeModel$Tx", name := "low", desc := "(I)J" } : Jvm.MethodName) prog_21_method_3_code (5 : Nat) (Option.some Jvm.ClassFile.FieldType.long)) ∈ jws := jws_8 (List.mem_of_getElem? (i := 181) rfl) rfl
theorem jw_1862 : (Jvm.Cond.constantLong "CoinNodeModel$Tx" (60 : Nat) (253 : Int64)) ∈ jws := jws_8 (List.mem_of_getElem? (i := 182) rfl) rfl
theorem jw_1863 : (Jvm.Cond.constantLong "CoinNodeModel$Tx" (62 : Nat) (252 : Int64)) ∈ jws := jws_8 (List.mem_of_getElem? (i := 183) rfl) rfl
theorem jw_1864 : (Jvm.Cond.constantLong "CoinNodeModel$Tx" (64 : Nat) (254 : Int64)) ∈ jws := jws_8 (List.mem_of_getElem? (i := 184) rfl) rfl
theorem jw_1865 : (Jvm.Cond.constantLong "CoinNodeModel$Tx" (66 : Nat) (65535 : Int64)) ∈ jws := jws_8 (List.mem_of_getElem? (i := 185) rfl) rfl
theorem jw_1866 : (Jvm.Cond.constantLong "CoinNodeModel$Tx" (68 : Nat) (255 : Int64)) ∈ jws := jws_8 (List.mem_of_getElem? (i := 186) rfl) rfl
theorem jw_1867 : (Jvm.Cond.constantLong "CoinNodeModel$Tx" (70 : Nat) (4294967295 : Int64)) ∈ jws := jws_8 (List.mem_of_getElem? (i := 187) rfl) rfl
theorem jw_1868 : (Jvm.Cond.methodLink "CoinNodeModel" (261 : Nat) ({ cls := "CoinNodeModel", name := "apply", desc := "(IZ)V" } : Jvm.MethodName)) ∈ jws := jws_8 (List.mem_of_getElem? (i := 188) rfl) rfl
theorem jw_1870 : (Jvm.Cond.instanceMethod ({ cls := "CoinNodeModel", name := "apply", desc := "(IZ)V" } : Jvm.MethodName)) ∈ jws := jws_8 (List.mem_of_getElem? (i := 190) rfl) rfl
theorem jw_1871 : (Jvm.Cond.code ({ cls := "CoinNodeModel", name := "apply", desc := "(IZ)V" } : Jvm.MethodName) prog_14_method_5_code (5 : Nat) (Option.none : Option Jvm.ClassFile.FieldType)) ∈ jws := jws_8 (List.mem_of_getElem? (i := 191) rfl) rfl
theorem jw_1872 : (Jvm.Cond.methodLink "CoinNodeModel" (205 : Nat) ({ cls := "CoinNodeModel", name := "coin", desc := "([BIJ)I" } : Jvm.MethodName)) ∈ jws := jws_8 (List.mem_of_getElem? (i := 192) rfl) rfl
theorem jw_1874 : (Jvm.Cond.instanceMethod ({ cls := "CoinNodeModel", name := "coin", desc := "([BIJ)I" } : Jvm.MethodName)) ∈ jws := jws_8 (List.mem_of_getElem? (i := 194) rfl) rfl
theorem jw_1875 : (Jvm.Cond.code ({ cls := "CoinNodeModel", name := "coin", desc := "([BIJ)I" } : Jvm.MethodName) prog_14_method_3_code (6 : Nat) (Option.some Jvm.ClassFile.FieldType.int)) ∈ jws := jws_8 (List.mem_of_getElem? (i := 195) rfl) rfl
theorem jw_1876 : (Jvm.Cond.methodLink "CoinNodeModel" (187 : Nat) ({ cls := "CoinNodeModel", name := "like", desc := "([BI[BII)Z" } : Jvm.MethodName)) ∈ jws := jws_8 (List.mem_of_getElem? (i := 196) rfl) rfl
theorem jw_1877 : (Jvm.Cond.static ({ cls := "CoinNodeModel", name := "like", desc := "([BI[BII)Z" } : Jvm.MethodName)) ∈ jws := jws_8 (List.mem_of_getElem? (i := 197) rfl) rfl
theorem jw_1878 : (Jvm.Cond.code ({ cls := "CoinNodeModel", name := "like", desc := "([BI[BII)Z" } : Jvm.MethodName) prog_14_method_1_code (7 : Nat) (Option.some Jvm.ClassFile.FieldType.boolean)) ∈ jws := jws_8 (List.mem_of_getElem? (i := 198) rfl) rfl
theorem jw_1879 : (Jvm.Cond.methodLink "CoinNodeModel" (209 : Nat) ({ cls := "CoinNodeModel", name := "dropCoin", desc := "(I)V" } : Jvm.MethodName)) ∈ jws := jws_8 (List.mem_of_getElem? (i := 199) rfl) rfl
theorem jw_1881 : (Jvm.Cond.instanceMethod ({ cls := "CoinNodeModel", name := "dropCoin", desc := "(I)V" } : Jvm.MethodName)) ∈ jws := jws_8 (List.mem_of_getElem? (i := 201) rfl) rfl
theorem jw_1882 : (Jvm.Cond.code ({ cls := "CoinNodeModel", name := "dropCoin", desc := "(I)V" } : Jvm.MethodName) prog_14_method_4_code (3 : Nat) (Option.none : Option Jvm.ClassFile.FieldType)) ∈ jws := jws_8 (List.mem_of_getElem? (i := 202) rfl) rfl
theorem jw_1883 : (Jvm.Cond.methodLink "CoinNodeModel" (384 : Nat) ({ cls := "CoinNodeModel", name := "nameOf", desc := "(LCoinNodeModel$Tx;[BI)V" } : Jvm.MethodName)) ∈ jws := jws_8 (List.mem_of_getElem? (i := 203) rfl) rfl
theorem jw_1885 : (Jvm.Cond.instanceMethod ({ cls := "CoinNodeModel", name := "nameOf", desc := "(LCoinNodeModel$Tx;[BI)V" } : Jvm.MethodName)) ∈ jws := jws_8 (List.mem_of_getElem? (i := 205) rfl) rfl
theorem jw_1886 : (Jvm.Cond.code ({ cls := "CoinNodeModel", name := "nameOf", desc := "(LCoinNodeModel$Tx;[BI)V" } : Jvm.MethodName) prog_14_method_6_code (4 : Nat) (Option.none : Option Jvm.ClassFile.FieldType)) ∈ jws := jws_8 (List.mem_of_getElem? (i := 206) rfl) rfl
theorem jw_1887 : (Jvm.Cond.methodLink "CoinNodeModel" (228 : Nat) ({ cls := "CoinNodeModel$Tx", name := "bytes", desc := "()I" } : Jvm.MethodName)) ∈ jws := jws_8 (List.mem_of_getElem? (i := 207) rfl) rfl
theorem jw_1888 : (Jvm.Cond.instanceMethod ({ cls := "CoinNodeModel$Tx", name := "bytes", desc := "()I" } : Jvm.MethodName)) ∈ jws := jws_8 (List.mem_of_getElem? (i := 208) rfl) rfl
theorem jw_1889 : (Jvm.Cond.selects "CoinNodeModel$Tx" ({ cls := "CoinNodeModel$Tx", name := "bytes", desc := "()I" } : Jvm.MethodName) ({ cls := "CoinNodeModel$Tx", name := "bytes", desc := "()I" } : Jvm.MethodName)) ∈ jws := jws_8 (List.mem_of_getElem? (i := 209) rfl) rfl
theorem jw_1890 : (Jvm.Cond.code ({ cls := "CoinNodeModel$Tx", name := "bytes", desc := "()I" } : Jvm.MethodName) prog_21_method_6_code (1 : Nat) (Option.some Jvm.ClassFile.FieldType.int)) ∈ jws := jws_8 (List.mem_of_getElem? (i := 210) rfl) rfl
theorem jw_1891 : (Jvm.Cond.methodLink "CoinNodeModel" (388 : Nat) ({ cls := "CoinNodeModel$Tx", name := "fault", desc := "()I" } : Jvm.MethodName)) ∈ jws := jws_8 (List.mem_of_getElem? (i := 211) rfl) rfl
theorem jw_1892 : (Jvm.Cond.instanceMethod ({ cls := "CoinNodeModel$Tx", name := "fault", desc := "()I" } : Jvm.MethodName)) ∈ jws := jws_8 (List.mem_of_getElem? (i := 212) rfl) rfl
theorem jw_1893 : (Jvm.Cond.selects "CoinNodeModel$Tx" ({ cls := "CoinNodeModel$Tx", name := "fault", desc := "()I" } : Jvm.MethodName) ({ cls := "CoinNodeModel$Tx", name := "fault", desc := "()I" } : Jvm.MethodName)) ∈ jws := jws_8 (List.mem_of_getElem? (i := 213) rfl) rfl
theorem jw_1894 : (Jvm.Cond.code ({ cls := "CoinNodeModel$Tx", name := "fault", desc := "()I" } : Jvm.MethodName) prog_21_method_11_code (1 : Nat) (Option.some Jvm.ClassFile.FieldType.int)) ∈ jws := jws_8 (List.mem_of_getElem? (i := 214) rfl) rfl
theorem jw_1895 : (Jvm.Cond.methodLink "CoinNodeModel$Tx" (95 : Nat) ({ cls := "CoinNodeModel$Tx", name := "isLarge", desc := "()Z" } : Jvm.MethodName)) ∈ jws := jws_8 (List.mem_of_getElem? (i := 215) rfl) rfl
theorem jw_1896 : (Jvm.Cond.instanceMethod ({ cls := "CoinNodeModel$Tx", name := "isLarge", desc := "()Z" } : Jvm.MethodName)) ∈ jws := jws_8 (List.mem_of_getElem? (i := 216) rfl) rfl
theorem jw_1897 : (Jvm.Cond.selects "CoinNodeModel$Tx" ({ cls := "CoinNodeModel$Tx", name := "isLarge", desc := "()Z" } : Jvm.MethodName) ({ cls := "CoinNodeModel$Tx", name := "isLarge", desc := "()Z" } : Jvm.MethodName)) ∈ jws := jws_8 (List.mem_of_getElem? (i := 217) rfl) rfl
theorem jw_1898 : (Jvm.Cond.code ({ cls := "CoinNodeModel$Tx", name := "isLarge", desc := "()Z" } : Jvm.MethodName) prog_21_method_9_code (5 : Nat) (Option.some Jvm.ClassFile.FieldType.boolean)) ∈ jws := jws_8 (List.mem_of_getElem? (i := 218) rfl) rfl
theorem jw_1899 : (Jvm.Cond.constantLong "CoinNodeModel$Tx" (89 : Nat) (2100000000000000 : Int64)) ∈ jws := jws_8 (List.mem_of_getElem? (i := 219) rfl) rfl
theorem jw_1900 : (Jvm.Cond.methodLink "CoinNodeModel$Tx" (99 : Nat) ({ cls := "CoinNodeModel$Tx", name := "isTwice", desc := "()Z" } : Jvm.MethodName)) ∈ jws := jws_8 (List.mem_of_getElem? (i := 220) rfl) rfl
theorem jw_1901 : (Jvm.Cond.instanceMethod ({ cls := "CoinNodeModel$Tx", name := "isTwice", desc := "()Z" } : Jvm.MethodName)) ∈ jws := jws_8 (List.mem_of_getElem? (i := 221) rfl) rfl
theorem jw_1902 : (Jvm.Cond.selects "CoinNodeModel$Tx" ({ cls := "CoinNodeModel$Tx", name := "isTwice", desc := "()Z" } : Jvm.MethodName) ({ cls := "CoinNodeModel$Tx", name := "isTwice", desc := "()Z" } : Jvm.MethodName)) ∈ jws := jws_8 (List.mem_of_getElem? (i := 222) rfl) rfl
theorem jw_1903 : (Jvm.Cond.code ({ cls := "CoinNodeModel$Tx", name := "isTwice", desc := "()Z" } : Jvm.MethodName) prog_21_method_10_code (4 : Nat) (Option.some Jvm.ClassFile.FieldType.boolean)) ∈ jws := jws_8 (List.mem_of_getElem? (i := 223) rfl) rfl
theorem jw_1905 : (Jvm.Cond.methodLink "CoinNodeModel" (391 : Nat) ({ cls := "CoinNodeModel$Tx", name := "hasRoot", desc := "()Z" } : Jvm.MethodName)) ∈ jws := jws_8 (List.mem_of_getElem? (i := 225) rfl) rfl
theorem jw_1906 : (Jvm.Cond.instanceMethod ({ cls := "CoinNodeModel$Tx", name := "hasRoot", desc := "()Z" } : Jvm.MethodName)) ∈ jws := jws_8 (List.mem_of_getElem? (i := 226) rfl) rfl
theorem jw_1907 : (Jvm.Cond.selects "CoinNodeModel$Tx" ({ cls := "CoinNodeModel$Tx", name := "hasRoot", desc := "()Z" } : Jvm.MethodName) ({ cls := "CoinNodeModel$Tx", name := "hasRoot", desc := "()Z" } : Jvm.MethodName)) ∈ jws := jws_8 (List.mem_of_getElem? (i := 227) rfl) rfl
theorem jw_1908 : (Jvm.Cond.code ({ cls := "CoinNodeModel$Tx", name := "hasRoot", desc := "()Z" } : Jvm.MethodName) prog_21_method_8_code (3 : Nat) (Option.some Jvm.ClassFile.FieldType.boolean)) ∈ jws := jws_8 (List.mem_of_getElem? (i := 228) rfl) rfl
theorem jw_1909 : (Jvm.Cond.methodLink "CoinNodeModel$Tx" (85 : Nat) ({ cls := "CoinNodeModel$Tx", name := "isRoot", desc := "(I)Z" } : Jvm.MethodName)) ∈ jws := jws_8 (List.mem_of_getElem? (i := 229) rfl) rfl
theorem jw_1910 : (Jvm.Cond.instanceMethod ({ cls := "CoinNodeModel$Tx", name := "isRoot", desc := "(I)Z" } : Jvm.MethodName)) ∈ jws := jws_8 (List.mem_of_getElem? (i := 230) rfl) rfl
theorem jw_1911 : (Jvm.Cond.selects "CoinNodeModel$Tx" ({ cls := "CoinNodeModel$Tx", name := "isRoot", desc := "(I)Z" } : Jvm.MethodName) ({ cls := "CoinNodeModel$Tx", name := "isRoot", desc := "(I)Z" } : Jvm.MethodName)) ∈ jws := jws_8 (List.mem_of_getElem? (i := 231) rfl) rfl
theorem jw_1912 : (Jvm.Cond.code ({ cls := "CoinNodeModel$Tx", name := "isRoot", desc := "(I)Z" } : Jvm.MethodName) prog_21_method_7_code (4 : Nat) (Option.some Jvm.ClassFile.FieldType.boolean)) ∈ jws := jws_8 (List.mem_of_getElem? (i := 232) rfl) rfl
theorem jw_1913 : (Jvm.Cond.methodLink "CoinNodeModel" (375 : Nat) ({ cls := "CoinNodeModel", name := "inPool", desc := "([BI)I" } : Jvm.MethodName)) ∈ jws := jws_8 (List.mem_of_getElem? (i := 233) rfl) rfl
theorem jw_1915 : (Jvm.Cond.instanceMethod ({ cls := "CoinNodeModel", name := "inPool", desc := "([BI)I" } : Jvm.MethodName)) ∈ jws := jws_8 (List.mem_of_getElem? (i := 235) rfl) rfl
theorem jw_1916 : (Jvm.Cond.code ({ cls := "CoinNodeModel", name := "inPool", desc := "([BI)I" } : Jvm.MethodName) prog_14_method_19_code (4 : Nat) (Option.some Jvm.ClassFile.FieldType.int)) ∈ jws := jws_8 (List.mem_of_getElem? (i := 236) rfl) rfl
theorem jw_1917 : (Jvm.Cond.methodLink "CoinNodeModel" (394 : Nat) ({ cls := "CoinNodeModel", name := "spends", desc := "(I[BIJ)Z" } : Jvm.MethodName)) ∈ jws := jws_8 (List.mem_of_getElem? (i := 237) rfl) rfl
theorem jw_1919 : (Jvm.Cond.instanceMethod ({ cls := "CoinNodeModel", name := "spends", desc := "(I[BIJ)Z" } : Jvm.MethodName)) ∈ jws := jws_8 (List.mem_of_getElem? (i := 239) rfl) rfl
theorem jw_1920 : (Jvm.Cond.code ({ cls := "CoinNodeModel", name := "spends", desc := "(I[BIJ)Z" } : Jvm.MethodName) prog_14_method_21_code (8 : Nat) (Option.some Jvm.ClassFile.FieldType.boolean)) ∈ jws := jws_9 (List.mem_of_getElem? (i := 0) rfl) rfl
theorem jw_1921 : (Jvm.Cond.methodLink "CoinNodeModel" (398 : Nat) ({ cls := "CoinNodeModel", name := "find", desc := "([BIJ)J" } : Jvm.MethodName)) ∈ jws := jws_9 (List.mem_of_getElem? (i := 1) rfl) rfl
theorem jw_1923 : (Jvm.Cond.instanceMethod ({ cls := "CoinNodeModel", name := "find", desc := "([BIJ)J" } : Jvm.MethodName)) ∈ jws := jws_9 (List.mem_of_getElem? (i := 3) rfl) rfl
theorem jw_1924 : (Jvm.Cond.code ({ cls := "CoinNodeModel", name := "find", desc := "([BIJ)J" } : Jvm.MethodName) prog_14_method_26_code (7 : Nat) (Option.some Jvm.ClassFile.FieldType.long)) ∈ jws := jws_9 (List.mem_of_getElem? (i := 4) rfl) rfl
theorem jw_1925 : (Jvm.Cond.constantLong "CoinNodeModel" (379 : Nat) (-1 : Int64)) ∈ jws := jws_9 (List.mem_of_getElem? (i := 5) rfl) rfl
theorem jw_1926 : (Jvm.Cond.methodLink "CoinNodeModel" (381 : Nat) ({ cls := "CoinNodeModel", name := "openPool", desc := "(I)V" } : Jvm.MethodName)) ∈ jws := jws_9 (List.mem_of_getElem? (i := 6) rfl) rfl
theorem jw_1928 : (Jvm.Cond.instanceMethod ({ cls := "CoinNodeModel", name := "openPool", desc := "(I)V" } : Jvm.MethodName)) ∈ jws := jws_9 (List.mem_of_getElem? (i := 8) rfl) rfl
theorem jw_1929 : (Jvm.Cond.code ({ cls := "CoinNodeModel", name := "openPool", desc := "(I)V" } : Jvm.MethodName) prog_14_method_20_code (2 : Nat) (Option.none : Option Jvm.ClassFile.FieldType)) ∈ jws := jws_9 (List.mem_of_getElem? (i := 9) rfl) rfl
theorem jw_1930 : (Jvm.Cond.constantLong "CoinNodeModel" (402 : Nat) (2147483647 : Int64)) ∈ jws := jws_9 (List.mem_of_getElem? (i := 10) rfl) rfl
theorem jw_1931 : (Jvm.Cond.methodLink "CoinNodeModel" (297 : Nat) ({ cls := "CoinNodeModel$Tx", name := "sum", desc := "()J" } : Jvm.MethodName)) ∈ jws := jws_9 (List.mem_of_getElem? (i := 11) rfl) rfl
theorem jw_1932 : (Jvm.Cond.instanceMethod ({ cls := "CoinNodeModel$Tx", name := "sum", desc := "()J" } : Jvm.MethodName)) ∈ jws := jws_9 (List.mem_of_getElem? (i := 12) rfl) rfl
theorem jw_1933 : (Jvm.Cond.selects "CoinNodeModel$Tx" ({ cls := "CoinNodeModel$Tx", name := "sum", desc := "()J" } : Jvm.MethodName) ({ cls := "CoinNodeModel$Tx", name := "sum", desc := "()J" } : Jvm.MethodName)) ∈ jws := jws_9 (List.mem_of_getElem? (i := 13) rfl) rfl
theorem jw_1934 : (Jvm.Cond.code ({ cls := "CoinNodeModel$Tx", name := "sum", desc := "()J" } : Jvm.MethodName) prog_21_method_12_code (4 : Nat) (Option.some Jvm.ClassFile.FieldType.long)) ∈ jws := jws_9 (List.mem_of_getElem? (i := 14) rfl) rfl
theorem jw_1935 : (Jvm.Cond.methodLink "CoinNodeModel" (301 : Nat) ({ cls := "CoinNodeModel", name := "fails", desc := "(LCoinNodeModel$Tx;I[BII)Z" } : Jvm.MethodName)) ∈ jws := jws_9 (List.mem_of_getElem? (i := 15) rfl) rfl
theorem jw_1937 : (Jvm.Cond.instanceMethod ({ cls := "CoinNodeModel", name := "fails", desc := "(LCoinNodeModel$Tx;I[BII)Z" } : Jvm.MethodName)) ∈ jws := jws_9 (List.mem_of_getElem? (i := 17) rfl) rfl
theorem jw_1938 : (Jvm.Cond.code ({ cls := "CoinNodeModel", name := "fails", desc := "(LCoinNodeModel$Tx;I[BII)Z" } : Jvm.MethodName) prog_14_method_12_code (6 : Nat) (Option.some Jvm.ClassFile.FieldType.boolean)) ∈ jws := jws_9 (List.mem_of_getElem? (i := 18) rfl) rfl
theorem jw_1939 : (Jvm.Cond.methodLink "CoinNodeModel" (278 : Nat) ({ cls := "CoinNodeModel$Scripts", name := "clear", desc := "()V" } : Jvm.MethodName)) ∈ jws := jws_9 (List.mem_of_getElem? (i := 19) rfl) rfl
theorem jw_1940 : (Jvm.Cond.instanceMethod ({ cls := "CoinNodeModel$Scripts", name := "clear", desc := "()V" } : Jvm.MethodName)) ∈ jws := jws_9 (List.mem_of_getElem? (i := 20) rfl) rfl
theorem jw_1941 : (Jvm.Cond.selects "CoinNodeModel$Scripts" ({ cls := "CoinNodeModel$Scripts", name := "clear", desc := "()V" } : Jvm.MethodName) ({ cls := "CoinNodeModel$Scripts", name := "clear", desc := "()V" } : Jvm.MethodName)) ∈ jws := jws_9 (List.mem_of_getElem? (i := 21) rfl) rfl
theorem jw_1942 : (Jvm.Cond.code ({ cls := "CoinNodeModel$Scripts", name := "clear", desc := "()V" } : Jvm.MethodName) prog_18_method_33_code (1 : Nat) (Option.none : Option Jvm.ClassFile.FieldType)) ∈ jws := jws_9 (List.mem_of_getElem? (i := 22) rfl) rfl
theorem jw_1943 : (Jvm.Cond.methodLink "CoinNodeModel" (286 : Nat) ({ cls := "CoinNodeModel$Scripts", name := "load", desc := "([BII)V" } : Jvm.MethodName)) ∈ jws := jws_9 (List.mem_of_getElem? (i := 23) rfl) rfl
theorem jw_1944 : (Jvm.Cond.instanceMethod ({ cls := "CoinNodeModel$Scripts", name := "load", desc := "([BII)V" } : Jvm.MethodName)) ∈ jws := jws_9 (List.mem_of_getElem? (i := 24) rfl) rfl
theorem jw_1945 : (Jvm.Cond.selects "CoinNodeModel$Scripts" ({ cls := "CoinNodeModel$Scripts", name := "load", desc := "([BII)V" } : Jvm.MethodName) ({ cls := "CoinNodeModel$Scripts", name := "load", desc := "([BII)V" } : Jvm.MethodName)) ∈ jws := jws_9 (List.mem_of_getElem? (i := 25) rfl) rfl
theorem jw_1946 : (Jvm.Cond.code ({ cls := "CoinNodeModel$Scripts", name := "load", desc := "([BII)V" } : Jvm.MethodName) prog_18_method_2_code (5 : Nat) (Option.none : Option Jvm.ClassFile.FieldType)) ∈ jws := jws_9 (List.mem_of_getElem? (i := 26) rfl) rfl
theorem jw_1947 : (Jvm.Cond.methodLink "CoinNodeModel" (290 : Nat) ({ cls := "CoinNodeModel$Scripts", name := "run", desc := "()I" } : Jvm.MethodName)) ∈ jws := jws_9 (List.mem_of_getElem? (i := 27) rfl) rfl
theorem jw_1948 : (Jvm.Cond.instanceMethod ({ cls := "CoinNodeModel$Scripts", name := "run", desc := "()I" } : Jvm.MethodName)) ∈ jws := jws_9 (List.mem_of_getElem? (i := 28) rfl) rfl
theorem jw_1949 : (Jvm.Cond.selects "CoinNodeModel$Scripts" ({ cls := "CoinNodeModel$Scripts", name := "run", desc := "()I" } : Jvm.MethodName) ({ cls := "CoinNodeModel$Scripts", name := "run", desc := "()I" } : Jvm.MethodName)) ∈ jws := jws_9 (List.mem_of_getElem? (i := 29) rfl) rfl
theorem jw_1950 : (Jvm.Cond.code ({ cls := "CoinNodeModel$Scripts", name := "run", desc := "()I" } : Jvm.MethodName) prog_18_method_32_code (2 : Nat) (Option.some Jvm.ClassFile.FieldType.int)) ∈ jws := jws_9 (List.mem_of_getElem? (i := 30) rfl) rfl
theorem jw_1951 : (Jvm.Cond.methodLink "CoinNodeModel$Scripts" (182 : Nat) ({ cls := "CoinNodeModel$Scripts", name := "next", desc := "(I)I" } : Jvm.MethodName)) ∈ jws := jws_9 (List.mem_of_getElem? (i := 31) rfl) rfl
theorem jw_1953 : (Jvm.Cond.instanceMethod ({ cls := "CoinNodeModel$Scripts", name := "next", desc := "(I)I" } : Jvm.MethodName)) ∈ jws := jws_9 (List.mem_of_getElem? (i := 33) rfl) rfl
theorem jw_1954 : (Jvm.Cond.code ({ cls := "CoinNodeModel$Scripts", name := "next", desc := "(I)I" } : Jvm.MethodName) prog_18_method_31_code (6 : Nat) (Option.some Jvm.ClassFile.FieldType.int)) ∈ jws := jws_9 (List.mem_of_getElem? (i := 34) rfl) rfl
theorem jw_1955 : (Jvm.Cond.methodLink "CoinNodeModel$Scripts" (119 : Nat) ({ cls := "CoinNodeModel$Scripts", name := "isDone", desc := "()Z" } : Jvm.MethodName)) ∈ jws := jws_9 (List.mem_of_getElem? (i := 35) rfl) rfl
theorem jw_1957 : (Jvm.Cond.instanceMethod ({ cls := "CoinNodeModel$Scripts", name := "isDone", desc := "()Z" } : Jvm.MethodName)) ∈ jws := jws_9 (List.mem_of_getElem? (i := 37) rfl) rfl
theorem jw_1958 : (Jvm.Cond.code ({ cls := "CoinNodeModel$Scripts", name := "isDone", desc := "()Z" } : Jvm.MethodName) prog_18_method_18_code (1 : Nat) (Option.some Jvm.ClassFile.FieldType.boolean)) ∈ jws := jws_9 (List.mem_of_getElem? (i := 38) rfl) rfl
theorem jw_1959 : (Jvm.Cond.methodLink "CoinNodeModel$Scripts" (60 : Nat) ({ cls := "CoinNodeModel$Scripts", name := "fails", desc := "(I)V" } : Jvm.MethodName)) ∈ jws := jws_9 (List.mem_of_getElem? (i := 39) rfl) rfl
theorem jw_1961 : (Jvm.Cond.instanceMethod ({ cls := "CoinNodeModel$Scripts", name := "fails", desc := "(I)V" } : Jvm.MethodName)) ∈ jws := jws_9 (List.mem_of_getElem? (i := 41) rfl) rfl
theorem jw_1962 : (Jvm.Cond.code ({ cls := "CoinNodeModel$Scripts", name := "fails", desc := "(I)V" } : Jvm.MethodName) prog_18_method_10_code (2 : Nat) (Option.none : Option Jvm.ClassFile.FieldType)) ∈ jws := jws_9 (List.mem_of_getElem? (i := 42) rfl) rfl
theorem jw_1963 : (Jvm.Cond.methodLink "CoinNodeModel$Scripts" (170 : Nat) ({ cls := "CoinNodeModel$Scripts", name := "pushes", desc := "(IIZ)I" } : Jvm.MethodName)) ∈ jws := jws_9 (List.mem_of_getElem? (i := 43) rfl) rfl
theorem jw_1965 : (Jvm.Cond.instanceMethod ({ cls := "CoinNodeModel$Scripts", name := "pushes", desc := "(IIZ)I" } : Jvm.MethodName)) ∈ jws := jws_9 (List.mem_of_getElem? (i := 45) rfl) rfl
theorem jw_1966 : (Jvm.Cond.code ({ cls := "CoinNodeModel$Scripts", name := "pushes", desc := "(IIZ)I" } : Jvm.MethodName) prog_18_method_30_code (5 : Nat) (Option.some Jvm.ClassFile.FieldType.int)) ∈ jws := jws_9 (List.mem_of_getElem? (i := 46) rfl) rfl
theorem jw_1967 : (Jvm.Cond.methodLink "CoinNodeModel$Scripts" (174 : Nat) ({ cls := "CoinNodeModel$Scripts", name := "flow", desc := "(I)V" } : Jvm.MethodName)) ∈ jws := jws_9 (List.mem_of_getElem? (i := 47) rfl) rfl
theorem jw_1969 : (Jvm.Cond.instanceMethod ({ cls := "CoinNodeModel$Scripts", name := "flow", desc := "(I)V" } : Jvm.MethodName)) ∈ jws := jws_9 (List.mem_of_getElem? (i := 49) rfl) rfl
theorem jw_1970 : (Jvm.Cond.code ({ cls := "CoinNodeModel$Scripts", name := "flow", desc := "(I)V" } : Jvm.MethodName) prog_18_method_19_code (3 : Nat) (Option.none : Option Jvm.ClassFile.FieldType)) ∈ jws := jws_9 (List.mem_of_getElem? (i := 50) rfl) rfl
theorem jw_1971 : (Jvm.Cond.methodLink "CoinNodeModel$Scripts" (64 : Nat) ({ cls := "CoinNodeModel$Scripts", name := "has", desc := "(I)Z" } : Jvm.MethodName)) ∈ jws := jws_9 (List.mem_of_getElem? (i := 51) rfl) rfl
theorem jw_1973 : (Jvm.Cond.instanceMethod ({ cls := "CoinNodeModel$Scripts", name := "has", desc := "(I)Z" } : Jvm.MethodName)) ∈ jws := jws_9 (List.mem_of_getElem? (i := 53) rfl) rfl
theorem jw_1974 : (Jvm.Cond.code ({ cls := "CoinNodeModel$Scripts", name := "has", desc := "(I)Z" } : Jvm.MethodName) prog_18_method_11_code (2 : Nat) (Option.some Jvm.ClassFile.FieldType.boolean)) ∈ jws := jws_9 (List.mem_of_getElem? (i := 54) rfl) rfl
theorem jw_1975 : (Jvm.Cond.methodLink "CoinNodeModel$Scripts" (76 : Nat) ({ cls := "CoinNodeModel$Scripts", name := "isTrueRow", desc := "(I)Z" } : Jvm.MethodName)) ∈ jws := jws_9 (List.mem_of_getElem? (i := 55) rfl) rfl
theorem jw_1977 : (Jvm.Cond.instanceMethod ({ cls := "CoinNodeModel$Scripts", name := "isTrueRow", desc := "(I)Z" } : Jvm.MethodName)) ∈ jws := jws_9 (List.mem_of_getElem? (i := 57) rfl) rfl
theorem jw_1978 : (Jvm.Cond.code ({ cls := "CoinNodeModel$Scripts", name := "isTrueRow", desc := "(I)Z" } : Jvm.MethodName) prog_18_method_8_code (5 : Nat) (Option.some Jvm.ClassFile.FieldType.boolean)) ∈ jws := jws_9 (List.mem_of_getElem? (i := 58) rfl) rfl
theorem jw_1979 : (Jvm.Cond.constantLong "CoinNodeModel$Scripts" (177 : Nat) (-1 : Int64)) ∈ jws := jws_9 (List.mem_of_getElem? (i := 59) rfl) rfl
theorem jw_1980 : (Jvm.Cond.methodLink "CoinNodeModel$Scripts" (53 : Nat) ({ cls := "CoinNodeModel$Scripts", name := "pushNumber", desc := "(J)V" } : Jvm.MethodName)) ∈ jws := jws_9 (List.mem_of_getElem? (i := 60) rfl) rfl
theorem jw_1982 : (Jvm.Cond.instanceMethod ({ cls := "CoinNodeModel$Scripts", name := "pushNumber", desc := "(J)V" } : Jvm.MethodName)) ∈ jws := jws_9 (List.mem_of_getElem? (i := 62) rfl) rfl
theorem jw_1983 : (Jvm.Cond.code ({ cls := "CoinNodeModel$Scripts", name := "pushNumber", desc := "(J)V" } : Jvm.MethodName) prog_18_method_6_code (6 : Nat) (Option.none : Option Jvm.ClassFile.FieldType)) ∈ jws := jws_9 (List.mem_of_getElem? (i := 63) rfl) rfl
theorem jw_1984 : (Jvm.Cond.constantLong "CoinNodeModel$Scripts" (51 : Nat) (256 : Int64)) ∈ jws := jws_9 (List.mem_of_getElem? (i := 64) rfl) rfl
theorem jw_1985 : (Jvm.Cond.methodLink "CoinNodeModel$Scripts" (179 : Nat) ({ cls := "CoinNodeModel$Scripts", name := "operation", desc := "(I)V" } : Jvm.MethodName)) ∈ jws := jws_9 (List.mem_of_getElem? (i := 65) rfl) rfl
theorem jw_1987 : (Jvm.Cond.instanceMethod ({ cls := "CoinNodeModel$Scripts", name := "operation", desc := "(I)V" } : Jvm.MethodName)) ∈ jws := jws_9 (List.mem_of_getElem? (i := 67) rfl) rfl
theorem jw_1988 : (Jvm.Cond.code ({ cls := "CoinNodeModel$Scripts", name := "operation", desc := "(I)V" } : Jvm.MethodName) prog_18_method_29_code (2 : Nat) (Option.none : Option Jvm.ClassFile.FieldType)) ∈ jws := jws_9 (List.mem_of_getElem? (i := 68) rfl) rfl
theorem jw_1989 : (Jvm.Cond.methodLink "CoinNodeModel$Scripts" (149 : Nat) ({ cls := "CoinNodeModel$Scripts", name := "moves", desc := "(I)V" } : Jvm.MethodName)) ∈ jws := jws_9 (List.mem_of_getElem? (i := 69) rfl) rfl
theorem jw_1991 : (Jvm.Cond.instanceMethod ({ cls := "CoinNodeModel$Scripts", name := "moves", desc := "(I)V" } : Jvm.MethodName)) ∈ jws := jws_9 (List.mem_of_getElem? (i := 71) rfl) rfl
theorem jw_1992 : (Jvm.Cond.code ({ cls := "CoinNodeModel$Scripts", name := "moves", desc := "(I)V" } : Jvm.MethodName) prog_18_method_24_code (2 : Nat) (Option.none : Option Jvm.ClassFile.FieldType)) ∈ jws := jws_9 (List.mem_of_getElem? (i := 72) rfl) rfl
theorem jw_1993 : (Jvm.Cond.methodLink "CoinNodeModel$Scripts" (47 : Nat) ({ cls := "CoinNodeModel$Scripts", name := "copy", desc := "(II)V" } : Jvm.MethodName)) ∈ jws := jws_9 (List.mem_of_getElem? (i := 73) rfl) rfl
theorem jw_1995 : (Jvm.Cond.instanceMethod ({ cls := "CoinNodeModel$Scripts", name := "copy", desc := "(II)V" } : Jvm.MethodName)) ∈ jws := jws_9 (List.mem_of_getElem? (i := 75) rfl) rfl
theorem jw_1996 : (Jvm.Cond.code ({ cls := "CoinNodeModel$Scripts", name := "copy", desc := "(II)V" } : Jvm.MethodName) prog_18_method_3_code (4 : Nat) (Option.none : Option Jvm.ClassFile.FieldType)) ∈ jws := jws_9 (List.mem_of_getElem? (i := 76) rfl) rfl
theorem jw_1997 : (Jvm.Cond.methodLink "CoinNodeModel$Scripts" (123 : Nat) ({ cls := "CoinNodeModel$Scripts", name := "push", desc := "(I)V" } : Jvm.MethodName)) ∈ jws := jws_9 (List.mem_of_getElem? (i := 77) rfl) rfl
theorem jw_1999 : (Jvm.Cond.instanceMethod ({ cls := "CoinNodeModel$Scripts", name := "push", desc := "(I)V" } : Jvm.MethodName)) ∈ jws := jws_9 (List.mem_of_getElem? (i := 79) rfl) rfl
theorem jw_2000 : (Jvm.Cond.code ({ cls := "CoinNodeModel$Scripts", name := "push", desc := "(I)V" } : Jvm.MethodName) prog_18_method_5_code (2 : Nat) (Option.none : Option Jvm.ClassFile.FieldType)) ∈ jws := jws_9 (List.mem_of_getElem? (i := 80) rfl) rfl
theorem jw_2001 : (Jvm.Cond.methodLink "CoinNodeModel$Scripts" (132 : Nat) ({ cls := "CoinNodeModel$Scripts", name := "again", desc := "(III)V" } : Jvm.MethodName)) ∈ jws := jws_9 (List.mem_of_getElem? (i := 81) rfl) rfl
theorem jw_2003 : (Jvm.Cond.instanceMethod ({ cls := "CoinNodeModel$Scripts", name := "again", desc := "(III)V" } : Jvm.MethodName)) ∈ jws := jws_9 (List.mem_of_getElem? (i := 83) rfl) rfl
theorem jw_2004 : (Jvm.Cond.code ({ cls := "CoinNodeModel$Scripts", name := "again", desc := "(III)V" } : Jvm.MethodName) prog_18_method_20_code (6 : Nat) (Option.none : Option Jvm.ClassFile.FieldType)) ∈ jws := jws_9 (List.mem_of_getElem? (i := 84) rfl) rfl
theorem jw_2005 : (Jvm.Cond.methodLink "CoinNodeModel$Scripts" (136 : Nat) ({ cls := "CoinNodeModel$Scripts", name := "turn", desc := "(II)V" } : Jvm.MethodName)) ∈ jws := jws_9 (List.mem_of_getElem? (i := 85) rfl) rfl
theorem jw_2007 : (Jvm.Cond.instanceMethod ({ cls := "CoinNodeModel$Scripts", name := "turn", desc := "(II)V" } : Jvm.MethodName)) ∈ jws := jws_9 (List.mem_of_getElem? (i := 87) rfl) rfl
theorem jw_2008 : (Jvm.Cond.code ({ cls := "CoinNodeModel$Scripts", name := "turn", desc := "(II)V" } : Jvm.MethodName) prog_18_method_21_code (5 : Nat) (Option.none : Option Jvm.ClassFile.FieldType)) ∈ jws := jws_9 (List.mem_of_getElem? (i := 88) rfl) rfl
theorem jw_2009 : (Jvm.Cond.methodLink "CoinNodeModel$Scripts" (68 : Nat) ({ cls := "CoinNodeModel$Scripts", name := "top", desc := "(I)I" } : Jvm.MethodName)) ∈ jws := jws_9 (List.mem_of_getElem? (i := 89) rfl) rfl
theorem jw_2011 : (Jvm.Cond.instanceMethod ({ cls := "CoinNodeModel$Scripts", name := "top", desc := "(I)I" } : Jvm.MethodName)) ∈ jws := jws_9 (List.mem_of_getElem? (i := 91) rfl) rfl
theorem jw_2012 : (Jvm.Cond.code ({ cls := "CoinNodeModel$Scripts", name := "top", desc := "(I)I" } : Jvm.MethodName) prog_18_method_4_code (2 : Nat) (Option.some Jvm.ClassFile.FieldType.int)) ∈ jws := jws_9 (List.mem_of_getElem? (i := 92) rfl) rfl
theorem jw_2013 : (Jvm.Cond.methodLink "CoinNodeModel$Scripts" (126 : Nat) ({ cls := "CoinNodeModel$Scripts", name := "takeOut", desc := "(I)V" } : Jvm.MethodName)) ∈ jws := jws_9 (List.mem_of_getElem? (i := 93) rfl) rfl
theorem jw_2015 : (Jvm.Cond.instanceMethod ({ cls := "CoinNodeModel$Scripts", name := "takeOut", desc := "(I)V" } : Jvm.MethodName)) ∈ jws := jws_9 (List.mem_of_getElem? (i := 95) rfl) rfl
theorem jw_2016 : (Jvm.Cond.code ({ cls := "CoinNodeModel$Scripts", name := "takeOut", desc := "(I)V" } : Jvm.MethodName) prog_18_method_22_code (3 : Nat) (Option.none : Option Jvm.ClassFile.FieldType)) ∈ jws := jws_9 (List.mem_of_getElem? (i := 96) rfl) rfl
theorem jw_2017 : (Jvm.Cond.methodLink "CoinNodeModel$Scripts" (139 : Nat) ({ cls := "CoinNodeModel$Scripts", name := "pick", desc := "(Z)V" } : Jvm.MethodName)) ∈ jws := jws_9 (List.mem_of_getElem? (i := 97) rfl) rfl
theorem jw_2019 : (Jvm.Cond.instanceMethod ({ cls := "CoinNodeModel$Scripts", name := "pick", desc := "(Z)V" } : Jvm.MethodName)) ∈ jws := jws_9 (List.mem_of_getElem? (i := 99) rfl) rfl
theorem jw_2020 : (Jvm.Cond.code ({ cls := "CoinNodeModel$Scripts", name := "pick", desc := "(Z)V" } : Jvm.MethodName) prog_18_method_23_code (3 : Nat) (Option.none : Option Jvm.ClassFile.FieldType)) ∈ jws := jws_9 (List.mem_of_getElem? (i := 100) rfl) rfl
theorem jw_2021 : (Jvm.Cond.methodLink "CoinNodeModel$Scripts" (108 : Nat) ({ cls := "CoinNodeModel$Scripts", name := "reads", desc := "(I)Z" } : Jvm.MethodName)) ∈ jws := jws_9 (List.mem_of_getElem? (i := 101) rfl) rfl
theorem jw_2023 : (Jvm.Cond.instanceMethod ({ cls := "CoinNodeModel$Scripts", name := "reads", desc := "(I)Z" } : Jvm.MethodName)) ∈ jws := jws_9 (List.mem_of_getElem? (i := 103) rfl) rfl
theorem jw_2024 : (Jvm.Cond.code ({ cls := "CoinNodeModel$Scripts", name := "reads", desc := "(I)Z" } : Jvm.MethodName) prog_18_method_12_code (5 : Nat) (Option.some Jvm.ClassFile.FieldType.boolean)) ∈ jws := jws_9 (List.mem_of_getElem? (i := 104) rfl) rfl
theorem jw_2025 : (Jvm.Cond.methodLink "CoinNodeModel$Scripts" (152 : Nat) ({ cls := "CoinNodeModel$Scripts", name := "equal", desc := "(Z)V" } : Jvm.MethodName)) ∈ jws := jws_9 (List.mem_of_getElem? (i := 105) rfl) rfl
theorem jw_2027 : (Jvm.Cond.instanceMethod ({ cls := "CoinNodeModel$Scripts", name := "equal", desc := "(Z)V" } : Jvm.MethodName)) ∈ jws := jws_9 (List.mem_of_getElem? (i := 107) rfl) rfl
theorem jw_2028 : (Jvm.Cond.code ({ cls := "CoinNodeModel$Scripts", name := "equal", desc := "(Z)V" } : Jvm.MethodName) prog_18_method_25_code (3 : Nat) (Option.none : Option Jvm.ClassFile.FieldType)) ∈ jws := jws_9 (List.mem_of_getElem? (i := 108) rfl) rfl
theorem jw_2029 : (Jvm.Cond.methodLink "CoinNodeModel$Scripts" (142 : Nat) ({ cls := "CoinNodeModel$Scripts", name := "isSame", desc := "(II)Z" } : Jvm.MethodName)) ∈ jws := jws_9 (List.mem_of_getElem? (i := 109) rfl) rfl
theorem jw_2031 : (Jvm.Cond.instanceMethod ({ cls := "CoinNodeModel$Scripts", name := "isSame", desc := "(II)Z" } : Jvm.MethodName)) ∈ jws := jws_9 (List.mem_of_getElem? (i := 111) rfl) rfl
theorem jw_2032 : (Jvm.Cond.code ({ cls := "CoinNodeModel$Scripts", name := "isSame", desc := "(II)Z" } : Jvm.MethodName) prog_18_method_9_code (5 : Nat) (Option.some Jvm.ClassFile.FieldType.boolean)) ∈ jws := jws_9 (List.mem_of_getElem? (i := 112) rfl) rfl
theorem jw_2033 : (Jvm.Cond.methodLink "CoinNodeModel$Scripts" (101 : Nat) ({ cls := "CoinNodeModel$Scripts", name := "pushTruth", desc := "(Z)V" } : Jvm.MethodName)) ∈ jws := jws_9 (List.mem_of_getElem? (i := 113) rfl) rfl
theorem jw_2035 : (Jvm.Cond.instanceMethod ({ cls := "CoinNodeModel$Scripts", name := "pushTruth", desc := "(Z)V" } : Jvm.MethodName)) ∈ jws := jws_9 (List.mem_of_getElem? (i := 115) rfl) rfl
theorem jw_2036 : (Jvm.Cond.code ({ cls := "CoinNodeModel$Scripts", name := "pushTruth", desc := "(Z)V" } : Jvm.MethodName) prog_18_method_7_code (2 : Nat) (Option.none : Option Jvm.ClassFile.FieldType)) ∈ jws := jws_9 (List.mem_of_getElem? (i := 116) rfl) rfl
theorem jw_2037 : (Jvm.Cond.methodLink "CoinNodeModel$Scripts" (105 : Nat) ({ cls := "CoinNodeModel$Scripts", name := "mustBeTrue", desc := "()V" } : Jvm.MethodName)) ∈ jws := jws_9 (List.mem_of_getElem? (i := 117) rfl) rfl
theorem jw_2039 : (Jvm.Cond.instanceMethod ({ cls := "CoinNodeModel$Scripts", name := "mustBeTrue", desc := "()V" } : Jvm.MethodName)) ∈ jws := jws_9 (List.mem_of_getElem? (i := 119) rfl) rfl
theorem jw_2040 : (Jvm.Cond.code ({ cls := "CoinNodeModel$Scripts", name := "mustBeTrue", desc := "()V" } : Jvm.MethodName) prog_18_method_13_code (1 : Nat) (Option.none : Option Jvm.ClassFile.FieldType)) ∈ jws := jws_9 (List.mem_of_getElem? (i := 120) rfl) rfl
theorem jw_2041 : (Jvm.Cond.methodLink "CoinNodeModel$Scripts" (155 : Nat) ({ cls := "CoinNodeModel$Scripts", name := "numberOfOne", desc := "(I)V" } : Jvm.MethodName)) ∈ jws := jws_9 (List.mem_of_getElem? (i := 121) rfl) rfl
theorem jw_2043 : (Jvm.Cond.instanceMethod ({ cls := "CoinNodeModel$Scripts", name := "numberOfOne", desc := "(I)V" } : Jvm.MethodName)) ∈ jws := jws_9 (List.mem_of_getElem? (i := 123) rfl) rfl
theorem jw_2044 : (Jvm.Cond.code ({ cls := "CoinNodeModel$Scripts", name := "numberOfOne", desc := "(I)V" } : Jvm.MethodName) prog_18_method_26_code (4 : Nat) (Option.none : Option Jvm.ClassFile.FieldType)) ∈ jws := jws_9 (List.mem_of_getElem? (i := 124) rfl) rfl
theorem jw_2045 : (Jvm.Cond.methodLink "CoinNodeModel$Scripts" (158 : Nat) ({ cls := "CoinNodeModel$Scripts", name := "numberOfTwo", desc := "(I)V" } : Jvm.MethodName)) ∈ jws := jws_9 (List.mem_of_getElem? (i := 125) rfl) rfl
theorem jw_2047 : (Jvm.Cond.instanceMethod ({ cls := "CoinNodeModel$Scripts", name := "numberOfTwo", desc := "(I)V" } : Jvm.MethodName)) ∈ jws := jws_9 (List.mem_of_getElem? (i := 127) rfl) rfl
theorem jw_2048 : (Jvm.Cond.code ({ cls := "CoinNodeModel$Scripts", name := "numberOfTwo", desc := "(I)V" } : Jvm.MethodName) prog_18_method_27_code (6 : Nat) (Option.none : Option Jvm.ClassFile.FieldType)) ∈ jws := jws_9 (List.mem_of_getElem? (i := 128) rfl) rfl
theorem jw_2049 : (Jvm.Cond.methodLink "CoinNodeModel$Scripts" (161 : Nat) ({ cls := "CoinNodeModel$Scripts", name := "digest", desc := "(I)V" } : Jvm.MethodName)) ∈ jws := jws_9 (List.mem_of_getElem? (i := 129) rfl) rfl
theorem jw_2051 : (Jvm.Cond.instanceMethod ({ cls := "CoinNodeModel$Scripts", name := "digest", desc := "(I)V" } : Jvm.MethodName)) ∈ jws := jws_9 (List.mem_of_getElem? (i := 131) rfl) rfl
theorem jw_2052 : (Jvm.Cond.code ({ cls := "CoinNodeModel$Scripts", name := "digest", desc := "(I)V" } : Jvm.MethodName) prog_18_method_28_code (2 : Nat) (Option.none : Option Jvm.ClassFile.FieldType)) ∈ jws := jws_9 (List.mem_of_getElem? (i := 132) rfl) rfl
theorem jw_2053 : (Jvm.Cond.methodLink "CoinNodeModel$Scripts" (145 : Nat) ({ cls := "CoinNodeModel$Scripts", name := "digested", desc := "(IZ)V" } : Jvm.MethodName)) ∈ jws := jws_9 (List.mem_of_getElem? (i := 133) rfl) rfl
theorem jw_2055 : (Jvm.Cond.instanceMethod ({ cls := "CoinNodeModel$Scripts", name := "digested", desc := "(IZ)V" } : Jvm.MethodName)) ∈ jws := jws_9 (List.mem_of_getElem? (i := 135) rfl) rfl
theorem jw_2056 : (Jvm.Cond.code ({ cls := "CoinNodeModel$Scripts", name := "digested", desc := "(IZ)V" } : Jvm.MethodName) prog_18_method_14_code (5 : Nat) (Option.none : Option Jvm.ClassFile.FieldType)) ∈ jws := jws_9 (List.mem_of_getElem? (i := 136) rfl) rfl
theorem jw_2057 : (Jvm.Cond.methodLink "CoinNodeModel$Scripts" (79 : Nat) ({ cls := "CoinNodeModel$Hashes", name := "wide", desc := "([BII[BI)V" } : Jvm.MethodName)) ∈ jws := jws_9 (List.mem_of_getElem? (i := 137) rfl) rfl
theorem jw_2058 : (Jvm.Cond.methodLink "CoinNodeModel$Scripts" (85 : Nat) ({ cls := "CoinNodeModel$Hashes", name := "small", desc := "([BII[BI)V" } : Jvm.MethodName)) ∈ jws := jws_9 (List.mem_of_getElem? (i := 138) rfl) rfl
theorem jw_2059 : (Jvm.Cond.instanceMethod ({ cls := "CoinNodeModel$Hashes", name := "small", desc := "([BII[BI)V" } : Jvm.MethodName)) ∈ jws := jws_9 (List.mem_of_getElem? (i := 139) rfl) rfl
theorem jw_2060 : (Jvm.Cond.selects "CoinNodeModel$Hashes" ({ cls := "CoinNodeModel$Hashes", name := "small", desc := "([BII[BI)V" } : Jvm.MethodName) ({ cls := "CoinNodeModel$Hashes", name := "small", desc := "([BII[BI)V" } : Jvm.MethodName)) ∈ jws := jws_9 (List.mem_of_getElem? (i := 140) rfl) rfl
theorem jw_2061 : (Jvm.Cond.code ({ cls := "CoinNodeModel$Hashes", name := "small", desc := "([BII[BI)V" } : Jvm.MethodName) prog_16_method_7_code (11 : Nat) (Option.none : Option Jvm.ClassFile.FieldType)) ∈ jws := jws_9 (List.mem_of_getElem? (i := 141) rfl) rfl
theorem jw_2062 : (Jvm.Cond.constant "CoinNodeModel$Hashes" (46 : Nat) (1732584193 : Int32)) ∈ jws := jws_9 (List.mem_of_getElem? (i := 142) rfl) rfl
theorem jw_2063 : (Jvm.Cond.constant "CoinNodeModel$Hashes" (47 : Nat) (-271733879 : Int32)) ∈ jws := jws_9 (List.mem_of_getElem? (i := 143) rfl) rfl
theorem jw_2064 : (Jvm.Cond.constant "CoinNodeModel$Hashes" (48 : Nat) (-1732584194 : Int32)) ∈ jws := jws_9 (List.mem_of_getElem? (i := 144) rfl) rfl
theorem jw_2065 : (Jvm.Cond.constant "CoinNodeModel$Hashes" (49 : Nat) (271733878 : Int32)) ∈ jws := jws_9 (List.mem_of_getElem? (i := 145) rfl) rfl
theorem jw_2066 : (Jvm.Cond.constant "CoinNodeModel$Hashes" (50 : Nat) (-1009589776 : Int32)) ∈ jws := jws_9 (List.mem_of_getElem? (i := 146) rfl) rfl
theorem jw_2067 : (Jvm.Cond.constant "CoinNodeModel$Hashes" (51 : Nat) (1518500249 : Int32)) ∈ jws := jws_9 (List.mem_of_getElem? (i := 147) rfl) rfl
theorem jw_2068 : (Jvm.Cond.constant "CoinNodeModel$Hashes" (52 : Nat) (1859775393 : Int32)) ∈ jws := jws_9 (List.mem_of_getElem? (i := 148) rfl) rfl
theorem jw_2069 : (Jvm.Cond.constant "CoinNodeModel$Hashes" (53 : Nat) (-1894007588 : Int32)) ∈ jws := jws_9 (List.mem_of_getElem? (i := 149) rfl) rfl
theorem jw_2070 : (Jvm.Cond.constant "CoinNodeModel$Hashes" (54 : Nat) (-1454113458 : Int32)) ∈ jws := jws_9 (List.mem_of_getElem? (i := 150) rfl) rfl
theorem jw_2071 : (Jvm.Cond.constant "CoinNodeModel$Hashes" (55 : Nat) (1352829926 : Int32)) ∈ jws := jws_9 (List.mem_of_getElem? (i := 151) rfl) rfl
theorem jw_2072 : (Jvm.Cond.constant "CoinNodeModel$Hashes" (56 : Nat) (1548603684 : Int32)) ∈ jws := jws_9 (List.mem_of_getElem? (i := 152) rfl) rfl
theorem jw_2073 : (Jvm.Cond.constant "CoinNodeModel$Hashes" (57 : Nat) (1836072691 : Int32)) ∈ jws := jws_9 (List.mem_of_getElem? (i := 153) rfl) rfl
theorem jw_2074 : (Jvm.Cond.constant "CoinNodeModel$Hashes" (58 : Nat) (2053994217 : Int32)) ∈ jws := jws_9 (List.mem_of_getElem? (i := 154) rfl) rfl
theorem jw_2075 : (Jvm.Cond.methodLink "CoinNodeModel$Hashes" (59 : Nat) ({ cls := "CoinNodeModel$Hashes", name := "mixed", desc := "(IIII)I" } : Jvm.MethodName)) ∈ jws := jws_9 (List.mem_of_getElem? (i := 155) rfl) rfl
theorem jw_2076 : (Jvm.Cond.static ({ cls := "CoinNodeModel$Hashes", name := "mixed", desc := "(IIII)I" } : Jvm.MethodName)) ∈ jws := jws_9 (List.mem_of_getElem? (i := 156) rfl) rfl
theorem jw_2077 : (Jvm.Cond.code ({ cls := "CoinNodeModel$Hashes", name := "mixed", desc := "(IIII)I" } : Jvm.MethodName) prog_16_method_6_code (4 : Nat) (Option.some Jvm.ClassFile.FieldType.int)) ∈ jws := jws_9 (List.mem_of_getElem? (i := 157) rfl) rfl
theorem jw_2078 : (Jvm.Cond.fieldLink "CoinNodeModel$Hashes" (63 : Nat) "CoinNodeModel$Hashes" "WORDS" "[I") ∈ jws := jws_9 (List.mem_of_getElem? (i := 158) rfl) rfl
theorem jw_2080 : (Jvm.Cond.fieldLink "CoinNodeModel$Hashes" (66 : Nat) "CoinNodeModel$Hashes" "TURNS" "[I") ∈ jws := jws_9 (List.mem_of_getElem? (i := 160) rfl) rfl
theorem jw_2082 : (Jvm.Cond.methodLink "CoinNodeModel$Hashes" (69 : Nat) ({ cls := "CoinNodeModel$Hashes", name := "step", desc := "(III)V" } : Jvm.MethodName)) ∈ jws := jws_9 (List.mem_of_getElem? (i := 162) rfl) rfl
theorem jw_2084 : (Jvm.Cond.instanceMethod ({ cls := "CoinNodeModel$Hashes", name := "step", desc := "(III)V" } : Jvm.MethodName)) ∈ jws := jws_9 (List.mem_of_getElem? (i := 164) rfl) rfl
theorem jw_2085 : (Jvm.Cond.code ({ cls := "CoinNodeModel$Hashes", name := "step", desc := "(III)V" } : Jvm.MethodName) prog_16_method_8_code (5 : Nat) (Option.none : Option Jvm.ClassFile.FieldType)) ∈ jws := jws_9 (List.mem_of_getElem? (i := 165) rfl) rfl
theorem jw_2086 : (Jvm.Cond.fieldLink "CoinNodeModel$Hashes" (73 : Nat) "CoinNodeModel$Hashes" "OTHERS" "[I") ∈ jws := jws_9 (List.mem_of_getElem? (i := 166) rfl) rfl
theorem jw_2088 : (Jvm.Cond.fieldLink "CoinNodeModel$Hashes" (76 : Nat) "CoinNodeModel$Hashes" "OTHER_TURNS" "[I") ∈ jws := jws_9 (List.mem_of_getElem? (i := 168) rfl) rfl
theorem jw_2090 : (Jvm.Cond.methodLink "CoinNodeModel$Scripts" (164 : Nat) ({ cls := "CoinNodeModel$Scripts", name := "one", desc := "(Z)V" } : Jvm.MethodName)) ∈ jws := jws_9 (List.mem_of_getElem? (i := 170) rfl) rfl
theorem jw_2092 : (Jvm.Cond.instanceMethod ({ cls := "CoinNodeModel$Scripts", name := "one", desc := "(Z)V" } : Jvm.MethodName)) ∈ jws := jws_9 (List.mem_of_getElem? (i := 172) rfl) rfl
theorem jw_2093 : (Jvm.Cond.code ({ cls := "CoinNodeModel$Scripts", name := "one", desc := "(Z)V" } : Jvm.MethodName) prog_18_method_16_code (3 : Nat) (Option.none : Option Jvm.ClassFile.FieldType)) ∈ jws := jws_9 (List.mem_of_getElem? (i := 173) rfl) rfl
theorem jw_2094 : (Jvm.Cond.methodLink "CoinNodeModel$Scripts" (97 : Nat) ({ cls := "CoinNodeModel$Scripts", name := "fit", desc := "(II)Z" } : Jvm.MethodName)) ∈ jws := jws_9 (List.mem_of_getElem? (i := 174) rfl) rfl
theorem jw_2096 : (Jvm.Cond.instanceMethod ({ cls := "CoinNodeModel$Scripts", name := "fit", desc := "(II)Z" } : Jvm.MethodName)) ∈ jws := jws_9 (List.mem_of_getElem? (i := 176) rfl) rfl
theorem jw_2097 : (Jvm.Cond.code ({ cls := "CoinNodeModel$Scripts", name := "fit", desc := "(II)Z" } : Jvm.MethodName) prog_18_method_15_code (4 : Nat) (Option.some Jvm.ClassFile.FieldType.boolean)) ∈ jws := jws_9 (List.mem_of_getElem? (i := 177) rfl) rfl
theorem jw_2099 : (Jvm.Cond.methodLink "CoinNodeModel$Scripts" (91 : Nat) ({ cls := "CoinNodeModel$Asker", name := "fits", desc := "([BI[BI)Z" } : Jvm.MethodName)) ∈ jws := jws_9 (List.mem_of_getElem? (i := 179) rfl) rfl
theorem jw_2103 : (Jvm.Cond.selects "CoinNodeModel$Signing" ({ cls := "CoinNodeModel$Asker", name := "fits", desc := "([BI[BI)Z" } : Jvm.MethodName) ({ cls := "CoinNodeModel$Signing", name := "fits", desc := "([BI[BI)Z" } : Jvm.MethodName)) ∈ jws := jws_9 (List.mem_of_getElem? (i := 183) rfl) rfl
theorem jw_2105 : (Jvm.Cond.instanceMethod ({ cls := "CoinNodeModel$Signing", name := "fits", desc := "([BI[BI)Z" } : Jvm.MethodName)) ∈ jws := jws_9 (List.mem_of_getElem? (i := 185) rfl) rfl
theorem jw_2107 : (Jvm.Cond.code ({ cls := "CoinNodeModel$Signing", name := "fits", desc := "([BI[BI)Z" } : Jvm.MethodName) prog_19_method_6_code (6 : Nat) (Option.some Jvm.ClassFile.FieldType.boolean)) ∈ jws := jws_9 (List.mem_of_getElem? (i := 187) rfl) rfl
theorem jw_2108 : (Jvm.Cond.methodLink "CoinNodeModel$Signing" (89 : Nat) ({ cls := "CoinNodeModel$Points", name := "put", desc := "(JI)Z" } : Jvm.MethodName)) ∈ jws := jws_9 (List.mem_of_getElem? (i := 188) rfl) rfl
theorem jw_2109 : (Jvm.Cond.instanceMethod ({ cls := "CoinNodeModel$Points", name := "put", desc := "(JI)Z" } : Jvm.MethodName)) ∈ jws := jws_9 (List.mem_of_getElem? (i := 189) rfl) rfl
theorem jw_2110 : (Jvm.Cond.selects "CoinNodeModel$Points" ({ cls := "CoinNodeModel$Points", name := "put", desc := "(JI)Z" } : Jvm.MethodName) ({ cls := "CoinNodeModel$Points", name := "put", desc := "(JI)Z" } : Jvm.MethodName)) ∈ jws := jws_9 (List.mem_of_getElem? (i := 190) rfl) rfl
theorem jw_2111 : (Jvm.Cond.code ({ cls := "CoinNodeModel$Points", name := "put", desc := "(JI)Z" } : Jvm.MethodName) prog_17_method_41_code (5 : Nat) (Option.some Jvm.ClassFile.FieldType.boolean)) ∈ jws := jws_9 (List.mem_of_getElem? (i := 191) rfl) rfl
theorem jw_2112 : (Jvm.Cond.constantLong "CoinNodeModel$Points" (167 : Nat) (255 : Int64)) ∈ jws := jws_9 (List.mem_of_getElem? (i := 192) rfl) rfl
theorem jw_2113 : (Jvm.Cond.methodLink "CoinNodeModel$Signing" (93 : Nat) ({ cls := "CoinNodeModel$Points", name := "key", desc := "(I)I" } : Jvm.MethodName)) ∈ jws := jws_9 (List.mem_of_getElem? (i := 193) rfl) rfl
theorem jw_2114 : (Jvm.Cond.instanceMethod ({ cls := "CoinNodeModel$Points", name := "key", desc := "(I)I" } : Jvm.MethodName)) ∈ jws := jws_9 (List.mem_of_getElem? (i := 194) rfl) rfl
theorem jw_2115 : (Jvm.Cond.selects "CoinNodeModel$Points" ({ cls := "CoinNodeModel$Points", name := "key", desc := "(I)I" } : Jvm.MethodName) ({ cls := "CoinNodeModel$Points", name := "key", desc := "(I)I" } : Jvm.MethodName)) ∈ jws := jws_9 (List.mem_of_getElem? (i := 195) rfl) rfl
theorem jw_2116 : (Jvm.Cond.code ({ cls := "CoinNodeModel$Points", name := "key", desc := "(I)I" } : Jvm.MethodName) prog_17_method_43_code (3 : Nat) (Option.some Jvm.ClassFile.FieldType.int)) ∈ jws := jws_9 (List.mem_of_getElem? (i := 196) rfl) rfl
theorem jw_2117 : (Jvm.Cond.methodLink "CoinNodeModel$Points" (148 : Nat) ({ cls := "CoinNodeModel$Points", name := "isSpot", desc := "(I)Z" } : Jvm.MethodName)) ∈ jws := jws_9 (List.mem_of_getElem? (i := 197) rfl) rfl
theorem jw_2118 : (Jvm.Cond.static ({ cls := "CoinNodeModel$Points", name := "isSpot", desc := "(I)Z" } : Jvm.MethodName)) ∈ jws := jws_9 (List.mem_of_getElem? (i := 198) rfl) rfl
theorem jw_2119 : (Jvm.Cond.code ({ cls := "CoinNodeModel$Points", name := "isSpot", desc := "(I)Z" } : Jvm.MethodName) prog_17_method_30_code (1 : Nat) (Option.some Jvm.ClassFile.FieldType.boolean)) ∈ jws := jws_9 (List.mem_of_getElem? (i := 199) rfl) rfl
theorem jw_2120 : (Jvm.Cond.methodLink "CoinNodeModel$Points" (169 : Nat) ({ cls := "CoinNodeModel$Points", name := "read", desc := "(III)V" } : Jvm.MethodName)) ∈ jws := jws_9 (List.mem_of_getElem? (i := 200) rfl) rfl
theorem jw_2122 : (Jvm.Cond.instanceMethod ({ cls := "CoinNodeModel$Points", name := "read", desc := "(III)V" } : Jvm.MethodName)) ∈ jws := jws_9 (List.mem_of_getElem? (i := 202) rfl) rfl
theorem jw_2123 : (Jvm.Cond.code ({ cls := "CoinNodeModel$Points", name := "read", desc := "(III)V" } : Jvm.MethodName) prog_17_method_42_code (7 : Nat) (Option.none : Option Jvm.ClassFile.FieldType)) ∈ jws := jws_9 (List.mem_of_getElem? (i := 203) rfl) rfl
theorem jw_2124 : (Jvm.Cond.methodLink "CoinNodeModel$Points" (78 : Nat) ({ cls := "CoinNodeModel$Points", name := "compare", desc := "(II)I" } : Jvm.MethodName)) ∈ jws := jws_9 (List.mem_of_getElem? (i := 204) rfl) rfl
theorem jw_2126 : (Jvm.Cond.instanceMethod ({ cls := "CoinNodeModel$Points", name := "compare", desc := "(II)I" } : Jvm.MethodName)) ∈ jws := jws_9 (List.mem_of_getElem? (i := 206) rfl) rfl
theorem jw_2127 : (Jvm.Cond.code ({ cls := "CoinNodeModel$Points", name := "compare", desc := "(II)I" } : Jvm.MethodName) prog_17_method_6_code (6 : Nat) (Option.some Jvm.ClassFile.FieldType.int)) ∈ jws := jws_9 (List.mem_of_getElem? (i := 207) rfl) rfl
theorem jw_2128 : (Jvm.Cond.methodLink "CoinNodeModel$Points" (136 : Nat) ({ cls := "CoinNodeModel$Points", name := "curve", desc := "(II)V" } : Jvm.MethodName)) ∈ jws := jws_9 (List.mem_of_getElem? (i := 208) rfl) rfl
theorem jw_2130 : (Jvm.Cond.instanceMethod ({ cls := "CoinNodeModel$Points", name := "curve", desc := "(II)V" } : Jvm.MethodName)) ∈ jws := jws_9 (List.mem_of_getElem? (i := 210) rfl) rfl
theorem jw_2131 : (Jvm.Cond.code ({ cls := "CoinNodeModel$Points", name := "curve", desc := "(II)V" } : Jvm.MethodName) prog_17_method_28_code (3 : Nat) (Option.none : Option Jvm.ClassFile.FieldType)) ∈ jws := jws_9 (List.mem_of_getElem? (i := 211) rfl) rfl
theorem jw_2132 : (Jvm.Cond.methodLink "CoinNodeModel$Points" (96 : Nat) ({ cls := "CoinNodeModel$Points", name := "multiply", desc := "(IIII)V" } : Jvm.MethodName)) ∈ jws := jws_9 (List.mem_of_getElem? (i := 212) rfl) rfl
theorem jw_2134 : (Jvm.Cond.instanceMethod ({ cls := "CoinNodeModel$Points", name := "multiply", desc := "(IIII)V" } : Jvm.MethodName)) ∈ jws := jws_9 (List.mem_of_getElem? (i := 214) rfl) rfl
theorem jw_2135 : (Jvm.Cond.code ({ cls := "CoinNodeModel$Points", name := "multiply", desc := "(IIII)V" } : Jvm.MethodName) prog_17_method_16_code (9 : Nat) (Option.none : Option Jvm.ClassFile.FieldType)) ∈ jws := jws_9 (List.mem_of_getElem? (i := 215) rfl) rfl
theorem jw_2136 : (Jvm.Cond.methodLink "CoinNodeModel$Points" (86 : Nat) ({ cls := "CoinNodeModel$Points", name := "carry", desc := "()V" } : Jvm.MethodName)) ∈ jws := jws_9 (List.mem_of_getElem? (i := 216) rfl) rfl
theorem jw_2138 : (Jvm.Cond.instanceMethod ({ cls := "CoinNodeModel$Points", name := "carry", desc := "()V" } : Jvm.MethodName)) ∈ jws := jws_9 (List.mem_of_getElem? (i := 218) rfl) rfl
theorem jw_2139 : (Jvm.Cond.code ({ cls := "CoinNodeModel$Points", name := "carry", desc := "()V" } : Jvm.MethodName) prog_17_method_13_code (6 : Nat) (Option.none : Option Jvm.ClassFile.FieldType)) ∈ jws := jws_9 (List.mem_of_getElem? (i := 219) rfl) rfl
theorem jw_2140 : (Jvm.Cond.constantLong "CoinNodeModel$Points" (82 : Nat) (67108863 : Int64)) ∈ jws := jws_9 (List.mem_of_getElem? (i := 220) rfl) rfl
theorem jw_2141 : (Jvm.Cond.methodLink "CoinNodeModel$Points" (89 : Nat) ({ cls := "CoinNodeModel$Points", name := "isWide", desc := "()Z" } : Jvm.MethodName)) ∈ jws := jws_9 (List.mem_of_getElem? (i := 221) rfl) rfl
theorem jw_2143 : (Jvm.Cond.instanceMethod ({ cls := "CoinNodeModel$Points", name := "isWide", desc := "()Z" } : Jvm.MethodName)) ∈ jws := jws_9 (List.mem_of_getElem? (i := 223) rfl) rfl
theorem jw_2144 : (Jvm.Cond.code ({ cls := "CoinNodeModel$Points", name := "isWide", desc := "()Z" } : Jvm.MethodName) prog_17_method_14_code (3 : Nat) (Option.some Jvm.ClassFile.FieldType.boolean)) ∈ jws := jws_9 (List.mem_of_getElem? (i := 224) rfl) rfl
theorem jw_2145 : (Jvm.Cond.constantLong "CoinNodeModel$Points" (84 : Nat) (4194303 : Int64)) ∈ jws := jws_9 (List.mem_of_getElem? (i := 225) rfl) rfl
theorem jw_2146 : (Jvm.Cond.methodLink "CoinNodeModel$Points" (93 : Nat) ({ cls := "CoinNodeModel$Points", name := "fold", desc := "(I)V" } : Jvm.MethodName)) ∈ jws := jws_9 (List.mem_of_getElem? (i := 226) rfl) rfl
theorem jw_2148 : (Jvm.Cond.instanceMethod ({ cls := "CoinNodeModel$Points", name := "fold", desc := "(I)V" } : Jvm.MethodName)) ∈ jws := jws_9 (List.mem_of_getElem? (i := 228) rfl) rfl
theorem jw_2149 : (Jvm.Cond.code ({ cls := "CoinNodeModel$Points", name := "fold", desc := "(I)V" } : Jvm.MethodName) prog_17_method_15_code (6 : Nat) (Option.none : Option Jvm.ClassFile.FieldType)) ∈ jws := jws_9 (List.mem_of_getElem? (i := 229) rfl) rfl
theorem jw_2150 : (Jvm.Cond.methodLink "CoinNodeModel$Points" (74 : Nat) ({ cls := "CoinNodeModel$Points", name := "add", desc := "(III)V" } : Jvm.MethodName)) ∈ jws := jws_9 (List.mem_of_getElem? (i := 230) rfl) rfl
theorem jw_2152 : (Jvm.Cond.instanceMethod ({ cls := "CoinNodeModel$Points", name := "add", desc := "(III)V" } : Jvm.MethodName)) ∈ jws := jws_9 (List.mem_of_getElem? (i := 232) rfl) rfl
theorem jw_2153 : (Jvm.Cond.code ({ cls := "CoinNodeModel$Points", name := "add", desc := "(III)V" } : Jvm.MethodName) prog_17_method_8_code (7 : Nat) (Option.none : Option Jvm.ClassFile.FieldType)) ∈ jws := jws_9 (List.mem_of_getElem? (i := 233) rfl) rfl
theorem jw_2154 : (Jvm.Cond.methodLink "CoinNodeModel$Points" (124 : Nat) ({ cls := "CoinNodeModel$Points", name := "plus", desc := "(IIII)V" } : Jvm.MethodName)) ∈ jws := jws_9 (List.mem_of_getElem? (i := 234) rfl) rfl
theorem jw_2156 : (Jvm.Cond.instanceMethod ({ cls := "CoinNodeModel$Points", name := "plus", desc := "(IIII)V" } : Jvm.MethodName)) ∈ jws := jws_9 (List.mem_of_getElem? (i := 236) rfl) rfl
theorem jw_2157 : (Jvm.Cond.code ({ cls := "CoinNodeModel$Points", name := "plus", desc := "(IIII)V" } : Jvm.MethodName) prog_17_method_11_code (5 : Nat) (Option.none : Option Jvm.ClassFile.FieldType)) ∈ jws := jws_9 (List.mem_of_getElem? (i := 237) rfl) rfl
theorem jw_2158 : (Jvm.Cond.methodLink "CoinNodeModel$Points" (70 : Nat) ({ cls := "CoinNodeModel$Points", name := "copy", desc := "(II)V" } : Jvm.MethodName)) ∈ jws := jws_9 (List.mem_of_getElem? (i := 238) rfl) rfl
theorem jw_2160 : (Jvm.Cond.instanceMethod ({ cls := "CoinNodeModel$Points", name := "copy", desc := "(II)V" } : Jvm.MethodName)) ∈ jws := jws_10 (List.mem_of_getElem? (i := 0) rfl) rfl
theorem jw_2161 : (Jvm.Cond.code ({ cls := "CoinNodeModel$Points", name := "copy", desc := "(II)V" } : Jvm.MethodName) prog_17_method_4_code (4 : Nat) (Option.none : Option Jvm.ClassFile.FieldType)) ∈ jws := jws_10 (List.mem_of_getElem? (i := 1) rfl) rfl
theorem jw_2162 : (Jvm.Cond.methodLink "CoinNodeModel$Points" (145 : Nat) ({ cls := "CoinNodeModel$Points", name := "roots", desc := "(II)Z" } : Jvm.MethodName)) ∈ jws := jws_10 (List.mem_of_getElem? (i := 2) rfl) rfl
theorem jw_2164 : (Jvm.Cond.instanceMethod ({ cls := "CoinNodeModel$Points", name := "roots", desc := "(II)Z" } : Jvm.MethodName)) ∈ jws := jws_10 (List.mem_of_getElem? (i := 4) rfl) rfl
theorem jw_2165 : (Jvm.Cond.code ({ cls := "CoinNodeModel$Points", name := "roots", desc := "(II)Z" } : Jvm.MethodName) prog_17_method_19_code (6 : Nat) (Option.some Jvm.ClassFile.FieldType.boolean)) ∈ jws := jws_10 (List.mem_of_getElem? (i := 5) rfl) rfl
theorem jw_2166 : (Jvm.Cond.constant "CoinNodeModel$Points" (107 : Nat) (33554432 : Int32)) ∈ jws := jws_10 (List.mem_of_getElem? (i := 6) rfl) rfl
theorem jw_2167 : (Jvm.Cond.methodLink "CoinNodeModel$Points" (104 : Nat) ({ cls := "CoinNodeModel$Points", name := "power", desc := "(III)V" } : Jvm.MethodName)) ∈ jws := jws_10 (List.mem_of_getElem? (i := 7) rfl) rfl
theorem jw_2169 : (Jvm.Cond.instanceMethod ({ cls := "CoinNodeModel$Points", name := "power", desc := "(III)V" } : Jvm.MethodName)) ∈ jws := jws_10 (List.mem_of_getElem? (i := 9) rfl) rfl
theorem jw_2170 : (Jvm.Cond.code ({ cls := "CoinNodeModel$Points", name := "power", desc := "(III)V" } : Jvm.MethodName) prog_17_method_17_code (5 : Nat) (Option.none : Option Jvm.ClassFile.FieldType)) ∈ jws := jws_10 (List.mem_of_getElem? (i := 10) rfl) rfl
theorem jw_2171 : (Jvm.Cond.methodLink "CoinNodeModel$Points" (100 : Nat) ({ cls := "CoinNodeModel$Points", name := "bit", desc := "(II)Z" } : Jvm.MethodName)) ∈ jws := jws_10 (List.mem_of_getElem? (i := 11) rfl) rfl
theorem jw_2173 : (Jvm.Cond.instanceMethod ({ cls := "CoinNodeModel$Points", name := "bit", desc := "(II)Z" } : Jvm.MethodName)) ∈ jws := jws_10 (List.mem_of_getElem? (i := 13) rfl) rfl
theorem jw_2174 : (Jvm.Cond.code ({ cls := "CoinNodeModel$Points", name := "bit", desc := "(II)Z" } : Jvm.MethodName) prog_17_method_10_code (3 : Nat) (Option.some Jvm.ClassFile.FieldType.boolean)) ∈ jws := jws_10 (List.mem_of_getElem? (i := 14) rfl) rfl
theorem jw_2175 : (Jvm.Cond.methodLink "CoinNodeModel$Points" (108 : Nat) ({ cls := "CoinNodeModel$Points", name := "isOdd", desc := "(I)Z" } : Jvm.MethodName)) ∈ jws := jws_10 (List.mem_of_getElem? (i := 15) rfl) rfl
theorem jw_2177 : (Jvm.Cond.instanceMethod ({ cls := "CoinNodeModel$Points", name := "isOdd", desc := "(I)Z" } : Jvm.MethodName)) ∈ jws := jws_10 (List.mem_of_getElem? (i := 17) rfl) rfl
theorem jw_2178 : (Jvm.Cond.code ({ cls := "CoinNodeModel$Points", name := "isOdd", desc := "(I)Z" } : Jvm.MethodName) prog_17_method_9_code (2 : Nat) (Option.some Jvm.ClassFile.FieldType.boolean)) ∈ jws := jws_10 (List.mem_of_getElem? (i := 18) rfl) rfl
theorem jw_2179 : (Jvm.Cond.methodLink "CoinNodeModel$Points" (112 : Nat) ({ cls := "CoinNodeModel$Points", name := "minus", desc := "(IIII)V" } : Jvm.MethodName)) ∈ jws := jws_10 (List.mem_of_getElem? (i := 19) rfl) rfl
theorem jw_2181 : (Jvm.Cond.instanceMethod ({ cls := "CoinNodeModel$Points", name := "minus", desc := "(IIII)V" } : Jvm.MethodName)) ∈ jws := jws_10 (List.mem_of_getElem? (i := 21) rfl) rfl
theorem jw_2182 : (Jvm.Cond.code ({ cls := "CoinNodeModel$Points", name := "minus", desc := "(IIII)V" } : Jvm.MethodName) prog_17_method_12_code (5 : Nat) (Option.none : Option Jvm.ClassFile.FieldType)) ∈ jws := jws_10 (List.mem_of_getElem? (i := 22) rfl) rfl
theorem jw_2183 : (Jvm.Cond.methodLink "CoinNodeModel$Points" (151 : Nat) ({ cls := "CoinNodeModel$Points", name := "isPoint", desc := "(II)Z" } : Jvm.MethodName)) ∈ jws := jws_10 (List.mem_of_getElem? (i := 23) rfl) rfl
theorem jw_2185 : (Jvm.Cond.instanceMethod ({ cls := "CoinNodeModel$Points", name := "isPoint", desc := "(II)Z" } : Jvm.MethodName)) ∈ jws := jws_10 (List.mem_of_getElem? (i := 25) rfl) rfl
theorem jw_2186 : (Jvm.Cond.code ({ cls := "CoinNodeModel$Points", name := "isPoint", desc := "(II)Z" } : Jvm.MethodName) prog_17_method_27_code (3 : Nat) (Option.some Jvm.ClassFile.FieldType.boolean)) ∈ jws := jws_10 (List.mem_of_getElem? (i := 26) rfl) rfl
theorem jw_2187 : (Jvm.Cond.methodLink "CoinNodeModel$Signing" (97 : Nat) ({ cls := "CoinNodeModel$Points", name := "signature", desc := "(II)I" } : Jvm.MethodName)) ∈ jws := jws_10 (List.mem_of_getElem? (i := 27) rfl) rfl
theorem jw_2188 : (Jvm.Cond.instanceMethod ({ cls := "CoinNodeModel$Points", name := "signature", desc := "(II)I" } : Jvm.MethodName)) ∈ jws := jws_10 (List.mem_of_getElem? (i := 28) rfl) rfl
theorem jw_2189 : (Jvm.Cond.selects "CoinNodeModel$Points" ({ cls := "CoinNodeModel$Points", name := "signature", desc := "(II)I" } : Jvm.MethodName) ({ cls := "CoinNodeModel$Points", name := "signature", desc := "(II)I" } : Jvm.MethodName)) ∈ jws := jws_10 (List.mem_of_getElem? (i := 29) rfl) rfl
theorem jw_2190 : (Jvm.Cond.code ({ cls := "CoinNodeModel$Points", name := "signature", desc := "(II)I" } : Jvm.MethodName) prog_17_method_45_code (5 : Nat) (Option.some Jvm.ClassFile.FieldType.int)) ∈ jws := jws_10 (List.mem_of_getElem? (i := 30) rfl) rfl
theorem jw_2191 : (Jvm.Cond.methodLink "CoinNodeModel$Points" (139 : Nat) ({ cls := "CoinNodeModel$Points", name := "isRegister", desc := "(I)Z" } : Jvm.MethodName)) ∈ jws := jws_10 (List.mem_of_getElem? (i := 31) rfl) rfl
theorem jw_2192 : (Jvm.Cond.static ({ cls := "CoinNodeModel$Points", name := "isRegister", desc := "(I)Z" } : Jvm.MethodName)) ∈ jws := jws_10 (List.mem_of_getElem? (i := 32) rfl) rfl
theorem jw_2193 : (Jvm.Cond.code ({ cls := "CoinNodeModel$Points", name := "isRegister", desc := "(I)Z" } : Jvm.MethodName) prog_17_method_29_code (1 : Nat) (Option.some Jvm.ClassFile.FieldType.boolean)) ∈ jws := jws_10 (List.mem_of_getElem? (i := 33) rfl) rfl
theorem jw_2194 : (Jvm.Cond.methodLink "CoinNodeModel$Points" (172 : Nat) ({ cls := "CoinNodeModel$Points", name := "numberEnd", desc := "(II)I" } : Jvm.MethodName)) ∈ jws := jws_10 (List.mem_of_getElem? (i := 34) rfl) rfl
theorem jw_2196 : (Jvm.Cond.instanceMethod ({ cls := "CoinNodeModel$Points", name := "numberEnd", desc := "(II)I" } : Jvm.MethodName)) ∈ jws := jws_10 (List.mem_of_getElem? (i := 36) rfl) rfl
theorem jw_2197 : (Jvm.Cond.code ({ cls := "CoinNodeModel$Points", name := "numberEnd", desc := "(II)I" } : Jvm.MethodName) prog_17_method_44_code (6 : Nat) (Option.some Jvm.ClassFile.FieldType.int)) ∈ jws := jws_10 (List.mem_of_getElem? (i := 37) rfl) rfl
theorem jw_2198 : (Jvm.Cond.methodLink "CoinNodeModel$Signing" (101 : Nat) ({ cls := "CoinNodeModel$Points", name := "set", desc := "(IJJJJ)Z" } : Jvm.MethodName)) ∈ jws := jws_10 (List.mem_of_getElem? (i := 38) rfl) rfl
theorem jw_2199 : (Jvm.Cond.instanceMethod ({ cls := "CoinNodeModel$Points", name := "set", desc := "(IJJJJ)Z" } : Jvm.MethodName)) ∈ jws := jws_10 (List.mem_of_getElem? (i := 39) rfl) rfl
theorem jw_2200 : (Jvm.Cond.selects "CoinNodeModel$Points" ({ cls := "CoinNodeModel$Points", name := "set", desc := "(IJJJJ)Z" } : Jvm.MethodName) ({ cls := "CoinNodeModel$Points", name := "set", desc := "(IJJJJ)Z" } : Jvm.MethodName)) ∈ jws := jws_10 (List.mem_of_getElem? (i := 40) rfl) rfl
theorem jw_2201 : (Jvm.Cond.code ({ cls := "CoinNodeModel$Points", name := "set", desc := "(IJJJJ)Z" } : Jvm.MethodName) prog_17_method_32_code (10 : Nat) (Option.some Jvm.ClassFile.FieldType.boolean)) ∈ jws := jws_10 (List.mem_of_getElem? (i := 41) rfl) rfl
theorem jw_2202 : (Jvm.Cond.methodLink "CoinNodeModel$Signing" (105 : Nat) ({ cls := "CoinNodeModel$Signing", name := "write", desc := "(I)V" } : Jvm.MethodName)) ∈ jws := jws_10 (List.mem_of_getElem? (i := 42) rfl) rfl
theorem jw_2204 : (Jvm.Cond.instanceMethod ({ cls := "CoinNodeModel$Signing", name := "write", desc := "(I)V" } : Jvm.MethodName)) ∈ jws := jws_10 (List.mem_of_getElem? (i := 44) rfl) rfl
theorem jw_2205 : (Jvm.Cond.code ({ cls := "CoinNodeModel$Signing", name := "write", desc := "(I)V" } : Jvm.MethodName) prog_19_method_4_code (7 : Nat) (Option.none : Option Jvm.ClassFile.FieldType)) ∈ jws := jws_10 (List.mem_of_getElem? (i := 45) rfl) rfl
theorem jw_2206 : (Jvm.Cond.methodLink "CoinNodeModel$Signing" (43 : Nat) ({ cls := "CoinNodeModel$Signing", name := "copy", desc := "([BII)V" } : Jvm.MethodName)) ∈ jws := jws_10 (List.mem_of_getElem? (i := 46) rfl) rfl
theorem jw_2208 : (Jvm.Cond.instanceMethod ({ cls := "CoinNodeModel$Signing", name := "copy", desc := "([BII)V" } : Jvm.MethodName)) ∈ jws := jws_10 (List.mem_of_getElem? (i := 48) rfl) rfl
theorem jw_2209 : (Jvm.Cond.code ({ cls := "CoinNodeModel$Signing", name := "copy", desc := "([BII)V" } : Jvm.MethodName) prog_19_method_2_code (5 : Nat) (Option.none : Option Jvm.ClassFile.FieldType)) ∈ jws := jws_10 (List.mem_of_getElem? (i := 49) rfl) rfl
theorem jw_2210 : (Jvm.Cond.methodLink "CoinNodeModel$Signing" (50 : Nat) ({ cls := "CoinNodeModel$Signing", name := "fill", desc := "(II)V" } : Jvm.MethodName)) ∈ jws := jws_10 (List.mem_of_getElem? (i := 50) rfl) rfl
theorem jw_2212 : (Jvm.Cond.instanceMethod ({ cls := "CoinNodeModel$Signing", name := "fill", desc := "(II)V" } : Jvm.MethodName)) ∈ jws := jws_10 (List.mem_of_getElem? (i := 52) rfl) rfl
theorem jw_2213 : (Jvm.Cond.code ({ cls := "CoinNodeModel$Signing", name := "fill", desc := "(II)V" } : Jvm.MethodName) prog_19_method_3_code (4 : Nat) (Option.none : Option Jvm.ClassFile.FieldType)) ∈ jws := jws_10 (List.mem_of_getElem? (i := 53) rfl) rfl
theorem jw_2214 : (Jvm.Cond.methodLink "CoinNodeModel$Signing" (109 : Nat) ({ cls := "CoinNodeModel$Hashes", name := "name", desc := "([BII[BI)V" } : Jvm.MethodName)) ∈ jws := jws_10 (List.mem_of_getElem? (i := 54) rfl) rfl
theorem jw_2215 : (Jvm.Cond.methodLink "CoinNodeModel$Signing" (115 : Nat) ({ cls := "CoinNodeModel$Signing", name := "word", desc := "(I)J" } : Jvm.MethodName)) ∈ jws := jws_10 (List.mem_of_getElem? (i := 55) rfl) rfl
theorem jw_2217 : (Jvm.Cond.instanceMethod ({ cls := "CoinNodeModel$Signing", name := "word", desc := "(I)J" } : Jvm.MethodName)) ∈ jws := jws_10 (List.mem_of_getElem? (i := 57) rfl) rfl
theorem jw_2218 : (Jvm.Cond.code ({ cls := "CoinNodeModel$Signing", name := "word", desc := "(I)J" } : Jvm.MethodName) prog_19_method_5_code (5 : Nat) (Option.some Jvm.ClassFile.FieldType.long)) ∈ jws := jws_10 (List.mem_of_getElem? (i := 58) rfl) rfl
theorem jw_2219 : (Jvm.Cond.methodLink "CoinNodeModel$Signing" (119 : Nat) ({ cls := "CoinNodeModel$Points", name := "fits", desc := "(IIII)I" } : Jvm.MethodName)) ∈ jws := jws_10 (List.mem_of_getElem? (i := 59) rfl) rfl
theorem jw_2220 : (Jvm.Cond.instanceMethod ({ cls := "CoinNodeModel$Points", name := "fits", desc := "(IIII)I" } : Jvm.MethodName)) ∈ jws := jws_10 (List.mem_of_getElem? (i := 60) rfl) rfl
theorem jw_2221 : (Jvm.Cond.selects "CoinNodeModel$Points" ({ cls := "CoinNodeModel$Points", name := "fits", desc := "(IIII)I" } : Jvm.MethodName) ({ cls := "CoinNodeModel$Points", name := "fits", desc := "(IIII)I" } : Jvm.MethodName)) ∈ jws := jws_10 (List.mem_of_getElem? (i := 61) rfl) rfl
theorem jw_2222 : (Jvm.Cond.code ({ cls := "CoinNodeModel$Points", name := "fits", desc := "(IIII)I" } : Jvm.MethodName) prog_17_method_46_code (5 : Nat) (Option.some Jvm.ClassFile.FieldType.int)) ∈ jws := jws_10 (List.mem_of_getElem? (i := 62) rfl) rfl
theorem jw_2223 : (Jvm.Cond.methodLink "CoinNodeModel$Points" (115 : Nat) ({ cls := "CoinNodeModel$Points", name := "isNothing", desc := "(I)Z" } : Jvm.MethodName)) ∈ jws := jws_10 (List.mem_of_getElem? (i := 63) rfl) rfl
theorem jw_2225 : (Jvm.Cond.instanceMethod ({ cls := "CoinNodeModel$Points", name := "isNothing", desc := "(I)Z" } : Jvm.MethodName)) ∈ jws := jws_10 (List.mem_of_getElem? (i := 65) rfl) rfl
theorem jw_2226 : (Jvm.Cond.code ({ cls := "CoinNodeModel$Points", name := "isNothing", desc := "(I)Z" } : Jvm.MethodName) prog_17_method_7_code (4 : Nat) (Option.some Jvm.ClassFile.FieldType.boolean)) ∈ jws := jws_10 (List.mem_of_getElem? (i := 66) rfl) rfl
theorem jw_2227 : (Jvm.Cond.methodLink "CoinNodeModel$Points" (121 : Nat) ({ cls := "CoinNodeModel$Points", name := "divide", desc := "(IIII)V" } : Jvm.MethodName)) ∈ jws := jws_10 (List.mem_of_getElem? (i := 67) rfl) rfl
theorem jw_2229 : (Jvm.Cond.instanceMethod ({ cls := "CoinNodeModel$Points", name := "divide", desc := "(IIII)V" } : Jvm.MethodName)) ∈ jws := jws_10 (List.mem_of_getElem? (i := 69) rfl) rfl
theorem jw_2230 : (Jvm.Cond.code ({ cls := "CoinNodeModel$Points", name := "divide", desc := "(IIII)V" } : Jvm.MethodName) prog_17_method_18_code (5 : Nat) (Option.none : Option Jvm.ClassFile.FieldType)) ∈ jws := jws_10 (List.mem_of_getElem? (i := 70) rfl) rfl
theorem jw_2231 : (Jvm.Cond.methodLink "CoinNodeModel$Points" (160 : Nat) ({ cls := "CoinNodeModel$Points", name := "multiple", desc := "(I)V" } : Jvm.MethodName)) ∈ jws := jws_10 (List.mem_of_getElem? (i := 71) rfl) rfl
theorem jw_2233 : (Jvm.Cond.instanceMethod ({ cls := "CoinNodeModel$Points", name := "multiple", desc := "(I)V" } : Jvm.MethodName)) ∈ jws := jws_10 (List.mem_of_getElem? (i := 73) rfl) rfl
theorem jw_2234 : (Jvm.Cond.code ({ cls := "CoinNodeModel$Points", name := "multiple", desc := "(I)V" } : Jvm.MethodName) prog_17_method_26_code (3 : Nat) (Option.none : Option Jvm.ClassFile.FieldType)) ∈ jws := jws_10 (List.mem_of_getElem? (i := 74) rfl) rfl
theorem jw_2235 : (Jvm.Cond.methodLink "CoinNodeModel$Points" (118 : Nat) ({ cls := "CoinNodeModel$Points", name := "isNone", desc := "(I)Z" } : Jvm.MethodName)) ∈ jws := jws_10 (List.mem_of_getElem? (i := 75) rfl) rfl
theorem jw_2237 : (Jvm.Cond.instanceMethod ({ cls := "CoinNodeModel$Points", name := "isNone", desc := "(I)Z" } : Jvm.MethodName)) ∈ jws := jws_10 (List.mem_of_getElem? (i := 77) rfl) rfl
theorem jw_2238 : (Jvm.Cond.code ({ cls := "CoinNodeModel$Points", name := "isNone", desc := "(I)Z" } : Jvm.MethodName) prog_17_method_20_code (2 : Nat) (Option.some Jvm.ClassFile.FieldType.boolean)) ∈ jws := jws_10 (List.mem_of_getElem? (i := 78) rfl) rfl
theorem jw_2239 : (Jvm.Cond.methodLink "CoinNodeModel$Points" (130 : Nat) ({ cls := "CoinNodeModel$Points", name := "twice", desc := "(I)V" } : Jvm.MethodName)) ∈ jws := jws_10 (List.mem_of_getElem? (i := 79) rfl) rfl
theorem jw_2241 : (Jvm.Cond.instanceMethod ({ cls := "CoinNodeModel$Points", name := "twice", desc := "(I)V" } : Jvm.MethodName)) ∈ jws := jws_10 (List.mem_of_getElem? (i := 81) rfl) rfl
theorem jw_2242 : (Jvm.Cond.code ({ cls := "CoinNodeModel$Points", name := "twice", desc := "(I)V" } : Jvm.MethodName) prog_17_method_24_code (3 : Nat) (Option.none : Option Jvm.ClassFile.FieldType)) ∈ jws := jws_10 (List.mem_of_getElem? (i := 82) rfl) rfl
theorem jw_2243 : (Jvm.Cond.methodLink "CoinNodeModel$Points" (127 : Nat) ({ cls := "CoinNodeModel$Points", name := "copyPoint", desc := "(II)V" } : Jvm.MethodName)) ∈ jws := jws_10 (List.mem_of_getElem? (i := 83) rfl) rfl
theorem jw_2245 : (Jvm.Cond.instanceMethod ({ cls := "CoinNodeModel$Points", name := "copyPoint", desc := "(II)V" } : Jvm.MethodName)) ∈ jws := jws_10 (List.mem_of_getElem? (i := 85) rfl) rfl
theorem jw_2246 : (Jvm.Cond.code ({ cls := "CoinNodeModel$Points", name := "copyPoint", desc := "(II)V" } : Jvm.MethodName) prog_17_method_21_code (3 : Nat) (Option.none : Option Jvm.ClassFile.FieldType)) ∈ jws := jws_10 (List.mem_of_getElem? (i := 86) rfl) rfl
theorem jw_2247 : (Jvm.Cond.methodLink "CoinNodeModel$Points" (133 : Nat) ({ cls := "CoinNodeModel$Points", name := "join", desc := "(II)V" } : Jvm.MethodName)) ∈ jws := jws_10 (List.mem_of_getElem? (i := 87) rfl) rfl
theorem jw_2249 : (Jvm.Cond.instanceMethod ({ cls := "CoinNodeModel$Points", name := "join", desc := "(II)V" } : Jvm.MethodName)) ∈ jws := jws_10 (List.mem_of_getElem? (i := 89) rfl) rfl
theorem jw_2250 : (Jvm.Cond.code ({ cls := "CoinNodeModel$Points", name := "join", desc := "(II)V" } : Jvm.MethodName) prog_17_method_25_code (3 : Nat) (Option.none : Option Jvm.ClassFile.FieldType)) ∈ jws := jws_10 (List.mem_of_getElem? (i := 90) rfl) rfl
theorem jw_2251 : (Jvm.Cond.methodLink "CoinNodeModel$Points" (154 : Nat) ({ cls := "CoinNodeModel$Points", name := "load", desc := "(II)V" } : Jvm.MethodName)) ∈ jws := jws_10 (List.mem_of_getElem? (i := 91) rfl) rfl
theorem jw_2253 : (Jvm.Cond.instanceMethod ({ cls := "CoinNodeModel$Points", name := "load", desc := "(II)V" } : Jvm.MethodName)) ∈ jws := jws_10 (List.mem_of_getElem? (i := 93) rfl) rfl
theorem jw_2254 : (Jvm.Cond.code ({ cls := "CoinNodeModel$Points", name := "load", desc := "(II)V" } : Jvm.MethodName) prog_17_method_22_code (3 : Nat) (Option.none : Option Jvm.ClassFile.FieldType)) ∈ jws := jws_10 (List.mem_of_getElem? (i := 94) rfl) rfl
theorem jw_2255 : (Jvm.Cond.methodLink "CoinNodeModel$Scripts" (167 : Nat) ({ cls := "CoinNodeModel$Scripts", name := "several", desc := "(Z)V" } : Jvm.MethodName)) ∈ jws := jws_10 (List.mem_of_getElem? (i := 95) rfl) rfl
theorem jw_2257 : (Jvm.Cond.instanceMethod ({ cls := "CoinNodeModel$Scripts", name := "several", desc := "(Z)V" } : Jvm.MethodName)) ∈ jws := jws_10 (List.mem_of_getElem? (i := 97) rfl) rfl
theorem jw_2258 : (Jvm.Cond.code ({ cls := "CoinNodeModel$Scripts", name := "several", desc := "(Z)V" } : Jvm.MethodName) prog_18_method_17_code (6 : Nat) (Option.none : Option Jvm.ClassFile.FieldType)) ∈ jws := jws_10 (List.mem_of_getElem? (i := 98) rfl) rfl
theorem jw_2259 : (Jvm.Cond.constantLong "CoinNodeModel$Scripts" (111 : Nat) (8 : Int64)) ∈ jws := jws_10 (List.mem_of_getElem? (i := 99) rfl) rfl
theorem jw_2260 : (Jvm.Cond.methodLink "CoinNodeModel" (293 : Nat) ({ cls := "CoinNodeModel$Scripts", name := "isTrue", desc := "()Z" } : Jvm.MethodName)) ∈ jws := jws_10 (List.mem_of_getElem? (i := 100) rfl) rfl
theorem jw_2261 : (Jvm.Cond.instanceMethod ({ cls := "CoinNodeModel$Scripts", name := "isTrue", desc := "()Z" } : Jvm.MethodName)) ∈ jws := jws_10 (List.mem_of_getElem? (i := 101) rfl) rfl
theorem jw_2262 : (Jvm.Cond.selects "CoinNodeModel$Scripts" ({ cls := "CoinNodeModel$Scripts", name := "isTrue", desc := "()Z" } : Jvm.MethodName) ({ cls := "CoinNodeModel$Scripts", name := "isTrue", desc := "()Z" } : Jvm.MethodName)) ∈ jws := jws_10 (List.mem_of_getElem? (i := 102) rfl) rfl
theorem jw_2263 : (Jvm.Cond.code ({ cls := "CoinNodeModel$Scripts", name := "isTrue", desc := "()Z" } : Jvm.MethodName) prog_18_method_34_code (1 : Nat) (Option.some Jvm.ClassFile.FieldType.boolean)) ∈ jws := jws_10 (List.mem_of_getElem? (i := 103) rfl) rfl
theorem jw_2264 : (Jvm.Cond.methodLink "CoinNodeModel" (404 : Nat) ({ cls := "CoinNodeModel", name := "lacks", desc := "()Z" } : Jvm.MethodName)) ∈ jws := jws_10 (List.mem_of_getElem? (i := 104) rfl) rfl
theorem jw_2266 : (Jvm.Cond.instanceMethod ({ cls := "CoinNodeModel", name := "lacks", desc := "()Z" } : Jvm.MethodName)) ∈ jws := jws_10 (List.mem_of_getElem? (i := 106) rfl) rfl
theorem jw_2267 : (Jvm.Cond.code ({ cls := "CoinNodeModel", name := "lacks", desc := "()Z" } : Jvm.MethodName) prog_14_method_27_code (3 : Nat) (Option.some Jvm.ClassFile.FieldType.boolean)) ∈ jws := jws_10 (List.mem_of_getElem? (i := 107) rfl) rfl
theorem jw_2268 : (Jvm.Cond.methodLink "CoinNodeModel" (407 : Nat) ({ cls := "CoinNodeModel", name := "hangsOnItself", desc := "()Z" } : Jvm.MethodName)) ∈ jws := jws_10 (List.mem_of_getElem? (i := 108) rfl) rfl
theorem jw_2270 : (Jvm.Cond.instanceMethod ({ cls := "CoinNodeModel", name := "hangsOnItself", desc := "()Z" } : Jvm.MethodName)) ∈ jws := jws_10 (List.mem_of_getElem? (i := 110) rfl) rfl
theorem jw_2271 : (Jvm.Cond.code ({ cls := "CoinNodeModel", name := "hangsOnItself", desc := "()Z" } : Jvm.MethodName) prog_14_method_28_code (3 : Nat) (Option.some Jvm.ClassFile.FieldType.boolean)) ∈ jws := jws_10 (List.mem_of_getElem? (i := 111) rfl) rfl
theorem jw_2272 : (Jvm.Cond.methodLink "CoinNodeModel" (360 : Nat) ({ cls := "CoinNodeModel", name := "family", desc := "([BI)V" } : Jvm.MethodName)) ∈ jws := jws_10 (List.mem_of_getElem? (i := 112) rfl) rfl
theorem jw_2274 : (Jvm.Cond.instanceMethod ({ cls := "CoinNodeModel", name := "family", desc := "([BI)V" } : Jvm.MethodName)) ∈ jws := jws_10 (List.mem_of_getElem? (i := 114) rfl) rfl
theorem jw_2275 : (Jvm.Cond.code ({ cls := "CoinNodeModel", name := "family", desc := "([BI)V" } : Jvm.MethodName) prog_14_method_23_code (6 : Nat) (Option.none : Option Jvm.ClassFile.FieldType)) ∈ jws := jws_10 (List.mem_of_getElem? (i := 115) rfl) rfl
theorem jw_2276 : (Jvm.Cond.methodLink "CoinNodeModel" (356 : Nat) ({ cls := "CoinNodeModel", name := "hangs", desc := "(I[BI)Z" } : Jvm.MethodName)) ∈ jws := jws_10 (List.mem_of_getElem? (i := 116) rfl) rfl
theorem jw_2278 : (Jvm.Cond.instanceMethod ({ cls := "CoinNodeModel", name := "hangs", desc := "(I[BI)Z" } : Jvm.MethodName)) ∈ jws := jws_10 (List.mem_of_getElem? (i := 118) rfl) rfl
theorem jw_2279 : (Jvm.Cond.code ({ cls := "CoinNodeModel", name := "hangs", desc := "(I[BI)Z" } : Jvm.MethodName) prog_14_method_22_code (6 : Nat) (Option.some Jvm.ClassFile.FieldType.boolean)) ∈ jws := jws_10 (List.mem_of_getElem? (i := 119) rfl) rfl
theorem jw_2280 : (Jvm.Cond.methodLink "CoinNodeModel" (410 : Nat) ({ cls := "CoinNodeModel", name := "evict", desc := "()V" } : Jvm.MethodName)) ∈ jws := jws_10 (List.mem_of_getElem? (i := 120) rfl) rfl
theorem jw_2282 : (Jvm.Cond.instanceMethod ({ cls := "CoinNodeModel", name := "evict", desc := "()V" } : Jvm.MethodName)) ∈ jws := jws_10 (List.mem_of_getElem? (i := 122) rfl) rfl
theorem jw_2283 : (Jvm.Cond.code ({ cls := "CoinNodeModel", name := "evict", desc := "()V" } : Jvm.MethodName) prog_14_method_25_code (12 : Nat) (Option.none : Option Jvm.ClassFile.FieldType)) ∈ jws := jws_10 (List.mem_of_getElem? (i := 123) rfl) rfl
theorem jw_2284 : (Jvm.Cond.methodLink "CoinNodeModel" (364 : Nat) ({ cls := "CoinNodeModel", name := "compare", desc := "(JJJJ)I" } : Jvm.MethodName)) ∈ jws := jws_10 (List.mem_of_getElem? (i := 124) rfl) rfl
theorem jw_2285 : (Jvm.Cond.static ({ cls := "CoinNodeModel", name := "compare", desc := "(JJJJ)I" } : Jvm.MethodName)) ∈ jws := jws_10 (List.mem_of_getElem? (i := 125) rfl) rfl
theorem jw_2286 : (Jvm.Cond.code ({ cls := "CoinNodeModel", name := "compare", desc := "(JJJJ)I" } : Jvm.MethodName) prog_14_method_24_code (12 : Nat) (Option.some Jvm.ClassFile.FieldType.int)) ∈ jws := jws_10 (List.mem_of_getElem? (i := 126) rfl) rfl
theorem jw_2287 : (Jvm.Cond.methodLink "CoinNodeModel" (484 : Nat) ({ cls := "CoinNodeModel", name := "verdict", desc := "(II[BI)V" } : Jvm.MethodName)) ∈ jws := jws_10 (List.mem_of_getElem? (i := 127) rfl) rfl
theorem jw_2289 : (Jvm.Cond.instanceMethod ({ cls := "CoinNodeModel", name := "verdict", desc := "(II[BI)V" } : Jvm.MethodName)) ∈ jws := jws_10 (List.mem_of_getElem? (i := 129) rfl) rfl
theorem jw_2290 : (Jvm.Cond.code ({ cls := "CoinNodeModel", name := "verdict", desc := "(II[BI)V" } : Jvm.MethodName) prog_14_method_42_code (6 : Nat) (Option.none : Option Jvm.ClassFile.FieldType)) ∈ jws := jws_10 (List.mem_of_getElem? (i := 130) rfl) rfl
theorem jw_2291 : (Jvm.Cond.methodLink "CoinNodeModel" (473 : Nat) ({ cls := "CoinNodeModel", name := "begin", desc := "(I)V" } : Jvm.MethodName)) ∈ jws := jws_10 (List.mem_of_getElem? (i := 131) rfl) rfl
theorem jw_2293 : (Jvm.Cond.instanceMethod ({ cls := "CoinNodeModel", name := "begin", desc := "(I)V" } : Jvm.MethodName)) ∈ jws := jws_10 (List.mem_of_getElem? (i := 133) rfl) rfl
theorem jw_2294 : (Jvm.Cond.code ({ cls := "CoinNodeModel", name := "begin", desc := "(I)V" } : Jvm.MethodName) prog_14_method_40_code (2 : Nat) (Option.none : Option Jvm.ClassFile.FieldType)) ∈ jws := jws_10 (List.mem_of_getElem? (i := 134) rfl) rfl
theorem jw_2295 : (Jvm.Cond.methodLink "CoinNodeModel" (470 : Nat) ({ cls := "CoinNodeModel", name := "put", desc := "(I)V" } : Jvm.MethodName)) ∈ jws := jws_10 (List.mem_of_getElem? (i := 135) rfl) rfl
theorem jw_2297 : (Jvm.Cond.instanceMethod ({ cls := "CoinNodeModel", name := "put", desc := "(I)V" } : Jvm.MethodName)) ∈ jws := jws_10 (List.mem_of_getElem? (i := 137) rfl) rfl
theorem jw_2298 : (Jvm.Cond.code ({ cls := "CoinNodeModel", name := "put", desc := "(I)V" } : Jvm.MethodName) prog_14_method_38_code (2 : Nat) (Option.none : Option Jvm.ClassFile.FieldType)) ∈ jws := jws_10 (List.mem_of_getElem? (i := 138) rfl) rfl
theorem jw_2299 : (Jvm.Cond.methodLink "CoinNodeModel" (476 : Nat) ({ cls := "CoinNodeModel", name := "tell", desc := "(I)V" } : Jvm.MethodName)) ∈ jws := jws_10 (List.mem_of_getElem? (i := 139) rfl) rfl
theorem jw_2301 : (Jvm.Cond.instanceMethod ({ cls := "CoinNodeModel", name := "tell", desc := "(I)V" } : Jvm.MethodName)) ∈ jws := jws_10 (List.mem_of_getElem? (i := 141) rfl) rfl
theorem jw_2302 : (Jvm.Cond.code ({ cls := "CoinNodeModel", name := "tell", desc := "(I)V" } : Jvm.MethodName) prog_14_method_41_code (4 : Nat) (Option.none : Option Jvm.ClassFile.FieldType)) ∈ jws := jws_10 (List.mem_of_getElem? (i := 142) rfl) rfl
theorem jw_2303 : (Jvm.Cond.methodLink "CoinNodeModel" (488 : Nat) ({ cls := "CoinNodeModel", name := "tellOthers", desc := "(II[BI)V" } : Jvm.MethodName)) ∈ jws := jws_10 (List.mem_of_getElem? (i := 143) rfl) rfl
theorem jw_2305 : (Jvm.Cond.instanceMethod ({ cls := "CoinNodeModel", name := "tellOthers", desc := "(II[BI)V" } : Jvm.MethodName)) ∈ jws := jws_10 (List.mem_of_getElem? (i := 145) rfl) rfl
theorem jw_2306 : (Jvm.Cond.code ({ cls := "CoinNodeModel", name := "tellOthers", desc := "(II[BI)V" } : Jvm.MethodName) prog_14_method_43_code (6 : Nat) (Option.none : Option Jvm.ClassFile.FieldType)) ∈ jws := jws_10 (List.mem_of_getElem? (i := 146) rfl) rfl
theorem jw_2307 : (Jvm.Cond.methodLink "CoinNodeModel" (479 : Nat) ({ cls := "CoinNodeModel", name := "copy", desc := "([BII)V" } : Jvm.MethodName)) ∈ jws := jws_10 (List.mem_of_getElem? (i := 147) rfl) rfl
theorem jw_2309 : (Jvm.Cond.instanceMethod ({ cls := "CoinNodeModel", name := "copy", desc := "([BII)V" } : Jvm.MethodName)) ∈ jws := jws_10 (List.mem_of_getElem? (i := 149) rfl) rfl
theorem jw_2310 : (Jvm.Cond.code ({ cls := "CoinNodeModel", name := "copy", desc := "([BII)V" } : Jvm.MethodName) prog_14_method_39_code (5 : Nat) (Option.none : Option Jvm.ClassFile.FieldType)) ∈ jws := jws_10 (List.mem_of_getElem? (i := 150) rfl) rfl
theorem jw_2311 : (Jvm.Cond.methodLink "CoinNodeModel" (491 : Nat) ({ cls := "CoinNodeModel", name := "arrives", desc := "(I)I" } : Jvm.MethodName)) ∈ jws := jws_10 (List.mem_of_getElem? (i := 151) rfl) rfl
theorem jw_2313 : (Jvm.Cond.instanceMethod ({ cls := "CoinNodeModel", name := "arrives", desc := "(I)I" } : Jvm.MethodName)) ∈ jws := jws_10 (List.mem_of_getElem? (i := 153) rfl) rfl
theorem jw_2314 : (Jvm.Cond.code ({ cls := "CoinNodeModel", name := "arrives", desc := "(I)I" } : Jvm.MethodName) prog_14_method_37_code (9 : Nat) (Option.some Jvm.ClassFile.FieldType.int)) ∈ jws := jws_10 (List.mem_of_getElem? (i := 154) rfl) rfl
theorem jw_2315 : (Jvm.Cond.methodLink "CoinNodeModel" (431 : Nat) ({ cls := "CoinNodeModel", name := "known", desc := "([BI)I" } : Jvm.MethodName)) ∈ jws := jws_10 (List.mem_of_getElem? (i := 155) rfl) rfl
theorem jw_2317 : (Jvm.Cond.instanceMethod ({ cls := "CoinNodeModel", name := "known", desc := "([BI)I" } : Jvm.MethodName)) ∈ jws := jws_10 (List.mem_of_getElem? (i := 157) rfl) rfl
theorem jw_2318 : (Jvm.Cond.code ({ cls := "CoinNodeModel", name := "known", desc := "([BI)I" } : Jvm.MethodName) prog_14_method_31_code (4 : Nat) (Option.some Jvm.ClassFile.FieldType.int)) ∈ jws := jws_10 (List.mem_of_getElem? (i := 158) rfl) rfl
theorem jw_2319 : (Jvm.Cond.methodLink "CoinNodeModel" (417 : Nat) ({ cls := "CoinNodeModel$Tree", name := "size", desc := "()I" } : Jvm.MethodName)) ∈ jws := jws_10 (List.mem_of_getElem? (i := 159) rfl) rfl
theorem jw_2320 : (Jvm.Cond.instanceMethod ({ cls := "CoinNodeModel$Tree", name := "size", desc := "()I" } : Jvm.MethodName)) ∈ jws := jws_10 (List.mem_of_getElem? (i := 160) rfl) rfl
theorem jw_2321 : (Jvm.Cond.selects "CoinNodeModel$Tree" ({ cls := "CoinNodeModel$Tree", name := "size", desc := "()I" } : Jvm.MethodName) ({ cls := "CoinNodeModel$Tree", name := "size", desc := "()I" } : Jvm.MethodName)) ∈ jws := jws_10 (List.mem_of_getElem? (i := 161) rfl) rfl
theorem jw_2322 : (Jvm.Cond.code ({ cls := "CoinNodeModel$Tree", name := "size", desc := "()I" } : Jvm.MethodName) prog_20_method_25_code (1 : Nat) (Option.some Jvm.ClassFile.FieldType.int)) ∈ jws := jws_10 (List.mem_of_getElem? (i := 162) rfl) rfl
theorem jw_2323 : (Jvm.Cond.methodLink "CoinNodeModel" (434 : Nat) ({ cls := "CoinNodeModel", name := "head", desc := "(II)J" } : Jvm.MethodName)) ∈ jws := jws_10 (List.mem_of_getElem? (i := 163) rfl) rfl
theorem jw_2325 : (Jvm.Cond.instanceMethod ({ cls := "CoinNodeModel", name := "head", desc := "(II)J" } : Jvm.MethodName)) ∈ jws := jws_10 (List.mem_of_getElem? (i := 165) rfl) rfl
theorem jw_2326 : (Jvm.Cond.code ({ cls := "CoinNodeModel", name := "head", desc := "(II)J" } : Jvm.MethodName) prog_14_method_33_code (6 : Nat) (Option.some Jvm.ClassFile.FieldType.long)) ∈ jws := jws_10 (List.mem_of_getElem? (i := 166) rfl) rfl
theorem jw_2327 : (Jvm.Cond.methodLink "CoinNodeModel" (437 : Nat) ({ cls := "CoinNodeModel$Tree", name := "must", desc := "(I)J" } : Jvm.MethodName)) ∈ jws := jws_10 (List.mem_of_getElem? (i := 167) rfl) rfl
theorem jw_2328 : (Jvm.Cond.instanceMethod ({ cls := "CoinNodeModel$Tree", name := "must", desc := "(I)J" } : Jvm.MethodName)) ∈ jws := jws_10 (List.mem_of_getElem? (i := 168) rfl) rfl
theorem jw_2329 : (Jvm.Cond.selects "CoinNodeModel$Tree" ({ cls := "CoinNodeModel$Tree", name := "must", desc := "(I)J" } : Jvm.MethodName) ({ cls := "CoinNodeModel$Tree", name := "must", desc := "(I)J" } : Jvm.MethodName)) ∈ jws := jws_10 (List.mem_of_getElem? (i := 169) rfl) rfl
theorem jw_2330 : (Jvm.Cond.code ({ cls := "CoinNodeModel$Tree", name := "must", desc := "(I)J" } : Jvm.MethodName) prog_20_method_17_code (4 : Nat) (Option.some Jvm.ClassFile.FieldType.long)) ∈ jws := jws_10 (List.mem_of_getElem? (i := 170) rfl) rfl
theorem jw_2331 : (Jvm.Cond.methodLink "CoinNodeModel$Tree" (108 : Nat) ({ cls := "CoinNodeModel$Tree", name := "below", desc := "(II)I" } : Jvm.MethodName)) ∈ jws := jws_10 (List.mem_of_getElem? (i := 171) rfl) rfl
theorem jw_2332 : (Jvm.Cond.constantLong "CoinNodeModel$Tree" (112 : Nat) (1200 : Int64)) ∈ jws := jws_10 (List.mem_of_getElem? (i := 172) rfl) rfl
theorem jw_2333 : (Jvm.Cond.constantLong "CoinNodeModel$Tree" (114 : Nat) (19200 : Int64)) ∈ jws := jws_10 (List.mem_of_getElem? (i := 173) rfl) rfl
theorem jw_2334 : (Jvm.Cond.constantLong "CoinNodeModel$Tree" (116 : Nat) (4800 : Int64)) ∈ jws := jws_10 (List.mem_of_getElem? (i := 174) rfl) rfl
theorem jw_2335 : (Jvm.Cond.methodLink "CoinNodeModel$Tree" (118 : Nat) ({ cls := "CoinNodeModel$Tree", name := "scale", desc := "(JJ)V" } : Jvm.MethodName)) ∈ jws := jws_10 (List.mem_of_getElem? (i := 175) rfl) rfl
theorem jw_2337 : (Jvm.Cond.instanceMethod ({ cls := "CoinNodeModel$Tree", name := "scale", desc := "(JJ)V" } : Jvm.MethodName)) ∈ jws := jws_10 (List.mem_of_getElem? (i := 177) rfl) rfl
theorem jw_2338 : (Jvm.Cond.code ({ cls := "CoinNodeModel$Tree", name := "scale", desc := "(JJ)V" } : Jvm.MethodName) prog_20_method_8_code (12 : Nat) (Option.none : Option Jvm.ClassFile.FieldType)) ∈ jws := jws_10 (List.mem_of_getElem? (i := 178) rfl) rfl
theorem jw_2339 : (Jvm.Cond.constantLong "CoinNodeModel$Tree" (76 : Nat) (256 : Int64)) ∈ jws := jws_10 (List.mem_of_getElem? (i := 179) rfl) rfl
theorem jw_2340 : (Jvm.Cond.methodLink "CoinNodeModel$Tree" (98 : Nat) ({ cls := "CoinNodeModel$Tree", name := "compactOf", desc := "([I)J" } : Jvm.MethodName)) ∈ jws := jws_10 (List.mem_of_getElem? (i := 180) rfl) rfl
theorem jw_2341 : (Jvm.Cond.static ({ cls := "CoinNodeModel$Tree", name := "compactOf", desc := "([I)J" } : Jvm.MethodName)) ∈ jws := jws_10 (List.mem_of_getElem? (i := 181) rfl) rfl
theorem jw_2342 : (Jvm.Cond.code ({ cls := "CoinNodeModel$Tree", name := "compactOf", desc := "([I)J" } : Jvm.MethodName) prog_20_method_9_code (5 : Nat) (Option.some Jvm.ClassFile.FieldType.long)) ∈ jws := jws_10 (List.mem_of_getElem? (i := 182) rfl) rfl
theorem jw_2343 : (Jvm.Cond.methodLink "CoinNodeModel$Tree" (78 : Nat) ({ cls := "CoinNodeModel$Tree", name := "bytes", desc := "([I)I" } : Jvm.MethodName)) ∈ jws := jws_10 (List.mem_of_getElem? (i := 183) rfl) rfl
theorem jw_2344 : (Jvm.Cond.static ({ cls := "CoinNodeModel$Tree", name := "bytes", desc := "([I)I" } : Jvm.MethodName)) ∈ jws := jws_10 (List.mem_of_getElem? (i := 184) rfl) rfl
theorem jw_2345 : (Jvm.Cond.code ({ cls := "CoinNodeModel$Tree", name := "bytes", desc := "([I)I" } : Jvm.MethodName) prog_20_method_5_code (3 : Nat) (Option.some Jvm.ClassFile.FieldType.int)) ∈ jws := jws_10 (List.mem_of_getElem? (i := 185) rfl) rfl
theorem jw_2346 : (Jvm.Cond.constantLong "CoinNodeModel$Tree" (82 : Nat) (8388608 : Int64)) ∈ jws := jws_10 (List.mem_of_getElem? (i := 186) rfl) rfl
theorem jw_2347 : (Jvm.Cond.methodLink "CoinNodeModel" (441 : Nat) ({ cls := "CoinNodeModel$Tree", name := "median", desc := "(I)J" } : Jvm.MethodName)) ∈ jws := jws_10 (List.mem_of_getElem? (i := 187) rfl) rfl
theorem jw_2348 : (Jvm.Cond.instanceMethod ({ cls := "CoinNodeModel$Tree", name := "median", desc := "(I)J" } : Jvm.MethodName)) ∈ jws := jws_10 (List.mem_of_getElem? (i := 188) rfl) rfl
theorem jw_2349 : (Jvm.Cond.selects "CoinNodeModel$Tree" ({ cls := "CoinNodeModel$Tree", name := "median", desc := "(I)J" } : Jvm.MethodName) ({ cls := "CoinNodeModel$Tree", name := "median", desc := "(I)J" } : Jvm.MethodName)) ∈ jws := jws_10 (List.mem_of_getElem? (i := 189) rfl) rfl
theorem jw_2350 : (Jvm.Cond.code ({ cls := "CoinNodeModel$Tree", name := "median", desc := "(I)J" } : Jvm.MethodName) prog_20_method_18_code (5 : Nat) (Option.some Jvm.ClassFile.FieldType.long)) ∈ jws := jws_10 (List.mem_of_getElem? (i := 190) rfl) rfl
theorem jw_2351 : (Jvm.Cond.methodLink "CoinNodeModel" (444 : Nat) ({ cls := "CoinNodeModel", name := "isAbove", desc := "(J)Z" } : Jvm.MethodName)) ∈ jws := jws_10 (List.mem_of_getElem? (i := 191) rfl) rfl
theorem jw_2353 : (Jvm.Cond.instanceMethod ({ cls := "CoinNodeModel", name := "isAbove", desc := "(J)Z" } : Jvm.MethodName)) ∈ jws := jws_10 (List.mem_of_getElem? (i := 193) rfl) rfl
theorem jw_2354 : (Jvm.Cond.code ({ cls := "CoinNodeModel", name := "isAbove", desc := "(J)Z" } : Jvm.MethodName) prog_14_method_32_code (8 : Nat) (Option.some Jvm.ClassFile.FieldType.boolean)) ∈ jws := jws_10 (List.mem_of_getElem? (i := 194) rfl) rfl
theorem jw_2355 : (Jvm.Cond.methodLink "CoinNodeModel" (420 : Nat) ({ cls := "CoinNodeModel$Tree", name := "target", desc := "(JI)J" } : Jvm.MethodName)) ∈ jws := jws_10 (List.mem_of_getElem? (i := 195) rfl) rfl
theorem jw_2356 : (Jvm.Cond.instanceMethod ({ cls := "CoinNodeModel$Tree", name := "target", desc := "(JI)J" } : Jvm.MethodName)) ∈ jws := jws_10 (List.mem_of_getElem? (i := 196) rfl) rfl
theorem jw_2357 : (Jvm.Cond.selects "CoinNodeModel$Tree" ({ cls := "CoinNodeModel$Tree", name := "target", desc := "(JI)J" } : Jvm.MethodName) ({ cls := "CoinNodeModel$Tree", name := "target", desc := "(JI)J" } : Jvm.MethodName)) ∈ jws := jws_10 (List.mem_of_getElem? (i := 197) rfl) rfl
theorem jw_2358 : (Jvm.Cond.code ({ cls := "CoinNodeModel$Tree", name := "target", desc := "(JI)J" } : Jvm.MethodName) prog_20_method_13_code (5 : Nat) (Option.some Jvm.ClassFile.FieldType.long)) ∈ jws := jws_10 (List.mem_of_getElem? (i := 198) rfl) rfl
theorem jw_2359 : (Jvm.Cond.methodLink "CoinNodeModel$Tree" (90 : Nat) ({ cls := "CoinNodeModel$Tree", name := "fault", desc := "(J)I" } : Jvm.MethodName)) ∈ jws := jws_10 (List.mem_of_getElem? (i := 199) rfl) rfl
theorem jw_2360 : (Jvm.Cond.instanceMethod ({ cls := "CoinNodeModel$Tree", name := "fault", desc := "(J)I" } : Jvm.MethodName)) ∈ jws := jws_10 (List.mem_of_getElem? (i := 200) rfl) rfl
theorem jw_2361 : (Jvm.Cond.selects "CoinNodeModel$Tree" ({ cls := "CoinNodeModel$Tree", name := "fault", desc := "(J)I" } : Jvm.MethodName) ({ cls := "CoinNodeModel$Tree", name := "fault", desc := "(J)I" } : Jvm.MethodName)) ∈ jws := jws_10 (List.mem_of_getElem? (i := 201) rfl) rfl
theorem jw_2362 : (Jvm.Cond.code ({ cls := "CoinNodeModel$Tree", name := "fault", desc := "(J)I" } : Jvm.MethodName) prog_20_method_11_code (7 : Nat) (Option.some Jvm.ClassFile.FieldType.int)) ∈ jws := jws_10 (List.mem_of_getElem? (i := 202) rfl) rfl
theorem jw_2363 : (Jvm.Cond.methodLink "CoinNodeModel$Tree" (84 : Nat) ({ cls := "CoinNodeModel$Tree", name := "isBits", desc := "(J)Z" } : Jvm.MethodName)) ∈ jws := jws_10 (List.mem_of_getElem? (i := 203) rfl) rfl
theorem jw_2364 : (Jvm.Cond.static ({ cls := "CoinNodeModel$Tree", name := "isBits", desc := "(J)Z" } : Jvm.MethodName)) ∈ jws := jws_10 (List.mem_of_getElem? (i := 204) rfl) rfl
theorem jw_2365 : (Jvm.Cond.code ({ cls := "CoinNodeModel$Tree", name := "isBits", desc := "(J)Z" } : Jvm.MethodName) prog_20_method_10_code (2 : Nat) (Option.some Jvm.ClassFile.FieldType.boolean)) ∈ jws := jws_10 (List.mem_of_getElem? (i := 205) rfl) rfl
theorem jw_2366 : (Jvm.Cond.constantLong "CoinNodeModel$Tree" (88 : Nat) (65536 : Int64)) ∈ jws := jws_10 (List.mem_of_getElem? (i := 206) rfl) rfl
theorem jw_2367 : (Jvm.Cond.methodLink "CoinNodeModel$Tree" (94 : Nat) ({ cls := "CoinNodeModel$Tree", name := "longOf", desc := "([III)J" } : Jvm.MethodName)) ∈ jws := jws_10 (List.mem_of_getElem? (i := 207) rfl) rfl
theorem jw_2368 : (Jvm.Cond.static ({ cls := "CoinNodeModel$Tree", name := "longOf", desc := "([III)J" } : Jvm.MethodName)) ∈ jws := jws_10 (List.mem_of_getElem? (i := 208) rfl) rfl
theorem jw_2369 : (Jvm.Cond.code ({ cls := "CoinNodeModel$Tree", name := "longOf", desc := "([III)J" } : Jvm.MethodName) prog_20_method_12_code (6 : Nat) (Option.some Jvm.ClassFile.FieldType.long)) ∈ jws := jws_10 (List.mem_of_getElem? (i := 209) rfl) rfl
theorem jw_2370 : (Jvm.Cond.methodLink "CoinNodeModel" (448 : Nat) ({ cls := "CoinNodeModel", name := "isFramed", desc := "()Z" } : Jvm.MethodName)) ∈ jws := jws_10 (List.mem_of_getElem? (i := 210) rfl) rfl
theorem jw_2372 : (Jvm.Cond.instanceMethod ({ cls := "CoinNodeModel", name := "isFramed", desc := "()Z" } : Jvm.MethodName)) ∈ jws := jws_10 (List.mem_of_getElem? (i := 212) rfl) rfl
theorem jw_2373 : (Jvm.Cond.code ({ cls := "CoinNodeModel", name := "isFramed", desc := "()Z" } : Jvm.MethodName) prog_14_method_34_code (2 : Nat) (Option.some Jvm.ClassFile.FieldType.boolean)) ∈ jws := jws_10 (List.mem_of_getElem? (i := 213) rfl) rfl
theorem jw_2374 : (Jvm.Cond.methodLink "CoinNodeModel" (424 : Nat) ({ cls := "CoinNodeModel$Tx", name := "isRoot", desc := "(I)Z" } : Jvm.MethodName)) ∈ jws := jws_10 (List.mem_of_getElem? (i := 214) rfl) rfl
theorem jw_2375 : (Jvm.Cond.methodLink "CoinNodeModel" (451 : Nat) ({ cls := "CoinNodeModel", name := "isRooted", desc := "()Z" } : Jvm.MethodName)) ∈ jws := jws_10 (List.mem_of_getElem? (i := 215) rfl) rfl
theorem jw_2377 : (Jvm.Cond.instanceMethod ({ cls := "CoinNodeModel", name := "isRooted", desc := "()Z" } : Jvm.MethodName)) ∈ jws := jws_10 (List.mem_of_getElem? (i := 217) rfl) rfl
theorem jw_2378 : (Jvm.Cond.code ({ cls := "CoinNodeModel", name := "isRooted", desc := "()Z" } : Jvm.MethodName) prog_14_method_35_code (4 : Nat) (Option.some Jvm.ClassFile.FieldType.boolean)) ∈ jws := jws_10 (List.mem_of_getElem? (i := 218) rfl) rfl
theorem jw_2379 : (Jvm.Cond.methodLink "CoinNodeModel" (454 : Nat) ({ cls := "CoinNodeModel", name := "isFaulty", desc := "()Z" } : Jvm.MethodName)) ∈ jws := jws_10 (List.mem_of_getElem? (i := 219) rfl) rfl
theorem jw_2381 : (Jvm.Cond.instanceMethod ({ cls := "CoinNodeModel", name := "isFaulty", desc := "()Z" } : Jvm.MethodName)) ∈ jws := jws_10 (List.mem_of_getElem? (i := 221) rfl) rfl
theorem jw_2382 : (Jvm.Cond.code ({ cls := "CoinNodeModel", name := "isFaulty", desc := "()Z" } : Jvm.MethodName) prog_14_method_36_code (2 : Nat) (Option.some Jvm.ClassFile.FieldType.boolean)) ∈ jws := jws_10 (List.mem_of_getElem? (i := 222) rfl) rfl
theorem jw_2383 : (Jvm.Cond.methodLink "CoinNodeModel" (428 : Nat) ({ cls := "CoinNodeModel$Tx", name := "isLarge", desc := "()Z" } : Jvm.MethodName)) ∈ jws := jws_10 (List.mem_of_getElem? (i := 223) rfl) rfl
theorem jw_2384 : (Jvm.Cond.methodLink "CoinNodeModel" (457 : Nat) ({ cls := "CoinNodeModel$Tree", name := "add", desc := "(IJJ)I" } : Jvm.MethodName)) ∈ jws := jws_10 (List.mem_of_getElem? (i := 224) rfl) rfl
theorem jw_2385 : (Jvm.Cond.instanceMethod ({ cls := "CoinNodeModel$Tree", name := "add", desc := "(IJJ)I" } : Jvm.MethodName)) ∈ jws := jws_10 (List.mem_of_getElem? (i := 225) rfl) rfl
theorem jw_2386 : (Jvm.Cond.selects "CoinNodeModel$Tree" ({ cls := "CoinNodeModel$Tree", name := "add", desc := "(IJJ)I" } : Jvm.MethodName) ({ cls := "CoinNodeModel$Tree", name := "add", desc := "(IJJ)I" } : Jvm.MethodName)) ∈ jws := jws_10 (List.mem_of_getElem? (i := 226) rfl) rfl
theorem jw_2387 : (Jvm.Cond.code ({ cls := "CoinNodeModel$Tree", name := "add", desc := "(IJJ)I" } : Jvm.MethodName) prog_20_method_19_code (6 : Nat) (Option.some Jvm.ClassFile.FieldType.int)) ∈ jws := jws_10 (List.mem_of_getElem? (i := 227) rfl) rfl
theorem jw_2388 : (Jvm.Cond.methodLink "CoinNodeModel$Tree" (122 : Nat) ({ cls := "CoinNodeModel$Tree", name := "must", desc := "(I)J" } : Jvm.MethodName)) ∈ jws := jws_10 (List.mem_of_getElem? (i := 228) rfl) rfl
theorem jw_2389 : (Jvm.Cond.methodLink "CoinNodeModel$Tree" (126 : Nat) ({ cls := "CoinNodeModel$Tree", name := "median", desc := "(I)J" } : Jvm.MethodName)) ∈ jws := jws_10 (List.mem_of_getElem? (i := 229) rfl) rfl
theorem jw_2390 : (Jvm.Cond.methodLink "CoinNodeModel" (461 : Nat) ({ cls := "CoinNodeModel", name := "choose", desc := "()V" } : Jvm.MethodName)) ∈ jws := jws_10 (List.mem_of_getElem? (i := 230) rfl) rfl
theorem jw_2392 : (Jvm.Cond.instanceMethod ({ cls := "CoinNodeModel", name := "choose", desc := "()V" } : Jvm.MethodName)) ∈ jws := jws_10 (List.mem_of_getElem? (i := 232) rfl) rfl
theorem jw_2393 : (Jvm.Cond.code ({ cls := "CoinNodeModel", name := "choose", desc := "()V" } : Jvm.MethodName) prog_14_method_18_code (6 : Nat) (Option.none : Option Jvm.ClassFile.FieldType)) ∈ jws := jws_10 (List.mem_of_getElem? (i := 233) rfl) rfl
theorem jw_2394 : (Jvm.Cond.methodLink "CoinNodeModel" (343 : Nat) ({ cls := "CoinNodeModel$Tree", name := "tip", desc := "()I" } : Jvm.MethodName)) ∈ jws := jws_10 (List.mem_of_getElem? (i := 234) rfl) rfl
theorem jw_2395 : (Jvm.Cond.instanceMethod ({ cls := "CoinNodeModel$Tree", name := "tip", desc := "()I" } : Jvm.MethodName)) ∈ jws := jws_10 (List.mem_of_getElem? (i := 235) rfl) rfl
theorem jw_2396 : (Jvm.Cond.selects "CoinNodeModel$Tree" ({ cls := "CoinNodeModel$Tree", name := "tip", desc := "()I" } : Jvm.MethodName) ({ cls := "CoinNodeModel$Tree", name := "tip", desc := "()I" } : Jvm.MethodName)) ∈ jws := jws_10 (List.mem_of_getElem? (i := 236) rfl) rfl
theorem jw_2397 : (Jvm.Cond.code ({ cls := "CoinNodeModel$Tree", name := "tip", desc := "()I" } : Jvm.MethodName) prog_20_method_24_code (3 : Nat) (Option.some Jvm.ClassFile.FieldType.int)) ∈ jws := jws_10 (List.mem_of_getElem? (i := 237) rfl) rfl
theorem jw_2398 : (Jvm.Cond.methodLink "CoinNodeModel$Tree" (129 : Nat) ({ cls := "CoinNodeModel$Tree", name := "compare", desc := "(II)I" } : Jvm.MethodName)) ∈ jws := jws_10 (List.mem_of_getElem? (i := 238) rfl) rfl
theorem jw_2399 : (Jvm.Cond.instanceMethod ({ cls := "CoinNodeModel$Tree", name := "compare", desc := "(II)I" } : Jvm.MethodName)) ∈ jws := jws_10 (List.mem_of_getElem? (i := 239) rfl) rfl
theorem jw_2400 : (Jvm.Cond.selects "CoinNodeModel$Tree" ({ cls := "CoinNodeModel$Tree", name := "compare", desc := "(II)I" } : Jvm.MethodName) ({ cls := "CoinNodeModel$Tree", name := "compare", desc := "(II)I" } : Jvm.MethodName)) ∈ jws := jws_11 (List.mem_of_getElem? (i := 0) rfl) rfl
theorem jw_2401 : (Jvm.Cond.code ({ cls := "CoinNodeModel$Tree", name := "compare", desc := "(II)I" } : Jvm.MethodName) prog_20_method_23_code (7 : Nat) (Option.some Jvm.ClassFile.FieldType.int)) ∈ jws := jws_11 (List.mem_of_getElem? (i := 1) rfl) rfl
theorem jw_2402 : (Jvm.Cond.methodLink "CoinNodeModel" (345 : Nat) ({ cls := "CoinNodeModel$Tree", name := "fork", desc := "(II)I" } : Jvm.MethodName)) ∈ jws := jws_11 (List.mem_of_getElem? (i := 2) rfl) rfl
theorem jw_2403 : (Jvm.Cond.instanceMethod ({ cls := "CoinNodeModel$Tree", name := "fork", desc := "(II)I" } : Jvm.MethodName)) ∈ jws := jws_11 (List.mem_of_getElem? (i := 3) rfl) rfl
theorem jw_2404 : (Jvm.Cond.selects "CoinNodeModel$Tree" ({ cls := "CoinNodeModel$Tree", name := "fork", desc := "(II)I" } : Jvm.MethodName) ({ cls := "CoinNodeModel$Tree", name := "fork", desc := "(II)I" } : Jvm.MethodName)) ∈ jws := jws_11 (List.mem_of_getElem? (i := 4) rfl) rfl
theorem jw_2405 : (Jvm.Cond.code ({ cls := "CoinNodeModel$Tree", name := "fork", desc := "(II)I" } : Jvm.MethodName) prog_20_method_26_code (4 : Nat) (Option.some Jvm.ClassFile.FieldType.int)) ∈ jws := jws_11 (List.mem_of_getElem? (i := 5) rfl) rfl
theorem jw_2406 : (Jvm.Cond.methodLink "CoinNodeModel" (348 : Nat) ({ cls := "CoinNodeModel", name := "look", desc := "(I)I" } : Jvm.MethodName)) ∈ jws := jws_11 (List.mem_of_getElem? (i := 6) rfl) rfl
theorem jw_2408 : (Jvm.Cond.instanceMethod ({ cls := "CoinNodeModel", name := "look", desc := "(I)I" } : Jvm.MethodName)) ∈ jws := jws_11 (List.mem_of_getElem? (i := 8) rfl) rfl
theorem jw_2409 : (Jvm.Cond.code ({ cls := "CoinNodeModel", name := "look", desc := "(I)I" } : Jvm.MethodName) prog_14_method_14_code (3 : Nat) (Option.some Jvm.ClassFile.FieldType.int)) ∈ jws := jws_11 (List.mem_of_getElem? (i := 9) rfl) rfl
theorem jw_2410 : (Jvm.Cond.methodLink "CoinNodeModel" (309 : Nat) ({ cls := "CoinNodeModel", name := "parent", desc := "(I)I" } : Jvm.MethodName)) ∈ jws := jws_11 (List.mem_of_getElem? (i := 10) rfl) rfl
theorem jw_2412 : (Jvm.Cond.instanceMethod ({ cls := "CoinNodeModel", name := "parent", desc := "(I)I" } : Jvm.MethodName)) ∈ jws := jws_11 (List.mem_of_getElem? (i := 12) rfl) rfl
theorem jw_2413 : (Jvm.Cond.code ({ cls := "CoinNodeModel", name := "parent", desc := "(I)I" } : Jvm.MethodName) prog_14_method_10_code (2 : Nat) (Option.some Jvm.ClassFile.FieldType.int)) ∈ jws := jws_11 (List.mem_of_getElem? (i := 13) rfl) rfl
theorem jw_2414 : (Jvm.Cond.methodLink "CoinNodeModel" (315 : Nat) ({ cls := "CoinNodeModel", name := "keep", desc := "()V" } : Jvm.MethodName)) ∈ jws := jws_11 (List.mem_of_getElem? (i := 14) rfl) rfl
theorem jw_2416 : (Jvm.Cond.instanceMethod ({ cls := "CoinNodeModel", name := "keep", desc := "()V" } : Jvm.MethodName)) ∈ jws := jws_11 (List.mem_of_getElem? (i := 16) rfl) rfl
theorem jw_2417 : (Jvm.Cond.code ({ cls := "CoinNodeModel", name := "keep", desc := "()V" } : Jvm.MethodName) prog_14_method_15_code (2 : Nat) (Option.none : Option Jvm.ClassFile.FieldType)) ∈ jws := jws_11 (List.mem_of_getElem? (i := 17) rfl) rfl
theorem jw_2418 : (Jvm.Cond.methodLink "CoinNodeModel" (318 : Nat) ({ cls := "CoinNodeModel", name := "faultOf", desc := "(I)I" } : Jvm.MethodName)) ∈ jws := jws_11 (List.mem_of_getElem? (i := 18) rfl) rfl
theorem jw_2420 : (Jvm.Cond.instanceMethod ({ cls := "CoinNodeModel", name := "faultOf", desc := "(I)I" } : Jvm.MethodName)) ∈ jws := jws_11 (List.mem_of_getElem? (i := 20) rfl) rfl
theorem jw_2421 : (Jvm.Cond.code ({ cls := "CoinNodeModel", name := "faultOf", desc := "(I)I" } : Jvm.MethodName) prog_14_method_17_code (5 : Nat) (Option.some Jvm.ClassFile.FieldType.int)) ∈ jws := jws_11 (List.mem_of_getElem? (i := 21) rfl) rfl
theorem jw_2422 : (Jvm.Cond.methodLink "CoinNodeModel" (333 : Nat) ({ cls := "CoinNodeModel", name := "wrong", desc := "(I)I" } : Jvm.MethodName)) ∈ jws := jws_11 (List.mem_of_getElem? (i := 22) rfl) rfl
theorem jw_2424 : (Jvm.Cond.instanceMethod ({ cls := "CoinNodeModel", name := "wrong", desc := "(I)I" } : Jvm.MethodName)) ∈ jws := jws_11 (List.mem_of_getElem? (i := 24) rfl) rfl
theorem jw_2425 : (Jvm.Cond.code ({ cls := "CoinNodeModel", name := "wrong", desc := "(I)I" } : Jvm.MethodName) prog_14_method_13_code (6 : Nat) (Option.some Jvm.ClassFile.FieldType.int)) ∈ jws := jws_11 (List.mem_of_getElem? (i := 25) rfl) rfl
theorem jw_2426 : (Jvm.Cond.constantLong "CoinNodeModel" (336 : Nat) (5000000000 : Int64)) ∈ jws := jws_11 (List.mem_of_getElem? (i := 26) rfl) rfl
theorem jw_2427 : (Jvm.Cond.constantLong "CoinNodeModel" (338 : Nat) (2 : Int64)) ∈ jws := jws_11 (List.mem_of_getElem? (i := 27) rfl) rfl
theorem jw_2428 : (Jvm.Cond.methodLink "CoinNodeModel" (321 : Nat) ({ cls := "CoinNodeModel", name := "back", desc := "()V" } : Jvm.MethodName)) ∈ jws := jws_11 (List.mem_of_getElem? (i := 28) rfl) rfl
theorem jw_2430 : (Jvm.Cond.instanceMethod ({ cls := "CoinNodeModel", name := "back", desc := "()V" } : Jvm.MethodName)) ∈ jws := jws_11 (List.mem_of_getElem? (i := 30) rfl) rfl
theorem jw_2431 : (Jvm.Cond.code ({ cls := "CoinNodeModel", name := "back", desc := "()V" } : Jvm.MethodName) prog_14_method_16_code (2 : Nat) (Option.none : Option Jvm.ClassFile.FieldType)) ∈ jws := jws_11 (List.mem_of_getElem? (i := 31) rfl) rfl
theorem jw_2432 : (Jvm.Cond.methodLink "CoinNodeModel" (350 : Nat) ({ cls := "CoinNodeModel$Tree", name := "spoil", desc := "(I)I" } : Jvm.MethodName)) ∈ jws := jws_11 (List.mem_of_getElem? (i := 32) rfl) rfl
theorem jw_2433 : (Jvm.Cond.instanceMethod ({ cls := "CoinNodeModel$Tree", name := "spoil", desc := "(I)I" } : Jvm.MethodName)) ∈ jws := jws_11 (List.mem_of_getElem? (i := 33) rfl) rfl
theorem jw_2434 : (Jvm.Cond.selects "CoinNodeModel$Tree" ({ cls := "CoinNodeModel$Tree", name := "spoil", desc := "(I)I" } : Jvm.MethodName) ({ cls := "CoinNodeModel$Tree", name := "spoil", desc := "(I)I" } : Jvm.MethodName)) ∈ jws := jws_11 (List.mem_of_getElem? (i := 34) rfl) rfl
theorem jw_2435 : (Jvm.Cond.code ({ cls := "CoinNodeModel$Tree", name := "spoil", desc := "(I)I" } : Jvm.MethodName) prog_20_method_20_code (4 : Nat) (Option.some Jvm.ClassFile.FieldType.int)) ∈ jws := jws_11 (List.mem_of_getElem? (i := 35) rfl) rfl
theorem jw_2436 : (Jvm.Cond.methodLink "CoinNodeModel" (464 : Nat) ({ cls := "CoinNodeModel", name := "renew", desc := "(I)V" } : Jvm.MethodName)) ∈ jws := jws_11 (List.mem_of_getElem? (i := 36) rfl) rfl
theorem jw_2438 : (Jvm.Cond.instanceMethod ({ cls := "CoinNodeModel", name := "renew", desc := "(I)V" } : Jvm.MethodName)) ∈ jws := jws_11 (List.mem_of_getElem? (i := 38) rfl) rfl
theorem jw_2439 : (Jvm.Cond.code ({ cls := "CoinNodeModel", name := "renew", desc := "(I)V" } : Jvm.MethodName) prog_14_method_30_code (6 : Nat) (Option.none : Option Jvm.ClassFile.FieldType)) ∈ jws := jws_11 (List.mem_of_getElem? (i := 39) rfl) rfl
theorem jw_2440 : (Jvm.Cond.methodLink "CoinNodeModel" (494 : Nat) ({ cls := "CoinNodeModel", name := "askBehind", desc := "(I)V" } : Jvm.MethodName)) ∈ jws := jws_11 (List.mem_of_getElem? (i := 40) rfl) rfl
theorem jw_2442 : (Jvm.Cond.instanceMethod ({ cls := "CoinNodeModel", name := "askBehind", desc := "(I)V" } : Jvm.MethodName)) ∈ jws := jws_11 (List.mem_of_getElem? (i := 42) rfl) rfl
theorem jw_2443 : (Jvm.Cond.code ({ cls := "CoinNodeModel", name := "askBehind", desc := "(I)V" } : Jvm.MethodName) prog_14_method_44_code (4 : Nat) (Option.none : Option Jvm.ClassFile.FieldType)) ∈ jws := jws_11 (List.mem_of_getElem? (i := 43) rfl) rfl
theorem jw_2444 : (Jvm.Cond.methodLink "CoinNodeModel" (482 : Nat) ({ cls := "CoinNodeModel$Tree", name := "row", desc := "(II)I" } : Jvm.MethodName)) ∈ jws := jws_11 (List.mem_of_getElem? (i := 44) rfl) rfl
theorem jw_2445 : (Jvm.Cond.instanceMethod ({ cls := "CoinNodeModel$Tree", name := "row", desc := "(II)I" } : Jvm.MethodName)) ∈ jws := jws_11 (List.mem_of_getElem? (i := 45) rfl) rfl
theorem jw_2446 : (Jvm.Cond.selects "CoinNodeModel$Tree" ({ cls := "CoinNodeModel$Tree", name := "row", desc := "(II)I" } : Jvm.MethodName) ({ cls := "CoinNodeModel$Tree", name := "row", desc := "(II)I" } : Jvm.MethodName)) ∈ jws := jws_11 (List.mem_of_getElem? (i := 46) rfl) rfl
theorem jw_2447 : (Jvm.Cond.code ({ cls := "CoinNodeModel$Tree", name := "row", desc := "(II)I" } : Jvm.MethodName) prog_20_method_27_code (6 : Nat) (Option.some Jvm.ClassFile.FieldType.int)) ∈ jws := jws_11 (List.mem_of_getElem? (i := 47) rfl) rfl
theorem jw_2448 : (Jvm.Cond.methodLink "CoinNodeModel" (497 : Nat) ({ cls := "CoinNodeModel", name := "isList", desc := "(IIII)Z" } : Jvm.MethodName)) ∈ jws := jws_11 (List.mem_of_getElem? (i := 48) rfl) rfl
theorem jw_2450 : (Jvm.Cond.instanceMethod ({ cls := "CoinNodeModel", name := "isList", desc := "(IIII)Z" } : Jvm.MethodName)) ∈ jws := jws_11 (List.mem_of_getElem? (i := 50) rfl) rfl
theorem jw_2451 : (Jvm.Cond.code ({ cls := "CoinNodeModel", name := "isList", desc := "(IIII)Z" } : Jvm.MethodName) prog_14_method_48_code (7 : Nat) (Option.some Jvm.ClassFile.FieldType.boolean)) ∈ jws := jws_11 (List.mem_of_getElem? (i := 51) rfl) rfl
theorem jw_2452 : (Jvm.Cond.methodLink "CoinNodeModel" (501 : Nat) ({ cls := "CoinNodeModel", name := "heads", desc := "(II)V" } : Jvm.MethodName)) ∈ jws := jws_11 (List.mem_of_getElem? (i := 52) rfl) rfl
theorem jw_2454 : (Jvm.Cond.instanceMethod ({ cls := "CoinNodeModel", name := "heads", desc := "(II)V" } : Jvm.MethodName)) ∈ jws := jws_11 (List.mem_of_getElem? (i := 54) rfl) rfl
theorem jw_2455 : (Jvm.Cond.code ({ cls := "CoinNodeModel", name := "heads", desc := "(II)V" } : Jvm.MethodName) prog_14_method_45_code (6 : Nat) (Option.none : Option Jvm.ClassFile.FieldType)) ∈ jws := jws_11 (List.mem_of_getElem? (i := 55) rfl) rfl
theorem jw_2456 : (Jvm.Cond.methodLink "CoinNodeModel" (504 : Nat) ({ cls := "CoinNodeModel", name := "give", desc := "(II)V" } : Jvm.MethodName)) ∈ jws := jws_11 (List.mem_of_getElem? (i := 56) rfl) rfl
theorem jw_2458 : (Jvm.Cond.instanceMethod ({ cls := "CoinNodeModel", name := "give", desc := "(II)V" } : Jvm.MethodName)) ∈ jws := jws_11 (List.mem_of_getElem? (i := 58) rfl) rfl
theorem jw_2459 : (Jvm.Cond.code ({ cls := "CoinNodeModel", name := "give", desc := "(II)V" } : Jvm.MethodName) prog_14_method_46_code (8 : Nat) (Option.none : Option Jvm.ClassFile.FieldType)) ∈ jws := jws_11 (List.mem_of_getElem? (i := 59) rfl) rfl
theorem jw_2460 : (Jvm.Cond.methodLink "CoinNodeModel" (507 : Nat) ({ cls := "CoinNodeModel", name := "want", desc := "(II)V" } : Jvm.MethodName)) ∈ jws := jws_11 (List.mem_of_getElem? (i := 60) rfl) rfl
theorem jw_2462 : (Jvm.Cond.instanceMethod ({ cls := "CoinNodeModel", name := "want", desc := "(II)V" } : Jvm.MethodName)) ∈ jws := jws_11 (List.mem_of_getElem? (i := 62) rfl) rfl
theorem jw_2463 : (Jvm.Cond.code ({ cls := "CoinNodeModel", name := "want", desc := "(II)V" } : Jvm.MethodName) prog_14_method_47_code (6 : Nat) (Option.none : Option Jvm.ClassFile.FieldType)) ∈ jws := jws_11 (List.mem_of_getElem? (i := 63) rfl) rfl
theorem jw_2464 : (Jvm.Cond.methodLink "CoinNodeLaw" (27 : Nat) ({ cls := "CoinNodeModel", name := "fetch", desc := "(I)J" } : Jvm.MethodName)) ∈ jws := jws_11 (List.mem_of_getElem? (i := 64) rfl) rfl
theorem jw_2465 : (Jvm.Cond.instanceMethod ({ cls := "CoinNodeModel", name := "fetch", desc := "(I)J" } : Jvm.MethodName)) ∈ jws := jws_11 (List.mem_of_getElem? (i := 65) rfl) rfl
theorem jw_2466 : (Jvm.Cond.selects "CoinNodeModel" ({ cls := "CoinNodeModel", name := "fetch", desc := "(I)J" } : Jvm.MethodName) ({ cls := "CoinNodeModel", name := "fetch", desc := "(I)J" } : Jvm.MethodName)) ∈ jws := jws_11 (List.mem_of_getElem? (i := 66) rfl) rfl
theorem jw_2467 : (Jvm.Cond.code ({ cls := "CoinNodeModel", name := "fetch", desc := "(I)J" } : Jvm.MethodName) prog_14_method_54_code (6 : Nat) (Option.some Jvm.ClassFile.FieldType.long)) ∈ jws := jws_11 (List.mem_of_getElem? (i := 67) rfl) rfl
theorem jw_2468 : (Jvm.Cond.methodLink "CoinNodeLaw" (32 : Nat) ({ cls := "CoinNodeModel", name := "block", desc := "(II)J" } : Jvm.MethodName)) ∈ jws := jws_11 (List.mem_of_getElem? (i := 68) rfl) rfl
theorem jw_2469 : (Jvm.Cond.instanceMethod ({ cls := "CoinNodeModel", name := "block", desc := "(II)J" } : Jvm.MethodName)) ∈ jws := jws_11 (List.mem_of_getElem? (i := 69) rfl) rfl
theorem jw_2470 : (Jvm.Cond.selects "CoinNodeModel" ({ cls := "CoinNodeModel", name := "block", desc := "(II)J" } : Jvm.MethodName) ({ cls := "CoinNodeModel", name := "block", desc := "(II)J" } : Jvm.MethodName)) ∈ jws := jws_11 (List.mem_of_getElem? (i := 70) rfl) rfl
theorem jw_2471 : (Jvm.Cond.code ({ cls := "CoinNodeModel", name := "block", desc := "(II)J" } : Jvm.MethodName) prog_14_method_55_code (7 : Nat) (Option.some Jvm.ClassFile.FieldType.long)) ∈ jws := jws_11 (List.mem_of_getElem? (i := 71) rfl) rfl
theorem jw_2472 : (Jvm.Cond.methodLink "CoinNodeLaw" (39 : Nat) ({ cls := "CoinNodeModel", name := "key", desc := "(JJJJI)V" } : Jvm.MethodName)) ∈ jws := jws_11 (List.mem_of_getElem? (i := 72) rfl) rfl
theorem jw_2473 : (Jvm.Cond.instanceMethod ({ cls := "CoinNodeModel", name := "key", desc := "(JJJJI)V" } : Jvm.MethodName)) ∈ jws := jws_11 (List.mem_of_getElem? (i := 73) rfl) rfl
theorem jw_2474 : (Jvm.Cond.selects "CoinNodeModel" ({ cls := "CoinNodeModel", name := "key", desc := "(JJJJI)V" } : Jvm.MethodName) ({ cls := "CoinNodeModel", name := "key", desc := "(JJJJI)V" } : Jvm.MethodName)) ∈ jws := jws_11 (List.mem_of_getElem? (i := 74) rfl) rfl
theorem jw_2475 : (Jvm.Cond.code ({ cls := "CoinNodeModel", name := "key", desc := "(JJJJI)V" } : Jvm.MethodName) prog_14_method_56_code (13 : Nat) (Option.none : Option Jvm.ClassFile.FieldType)) ∈ jws := jws_11 (List.mem_of_getElem? (i := 75) rfl) rfl
theorem jw_2476 : (Jvm.Cond.methodLink "CoinNodeLaw" (44 : Nat) ({ cls := "CoinNodeModel", name := "value", desc := "()J" } : Jvm.MethodName)) ∈ jws := jws_11 (List.mem_of_getElem? (i := 76) rfl) rfl
theorem jw_2477 : (Jvm.Cond.instanceMethod ({ cls := "CoinNodeModel", name := "value", desc := "()J" } : Jvm.MethodName)) ∈ jws := jws_11 (List.mem_of_getElem? (i := 77) rfl) rfl
theorem jw_2478 : (Jvm.Cond.selects "CoinNodeModel" ({ cls := "CoinNodeModel", name := "value", desc := "()J" } : Jvm.MethodName) ({ cls := "CoinNodeModel", name := "value", desc := "()J" } : Jvm.MethodName)) ∈ jws := jws_11 (List.mem_of_getElem? (i := 78) rfl) rfl
theorem jw_2479 : (Jvm.Cond.code ({ cls := "CoinNodeModel", name := "value", desc := "()J" } : Jvm.MethodName) prog_14_method_57_code (2 : Nat) (Option.some Jvm.ClassFile.FieldType.long)) ∈ jws := jws_11 (List.mem_of_getElem? (i := 79) rfl) rfl
theorem jw_2480 : (Jvm.Cond.methodLink "CoinNodeLaw" (48 : Nat) ({ cls := "CoinNodeModel", name := "total", desc := "()J" } : Jvm.MethodName)) ∈ jws := jws_11 (List.mem_of_getElem? (i := 80) rfl) rfl
theorem jw_2481 : (Jvm.Cond.instanceMethod ({ cls := "CoinNodeModel", name := "total", desc := "()J" } : Jvm.MethodName)) ∈ jws := jws_11 (List.mem_of_getElem? (i := 81) rfl) rfl
theorem jw_2482 : (Jvm.Cond.selects "CoinNodeModel" ({ cls := "CoinNodeModel", name := "total", desc := "()J" } : Jvm.MethodName) ({ cls := "CoinNodeModel", name := "total", desc := "()J" } : Jvm.MethodName)) ∈ jws := jws_11 (List.mem_of_getElem? (i := 82) rfl) rfl
theorem jw_2483 : (Jvm.Cond.code ({ cls := "CoinNodeModel", name := "total", desc := "()J" } : Jvm.MethodName) prog_14_method_58_code (4 : Nat) (Option.some Jvm.ClassFile.FieldType.long)) ∈ jws := jws_11 (List.mem_of_getElem? (i := 83) rfl) rfl
theorem jw_2484 : (Jvm.Cond.methodLink "CoinNodeLaw" (53 : Nat) ({ cls := "CoinNodeModel", name := "count", desc := "(I)I" } : Jvm.MethodName)) ∈ jws := jws_11 (List.mem_of_getElem? (i := 84) rfl) rfl
theorem jw_2485 : (Jvm.Cond.instanceMethod ({ cls := "CoinNodeModel", name := "count", desc := "(I)I" } : Jvm.MethodName)) ∈ jws := jws_11 (List.mem_of_getElem? (i := 85) rfl) rfl
theorem jw_2486 : (Jvm.Cond.selects "CoinNodeModel" ({ cls := "CoinNodeModel", name := "count", desc := "(I)I" } : Jvm.MethodName) ({ cls := "CoinNodeModel", name := "count", desc := "(I)I" } : Jvm.MethodName)) ∈ jws := jws_11 (List.mem_of_getElem? (i := 86) rfl) rfl
theorem jw_2487 : (Jvm.Cond.code ({ cls := "CoinNodeModel", name := "count", desc := "(I)I" } : Jvm.MethodName) prog_14_method_59_code (4 : Nat) (Option.some Jvm.ClassFile.FieldType.int)) ∈ jws := jws_11 (List.mem_of_getElem? (i := 87) rfl) rfl
theorem jw_2488 : (Jvm.Cond.methodLink "CoinNodeLaw" (57 : Nat) ({ cls := "CoinNodeModel", name := "fees", desc := "()J" } : Jvm.MethodName)) ∈ jws := jws_11 (List.mem_of_getElem? (i := 88) rfl) rfl
theorem jw_2489 : (Jvm.Cond.instanceMethod ({ cls := "CoinNodeModel", name := "fees", desc := "()J" } : Jvm.MethodName)) ∈ jws := jws_11 (List.mem_of_getElem? (i := 89) rfl) rfl
theorem jw_2490 : (Jvm.Cond.selects "CoinNodeModel" ({ cls := "CoinNodeModel", name := "fees", desc := "()J" } : Jvm.MethodName) ({ cls := "CoinNodeModel", name := "fees", desc := "()J" } : Jvm.MethodName)) ∈ jws := jws_11 (List.mem_of_getElem? (i := 90) rfl) rfl
theorem jw_2491 : (Jvm.Cond.code ({ cls := "CoinNodeModel", name := "fees", desc := "()J" } : Jvm.MethodName) prog_14_method_60_code (4 : Nat) (Option.some Jvm.ClassFile.FieldType.long)) ∈ jws := jws_11 (List.mem_of_getElem? (i := 91) rfl) rfl
theorem jw_2492 : (Jvm.Cond.constantLong "CoinNodeLaw" (33 : Nat) (4294967295 : Int64)) ∈ jws := jws_11 (List.mem_of_getElem? (i := 92) rfl) rfl
def jnF : List (String × Nat × String × String × String × String) := [("CoinNodeModel", 265, "CoinNodeModel$Signing", "tx", "LCoinNodeModel$Tx;", "CoinNodeModel"), ("CoinNodeModel", 266, "CoinNodeModel$Signing", "input", "I", "CoinNodeModel"), ("CoinNodeModel", 269, "CoinNodeModel$Signing", "lockFrom", "[B", "CoinNodeModel"), ("CoinNodeModel", 272, "CoinNodeModel$Signing", "lockAt", "I", "CoinNodeModel"), ("CoinNodeModel", 275, "CoinNodeModel$Signing", "lockSize", "I", "CoinNodeModel"), ("CoinNodeModel", 330, "CoinNodeModel$Scripts", "left", "I", "CoinNodeModel"), ("CoinNodeModel$Signing", 35, "CoinNodeModel$Tx", "from", "[B", "CoinNodeModel"), ("CoinNodeModel", 197, "CoinNodeModel$Tx", "from", "[B", "CoinNodeModel"), ("CoinNodeModel$Signing", 40, "CoinNodeModel$Tx", "at", "I", "CoinNodeModel"), ("CoinNodeModel", 225, "CoinNodeModel$Tx", "at", "I", "CoinNodeModel"), ("CoinNodeModel$Signing", 86, "CoinNodeModel$Tx", "place", "I", "CoinNodeModel"), ("CoinNodeModel$Signing", 47, "CoinNodeModel$Tx", "inputs", "I", "CoinNodeModel"), ("CoinNodeModel", 194, "CoinNodeModel$Tx", "inputs", "I", "CoinNodeModel"), ("CoinNodeModel$Signing", 73, "CoinNodeModel$Tx", "outputs", "I", "CoinNodeModel"), ("CoinNodeModel", 213, "CoinNodeModel$Tx", "outputs", "I", "CoinNodeModel"), ("CoinNodeModel$Signing", 57, "CoinNodeModel$Tx", "names", "[I", "CoinNodeModel"), ("CoinNodeModel", 200, "CoinNodeModel$Tx", "names", "[I", "CoinNodeModel"), ("CoinNodeModel", 202, "CoinNodeModel$Tx", "indexes", "[J", "CoinNodeModel"), ("CoinNodeModel", 281, "CoinNodeModel$Tx", "scripts", "[I", "CoinNodeModel"), ("CoinNodeModel", 283, "CoinNodeModel$Tx", "scriptSizes", "[I", "CoinNodeModel"), ("CoinNodeModel$Signing", 70, "CoinNodeModel$Tx", "sequences", "[I", "CoinNodeModel"), ("CoinNodeModel$Signing", 76, "CoinNodeModel$Tx", "values", "[J", "CoinNodeModel"), ("CoinNodeModel", 216, "CoinNodeModel$Tx", "values", "[J", "CoinNodeModel"), ("CoinNodeModel$Signing", 83, "CoinNodeModel$Tx", "locks", "[I", "CoinNodeModel"), ("CoinNodeModel", 219, "CoinNodeModel$Tx", "locks", "[I", "CoinNodeModel"), ("CoinNodeModel$Signing", 80, "CoinNodeModel$Tx", "lockSizes", "[I", "CoinNodeModel"), ("CoinNodeModel", 222, "CoinNodeModel$Tx", "lockSizes", "[I", "CoinNodeModel")]
def jnM : List (String × Nat × MethodName × String) := [("CoinNode", 33, ⟨"CoinNode$Hash", "<init>", "()V"⟩, "CoinNode"), ("CoinNode$Signature", 58, ⟨"CoinNode$Point", "<init>", "()V"⟩, "CoinNode"), ("CoinNode$Machine", 13, ⟨"CoinNode$Stack", "<init>", "()V"⟩, "CoinNode"), ("CoinNode", 49, ⟨"CoinNode$Coins", "<init>", "()V"⟩, "CoinNode"), ("CoinNodeModel", 9, ⟨"CoinNodeModel$Hashes", "<init>", "()V"⟩, "CoinNodeModel"), ("CoinNodeModel", 46, ⟨"CoinNodeModel$Tx", "<init>", "()V"⟩, "CoinNodeModel"), ("CoinNodeModel$Tx", 91, ⟨"CoinNodeModel", "like", "([BI[BII)Z"⟩, "CoinNodeModel")]
def jnA : List FieldType := [(Jvm.ClassFile.FieldType.array Jvm.ClassFile.FieldType.byte), (Jvm.ClassFile.FieldType.array Jvm.ClassFile.FieldType.int), (Jvm.ClassFile.FieldType.array Jvm.ClassFile.FieldType.long), (Jvm.ClassFile.FieldType.object "CoinNode$Point"), (Jvm.ClassFile.FieldType.object "CoinNode$Tx"), (Jvm.ClassFile.FieldType.object "CoinNode$Block")]
end
section
/-! The abstract heap: kinds (a tag and a length), ints, longs, references, the next reference, the slots made. -/
abbrev jH : Type := (Nat → Nat × Nat) × (Nat → Nat → Int32) × (Nat → Nat → Int64) × (Nat → Nat → Nat) × Nat × Nat × (Nat → Nat → UInt8)
def jK (H : jH) : Nat → Nat × Nat := H.1
def jI (H : jH) : Nat → Nat → Int32 := H.2.1
def jL (H : jH) : Nat → Nat → Int64 := H.2.2.1
def jR (H : jH) : Nat → Nat → Nat := H.2.2.2.1
def jn (H : jH) : Nat := H.2.2.2.2.1
def js (H : jH) : Nat := H.2.2.2.2.2.1
def jB (H : jH) : Nat → Nat → UInt8 := H.2.2.2.2.2.2
/-- a byte as an int, and the byte that an int leaves -/
def jbs (u : UInt8) : Int32 := u.toInt8.toInt32
def jbu (x : Int32) : UInt8 := x.toInt8.toUInt8
def jup {α : Type} (f : Nat → Nat → α) (a i : Nat) (v : α) : Nat → Nat → α := fun b j => if b = a ∧ j = i then v else f b j
def jsI (H : jH) (a i : Nat) (v : Int32) : jH := (jK H, jup (jI H) a i v, jL H, jR H, jn H, js H, jB H)
def jsL (H : jH) (a i : Nat) (v : Int64) : jH := (jK H, jI H, jup (jL H) a i v, jR H, jn H, js H, jB H)
def jsR (H : jH) (a i : Nat) (v : Nat) : jH := (jK H, jI H, jL H, jup (jR H) a i v, jn H, js H, jB H)
def jsB (H : jH) (a i : Nat) (v : UInt8) : jH := (jK H, jI H, jL H, jR H, jn H, js H, jup (jB H) a i v)
def jz {α : Type} (f : Nat → Nat → α) (a : Nat) (z : α) : Nat → Nat → α := fun b j => if b = a then z else f b j
def jnew (H : jH) (t k : Nat) : jH := (fun b => if b = jn H then (t, k) else jK H b, jz (jI H) (jn H) 0, jz (jL H) (jn H) 0, jz (jR H) (jn H) 0, jn H + 1, js H + k, jz (jB H) (jn H) 0)
def jF0 : Nat := 32
/-- the component's type of an array, by its tag -/
def jty : Nat → FieldType
  | 100 => .int
  | 101 => .byte
  | 102 => .boolean
  | 103 => .long
  | 110 => .array .byte
  | 111 => .array .int
  | 112 => .array .long
  | 113 => .object "CoinNode$Tx"
  | 114 => .object "CoinNode$Block"
  | 115 => .object "CoinNode$Point"
  | _ => .float
def jtags : List Nat := [100, 101, 102, 103, 110, 111, 112, 113, 114, 115]
/-- whether a value is an int (0), a long (1) or a reference (2), by its type -/
def jkd : FieldType → Nat
  | .long => 1
  | .object _ => 2
  | .array _ => 2
  | .byte => 3
  | _ => 0
def jfd (d : String) : Nat := match parseFieldDescriptor d with
  | some t => jkd t
  | none => 0
abbrev jG : Type := Nat × (Nat → Nat) × va_G × (Nat → ClassId)
def jad (G : jG) (a : Nat) : Nat := if a < jF0 then G.2.1 a else G.1 + (a - jF0)
def jrv (G : jG) (r : Nat) : Value := if r = 0 then .null else .ref (jad G r)
/-- an abstract value: a reference by its number, 0 null -/
def jv (G : jG) : Value → Value
  | .ref r => jrv G r
  | v => v
def jcv (G : jG) (H : jH) (a j : Nat) (k : Nat) : Value := if k = 0 then .int (jI H a j) else if k = 1 then .long (jL H a j) else if k = 2 then jrv G (jR H a j) else .int (jbs (jB H a j))
def jcell (G : jG) (H : jH) (Hr : Heap) (a : Nat) : Prop :=
  (∃ q : vw_C, jcl[(jK H a).1]? = some q ∧ (jK H a).2 = q.2.2 ∧ t_OB (jad G a) (G.2.2.1.1 (jK H a).1) q.2.2 (G.2.2.1.2 (jK H a).1) Hr (fun k => jcv G H a k (jfd (q.2.1 k).2.2.1))) ∨
  ((jK H a).1 ∈ jtags ∧ jcl[(jK H a).1]? = none ∧ Hr[jad G a]? = some (arrV (G.2.2.2 (jK H a).1) (jK H a).2 (fun j => jcv G H a j (jkd (jty (jK H a).1)))))
def jpre (G : jG) (H : jH) (U : State) (Hr : Heap) (a : Nat) : Prop :=
  ∃ cell : Cell, Hr[G.2.1 a]? = some cell ∧ U.isArrayOf cell .int ∧ cell.vm ≠ .unknown ∧ (jK H a).2 ≤ cell.slots.size ∧ cell.slots.size.toInt32 = Int32.ofNat (jK H a).2 ∧ (∀ j : Nat, j < (jK H a).2 → cell.slots[j]? = some (.int (jI H a j))) ∧ G.2.1 a < G.1
def jA (G : jG) : Nat → Prop := fun q => G.1 ≤ q
/-- the static arrays: their references, class and name -/
abbrev jsts : List (Nat × String × String) := [(1, "CoinNode$Hash", "START"), (2, "CoinNode$Hash", "ROUNDS"), (3, "CoinNode$Hash", "WORD"), (4, "CoinNode$Hash", "TURN"), (5, "CoinNode$Hash", "ADDED"), (6, "CoinNode$Machine", "MOVES"), (7, "CoinNode$Signature", "PRIME"), (8, "CoinNode$Signature", "ORDER"), (9, "CoinNode$Signature", "OVER"), (10, "CoinNode$Signature", "BASE_X"), (11, "CoinNode$Signature", "BASE_Y"), (12, "CoinNode$Point", "ROOT"), (13, "CoinNodeModel$Hashes", "CUBES"), (14, "CoinNodeModel$Hashes", "WORDS"), (15, "CoinNodeModel$Hashes", "OTHERS"), (16, "CoinNodeModel$Hashes", "TURNS"), (17, "CoinNodeModel$Hashes", "OTHER_TURNS")]
def jAOA (t : FieldType) (U : State) : Prop := (Cond.arrayOver (.array t)).before #[] U = true
/-- words that a call keeps, but that are no words of a method's own -/
def jNw (U : State) : Prop := (∀ q ∈ jnF, va_Nw (.fieldLinkNest q.1 q.2.1 q.2.2.1 q.2.2.2.1 q.2.2.2.2.1 q.2.2.2.2.2) U) ∧ (∀ q ∈ jnM, va_Nw (.methodLinkNest q.1 q.2.1 q.2.2.1 q.2.2.2) U) ∧ ((∀ q ∈ ["CoinNode$Tx", "CoinNode$Block", "CoinNode$Point"], va_AO q U) ∧ jAOA .byte U ∧ jAOA .int U ∧ jAOA .long U) ∧
  va_Nw (.castable "[B" "java/lang/Cloneable") U ∧ va_Fw "CoinNodeModel$Signing" ⟨"CoinNodeModel$Asker", "fits", "([BI[BI)Z"⟩ ⟨"CoinNodeModel$Signing", "fits", "([BI[BI)Z"⟩ U
def jRel (G : jG) (H : jH) (U : State) (Hr : Heap) : Prop :=
  Hr.size + jF0 = G.1 + jn H ∧ jF0 ≤ jn H ∧ (∀ a, (jK H a).1 ≠ 99 → a < jn H ∧ (a < jF0 → (jK H a).1 = 100 ∧ jpre G H U Hr a) ∧ (jF0 ≤ a → jcell G H Hr a)) ∧ (jK H 0).1 = 99 ∧
  va_K G.2.2.1 jcl (jtags.map (fun t => (G.2.2.2 t, jty t))) U ∧ (∀ q ∈ jsts, va_Z q.2.1 q.2.2 "[I" (.ref (G.2.1 q.1)) (jA G) U Hr)
/-- a method: its code as a number and its size, the locals' number, its class, its answer's type, its name, the frames and locals that it needs -/
abbrev jM : Type := Nat × Nat × Nat × String × Option FieldType × String × Nat × Nat
/-- a walk's fixed things -/
abbrev jX : Type := (Program × Launch × Env × State) × (MethodId × Array Value × List Frame × Method × Code) × jG × jH
def jQ (G : jG) (v : Option Value) (H' : jH) : Array Value → State → Outcome → State → Prop := fun _ st oc t => oc = .returned (v.map (jv G)) ∧ jRel G H' t t.heap ∧ va_F (jA G) st t
/-- the locals: what a look-up finds is there -/
def jLoc (G : jG) (la : Array Slot) (nL : Nat) (ls : List (Nat × Value)) : Prop := la.size = nL ∧ lv_wf la ∧ ∀ (i : Nat) (v : Value), ls.lookup i = some v → la[i]? = some (.val (jv G v))
def jstk (G : jG) (st : List Value) : List Value := st.map (jv G)
def jroom (f k n o : Nat) : Room := { frames := f, cells := k, slots := n, locals := o }
def jC (mi : jM) (c : jX) : Prop :=
  c.1.1.tables.exec = Jvm.exec ∧ jn_is c.2.1.2.2.2.2.code mi.1 mi.2.1 ∧ c.2.1.2.2.2.2.maxLocals = mi.2.2.1 ∧ c.1.2.2.2.vm.findClass mi.2.2.2.1 = some c.2.1.1.cls ∧ c.2.1.2.2.2.1.sig.returnType = mi.2.2.2.2.1 ∧ c.2.1.2.2.2.1.name = mi.2.2.2.2.2.1 ∧
  c.2.1.2.2.2.1.locks = false ∧ (∀ w ∈ jws, w.before c.2.1.2.1 c.1.2.2.2 = true) ∧ jRel c.2.2.1 c.2.2.2 c.1.2.2.2 c.1.2.2.2.heap ∧ jNw c.1.2.2.2
def JV (l : Launch) (mi : jM) {α : Type} (emb : α → Option Value) (pc : Nat) (ls : List (Nat × Value)) (st : List Value) (H : jH) (o : Option (α × jH)) : Prop :=
  ∀ (r : α) (H' : jH), o = some (r, H') → (jn H ≤ jn H' ∧ js H ≤ js H') ∧ ∀ c : jX, jC mi c → c.1.2.1 = l → jn c.2.2.2 ≤ jn H → js c.2.2.2 ≤ js H →
    ∀ (Hr : Heap) (la : Array Slot) (locs : List Loc), jRel c.2.2.1 H c.1.2.2.2 Hr → va_S (jA c.2.2.1) c.1.2.2.2.heap Hr locs → jLoc c.2.2.1 la mi.2.2.1 ls →
      W c.1.1 c.1.2.1 c.1.2.2.1 (jroom mi.2.2.2.2.2.2.1 (jn H' - jn c.2.2.2) (js H' - js c.2.2.2) mi.2.2.2.2.2.2.2) c.1.2.2.2 c.2.1.1 c.2.1.2.1 c.2.1.2.2.1 c.2.1.2.2.2.1 c.2.1.2.2.2.2 Hr locs (jn H - jn c.2.2.2) (js H - js c.2.2.2)
        (MQ c.2.1.2.2.1 (jQ c.2.2.1 (emb r) H') c.2.1.2.1 c.1.2.2.2 (jn H' - jn c.2.2.2) (js H' - js c.2.2.2) (jA c.2.2.1)) (F0 c.2.1.1 pc la (jstk c.2.2.1 st))
end
section
theorem jcl_lt {t : Nat} {q : vw_C} (h : jcl[t]? = some q) : t < 19 := (List.getElem?_eq_some_iff.mp h).1
theorem jtag_ge {t : Nat} (h : t ∈ jtags) : 100 ≤ t := by
  simp only [jtags, List.mem_cons, List.not_mem_nil, or_false] at h
  omega
theorem jcl_none {t : Nat} (h : 19 ≤ t) : jcl[t]? = none := List.getElem?_eq_none h
theorem jad_own {G : jG} {a : Nat} (h : jF0 ≤ a) : jad G a = G.1 + (a - jF0) := if_neg (Nat.not_lt.mpr h)
theorem jad_inj {G : jG} {a b : Nat} (ha : jF0 ≤ a) (hb : jF0 ≤ b) (h : jad G a = jad G b) : a = b := by
  rw [jad_own ha, jad_own hb] at h
  omega
theorem jad_A {G : jG} {a : Nat} (h : jF0 ≤ a) : jA G (jad G a) := by
  rw [jad_own h]
  exact Nat.le_add_right _ _
theorem jcv_congr {G : jG} {H H2 : jH} {a j k : Nat} (h1 : jI H2 a j = jI H a j) (h2 : jL H2 a j = jL H a j) (h3 : jR H2 a j = jR H a j) (h4 : jB H2 a j = jB H a j) : jcv G H2 a j k = jcv G H a j k := by
  unfold jcv
  rw [h1, h2, h3, h4]
theorem jcell_congr {G : jG} {H H2 : jH} {Hr Hr2 : Heap} {a : Nat} (h : jcell G H Hr a) (hk : jK H2 a = jK H a) (hv : ∀ j k, jcv G H2 a j k = jcv G H a j k) (hq : Hr2[jad G a]? = Hr[jad G a]?) : jcell G H2 Hr2 a := by
  unfold jcell at h ⊢
  rw [hk]
  rcases h with ⟨q, h1, h2, h3⟩ | ⟨h1, h2, h3⟩
  · exact Or.inl ⟨q, h1, h2, (h3.kept hq).to fun k _ => (hv k _).symm⟩
  · refine Or.inr ⟨h1, h2, ?_⟩
    rw [hq, h3]
    simp only [hv]
/-- one own cell changes, its kind stays -/
theorem jrel_upd {G : jG} {H H2 : jH} {U : State} {Hr Hr2 : Heap} {o : Nat} (hR : jRel G H U Hr) (ho : jF0 ≤ o) (hsz : Hr2.size = Hr.size) (hoff : ∀ q, q ≠ jad G o → Hr2[q]? = Hr[q]?)
    (hK : jK H2 = jK H) (hn : jn H2 = jn H) (hv : ∀ a, a ≠ o → ∀ j, jI H2 a j = jI H a j ∧ jL H2 a j = jL H a j ∧ jR H2 a j = jR H a j ∧ jB H2 a j = jB H a j) (hc : jcell G H2 Hr2 o) : jRel G H2 U Hr2 := by
  obtain ⟨r1, r2, r3, r4, r5, r6⟩ := hR
  refine ⟨by rw [hsz, hn]; exact r1, by rw [hn]; exact r2, fun a ha => ?_, by rw [hK]; exact r4, r5, fun q hq => ?_⟩
  · rw [hK] at ha
    obtain ⟨s1, s2, s3⟩ := r3 a ha
    refine ⟨by rw [hn]; exact s1, fun hlt => ?_, fun hge => ?_⟩
    · obtain ⟨t1, cell, t2, t3, t4, t5, t6, t7, t8⟩ := s2 hlt
      have hne : a ≠ o := by omega
      refine ⟨by rw [hK]; exact t1, cell, ?_, t3, t4, by rw [hK]; exact t5, by rw [hK]; exact t6, fun j hj => ?_, t8⟩
      · rw [hoff _ (by rw [jad_own ho]; omega)]
        exact t2
      · rw [hK] at hj
        rw [(hv a hne j).1]
        exact t7 j hj
    · by_cases hao : a = o
      · subst hao
        exact hc
      · exact jcell_congr (s3 hge) (by rw [hK]) (fun j k => jcv_congr (hv a hao j).1 (hv a hao j).2.1 (hv a hao j).2.2.1 (hv a hao j).2.2.2) (hoff _ fun e => hao (jad_inj hge ho e))
  · refine (r6 q hq).kept fun a ha hA => hoff a fun e => hA ?_
    rw [e]
    exact jad_A ho
/-- a new cell -/
theorem jrel_new {G : jG} {H : jH} {U : State} {Hr Hr2 : Heap} {t k : Nat} (hR : jRel G H U Hr) (ht : t ≠ 99) (hsz : Hr2.size = Hr.size + 1) (hoff : ∀ q, q < Hr.size → Hr2[q]? = Hr[q]?)
    (hc : jcell G (jnew H t k) Hr2 (jn H)) : jRel G (jnew H t k) U Hr2 := by
  obtain ⟨r1, r2, r3, r4, r5, r6⟩ := hR
  have hn : jn (jnew H t k) = jn H + 1 := rfl
  have hKn : ∀ b, b ≠ jn H → jK (jnew H t k) b = jK H b := fun b hb => if_neg hb
  refine ⟨by rw [hsz, hn]; omega, by rw [hn]; omega, fun a ha => ?_, by rw [hKn 0 (by unfold jF0 at r2; omega)]; exact r4, r5, fun q hq => ?_⟩
  · by_cases hao : a = jn H
    · subst hao
      exact ⟨by rw [hn]; omega, fun h => by omega, fun _ => hc⟩
    · rw [hKn a hao] at ha
      obtain ⟨s1, s2, s3⟩ := r3 a ha
      have hI : ∀ j, jI (jnew H t k) a j = jI H a j := fun j => if_neg hao
      have hL : ∀ j, jL (jnew H t k) a j = jL H a j := fun j => if_neg hao
      have hRr : ∀ j, jR (jnew H t k) a j = jR H a j := fun j => if_neg hao
      have hBr : ∀ j, jB (jnew H t k) a j = jB H a j := fun j => if_neg hao
      refine ⟨by rw [hn]; omega, fun hlt => ?_, fun hge => ?_⟩
      · obtain ⟨t1, cell, t2, t3, t4, t5, t6, t7, t8⟩ := s2 hlt
        refine ⟨by rw [hKn a hao]; exact t1, cell, ?_, t3, t4, by rw [hKn a hao]; exact t5, by rw [hKn a hao]; exact t6, fun j hj => ?_, t8⟩
        · rw [hoff _ (Array.getElem?_eq_some_iff.mp t2).1]
          exact t2
        · rw [hKn a hao] at hj
          rw [hI]
          exact t7 j hj
      · refine jcell_congr (s3 hge) (hKn a hao) (fun j k => jcv_congr (hI j) (hL j) (hRr j) (hBr j)) (hoff _ ?_)
        rw [jad_own hge]
        omega
  · exact (r6 q hq).kept fun a ha _ => hoff a ha
theorem jrel_moved {G : jG} {H : jH} {u U : State} {Hr : Heap} (hvm : u.vm.Alike U.vm) (hR : jRel G H u Hr) : jRel G H U Hr := by
  obtain ⟨r1, r2, r3, r4, r5, r6⟩ := hR
  refine ⟨r1, r2, fun a ha => ?_, r4, va_K.moved hvm r5, fun q hq => (r6 q hq).moved hvm⟩
  obtain ⟨s1, s2, s3⟩ := r3 a ha
  refine ⟨s1, fun hlt => ?_, s3⟩
  obtain ⟨t1, cell, t2, t3, t4⟩ := s2 hlt
  exact ⟨t1, cell, t2, State.isArrayOf_alike hvm t3, t4⟩
/-- an object -/
theorem jrel_obj {G : jG} {H : jH} {U : State} {Hr : Heap} {o t : Nat} {q : vw_C} (hR : jRel G H U Hr) (ht : (jK H o).1 = t) (hq : jcl[t]? = some q) : jF0 ≤ o ∧ (jK H o).2 = q.2.2 ∧ t_OB (jad G o) (G.2.2.1.1 t) q.2.2 (G.2.2.1.2 t) Hr (fun k => jcv G H o k (jfd (q.2.1 k).2.2.1)) := by
  have hlt := jcl_lt hq
  obtain ⟨-, s2, s3⟩ := hR.2.2.1 o (by omega)
  have hge : jF0 ≤ o := by
    apply Nat.not_lt.mp
    intro h
    have := (s2 h).1
    omega
  refine ⟨hge, ?_⟩
  rcases s3 hge with ⟨q', h1, h2, h3⟩ | ⟨h1, -, -⟩
  · rw [ht] at h1 h3
    rw [h1] at hq
    cases hq
    exact ⟨h2, h3⟩
  · have := jtag_ge h1
    omega
/-- an own array -/
theorem jrel_arr {G : jG} {H : jH} {U : State} {Hr : Heap} {o t : Nat} (hR : jRel G H U Hr) (ht : (jK H o).1 = t) (hm : t ∈ jtags) (ho : jF0 ≤ o ∨ t ≠ 100) : jF0 ≤ o ∧ Hr[jad G o]? = some (arrV (G.2.2.2 t) (jK H o).2 (fun j => jcv G H o j (jkd (jty t)))) := by
  have hge := jtag_ge hm
  obtain ⟨-, s2, s3⟩ := hR.2.2.1 o (by omega)
  have hge2 : jF0 ≤ o := by
    rcases ho with h | h
    · exact h
    · apply Nat.not_lt.mp
      intro h2
      have := (s2 h2).1
      omega
  refine ⟨hge2, ?_⟩
  rcases s3 hge2 with ⟨q', h1, -, -⟩ | ⟨-, -, h3⟩
  · have := jcl_lt h1
    omega
  · rw [ht] at h3
    exact h3
theorem jrel_ty {G : jG} {H : jH} {U : State} {Hr : Heap} {t : Nat} (hR : jRel G H U Hr) (hm : t ∈ jtags) : ArrOfT U (G.2.2.2 t) (jty t) ∧ va_RA U (G.2.2.2 t) (jty t) := by
  obtain ⟨k, hk⟩ := List.getElem?_of_mem hm
  exact hR.2.2.2.2.1.2 k (G.2.2.2 t, jty t) (by rw [List.getElem?_map, hk]; rfl)
abbrev jin (i : Int32) (n : Nat) : Prop := 0 ≤ i.toInt ∧ i.toInt < n
theorem jin_vp {i : Int32} {n : Nat} (h : jin i n) : vp_in i n := vp_in_iff.mpr h
theorem jin_lt {i : Int32} {n : Nat} (h : jin i n) : i.toNatClampNeg < n := by
  have := jin_vp h
  exact Nat.not_le.mp fun q => this (Or.inr q)
theorem jLoc_at {G : jG} {la : Array Slot} {nL : Nat} {ls : List (Nat × Value)} {i : Nat} {v : Value} (h : jLoc G la nL ls) (hi : ls.lookup i = some v) : la[i]? = some (.val (jv G v)) := h.2.2 i v hi
/-- the list of what look-ups find -/
def jE (G : jG) (ls : List (Nat × Value)) : List (Nat × Value) := ls.filterMap (fun q => (ls.lookup q.1).map (fun v => (q.1, jv G v)))
theorem jLoc_has {G : jG} {la : Array Slot} {nL : Nat} {ls : List (Nat × Value)} (h : jLoc G la nL ls) : lv_has la nL (jE G ls) := by
  refine ⟨h.1, h.2.1, fun q hq => ?_⟩
  obtain ⟨q0, -, h2⟩ := List.mem_filterMap.mp hq
  cases hl : ls.lookup q0.1 with
  | none => rw [hl] at h2; cases h2
  | some v =>
    rw [hl] at h2
    cases h2
    exact h.2.2 _ _ hl
theorem jmem_lookup {ls : List (Nat × Value)} {i : Nat} {v : Value} (h : ls.lookup i = some v) : (i, v) ∈ ls := by
  induction ls with
  | nil => cases h
  | cons q l ih =>
    obtain ⟨a, b⟩ := q
    simp only [List.lookup] at h
    split at h
    · rename_i he
      have : i = a := by simpa using he
      cases h
      rw [this]
      exact List.mem_cons_self
    · exact List.mem_cons_of_mem _ (ih h)
theorem jE_mem {G : jG} {ls : List (Nat × Value)} {i : Nat} {v : Value} (h : ls.lookup i = some v) : (i, jv G v) ∈ jE G ls := by
  refine List.mem_filterMap.mpr ⟨(i, v), jmem_lookup h, ?_⟩
  show (ls.lookup i).map _ = _
  rw [h]
  rfl
theorem jv_cat (G : jG) (v : Value) : (jv G v).category = v.category := by
  cases v <;> try rfl
  unfold jv jrv
  simp only
  split <;> rfl
/-- no long stands at a place -/
def jnol (ls : List (Nat × Value)) (i : Nat) : Bool := match ls.lookup i with
  | some (.long _) => false
  | some (.double _) => false
  | _ => true
theorem jnol_cat {ls : List (Nat × Value)} {i : Nat} {v : Value} (h : jnol ls i = true) (hv : ls.lookup i = some v) : v.category ≠ 2 := by
  unfold jnol at h
  rw [hv] at h
  cases v <;> simp_all [Value.category]
/-- what a store of a value of one word leaves -/
theorem jLoc_store {G : jG} {la' : Array Slot} {nL i : Nat} {v : Value} {ls : List (Nat × Value)} (hn : i = 0 ∨ jnol ls (i - 1) = true)
    (h' : lv_has la' nL ((i, jv G v) :: (jE G ls).filter (fun q => !(q.1 == i) && !(q.1 + 1 == i && q.2.category == 2)))) : jLoc G la' nL ((i, v) :: ls) := by
  refine ⟨h'.1, h'.2.1, fun j w hj => ?_⟩
  simp only [List.lookup] at hj
  split at hj
  · rename_i he
    have : j = i := by simpa using he
    subst this
    cases hj
    exact h'.2.2 (j, _) List.mem_cons_self
  · rename_i he
    have hji : j ≠ i := by simpa using he
    refine h'.2.2 (j, jv G w) (List.mem_cons_of_mem _ (List.mem_filter.mpr ⟨jE_mem hj, ?_⟩))
    simp only [Bool.and_eq_true, Bool.not_eq_true', beq_eq_false_iff_ne, ne_eq, Bool.and_eq_false_iff]
    refine ⟨hji, ?_⟩
    by_cases h1 : j + 1 = i
    · right
      rcases hn with h0 | h0
      · omega
      · have : i - 1 = j := by omega
        rw [this] at h0
        show ¬ (jv G w).category = 2
        rw [jv_cat]
        exact jnol_cat h0 hj
    · exact Or.inl h1
/-- what a store of a long leaves -/
theorem jLoc_store2 {G : jG} {la' : Array Slot} {nL i : Nat} {v : Value} {ls : List (Nat × Value)} (hn : i = 0 ∨ jnol ls (i - 1) = true) (hn2 : ls.lookup (i + 1) = none)
    (h' : lv_has la' nL ((i, jv G v) :: (jE G ls).filter (fun q => !(q.1 == i) && (!(q.1 == i + 1) && !(q.1 + 1 == i && q.2.category == 2))))) : jLoc G la' nL ((i, v) :: ls) := by
  refine ⟨h'.1, h'.2.1, fun j w hj => ?_⟩
  simp only [List.lookup] at hj
  split at hj
  · rename_i he
    have : j = i := by simpa using he
    subst this
    cases hj
    exact h'.2.2 (j, _) List.mem_cons_self
  · rename_i he
    have hji : j ≠ i := by simpa using he
    have hji2 : j ≠ i + 1 := fun e => by rw [e, hn2] at hj; cases hj
    refine h'.2.2 (j, jv G w) (List.mem_cons_of_mem _ (List.mem_filter.mpr ⟨jE_mem hj, ?_⟩))
    simp only [Bool.and_eq_true, Bool.not_eq_true', beq_eq_false_iff_ne, ne_eq, Bool.and_eq_false_iff]
    refine ⟨hji, hji2, ?_⟩
    by_cases h1 : j + 1 = i
    · right
      rcases hn with h0 | h0
      · omega
      · have : i - 1 = j := by omega
        rw [this] at h0
        show ¬ (jv G w).category = 2
        rw [jv_cat]
        exact jnol_cat h0 hj
    · exact Or.inl h1
/-- fewer locals: each is found in the longer list -/
def jsub : List (Nat × Value) → List (Nat × Value) → Prop
  | [], _ => True
  | q :: t, ls => ls.lookup q.1 = some q.2 ∧ jsub t ls
theorem jsub_mem {l ls : List (Nat × Value)} (h : jsub l ls) : ∀ q ∈ l, ls.lookup q.1 = some q.2 := by
  induction l with
  | nil => intro q hq; cases hq
  | cons a t ih =>
    intro q hq
    rcases List.mem_cons.mp hq with e | e
    · rw [e]; exact h.1
    · exact ih h.2 q e
theorem jLoc_sub {G : jG} {la : Array Slot} {nL : Nat} {l ls : List (Nat × Value)} (h : jLoc G la nL ls) (hs : jsub l ls) : jLoc G la nL l :=
  ⟨h.1, h.2.1, fun i v hi => h.2.2 i v (jsub_mem hs (i, v) (jmem_lookup hi))⟩
end
section
theorem jAOA_moved {t : FieldType} {u U : State} (hvm : u.vm.Alike U.vm) (h : jAOA t u) : jAOA t U := by
  unfold jAOA at h ⊢
  simp only [Cond.before, Cond.holds, Cond.value] at h ⊢
  rw [hvm.findClass]
  cases hf : u.vm.findClass (FieldType.array t).toString with
  | none => rw [hf] at h; simp at h
  | some comp =>
    rw [hf] at h
    simp only [Option.bind_some] at h ⊢
    rw [hvm.findIdx_congr _ (fun _ _ _ _ => rfl)]
    refine Eq.trans (congrArg (fun o => o == some true) (congrArg (Option.bind _) (funext fun c => ?_))) h
    cases hk : u.vm.classes[c]? with
    | none =>
      cases hk' : U.vm.classes[c]? with
      | none => rfl
      | some k' =>
        obtain ⟨k, h1, -⟩ := hvm.symm.2.2 _ _ hk'
        rw [hk] at h1
        cases h1
    | some k =>
      obtain ⟨k', hk', ek⟩ := hvm.2.2 _ _ hk
      rw [hk', hvm.findClass]
      have ekind : k'.kind = k.kind := by rw [ek]
      simp only [Option.map_some, ekind]
theorem jNw_warm {s U : State} (hW : s.WarmedH U.vm) (h : jNw s) : jNw U := by
  obtain ⟨h1, h2, h3, h4, h5⟩ := h
  exact ⟨fun q hq => (h1 q hq).warmF hW, fun q hq => (h2 q hq).warmM hW, ⟨fun q hq => (h3.1 q hq).moved hW.alike, jAOA_moved hW.alike h3.2.1, jAOA_moved hW.alike h3.2.2.1, jAOA_moved hW.alike h3.2.2.2⟩, h4.warmC hW, h5.moved ⟨by decide +kernel, by decide +kernel⟩ hW.alike⟩
/-- the start of a method by contract -/
def jPc (G : jG) (av : List Value) (H : jH) : Array Value → State → Prop := fun a U => a = (av.map (jv G)).toArray ∧ jRel G H U U.heap ∧ jNw U
def JMet (l : Launch) (y : MethodName) (b : ByteArray) (mi : jM) {α : Type} (emb : α → Option Value) (av : List Value) (H : jH) (o : Option (α × jH)) : Prop :=
  ∀ (r : α) (H' : jH), o = some (r, H') → (jn H ≤ jn H' ∧ js H ≤ js H') ∧ ∀ G : jG,
    Met l y (.code y b mi.2.2.1 mi.2.2.2.2.1 :: jws) (jroom mi.2.2.2.2.2.2.1 (jn H' - jn H) (js H' - js H) mi.2.2.2.2.2.2.2) (jPc G av H) (jQ G (emb r) H') (jn H' - jn H) (js H' - js H) (jA G)
theorem jrel_calling {G : jG} {H : jH} {U : State} {Hr : Heap} (g : JFrame) (mk : MethodId) (a : Array Value) (h : jRel G H U Hr) : jRel G H (U.calling g mk a) Hr := jrel_moved (u := U) (U := U.calling g mk a) (Vm.Alike.refl U.vm) h
theorem jNw_same {u U : State} (h : u.vm = U.vm) (hn : jNw u) : jNw U := by
  obtain ⟨h1, h2, h3, h4, h5⟩ := hn
  exact ⟨fun q hq => (h1 q hq).same rfl h, fun q hq => (h2 q hq).same rfl h, ⟨fun q hq => (h3.1 q hq).moved (h ▸ Vm.Alike.refl u.vm), jAOA_moved (h ▸ Vm.Alike.refl u.vm) h3.2.1, jAOA_moved (h ▸ Vm.Alike.refl u.vm) h3.2.2.1, jAOA_moved (h ▸ Vm.Alike.refl u.vm) h3.2.2.2⟩, h4.same rfl h, h5.moved ⟨by decide +kernel, by decide +kernel⟩ (h ▸ Vm.Alike.refl u.vm)⟩
theorem jblind (G : jG) (av : List Value) (H : jH) : FrameBlind (jPc G av H) := by
  intro a U g mk h
  obtain ⟨h1, h2, h3⟩ := h
  exact ⟨h1, jrel_calling g mk a h2, jNw_same rfl h3⟩
theorem jargs_eq (G : jG) : ∀ (vs : List Value) (i : Nat), lv_args i (vs.map (jv G)) = (lv_args i vs).map (fun q => (q.1, jv G q.2))
  | [], _ => rfl
  | v :: vs, i => by
    simp only [List.map_cons, lv_args, jv_cat, jargs_eq G vs]
theorem jsl_len (G : jG) : ∀ (vs : List Value), (lg_sl (vs.map (jv G))).length = (lg_sl vs).length := by
  intro vs
  induction vs with
  | nil => rfl
  | cons v vs ih =>
    simp only [lg_sl, List.map_cons, List.flatMap_cons, List.length_append] at ih ⊢
    rw [ih, jv_cat]
    split <;> rfl
theorem jlookup_map (f : Value → Value) : ∀ (ls : List (Nat × Value)) (i : Nat) (v : Value), ls.lookup i = some v → (i, f v) ∈ ls.map (fun q => (q.1, f q.2)) := fun ls i v h => List.mem_map.mpr ⟨(i, v), jmem_lookup h, rfl⟩
/-- a method's contract out of its walk -/
theorem jmet_of {l : Launch} {y : MethodName} {b : ByteArray} {mi : jM} {α : Type} {emb : α → Option Value} {av : List Value} {H : jH} {o : Option (α × jH)} (hb : jn_is b mi.1 mi.2.1) (hp : plainName y.cls = true)
    (hy : y.cls = mi.2.2.2.1 ∧ y.name = mi.2.2.2.2.2.1) (hl : (lg_sl av).length ≤ mi.2.2.1) (h : JV l mi emb 0 (lv_args 0 av) [] H o) : JMet l y b mi emb av H o := by
  intro r H' ho
  obtain ⟨hm, hw⟩ := h r H' ho
  refine ⟨hm, fun G => ?_⟩
  refine Met.ofW (cc := b) (maxL := mi.2.2.1) (ret := mi.2.2.2.2.1) hp rfl ?_
  intro p e s m args below meth c s₁ B hml hv
  obtain ⟨rfl, hR, hNw⟩ := hv
  have hx := B.exec
  have hbb := B.bytes
  have hr := B.returns
  have hts := atoms_spec (ws := .code y b mi.2.2.1 mi.2.2.2.2.1 :: jws) B.pre
  have hown : s.vm.findClass y.cls = some m.cls := findClass_of_methodNamed B.named
  have hlocks := B.notSynchronized
  have hin : meth.name = y.name := (name_of_methodNamed B.named B.method).1
  have hc : jC mi ((p, l, e, s), (m, (av.map (jv G)).toArray, below, meth, c), G, H) := by
    refine ⟨hx, ?_, hml, ?_, hr, ?_, hlocks, fun w hw => hts w (List.mem_cons_of_mem _ hw), hR, hNw⟩
    · show jn_is c.code _ _
      rw [hbb]
      exact hb
    · rw [← hy.1]; exact hown
    · rw [← hy.2]; exact hin
  have hent := lv_entry (av.map (jv G)) (n := mi.2.2.1) (by rw [jsl_len]; exact hl)
  rw [lg_entry_eq]
  generalize (lg_sl (av.map (jv G)) ++ List.replicate (mi.2.2.1 - (lg_sl (av.map (jv G))).length) Slot.unset).toArray = ls at hent ⊢
  have hW := hw ((p, l, e, s), (m, (av.map (jv G)).toArray, below, meth, c), G, H) hc rfl (Nat.le_refl _) (Nat.le_refl _) s.heap ls [] hR va_S.rf ⟨hent.1, hent.2.1, fun i v hi => hent.2.2 (i, jv G v) (by rw [jargs_eq]; exact jlookup_map (jv G) _ i v hi)⟩
  refine W.cs (cells' := jn H - jn H) (slots' := js H - js H) (Nat.sub_self _).symm (Nat.sub_self _).symm ?_
  exact hW
end
section
/-! One step each: the abstract walk, an instruction. -/
def jx1 (N S pc a q : Nat) : Bool := jw1 N S pc a && Nat.beq (pc + 1) q
def jx2 (N S pc a b q : Nat) : Bool := jw2 N S pc a b && Nat.beq (pc + 2) q
def jx3 (N S pc a b d q : Nat) : Bool := jw3 N S pc a b d && Nat.beq (pc + 3) q
theorem jx1_spec {N S pc a q : Nat} (h : jx1 N S pc a q = true) : jw1 N S pc a = true ∧ pc + 1 = q := by
  simp only [jx1, Bool.and_eq_true, Nat.beq_eq] at h
  exact h
theorem jx2_spec {N S pc a b q : Nat} (h : jx2 N S pc a b q = true) : jw2 N S pc a b = true ∧ pc + 2 = q := by
  simp only [jx2, Bool.and_eq_true, Nat.beq_eq] at h
  exact h
theorem jx3_spec {N S pc a b d q : Nat} (h : jx3 N S pc a b d q = true) : jw3 N S pc a b d = true ∧ pc + 3 = q := by
  simp only [jx3, Bool.and_eq_true, Nat.beq_eq] at h
  exact h
def jst1 (n : Nat) (ls : List (Nat × Value)) (i : Nat) : Bool := Nat.blt i n && (Nat.beq i 0 || jnol ls (i - 1))
def jst2 (n : Nat) (ls : List (Nat × Value)) (i : Nat) : Bool := Nat.blt (i + 1) n && (Nat.beq i 0 || jnol ls (i - 1)) && (ls.lookup (i + 1)).isNone
theorem jst1_spec {n : Nat} {ls : List (Nat × Value)} {i : Nat} (h : jst1 n ls i = true) : i < n ∧ (i = 0 ∨ jnol ls (i - 1) = true) := by
  simp only [jst1, Bool.and_eq_true, Bool.or_eq_true, Nat.beq_eq, Nat.blt_eq] at h
  exact h
theorem jst2_spec {n : Nat} {ls : List (Nat × Value)} {i : Nat} (h : jst2 n ls i = true) : i + 1 < n ∧ (i = 0 ∨ jnol ls (i - 1) = true) ∧ ls.lookup (i + 1) = none := by
  simp only [jst2, Bool.and_eq_true, Bool.or_eq_true, Nat.beq_eq, Nat.blt_eq, Option.isNone_iff_eq_none] at h
  exact ⟨h.1.1, h.1.2, h.2⟩
def jg {α : Type} (c : Prop) [Decidable c] (o : Option α) : Option α := if c then o else none
theorem jg_some {α : Type} {c : Prop} [Decidable c] {o : Option α} {x : α} (h : jg c o = some x) : c ∧ o = some x := by
  unfold jg at h
  split at h
  · exact ⟨by assumption, h⟩
  · cases h
def jl {α β : Type} (e : α) (k : α → β) : β := k e
def jrem (x y : Int32) : Int32 := x - x / y * y
def jremL (x y : Int64) : Int64 := x - x / y * y
def jshl (x y : Int32) : Int32 := x <<< (y &&& 31)
def jshr (x y : Int32) : Int32 := x >>> (y &&& 31)
def jushr (x y : Int32) : Int32 := (x.toUInt32 >>> (y.toUInt32 &&& Int32.toUInt32 31)).toInt32
def jshlL (x : Int64) (y : Int32) : Int64 := x <<< (y.toInt64 &&& 63)
def jshrL (x : Int64) (y : Int32) : Int64 := x >>> (y.toInt64 &&& 63)
def jushrL (x : Int64) (y : Int32) : Int64 := (x.toUInt64 >>> (y.toInt64.toUInt64 &&& Int64.toUInt64 63)).toInt64
def ji2b (x : Int32) : Int32 := x.toInt8.toInt32
theorem s_96 {l : Launch} {mi : jM} {α : Type} {emb : α → Option Value} {pc : Nat} {ls : List (Nat × Value)} {st : List Value} {H : jH} {o : Option (α × jH)} (q : Nat) (hw : jx1 mi.1 mi.2.1 pc 96 q = true) {x y : Int32} (k : JV l mi emb q ls (.int (x + y) :: st) H o) : JV l mi emb pc ls (.int y :: .int x :: st) H o := by
  obtain ⟨hw1, rfl⟩ := jx1_spec hw
  intro r H' ho
  skip
  obtain ⟨hm, kk⟩ := k r H' ho
  exact ⟨hm, fun c hc e1 n1 n2 Hr la locs hR hS hl => lv_iadd hc.1 rfl (jd_96 hc.2.1 hw1)  (kk c hc e1 n1 n2 Hr la locs hR hS hl)⟩
theorem s_100 {l : Launch} {mi : jM} {α : Type} {emb : α → Option Value} {pc : Nat} {ls : List (Nat × Value)} {st : List Value} {H : jH} {o : Option (α × jH)} (q : Nat) (hw : jx1 mi.1 mi.2.1 pc 100 q = true) {x y : Int32} (k : JV l mi emb q ls (.int (x - y) :: st) H o) : JV l mi emb pc ls (.int y :: .int x :: st) H o := by
  obtain ⟨hw1, rfl⟩ := jx1_spec hw
  intro r H' ho
  skip
  obtain ⟨hm, kk⟩ := k r H' ho
  exact ⟨hm, fun c hc e1 n1 n2 Hr la locs hR hS hl => lv_isub hc.1 rfl (jd_100 hc.2.1 hw1)  (kk c hc e1 n1 n2 Hr la locs hR hS hl)⟩
theorem s_104 {l : Launch} {mi : jM} {α : Type} {emb : α → Option Value} {pc : Nat} {ls : List (Nat × Value)} {st : List Value} {H : jH} {o : Option (α × jH)} (q : Nat) (hw : jx1 mi.1 mi.2.1 pc 104 q = true) {x y : Int32} (k : JV l mi emb q ls (.int (x * y) :: st) H o) : JV l mi emb pc ls (.int y :: .int x :: st) H o := by
  obtain ⟨hw1, rfl⟩ := jx1_spec hw
  intro r H' ho
  skip
  obtain ⟨hm, kk⟩ := k r H' ho
  exact ⟨hm, fun c hc e1 n1 n2 Hr la locs hR hS hl => lv_imul hc.1 rfl (jd_104 hc.2.1 hw1)  (kk c hc e1 n1 n2 Hr la locs hR hS hl)⟩
theorem s_126 {l : Launch} {mi : jM} {α : Type} {emb : α → Option Value} {pc : Nat} {ls : List (Nat × Value)} {st : List Value} {H : jH} {o : Option (α × jH)} (q : Nat) (hw : jx1 mi.1 mi.2.1 pc 126 q = true) {x y : Int32} (k : JV l mi emb q ls (.int (x &&& y) :: st) H o) : JV l mi emb pc ls (.int y :: .int x :: st) H o := by
  obtain ⟨hw1, rfl⟩ := jx1_spec hw
  intro r H' ho
  skip
  obtain ⟨hm, kk⟩ := k r H' ho
  exact ⟨hm, fun c hc e1 n1 n2 Hr la locs hR hS hl => lv_iand hc.1 rfl (jd_126 hc.2.1 hw1)  (kk c hc e1 n1 n2 Hr la locs hR hS hl)⟩
theorem s_128 {l : Launch} {mi : jM} {α : Type} {emb : α → Option Value} {pc : Nat} {ls : List (Nat × Value)} {st : List Value} {H : jH} {o : Option (α × jH)} (q : Nat) (hw : jx1 mi.1 mi.2.1 pc 128 q = true) {x y : Int32} (k : JV l mi emb q ls (.int (x ||| y) :: st) H o) : JV l mi emb pc ls (.int y :: .int x :: st) H o := by
  obtain ⟨hw1, rfl⟩ := jx1_spec hw
  intro r H' ho
  skip
  obtain ⟨hm, kk⟩ := k r H' ho
  exact ⟨hm, fun c hc e1 n1 n2 Hr la locs hR hS hl => lv_ior hc.1 rfl (jd_128 hc.2.1 hw1)  (kk c hc e1 n1 n2 Hr la locs hR hS hl)⟩
theorem s_130 {l : Launch} {mi : jM} {α : Type} {emb : α → Option Value} {pc : Nat} {ls : List (Nat × Value)} {st : List Value} {H : jH} {o : Option (α × jH)} (q : Nat) (hw : jx1 mi.1 mi.2.1 pc 130 q = true) {x y : Int32} (k : JV l mi emb q ls (.int (x ^^^ y) :: st) H o) : JV l mi emb pc ls (.int y :: .int x :: st) H o := by
  obtain ⟨hw1, rfl⟩ := jx1_spec hw
  intro r H' ho
  skip
  obtain ⟨hm, kk⟩ := k r H' ho
  exact ⟨hm, fun c hc e1 n1 n2 Hr la locs hR hS hl => lv_ixor hc.1 rfl (jd_130 hc.2.1 hw1)  (kk c hc e1 n1 n2 Hr la locs hR hS hl)⟩
theorem s_120 {l : Launch} {mi : jM} {α : Type} {emb : α → Option Value} {pc : Nat} {ls : List (Nat × Value)} {st : List Value} {H : jH} {o : Option (α × jH)} (q : Nat) (hw : jx1 mi.1 mi.2.1 pc 120 q = true) {x y : Int32} (k : JV l mi emb q ls (.int (jshl x y) :: st) H o) : JV l mi emb pc ls (.int y :: .int x :: st) H o := by
  obtain ⟨hw1, rfl⟩ := jx1_spec hw
  intro r H' ho
  skip
  obtain ⟨hm, kk⟩ := k r H' ho
  exact ⟨hm, fun c hc e1 n1 n2 Hr la locs hR hS hl => lv_ishl hc.1 rfl (jd_120 hc.2.1 hw1)  (kk c hc e1 n1 n2 Hr la locs hR hS hl)⟩
theorem s_122 {l : Launch} {mi : jM} {α : Type} {emb : α → Option Value} {pc : Nat} {ls : List (Nat × Value)} {st : List Value} {H : jH} {o : Option (α × jH)} (q : Nat) (hw : jx1 mi.1 mi.2.1 pc 122 q = true) {x y : Int32} (k : JV l mi emb q ls (.int (jshr x y) :: st) H o) : JV l mi emb pc ls (.int y :: .int x :: st) H o := by
  obtain ⟨hw1, rfl⟩ := jx1_spec hw
  intro r H' ho
  skip
  obtain ⟨hm, kk⟩ := k r H' ho
  exact ⟨hm, fun c hc e1 n1 n2 Hr la locs hR hS hl => lv_ishr hc.1 rfl (jd_122 hc.2.1 hw1)  (kk c hc e1 n1 n2 Hr la locs hR hS hl)⟩
theorem s_97 {l : Launch} {mi : jM} {α : Type} {emb : α → Option Value} {pc : Nat} {ls : List (Nat × Value)} {st : List Value} {H : jH} {o : Option (α × jH)} (q : Nat) (hw : jx1 mi.1 mi.2.1 pc 97 q = true) {x y : Int64} (k : JV l mi emb q ls (.long (x + y) :: st) H o) : JV l mi emb pc ls (.long y :: .long x :: st) H o := by
  obtain ⟨hw1, rfl⟩ := jx1_spec hw
  intro r H' ho
  skip
  obtain ⟨hm, kk⟩ := k r H' ho
  exact ⟨hm, fun c hc e1 n1 n2 Hr la locs hR hS hl => lv_ladd hc.1 rfl (jd_97 hc.2.1 hw1)  (kk c hc e1 n1 n2 Hr la locs hR hS hl)⟩
theorem s_101 {l : Launch} {mi : jM} {α : Type} {emb : α → Option Value} {pc : Nat} {ls : List (Nat × Value)} {st : List Value} {H : jH} {o : Option (α × jH)} (q : Nat) (hw : jx1 mi.1 mi.2.1 pc 101 q = true) {x y : Int64} (k : JV l mi emb q ls (.long (x - y) :: st) H o) : JV l mi emb pc ls (.long y :: .long x :: st) H o := by
  obtain ⟨hw1, rfl⟩ := jx1_spec hw
  intro r H' ho
  skip
  obtain ⟨hm, kk⟩ := k r H' ho
  exact ⟨hm, fun c hc e1 n1 n2 Hr la locs hR hS hl => lv_lsub hc.1 rfl (jd_101 hc.2.1 hw1)  (kk c hc e1 n1 n2 Hr la locs hR hS hl)⟩
theorem s_105 {l : Launch} {mi : jM} {α : Type} {emb : α → Option Value} {pc : Nat} {ls : List (Nat × Value)} {st : List Value} {H : jH} {o : Option (α × jH)} (q : Nat) (hw : jx1 mi.1 mi.2.1 pc 105 q = true) {x y : Int64} (k : JV l mi emb q ls (.long (x * y) :: st) H o) : JV l mi emb pc ls (.long y :: .long x :: st) H o := by
  obtain ⟨hw1, rfl⟩ := jx1_spec hw
  intro r H' ho
  skip
  obtain ⟨hm, kk⟩ := k r H' ho
  exact ⟨hm, fun c hc e1 n1 n2 Hr la locs hR hS hl => lv_lmul hc.1 rfl (jd_105 hc.2.1 hw1)  (kk c hc e1 n1 n2 Hr la locs hR hS hl)⟩
theorem s_127 {l : Launch} {mi : jM} {α : Type} {emb : α → Option Value} {pc : Nat} {ls : List (Nat × Value)} {st : List Value} {H : jH} {o : Option (α × jH)} (q : Nat) (hw : jx1 mi.1 mi.2.1 pc 127 q = true) {x y : Int64} (k : JV l mi emb q ls (.long (x &&& y) :: st) H o) : JV l mi emb pc ls (.long y :: .long x :: st) H o := by
  obtain ⟨hw1, rfl⟩ := jx1_spec hw
  intro r H' ho
  skip
  obtain ⟨hm, kk⟩ := k r H' ho
  exact ⟨hm, fun c hc e1 n1 n2 Hr la locs hR hS hl => lv_land hc.1 rfl (jd_127 hc.2.1 hw1)  (kk c hc e1 n1 n2 Hr la locs hR hS hl)⟩
theorem s_129 {l : Launch} {mi : jM} {α : Type} {emb : α → Option Value} {pc : Nat} {ls : List (Nat × Value)} {st : List Value} {H : jH} {o : Option (α × jH)} (q : Nat) (hw : jx1 mi.1 mi.2.1 pc 129 q = true) {x y : Int64} (k : JV l mi emb q ls (.long (x ||| y) :: st) H o) : JV l mi emb pc ls (.long y :: .long x :: st) H o := by
  obtain ⟨hw1, rfl⟩ := jx1_spec hw
  intro r H' ho
  skip
  obtain ⟨hm, kk⟩ := k r H' ho
  exact ⟨hm, fun c hc e1 n1 n2 Hr la locs hR hS hl => lv_lor hc.1 rfl (jd_129 hc.2.1 hw1)  (kk c hc e1 n1 n2 Hr la locs hR hS hl)⟩
theorem s_131 {l : Launch} {mi : jM} {α : Type} {emb : α → Option Value} {pc : Nat} {ls : List (Nat × Value)} {st : List Value} {H : jH} {o : Option (α × jH)} (q : Nat) (hw : jx1 mi.1 mi.2.1 pc 131 q = true) {x y : Int64} (k : JV l mi emb q ls (.long (x ^^^ y) :: st) H o) : JV l mi emb pc ls (.long y :: .long x :: st) H o := by
  obtain ⟨hw1, rfl⟩ := jx1_spec hw
  intro r H' ho
  skip
  obtain ⟨hm, kk⟩ := k r H' ho
  exact ⟨hm, fun c hc e1 n1 n2 Hr la locs hR hS hl => lv_lxor hc.1 rfl (jd_131 hc.2.1 hw1)  (kk c hc e1 n1 n2 Hr la locs hR hS hl)⟩
theorem s_108 {l : Launch} {mi : jM} {α : Type} {emb : α → Option Value} {pc : Nat} {ls : List (Nat × Value)} {st : List Value} {H : jH} {o : Option (α × jH)} (q : Nat) (hw : jx1 mi.1 mi.2.1 pc 108 q = true) {x y : Int32} (k : JV l mi emb q ls (.int (x / y) :: st) H o) : JV l mi emb pc ls (.int y :: .int x :: st) H (jg (¬ y = 0) o) := by
  obtain ⟨hw1, rfl⟩ := jx1_spec hw
  intro r H' ho
  obtain ⟨hg, ho⟩ := jg_some ho
  obtain ⟨hm, kk⟩ := k r H' ho
  exact ⟨hm, fun c hc e1 n1 n2 Hr la locs hR hS hl => lv_idiv hc.1 rfl (jd_108 hc.2.1 hw1) hg (kk c hc e1 n1 n2 Hr la locs hR hS hl)⟩
theorem s_112 {l : Launch} {mi : jM} {α : Type} {emb : α → Option Value} {pc : Nat} {ls : List (Nat × Value)} {st : List Value} {H : jH} {o : Option (α × jH)} (q : Nat) (hw : jx1 mi.1 mi.2.1 pc 112 q = true) {x y : Int32} (k : JV l mi emb q ls (.int (jrem x y) :: st) H o) : JV l mi emb pc ls (.int y :: .int x :: st) H (jg (¬ y = 0) o) := by
  obtain ⟨hw1, rfl⟩ := jx1_spec hw
  intro r H' ho
  obtain ⟨hg, ho⟩ := jg_some ho
  obtain ⟨hm, kk⟩ := k r H' ho
  exact ⟨hm, fun c hc e1 n1 n2 Hr la locs hR hS hl => lv_irem hc.1 rfl (jd_112 hc.2.1 hw1) hg (kk c hc e1 n1 n2 Hr la locs hR hS hl)⟩
theorem s_109 {l : Launch} {mi : jM} {α : Type} {emb : α → Option Value} {pc : Nat} {ls : List (Nat × Value)} {st : List Value} {H : jH} {o : Option (α × jH)} (q : Nat) (hw : jx1 mi.1 mi.2.1 pc 109 q = true) {x y : Int64} (k : JV l mi emb q ls (.long (x / y) :: st) H o) : JV l mi emb pc ls (.long y :: .long x :: st) H (jg (¬ y = 0) o) := by
  obtain ⟨hw1, rfl⟩ := jx1_spec hw
  intro r H' ho
  obtain ⟨hg, ho⟩ := jg_some ho
  obtain ⟨hm, kk⟩ := k r H' ho
  exact ⟨hm, fun c hc e1 n1 n2 Hr la locs hR hS hl => lv_ldiv hc.1 rfl (jd_109 hc.2.1 hw1) hg (kk c hc e1 n1 n2 Hr la locs hR hS hl)⟩
theorem s_113 {l : Launch} {mi : jM} {α : Type} {emb : α → Option Value} {pc : Nat} {ls : List (Nat × Value)} {st : List Value} {H : jH} {o : Option (α × jH)} (q : Nat) (hw : jx1 mi.1 mi.2.1 pc 113 q = true) {x y : Int64} (k : JV l mi emb q ls (.long (jremL x y) :: st) H o) : JV l mi emb pc ls (.long y :: .long x :: st) H (jg (¬ y = 0) o) := by
  obtain ⟨hw1, rfl⟩ := jx1_spec hw
  intro r H' ho
  obtain ⟨hg, ho⟩ := jg_some ho
  obtain ⟨hm, kk⟩ := k r H' ho
  exact ⟨hm, fun c hc e1 n1 n2 Hr la locs hR hS hl => lv_lrem hc.1 rfl (jd_113 hc.2.1 hw1) hg (kk c hc e1 n1 n2 Hr la locs hR hS hl)⟩
theorem s_116 {l : Launch} {mi : jM} {α : Type} {emb : α → Option Value} {pc : Nat} {ls : List (Nat × Value)} {st : List Value} {H : jH} {o : Option (α × jH)} (q : Nat) (hw : jx1 mi.1 mi.2.1 pc 116 q = true) {x : Int32} (k : JV l mi emb q ls (.int (-x) :: st) H o) : JV l mi emb pc ls (.int x :: st) H o := by
  obtain ⟨hw1, rfl⟩ := jx1_spec hw
  intro r H' ho
  skip
  obtain ⟨hm, kk⟩ := k r H' ho
  exact ⟨hm, fun c hc e1 n1 n2 Hr la locs hR hS hl => lv_ineg hc.1 rfl (jd_116 hc.2.1 hw1)  (kk c hc e1 n1 n2 Hr la locs hR hS hl)⟩
theorem s_117 {l : Launch} {mi : jM} {α : Type} {emb : α → Option Value} {pc : Nat} {ls : List (Nat × Value)} {st : List Value} {H : jH} {o : Option (α × jH)} (q : Nat) (hw : jx1 mi.1 mi.2.1 pc 117 q = true) {x : Int64} (k : JV l mi emb q ls (.long (-x) :: st) H o) : JV l mi emb pc ls (.long x :: st) H o := by
  obtain ⟨hw1, rfl⟩ := jx1_spec hw
  intro r H' ho
  skip
  obtain ⟨hm, kk⟩ := k r H' ho
  exact ⟨hm, fun c hc e1 n1 n2 Hr la locs hR hS hl => lv_lneg hc.1 rfl (jd_117 hc.2.1 hw1)  (kk c hc e1 n1 n2 Hr la locs hR hS hl)⟩
theorem s_124 {l : Launch} {mi : jM} {α : Type} {emb : α → Option Value} {pc : Nat} {ls : List (Nat × Value)} {st : List Value} {H : jH} {o : Option (α × jH)} (q : Nat) (hw : jx1 mi.1 mi.2.1 pc 124 q = true) {x y : Int32} (k : JV l mi emb q ls (.int (jushr x y) :: st) H o) : JV l mi emb pc ls (.int y :: .int x :: st) H o := by
  obtain ⟨hw1, rfl⟩ := jx1_spec hw
  intro r H' ho
  skip
  obtain ⟨hm, kk⟩ := k r H' ho
  exact ⟨hm, fun c hc e1 n1 n2 Hr la locs hR hS hl => lv_iushr hc.1 rfl (jd_124 hc.2.1 hw1) rfl (kk c hc e1 n1 n2 Hr la locs hR hS hl)⟩
theorem s_121 {l : Launch} {mi : jM} {α : Type} {emb : α → Option Value} {pc : Nat} {ls : List (Nat × Value)} {st : List Value} {H : jH} {o : Option (α × jH)} (q : Nat) (hw : jx1 mi.1 mi.2.1 pc 121 q = true) {x : Int64} {y : Int32} (k : JV l mi emb q ls (.long (jshlL x y) :: st) H o) : JV l mi emb pc ls (.int y :: .long x :: st) H o := by
  obtain ⟨hw1, rfl⟩ := jx1_spec hw
  intro r H' ho
  skip
  obtain ⟨hm, kk⟩ := k r H' ho
  exact ⟨hm, fun c hc e1 n1 n2 Hr la locs hR hS hl => lv_lshl hc.1 rfl (jd_121 hc.2.1 hw1) rfl (kk c hc e1 n1 n2 Hr la locs hR hS hl)⟩
theorem s_123 {l : Launch} {mi : jM} {α : Type} {emb : α → Option Value} {pc : Nat} {ls : List (Nat × Value)} {st : List Value} {H : jH} {o : Option (α × jH)} (q : Nat) (hw : jx1 mi.1 mi.2.1 pc 123 q = true) {x : Int64} {y : Int32} (k : JV l mi emb q ls (.long (jshrL x y) :: st) H o) : JV l mi emb pc ls (.int y :: .long x :: st) H o := by
  obtain ⟨hw1, rfl⟩ := jx1_spec hw
  intro r H' ho
  skip
  obtain ⟨hm, kk⟩ := k r H' ho
  exact ⟨hm, fun c hc e1 n1 n2 Hr la locs hR hS hl => lv_lshr hc.1 rfl (jd_123 hc.2.1 hw1) rfl (kk c hc e1 n1 n2 Hr la locs hR hS hl)⟩
theorem s_125 {l : Launch} {mi : jM} {α : Type} {emb : α → Option Value} {pc : Nat} {ls : List (Nat × Value)} {st : List Value} {H : jH} {o : Option (α × jH)} (q : Nat) (hw : jx1 mi.1 mi.2.1 pc 125 q = true) {x : Int64} {y : Int32} (k : JV l mi emb q ls (.long (jushrL x y) :: st) H o) : JV l mi emb pc ls (.int y :: .long x :: st) H o := by
  obtain ⟨hw1, rfl⟩ := jx1_spec hw
  intro r H' ho
  skip
  obtain ⟨hm, kk⟩ := k r H' ho
  exact ⟨hm, fun c hc e1 n1 n2 Hr la locs hR hS hl => lv_lushr hc.1 rfl (jd_125 hc.2.1 hw1) rfl (kk c hc e1 n1 n2 Hr la locs hR hS hl)⟩
theorem s_133 {l : Launch} {mi : jM} {α : Type} {emb : α → Option Value} {pc : Nat} {ls : List (Nat × Value)} {st : List Value} {H : jH} {o : Option (α × jH)} (q : Nat) (hw : jx1 mi.1 mi.2.1 pc 133 q = true) {x : Int32} (k : JV l mi emb q ls (.long x.toInt64 :: st) H o) : JV l mi emb pc ls (.int x :: st) H o := by
  obtain ⟨hw1, rfl⟩ := jx1_spec hw
  intro r H' ho
  skip
  obtain ⟨hm, kk⟩ := k r H' ho
  exact ⟨hm, fun c hc e1 n1 n2 Hr la locs hR hS hl => lv_i2l hc.1 rfl (jd_133 hc.2.1 hw1) rfl (kk c hc e1 n1 n2 Hr la locs hR hS hl)⟩
theorem s_136 {l : Launch} {mi : jM} {α : Type} {emb : α → Option Value} {pc : Nat} {ls : List (Nat × Value)} {st : List Value} {H : jH} {o : Option (α × jH)} (q : Nat) (hw : jx1 mi.1 mi.2.1 pc 136 q = true) {x : Int64} (k : JV l mi emb q ls (.int x.toInt32 :: st) H o) : JV l mi emb pc ls (.long x :: st) H o := by
  obtain ⟨hw1, rfl⟩ := jx1_spec hw
  intro r H' ho
  skip
  obtain ⟨hm, kk⟩ := k r H' ho
  exact ⟨hm, fun c hc e1 n1 n2 Hr la locs hR hS hl => lv_l2i hc.1 rfl (jd_136 hc.2.1 hw1) rfl (kk c hc e1 n1 n2 Hr la locs hR hS hl)⟩
theorem s_145 {l : Launch} {mi : jM} {α : Type} {emb : α → Option Value} {pc : Nat} {ls : List (Nat × Value)} {st : List Value} {H : jH} {o : Option (α × jH)} (q : Nat) (hw : jx1 mi.1 mi.2.1 pc 145 q = true) {x : Int32} (k : JV l mi emb q ls (.int (ji2b x) :: st) H o) : JV l mi emb pc ls (.int x :: st) H o := by
  obtain ⟨hw1, rfl⟩ := jx1_spec hw
  intro r H' ho
  skip
  obtain ⟨hm, kk⟩ := k r H' ho
  exact ⟨hm, fun c hc e1 n1 n2 Hr la locs hR hS hl => lv_i2b hc.1 rfl (jd_145 hc.2.1 hw1) rfl (kk c hc e1 n1 n2 Hr la locs hR hS hl)⟩
theorem s_89 {l : Launch} {mi : jM} {α : Type} {emb : α → Option Value} {pc : Nat} {ls : List (Nat × Value)} {st : List Value} {H : jH} {o : Option (α × jH)} (q : Nat) (hw : jx1 mi.1 mi.2.1 pc 89 q = true) {a : Value} (ha : a.category = 1) (k : JV l mi emb q ls (a :: a :: st) H o) : JV l mi emb pc ls (a :: st) H o := by
  obtain ⟨hw1, rfl⟩ := jx1_spec hw
  intro r H' ho
  obtain ⟨hm, kk⟩ := k r H' ho
  exact ⟨hm, fun c hc e1 n1 n2 Hr la locs hR hS hl => lv_dup hc.1 rfl (jd_89 hc.2.1 hw1) ((jv_cat _ _).trans ha) (kk c hc e1 n1 n2 Hr la locs hR hS hl)⟩
theorem s_87 {l : Launch} {mi : jM} {α : Type} {emb : α → Option Value} {pc : Nat} {ls : List (Nat × Value)} {st : List Value} {H : jH} {o : Option (α × jH)} (q : Nat) (hw : jx1 mi.1 mi.2.1 pc 87 q = true) {a : Value} (ha : a.category = 1) (k : JV l mi emb q ls (st) H o) : JV l mi emb pc ls (a :: st) H o := by
  obtain ⟨hw1, rfl⟩ := jx1_spec hw
  intro r H' ho
  obtain ⟨hm, kk⟩ := k r H' ho
  exact ⟨hm, fun c hc e1 n1 n2 Hr la locs hR hS hl => lv_pop hc.1 rfl (jd_87 hc.2.1 hw1) ((jv_cat _ _).trans ha) (kk c hc e1 n1 n2 Hr la locs hR hS hl)⟩
theorem s_92 {l : Launch} {mi : jM} {α : Type} {emb : α → Option Value} {pc : Nat} {ls : List (Nat × Value)} {st : List Value} {H : jH} {o : Option (α × jH)} (q : Nat) (hw : jx1 mi.1 mi.2.1 pc 92 q = true) {a b : Value} (ha : a.category = 1) (hb : b.category = 1) (k : JV l mi emb q ls (a :: b :: a :: b :: st) H o) : JV l mi emb pc ls (a :: b :: st) H o := by
  obtain ⟨hw1, rfl⟩ := jx1_spec hw
  intro r H' ho
  obtain ⟨hm, kk⟩ := k r H' ho
  exact ⟨hm, fun c hc e1 n1 n2 Hr la locs hR hS hl => lv_dup2_11 hc.1 rfl (jd_92 hc.2.1 hw1) ((jv_cat _ _).trans ha) ((jv_cat _ _).trans hb) (kk c hc e1 n1 n2 Hr la locs hR hS hl)⟩
theorem s_92L {l : Launch} {mi : jM} {α : Type} {emb : α → Option Value} {pc : Nat} {ls : List (Nat × Value)} {st : List Value} {H : jH} {o : Option (α × jH)} (q : Nat) (hw : jx1 mi.1 mi.2.1 pc 92 q = true) {a : Value} (ha : a.category = 2) (k : JV l mi emb q ls (a :: a :: st) H o) : JV l mi emb pc ls (a :: st) H o := by
  obtain ⟨hw1, rfl⟩ := jx1_spec hw
  intro r H' ho
  obtain ⟨hm, kk⟩ := k r H' ho
  exact ⟨hm, fun c hc e1 n1 n2 Hr la locs hR hS hl => lv_dup2_2 hc.1 rfl (jd_92 hc.2.1 hw1) ((jv_cat _ _).trans ha) (kk c hc e1 n1 n2 Hr la locs hR hS hl)⟩
theorem s_88L {l : Launch} {mi : jM} {α : Type} {emb : α → Option Value} {pc : Nat} {ls : List (Nat × Value)} {st : List Value} {H : jH} {o : Option (α × jH)} (q : Nat) (hw : jx1 mi.1 mi.2.1 pc 88 q = true) {a : Value} (ha : a.category = 2) (k : JV l mi emb q ls (st) H o) : JV l mi emb pc ls (a :: st) H o := by
  obtain ⟨hw1, rfl⟩ := jx1_spec hw
  intro r H' ho
  obtain ⟨hm, kk⟩ := k r H' ho
  exact ⟨hm, fun c hc e1 n1 n2 Hr la locs hR hS hl => lv_pop2_2 hc.1 rfl (jd_88 hc.2.1 hw1) ((jv_cat _ _).trans ha) (kk c hc e1 n1 n2 Hr la locs hR hS hl)⟩
theorem s_2 {l : Launch} {mi : jM} {α : Type} {emb : α → Option Value} {pc : Nat} {ls : List (Nat × Value)} {st : List Value} {H : jH} {o : Option (α × jH)} (q : Nat) (hw : jx1 mi.1 mi.2.1 pc 2 q = true) (k : JV l mi emb q ls (.int (-1) :: st) H o) : JV l mi emb pc ls st H o := by
  obtain ⟨hw1, rfl⟩ := jx1_spec hw
  intro r H' ho
  obtain ⟨hm, kk⟩ := k r H' ho
  exact ⟨hm, fun c hc e1 n1 n2 Hr la locs hR hS hl => lv_iconst hc.1 rfl (jd_2 hc.2.1 hw1) (by decide) (kk c hc e1 n1 n2 Hr la locs hR hS hl)⟩
theorem s_3 {l : Launch} {mi : jM} {α : Type} {emb : α → Option Value} {pc : Nat} {ls : List (Nat × Value)} {st : List Value} {H : jH} {o : Option (α × jH)} (q : Nat) (hw : jx1 mi.1 mi.2.1 pc 3 q = true) (k : JV l mi emb q ls (.int (0) :: st) H o) : JV l mi emb pc ls st H o := by
  obtain ⟨hw1, rfl⟩ := jx1_spec hw
  intro r H' ho
  obtain ⟨hm, kk⟩ := k r H' ho
  exact ⟨hm, fun c hc e1 n1 n2 Hr la locs hR hS hl => lv_iconst hc.1 rfl (jd_3 hc.2.1 hw1) (by decide) (kk c hc e1 n1 n2 Hr la locs hR hS hl)⟩
theorem s_4 {l : Launch} {mi : jM} {α : Type} {emb : α → Option Value} {pc : Nat} {ls : List (Nat × Value)} {st : List Value} {H : jH} {o : Option (α × jH)} (q : Nat) (hw : jx1 mi.1 mi.2.1 pc 4 q = true) (k : JV l mi emb q ls (.int (1) :: st) H o) : JV l mi emb pc ls st H o := by
  obtain ⟨hw1, rfl⟩ := jx1_spec hw
  intro r H' ho
  obtain ⟨hm, kk⟩ := k r H' ho
  exact ⟨hm, fun c hc e1 n1 n2 Hr la locs hR hS hl => lv_iconst hc.1 rfl (jd_4 hc.2.1 hw1) (by decide) (kk c hc e1 n1 n2 Hr la locs hR hS hl)⟩
theorem s_5 {l : Launch} {mi : jM} {α : Type} {emb : α → Option Value} {pc : Nat} {ls : List (Nat × Value)} {st : List Value} {H : jH} {o : Option (α × jH)} (q : Nat) (hw : jx1 mi.1 mi.2.1 pc 5 q = true) (k : JV l mi emb q ls (.int (2) :: st) H o) : JV l mi emb pc ls st H o := by
  obtain ⟨hw1, rfl⟩ := jx1_spec hw
  intro r H' ho
  obtain ⟨hm, kk⟩ := k r H' ho
  exact ⟨hm, fun c hc e1 n1 n2 Hr la locs hR hS hl => lv_iconst hc.1 rfl (jd_5 hc.2.1 hw1) (by decide) (kk c hc e1 n1 n2 Hr la locs hR hS hl)⟩
theorem s_6 {l : Launch} {mi : jM} {α : Type} {emb : α → Option Value} {pc : Nat} {ls : List (Nat × Value)} {st : List Value} {H : jH} {o : Option (α × jH)} (q : Nat) (hw : jx1 mi.1 mi.2.1 pc 6 q = true) (k : JV l mi emb q ls (.int (3) :: st) H o) : JV l mi emb pc ls st H o := by
  obtain ⟨hw1, rfl⟩ := jx1_spec hw
  intro r H' ho
  obtain ⟨hm, kk⟩ := k r H' ho
  exact ⟨hm, fun c hc e1 n1 n2 Hr la locs hR hS hl => lv_iconst hc.1 rfl (jd_6 hc.2.1 hw1) (by decide) (kk c hc e1 n1 n2 Hr la locs hR hS hl)⟩
theorem s_7 {l : Launch} {mi : jM} {α : Type} {emb : α → Option Value} {pc : Nat} {ls : List (Nat × Value)} {st : List Value} {H : jH} {o : Option (α × jH)} (q : Nat) (hw : jx1 mi.1 mi.2.1 pc 7 q = true) (k : JV l mi emb q ls (.int (4) :: st) H o) : JV l mi emb pc ls st H o := by
  obtain ⟨hw1, rfl⟩ := jx1_spec hw
  intro r H' ho
  obtain ⟨hm, kk⟩ := k r H' ho
  exact ⟨hm, fun c hc e1 n1 n2 Hr la locs hR hS hl => lv_iconst hc.1 rfl (jd_7 hc.2.1 hw1) (by decide) (kk c hc e1 n1 n2 Hr la locs hR hS hl)⟩
theorem s_8 {l : Launch} {mi : jM} {α : Type} {emb : α → Option Value} {pc : Nat} {ls : List (Nat × Value)} {st : List Value} {H : jH} {o : Option (α × jH)} (q : Nat) (hw : jx1 mi.1 mi.2.1 pc 8 q = true) (k : JV l mi emb q ls (.int (5) :: st) H o) : JV l mi emb pc ls st H o := by
  obtain ⟨hw1, rfl⟩ := jx1_spec hw
  intro r H' ho
  obtain ⟨hm, kk⟩ := k r H' ho
  exact ⟨hm, fun c hc e1 n1 n2 Hr la locs hR hS hl => lv_iconst hc.1 rfl (jd_8 hc.2.1 hw1) (by decide) (kk c hc e1 n1 n2 Hr la locs hR hS hl)⟩
theorem s_9 {l : Launch} {mi : jM} {α : Type} {emb : α → Option Value} {pc : Nat} {ls : List (Nat × Value)} {st : List Value} {H : jH} {o : Option (α × jH)} (q : Nat) (hw : jx1 mi.1 mi.2.1 pc 9 q = true) (k : JV l mi emb q ls (.long (0) :: st) H o) : JV l mi emb pc ls st H o := by
  obtain ⟨hw1, rfl⟩ := jx1_spec hw
  intro r H' ho
  obtain ⟨hm, kk⟩ := k r H' ho
  exact ⟨hm, fun c hc e1 n1 n2 Hr la locs hR hS hl => lv_lconst hc.1 rfl (jd_9 hc.2.1 hw1) (by decide) (kk c hc e1 n1 n2 Hr la locs hR hS hl)⟩
theorem s_10 {l : Launch} {mi : jM} {α : Type} {emb : α → Option Value} {pc : Nat} {ls : List (Nat × Value)} {st : List Value} {H : jH} {o : Option (α × jH)} (q : Nat) (hw : jx1 mi.1 mi.2.1 pc 10 q = true) (k : JV l mi emb q ls (.long (1) :: st) H o) : JV l mi emb pc ls st H o := by
  obtain ⟨hw1, rfl⟩ := jx1_spec hw
  intro r H' ho
  obtain ⟨hm, kk⟩ := k r H' ho
  exact ⟨hm, fun c hc e1 n1 n2 Hr la locs hR hS hl => lv_lconst hc.1 rfl (jd_10 hc.2.1 hw1) (by decide) (kk c hc e1 n1 n2 Hr la locs hR hS hl)⟩
theorem s_1 {l : Launch} {mi : jM} {α : Type} {emb : α → Option Value} {pc : Nat} {ls : List (Nat × Value)} {st : List Value} {H : jH} {o : Option (α × jH)} (q : Nat) (hw : jx1 mi.1 mi.2.1 pc 1 q = true) (k : JV l mi emb q ls (.ref 0 :: st) H o) : JV l mi emb pc ls st H o := by
  obtain ⟨hw1, rfl⟩ := jx1_spec hw
  intro r H' ho
  obtain ⟨hm, kk⟩ := k r H' ho
  exact ⟨hm, fun c hc e1 n1 n2 Hr la locs hR hS hl => lv_null hc.1 rfl (jd_1 hc.2.1 hw1) (kk c hc e1 n1 n2 Hr la locs hR hS hl)⟩
theorem s_16 {l : Launch} {mi : jM} {α : Type} {emb : α → Option Value} {pc : Nat} {ls : List (Nat × Value)} {st : List Value} {H : jH} {o : Option (α × jH)} (b q : Nat) (v : Int32) (hv : (Int8.ofInt (Reader.signed 8 b)).toInt32 = v) (hw : jx2 mi.1 mi.2.1 pc 16 b q = true) (k : JV l mi emb q ls (.int v :: st) H o) : JV l mi emb pc ls st H o := by
  obtain ⟨hw1, rfl⟩ := jx2_spec hw
  intro r H' ho
  obtain ⟨hm, kk⟩ := k r H' ho
  exact ⟨hm, fun c hc e1 n1 n2 Hr la locs hR hS hl => lv_bipush hc.1 rfl (jd_16 hc.2.1 hw1) hv (kk c hc e1 n1 n2 Hr la locs hR hS hl)⟩
theorem s_17 {l : Launch} {mi : jM} {α : Type} {emb : α → Option Value} {pc : Nat} {ls : List (Nat × Value)} {st : List Value} {H : jH} {o : Option (α × jH)} (b d q : Nat) (v : Int32) (hv : (Int16.ofInt (Reader.signed 16 (b * 256 + d))).toInt32 = v) (hw : jx3 mi.1 mi.2.1 pc 17 b d q = true) (k : JV l mi emb q ls (.int v :: st) H o) : JV l mi emb pc ls st H o := by
  obtain ⟨hw1, rfl⟩ := jx3_spec hw
  intro r H' ho
  obtain ⟨hm, kk⟩ := k r H' ho
  exact ⟨hm, fun c hc e1 n1 n2 Hr la locs hR hS hl => lv_sipush hc.1 rfl (jd_17 hc.2.1 hw1) hv (kk c hc e1 n1 n2 Hr la locs hR hS hl)⟩
theorem s_18 {l : Launch} {mi : jM} {α : Type} {emb : α → Option Value} {pc : Nat} {ls : List (Nat × Value)} {st : List Value} {H : jH} {o : Option (α × jH)} (b q : Nat) (v : Int32) (hv : Jvm.Cond.constant mi.2.2.2.1 b v ∈ jws) (hw : jx2 mi.1 mi.2.1 pc 18 b q = true) (k : JV l mi emb q ls (.int v :: st) H o) : JV l mi emb pc ls st H o := by
  obtain ⟨hw1, rfl⟩ := jx2_spec hw
  intro r H' ho
  obtain ⟨hm, kk⟩ := k r H' ho
  exact ⟨hm, fun c hc e1 n1 n2 Hr la locs hR hS hl => lv_ldc hc.1 rfl hc.2.2.2.1 (hc.2.2.2.2.2.2.2.1 _ hv) (jd_18 hc.2.1 hw1) (kk c hc e1 n1 n2 Hr la locs hR hS hl)⟩
theorem s_19 {l : Launch} {mi : jM} {α : Type} {emb : α → Option Value} {pc : Nat} {ls : List (Nat × Value)} {st : List Value} {H : jH} {o : Option (α × jH)} (b d q n : Nat) (v : Int32) (hn : b * 256 + d = n) (hv : Jvm.Cond.constant mi.2.2.2.1 n v ∈ jws) (hw : jx3 mi.1 mi.2.1 pc 19 b d q = true) (k : JV l mi emb q ls (.int v :: st) H o) : JV l mi emb pc ls st H o := by
  obtain ⟨hw1, rfl⟩ := jx3_spec hw
  subst hn
  intro r H' ho
  obtain ⟨hm, kk⟩ := k r H' ho
  exact ⟨hm, fun c hc e1 n1 n2 Hr la locs hR hS hl => lv_ldcw hc.1 rfl hc.2.2.2.1 (hc.2.2.2.2.2.2.2.1 _ hv) (jd_19 hc.2.1 hw1) (kk c hc e1 n1 n2 Hr la locs hR hS hl)⟩
theorem s_20 {l : Launch} {mi : jM} {α : Type} {emb : α → Option Value} {pc : Nat} {ls : List (Nat × Value)} {st : List Value} {H : jH} {o : Option (α × jH)} (b d q n : Nat) (v : Int64) (hn : b * 256 + d = n) (hv : Jvm.Cond.constantLong mi.2.2.2.1 n v ∈ jws) (hw : jx3 mi.1 mi.2.1 pc 20 b d q = true) (k : JV l mi emb q ls (.long v :: st) H o) : JV l mi emb pc ls st H o := by
  obtain ⟨hw1, rfl⟩ := jx3_spec hw
  subst hn
  intro r H' ho
  obtain ⟨hm, kk⟩ := k r H' ho
  exact ⟨hm, fun c hc e1 n1 n2 Hr la locs hR hS hl => lv_ldc2 hc.1 rfl hc.2.2.2.1 (hc.2.2.2.2.2.2.2.1 _ hv) (jd_20 hc.2.1 hw1) (kk c hc e1 n1 n2 Hr la locs hR hS hl)⟩
theorem s_26 {l : Launch} {mi : jM} {α : Type} {emb : α → Option Value} {pc : Nat} {ls : List (Nat × Value)} {st : List Value} {H : jH} {o : Option (α × jH)} (q : Nat) {x : Int32} (hl0 : ls.lookup 0 = some (.int x)) (hw : jx1 mi.1 mi.2.1 pc 26 q = true) (k : JV l mi emb q ls (.int x :: st) H o) : JV l mi emb pc ls st H o := by
  obtain ⟨hw1, rfl⟩ := jx1_spec hw
  intro r H' ho
  obtain ⟨hm, kk⟩ := k r H' ho
  exact ⟨hm, fun c hc e1 n1 n2 Hr la locs hR hS hl => lv_iload_n (i := 0) hc.1 rfl (jd_26 hc.2.1 hw1) rfl (jLoc_at hl hl0) (kk c hc e1 n1 n2 Hr la locs hR hS hl)⟩
theorem s_27 {l : Launch} {mi : jM} {α : Type} {emb : α → Option Value} {pc : Nat} {ls : List (Nat × Value)} {st : List Value} {H : jH} {o : Option (α × jH)} (q : Nat) {x : Int32} (hl0 : ls.lookup 1 = some (.int x)) (hw : jx1 mi.1 mi.2.1 pc 27 q = true) (k : JV l mi emb q ls (.int x :: st) H o) : JV l mi emb pc ls st H o := by
  obtain ⟨hw1, rfl⟩ := jx1_spec hw
  intro r H' ho
  obtain ⟨hm, kk⟩ := k r H' ho
  exact ⟨hm, fun c hc e1 n1 n2 Hr la locs hR hS hl => lv_iload_n (i := 1) hc.1 rfl (jd_27 hc.2.1 hw1) rfl (jLoc_at hl hl0) (kk c hc e1 n1 n2 Hr la locs hR hS hl)⟩
theorem s_28 {l : Launch} {mi : jM} {α : Type} {emb : α → Option Value} {pc : Nat} {ls : List (Nat × Value)} {st : List Value} {H : jH} {o : Option (α × jH)} (q : Nat) {x : Int32} (hl0 : ls.lookup 2 = some (.int x)) (hw : jx1 mi.1 mi.2.1 pc 28 q = true) (k : JV l mi emb q ls (.int x :: st) H o) : JV l mi emb pc ls st H o := by
  obtain ⟨hw1, rfl⟩ := jx1_spec hw
  intro r H' ho
  obtain ⟨hm, kk⟩ := k r H' ho
  exact ⟨hm, fun c hc e1 n1 n2 Hr la locs hR hS hl => lv_iload_n (i := 2) hc.1 rfl (jd_28 hc.2.1 hw1) rfl (jLoc_at hl hl0) (kk c hc e1 n1 n2 Hr la locs hR hS hl)⟩
theorem s_29 {l : Launch} {mi : jM} {α : Type} {emb : α → Option Value} {pc : Nat} {ls : List (Nat × Value)} {st : List Value} {H : jH} {o : Option (α × jH)} (q : Nat) {x : Int32} (hl0 : ls.lookup 3 = some (.int x)) (hw : jx1 mi.1 mi.2.1 pc 29 q = true) (k : JV l mi emb q ls (.int x :: st) H o) : JV l mi emb pc ls st H o := by
  obtain ⟨hw1, rfl⟩ := jx1_spec hw
  intro r H' ho
  obtain ⟨hm, kk⟩ := k r H' ho
  exact ⟨hm, fun c hc e1 n1 n2 Hr la locs hR hS hl => lv_iload_n (i := 3) hc.1 rfl (jd_29 hc.2.1 hw1) rfl (jLoc_at hl hl0) (kk c hc e1 n1 n2 Hr la locs hR hS hl)⟩
theorem s_21 {l : Launch} {mi : jM} {α : Type} {emb : α → Option Value} {pc : Nat} {ls : List (Nat × Value)} {st : List Value} {H : jH} {o : Option (α × jH)} (i q : Nat) {x : Int32} (hl0 : ls.lookup i = some (.int x)) (hw : jx2 mi.1 mi.2.1 pc 21 i q = true) (k : JV l mi emb q ls (.int x :: st) H o) : JV l mi emb pc ls st H o := by
  obtain ⟨hw1, rfl⟩ := jx2_spec hw
  intro r H' ho
  obtain ⟨hm, kk⟩ := k r H' ho
  exact ⟨hm, fun c hc e1 n1 n2 Hr la locs hR hS hl => lv_iload hc.1 rfl (jd_21 hc.2.1 hw1) (jLoc_at hl hl0) (kk c hc e1 n1 n2 Hr la locs hR hS hl)⟩
theorem s_30 {l : Launch} {mi : jM} {α : Type} {emb : α → Option Value} {pc : Nat} {ls : List (Nat × Value)} {st : List Value} {H : jH} {o : Option (α × jH)} (q : Nat) {x : Int64} (hl0 : ls.lookup 0 = some (.long x)) (hw : jx1 mi.1 mi.2.1 pc 30 q = true) (k : JV l mi emb q ls (.long x :: st) H o) : JV l mi emb pc ls st H o := by
  obtain ⟨hw1, rfl⟩ := jx1_spec hw
  intro r H' ho
  obtain ⟨hm, kk⟩ := k r H' ho
  exact ⟨hm, fun c hc e1 n1 n2 Hr la locs hR hS hl => lv_lload_n (i := 0) hc.1 rfl (jd_30 hc.2.1 hw1) rfl (jLoc_at hl hl0) (kk c hc e1 n1 n2 Hr la locs hR hS hl)⟩
theorem s_31 {l : Launch} {mi : jM} {α : Type} {emb : α → Option Value} {pc : Nat} {ls : List (Nat × Value)} {st : List Value} {H : jH} {o : Option (α × jH)} (q : Nat) {x : Int64} (hl0 : ls.lookup 1 = some (.long x)) (hw : jx1 mi.1 mi.2.1 pc 31 q = true) (k : JV l mi emb q ls (.long x :: st) H o) : JV l mi emb pc ls st H o := by
  obtain ⟨hw1, rfl⟩ := jx1_spec hw
  intro r H' ho
  obtain ⟨hm, kk⟩ := k r H' ho
  exact ⟨hm, fun c hc e1 n1 n2 Hr la locs hR hS hl => lv_lload_n (i := 1) hc.1 rfl (jd_31 hc.2.1 hw1) rfl (jLoc_at hl hl0) (kk c hc e1 n1 n2 Hr la locs hR hS hl)⟩
theorem s_32 {l : Launch} {mi : jM} {α : Type} {emb : α → Option Value} {pc : Nat} {ls : List (Nat × Value)} {st : List Value} {H : jH} {o : Option (α × jH)} (q : Nat) {x : Int64} (hl0 : ls.lookup 2 = some (.long x)) (hw : jx1 mi.1 mi.2.1 pc 32 q = true) (k : JV l mi emb q ls (.long x :: st) H o) : JV l mi emb pc ls st H o := by
  obtain ⟨hw1, rfl⟩ := jx1_spec hw
  intro r H' ho
  obtain ⟨hm, kk⟩ := k r H' ho
  exact ⟨hm, fun c hc e1 n1 n2 Hr la locs hR hS hl => lv_lload_n (i := 2) hc.1 rfl (jd_32 hc.2.1 hw1) rfl (jLoc_at hl hl0) (kk c hc e1 n1 n2 Hr la locs hR hS hl)⟩
theorem s_33 {l : Launch} {mi : jM} {α : Type} {emb : α → Option Value} {pc : Nat} {ls : List (Nat × Value)} {st : List Value} {H : jH} {o : Option (α × jH)} (q : Nat) {x : Int64} (hl0 : ls.lookup 3 = some (.long x)) (hw : jx1 mi.1 mi.2.1 pc 33 q = true) (k : JV l mi emb q ls (.long x :: st) H o) : JV l mi emb pc ls st H o := by
  obtain ⟨hw1, rfl⟩ := jx1_spec hw
  intro r H' ho
  obtain ⟨hm, kk⟩ := k r H' ho
  exact ⟨hm, fun c hc e1 n1 n2 Hr la locs hR hS hl => lv_lload_n (i := 3) hc.1 rfl (jd_33 hc.2.1 hw1) rfl (jLoc_at hl hl0) (kk c hc e1 n1 n2 Hr la locs hR hS hl)⟩
theorem s_22 {l : Launch} {mi : jM} {α : Type} {emb : α → Option Value} {pc : Nat} {ls : List (Nat × Value)} {st : List Value} {H : jH} {o : Option (α × jH)} (i q : Nat) {x : Int64} (hl0 : ls.lookup i = some (.long x)) (hw : jx2 mi.1 mi.2.1 pc 22 i q = true) (k : JV l mi emb q ls (.long x :: st) H o) : JV l mi emb pc ls st H o := by
  obtain ⟨hw1, rfl⟩ := jx2_spec hw
  intro r H' ho
  obtain ⟨hm, kk⟩ := k r H' ho
  exact ⟨hm, fun c hc e1 n1 n2 Hr la locs hR hS hl => lv_lload hc.1 rfl (jd_22 hc.2.1 hw1) (jLoc_at hl hl0) (kk c hc e1 n1 n2 Hr la locs hR hS hl)⟩
theorem s_42 {l : Launch} {mi : jM} {α : Type} {emb : α → Option Value} {pc : Nat} {ls : List (Nat × Value)} {st : List Value} {H : jH} {o : Option (α × jH)} (q : Nat) {x : Nat} (hl0 : ls.lookup 0 = some (.ref x)) (hw : jx1 mi.1 mi.2.1 pc 42 q = true) (k : JV l mi emb q ls (.ref x :: st) H o) : JV l mi emb pc ls st H o := by
  obtain ⟨hw1, rfl⟩ := jx1_spec hw
  intro r H' ho
  obtain ⟨hm, kk⟩ := k r H' ho
  refine ⟨hm, fun c hc e1 n1 n2 Hr la locs hR hS hl => ?_⟩
  have h1 := kk c hc e1 n1 n2 Hr la locs hR hS hl
  have h2 := jLoc_at hl hl0
  simp only [jstk, List.map_cons, jv, jrv] at h1 h2
  by_cases hx : x = 0
  · rw [if_pos hx] at h1 h2
    exact lv_aload_nN (i := 0) hc.1 rfl (jd_42 hc.2.1 hw1) rfl h2 h1
  · rw [if_neg hx] at h1 h2
    exact lv_aload_n (i := 0) hc.1 rfl (jd_42 hc.2.1 hw1) rfl h2 h1
theorem s_43 {l : Launch} {mi : jM} {α : Type} {emb : α → Option Value} {pc : Nat} {ls : List (Nat × Value)} {st : List Value} {H : jH} {o : Option (α × jH)} (q : Nat) {x : Nat} (hl0 : ls.lookup 1 = some (.ref x)) (hw : jx1 mi.1 mi.2.1 pc 43 q = true) (k : JV l mi emb q ls (.ref x :: st) H o) : JV l mi emb pc ls st H o := by
  obtain ⟨hw1, rfl⟩ := jx1_spec hw
  intro r H' ho
  obtain ⟨hm, kk⟩ := k r H' ho
  refine ⟨hm, fun c hc e1 n1 n2 Hr la locs hR hS hl => ?_⟩
  have h1 := kk c hc e1 n1 n2 Hr la locs hR hS hl
  have h2 := jLoc_at hl hl0
  simp only [jstk, List.map_cons, jv, jrv] at h1 h2
  by_cases hx : x = 0
  · rw [if_pos hx] at h1 h2
    exact lv_aload_nN (i := 1) hc.1 rfl (jd_43 hc.2.1 hw1) rfl h2 h1
  · rw [if_neg hx] at h1 h2
    exact lv_aload_n (i := 1) hc.1 rfl (jd_43 hc.2.1 hw1) rfl h2 h1
theorem s_44 {l : Launch} {mi : jM} {α : Type} {emb : α → Option Value} {pc : Nat} {ls : List (Nat × Value)} {st : List Value} {H : jH} {o : Option (α × jH)} (q : Nat) {x : Nat} (hl0 : ls.lookup 2 = some (.ref x)) (hw : jx1 mi.1 mi.2.1 pc 44 q = true) (k : JV l mi emb q ls (.ref x :: st) H o) : JV l mi emb pc ls st H o := by
  obtain ⟨hw1, rfl⟩ := jx1_spec hw
  intro r H' ho
  obtain ⟨hm, kk⟩ := k r H' ho
  refine ⟨hm, fun c hc e1 n1 n2 Hr la locs hR hS hl => ?_⟩
  have h1 := kk c hc e1 n1 n2 Hr la locs hR hS hl
  have h2 := jLoc_at hl hl0
  simp only [jstk, List.map_cons, jv, jrv] at h1 h2
  by_cases hx : x = 0
  · rw [if_pos hx] at h1 h2
    exact lv_aload_nN (i := 2) hc.1 rfl (jd_44 hc.2.1 hw1) rfl h2 h1
  · rw [if_neg hx] at h1 h2
    exact lv_aload_n (i := 2) hc.1 rfl (jd_44 hc.2.1 hw1) rfl h2 h1
theorem s_45 {l : Launch} {mi : jM} {α : Type} {emb : α → Option Value} {pc : Nat} {ls : List (Nat × Value)} {st : List Value} {H : jH} {o : Option (α × jH)} (q : Nat) {x : Nat} (hl0 : ls.lookup 3 = some (.ref x)) (hw : jx1 mi.1 mi.2.1 pc 45 q = true) (k : JV l mi emb q ls (.ref x :: st) H o) : JV l mi emb pc ls st H o := by
  obtain ⟨hw1, rfl⟩ := jx1_spec hw
  intro r H' ho
  obtain ⟨hm, kk⟩ := k r H' ho
  refine ⟨hm, fun c hc e1 n1 n2 Hr la locs hR hS hl => ?_⟩
  have h1 := kk c hc e1 n1 n2 Hr la locs hR hS hl
  have h2 := jLoc_at hl hl0
  simp only [jstk, List.map_cons, jv, jrv] at h1 h2
  by_cases hx : x = 0
  · rw [if_pos hx] at h1 h2
    exact lv_aload_nN (i := 3) hc.1 rfl (jd_45 hc.2.1 hw1) rfl h2 h1
  · rw [if_neg hx] at h1 h2
    exact lv_aload_n (i := 3) hc.1 rfl (jd_45 hc.2.1 hw1) rfl h2 h1
theorem s_25 {l : Launch} {mi : jM} {α : Type} {emb : α → Option Value} {pc : Nat} {ls : List (Nat × Value)} {st : List Value} {H : jH} {o : Option (α × jH)} (i q : Nat) {x : Nat} (hl0 : ls.lookup i = some (.ref x)) (hw : jx2 mi.1 mi.2.1 pc 25 i q = true) (k : JV l mi emb q ls (.ref x :: st) H o) : JV l mi emb pc ls st H o := by
  obtain ⟨hw1, rfl⟩ := jx2_spec hw
  intro r H' ho
  obtain ⟨hm, kk⟩ := k r H' ho
  refine ⟨hm, fun c hc e1 n1 n2 Hr la locs hR hS hl => ?_⟩
  have h1 := kk c hc e1 n1 n2 Hr la locs hR hS hl
  have h2 := jLoc_at hl hl0
  simp only [jstk, List.map_cons, jv, jrv] at h1 h2
  by_cases hx : x = 0
  · rw [if_pos hx] at h1 h2
    exact lv_aloadN hc.1 rfl (jd_25 hc.2.1 hw1) h2 h1
  · rw [if_neg hx] at h1 h2
    exact lv_aload hc.1 rfl (jd_25 hc.2.1 hw1) h2 h1
theorem s_59 {l : Launch} {mi : jM} {α : Type} {emb : α → Option Value} {pc : Nat} {ls : List (Nat × Value)} {st : List Value} {H : jH} {o : Option (α × jH)} (q : Nat) {e : Int32} (hn : jst1 mi.2.2.1 ls 0 = true) (hw : jx1 mi.1 mi.2.1 pc 59 q = true) (k : JV l mi emb q ((0, .int e) :: ls) st H o) : JV l mi emb pc ls (.int e :: st) H o := by
  obtain ⟨hw1, rfl⟩ := jx1_spec hw
  intro r H' ho
  obtain ⟨hm, kk⟩ := k r H' ho
  have hn := jst1_spec hn
  exact ⟨hm, fun c hc e1 n1 n2 Hr la locs hR hS hl => lv_istore_n (i := 0) hc.1 rfl (jd_59 hc.2.1 hw1) rfl (jLoc_has hl) hn.1 rfl fun la2 h2 => kk c hc e1 n1 n2 Hr la2 locs hR hS (jLoc_store hn.2 h2)⟩
theorem s_59L {l : Launch} {mi : jM} {α : Type} {emb : α → Option Value} {pc : Nat} {ls : List (Nat × Value)} {st : List Value} {H : jH} (q : Nat) {e : Int32} {k0 : Int32 → Option (α × jH)} (hn : jst1 mi.2.2.1 ls 0 = true) (hw : jx1 mi.1 mi.2.1 pc 59 q = true) (k : ∀ x, JV l mi emb q ((0, .int x) :: ls) st H (k0 x)) : JV l mi emb pc ls (.int e :: st) H (jl e k0) := by
  obtain ⟨hw1, rfl⟩ := jx1_spec hw
  intro r H' ho
  obtain ⟨hm, kk⟩ := k e r H' ho
  have hn := jst1_spec hn
  exact ⟨hm, fun c hc e1 n1 n2 Hr la locs hR hS hl => lv_istore_n (i := 0) hc.1 rfl (jd_59 hc.2.1 hw1) rfl (jLoc_has hl) hn.1 rfl fun la2 h2 => kk c hc e1 n1 n2 Hr la2 locs hR hS (jLoc_store hn.2 h2)⟩
theorem s_60 {l : Launch} {mi : jM} {α : Type} {emb : α → Option Value} {pc : Nat} {ls : List (Nat × Value)} {st : List Value} {H : jH} {o : Option (α × jH)} (q : Nat) {e : Int32} (hn : jst1 mi.2.2.1 ls 1 = true) (hw : jx1 mi.1 mi.2.1 pc 60 q = true) (k : JV l mi emb q ((1, .int e) :: ls) st H o) : JV l mi emb pc ls (.int e :: st) H o := by
  obtain ⟨hw1, rfl⟩ := jx1_spec hw
  intro r H' ho
  obtain ⟨hm, kk⟩ := k r H' ho
  have hn := jst1_spec hn
  exact ⟨hm, fun c hc e1 n1 n2 Hr la locs hR hS hl => lv_istore_n (i := 1) hc.1 rfl (jd_60 hc.2.1 hw1) rfl (jLoc_has hl) hn.1 rfl fun la2 h2 => kk c hc e1 n1 n2 Hr la2 locs hR hS (jLoc_store hn.2 h2)⟩
theorem s_60L {l : Launch} {mi : jM} {α : Type} {emb : α → Option Value} {pc : Nat} {ls : List (Nat × Value)} {st : List Value} {H : jH} (q : Nat) {e : Int32} {k0 : Int32 → Option (α × jH)} (hn : jst1 mi.2.2.1 ls 1 = true) (hw : jx1 mi.1 mi.2.1 pc 60 q = true) (k : ∀ x, JV l mi emb q ((1, .int x) :: ls) st H (k0 x)) : JV l mi emb pc ls (.int e :: st) H (jl e k0) := by
  obtain ⟨hw1, rfl⟩ := jx1_spec hw
  intro r H' ho
  obtain ⟨hm, kk⟩ := k e r H' ho
  have hn := jst1_spec hn
  exact ⟨hm, fun c hc e1 n1 n2 Hr la locs hR hS hl => lv_istore_n (i := 1) hc.1 rfl (jd_60 hc.2.1 hw1) rfl (jLoc_has hl) hn.1 rfl fun la2 h2 => kk c hc e1 n1 n2 Hr la2 locs hR hS (jLoc_store hn.2 h2)⟩
theorem s_61 {l : Launch} {mi : jM} {α : Type} {emb : α → Option Value} {pc : Nat} {ls : List (Nat × Value)} {st : List Value} {H : jH} {o : Option (α × jH)} (q : Nat) {e : Int32} (hn : jst1 mi.2.2.1 ls 2 = true) (hw : jx1 mi.1 mi.2.1 pc 61 q = true) (k : JV l mi emb q ((2, .int e) :: ls) st H o) : JV l mi emb pc ls (.int e :: st) H o := by
  obtain ⟨hw1, rfl⟩ := jx1_spec hw
  intro r H' ho
  obtain ⟨hm, kk⟩ := k r H' ho
  have hn := jst1_spec hn
  exact ⟨hm, fun c hc e1 n1 n2 Hr la locs hR hS hl => lv_istore_n (i := 2) hc.1 rfl (jd_61 hc.2.1 hw1) rfl (jLoc_has hl) hn.1 rfl fun la2 h2 => kk c hc e1 n1 n2 Hr la2 locs hR hS (jLoc_store hn.2 h2)⟩
theorem s_61L {l : Launch} {mi : jM} {α : Type} {emb : α → Option Value} {pc : Nat} {ls : List (Nat × Value)} {st : List Value} {H : jH} (q : Nat) {e : Int32} {k0 : Int32 → Option (α × jH)} (hn : jst1 mi.2.2.1 ls 2 = true) (hw : jx1 mi.1 mi.2.1 pc 61 q = true) (k : ∀ x, JV l mi emb q ((2, .int x) :: ls) st H (k0 x)) : JV l mi emb pc ls (.int e :: st) H (jl e k0) := by
  obtain ⟨hw1, rfl⟩ := jx1_spec hw
  intro r H' ho
  obtain ⟨hm, kk⟩ := k e r H' ho
  have hn := jst1_spec hn
  exact ⟨hm, fun c hc e1 n1 n2 Hr la locs hR hS hl => lv_istore_n (i := 2) hc.1 rfl (jd_61 hc.2.1 hw1) rfl (jLoc_has hl) hn.1 rfl fun la2 h2 => kk c hc e1 n1 n2 Hr la2 locs hR hS (jLoc_store hn.2 h2)⟩
theorem s_62 {l : Launch} {mi : jM} {α : Type} {emb : α → Option Value} {pc : Nat} {ls : List (Nat × Value)} {st : List Value} {H : jH} {o : Option (α × jH)} (q : Nat) {e : Int32} (hn : jst1 mi.2.2.1 ls 3 = true) (hw : jx1 mi.1 mi.2.1 pc 62 q = true) (k : JV l mi emb q ((3, .int e) :: ls) st H o) : JV l mi emb pc ls (.int e :: st) H o := by
  obtain ⟨hw1, rfl⟩ := jx1_spec hw
  intro r H' ho
  obtain ⟨hm, kk⟩ := k r H' ho
  have hn := jst1_spec hn
  exact ⟨hm, fun c hc e1 n1 n2 Hr la locs hR hS hl => lv_istore_n (i := 3) hc.1 rfl (jd_62 hc.2.1 hw1) rfl (jLoc_has hl) hn.1 rfl fun la2 h2 => kk c hc e1 n1 n2 Hr la2 locs hR hS (jLoc_store hn.2 h2)⟩
theorem s_62L {l : Launch} {mi : jM} {α : Type} {emb : α → Option Value} {pc : Nat} {ls : List (Nat × Value)} {st : List Value} {H : jH} (q : Nat) {e : Int32} {k0 : Int32 → Option (α × jH)} (hn : jst1 mi.2.2.1 ls 3 = true) (hw : jx1 mi.1 mi.2.1 pc 62 q = true) (k : ∀ x, JV l mi emb q ((3, .int x) :: ls) st H (k0 x)) : JV l mi emb pc ls (.int e :: st) H (jl e k0) := by
  obtain ⟨hw1, rfl⟩ := jx1_spec hw
  intro r H' ho
  obtain ⟨hm, kk⟩ := k e r H' ho
  have hn := jst1_spec hn
  exact ⟨hm, fun c hc e1 n1 n2 Hr la locs hR hS hl => lv_istore_n (i := 3) hc.1 rfl (jd_62 hc.2.1 hw1) rfl (jLoc_has hl) hn.1 rfl fun la2 h2 => kk c hc e1 n1 n2 Hr la2 locs hR hS (jLoc_store hn.2 h2)⟩
theorem s_54 {l : Launch} {mi : jM} {α : Type} {emb : α → Option Value} {pc : Nat} {ls : List (Nat × Value)} {st : List Value} {H : jH} {o : Option (α × jH)} (i q : Nat) {e : Int32} (hn : jst1 mi.2.2.1 ls i = true) (hw : jx2 mi.1 mi.2.1 pc 54 i q = true) (k : JV l mi emb q ((i, .int e) :: ls) st H o) : JV l mi emb pc ls (.int e :: st) H o := by
  obtain ⟨hw1, rfl⟩ := jx2_spec hw
  intro r H' ho
  obtain ⟨hm, kk⟩ := k r H' ho
  have hn := jst1_spec hn
  exact ⟨hm, fun c hc e1 n1 n2 Hr la locs hR hS hl => lv_istore hc.1 rfl (jd_54 hc.2.1 hw1) (jLoc_has hl) hn.1 rfl fun la2 h2 => kk c hc e1 n1 n2 Hr la2 locs hR hS (jLoc_store hn.2 h2)⟩
theorem s_54L {l : Launch} {mi : jM} {α : Type} {emb : α → Option Value} {pc : Nat} {ls : List (Nat × Value)} {st : List Value} {H : jH} (i q : Nat) {e : Int32} {k0 : Int32 → Option (α × jH)} (hn : jst1 mi.2.2.1 ls i = true) (hw : jx2 mi.1 mi.2.1 pc 54 i q = true) (k : ∀ x, JV l mi emb q ((i, .int x) :: ls) st H (k0 x)) : JV l mi emb pc ls (.int e :: st) H (jl e k0) := by
  obtain ⟨hw1, rfl⟩ := jx2_spec hw
  intro r H' ho
  obtain ⟨hm, kk⟩ := k e r H' ho
  have hn := jst1_spec hn
  exact ⟨hm, fun c hc e1 n1 n2 Hr la locs hR hS hl => lv_istore hc.1 rfl (jd_54 hc.2.1 hw1) (jLoc_has hl) hn.1 rfl fun la2 h2 => kk c hc e1 n1 n2 Hr la2 locs hR hS (jLoc_store hn.2 h2)⟩
theorem s_63 {l : Launch} {mi : jM} {α : Type} {emb : α → Option Value} {pc : Nat} {ls : List (Nat × Value)} {st : List Value} {H : jH} {o : Option (α × jH)} (q : Nat) {e : Int64} (hn : jst2 mi.2.2.1 ls 0 = true) (hw : jx1 mi.1 mi.2.1 pc 63 q = true) (k : JV l mi emb q ((0, .long e) :: ls) st H o) : JV l mi emb pc ls (.long e :: st) H o := by
  obtain ⟨hw1, rfl⟩ := jx1_spec hw
  intro r H' ho
  obtain ⟨hm, kk⟩ := k r H' ho
  have hn := jst2_spec hn
  exact ⟨hm, fun c hc e1 n1 n2 Hr la locs hR hS hl => lv_lstore_n (i := 0) hc.1 rfl (jd_63 hc.2.1 hw1) rfl (jLoc_has hl) hn.1 rfl fun la2 h2 => kk c hc e1 n1 n2 Hr la2 locs hR hS (jLoc_store2 hn.2.1 hn.2.2 h2)⟩
theorem s_63L {l : Launch} {mi : jM} {α : Type} {emb : α → Option Value} {pc : Nat} {ls : List (Nat × Value)} {st : List Value} {H : jH} (q : Nat) {e : Int64} {k0 : Int64 → Option (α × jH)} (hn : jst2 mi.2.2.1 ls 0 = true) (hw : jx1 mi.1 mi.2.1 pc 63 q = true) (k : ∀ x, JV l mi emb q ((0, .long x) :: ls) st H (k0 x)) : JV l mi emb pc ls (.long e :: st) H (jl e k0) := by
  obtain ⟨hw1, rfl⟩ := jx1_spec hw
  intro r H' ho
  obtain ⟨hm, kk⟩ := k e r H' ho
  have hn := jst2_spec hn
  exact ⟨hm, fun c hc e1 n1 n2 Hr la locs hR hS hl => lv_lstore_n (i := 0) hc.1 rfl (jd_63 hc.2.1 hw1) rfl (jLoc_has hl) hn.1 rfl fun la2 h2 => kk c hc e1 n1 n2 Hr la2 locs hR hS (jLoc_store2 hn.2.1 hn.2.2 h2)⟩
theorem s_64 {l : Launch} {mi : jM} {α : Type} {emb : α → Option Value} {pc : Nat} {ls : List (Nat × Value)} {st : List Value} {H : jH} {o : Option (α × jH)} (q : Nat) {e : Int64} (hn : jst2 mi.2.2.1 ls 1 = true) (hw : jx1 mi.1 mi.2.1 pc 64 q = true) (k : JV l mi emb q ((1, .long e) :: ls) st H o) : JV l mi emb pc ls (.long e :: st) H o := by
  obtain ⟨hw1, rfl⟩ := jx1_spec hw
  intro r H' ho
  obtain ⟨hm, kk⟩ := k r H' ho
  have hn := jst2_spec hn
  exact ⟨hm, fun c hc e1 n1 n2 Hr la locs hR hS hl => lv_lstore_n (i := 1) hc.1 rfl (jd_64 hc.2.1 hw1) rfl (jLoc_has hl) hn.1 rfl fun la2 h2 => kk c hc e1 n1 n2 Hr la2 locs hR hS (jLoc_store2 hn.2.1 hn.2.2 h2)⟩
theorem s_64L {l : Launch} {mi : jM} {α : Type} {emb : α → Option Value} {pc : Nat} {ls : List (Nat × Value)} {st : List Value} {H : jH} (q : Nat) {e : Int64} {k0 : Int64 → Option (α × jH)} (hn : jst2 mi.2.2.1 ls 1 = true) (hw : jx1 mi.1 mi.2.1 pc 64 q = true) (k : ∀ x, JV l mi emb q ((1, .long x) :: ls) st H (k0 x)) : JV l mi emb pc ls (.long e :: st) H (jl e k0) := by
  obtain ⟨hw1, rfl⟩ := jx1_spec hw
  intro r H' ho
  obtain ⟨hm, kk⟩ := k e r H' ho
  have hn := jst2_spec hn
  exact ⟨hm, fun c hc e1 n1 n2 Hr la locs hR hS hl => lv_lstore_n (i := 1) hc.1 rfl (jd_64 hc.2.1 hw1) rfl (jLoc_has hl) hn.1 rfl fun la2 h2 => kk c hc e1 n1 n2 Hr la2 locs hR hS (jLoc_store2 hn.2.1 hn.2.2 h2)⟩
theorem s_65 {l : Launch} {mi : jM} {α : Type} {emb : α → Option Value} {pc : Nat} {ls : List (Nat × Value)} {st : List Value} {H : jH} {o : Option (α × jH)} (q : Nat) {e : Int64} (hn : jst2 mi.2.2.1 ls 2 = true) (hw : jx1 mi.1 mi.2.1 pc 65 q = true) (k : JV l mi emb q ((2, .long e) :: ls) st H o) : JV l mi emb pc ls (.long e :: st) H o := by
  obtain ⟨hw1, rfl⟩ := jx1_spec hw
  intro r H' ho
  obtain ⟨hm, kk⟩ := k r H' ho
  have hn := jst2_spec hn
  exact ⟨hm, fun c hc e1 n1 n2 Hr la locs hR hS hl => lv_lstore_n (i := 2) hc.1 rfl (jd_65 hc.2.1 hw1) rfl (jLoc_has hl) hn.1 rfl fun la2 h2 => kk c hc e1 n1 n2 Hr la2 locs hR hS (jLoc_store2 hn.2.1 hn.2.2 h2)⟩
theorem s_65L {l : Launch} {mi : jM} {α : Type} {emb : α → Option Value} {pc : Nat} {ls : List (Nat × Value)} {st : List Value} {H : jH} (q : Nat) {e : Int64} {k0 : Int64 → Option (α × jH)} (hn : jst2 mi.2.2.1 ls 2 = true) (hw : jx1 mi.1 mi.2.1 pc 65 q = true) (k : ∀ x, JV l mi emb q ((2, .long x) :: ls) st H (k0 x)) : JV l mi emb pc ls (.long e :: st) H (jl e k0) := by
  obtain ⟨hw1, rfl⟩ := jx1_spec hw
  intro r H' ho
  obtain ⟨hm, kk⟩ := k e r H' ho
  have hn := jst2_spec hn
  exact ⟨hm, fun c hc e1 n1 n2 Hr la locs hR hS hl => lv_lstore_n (i := 2) hc.1 rfl (jd_65 hc.2.1 hw1) rfl (jLoc_has hl) hn.1 rfl fun la2 h2 => kk c hc e1 n1 n2 Hr la2 locs hR hS (jLoc_store2 hn.2.1 hn.2.2 h2)⟩
theorem s_66 {l : Launch} {mi : jM} {α : Type} {emb : α → Option Value} {pc : Nat} {ls : List (Nat × Value)} {st : List Value} {H : jH} {o : Option (α × jH)} (q : Nat) {e : Int64} (hn : jst2 mi.2.2.1 ls 3 = true) (hw : jx1 mi.1 mi.2.1 pc 66 q = true) (k : JV l mi emb q ((3, .long e) :: ls) st H o) : JV l mi emb pc ls (.long e :: st) H o := by
  obtain ⟨hw1, rfl⟩ := jx1_spec hw
  intro r H' ho
  obtain ⟨hm, kk⟩ := k r H' ho
  have hn := jst2_spec hn
  exact ⟨hm, fun c hc e1 n1 n2 Hr la locs hR hS hl => lv_lstore_n (i := 3) hc.1 rfl (jd_66 hc.2.1 hw1) rfl (jLoc_has hl) hn.1 rfl fun la2 h2 => kk c hc e1 n1 n2 Hr la2 locs hR hS (jLoc_store2 hn.2.1 hn.2.2 h2)⟩
theorem s_66L {l : Launch} {mi : jM} {α : Type} {emb : α → Option Value} {pc : Nat} {ls : List (Nat × Value)} {st : List Value} {H : jH} (q : Nat) {e : Int64} {k0 : Int64 → Option (α × jH)} (hn : jst2 mi.2.2.1 ls 3 = true) (hw : jx1 mi.1 mi.2.1 pc 66 q = true) (k : ∀ x, JV l mi emb q ((3, .long x) :: ls) st H (k0 x)) : JV l mi emb pc ls (.long e :: st) H (jl e k0) := by
  obtain ⟨hw1, rfl⟩ := jx1_spec hw
  intro r H' ho
  obtain ⟨hm, kk⟩ := k e r H' ho
  have hn := jst2_spec hn
  exact ⟨hm, fun c hc e1 n1 n2 Hr la locs hR hS hl => lv_lstore_n (i := 3) hc.1 rfl (jd_66 hc.2.1 hw1) rfl (jLoc_has hl) hn.1 rfl fun la2 h2 => kk c hc e1 n1 n2 Hr la2 locs hR hS (jLoc_store2 hn.2.1 hn.2.2 h2)⟩
theorem s_55 {l : Launch} {mi : jM} {α : Type} {emb : α → Option Value} {pc : Nat} {ls : List (Nat × Value)} {st : List Value} {H : jH} {o : Option (α × jH)} (i q : Nat) {e : Int64} (hn : jst2 mi.2.2.1 ls i = true) (hw : jx2 mi.1 mi.2.1 pc 55 i q = true) (k : JV l mi emb q ((i, .long e) :: ls) st H o) : JV l mi emb pc ls (.long e :: st) H o := by
  obtain ⟨hw1, rfl⟩ := jx2_spec hw
  intro r H' ho
  obtain ⟨hm, kk⟩ := k r H' ho
  have hn := jst2_spec hn
  exact ⟨hm, fun c hc e1 n1 n2 Hr la locs hR hS hl => lv_lstore hc.1 rfl (jd_55 hc.2.1 hw1) (jLoc_has hl) hn.1 rfl fun la2 h2 => kk c hc e1 n1 n2 Hr la2 locs hR hS (jLoc_store2 hn.2.1 hn.2.2 h2)⟩
theorem s_55L {l : Launch} {mi : jM} {α : Type} {emb : α → Option Value} {pc : Nat} {ls : List (Nat × Value)} {st : List Value} {H : jH} (i q : Nat) {e : Int64} {k0 : Int64 → Option (α × jH)} (hn : jst2 mi.2.2.1 ls i = true) (hw : jx2 mi.1 mi.2.1 pc 55 i q = true) (k : ∀ x, JV l mi emb q ((i, .long x) :: ls) st H (k0 x)) : JV l mi emb pc ls (.long e :: st) H (jl e k0) := by
  obtain ⟨hw1, rfl⟩ := jx2_spec hw
  intro r H' ho
  obtain ⟨hm, kk⟩ := k e r H' ho
  have hn := jst2_spec hn
  exact ⟨hm, fun c hc e1 n1 n2 Hr la locs hR hS hl => lv_lstore hc.1 rfl (jd_55 hc.2.1 hw1) (jLoc_has hl) hn.1 rfl fun la2 h2 => kk c hc e1 n1 n2 Hr la2 locs hR hS (jLoc_store2 hn.2.1 hn.2.2 h2)⟩
theorem s_75 {l : Launch} {mi : jM} {α : Type} {emb : α → Option Value} {pc : Nat} {ls : List (Nat × Value)} {st : List Value} {H : jH} {o : Option (α × jH)} (q : Nat) {e : Nat} (hn : jst1 mi.2.2.1 ls 0 = true) (hw : jx1 mi.1 mi.2.1 pc 75 q = true) (k : JV l mi emb q ((0, .ref e) :: ls) st H o) : JV l mi emb pc ls (.ref e :: st) H o := by
  obtain ⟨hw1, rfl⟩ := jx1_spec hw
  intro r H' ho
  obtain ⟨hm, kk⟩ := k r H' ho
  have hn := jst1_spec hn
  refine ⟨hm, fun c hc e1 n1 n2 Hr la locs hR hS hl => ?_⟩
  have h3 : ∀ la2, lv_has la2 mi.2.2.1 ((0, jv c.2.2.1 (.ref e)) :: (jE c.2.2.1 ls).filter (fun q => !(q.1 == 0) && !(q.1 + 1 == 0 && q.2.category == 2))) → _ := fun la2 h2 => kk c hc e1 n1 n2 Hr la2 locs hR hS (jLoc_store hn.2 h2)
  simp only [jstk, List.map_cons, jv, jrv] at h3 ⊢
  by_cases hx : e = 0
  · simp only [if_pos hx] at h3 ⊢
    exact lv_astore_nN (i := 0) hc.1 rfl (jd_75 hc.2.1 hw1) rfl (jLoc_has hl) hn.1 rfl h3
  · simp only [if_neg hx] at h3 ⊢
    exact lv_astore_n (i := 0) hc.1 rfl (jd_75 hc.2.1 hw1) rfl (jLoc_has hl) hn.1 rfl h3
theorem s_75L {l : Launch} {mi : jM} {α : Type} {emb : α → Option Value} {pc : Nat} {ls : List (Nat × Value)} {st : List Value} {H : jH} (q : Nat) {e : Nat} {k0 : Nat → Option (α × jH)} (hn : jst1 mi.2.2.1 ls 0 = true) (hw : jx1 mi.1 mi.2.1 pc 75 q = true) (k : ∀ x, JV l mi emb q ((0, .ref x) :: ls) st H (k0 x)) : JV l mi emb pc ls (.ref e :: st) H (jl e k0) := by
  obtain ⟨hw1, rfl⟩ := jx1_spec hw
  intro r H' ho
  obtain ⟨hm, kk⟩ := k e r H' ho
  have hn := jst1_spec hn
  refine ⟨hm, fun c hc e1 n1 n2 Hr la locs hR hS hl => ?_⟩
  have h3 : ∀ la2, lv_has la2 mi.2.2.1 ((0, jv c.2.2.1 (.ref e)) :: (jE c.2.2.1 ls).filter (fun q => !(q.1 == 0) && !(q.1 + 1 == 0 && q.2.category == 2))) → _ := fun la2 h2 => kk c hc e1 n1 n2 Hr la2 locs hR hS (jLoc_store hn.2 h2)
  simp only [jstk, List.map_cons, jv, jrv] at h3 ⊢
  by_cases hx : e = 0
  · simp only [if_pos hx] at h3 ⊢
    exact lv_astore_nN (i := 0) hc.1 rfl (jd_75 hc.2.1 hw1) rfl (jLoc_has hl) hn.1 rfl h3
  · simp only [if_neg hx] at h3 ⊢
    exact lv_astore_n (i := 0) hc.1 rfl (jd_75 hc.2.1 hw1) rfl (jLoc_has hl) hn.1 rfl h3
theorem s_76 {l : Launch} {mi : jM} {α : Type} {emb : α → Option Value} {pc : Nat} {ls : List (Nat × Value)} {st : List Value} {H : jH} {o : Option (α × jH)} (q : Nat) {e : Nat} (hn : jst1 mi.2.2.1 ls 1 = true) (hw : jx1 mi.1 mi.2.1 pc 76 q = true) (k : JV l mi emb q ((1, .ref e) :: ls) st H o) : JV l mi emb pc ls (.ref e :: st) H o := by
  obtain ⟨hw1, rfl⟩ := jx1_spec hw
  intro r H' ho
  obtain ⟨hm, kk⟩ := k r H' ho
  have hn := jst1_spec hn
  refine ⟨hm, fun c hc e1 n1 n2 Hr la locs hR hS hl => ?_⟩
  have h3 : ∀ la2, lv_has la2 mi.2.2.1 ((1, jv c.2.2.1 (.ref e)) :: (jE c.2.2.1 ls).filter (fun q => !(q.1 == 1) && !(q.1 + 1 == 1 && q.2.category == 2))) → _ := fun la2 h2 => kk c hc e1 n1 n2 Hr la2 locs hR hS (jLoc_store hn.2 h2)
  simp only [jstk, List.map_cons, jv, jrv] at h3 ⊢
  by_cases hx : e = 0
  · simp only [if_pos hx] at h3 ⊢
    exact lv_astore_nN (i := 1) hc.1 rfl (jd_76 hc.2.1 hw1) rfl (jLoc_has hl) hn.1 rfl h3
  · simp only [if_neg hx] at h3 ⊢
    exact lv_astore_n (i := 1) hc.1 rfl (jd_76 hc.2.1 hw1) rfl (jLoc_has hl) hn.1 rfl h3
theorem s_76L {l : Launch} {mi : jM} {α : Type} {emb : α → Option Value} {pc : Nat} {ls : List (Nat × Value)} {st : List Value} {H : jH} (q : Nat) {e : Nat} {k0 : Nat → Option (α × jH)} (hn : jst1 mi.2.2.1 ls 1 = true) (hw : jx1 mi.1 mi.2.1 pc 76 q = true) (k : ∀ x, JV l mi emb q ((1, .ref x) :: ls) st H (k0 x)) : JV l mi emb pc ls (.ref e :: st) H (jl e k0) := by
  obtain ⟨hw1, rfl⟩ := jx1_spec hw
  intro r H' ho
  obtain ⟨hm, kk⟩ := k e r H' ho
  have hn := jst1_spec hn
  refine ⟨hm, fun c hc e1 n1 n2 Hr la locs hR hS hl => ?_⟩
  have h3 : ∀ la2, lv_has la2 mi.2.2.1 ((1, jv c.2.2.1 (.ref e)) :: (jE c.2.2.1 ls).filter (fun q => !(q.1 == 1) && !(q.1 + 1 == 1 && q.2.category == 2))) → _ := fun la2 h2 => kk c hc e1 n1 n2 Hr la2 locs hR hS (jLoc_store hn.2 h2)
  simp only [jstk, List.map_cons, jv, jrv] at h3 ⊢
  by_cases hx : e = 0
  · simp only [if_pos hx] at h3 ⊢
    exact lv_astore_nN (i := 1) hc.1 rfl (jd_76 hc.2.1 hw1) rfl (jLoc_has hl) hn.1 rfl h3
  · simp only [if_neg hx] at h3 ⊢
    exact lv_astore_n (i := 1) hc.1 rfl (jd_76 hc.2.1 hw1) rfl (jLoc_has hl) hn.1 rfl h3
theorem s_77 {l : Launch} {mi : jM} {α : Type} {emb : α → Option Value} {pc : Nat} {ls : List (Nat × Value)} {st : List Value} {H : jH} {o : Option (α × jH)} (q : Nat) {e : Nat} (hn : jst1 mi.2.2.1 ls 2 = true) (hw : jx1 mi.1 mi.2.1 pc 77 q = true) (k : JV l mi emb q ((2, .ref e) :: ls) st H o) : JV l mi emb pc ls (.ref e :: st) H o := by
  obtain ⟨hw1, rfl⟩ := jx1_spec hw
  intro r H' ho
  obtain ⟨hm, kk⟩ := k r H' ho
  have hn := jst1_spec hn
  refine ⟨hm, fun c hc e1 n1 n2 Hr la locs hR hS hl => ?_⟩
  have h3 : ∀ la2, lv_has la2 mi.2.2.1 ((2, jv c.2.2.1 (.ref e)) :: (jE c.2.2.1 ls).filter (fun q => !(q.1 == 2) && !(q.1 + 1 == 2 && q.2.category == 2))) → _ := fun la2 h2 => kk c hc e1 n1 n2 Hr la2 locs hR hS (jLoc_store hn.2 h2)
  simp only [jstk, List.map_cons, jv, jrv] at h3 ⊢
  by_cases hx : e = 0
  · simp only [if_pos hx] at h3 ⊢
    exact lv_astore_nN (i := 2) hc.1 rfl (jd_77 hc.2.1 hw1) rfl (jLoc_has hl) hn.1 rfl h3
  · simp only [if_neg hx] at h3 ⊢
    exact lv_astore_n (i := 2) hc.1 rfl (jd_77 hc.2.1 hw1) rfl (jLoc_has hl) hn.1 rfl h3
theorem s_77L {l : Launch} {mi : jM} {α : Type} {emb : α → Option Value} {pc : Nat} {ls : List (Nat × Value)} {st : List Value} {H : jH} (q : Nat) {e : Nat} {k0 : Nat → Option (α × jH)} (hn : jst1 mi.2.2.1 ls 2 = true) (hw : jx1 mi.1 mi.2.1 pc 77 q = true) (k : ∀ x, JV l mi emb q ((2, .ref x) :: ls) st H (k0 x)) : JV l mi emb pc ls (.ref e :: st) H (jl e k0) := by
  obtain ⟨hw1, rfl⟩ := jx1_spec hw
  intro r H' ho
  obtain ⟨hm, kk⟩ := k e r H' ho
  have hn := jst1_spec hn
  refine ⟨hm, fun c hc e1 n1 n2 Hr la locs hR hS hl => ?_⟩
  have h3 : ∀ la2, lv_has la2 mi.2.2.1 ((2, jv c.2.2.1 (.ref e)) :: (jE c.2.2.1 ls).filter (fun q => !(q.1 == 2) && !(q.1 + 1 == 2 && q.2.category == 2))) → _ := fun la2 h2 => kk c hc e1 n1 n2 Hr la2 locs hR hS (jLoc_store hn.2 h2)
  simp only [jstk, List.map_cons, jv, jrv] at h3 ⊢
  by_cases hx : e = 0
  · simp only [if_pos hx] at h3 ⊢
    exact lv_astore_nN (i := 2) hc.1 rfl (jd_77 hc.2.1 hw1) rfl (jLoc_has hl) hn.1 rfl h3
  · simp only [if_neg hx] at h3 ⊢
    exact lv_astore_n (i := 2) hc.1 rfl (jd_77 hc.2.1 hw1) rfl (jLoc_has hl) hn.1 rfl h3
theorem s_78 {l : Launch} {mi : jM} {α : Type} {emb : α → Option Value} {pc : Nat} {ls : List (Nat × Value)} {st : List Value} {H : jH} {o : Option (α × jH)} (q : Nat) {e : Nat} (hn : jst1 mi.2.2.1 ls 3 = true) (hw : jx1 mi.1 mi.2.1 pc 78 q = true) (k : JV l mi emb q ((3, .ref e) :: ls) st H o) : JV l mi emb pc ls (.ref e :: st) H o := by
  obtain ⟨hw1, rfl⟩ := jx1_spec hw
  intro r H' ho
  obtain ⟨hm, kk⟩ := k r H' ho
  have hn := jst1_spec hn
  refine ⟨hm, fun c hc e1 n1 n2 Hr la locs hR hS hl => ?_⟩
  have h3 : ∀ la2, lv_has la2 mi.2.2.1 ((3, jv c.2.2.1 (.ref e)) :: (jE c.2.2.1 ls).filter (fun q => !(q.1 == 3) && !(q.1 + 1 == 3 && q.2.category == 2))) → _ := fun la2 h2 => kk c hc e1 n1 n2 Hr la2 locs hR hS (jLoc_store hn.2 h2)
  simp only [jstk, List.map_cons, jv, jrv] at h3 ⊢
  by_cases hx : e = 0
  · simp only [if_pos hx] at h3 ⊢
    exact lv_astore_nN (i := 3) hc.1 rfl (jd_78 hc.2.1 hw1) rfl (jLoc_has hl) hn.1 rfl h3
  · simp only [if_neg hx] at h3 ⊢
    exact lv_astore_n (i := 3) hc.1 rfl (jd_78 hc.2.1 hw1) rfl (jLoc_has hl) hn.1 rfl h3
theorem s_78L {l : Launch} {mi : jM} {α : Type} {emb : α → Option Value} {pc : Nat} {ls : List (Nat × Value)} {st : List Value} {H : jH} (q : Nat) {e : Nat} {k0 : Nat → Option (α × jH)} (hn : jst1 mi.2.2.1 ls 3 = true) (hw : jx1 mi.1 mi.2.1 pc 78 q = true) (k : ∀ x, JV l mi emb q ((3, .ref x) :: ls) st H (k0 x)) : JV l mi emb pc ls (.ref e :: st) H (jl e k0) := by
  obtain ⟨hw1, rfl⟩ := jx1_spec hw
  intro r H' ho
  obtain ⟨hm, kk⟩ := k e r H' ho
  have hn := jst1_spec hn
  refine ⟨hm, fun c hc e1 n1 n2 Hr la locs hR hS hl => ?_⟩
  have h3 : ∀ la2, lv_has la2 mi.2.2.1 ((3, jv c.2.2.1 (.ref e)) :: (jE c.2.2.1 ls).filter (fun q => !(q.1 == 3) && !(q.1 + 1 == 3 && q.2.category == 2))) → _ := fun la2 h2 => kk c hc e1 n1 n2 Hr la2 locs hR hS (jLoc_store hn.2 h2)
  simp only [jstk, List.map_cons, jv, jrv] at h3 ⊢
  by_cases hx : e = 0
  · simp only [if_pos hx] at h3 ⊢
    exact lv_astore_nN (i := 3) hc.1 rfl (jd_78 hc.2.1 hw1) rfl (jLoc_has hl) hn.1 rfl h3
  · simp only [if_neg hx] at h3 ⊢
    exact lv_astore_n (i := 3) hc.1 rfl (jd_78 hc.2.1 hw1) rfl (jLoc_has hl) hn.1 rfl h3
theorem s_58 {l : Launch} {mi : jM} {α : Type} {emb : α → Option Value} {pc : Nat} {ls : List (Nat × Value)} {st : List Value} {H : jH} {o : Option (α × jH)} (i q : Nat) {e : Nat} (hn : jst1 mi.2.2.1 ls i = true) (hw : jx2 mi.1 mi.2.1 pc 58 i q = true) (k : JV l mi emb q ((i, .ref e) :: ls) st H o) : JV l mi emb pc ls (.ref e :: st) H o := by
  obtain ⟨hw1, rfl⟩ := jx2_spec hw
  intro r H' ho
  obtain ⟨hm, kk⟩ := k r H' ho
  have hn := jst1_spec hn
  refine ⟨hm, fun c hc e1 n1 n2 Hr la locs hR hS hl => ?_⟩
  have h3 : ∀ la2, lv_has la2 mi.2.2.1 ((i, jv c.2.2.1 (.ref e)) :: (jE c.2.2.1 ls).filter (fun q => !(q.1 == i) && !(q.1 + 1 == i && q.2.category == 2))) → _ := fun la2 h2 => kk c hc e1 n1 n2 Hr la2 locs hR hS (jLoc_store hn.2 h2)
  simp only [jstk, List.map_cons, jv, jrv] at h3 ⊢
  by_cases hx : e = 0
  · simp only [if_pos hx] at h3 ⊢
    exact lv_astoreN hc.1 rfl (jd_58 hc.2.1 hw1) (jLoc_has hl) hn.1 rfl h3
  · simp only [if_neg hx] at h3 ⊢
    exact lv_astore hc.1 rfl (jd_58 hc.2.1 hw1) (jLoc_has hl) hn.1 rfl h3
theorem s_58L {l : Launch} {mi : jM} {α : Type} {emb : α → Option Value} {pc : Nat} {ls : List (Nat × Value)} {st : List Value} {H : jH} (i q : Nat) {e : Nat} {k0 : Nat → Option (α × jH)} (hn : jst1 mi.2.2.1 ls i = true) (hw : jx2 mi.1 mi.2.1 pc 58 i q = true) (k : ∀ x, JV l mi emb q ((i, .ref x) :: ls) st H (k0 x)) : JV l mi emb pc ls (.ref e :: st) H (jl e k0) := by
  obtain ⟨hw1, rfl⟩ := jx2_spec hw
  intro r H' ho
  obtain ⟨hm, kk⟩ := k e r H' ho
  have hn := jst1_spec hn
  refine ⟨hm, fun c hc e1 n1 n2 Hr la locs hR hS hl => ?_⟩
  have h3 : ∀ la2, lv_has la2 mi.2.2.1 ((i, jv c.2.2.1 (.ref e)) :: (jE c.2.2.1 ls).filter (fun q => !(q.1 == i) && !(q.1 + 1 == i && q.2.category == 2))) → _ := fun la2 h2 => kk c hc e1 n1 n2 Hr la2 locs hR hS (jLoc_store hn.2 h2)
  simp only [jstk, List.map_cons, jv, jrv] at h3 ⊢
  by_cases hx : e = 0
  · simp only [if_pos hx] at h3 ⊢
    exact lv_astoreN hc.1 rfl (jd_58 hc.2.1 hw1) (jLoc_has hl) hn.1 rfl h3
  · simp only [if_neg hx] at h3 ⊢
    exact lv_astore hc.1 rfl (jd_58 hc.2.1 hw1) (jLoc_has hl) hn.1 rfl h3
theorem jE_place {G : jG} {ls : List (Nat × Value)} {i : Nat} {v : Value} (h : ls.lookup i = some v) : ∃ k : Nat, (jE G ls)[k]? = some (i, jv G v) := List.getElem?_of_mem (jE_mem h)
theorem s_132L {l : Launch} {mi : jM} {α : Type} {emb : α → Option Value} {pc : Nat} {ls : List (Nat × Value)} {st : List Value} {H : jH} (i d q : Nat) (v : Int32) {x : Int32} {k0 : Int32 → Option (α × jH)} (hv : Int32.ofInt (Reader.signed 8 d) = v) (hl0 : ls.lookup i = some (.int x)) (hn : jst1 mi.2.2.1 ls i = true) (hw : jx3 mi.1 mi.2.1 pc 132 i d q = true) (k : ∀ x, JV l mi emb q ((i, .int x) :: ls) st H (k0 x)) : JV l mi emb pc ls st H (jl (x + v) k0) := by
  obtain ⟨hw1, rfl⟩ := jx3_spec hw
  subst hv
  intro r H' ho
  obtain ⟨hm, kk⟩ := k _ r H' ho
  have hn := jst1_spec hn
  refine ⟨hm, fun c hc e1 n1 n2 Hr la locs hR hS hl => ?_⟩
  obtain ⟨k1, hk1⟩ := jE_place (G := c.2.2.1) hl0
  exact lv_iinc hc.1 rfl (jd_132 hc.2.1 hw1) (jLoc_has hl) hk1 rfl hn.1 rfl fun la2 h2 => kk c hc e1 n1 n2 Hr la2 locs hR hS (jLoc_store hn.2 h2)
theorem s_153 {l : Launch} {mi : jM} {α : Type} {emb : α → Option Value} {pc : Nat} {ls : List (Nat × Value)} {st : List Value} {H : jH} {o : Option (α × jH)} {o2 : Option (α × jH)} (b d t q : Nat) {x : Int32} (hw : jx3 mi.1 mi.2.1 pc 153 b d q = true) (ht : jt pc b d t = true) (k1 : JV l mi emb t ls st H o) (k2 : JV l mi emb q ls st H o2) : JV l mi emb pc ls (.int x :: st) H (if x = 0 then o else o2) := by
  obtain ⟨hw1, rfl⟩ := jx3_spec hw
  intro r H' ho
  by_cases h : x = 0
  · rw [if_pos h] at ho
    obtain ⟨hm, kk⟩ := k1 r H' ho
    exact ⟨hm, fun c hc e1 n1 n2 Hr la locs hR hS hl => lv_if_eq hc.1 rfl (jd_153 hc.2.1 hw1) (jt_spec ht) (fun _ => kk c hc e1 n1 n2 Hr la locs hR hS hl) (fun h9 => absurd h h9)⟩
  · rw [if_neg h] at ho
    obtain ⟨hm, kk⟩ := k2 r H' ho
    exact ⟨hm, fun c hc e1 n1 n2 Hr la locs hR hS hl => lv_if_eq hc.1 rfl (jd_153 hc.2.1 hw1) (jt_spec ht) (fun h9 => absurd h9 h) (fun _ => kk c hc e1 n1 n2 Hr la locs hR hS hl)⟩
theorem s_154 {l : Launch} {mi : jM} {α : Type} {emb : α → Option Value} {pc : Nat} {ls : List (Nat × Value)} {st : List Value} {H : jH} {o : Option (α × jH)} {o2 : Option (α × jH)} (b d t q : Nat) {x : Int32} (hw : jx3 mi.1 mi.2.1 pc 154 b d q = true) (ht : jt pc b d t = true) (k1 : JV l mi emb t ls st H o) (k2 : JV l mi emb q ls st H o2) : JV l mi emb pc ls (.int x :: st) H (if ¬ x = 0 then o else o2) := by
  obtain ⟨hw1, rfl⟩ := jx3_spec hw
  intro r H' ho
  by_cases h : ¬ x = 0
  · rw [if_pos h] at ho
    obtain ⟨hm, kk⟩ := k1 r H' ho
    exact ⟨hm, fun c hc e1 n1 n2 Hr la locs hR hS hl => lv_if_ne hc.1 rfl (jd_154 hc.2.1 hw1) (jt_spec ht) (fun _ => kk c hc e1 n1 n2 Hr la locs hR hS hl) (fun h9 => absurd h9 h)⟩
  · rw [if_neg h] at ho
    obtain ⟨hm, kk⟩ := k2 r H' ho
    exact ⟨hm, fun c hc e1 n1 n2 Hr la locs hR hS hl => lv_if_ne hc.1 rfl (jd_154 hc.2.1 hw1) (jt_spec ht) (fun h9 => absurd h9 h) (fun _ => kk c hc e1 n1 n2 Hr la locs hR hS hl)⟩
theorem s_155 {l : Launch} {mi : jM} {α : Type} {emb : α → Option Value} {pc : Nat} {ls : List (Nat × Value)} {st : List Value} {H : jH} {o : Option (α × jH)} {o2 : Option (α × jH)} (b d t q : Nat) {x : Int32} (hw : jx3 mi.1 mi.2.1 pc 155 b d q = true) (ht : jt pc b d t = true) (k1 : JV l mi emb t ls st H o) (k2 : JV l mi emb q ls st H o2) : JV l mi emb pc ls (.int x :: st) H (if x < 0 then o else o2) := by
  obtain ⟨hw1, rfl⟩ := jx3_spec hw
  intro r H' ho
  by_cases h : x < 0
  · rw [if_pos h] at ho
    obtain ⟨hm, kk⟩ := k1 r H' ho
    exact ⟨hm, fun c hc e1 n1 n2 Hr la locs hR hS hl => lv_if_lt hc.1 rfl (jd_155 hc.2.1 hw1) (jt_spec ht) (fun _ => kk c hc e1 n1 n2 Hr la locs hR hS hl) (fun h9 => absurd h h9)⟩
  · rw [if_neg h] at ho
    obtain ⟨hm, kk⟩ := k2 r H' ho
    exact ⟨hm, fun c hc e1 n1 n2 Hr la locs hR hS hl => lv_if_lt hc.1 rfl (jd_155 hc.2.1 hw1) (jt_spec ht) (fun h9 => absurd h9 h) (fun _ => kk c hc e1 n1 n2 Hr la locs hR hS hl)⟩
theorem s_156 {l : Launch} {mi : jM} {α : Type} {emb : α → Option Value} {pc : Nat} {ls : List (Nat × Value)} {st : List Value} {H : jH} {o : Option (α × jH)} {o2 : Option (α × jH)} (b d t q : Nat) {x : Int32} (hw : jx3 mi.1 mi.2.1 pc 156 b d q = true) (ht : jt pc b d t = true) (k1 : JV l mi emb t ls st H o) (k2 : JV l mi emb q ls st H o2) : JV l mi emb pc ls (.int x :: st) H (if 0 ≤ x then o else o2) := by
  obtain ⟨hw1, rfl⟩ := jx3_spec hw
  intro r H' ho
  by_cases h : 0 ≤ x
  · rw [if_pos h] at ho
    obtain ⟨hm, kk⟩ := k1 r H' ho
    exact ⟨hm, fun c hc e1 n1 n2 Hr la locs hR hS hl => lv_if_ge hc.1 rfl (jd_156 hc.2.1 hw1) (jt_spec ht) (fun _ => kk c hc e1 n1 n2 Hr la locs hR hS hl) (fun h9 => absurd h h9)⟩
  · rw [if_neg h] at ho
    obtain ⟨hm, kk⟩ := k2 r H' ho
    exact ⟨hm, fun c hc e1 n1 n2 Hr la locs hR hS hl => lv_if_ge hc.1 rfl (jd_156 hc.2.1 hw1) (jt_spec ht) (fun h9 => absurd h9 h) (fun _ => kk c hc e1 n1 n2 Hr la locs hR hS hl)⟩
theorem s_157 {l : Launch} {mi : jM} {α : Type} {emb : α → Option Value} {pc : Nat} {ls : List (Nat × Value)} {st : List Value} {H : jH} {o : Option (α × jH)} {o2 : Option (α × jH)} (b d t q : Nat) {x : Int32} (hw : jx3 mi.1 mi.2.1 pc 157 b d q = true) (ht : jt pc b d t = true) (k1 : JV l mi emb t ls st H o) (k2 : JV l mi emb q ls st H o2) : JV l mi emb pc ls (.int x :: st) H (if 0 < x then o else o2) := by
  obtain ⟨hw1, rfl⟩ := jx3_spec hw
  intro r H' ho
  by_cases h : 0 < x
  · rw [if_pos h] at ho
    obtain ⟨hm, kk⟩ := k1 r H' ho
    exact ⟨hm, fun c hc e1 n1 n2 Hr la locs hR hS hl => lv_if_gt hc.1 rfl (jd_157 hc.2.1 hw1) (jt_spec ht) (fun _ => kk c hc e1 n1 n2 Hr la locs hR hS hl) (fun h9 => absurd h h9)⟩
  · rw [if_neg h] at ho
    obtain ⟨hm, kk⟩ := k2 r H' ho
    exact ⟨hm, fun c hc e1 n1 n2 Hr la locs hR hS hl => lv_if_gt hc.1 rfl (jd_157 hc.2.1 hw1) (jt_spec ht) (fun h9 => absurd h9 h) (fun _ => kk c hc e1 n1 n2 Hr la locs hR hS hl)⟩
theorem s_158 {l : Launch} {mi : jM} {α : Type} {emb : α → Option Value} {pc : Nat} {ls : List (Nat × Value)} {st : List Value} {H : jH} {o : Option (α × jH)} {o2 : Option (α × jH)} (b d t q : Nat) {x : Int32} (hw : jx3 mi.1 mi.2.1 pc 158 b d q = true) (ht : jt pc b d t = true) (k1 : JV l mi emb t ls st H o) (k2 : JV l mi emb q ls st H o2) : JV l mi emb pc ls (.int x :: st) H (if x ≤ 0 then o else o2) := by
  obtain ⟨hw1, rfl⟩ := jx3_spec hw
  intro r H' ho
  by_cases h : x ≤ 0
  · rw [if_pos h] at ho
    obtain ⟨hm, kk⟩ := k1 r H' ho
    exact ⟨hm, fun c hc e1 n1 n2 Hr la locs hR hS hl => lv_if_le hc.1 rfl (jd_158 hc.2.1 hw1) (jt_spec ht) (fun _ => kk c hc e1 n1 n2 Hr la locs hR hS hl) (fun h9 => absurd h h9)⟩
  · rw [if_neg h] at ho
    obtain ⟨hm, kk⟩ := k2 r H' ho
    exact ⟨hm, fun c hc e1 n1 n2 Hr la locs hR hS hl => lv_if_le hc.1 rfl (jd_158 hc.2.1 hw1) (jt_spec ht) (fun h9 => absurd h9 h) (fun _ => kk c hc e1 n1 n2 Hr la locs hR hS hl)⟩
theorem s_159 {l : Launch} {mi : jM} {α : Type} {emb : α → Option Value} {pc : Nat} {ls : List (Nat × Value)} {st : List Value} {H : jH} {o : Option (α × jH)} {o2 : Option (α × jH)} (b d t q : Nat) {x y : Int32} (hw : jx3 mi.1 mi.2.1 pc 159 b d q = true) (ht : jt pc b d t = true) (k1 : JV l mi emb t ls st H o) (k2 : JV l mi emb q ls st H o2) : JV l mi emb pc ls (.int y :: .int x :: st) H (if x = y then o else o2) := by
  obtain ⟨hw1, rfl⟩ := jx3_spec hw
  intro r H' ho
  by_cases h : x = y
  · rw [if_pos h] at ho
    obtain ⟨hm, kk⟩ := k1 r H' ho
    exact ⟨hm, fun c hc e1 n1 n2 Hr la locs hR hS hl => lv_icmp_eq hc.1 rfl (jd_159 hc.2.1 hw1) (jt_spec ht) (fun _ => kk c hc e1 n1 n2 Hr la locs hR hS hl) (fun h9 => absurd h h9)⟩
  · rw [if_neg h] at ho
    obtain ⟨hm, kk⟩ := k2 r H' ho
    exact ⟨hm, fun c hc e1 n1 n2 Hr la locs hR hS hl => lv_icmp_eq hc.1 rfl (jd_159 hc.2.1 hw1) (jt_spec ht) (fun h9 => absurd h9 h) (fun _ => kk c hc e1 n1 n2 Hr la locs hR hS hl)⟩
theorem s_160 {l : Launch} {mi : jM} {α : Type} {emb : α → Option Value} {pc : Nat} {ls : List (Nat × Value)} {st : List Value} {H : jH} {o : Option (α × jH)} {o2 : Option (α × jH)} (b d t q : Nat) {x y : Int32} (hw : jx3 mi.1 mi.2.1 pc 160 b d q = true) (ht : jt pc b d t = true) (k1 : JV l mi emb t ls st H o) (k2 : JV l mi emb q ls st H o2) : JV l mi emb pc ls (.int y :: .int x :: st) H (if ¬ x = y then o else o2) := by
  obtain ⟨hw1, rfl⟩ := jx3_spec hw
  intro r H' ho
  by_cases h : ¬ x = y
  · rw [if_pos h] at ho
    obtain ⟨hm, kk⟩ := k1 r H' ho
    exact ⟨hm, fun c hc e1 n1 n2 Hr la locs hR hS hl => lv_icmp_ne hc.1 rfl (jd_160 hc.2.1 hw1) (jt_spec ht) (fun _ => kk c hc e1 n1 n2 Hr la locs hR hS hl) (fun h9 => absurd h9 h)⟩
  · rw [if_neg h] at ho
    obtain ⟨hm, kk⟩ := k2 r H' ho
    exact ⟨hm, fun c hc e1 n1 n2 Hr la locs hR hS hl => lv_icmp_ne hc.1 rfl (jd_160 hc.2.1 hw1) (jt_spec ht) (fun h9 => absurd h9 h) (fun _ => kk c hc e1 n1 n2 Hr la locs hR hS hl)⟩
theorem s_161 {l : Launch} {mi : jM} {α : Type} {emb : α → Option Value} {pc : Nat} {ls : List (Nat × Value)} {st : List Value} {H : jH} {o : Option (α × jH)} {o2 : Option (α × jH)} (b d t q : Nat) {x y : Int32} (hw : jx3 mi.1 mi.2.1 pc 161 b d q = true) (ht : jt pc b d t = true) (k1 : JV l mi emb t ls st H o) (k2 : JV l mi emb q ls st H o2) : JV l mi emb pc ls (.int y :: .int x :: st) H (if x < y then o else o2) := by
  obtain ⟨hw1, rfl⟩ := jx3_spec hw
  intro r H' ho
  by_cases h : x < y
  · rw [if_pos h] at ho
    obtain ⟨hm, kk⟩ := k1 r H' ho
    exact ⟨hm, fun c hc e1 n1 n2 Hr la locs hR hS hl => lv_icmp_lt hc.1 rfl (jd_161 hc.2.1 hw1) (jt_spec ht) (fun _ => kk c hc e1 n1 n2 Hr la locs hR hS hl) (fun h9 => absurd h h9)⟩
  · rw [if_neg h] at ho
    obtain ⟨hm, kk⟩ := k2 r H' ho
    exact ⟨hm, fun c hc e1 n1 n2 Hr la locs hR hS hl => lv_icmp_lt hc.1 rfl (jd_161 hc.2.1 hw1) (jt_spec ht) (fun h9 => absurd h9 h) (fun _ => kk c hc e1 n1 n2 Hr la locs hR hS hl)⟩
theorem s_162 {l : Launch} {mi : jM} {α : Type} {emb : α → Option Value} {pc : Nat} {ls : List (Nat × Value)} {st : List Value} {H : jH} {o : Option (α × jH)} {o2 : Option (α × jH)} (b d t q : Nat) {x y : Int32} (hw : jx3 mi.1 mi.2.1 pc 162 b d q = true) (ht : jt pc b d t = true) (k1 : JV l mi emb t ls st H o) (k2 : JV l mi emb q ls st H o2) : JV l mi emb pc ls (.int y :: .int x :: st) H (if y ≤ x then o else o2) := by
  obtain ⟨hw1, rfl⟩ := jx3_spec hw
  intro r H' ho
  by_cases h : y ≤ x
  · rw [if_pos h] at ho
    obtain ⟨hm, kk⟩ := k1 r H' ho
    exact ⟨hm, fun c hc e1 n1 n2 Hr la locs hR hS hl => lv_icmp_ge hc.1 rfl (jd_162 hc.2.1 hw1) (jt_spec ht) (fun _ => kk c hc e1 n1 n2 Hr la locs hR hS hl) (fun h9 => absurd h h9)⟩
  · rw [if_neg h] at ho
    obtain ⟨hm, kk⟩ := k2 r H' ho
    exact ⟨hm, fun c hc e1 n1 n2 Hr la locs hR hS hl => lv_icmp_ge hc.1 rfl (jd_162 hc.2.1 hw1) (jt_spec ht) (fun h9 => absurd h9 h) (fun _ => kk c hc e1 n1 n2 Hr la locs hR hS hl)⟩
theorem s_163 {l : Launch} {mi : jM} {α : Type} {emb : α → Option Value} {pc : Nat} {ls : List (Nat × Value)} {st : List Value} {H : jH} {o : Option (α × jH)} {o2 : Option (α × jH)} (b d t q : Nat) {x y : Int32} (hw : jx3 mi.1 mi.2.1 pc 163 b d q = true) (ht : jt pc b d t = true) (k1 : JV l mi emb t ls st H o) (k2 : JV l mi emb q ls st H o2) : JV l mi emb pc ls (.int y :: .int x :: st) H (if y < x then o else o2) := by
  obtain ⟨hw1, rfl⟩ := jx3_spec hw
  intro r H' ho
  by_cases h : y < x
  · rw [if_pos h] at ho
    obtain ⟨hm, kk⟩ := k1 r H' ho
    exact ⟨hm, fun c hc e1 n1 n2 Hr la locs hR hS hl => lv_icmp_gt hc.1 rfl (jd_163 hc.2.1 hw1) (jt_spec ht) (fun _ => kk c hc e1 n1 n2 Hr la locs hR hS hl) (fun h9 => absurd h h9)⟩
  · rw [if_neg h] at ho
    obtain ⟨hm, kk⟩ := k2 r H' ho
    exact ⟨hm, fun c hc e1 n1 n2 Hr la locs hR hS hl => lv_icmp_gt hc.1 rfl (jd_163 hc.2.1 hw1) (jt_spec ht) (fun h9 => absurd h9 h) (fun _ => kk c hc e1 n1 n2 Hr la locs hR hS hl)⟩
theorem s_164 {l : Launch} {mi : jM} {α : Type} {emb : α → Option Value} {pc : Nat} {ls : List (Nat × Value)} {st : List Value} {H : jH} {o : Option (α × jH)} {o2 : Option (α × jH)} (b d t q : Nat) {x y : Int32} (hw : jx3 mi.1 mi.2.1 pc 164 b d q = true) (ht : jt pc b d t = true) (k1 : JV l mi emb t ls st H o) (k2 : JV l mi emb q ls st H o2) : JV l mi emb pc ls (.int y :: .int x :: st) H (if x ≤ y then o else o2) := by
  obtain ⟨hw1, rfl⟩ := jx3_spec hw
  intro r H' ho
  by_cases h : x ≤ y
  · rw [if_pos h] at ho
    obtain ⟨hm, kk⟩ := k1 r H' ho
    exact ⟨hm, fun c hc e1 n1 n2 Hr la locs hR hS hl => lv_icmp_le hc.1 rfl (jd_164 hc.2.1 hw1) (jt_spec ht) (fun _ => kk c hc e1 n1 n2 Hr la locs hR hS hl) (fun h9 => absurd h h9)⟩
  · rw [if_neg h] at ho
    obtain ⟨hm, kk⟩ := k2 r H' ho
    exact ⟨hm, fun c hc e1 n1 n2 Hr la locs hR hS hl => lv_icmp_le hc.1 rfl (jd_164 hc.2.1 hw1) (jt_spec ht) (fun h9 => absurd h9 h) (fun _ => kk c hc e1 n1 n2 Hr la locs hR hS hl)⟩
theorem s_148_153 {l : Launch} {mi : jM} {α : Type} {emb : α → Option Value} {pc : Nat} {ls : List (Nat × Value)} {st : List Value} {H : jH} {o : Option (α × jH)} {o2 : Option (α × jH)} (b d t m q : Nat) {x y : Int64} (hw0 : jx1 mi.1 mi.2.1 pc 148 m = true) (hw : jx3 mi.1 mi.2.1 m 153 b d q = true) (ht : jt m b d t = true) (k1 : JV l mi emb t ls st H o) (k2 : JV l mi emb q ls st H o2) : JV l mi emb pc ls (.long y :: .long x :: st) H (if x = y then o else o2) := by
  obtain ⟨hw01, rfl⟩ := jx1_spec hw0
  obtain ⟨hw1, rfl⟩ := jx3_spec hw
  intro r H' ho
  by_cases h : x = y
  · rw [if_pos h] at ho
    obtain ⟨hm, kk⟩ := k1 r H' ho
    exact ⟨hm, fun c hc e1 n1 n2 Hr la locs hR hS hl => W.lcmp hc.1 rfl (jd_148 hc.2.1 hw01) (lv_if_eq hc.1 rfl (jd_153 hc.2.1 hw1) (jt_spec ht) (fun _ => kk c hc e1 n1 n2 Hr la locs hR hS hl) (fun h9 => absurd ((lg_cmp_eq x y).mpr h) h9))⟩
  · rw [if_neg h] at ho
    obtain ⟨hm, kk⟩ := k2 r H' ho
    exact ⟨hm, fun c hc e1 n1 n2 Hr la locs hR hS hl => W.lcmp hc.1 rfl (jd_148 hc.2.1 hw01) (lv_if_eq hc.1 rfl (jd_153 hc.2.1 hw1) (jt_spec ht) (fun h9 => absurd ((lg_cmp_eq x y).mp h9) h) (fun _ => kk c hc e1 n1 n2 Hr la locs hR hS hl))⟩
theorem s_148_154 {l : Launch} {mi : jM} {α : Type} {emb : α → Option Value} {pc : Nat} {ls : List (Nat × Value)} {st : List Value} {H : jH} {o : Option (α × jH)} {o2 : Option (α × jH)} (b d t m q : Nat) {x y : Int64} (hw0 : jx1 mi.1 mi.2.1 pc 148 m = true) (hw : jx3 mi.1 mi.2.1 m 154 b d q = true) (ht : jt m b d t = true) (k1 : JV l mi emb t ls st H o) (k2 : JV l mi emb q ls st H o2) : JV l mi emb pc ls (.long y :: .long x :: st) H (if ¬ x = y then o else o2) := by
  obtain ⟨hw01, rfl⟩ := jx1_spec hw0
  obtain ⟨hw1, rfl⟩ := jx3_spec hw
  intro r H' ho
  by_cases h : ¬ x = y
  · rw [if_pos h] at ho
    obtain ⟨hm, kk⟩ := k1 r H' ho
    exact ⟨hm, fun c hc e1 n1 n2 Hr la locs hR hS hl => W.lcmp hc.1 rfl (jd_148 hc.2.1 hw01) (lv_if_ne hc.1 rfl (jd_154 hc.2.1 hw1) (jt_spec ht) (fun _ => kk c hc e1 n1 n2 Hr la locs hR hS hl) (fun h9 => absurd ((lg_cmp_eq x y).mp h9) h))⟩
  · rw [if_neg h] at ho
    obtain ⟨hm, kk⟩ := k2 r H' ho
    exact ⟨hm, fun c hc e1 n1 n2 Hr la locs hR hS hl => W.lcmp hc.1 rfl (jd_148 hc.2.1 hw01) (lv_if_ne hc.1 rfl (jd_154 hc.2.1 hw1) (jt_spec ht) (fun h9 => absurd ((not_congr (lg_cmp_eq x y)).mp h9) h) (fun _ => kk c hc e1 n1 n2 Hr la locs hR hS hl))⟩
theorem s_148_155 {l : Launch} {mi : jM} {α : Type} {emb : α → Option Value} {pc : Nat} {ls : List (Nat × Value)} {st : List Value} {H : jH} {o : Option (α × jH)} {o2 : Option (α × jH)} (b d t m q : Nat) {x y : Int64} (hw0 : jx1 mi.1 mi.2.1 pc 148 m = true) (hw : jx3 mi.1 mi.2.1 m 155 b d q = true) (ht : jt m b d t = true) (k1 : JV l mi emb t ls st H o) (k2 : JV l mi emb q ls st H o2) : JV l mi emb pc ls (.long y :: .long x :: st) H (if x < y then o else o2) := by
  obtain ⟨hw01, rfl⟩ := jx1_spec hw0
  obtain ⟨hw1, rfl⟩ := jx3_spec hw
  intro r H' ho
  by_cases h : x < y
  · rw [if_pos h] at ho
    obtain ⟨hm, kk⟩ := k1 r H' ho
    exact ⟨hm, fun c hc e1 n1 n2 Hr la locs hR hS hl => W.lcmp hc.1 rfl (jd_148 hc.2.1 hw01) (lv_if_lt hc.1 rfl (jd_155 hc.2.1 hw1) (jt_spec ht) (fun _ => kk c hc e1 n1 n2 Hr la locs hR hS hl) (fun h9 => absurd ((lg_cmp_lt x y).mpr h) h9))⟩
  · rw [if_neg h] at ho
    obtain ⟨hm, kk⟩ := k2 r H' ho
    exact ⟨hm, fun c hc e1 n1 n2 Hr la locs hR hS hl => W.lcmp hc.1 rfl (jd_148 hc.2.1 hw01) (lv_if_lt hc.1 rfl (jd_155 hc.2.1 hw1) (jt_spec ht) (fun h9 => absurd ((lg_cmp_lt x y).mp h9) h) (fun _ => kk c hc e1 n1 n2 Hr la locs hR hS hl))⟩
theorem s_148_156 {l : Launch} {mi : jM} {α : Type} {emb : α → Option Value} {pc : Nat} {ls : List (Nat × Value)} {st : List Value} {H : jH} {o : Option (α × jH)} {o2 : Option (α × jH)} (b d t m q : Nat) {x y : Int64} (hw0 : jx1 mi.1 mi.2.1 pc 148 m = true) (hw : jx3 mi.1 mi.2.1 m 156 b d q = true) (ht : jt m b d t = true) (k1 : JV l mi emb t ls st H o) (k2 : JV l mi emb q ls st H o2) : JV l mi emb pc ls (.long y :: .long x :: st) H (if y ≤ x then o else o2) := by
  obtain ⟨hw01, rfl⟩ := jx1_spec hw0
  obtain ⟨hw1, rfl⟩ := jx3_spec hw
  intro r H' ho
  by_cases h : y ≤ x
  · rw [if_pos h] at ho
    obtain ⟨hm, kk⟩ := k1 r H' ho
    exact ⟨hm, fun c hc e1 n1 n2 Hr la locs hR hS hl => W.lcmp hc.1 rfl (jd_148 hc.2.1 hw01) (lv_if_ge hc.1 rfl (jd_156 hc.2.1 hw1) (jt_spec ht) (fun _ => kk c hc e1 n1 n2 Hr la locs hR hS hl) (fun h9 => absurd ((lg_cmp_ge x y).mpr h) h9))⟩
  · rw [if_neg h] at ho
    obtain ⟨hm, kk⟩ := k2 r H' ho
    exact ⟨hm, fun c hc e1 n1 n2 Hr la locs hR hS hl => W.lcmp hc.1 rfl (jd_148 hc.2.1 hw01) (lv_if_ge hc.1 rfl (jd_156 hc.2.1 hw1) (jt_spec ht) (fun h9 => absurd ((lg_cmp_ge x y).mp h9) h) (fun _ => kk c hc e1 n1 n2 Hr la locs hR hS hl))⟩
theorem s_148_157 {l : Launch} {mi : jM} {α : Type} {emb : α → Option Value} {pc : Nat} {ls : List (Nat × Value)} {st : List Value} {H : jH} {o : Option (α × jH)} {o2 : Option (α × jH)} (b d t m q : Nat) {x y : Int64} (hw0 : jx1 mi.1 mi.2.1 pc 148 m = true) (hw : jx3 mi.1 mi.2.1 m 157 b d q = true) (ht : jt m b d t = true) (k1 : JV l mi emb t ls st H o) (k2 : JV l mi emb q ls st H o2) : JV l mi emb pc ls (.long y :: .long x :: st) H (if y < x then o else o2) := by
  obtain ⟨hw01, rfl⟩ := jx1_spec hw0
  obtain ⟨hw1, rfl⟩ := jx3_spec hw
  intro r H' ho
  by_cases h : y < x
  · rw [if_pos h] at ho
    obtain ⟨hm, kk⟩ := k1 r H' ho
    exact ⟨hm, fun c hc e1 n1 n2 Hr la locs hR hS hl => W.lcmp hc.1 rfl (jd_148 hc.2.1 hw01) (lv_if_gt hc.1 rfl (jd_157 hc.2.1 hw1) (jt_spec ht) (fun _ => kk c hc e1 n1 n2 Hr la locs hR hS hl) (fun h9 => absurd ((lg_cmp_gt x y).mpr h) h9))⟩
  · rw [if_neg h] at ho
    obtain ⟨hm, kk⟩ := k2 r H' ho
    exact ⟨hm, fun c hc e1 n1 n2 Hr la locs hR hS hl => W.lcmp hc.1 rfl (jd_148 hc.2.1 hw01) (lv_if_gt hc.1 rfl (jd_157 hc.2.1 hw1) (jt_spec ht) (fun h9 => absurd ((lg_cmp_gt x y).mp h9) h) (fun _ => kk c hc e1 n1 n2 Hr la locs hR hS hl))⟩
theorem s_148_158 {l : Launch} {mi : jM} {α : Type} {emb : α → Option Value} {pc : Nat} {ls : List (Nat × Value)} {st : List Value} {H : jH} {o : Option (α × jH)} {o2 : Option (α × jH)} (b d t m q : Nat) {x y : Int64} (hw0 : jx1 mi.1 mi.2.1 pc 148 m = true) (hw : jx3 mi.1 mi.2.1 m 158 b d q = true) (ht : jt m b d t = true) (k1 : JV l mi emb t ls st H o) (k2 : JV l mi emb q ls st H o2) : JV l mi emb pc ls (.long y :: .long x :: st) H (if x ≤ y then o else o2) := by
  obtain ⟨hw01, rfl⟩ := jx1_spec hw0
  obtain ⟨hw1, rfl⟩ := jx3_spec hw
  intro r H' ho
  by_cases h : x ≤ y
  · rw [if_pos h] at ho
    obtain ⟨hm, kk⟩ := k1 r H' ho
    exact ⟨hm, fun c hc e1 n1 n2 Hr la locs hR hS hl => W.lcmp hc.1 rfl (jd_148 hc.2.1 hw01) (lv_if_le hc.1 rfl (jd_158 hc.2.1 hw1) (jt_spec ht) (fun _ => kk c hc e1 n1 n2 Hr la locs hR hS hl) (fun h9 => absurd ((lg_cmp_le x y).mpr h) h9))⟩
  · rw [if_neg h] at ho
    obtain ⟨hm, kk⟩ := k2 r H' ho
    exact ⟨hm, fun c hc e1 n1 n2 Hr la locs hR hS hl => W.lcmp hc.1 rfl (jd_148 hc.2.1 hw01) (lv_if_le hc.1 rfl (jd_158 hc.2.1 hw1) (jt_spec ht) (fun h9 => absurd ((lg_cmp_le x y).mp h9) h) (fun _ => kk c hc e1 n1 n2 Hr la locs hR hS hl))⟩
theorem s_167 {l : Launch} {mi : jM} {α : Type} {emb : α → Option Value} {pc : Nat} {ls : List (Nat × Value)} {st : List Value} {H : jH} {o : Option (α × jH)} (b d t : Nat) (hw : jw3 mi.1 mi.2.1 pc 167 b d = true) (ht : jt pc b d t = true) (k : JV l mi emb t ls st H o) : JV l mi emb pc ls st H o := by
  intro r H' ho
  obtain ⟨hm, kk⟩ := k r H' ho
  exact ⟨hm, fun c hc e1 n1 n2 Hr la locs hR hS hl => lv_goto hc.1 rfl (jd_167 hc.2.1 hw) (jt_spec ht) (kk c hc e1 n1 n2 Hr la locs hR hS hl)⟩
theorem s_198 {l : Launch} {mi : jM} {α : Type} {emb : α → Option Value} {pc : Nat} {ls : List (Nat × Value)} {st : List Value} {H : jH} {o : Option (α × jH)} {o2 : Option (α × jH)} (b d t q : Nat) {x : Nat} (hw : jx3 mi.1 mi.2.1 pc 198 b d q = true) (ht : jt pc b d t = true) (k1 : JV l mi emb t ls st H o) (k2 : JV l mi emb q ls st H o2) : JV l mi emb pc ls (.ref x :: st) H (if x = 0 then o else o2) := by
  obtain ⟨hw1, rfl⟩ := jx3_spec hw
  intro r H' ho
  by_cases h : x = 0
  · rw [if_pos h] at ho
    obtain ⟨hm, kk⟩ := k1 r H' ho
    refine ⟨hm, fun c hc e1 n1 n2 Hr la locs hR hS hl => ?_⟩
    simp only [jstk, List.map_cons, jv, jrv, if_pos h]
    exact lv_ifnullN hc.1 rfl (jd_198 hc.2.1 hw1) (jt_spec ht) (kk c hc e1 n1 n2 Hr la locs hR hS hl)
  · rw [if_neg h] at ho
    obtain ⟨hm, kk⟩ := k2 r H' ho
    refine ⟨hm, fun c hc e1 n1 n2 Hr la locs hR hS hl => ?_⟩
    simp only [jstk, List.map_cons, jv, jrv, if_neg h]
    exact lv_ifnull hc.1 rfl (jd_198 hc.2.1 hw1) (kk c hc e1 n1 n2 Hr la locs hR hS hl)
theorem s_199 {l : Launch} {mi : jM} {α : Type} {emb : α → Option Value} {pc : Nat} {ls : List (Nat × Value)} {st : List Value} {H : jH} {o : Option (α × jH)} {o2 : Option (α × jH)} (b d t q : Nat) {x : Nat} (hw : jx3 mi.1 mi.2.1 pc 199 b d q = true) (ht : jt pc b d t = true) (k1 : JV l mi emb t ls st H o) (k2 : JV l mi emb q ls st H o2) : JV l mi emb pc ls (.ref x :: st) H (if ¬ x = 0 then o else o2) := by
  obtain ⟨hw1, rfl⟩ := jx3_spec hw
  intro r H' ho
  by_cases h : x = 0
  · rw [if_neg (fun q => q h)] at ho
    obtain ⟨hm, kk⟩ := k2 r H' ho
    refine ⟨hm, fun c hc e1 n1 n2 Hr la locs hR hS hl => ?_⟩
    simp only [jstk, List.map_cons, jv, jrv, if_pos h]
    exact lv_ifnonnullN hc.1 rfl (jd_199 hc.2.1 hw1) (kk c hc e1 n1 n2 Hr la locs hR hS hl)
  · rw [if_pos h] at ho
    obtain ⟨hm, kk⟩ := k1 r H' ho
    refine ⟨hm, fun c hc e1 n1 n2 Hr la locs hR hS hl => ?_⟩
    simp only [jstk, List.map_cons, jv, jrv, if_neg h]
    exact lv_ifnonnull hc.1 rfl (jd_199 hc.2.1 hw1) (jt_spec ht) (kk c hc e1 n1 n2 Hr la locs hR hS hl)
/-- fewer locals -/
theorem s_sub {l : Launch} {mi : jM} {α : Type} {emb : α → Option Value} {pc : Nat} {ls : List (Nat × Value)} {st : List Value} {H : jH} {o : Option (α × jH)} {ls' : List (Nat × Value)} (hs : jsub ls' ls) (k : JV l mi emb pc ls' st H o) : JV l mi emb pc ls st H o := by
  intro r H' ho
  obtain ⟨hm, kk⟩ := k r H' ho
  exact ⟨hm, fun c hc e1 n1 n2 Hr la locs hR hS hl => kk c hc e1 n1 n2 Hr la locs hR hS (jLoc_sub hl hs)⟩
theorem s_none {l : Launch} {mi : jM} {α : Type} {emb : α → Option Value} {pc : Nat} {ls : List (Nat × Value)} {st : List Value} {H : jH} : JV l mi emb pc ls st H (none : Option (α × jH)) := by
  intro r H' ho
  cases ho
end
section
def jnf : FieldType → Bool
  | .float => false
  | .double => false
  | _ => true
def jcok (ci : Nat) (C : String) (T : u_T) (N : Nat) (Y : Nat → FieldType) : Prop :=
  jcl[ci]? = some (C, T, N) ∧ (∀ w ∈ u_ws C T N, w ∈ jws) ∧ (∀ k, k < N → parseFieldDescriptor (T k).2.2.1 = some (Y k)) ∧ (∀ a, a < N → ∀ b, b < N → a ≠ b → (T a).2.1 ≠ (T b).2.1) ∧ (∀ k, k < N → (T k).1 = C) ∧ ∀ k, k < N → jnf (Y k) = true
theorem jfd_ok {ci : Nat} {C : String} {T : u_T} {N k : Nat} {Y : Nat → FieldType} (h : jcok ci C T N Y) (hk : k < N) : jfd (T k).2.2.1 = jkd (Y k) := by
  unfold jfd
  rw [h.2.2.1 k hk]
theorem jrv_own {G : jG} {o : Nat} (h : jF0 ≤ o) : jrv G o = .ref (jad G o) := if_neg (by unfold jF0 at h; omega)
/-- one object as a world of the kit's -/
def jfs (G : jG) (H : jH) (o N : Nat) (T : u_T) : List Value := (List.range N).map (fun k => jcv G H o k (jfd (T k).2.2.1))
theorem jfs_get {G : jG} {H : jH} {o N k : Nat} {T : u_T} (h : k < N) : (jfs G H o N T)[k]? = some (jcv G H o k (jfd (T k).2.2.1)) := by
  unfold jfs
  rw [List.getElem?_map, List.getElem?_range h]
  rfl
theorem jworld {G : jG} {H : jH} {U : State} {Hr : Heap} {o ci : Nat} {C : String} {T : u_T} {N : Nat} (hR : jRel G H U Hr) (ht : (jK H o).1 = ci) (hq : jcl[ci]? = some (C, T, N)) : va_P G.2.2.1 jcl [(jad G o, .inr (ci, jfs G H o N T))] Hr := by
  intro k q hk
  have hk0 : k < 1 := (List.getElem?_eq_some_iff.mp hk).1
  have : k = 0 := by omega
  subst this
  cases hk
  refine ⟨_, hq, ?_⟩
  refine (jrel_obj hR ht hq).2.2.to fun k hk => ?_
  show _ = (jfs G H o N T).getD k .null
  rw [List.getD_eq_getElem?_getD, jfs_get hk]
  rfl
section JH
variable {p : Program} {l : Launch} {e : Env} {R : Room} {s : State} {m : MethodId} {args : Array Value} {below : List Frame} {meth : Method} {c : Code} {Hr : Heap} {locs : List Loc} {cells slots : Nat} {Q : State → Prop}
variable {pc : Nat} {la : Array Slot} {rest : List Value} {G : jG} {H : jH} {o i ci N k : Nat} {C own host : String} {T : u_T} {Y : Nat → FieldType}
theorem jget_core (hx : p.tables.exec = Jvm.exec) (hts : ∀ w ∈ jws, w.before args s = true) (hown : s.vm.findClass own = some m.cls) (hok : jcok ci C T N Y) (hR : jRel G H s Hr) (ht : (jK H o).1 = ci) (hk : k < N) (hl : (Cond.fieldLink own i C (T k).2.1 (T k).2.2.1).before args s = true)
    (hd : decode c.code pc = .ok (.getfield i, 3)) (kk : W p l e R s m args below meth c Hr locs cells slots Q (F0 m (pc + 3) la (jcv G H o k (jkd (Y k)) :: rest))) : W p l e R s m args below meth c Hr locs cells slots Q (F0 m pc la (jrv G o :: rest)) := by
  rw [jrv_own (jrel_obj hR ht hok.1).1]
  refine va_get (D := G.2.2.1) (ci := ci) (C := C) (T := T) (N := N) hx rfl hts hok.2.1 hown hR.2.2.2.2.1 (jworld hR ht hok.1) 0 rfl hok.1 k hk hl (fun x h => by rw [hok.2.2.2.2.1 k hk] at h; exact h) (jfs_get hk) hd ?_
  rw [jfd_ok hok hk]
  exact kk
theorem jgetN_core (hx : p.tables.exec = Jvm.exec) (hts : ∀ w ∈ jws, w.before args s = true) (hown : s.vm.findClass own = some m.cls) (hok : jcok ci C T N Y) (hR : jRel G H s Hr) (ht : (jK H o).1 = ci) (hk : k < N) (hl : (Cond.fieldLinkNest own i C (T k).2.1 (T k).2.2.1 host).before args s = true)
    (hd : decode c.code pc = .ok (.getfield i, 3)) (kk : W p l e R s m args below meth c Hr locs cells slots Q (F0 m (pc + 3) la (jcv G H o k (jkd (Y k)) :: rest))) : W p l e R s m args below meth c Hr locs cells slots Q (F0 m pc la (jrv G o :: rest)) := by
  rw [jrv_own (jrel_obj hR ht hok.1).1]
  refine va_getN (D := G.2.2.1) (ci := ci) (C := C) (T := T) (N := N) hx rfl hts hok.2.1 hown hR.2.2.2.2.1 (jworld hR ht hok.1) 0 rfl hok.1 k hk hl (fun x h => by rw [hok.2.2.2.2.1 k hk] at h; exact h) (jfs_get hk) hd ?_
  rw [jfd_ok hok hk]
  exact kk
/-- a field's new value: the object as it is then -/
def jput1 (G : jG) (H H2 : jH) (o k : Nat) (v : Value) (kd : Nat) : Prop := jK H2 = jK H ∧ jn H2 = jn H ∧ (∀ a, a ≠ o → ∀ j, jI H2 a j = jI H a j ∧ jL H2 a j = jL H a j ∧ jR H2 a j = jR H a j ∧ jB H2 a j = jB H a j) ∧ (∀ j kd', j ≠ k → jcv G H2 o j kd' = jcv G H o j kd') ∧ jcv G H2 o k kd = v
theorem jput_rel {U : State} {Hr H' : Heap} {H2 : jH} {v : Value} {cell : Cell} (hts : ∀ w ∈ jws, w.before args s = true) (hok : jcok ci C T N Y) (hR : jRel G H s Hr) (ht : (jK H o).1 = ci) (hk : k < N)
    (h2 : jput1 G H H2 o k v (jkd (Y k))) (q1 : Hr[jad G o]? = some cell) (q2 : cell.cls = G.2.2.1.1 ci) (q3 : cell.vm = .none) (q4 : ∀ k, k < N → cell.slots[G.2.2.1.2 ci k]? = some (jcv G H o k (jfd (T k).2.2.1)))
    (e1 : H'[jad G o]? = some (cell.setSlot (G.2.2.1.2 ci k) v)) (e2 : H'.size = Hr.size) (e3 : ∀ q, q ≠ jad G o → H'[q]? = Hr[q]?) : jRel G H2 s H' := by
  obtain ⟨a1, a2, a3, a4, a5⟩ := h2
  have hap := va_apart (own := C) hts hok.2.1 Y hok.2.2.1 hok.2.2.2.1 hR.2.2.2.2.1 hok.1
  obtain ⟨g1, g2, g3⟩ := jrel_obj hR ht hok.1
  refine jrel_upd hR g1 e2 e3 a1 a2 a3 (Or.inl ⟨(C, T, N), ?_, ?_, ?_⟩)
  · rw [a1, ht]; exact hok.1
  · rw [a1]; exact g2
  · rw [a1, ht]
    refine t_OB.to (V := updV (fun k => jcv G H o k (jfd (T k).2.2.1)) k v) ⟨_, e1, q2, q3, t_set q4 hap hk v⟩ fun j hj => ?_
    unfold updV
    split
    · rename_i hjk
      subst hjk
      show v = jcv G H2 o j (jfd (T j).2.2.1)
      rw [jfd_ok hok hj, a5]
    · rename_i hjk
      exact (a4 j _ hjk).symm
theorem jput_core {H2 : jH} {v : Value} (hx : p.tables.exec = Jvm.exec) (hts : ∀ w ∈ jws, w.before args s = true) (hown : s.vm.findClass own = some m.cls) (hok : jcok ci C T N Y) (hR : jRel G H s Hr) (hS : va_S (jA G) s.heap Hr locs) (ht : (jK H o).1 = ci) (hk : k < N) (hl : (Cond.fieldLink own i C (T k).2.1 (T k).2.2.1).before args s = true)
    (hfin : (T k).2.2.2 = false ∨ ((T k).2.2.2 = true ∧ meth.name = "<init>" ∧ C = own)) (hn : narrow (Y k) v = v) (hfit : fits (Y k) v = true) (h2 : jput1 G H H2 o k v (jkd (Y k)))
    (hd : decode c.code pc = .ok (.putfield i, 3)) (kk : ∀ (H' : Heap) (locs1 : List Loc), jRel G H2 s H' → va_S (jA G) s.heap H' locs1 → W p l e R s m args below meth c H' locs1 cells slots Q (F0 m (pc + 3) la rest)) : W p l e R s m args below meth c Hr locs cells slots Q (F0 m pc la (v :: jrv G o :: rest)) := by
  obtain ⟨g1, g2, cell, q1, q2, q3, q4⟩ := jrel_obj hR ht hok.1
  rw [jrv_own g1]
  obtain ⟨hSl, hfc, kC, hkC, hkind⟩ := hR.2.2.2.2.1.1 ci _ hok.1
  obtain ⟨cf, kf, fi, f, hi, hsl⟩ := hSl k hk
  have hi2 : s.fieldFound? C (T k).2.1 (T k).2.2.1 = some (cf, kf, fi, f) := by
    have h9 := hi
    simp only at h9
    rw [hok.2.2.2.2.1 k hk] at h9
    exact h9
  have hlay := hts _ (hok.2.1 _ (u_in_lay hk))
  have hst := (u_facts hfc hkC (u_lays hts hok.2.1 hk) hi).1
  rcases hfin with hfin | ⟨hfin, hini, hC⟩
  · unfold u_lay at hlay
    rw [if_neg (by rw [hfin]; decide)] at hlay
    have h6 := u_store hfc hkC hkind hlay hi (hok.2.2.1 k hk) hn hfit
    refine W.putK hx rfl (f := f) ⟨hown, hl, ⟨_, _, _, hi2⟩, hst⟩ (by rw [q2]; exact h6) q1 q3 (by rw [hsl]; exact k2_hasslot (q4 k hk)) rfl rfl hd fun H' e1 e2 e3 => ?_
    rw [hsl] at e1 ⊢
    exact kk H' _ (jput_rel (U := s) hts hok hR ht hk h2 q1 q2 q3 q4 e1 e2 e3) (hS.put e2 e3 (jad_A g1))
  · unfold u_lay at hlay
    rw [if_pos hfin] at hlay
    have hcf : m.cls = cf := by
      obtain ⟨_, _, c', _, _, _, -, -, hf', -, -, -, hown2, -⟩ := Cond.laysFinal_spec hlay
      have e1 : c' = cf := by have := hi.symm.trans hf'; simp at this; exact this.1.symm
      rw [hok.2.2.2.2.1 k hk, hC] at hown2
      rw [← e1]; exact Option.some.inj (hown.symm.trans hown2)
    have h6 := u_fits hfc hkC hkind (Or.inr hlay) hi (hok.2.2.1 k hk) hn hfit
    refine W.putFinK hx rfl hown hl hi2 hst hcf hini (by rw [q2]; exact h6) q1 q3 (by rw [hsl]; exact k2_hasslot (q4 k hk)) rfl rfl hd fun H' e1 e2 e3 => ?_
    rw [hsl] at e1 ⊢
    exact kk H' _ (jput_rel (U := s) hts hok hR ht hk h2 q1 q2 q3 q4 e1 e2 e3) (hS.put e2 e3 (jad_A g1))
theorem jputN_core {H2 : jH} {v : Value} (hx : p.tables.exec = Jvm.exec) (hts : ∀ w ∈ jws, w.before args s = true) (hown : s.vm.findClass own = some m.cls) (hok : jcok ci C T N Y) (hR : jRel G H s Hr) (hS : va_S (jA G) s.heap Hr locs) (ht : (jK H o).1 = ci) (hk : k < N) (hl : (Cond.fieldLinkNest own i C (T k).2.1 (T k).2.2.1 host).before args s = true)
    (hfin : (T k).2.2.2 = false) (hn : narrow (Y k) v = v) (hfit : fits (Y k) v = true) (h2 : jput1 G H H2 o k v (jkd (Y k)))
    (hd : decode c.code pc = .ok (.putfield i, 3)) (kk : ∀ (H' : Heap) (locs1 : List Loc), jRel G H2 s H' → va_S (jA G) s.heap H' locs1 → W p l e R s m args below meth c H' locs1 cells slots Q (F0 m (pc + 3) la rest)) : W p l e R s m args below meth c Hr locs cells slots Q (F0 m pc la (v :: jrv G o :: rest)) := by
  obtain ⟨g1, g2, cell, q1, q2, q3, q4⟩ := jrel_obj hR ht hok.1
  rw [jrv_own g1]
  obtain ⟨hSl, hfc, kC, hkC, hkind⟩ := hR.2.2.2.2.1.1 ci _ hok.1
  obtain ⟨cf, kf, fi, f, hi, hsl⟩ := hSl k hk
  have hi2 : s.fieldFound? C (T k).2.1 (T k).2.2.1 = some (cf, kf, fi, f) := by
    have h9 := hi
    simp only at h9
    rw [hok.2.2.2.2.1 k hk] at h9
    exact h9
  have hlay := hts _ (hok.2.1 _ (u_in_lay hk))
  have hst := (u_facts hfc hkC (u_lays hts hok.2.1 hk) hi).1
  unfold u_lay at hlay
  rw [if_neg (by rw [hfin]; decide)] at hlay
  have h6 := u_store hfc hkC hkind hlay hi (hok.2.2.1 k hk) hn hfit
  refine va_WputK hx rfl (f := f) hown hl hi2 hst (by rw [q2]; exact h6) q1 q3 (by rw [hsl]; exact k2_hasslot (q4 k hk)) rfl rfl hd fun H' e1 e2 e3 => ?_
  rw [hsl] at e1 ⊢
  exact kk H' _ (jput_rel (U := s) hts hok hR ht hk h2 q1 q2 q3 q4 e1 e2 e3) (hS.put e2 e3 (jad_A g1))
/-- what an array's read finds -/
theorem jread {U : State} {a t : Nat} {i : Int32} (hR : jRel G H U Hr) (ht : (jK H a).1 = t) (hm : t ∈ jtags) (hin : jin i (jK H a).2) : a ≠ 0 ∧ ∃ cell : Cell, Hr[jad G a]? = some cell ∧ U.isArrayOf cell (jty t) ∧ cell.vm ≠ .unknown ∧ ¬ (i < 0 ∨ cell.slots.size ≤ i.toNatClampNeg) ∧ cell.slots[i.toNatClampNeg]? = some (jcv G H a i.toNatClampNeg (jkd (jty t))) := by
  have hge := jtag_ge hm
  have ha0 : a ≠ 0 := fun e => by rw [e, hR.2.2.2.1] at ht; omega
  refine ⟨ha0, ?_⟩
  obtain ⟨s1, s2, s3⟩ := hR.2.2.1 a (by omega)
  have hlt := jin_lt hin
  have hv := jin_vp hin
  by_cases ho : jF0 ≤ a
  · obtain ⟨-, h3⟩ := jrel_arr hR ht hm (Or.inl ho)
    exact ⟨_, h3, (jrel_ty hR hm).1 _ _, (fun h => by cases h), by rw [arrV_size]; exact hv, by rw [arrV_read _ _ hlt]⟩
  · obtain ⟨u1, cell, u2, u3, u4, u5, u6, u7, u8⟩ := s2 (Nat.not_le.mp ho)
    have : t = 100 := by omega
    subst this
    refine ⟨cell, ?_, u3, u4, fun h => hv (h.imp id fun q => Nat.le_trans u5 q), ?_⟩
    · rw [show jad G a = G.2.1 a from if_pos (Nat.not_le.mp ho)]; exact u2
    · exact u7 _ hlt
/-- an array's new element -/
theorem jstore_rel {H' : Heap} {H2 : jH} {a t : Nat} {i : Nat} {v : Value} (hR : jRel G H s Hr) (ht : (jK H a).1 = t) (hm : t ∈ jtags) (ho : jF0 ≤ a ∨ t ≠ 100) (h2 : jput1 G H H2 a i v (jkd (jty t)))
    (e1 : H'[jad G a]? = some ((arrV (G.2.2.2 t) (jK H a).2 (fun j => jcv G H a j (jkd (jty t)))).setSlot i v)) (e2 : H'.size = Hr.size) (e3 : ∀ q, q ≠ jad G a → H'[q]? = Hr[q]?) : jRel G H2 s H' := by
  obtain ⟨a1, a2, a3, a4, a5⟩ := h2
  have hge := jtag_ge hm
  obtain ⟨g1, -⟩ := jrel_arr hR ht hm ho
  refine jrel_upd hR g1 e2 e3 a1 a2 a3 (Or.inr ⟨?_, ?_, ?_⟩)
  · rw [a1, ht]; exact hm
  · rw [a1, ht]; exact jcl_none (by omega)
  · rw [a1, ht, e1, arrV_store]
    congr 2
    funext j
    unfold updV
    split
    · rename_i hj
      subst hj
      exact a5.symm
    · rename_i hj
      exact (a4 j _ hj).symm
theorem jput1_I {x : Int32} : jput1 G H (jsI H o k x) o k (.int x) 0 := by
  refine ⟨rfl, rfl, fun a ha j => ⟨if_neg fun q => ha q.1, rfl, rfl, rfl⟩, fun j kd hj => jcv_congr (if_neg fun q => hj q.2) rfl rfl rfl, ?_⟩
  show (if (0 : Nat) = 0 then Value.int (jI (jsI H o k x) o k) else _) = _
  rw [if_pos rfl]
  exact congrArg _ (if_pos ⟨rfl, rfl⟩)
theorem jput1_L {x : Int64} : jput1 G H (jsL H o k x) o k (.long x) 1 := by
  refine ⟨rfl, rfl, fun a ha j => ⟨rfl, if_neg fun q => ha q.1, rfl, rfl⟩, fun j kd hj => jcv_congr rfl (if_neg fun q => hj q.2) rfl rfl, ?_⟩
  show (if (1 : Nat) = 0 then _ else if (1 : Nat) = 1 then Value.long (jL (jsL H o k x) o k) else _) = _
  rw [if_neg (by decide), if_pos rfl]
  exact congrArg _ (if_pos ⟨rfl, rfl⟩)
theorem jput1_R {x : Nat} : jput1 G H (jsR H o k x) o k (jrv G x) 2 := by
  refine ⟨rfl, rfl, fun a ha j => ⟨rfl, rfl, if_neg fun q => ha q.1, rfl⟩, fun j kd hj => jcv_congr rfl rfl (if_neg fun q => hj q.2) rfl, ?_⟩
  show (if (2 : Nat) = 0 then _ else if (2 : Nat) = 1 then _ else if (2 : Nat) = 2 then jrv G (jR (jsR H o k x) o k) else _) = _
  rw [if_neg (by decide), if_neg (by decide), if_pos rfl]
  exact congrArg _ (if_pos ⟨rfl, rfl⟩)
theorem jput1_B {x : UInt8} : jput1 G H (jsB H o k x) o k (.int (jbs x)) 3 := by
  refine ⟨rfl, rfl, fun a ha j => ⟨rfl, rfl, rfl, if_neg fun q => ha q.1⟩, fun j kd hj => jcv_congr rfl rfl rfl (if_neg fun q => hj q.2), ?_⟩
  show (if (3 : Nat) = 0 then _ else if (3 : Nat) = 1 then _ else if (3 : Nat) = 2 then _ else Value.int (jbs (jB (jsB H o k x) o k))) = _
  rw [if_neg (by decide), if_neg (by decide), if_neg (by decide)]
  exact congrArg (fun u => Value.int (jbs u)) (if_pos ⟨rfl, rfl⟩)
theorem jbs_bu (x : Int32) : jbs (jbu x) = x.toInt8.toInt32 := rfl
end JH
end
section
def jfok (ci k : Nat) (C : String) (T : u_T) (N : Nat) (Y : Nat → FieldType) (kd : Nat) : Prop := jcok ci C T N Y ∧ k < N ∧ jkd (Y k) = kd
def jisref : FieldType → Bool
  | .object _ => true
  | .array _ => true
  | _ => false
def jeI : Int32 → Option Value := fun x => some (.int x)
def jeL : Int64 → Option Value := fun x => some (.long x)
def jeR : Nat → Option Value := fun x => some (.ref x)
def jeV : Unit → Option Value := fun _ => none
def jnw {β : Type} (H : jH) (t n : Nat) (k : Nat → jH → β) : β := k (jn H) (jnew H t n)
abbrev jgn (n : Int32) : Prop := 0 ≤ n.toInt ∧ n.toInt ≤ 1000000
theorem jfits_ref {G : jG} {t : FieldType} {x : Nat} (h : jisref t = true) : narrow t (jrv G x) = jrv G x ∧ fits t (jrv G x) = true := by
  unfold jrv
  split <;> cases t <;> first | (cases h; done) | exact ⟨rfl, rfl⟩
theorem jz_b {x : Int32} (h : x = 0 ∨ x = 1) : narrow .boolean (.int x) = .int x := by
  rcases h with rfl | rfl <;> rfl
theorem jv_ref (G : jG) (r : Nat) : jv G (.ref r) = jrv G r := rfl
theorem s_180I {l : Launch} {mi : jM} {α : Type} {emb : α → Option Value} {pc : Nat} {ls : List (Nat × Value)} {st : List Value} {H : jH} {o1 : Option (α × jH)} (b d q i : Nat) {ci k N o : Nat} {C : String} {T : u_T} {Y : Nat → FieldType} (hf : jfok ci k C T N Y 0) (hl0 : Cond.fieldLink mi.2.2.2.1 i C (T k).2.1 (T k).2.2.1 ∈ jws) (hi : b * 256 + d = i) (hw : jx3 mi.1 mi.2.1 pc 180 b d q = true) (kk0 : JV l mi emb q ls (.int (jI H o k) :: st) H o1) : JV l mi emb pc ls (.ref o :: st) H (jg ((jK H o).1 = ci) o1) := by
  obtain ⟨hw1, rfl⟩ := jx3_spec hw
  subst hi
  intro r H' ho
  obtain ⟨hg, ho⟩ := jg_some ho
  obtain ⟨hm, kk⟩ := kk0 r H' ho
  obtain ⟨f1, f2, f3⟩ := hf
  refine ⟨hm, fun c hc e1 n1 n2 Hr la locs hR hS hl => ?_⟩
  refine jget_core hc.1 hc.2.2.2.2.2.2.2.1 hc.2.2.2.1 f1 hR hg f2 (hc.2.2.2.2.2.2.2.1 _ hl0) (jd_180 hc.2.1 hw1) ?_
  rw [f3]
  exact kk c hc e1 n1 n2 Hr la locs hR hS hl
theorem s_180IN {l : Launch} {mi : jM} {α : Type} {emb : α → Option Value} {pc : Nat} {ls : List (Nat × Value)} {st : List Value} {H : jH} {o1 : Option (α × jH)} (b d q i : Nat) {ci k N o : Nat} {C host : String} {T : u_T} {Y : Nat → FieldType} (hf : jfok ci k C T N Y 0) (hl0 : (mi.2.2.2.1, i, C, (T k).2.1, (T k).2.2.1, host) ∈ jnF) (hi : b * 256 + d = i) (hw : jx3 mi.1 mi.2.1 pc 180 b d q = true) (kk0 : JV l mi emb q ls (.int (jI H o k) :: st) H o1) : JV l mi emb pc ls (.ref o :: st) H (jg ((jK H o).1 = ci) o1) := by
  obtain ⟨hw1, rfl⟩ := jx3_spec hw
  subst hi
  intro r H' ho
  obtain ⟨hg, ho⟩ := jg_some ho
  obtain ⟨hm, kk⟩ := kk0 r H' ho
  obtain ⟨f1, f2, f3⟩ := hf
  refine ⟨hm, fun c hc e1 n1 n2 Hr la locs hR hS hl => ?_⟩
  refine jgetN_core hc.1 hc.2.2.2.2.2.2.2.1 hc.2.2.2.1 f1 hR hg f2 ((hc.2.2.2.2.2.2.2.2.2.1 _ hl0).use rfl) (jd_180 hc.2.1 hw1) ?_
  rw [f3]
  exact kk c hc e1 n1 n2 Hr la locs hR hS hl
theorem s_180L {l : Launch} {mi : jM} {α : Type} {emb : α → Option Value} {pc : Nat} {ls : List (Nat × Value)} {st : List Value} {H : jH} {o1 : Option (α × jH)} (b d q i : Nat) {ci k N o : Nat} {C : String} {T : u_T} {Y : Nat → FieldType} (hf : jfok ci k C T N Y 1) (hl0 : Cond.fieldLink mi.2.2.2.1 i C (T k).2.1 (T k).2.2.1 ∈ jws) (hi : b * 256 + d = i) (hw : jx3 mi.1 mi.2.1 pc 180 b d q = true) (kk0 : JV l mi emb q ls (.long (jL H o k) :: st) H o1) : JV l mi emb pc ls (.ref o :: st) H (jg ((jK H o).1 = ci) o1) := by
  obtain ⟨hw1, rfl⟩ := jx3_spec hw
  subst hi
  intro r H' ho
  obtain ⟨hg, ho⟩ := jg_some ho
  obtain ⟨hm, kk⟩ := kk0 r H' ho
  obtain ⟨f1, f2, f3⟩ := hf
  refine ⟨hm, fun c hc e1 n1 n2 Hr la locs hR hS hl => ?_⟩
  refine jget_core hc.1 hc.2.2.2.2.2.2.2.1 hc.2.2.2.1 f1 hR hg f2 (hc.2.2.2.2.2.2.2.1 _ hl0) (jd_180 hc.2.1 hw1) ?_
  rw [f3]
  exact kk c hc e1 n1 n2 Hr la locs hR hS hl
theorem s_180LN {l : Launch} {mi : jM} {α : Type} {emb : α → Option Value} {pc : Nat} {ls : List (Nat × Value)} {st : List Value} {H : jH} {o1 : Option (α × jH)} (b d q i : Nat) {ci k N o : Nat} {C host : String} {T : u_T} {Y : Nat → FieldType} (hf : jfok ci k C T N Y 1) (hl0 : (mi.2.2.2.1, i, C, (T k).2.1, (T k).2.2.1, host) ∈ jnF) (hi : b * 256 + d = i) (hw : jx3 mi.1 mi.2.1 pc 180 b d q = true) (kk0 : JV l mi emb q ls (.long (jL H o k) :: st) H o1) : JV l mi emb pc ls (.ref o :: st) H (jg ((jK H o).1 = ci) o1) := by
  obtain ⟨hw1, rfl⟩ := jx3_spec hw
  subst hi
  intro r H' ho
  obtain ⟨hg, ho⟩ := jg_some ho
  obtain ⟨hm, kk⟩ := kk0 r H' ho
  obtain ⟨f1, f2, f3⟩ := hf
  refine ⟨hm, fun c hc e1 n1 n2 Hr la locs hR hS hl => ?_⟩
  refine jgetN_core hc.1 hc.2.2.2.2.2.2.2.1 hc.2.2.2.1 f1 hR hg f2 ((hc.2.2.2.2.2.2.2.2.2.1 _ hl0).use rfl) (jd_180 hc.2.1 hw1) ?_
  rw [f3]
  exact kk c hc e1 n1 n2 Hr la locs hR hS hl
theorem s_180R {l : Launch} {mi : jM} {α : Type} {emb : α → Option Value} {pc : Nat} {ls : List (Nat × Value)} {st : List Value} {H : jH} {o1 : Option (α × jH)} (b d q i : Nat) {ci k N o : Nat} {C : String} {T : u_T} {Y : Nat → FieldType} (hf : jfok ci k C T N Y 2) (hl0 : Cond.fieldLink mi.2.2.2.1 i C (T k).2.1 (T k).2.2.1 ∈ jws) (hi : b * 256 + d = i) (hw : jx3 mi.1 mi.2.1 pc 180 b d q = true) (kk0 : JV l mi emb q ls (.ref (jR H o k) :: st) H o1) : JV l mi emb pc ls (.ref o :: st) H (jg ((jK H o).1 = ci) o1) := by
  obtain ⟨hw1, rfl⟩ := jx3_spec hw
  subst hi
  intro r H' ho
  obtain ⟨hg, ho⟩ := jg_some ho
  obtain ⟨hm, kk⟩ := kk0 r H' ho
  obtain ⟨f1, f2, f3⟩ := hf
  refine ⟨hm, fun c hc e1 n1 n2 Hr la locs hR hS hl => ?_⟩
  refine jget_core hc.1 hc.2.2.2.2.2.2.2.1 hc.2.2.2.1 f1 hR hg f2 (hc.2.2.2.2.2.2.2.1 _ hl0) (jd_180 hc.2.1 hw1) ?_
  rw [f3]
  exact kk c hc e1 n1 n2 Hr la locs hR hS hl
theorem s_180RN {l : Launch} {mi : jM} {α : Type} {emb : α → Option Value} {pc : Nat} {ls : List (Nat × Value)} {st : List Value} {H : jH} {o1 : Option (α × jH)} (b d q i : Nat) {ci k N o : Nat} {C host : String} {T : u_T} {Y : Nat → FieldType} (hf : jfok ci k C T N Y 2) (hl0 : (mi.2.2.2.1, i, C, (T k).2.1, (T k).2.2.1, host) ∈ jnF) (hi : b * 256 + d = i) (hw : jx3 mi.1 mi.2.1 pc 180 b d q = true) (kk0 : JV l mi emb q ls (.ref (jR H o k) :: st) H o1) : JV l mi emb pc ls (.ref o :: st) H (jg ((jK H o).1 = ci) o1) := by
  obtain ⟨hw1, rfl⟩ := jx3_spec hw
  subst hi
  intro r H' ho
  obtain ⟨hg, ho⟩ := jg_some ho
  obtain ⟨hm, kk⟩ := kk0 r H' ho
  obtain ⟨f1, f2, f3⟩ := hf
  refine ⟨hm, fun c hc e1 n1 n2 Hr la locs hR hS hl => ?_⟩
  refine jgetN_core hc.1 hc.2.2.2.2.2.2.2.1 hc.2.2.2.1 f1 hR hg f2 ((hc.2.2.2.2.2.2.2.2.2.1 _ hl0).use rfl) (jd_180 hc.2.1 hw1) ?_
  rw [f3]
  exact kk c hc e1 n1 n2 Hr la locs hR hS hl
theorem s_181I {l : Launch} {mi : jM} {α : Type} {emb : α → Option Value} {pc : Nat} {ls : List (Nat × Value)} {st : List Value} {H : jH} {k0 : jH → Option (α × jH)} (b d q i : Nat) {ci k N o : Nat} {x : Int32} {C : String} {T : u_T} {Y : Nat → FieldType} (hf : jfok ci k C T N Y 0) (hY : Y k = .int) (hfin : (T k).2.2.2 = false) (hl0 : Cond.fieldLink mi.2.2.2.1 i C (T k).2.1 (T k).2.2.1 ∈ jws) (hi : b * 256 + d = i) (hw : jx3 mi.1 mi.2.1 pc 181 b d q = true) (kk0 : ∀ H1, JV l mi emb q ls st H1 (k0 H1)) : JV l mi emb pc ls (.int x :: .ref o :: st) H (jg ((jK H o).1 = ci) (jl (jsI H o k x) k0)) := by
  obtain ⟨hw1, rfl⟩ := jx3_spec hw
  subst hi
  intro r H' ho
  obtain ⟨hg, ho⟩ := jg_some ho
  obtain ⟨hm, kk⟩ := kk0 _ r H' ho
  obtain ⟨f1, f2, f3⟩ := hf
  refine ⟨hm, fun c hc e1 n1 n2 Hr la locs hR hS hl => ?_⟩
  exact jput_core (H2 := jsI H o k x) hc.1 hc.2.2.2.2.2.2.2.1 hc.2.2.2.1 f1 hR hS hg f2 (hc.2.2.2.2.2.2.2.1 _ hl0) (Or.inl hfin) (hY ▸ rfl) (hY ▸ rfl) (f3 ▸ jput1_I) (jd_181 hc.2.1 hw1) fun Hr2 locs2 hR2 hS2 => kk c hc e1 n1 n2 Hr2 la locs2 hR2 hS2 hl
theorem s_181IF {l : Launch} {mi : jM} {α : Type} {emb : α → Option Value} {pc : Nat} {ls : List (Nat × Value)} {st : List Value} {H : jH} {k0 : jH → Option (α × jH)} (b d q i : Nat) {ci k N o : Nat} {x : Int32} {C : String} {T : u_T} {Y : Nat → FieldType} (hf : jfok ci k C T N Y 0) (hY : Y k = .int) (hfin : (T k).2.2.2 = true ∧ mi.2.2.2.2.2.1 = "<init>" ∧ C = mi.2.2.2.1) (hl0 : Cond.fieldLink mi.2.2.2.1 i C (T k).2.1 (T k).2.2.1 ∈ jws) (hi : b * 256 + d = i) (hw : jx3 mi.1 mi.2.1 pc 181 b d q = true) (kk0 : ∀ H1, JV l mi emb q ls st H1 (k0 H1)) : JV l mi emb pc ls (.int x :: .ref o :: st) H (jg ((jK H o).1 = ci) (jl (jsI H o k x) k0)) := by
  obtain ⟨hw1, rfl⟩ := jx3_spec hw
  subst hi
  intro r H' ho
  obtain ⟨hg, ho⟩ := jg_some ho
  obtain ⟨hm, kk⟩ := kk0 _ r H' ho
  obtain ⟨f1, f2, f3⟩ := hf
  refine ⟨hm, fun c hc e1 n1 n2 Hr la locs hR hS hl => ?_⟩
  exact jput_core (H2 := jsI H o k x) hc.1 hc.2.2.2.2.2.2.2.1 hc.2.2.2.1 f1 hR hS hg f2 (hc.2.2.2.2.2.2.2.1 _ hl0) (Or.inr ⟨hfin.1, hc.2.2.2.2.2.1.trans hfin.2.1, hfin.2.2⟩) (hY ▸ rfl) (hY ▸ rfl) (f3 ▸ jput1_I) (jd_181 hc.2.1 hw1) fun Hr2 locs2 hR2 hS2 => kk c hc e1 n1 n2 Hr2 la locs2 hR2 hS2 hl
theorem s_181IN {l : Launch} {mi : jM} {α : Type} {emb : α → Option Value} {pc : Nat} {ls : List (Nat × Value)} {st : List Value} {H : jH} {k0 : jH → Option (α × jH)} (b d q i : Nat) {ci k N o : Nat} {x : Int32} {C host : String} {T : u_T} {Y : Nat → FieldType} (hf : jfok ci k C T N Y 0) (hY : Y k = .int) (hfin : (T k).2.2.2 = false) (hl0 : (mi.2.2.2.1, i, C, (T k).2.1, (T k).2.2.1, host) ∈ jnF) (hi : b * 256 + d = i) (hw : jx3 mi.1 mi.2.1 pc 181 b d q = true) (kk0 : ∀ H1, JV l mi emb q ls st H1 (k0 H1)) : JV l mi emb pc ls (.int x :: .ref o :: st) H (jg ((jK H o).1 = ci) (jl (jsI H o k x) k0)) := by
  obtain ⟨hw1, rfl⟩ := jx3_spec hw
  subst hi
  intro r H' ho
  obtain ⟨hg, ho⟩ := jg_some ho
  obtain ⟨hm, kk⟩ := kk0 _ r H' ho
  obtain ⟨f1, f2, f3⟩ := hf
  refine ⟨hm, fun c hc e1 n1 n2 Hr la locs hR hS hl => ?_⟩
  exact jputN_core (H2 := jsI H o k x) hc.1 hc.2.2.2.2.2.2.2.1 hc.2.2.2.1 f1 hR hS hg f2 ((hc.2.2.2.2.2.2.2.2.2.1 _ hl0).use rfl) hfin (hY ▸ rfl) (hY ▸ rfl) (f3 ▸ jput1_I) (jd_181 hc.2.1 hw1) fun Hr2 locs2 hR2 hS2 => kk c hc e1 n1 n2 Hr2 la locs2 hR2 hS2 hl
theorem s_181Z {l : Launch} {mi : jM} {α : Type} {emb : α → Option Value} {pc : Nat} {ls : List (Nat × Value)} {st : List Value} {H : jH} {k0 : jH → Option (α × jH)} (b d q i : Nat) {ci k N o : Nat} {x : Int32} {C : String} {T : u_T} {Y : Nat → FieldType} (hf : jfok ci k C T N Y 0) (hY : Y k = .boolean) (hfin : (T k).2.2.2 = false) (hl0 : Cond.fieldLink mi.2.2.2.1 i C (T k).2.1 (T k).2.2.1 ∈ jws) (hi : b * 256 + d = i) (hw : jx3 mi.1 mi.2.1 pc 181 b d q = true) (kk0 : ∀ H1, JV l mi emb q ls st H1 (k0 H1)) : JV l mi emb pc ls (.int x :: .ref o :: st) H (jg ((jK H o).1 = ci ∧ (x = 0 ∨ x = 1)) (jl (jsI H o k x) k0)) := by
  obtain ⟨hw1, rfl⟩ := jx3_spec hw
  subst hi
  intro r H' ho
  obtain ⟨hg, ho⟩ := jg_some ho
  obtain ⟨hm, kk⟩ := kk0 _ r H' ho
  obtain ⟨f1, f2, f3⟩ := hf
  refine ⟨hm, fun c hc e1 n1 n2 Hr la locs hR hS hl => ?_⟩
  exact jput_core (H2 := jsI H o k x) hc.1 hc.2.2.2.2.2.2.2.1 hc.2.2.2.1 f1 hR hS hg.1 f2 (hc.2.2.2.2.2.2.2.1 _ hl0) (Or.inl hfin) (hY ▸ jz_b hg.2) (by rw [hY]; rcases hg.2 with rfl | rfl <;> rfl) (f3 ▸ jput1_I) (jd_181 hc.2.1 hw1) fun Hr2 locs2 hR2 hS2 => kk c hc e1 n1 n2 Hr2 la locs2 hR2 hS2 hl
theorem s_181ZN {l : Launch} {mi : jM} {α : Type} {emb : α → Option Value} {pc : Nat} {ls : List (Nat × Value)} {st : List Value} {H : jH} {k0 : jH → Option (α × jH)} (b d q i : Nat) {ci k N o : Nat} {x : Int32} {C host : String} {T : u_T} {Y : Nat → FieldType} (hf : jfok ci k C T N Y 0) (hY : Y k = .boolean) (hfin : (T k).2.2.2 = false) (hl0 : (mi.2.2.2.1, i, C, (T k).2.1, (T k).2.2.1, host) ∈ jnF) (hi : b * 256 + d = i) (hw : jx3 mi.1 mi.2.1 pc 181 b d q = true) (kk0 : ∀ H1, JV l mi emb q ls st H1 (k0 H1)) : JV l mi emb pc ls (.int x :: .ref o :: st) H (jg ((jK H o).1 = ci ∧ (x = 0 ∨ x = 1)) (jl (jsI H o k x) k0)) := by
  obtain ⟨hw1, rfl⟩ := jx3_spec hw
  subst hi
  intro r H' ho
  obtain ⟨hg, ho⟩ := jg_some ho
  obtain ⟨hm, kk⟩ := kk0 _ r H' ho
  obtain ⟨f1, f2, f3⟩ := hf
  refine ⟨hm, fun c hc e1 n1 n2 Hr la locs hR hS hl => ?_⟩
  exact jputN_core (H2 := jsI H o k x) hc.1 hc.2.2.2.2.2.2.2.1 hc.2.2.2.1 f1 hR hS hg.1 f2 ((hc.2.2.2.2.2.2.2.2.2.1 _ hl0).use rfl) hfin (hY ▸ jz_b hg.2) (by rw [hY]; rcases hg.2 with rfl | rfl <;> rfl) (f3 ▸ jput1_I) (jd_181 hc.2.1 hw1) fun Hr2 locs2 hR2 hS2 => kk c hc e1 n1 n2 Hr2 la locs2 hR2 hS2 hl
theorem s_181L {l : Launch} {mi : jM} {α : Type} {emb : α → Option Value} {pc : Nat} {ls : List (Nat × Value)} {st : List Value} {H : jH} {k0 : jH → Option (α × jH)} (b d q i : Nat) {ci k N o : Nat} {x : Int64} {C : String} {T : u_T} {Y : Nat → FieldType} (hf : jfok ci k C T N Y 1) (hY : Y k = .long) (hfin : (T k).2.2.2 = false) (hl0 : Cond.fieldLink mi.2.2.2.1 i C (T k).2.1 (T k).2.2.1 ∈ jws) (hi : b * 256 + d = i) (hw : jx3 mi.1 mi.2.1 pc 181 b d q = true) (kk0 : ∀ H1, JV l mi emb q ls st H1 (k0 H1)) : JV l mi emb pc ls (.long x :: .ref o :: st) H (jg ((jK H o).1 = ci) (jl (jsL H o k x) k0)) := by
  obtain ⟨hw1, rfl⟩ := jx3_spec hw
  subst hi
  intro r H' ho
  obtain ⟨hg, ho⟩ := jg_some ho
  obtain ⟨hm, kk⟩ := kk0 _ r H' ho
  obtain ⟨f1, f2, f3⟩ := hf
  refine ⟨hm, fun c hc e1 n1 n2 Hr la locs hR hS hl => ?_⟩
  exact jput_core (H2 := jsL H o k x) hc.1 hc.2.2.2.2.2.2.2.1 hc.2.2.2.1 f1 hR hS hg f2 (hc.2.2.2.2.2.2.2.1 _ hl0) (Or.inl hfin) (hY ▸ rfl) (hY ▸ rfl) (f3 ▸ jput1_L) (jd_181 hc.2.1 hw1) fun Hr2 locs2 hR2 hS2 => kk c hc e1 n1 n2 Hr2 la locs2 hR2 hS2 hl
theorem s_181LF {l : Launch} {mi : jM} {α : Type} {emb : α → Option Value} {pc : Nat} {ls : List (Nat × Value)} {st : List Value} {H : jH} {k0 : jH → Option (α × jH)} (b d q i : Nat) {ci k N o : Nat} {x : Int64} {C : String} {T : u_T} {Y : Nat → FieldType} (hf : jfok ci k C T N Y 1) (hY : Y k = .long) (hfin : (T k).2.2.2 = true ∧ mi.2.2.2.2.2.1 = "<init>" ∧ C = mi.2.2.2.1) (hl0 : Cond.fieldLink mi.2.2.2.1 i C (T k).2.1 (T k).2.2.1 ∈ jws) (hi : b * 256 + d = i) (hw : jx3 mi.1 mi.2.1 pc 181 b d q = true) (kk0 : ∀ H1, JV l mi emb q ls st H1 (k0 H1)) : JV l mi emb pc ls (.long x :: .ref o :: st) H (jg ((jK H o).1 = ci) (jl (jsL H o k x) k0)) := by
  obtain ⟨hw1, rfl⟩ := jx3_spec hw
  subst hi
  intro r H' ho
  obtain ⟨hg, ho⟩ := jg_some ho
  obtain ⟨hm, kk⟩ := kk0 _ r H' ho
  obtain ⟨f1, f2, f3⟩ := hf
  refine ⟨hm, fun c hc e1 n1 n2 Hr la locs hR hS hl => ?_⟩
  exact jput_core (H2 := jsL H o k x) hc.1 hc.2.2.2.2.2.2.2.1 hc.2.2.2.1 f1 hR hS hg f2 (hc.2.2.2.2.2.2.2.1 _ hl0) (Or.inr ⟨hfin.1, hc.2.2.2.2.2.1.trans hfin.2.1, hfin.2.2⟩) (hY ▸ rfl) (hY ▸ rfl) (f3 ▸ jput1_L) (jd_181 hc.2.1 hw1) fun Hr2 locs2 hR2 hS2 => kk c hc e1 n1 n2 Hr2 la locs2 hR2 hS2 hl
theorem s_181LN {l : Launch} {mi : jM} {α : Type} {emb : α → Option Value} {pc : Nat} {ls : List (Nat × Value)} {st : List Value} {H : jH} {k0 : jH → Option (α × jH)} (b d q i : Nat) {ci k N o : Nat} {x : Int64} {C host : String} {T : u_T} {Y : Nat → FieldType} (hf : jfok ci k C T N Y 1) (hY : Y k = .long) (hfin : (T k).2.2.2 = false) (hl0 : (mi.2.2.2.1, i, C, (T k).2.1, (T k).2.2.1, host) ∈ jnF) (hi : b * 256 + d = i) (hw : jx3 mi.1 mi.2.1 pc 181 b d q = true) (kk0 : ∀ H1, JV l mi emb q ls st H1 (k0 H1)) : JV l mi emb pc ls (.long x :: .ref o :: st) H (jg ((jK H o).1 = ci) (jl (jsL H o k x) k0)) := by
  obtain ⟨hw1, rfl⟩ := jx3_spec hw
  subst hi
  intro r H' ho
  obtain ⟨hg, ho⟩ := jg_some ho
  obtain ⟨hm, kk⟩ := kk0 _ r H' ho
  obtain ⟨f1, f2, f3⟩ := hf
  refine ⟨hm, fun c hc e1 n1 n2 Hr la locs hR hS hl => ?_⟩
  exact jputN_core (H2 := jsL H o k x) hc.1 hc.2.2.2.2.2.2.2.1 hc.2.2.2.1 f1 hR hS hg f2 ((hc.2.2.2.2.2.2.2.2.2.1 _ hl0).use rfl) hfin (hY ▸ rfl) (hY ▸ rfl) (f3 ▸ jput1_L) (jd_181 hc.2.1 hw1) fun Hr2 locs2 hR2 hS2 => kk c hc e1 n1 n2 Hr2 la locs2 hR2 hS2 hl
theorem s_181R {l : Launch} {mi : jM} {α : Type} {emb : α → Option Value} {pc : Nat} {ls : List (Nat × Value)} {st : List Value} {H : jH} {k0 : jH → Option (α × jH)} (b d q i : Nat) {ci k N o : Nat} {x : Nat} {C : String} {T : u_T} {Y : Nat → FieldType} (hf : jfok ci k C T N Y 2) (hY : jisref (Y k) = true) (hfin : (T k).2.2.2 = false) (hl0 : Cond.fieldLink mi.2.2.2.1 i C (T k).2.1 (T k).2.2.1 ∈ jws) (hi : b * 256 + d = i) (hw : jx3 mi.1 mi.2.1 pc 181 b d q = true) (kk0 : ∀ H1, JV l mi emb q ls st H1 (k0 H1)) : JV l mi emb pc ls (.ref x :: .ref o :: st) H (jg ((jK H o).1 = ci) (jl (jsR H o k x) k0)) := by
  obtain ⟨hw1, rfl⟩ := jx3_spec hw
  subst hi
  intro r H' ho
  obtain ⟨hg, ho⟩ := jg_some ho
  obtain ⟨hm, kk⟩ := kk0 _ r H' ho
  obtain ⟨f1, f2, f3⟩ := hf
  refine ⟨hm, fun c hc e1 n1 n2 Hr la locs hR hS hl => ?_⟩
  exact jput_core (H2 := jsR H o k x) hc.1 hc.2.2.2.2.2.2.2.1 hc.2.2.2.1 f1 hR hS hg f2 (hc.2.2.2.2.2.2.2.1 _ hl0) (Or.inl hfin) ((jfits_ref hY).1) ((jfits_ref hY).2) (f3 ▸ jput1_R) (jd_181 hc.2.1 hw1) fun Hr2 locs2 hR2 hS2 => kk c hc e1 n1 n2 Hr2 la locs2 hR2 hS2 hl
theorem s_181RF {l : Launch} {mi : jM} {α : Type} {emb : α → Option Value} {pc : Nat} {ls : List (Nat × Value)} {st : List Value} {H : jH} {k0 : jH → Option (α × jH)} (b d q i : Nat) {ci k N o : Nat} {x : Nat} {C : String} {T : u_T} {Y : Nat → FieldType} (hf : jfok ci k C T N Y 2) (hY : jisref (Y k) = true) (hfin : (T k).2.2.2 = true ∧ mi.2.2.2.2.2.1 = "<init>" ∧ C = mi.2.2.2.1) (hl0 : Cond.fieldLink mi.2.2.2.1 i C (T k).2.1 (T k).2.2.1 ∈ jws) (hi : b * 256 + d = i) (hw : jx3 mi.1 mi.2.1 pc 181 b d q = true) (kk0 : ∀ H1, JV l mi emb q ls st H1 (k0 H1)) : JV l mi emb pc ls (.ref x :: .ref o :: st) H (jg ((jK H o).1 = ci) (jl (jsR H o k x) k0)) := by
  obtain ⟨hw1, rfl⟩ := jx3_spec hw
  subst hi
  intro r H' ho
  obtain ⟨hg, ho⟩ := jg_some ho
  obtain ⟨hm, kk⟩ := kk0 _ r H' ho
  obtain ⟨f1, f2, f3⟩ := hf
  refine ⟨hm, fun c hc e1 n1 n2 Hr la locs hR hS hl => ?_⟩
  exact jput_core (H2 := jsR H o k x) hc.1 hc.2.2.2.2.2.2.2.1 hc.2.2.2.1 f1 hR hS hg f2 (hc.2.2.2.2.2.2.2.1 _ hl0) (Or.inr ⟨hfin.1, hc.2.2.2.2.2.1.trans hfin.2.1, hfin.2.2⟩) ((jfits_ref hY).1) ((jfits_ref hY).2) (f3 ▸ jput1_R) (jd_181 hc.2.1 hw1) fun Hr2 locs2 hR2 hS2 => kk c hc e1 n1 n2 Hr2 la locs2 hR2 hS2 hl
theorem s_181RN {l : Launch} {mi : jM} {α : Type} {emb : α → Option Value} {pc : Nat} {ls : List (Nat × Value)} {st : List Value} {H : jH} {k0 : jH → Option (α × jH)} (b d q i : Nat) {ci k N o : Nat} {x : Nat} {C host : String} {T : u_T} {Y : Nat → FieldType} (hf : jfok ci k C T N Y 2) (hY : jisref (Y k) = true) (hfin : (T k).2.2.2 = false) (hl0 : (mi.2.2.2.1, i, C, (T k).2.1, (T k).2.2.1, host) ∈ jnF) (hi : b * 256 + d = i) (hw : jx3 mi.1 mi.2.1 pc 181 b d q = true) (kk0 : ∀ H1, JV l mi emb q ls st H1 (k0 H1)) : JV l mi emb pc ls (.ref x :: .ref o :: st) H (jg ((jK H o).1 = ci) (jl (jsR H o k x) k0)) := by
  obtain ⟨hw1, rfl⟩ := jx3_spec hw
  subst hi
  intro r H' ho
  obtain ⟨hg, ho⟩ := jg_some ho
  obtain ⟨hm, kk⟩ := kk0 _ r H' ho
  obtain ⟨f1, f2, f3⟩ := hf
  refine ⟨hm, fun c hc e1 n1 n2 Hr la locs hR hS hl => ?_⟩
  exact jputN_core (H2 := jsR H o k x) hc.1 hc.2.2.2.2.2.2.2.1 hc.2.2.2.1 f1 hR hS hg f2 ((hc.2.2.2.2.2.2.2.2.2.1 _ hl0).use rfl) hfin ((jfits_ref hY).1) ((jfits_ref hY).2) (f3 ▸ jput1_R) (jd_181 hc.2.1 hw1) fun Hr2 locs2 hR2 hS2 => kk c hc e1 n1 n2 Hr2 la locs2 hR2 hS2 hl
theorem s_46 {l : Launch} {mi : jM} {α : Type} {emb : α → Option Value} {pc : Nat} {ls : List (Nat × Value)} {st : List Value} {H : jH} {o1 : Option (α × jH)} (q : Nat) {a : Nat} {i : Int32} (hw : jx1 mi.1 mi.2.1 pc 46 q = true) (kk0 : JV l mi emb q ls (.int (jI H a i.toNatClampNeg) :: st) H o1) : JV l mi emb pc ls (.int i :: .ref a :: st) H (jg ((jK H a).1 = 100 ∧ jin i (jK H a).2) o1) := by
  obtain ⟨hw1, rfl⟩ := jx1_spec hw
  intro r H' ho
  obtain ⟨hg, ho⟩ := jg_some ho
  obtain ⟨hm, kk⟩ := kk0 r H' ho
  refine ⟨hm, fun c hc e1 n1 n2 Hr la locs hR hS hl => ?_⟩
  obtain ⟨h0, cell, h1, h2, h3, h4, h5⟩ := jread hR hg.1 (by decide) hg.2
  simp only [jstk, List.map_cons, jv_ref, jrv, if_neg h0]
  exact W.iald (v := .int (jI H a i.toNatClampNeg)) hc.1 rfl h1 h2 h3 h4 h5 rfl rfl (jd_46 hc.2.1 hw1) (kk c hc e1 n1 n2 Hr la locs hR hS hl)
theorem s_51B {l : Launch} {mi : jM} {α : Type} {emb : α → Option Value} {pc : Nat} {ls : List (Nat × Value)} {st : List Value} {H : jH} {o1 : Option (α × jH)} (q : Nat) {a : Nat} {i : Int32} (hw : jx1 mi.1 mi.2.1 pc 51 q = true) (kk0 : JV l mi emb q ls (.int (jbs (jB H a i.toNatClampNeg)) :: st) H o1) : JV l mi emb pc ls (.int i :: .ref a :: st) H (jg ((jK H a).1 = 101 ∧ jin i (jK H a).2) o1) := by
  obtain ⟨hw1, rfl⟩ := jx1_spec hw
  intro r H' ho
  obtain ⟨hg, ho⟩ := jg_some ho
  obtain ⟨hm, kk⟩ := kk0 r H' ho
  refine ⟨hm, fun c hc e1 n1 n2 Hr la locs hR hS hl => ?_⟩
  obtain ⟨h0, cell, h1, h2, h3, h4, h5⟩ := jread hR hg.1 (by decide) hg.2
  simp only [jstk, List.map_cons, jv_ref, jrv, if_neg h0]
  exact W.bald (v := .int (jbs (jB H a i.toNatClampNeg))) hc.1 rfl h1 h2 h3 h4 h5 rfl rfl (jd_51 hc.2.1 hw1) (kk c hc e1 n1 n2 Hr la locs hR hS hl)
theorem s_51Z {l : Launch} {mi : jM} {α : Type} {emb : α → Option Value} {pc : Nat} {ls : List (Nat × Value)} {st : List Value} {H : jH} {o1 : Option (α × jH)} (q : Nat) {a : Nat} {i : Int32} (hw : jx1 mi.1 mi.2.1 pc 51 q = true) (kk0 : JV l mi emb q ls (.int (jI H a i.toNatClampNeg) :: st) H o1) : JV l mi emb pc ls (.int i :: .ref a :: st) H (jg ((jK H a).1 = 102 ∧ jin i (jK H a).2) o1) := by
  obtain ⟨hw1, rfl⟩ := jx1_spec hw
  intro r H' ho
  obtain ⟨hg, ho⟩ := jg_some ho
  obtain ⟨hm, kk⟩ := kk0 r H' ho
  refine ⟨hm, fun c hc e1 n1 n2 Hr la locs hR hS hl => ?_⟩
  obtain ⟨h0, cell, h1, h2, h3, h4, h5⟩ := jread hR hg.1 (by decide) hg.2
  simp only [jstk, List.map_cons, jv_ref, jrv, if_neg h0]
  exact W.zald (v := .int (jI H a i.toNatClampNeg)) hc.1 rfl h1 h2 h3 h4 h5 rfl rfl (jd_51 hc.2.1 hw1) (kk c hc e1 n1 n2 Hr la locs hR hS hl)
theorem s_47 {l : Launch} {mi : jM} {α : Type} {emb : α → Option Value} {pc : Nat} {ls : List (Nat × Value)} {st : List Value} {H : jH} {o1 : Option (α × jH)} (q : Nat) {a : Nat} {i : Int32} (hw : jx1 mi.1 mi.2.1 pc 47 q = true) (kk0 : JV l mi emb q ls (.long (jL H a i.toNatClampNeg) :: st) H o1) : JV l mi emb pc ls (.int i :: .ref a :: st) H (jg ((jK H a).1 = 103 ∧ jin i (jK H a).2) o1) := by
  obtain ⟨hw1, rfl⟩ := jx1_spec hw
  intro r H' ho
  obtain ⟨hg, ho⟩ := jg_some ho
  obtain ⟨hm, kk⟩ := kk0 r H' ho
  refine ⟨hm, fun c hc e1 n1 n2 Hr la locs hR hS hl => ?_⟩
  obtain ⟨h0, cell, h1, h2, h3, h4, h5⟩ := jread hR hg.1 (by decide) hg.2
  simp only [jstk, List.map_cons, jv_ref, jrv, if_neg h0]
  exact W.lald (v := .long (jL H a i.toNatClampNeg)) hc.1 rfl h1 h2 h3 h4 h5 rfl rfl (jd_47 hc.2.1 hw1) (kk c hc e1 n1 n2 Hr la locs hR hS hl)
theorem s_50 {l : Launch} {mi : jM} {α : Type} {emb : α → Option Value} {pc : Nat} {ls : List (Nat × Value)} {st : List Value} {H : jH} {o1 : Option (α × jH)} (q t : Nat) {a : Nat} {i : Int32} (ht : t ∈ jtags ∧ (jty t).isReference = true ∧ jkd (jty t) = 2) (hw : jx1 mi.1 mi.2.1 pc 50 q = true) (kk0 : JV l mi emb q ls (.ref (jR H a i.toNatClampNeg) :: st) H o1) : JV l mi emb pc ls (.int i :: .ref a :: st) H (jg ((jK H a).1 = t ∧ jin i (jK H a).2) o1) := by
  obtain ⟨hw1, rfl⟩ := jx1_spec hw
  intro r H' ho
  obtain ⟨hg, ho⟩ := jg_some ho
  obtain ⟨hm, kk⟩ := kk0 r H' ho
  refine ⟨hm, fun c hc e1 n1 n2 Hr la locs hR hS hl => ?_⟩
  obtain ⟨h0, cell, h1, h2, h3, h4, h5⟩ := jread hR hg.1 ht.1 hg.2
  rw [ht.2.2] at h5
  simp only [jstk, List.map_cons, jv_ref]
  rw [show jrv c.2.2.1 a = .ref (jad c.2.2.1 a) from if_neg h0]
  exact W.aald hc.1 rfl h1 h2 ht.2.1 h3 h4 h5 rfl rfl (jd_50 hc.2.1 hw1) (kk c hc e1 n1 n2 Hr la locs hR hS hl)
theorem s_190 {l : Launch} {mi : jM} {α : Type} {emb : α → Option Value} {pc : Nat} {ls : List (Nat × Value)} {st : List Value} {H : jH} {o1 : Option (α × jH)} (q t : Nat) {a : Nat} (ht : t ∈ jtags) (hw : jx1 mi.1 mi.2.1 pc 190 q = true) (kk0 : JV l mi emb q ls (.int (Int32.ofNat (jK H a).2) :: st) H o1) : JV l mi emb pc ls (.ref a :: st) H (jg ((jK H a).1 = t) o1) := by
  obtain ⟨hw1, rfl⟩ := jx1_spec hw
  intro r H' ho
  obtain ⟨hg, ho⟩ := jg_some ho
  obtain ⟨hm, kk⟩ := kk0 r H' ho
  refine ⟨hm, fun c hc e1 n1 n2 Hr la locs hR hS hl => ?_⟩
  have hge := jtag_ge ht
  have h0 : a ≠ 0 := fun e => by rw [e, hR.2.2.2.1] at hg; omega
  simp only [jstk, List.map_cons, jv_ref]
  rw [show jrv c.2.2.1 a = .ref (jad c.2.2.1 a) from if_neg h0]
  by_cases hown : jF0 ≤ a
  · obtain ⟨-, h3⟩ := jrel_arr hR hg ht (Or.inl hown)
    exact W.alen hc.1 rfl h3 ((jrel_ty hR ht).1 _ _) (by rw [arrV_size]) rfl rfl (jd_190 hc.2.1 hw1) (kk c hc e1 n1 n2 Hr la locs hR hS hl)
  · obtain ⟨u1, cell, u2, u3, u4, u5, u6, u7, u8⟩ := (hR.2.2.1 a (by omega)).2.1 (Nat.not_le.mp hown)
    exact W.alen hc.1 rfl (by rw [show jad c.2.2.1 a = c.2.2.1.2.1 a from if_pos (Nat.not_le.mp hown)]; exact u2) u3 u6 rfl rfl (jd_190 hc.2.1 hw1) (kk c hc e1 n1 n2 Hr la locs hR hS hl)
theorem s_79 {l : Launch} {mi : jM} {α : Type} {emb : α → Option Value} {pc : Nat} {ls : List (Nat × Value)} {st : List Value} {H : jH} {k0 : jH → Option (α × jH)} (q : Nat) {a : Nat} {i : Int32} {x : Int32} (hw : jx1 mi.1 mi.2.1 pc 79 q = true) (kk0 : ∀ H1, JV l mi emb q ls st H1 (k0 H1)) : JV l mi emb pc ls (.int x :: .int i :: .ref a :: st) H (jg ((jK H a).1 = 100 ∧ jF0 ≤ a ∧ jin i (jK H a).2) (jl (jsI H a i.toNatClampNeg x) k0)) := by
  obtain ⟨hw1, rfl⟩ := jx1_spec hw
  intro r H' ho
  obtain ⟨hg, ho⟩ := jg_some ho
  obtain ⟨hm, kk⟩ := kk0 _ r H' ho
  refine ⟨hm, fun c hc e1 n1 n2 Hr la locs hR hS hl => ?_⟩
  obtain ⟨h1, h3⟩ := jrel_arr hR hg.1 (by decide) (Or.inl hg.2.1)
  simp only [jstk, List.map_cons, jv_ref]
  rw [jrv_own h1]
  exact W.iast hc.1 rfl h3 ((jrel_ty hR (t := 100) (by decide)).1 _ _) (fun h => by cases h) (by rw [arrV_size]; exact jin_vp hg.2.2) rfl rfl (jd_79 hc.2.1 hw1) fun Hr2 e4 e5 e6 => kk c hc e1 n1 n2 Hr2 la _ (jstore_rel (t := 100) hR hg.1 (by decide) (Or.inl hg.2.1) jput1_I e4 e5 e6) (hS.put e5 e6 (jad_A h1)) hl
theorem s_84B {l : Launch} {mi : jM} {α : Type} {emb : α → Option Value} {pc : Nat} {ls : List (Nat × Value)} {st : List Value} {H : jH} {k0 : jH → Option (α × jH)} (q : Nat) {a : Nat} {i : Int32} {x : Int32} (hw : jx1 mi.1 mi.2.1 pc 84 q = true) (kk0 : ∀ H1, JV l mi emb q ls st H1 (k0 H1)) : JV l mi emb pc ls (.int x :: .int i :: .ref a :: st) H (jg ((jK H a).1 = 101 ∧ jin i (jK H a).2) (jl (jsB H a i.toNatClampNeg (jbu x)) k0)) := by
  obtain ⟨hw1, rfl⟩ := jx1_spec hw
  intro r H' ho
  obtain ⟨hg, ho⟩ := jg_some ho
  obtain ⟨hm, kk⟩ := kk0 _ r H' ho
  refine ⟨hm, fun c hc e1 n1 n2 Hr la locs hR hS hl => ?_⟩
  obtain ⟨h1, h3⟩ := jrel_arr hR hg.1 (by decide) (Or.inr (by decide))
  simp only [jstk, List.map_cons, jv_ref]
  rw [jrv_own h1]
  exact W.bast hc.1 rfl h3 ((jrel_ty hR (t := 101) (by decide)).1 _ _) (fun h => by cases h) (by rw [arrV_size]; exact jin_vp hg.2) rfl rfl (jd_84 hc.2.1 hw1) fun Hr2 e4 e5 e6 => kk c hc e1 n1 n2 Hr2 la _ (jstore_rel (t := 101) hR hg.1 (by decide) (Or.inr (by decide)) jput1_B e4 e5 e6) (hS.put e5 e6 (jad_A h1)) hl
theorem s_84Z {l : Launch} {mi : jM} {α : Type} {emb : α → Option Value} {pc : Nat} {ls : List (Nat × Value)} {st : List Value} {H : jH} {k0 : jH → Option (α × jH)} (q : Nat) {a : Nat} {i : Int32} {x : Int32} (hw : jx1 mi.1 mi.2.1 pc 84 q = true) (kk0 : ∀ H1, JV l mi emb q ls st H1 (k0 H1)) : JV l mi emb pc ls (.int x :: .int i :: .ref a :: st) H (jg ((jK H a).1 = 102 ∧ jin i (jK H a).2) (jl (jsI H a i.toNatClampNeg (x &&& 1)) k0)) := by
  obtain ⟨hw1, rfl⟩ := jx1_spec hw
  intro r H' ho
  obtain ⟨hg, ho⟩ := jg_some ho
  obtain ⟨hm, kk⟩ := kk0 _ r H' ho
  refine ⟨hm, fun c hc e1 n1 n2 Hr la locs hR hS hl => ?_⟩
  obtain ⟨h1, h3⟩ := jrel_arr hR hg.1 (by decide) (Or.inr (by decide))
  simp only [jstk, List.map_cons, jv_ref]
  rw [jrv_own h1]
  exact W.zast hc.1 rfl h3 ((jrel_ty hR (t := 102) (by decide)).1 _ _) (fun h => by cases h) (by rw [arrV_size]; exact jin_vp hg.2) rfl rfl (jd_84 hc.2.1 hw1) fun Hr2 e4 e5 e6 => kk c hc e1 n1 n2 Hr2 la _ (jstore_rel (t := 102) hR hg.1 (by decide) (Or.inr (by decide)) jput1_I e4 e5 e6) (hS.put e5 e6 (jad_A h1)) hl
theorem s_80 {l : Launch} {mi : jM} {α : Type} {emb : α → Option Value} {pc : Nat} {ls : List (Nat × Value)} {st : List Value} {H : jH} {k0 : jH → Option (α × jH)} (q : Nat) {a : Nat} {i : Int32} {x : Int64} (hw : jx1 mi.1 mi.2.1 pc 80 q = true) (kk0 : ∀ H1, JV l mi emb q ls st H1 (k0 H1)) : JV l mi emb pc ls (.long x :: .int i :: .ref a :: st) H (jg ((jK H a).1 = 103 ∧ jin i (jK H a).2) (jl (jsL H a i.toNatClampNeg x) k0)) := by
  obtain ⟨hw1, rfl⟩ := jx1_spec hw
  intro r H' ho
  obtain ⟨hg, ho⟩ := jg_some ho
  obtain ⟨hm, kk⟩ := kk0 _ r H' ho
  refine ⟨hm, fun c hc e1 n1 n2 Hr la locs hR hS hl => ?_⟩
  obtain ⟨h1, h3⟩ := jrel_arr hR hg.1 (by decide) (Or.inr (by decide))
  simp only [jstk, List.map_cons, jv_ref]
  rw [jrv_own h1]
  exact W.last hc.1 rfl h3 ((jrel_ty hR (t := 103) (by decide)).1 _ _) (fun h => by cases h) (by rw [arrV_size]; exact jin_vp hg.2) rfl rfl (jd_80 hc.2.1 hw1) fun Hr2 e4 e5 e6 => kk c hc e1 n1 n2 Hr2 la _ (jstore_rel (t := 103) hR hg.1 (by decide) (Or.inr (by decide)) jput1_L e4 e5 e6) (hS.put e5 e6 (jad_A h1)) hl
theorem s_83 {l : Launch} {mi : jM} {α : Type} {emb : α → Option Value} {pc : Nat} {ls : List (Nat × Value)} {st : List Value} {H : jH} {k0 : jH → Option (α × jH)} (q t et : Nat) {a x N : Nat} {i : Int32} {C : String} {T : u_T} {Y : Nat → FieldType} (ht : t ∈ jtags ∧ t ≠ 100 ∧ jty t = .object C) (he : jcok et C T N Y) (hw : jx1 mi.1 mi.2.1 pc 83 q = true) (kk0 : ∀ H1, JV l mi emb q ls st H1 (k0 H1)) : JV l mi emb pc ls (.ref x :: .int i :: .ref a :: st) H (jg ((jK H a).1 = t ∧ jin i (jK H a).2 ∧ (x = 0 ∨ (jK H x).1 = et)) (jl (jsR H a i.toNatClampNeg x) k0)) := by
  obtain ⟨hw1, rfl⟩ := jx1_spec hw
  intro r H' ho
  obtain ⟨hg, ho⟩ := jg_some ho
  obtain ⟨hm, kk⟩ := kk0 _ r H' ho
  refine ⟨hm, fun c hc e1 n1 n2 Hr la locs hR hS hl => ?_⟩
  obtain ⟨h1, h3⟩ := jrel_arr hR hg.1 ht.1 (Or.inr ht.2.1)
  have hty := jrel_ty hR ht.1
  have hlt := jin_lt hg.2.1
  have h0 : ¬ i < 0 := fun q => jin_vp hg.2.1 (Or.inl q)
  have hkd : jkd (jty t) = 2 := by rw [ht.2.2]; rfl
  simp only [jstk, List.map_cons, jv_ref]
  rw [jrv_own h1]
  rcases hg.2.2 with rfl | hx
  · exact va_WaastN (C := C) hc.1 rfl h3 (by rw [← ht.2.2]; exact hty.1 _ _) (fun h => by cases h) (by rw [arrV_size]; exact jin_vp hg.2.1) rfl rfl (jd_83 hc.2.1 hw1) fun Hr2 e4 e5 e6 => kk c hc e1 n1 n2 Hr2 la _ (jstore_rel (t := t) hR hg.1 ht.1 (Or.inr ht.2.1) (hkd ▸ jput1_R (x := 0)) e4 e5 e6) (hS.put e5 e6 (jad_A h1)) hl
  · obtain ⟨g1, g2, cellV, q1, q2, q3, q4⟩ := jrel_obj hR hx he.1
    rw [jrv_own g1]
    have hcls := (hR.2.2.2.2.1.1 et _ he.1).2
    have hra := hty.2
    rw [ht.2.2] at hra
    obtain ⟨kA, comp, k1, k2, k3, -⟩ := hra
    have hcomp : comp = c.2.2.1.2.2.1.1 et := Option.some.inj (k3.symm.trans hcls.1)
    subst hcomp
    obtain ⟨kC, hkC, -⟩ := hcls.2
    exact W.aast hc.1 rfl h3 (fun q h => by cases h) (fun h => by cases h) k1 k2 rfl hkC ⟨h0, by show _ < (arrV _ _ _).slots.size; rw [arrV_size]; exact hlt⟩ q1 (fun q h => by rw [q3] at h; cases h) (by rw [q2]; exact hkC) (by rw [q2]; exact va_assign hcls) rfl rfl (jd_83 hc.2.1 hw1) fun Hr2 e4 e5 e6 => kk c hc e1 n1 n2 Hr2 la _ (jstore_rel (t := t) hR hg.1 ht.1 (Or.inr ht.2.1) (hkd ▸ jput1_R (x := x)) (by rw [jrv_own g1]; exact e4) e5 e6) (hS.put e5 e6 (jad_A h1)) hl
theorem s_178 {l : Launch} {mi : jM} {α : Type} {emb : α → Option Value} {pc : Nat} {ls : List (Nat × Value)} {st : List Value} {H : jH} {o1 : Option (α × jH)} (b d q i j : Nat) (C n : String) (hq : (j, C, n) ∈ jsts) (hj : j ≠ 0 ∧ j < jF0) (hl0 : Cond.fieldLink mi.2.2.2.1 i C n "[I" ∈ jws) (hi : b * 256 + d = i) (hw : jx3 mi.1 mi.2.1 pc 178 b d q = true) (kk0 : JV l mi emb q ls (.ref j :: st) H o1) : JV l mi emb pc ls st H o1 := by
  obtain ⟨hw1, rfl⟩ := jx3_spec hw
  subst hi
  intro r H' ho
  obtain ⟨hm, kk⟩ := kk0 r H' ho
  refine ⟨hm, fun c hc e1 n1 n2 Hr la locs hR hS hl => ?_⟩
  have h1 := kk c hc e1 n1 n2 Hr la locs hR hS hl
  simp only [jstk, List.map_cons, jv_ref] at h1
  rw [show jrv c.2.2.1 j = .ref (c.2.2.1.2.1 j) from (if_neg hj.1).trans (congrArg Value.ref (if_pos hj.2))] at h1
  exact va_gets hc.1 rfl (hc.2.2.2.2.2.2.2.2.1.2.2.2.2.2 _ hq) hS hc.2.2.2.1 (hc.2.2.2.2.2.2.2.1 _ hl0) (fun x h => h) (jd_178 hc.2.1 hw1) h1
theorem s_187 {l : Launch} {mi : jM} {α : Type} {emb : α → Option Value} {pc : Nat} {ls : List (Nat × Value)} {st : List Value} {H : jH} {k0 : Nat → jH → Option (α × jH)} (b d q i : Nat) {ci N : Nat} {C : String} {T : u_T} {Y : Nat → FieldType} (hok : jcok ci C T N Y) (hcl : Cond.classLink mi.2.2.2.1 i C ∈ jws) (hins : Cond.instantiable C N ∈ jws) (hini : Cond.initialized C ∈ jws) (hi : b * 256 + d = i) (hw : jx3 mi.1 mi.2.1 pc 187 b d q = true) (kk0 : ∀ r H1, JV l mi emb q ls (.ref r :: st) H1 (k0 r H1)) : JV l mi emb pc ls st H (jnw H ci N k0) := by
  obtain ⟨hw1, rfl⟩ := jx3_spec hw
  subst hi
  intro r H' ho
  obtain ⟨hm, kk⟩ := kk0 _ _ r H' ho
  have hjn : jn (jnew H ci N) = jn H + 1 := rfl
  have hjs : js (jnew H ci N) = js H + N := rfl
  rw [hjn, hjs] at hm
  refine ⟨⟨by omega, by omega⟩, fun c hc e1 n1 n2 Hr la locs hR hS hl => ?_⟩
  have hlt := jcl_lt hok.1
  obtain ⟨hSl, hfc, -⟩ := hR.2.2.2.2.1.1 ci _ hok.1
  have hsz := hR.1
  have hF := hR.2.1
  refine W.newcK hc.1 rfl hc.2.2.2.1 (hc.2.2.2.2.2.2.2.1 _ hcl) (hc.2.2.2.2.2.2.2.1 _ hins) (hc.2.2.2.2.2.2.2.1 _ hini) rfl (jd_187 hc.2.1 hw1) (by show _ ≤ jn H' - jn c.2.2.2; omega) (by show _ ≤ js H' - js c.2.2.2; omega) hfc (h := Hr.size) rfl fun Hr2 kC hkC a1 a2 a3 => ?_
  have hR2 : jRel c.2.2.1 (jnew H ci N) c.1.2.2.2 Hr2 := by
    refine jrel_new hR (by omega) a2 a3 (Or.inl ⟨(C, T, N), ?_, ?_, ?_⟩)
    · show jcl[(if jn H = jn H then (ci, N) else jK H (jn H)).1]? = _
      rw [if_pos rfl]; exact hok.1
    · show (if jn H = jn H then (ci, N) else jK H (jn H)).2 = _
      rw [if_pos rfl]
    · have hk1 : (jK (jnew H ci N) (jn H)).1 = ci := by
        show (if jn H = jn H then (ci, N) else jK H (jn H)).1 = _
        rw [if_pos rfl]
      rw [hk1, jad_own hF, show c.2.2.1.1 + (jn H - jF0) = Hr.size by omega]
      refine (u_born Y hc.2.2.2.2.2.2.2.1 hok.2.1 (hR.2.2.2.2.1.1 ci _ hok.1) hkC a1 hok.2.2.1).to fun k hk => ?_
      show defaultValue (Y k) = jcv _ (jnew H ci N) (jn H) k (jfd (T k).2.2.1)
      rw [jfd_ok hok hk]
      have hI : jI (jnew H ci N) (jn H) k = 0 := if_pos rfl
      have hL : jL (jnew H ci N) (jn H) k = 0 := if_pos rfl
      have hRr : jR (jnew H ci N) (jn H) k = 0 := if_pos rfl
      have hBr : jB (jnew H ci N) (jn H) k = 0 := if_pos rfl
      unfold jcv
      rw [hI, hL, hRr, hBr]
      have hY := hok.2.2.2.2.2 k hk
      cases hYk : Y k <;> first | rfl | (rw [hYk] at hY; cases hY)
  have hS2 : va_S (jA c.2.2.1) c.1.2.2.2.heap Hr2 locs := ⟨by rw [a2]; exact Nat.le_succ_of_le hS.1, fun q h1 h2 => by rw [a3 q (Nat.lt_of_lt_of_le h1 hS.1)]; exact hS.2.1 q h1 h2, hS.2.2⟩
  have h1 := kk c hc e1 (by rw [hjn]; omega) (by rw [hjs]; omega) Hr2 la locs hR2 hS2 hl
  simp only [jstk, List.map_cons, jv_ref] at h1
  rw [jrv_own hF, jad_own hF, show c.2.2.1.1 + (jn H - jF0) = Hr.size by omega, hjn, hjs] at h1
  refine W.cs (cells' := jn H + 1 - jn c.2.2.2) (slots' := js H + N - js c.2.2.2) (by omega) (by omega) ?_
  exact h1
end
section
theorem jnew_arr {G : jG} {H : jH} {U : State} {Hr Hr2 : Heap} {t n : Nat} (hR : jRel G H U Hr) (hm : t ∈ jtags) (hsz : Hr2.size = Hr.size + 1) (hoff : ∀ q, q < Hr.size → Hr2[q]? = Hr[q]?)
    (hc : Hr2[Hr.size]? = some (arrV (G.2.2.2 t) n (fun _ => if jkd (jty t) = 0 then .int 0 else if jkd (jty t) = 1 then .long 0 else if jkd (jty t) = 2 then .null else .int 0))) : jRel G (jnew H t n) U Hr2 := by
  have hge := jtag_ge hm
  have hsz1 := hR.1
  have hF := hR.2.1
  have hk1 : jK (jnew H t n) (jn H) = (t, n) := by
    show (if jn H = jn H then (t, n) else jK H (jn H)) = _
    rw [if_pos rfl]
  refine jrel_new hR (by omega) hsz hoff (Or.inr ⟨?_, ?_, ?_⟩)
  · rw [hk1]; exact hm
  · rw [hk1]; exact jcl_none (by show 19 ≤ t; omega)
  · rw [hk1, jad_own hF, show G.1 + (jn H - jF0) = Hr.size by omega, hc]
    congr 2
    funext j
    have hI : jI (jnew H t n) (jn H) j = 0 := if_pos rfl
    have hL : jL (jnew H t n) (jn H) j = 0 := if_pos rfl
    have hRr : jR (jnew H t n) (jn H) j = 0 := if_pos rfl
    have hBr : jB (jnew H t n) (jn H) j = 0 := if_pos rfl
    show _ = jcv G (jnew H t n) (jn H) j (jkd (jty t))
    unfold jcv
    rw [hI, hL, hRr, hBr]
    rfl
theorem jgn_nat {n : Int32} (h : jgn n) : ¬ n < 0 ∧ n.toNatClampNeg ≤ 1000000 := by
  obtain ⟨h1, h2⟩ := h
  refine ⟨fun h3 => ?_, ?_⟩
  · rw [Int32.lt_iff_toInt_lt] at h3
    have : (0 : Int32).toInt = 0 := rfl
    omega
  · show n.toInt.toNat ≤ _
    omega
/-- goes on behind a new cell -/
theorem jnew_go {l : Launch} {mi : jM} {α : Type} {emb : α → Option Value} {pc q : Nat} {ls : List (Nat × Value)} {st st0 : List Value} {H : jH} {t N : Nat} {k0 : Nat → jH → Option (α × jH)} (kk0 : ∀ r H1, JV l mi emb q ls (.ref r :: st) H1 (k0 r H1))
    (hrow : ∀ (c : jX) (Hr : Heap) (la : Array Slot) (locs : List Loc) (H' : jH) (Q : State → Prop), jC mi c → jRel c.2.2.1 H c.1.2.2.2 Hr → jn c.2.2.2 ≤ jn H → js c.2.2.2 ≤ js H → jn H + 1 ≤ jn H' → js H + N ≤ js H' →
      (∀ Hr2 : Heap, jRel c.2.2.1 (jnew H t N) c.1.2.2.2 Hr2 → Hr2.size = Hr.size + 1 → (∀ q, q < Hr.size → Hr2[q]? = Hr[q]?) → W c.1.1 c.1.2.1 c.1.2.2.1 (jroom mi.2.2.2.2.2.2.1 (jn H' - jn c.2.2.2) (js H' - js c.2.2.2) mi.2.2.2.2.2.2.2) c.1.2.2.2 c.2.1.1 c.2.1.2.1 c.2.1.2.2.1 c.2.1.2.2.2.1 c.2.1.2.2.2.2 Hr2 locs (jn H - jn c.2.2.2 + 1) (js H - js c.2.2.2 + N) Q (F0 c.2.1.1 q la (.ref Hr.size :: jstk c.2.2.1 st))) →
      W c.1.1 c.1.2.1 c.1.2.2.1 (jroom mi.2.2.2.2.2.2.1 (jn H' - jn c.2.2.2) (js H' - js c.2.2.2) mi.2.2.2.2.2.2.2) c.1.2.2.2 c.2.1.1 c.2.1.2.1 c.2.1.2.2.1 c.2.1.2.2.2.1 c.2.1.2.2.2.2 Hr locs (jn H - jn c.2.2.2) (js H - js c.2.2.2) Q (F0 c.2.1.1 pc la (jstk c.2.2.1 st0))) : JV l mi emb pc ls st0 H (jnw H t N k0) := by
  intro r H' ho
  obtain ⟨hm, kk⟩ := kk0 _ _ r H' ho
  have hjn : jn (jnew H t N) = jn H + 1 := rfl
  have hjs : js (jnew H t N) = js H + N := rfl
  rw [hjn, hjs] at hm
  refine ⟨⟨by omega, by omega⟩, fun c hc e1 n1 n2 Hr la locs hR hS hl => ?_⟩
  refine hrow c Hr la locs H' _ hc hR n1 n2 hm.1 hm.2 fun Hr2 hR2 a2 a3 => ?_
  have hsz := hR.1
  have hF := hR.2.1
  have hS2 : va_S (jA c.2.2.1) c.1.2.2.2.heap Hr2 locs := ⟨by rw [a2]; exact Nat.le_succ_of_le hS.1, fun q h1 h2 => by rw [a3 q (Nat.lt_of_lt_of_le h1 hS.1)]; exact hS.2.1 q h1 h2, hS.2.2⟩
  have h1 := kk c hc e1 (by rw [hjn]; omega) (by rw [hjs]; omega) Hr2 la locs hR2 hS2 hl
  simp only [jstk, List.map_cons, jv_ref] at h1
  rw [jrv_own hF, jad_own hF, show c.2.2.1.1 + (jn H - jF0) = Hr.size by omega, hjn, hjs] at h1
  refine W.cs (cells' := jn H + 1 - jn c.2.2.2) (slots' := js H + N - js c.2.2.2) (by omega) (by omega) ?_
  exact h1
theorem s_188_10 {l : Launch} {mi : jM} {α : Type} {emb : α → Option Value} {pc : Nat} {ls : List (Nat × Value)} {st : List Value} {H : jH} {k0 : Nat → jH → Option (α × jH)} (q : Nat) {n : Int32} (hcl : Cond.arrayClass .int ∈ jws) (hw : jx2 mi.1 mi.2.1 pc 188 10 q = true) (kk0 : ∀ r H1, JV l mi emb q ls (.ref r :: st) H1 (k0 r H1)) : JV l mi emb pc ls (.int n :: st) H (jg (jgn n) (jnw H 100 n.toNatClampNeg k0)) := by
  obtain ⟨hw1, rfl⟩ := jx2_spec hw
  intro r H' ho
  obtain ⟨hg, ho⟩ := jg_some ho
  obtain ⟨g1, g2⟩ := jgn_nat hg
  refine jnew_go (pc := pc) (st0 := .int n :: st) kk0 ?_ r H' ho
  intro c Hr la locs H' Q hc hR n1 n2 m1 m2 kk
  refine W.newa hc.1 rfl (atype := .int) (hc.2.2.2.2.2.2.2.1 _ hcl) rfl (jd_188_10 hc.2.1 hw1) rfl g1 (by show _ * 4 ≤ _; omega) (by show _ ≤ jn H' - jn c.2.2.2; omega) (by show _ ≤ js H' - js c.2.2.2; omega) fun cA kA comp h1 h2 h3 => ?_
  have hra := (jrel_ty hR (t := 100) (by decide)).2
  have hcA : cA = c.2.2.1.2.2.2 100 := Option.some.inj (h1.symm.trans hra)
  subst hcA
  refine kk _ (jnew_arr hR (by decide) (by simp) (fun q hq => by rw [Array.getElem?_push, if_neg (Nat.ne_of_lt hq)]) ?_) (by simp) (fun q hq => by rw [Array.getElem?_push, if_neg (Nat.ne_of_lt hq)])
  rw [Array.getElem?_push, if_pos rfl, ← arrV_new]
  rfl
theorem s_188_8 {l : Launch} {mi : jM} {α : Type} {emb : α → Option Value} {pc : Nat} {ls : List (Nat × Value)} {st : List Value} {H : jH} {k0 : Nat → jH → Option (α × jH)} (q : Nat) {n : Int32} (hcl : Cond.arrayClass .byte ∈ jws) (hw : jx2 mi.1 mi.2.1 pc 188 8 q = true) (kk0 : ∀ r H1, JV l mi emb q ls (.ref r :: st) H1 (k0 r H1)) : JV l mi emb pc ls (.int n :: st) H (jg (jgn n) (jnw H 101 n.toNatClampNeg k0)) := by
  obtain ⟨hw1, rfl⟩ := jx2_spec hw
  intro r H' ho
  obtain ⟨hg, ho⟩ := jg_some ho
  obtain ⟨g1, g2⟩ := jgn_nat hg
  refine jnew_go (pc := pc) (st0 := .int n :: st) kk0 ?_ r H' ho
  intro c Hr la locs H' Q hc hR n1 n2 m1 m2 kk
  refine W.newa hc.1 rfl (atype := .byte) (hc.2.2.2.2.2.2.2.1 _ hcl) rfl (jd_188_8 hc.2.1 hw1) rfl g1 (by show _ * 1 ≤ _; omega) (by show _ ≤ jn H' - jn c.2.2.2; omega) (by show _ ≤ js H' - js c.2.2.2; omega) fun cA kA comp h1 h2 h3 => ?_
  have hra := (jrel_ty hR (t := 101) (by decide)).2
  have hcA : cA = c.2.2.1.2.2.2 101 := Option.some.inj (h1.symm.trans hra)
  subst hcA
  refine kk _ (jnew_arr hR (by decide) (by simp) (fun q hq => by rw [Array.getElem?_push, if_neg (Nat.ne_of_lt hq)]) ?_) (by simp) (fun q hq => by rw [Array.getElem?_push, if_neg (Nat.ne_of_lt hq)])
  rw [Array.getElem?_push, if_pos rfl, ← arrV_new]
  rfl
theorem s_188_4 {l : Launch} {mi : jM} {α : Type} {emb : α → Option Value} {pc : Nat} {ls : List (Nat × Value)} {st : List Value} {H : jH} {k0 : Nat → jH → Option (α × jH)} (q : Nat) {n : Int32} (hcl : Cond.arrayClass .boolean ∈ jws) (hw : jx2 mi.1 mi.2.1 pc 188 4 q = true) (kk0 : ∀ r H1, JV l mi emb q ls (.ref r :: st) H1 (k0 r H1)) : JV l mi emb pc ls (.int n :: st) H (jg (jgn n) (jnw H 102 n.toNatClampNeg k0)) := by
  obtain ⟨hw1, rfl⟩ := jx2_spec hw
  intro r H' ho
  obtain ⟨hg, ho⟩ := jg_some ho
  obtain ⟨g1, g2⟩ := jgn_nat hg
  refine jnew_go (pc := pc) (st0 := .int n :: st) kk0 ?_ r H' ho
  intro c Hr la locs H' Q hc hR n1 n2 m1 m2 kk
  refine W.newa hc.1 rfl (atype := .boolean) (hc.2.2.2.2.2.2.2.1 _ hcl) rfl (jd_188_4 hc.2.1 hw1) rfl g1 (by show _ * 1 ≤ _; omega) (by show _ ≤ jn H' - jn c.2.2.2; omega) (by show _ ≤ js H' - js c.2.2.2; omega) fun cA kA comp h1 h2 h3 => ?_
  have hra := (jrel_ty hR (t := 102) (by decide)).2
  have hcA : cA = c.2.2.1.2.2.2 102 := Option.some.inj (h1.symm.trans hra)
  subst hcA
  refine kk _ (jnew_arr hR (by decide) (by simp) (fun q hq => by rw [Array.getElem?_push, if_neg (Nat.ne_of_lt hq)]) ?_) (by simp) (fun q hq => by rw [Array.getElem?_push, if_neg (Nat.ne_of_lt hq)])
  rw [Array.getElem?_push, if_pos rfl, ← arrV_new]
  rfl
theorem s_188_11 {l : Launch} {mi : jM} {α : Type} {emb : α → Option Value} {pc : Nat} {ls : List (Nat × Value)} {st : List Value} {H : jH} {k0 : Nat → jH → Option (α × jH)} (q : Nat) {n : Int32} (hcl : Cond.arrayClass .long ∈ jws) (hw : jx2 mi.1 mi.2.1 pc 188 11 q = true) (kk0 : ∀ r H1, JV l mi emb q ls (.ref r :: st) H1 (k0 r H1)) : JV l mi emb pc ls (.int n :: st) H (jg (jgn n) (jnw H 103 n.toNatClampNeg k0)) := by
  obtain ⟨hw1, rfl⟩ := jx2_spec hw
  intro r H' ho
  obtain ⟨hg, ho⟩ := jg_some ho
  obtain ⟨g1, g2⟩ := jgn_nat hg
  refine jnew_go (pc := pc) (st0 := .int n :: st) kk0 ?_ r H' ho
  intro c Hr la locs H' Q hc hR n1 n2 m1 m2 kk
  refine W.newa hc.1 rfl (atype := .long) (hc.2.2.2.2.2.2.2.1 _ hcl) rfl (jd_188_11 hc.2.1 hw1) rfl g1 (by show _ * 8 ≤ _; omega) (by show _ ≤ jn H' - jn c.2.2.2; omega) (by show _ ≤ js H' - js c.2.2.2; omega) fun cA kA comp h1 h2 h3 => ?_
  have hra := (jrel_ty hR (t := 103) (by decide)).2
  have hcA : cA = c.2.2.1.2.2.2 103 := Option.some.inj (h1.symm.trans hra)
  subst hcA
  refine kk _ (jnew_arr hR (by decide) (by simp) (fun q hq => by rw [Array.getElem?_push, if_neg (Nat.ne_of_lt hq)]) ?_) (by simp) (fun q hq => by rw [Array.getElem?_push, if_neg (Nat.ne_of_lt hq)])
  rw [Array.getElem?_push, if_pos rfl, ← arrV_new]
  rfl
theorem s_189 {l : Launch} {mi : jM} {α : Type} {emb : α → Option Value} {pc : Nat} {ls : List (Nat × Value)} {st : List Value} {H : jH} {k0 : Nat → jH → Option (α × jH)} (b d q i t : Nat) {n : Int32} {C : String} (ht : t ∈ jtags ∧ jty t = .object C) (hC : C ∈ ["CoinNode$Tx", "CoinNode$Block", "CoinNode$Point"]) (hcl : Cond.classLink mi.2.2.2.1 i C ∈ jws) (hi : b * 256 + d = i) (hw : jx3 mi.1 mi.2.1 pc 189 b d q = true) (kk0 : ∀ r H1, JV l mi emb q ls (.ref r :: st) H1 (k0 r H1)) : JV l mi emb pc ls (.int n :: st) H (jg (jgn n) (jnw H t n.toNatClampNeg k0)) := by
  obtain ⟨hw1, rfl⟩ := jx3_spec hw
  subst hi
  intro r H' ho
  obtain ⟨hg, ho⟩ := jg_some ho
  obtain ⟨g1, g2⟩ := jgn_nat hg
  refine jnew_go (pc := pc) (st0 := .int n :: st) kk0 ?_ r H' ho
  intro c Hr la locs H' Q hc hR n1 n2 m1 m2 kk
  refine W.anew hc.1 rfl hc.2.2.2.1 (hc.2.2.2.2.2.2.2.1 _ hcl) (va_AO.use (hc.2.2.2.2.2.2.2.2.2.2.2.1.1 _ hC)) rfl (jd_189 hc.2.1 hw1) rfl g1 (by omega) (by show _ ≤ jn H' - jn c.2.2.2; omega) (by show _ ≤ js H' - js c.2.2.2; omega) fun cA kA comp h1 h2 h3 h4 => ?_
  have hra := (jrel_ty hR ht.1).2
  rw [ht.2] at hra
  obtain ⟨kA', comp', -, -, -, hra⟩ := hra
  have hcA : cA = c.2.2.1.2.2.2 t := Option.some.inj (h1.symm.trans hra)
  subst hcA
  have hkd : jkd (jty t) = 2 := by rw [ht.2]; rfl
  refine kk _ (jnew_arr hR ht.1 (by simp) (fun q hq => by rw [Array.getElem?_push, if_neg (Nat.ne_of_lt hq)]) ?_) (by simp) (fun q hq => by rw [Array.getElem?_push, if_neg (Nat.ne_of_lt hq)])
  rw [Array.getElem?_push, if_pos rfl, ← arrV_new, hkd]
  rfl
theorem jrv_inj {G : jG} {a b : Nat} (ha : a = 0 ∨ jF0 ≤ a) (hb : b = 0 ∨ jF0 ≤ b) (h : (if a = 0 then none else some (jad G a)) = (if b = 0 then none else some (jad G b))) : a = b := by
  by_cases h1 : a = 0 <;> by_cases h2 : b = 0
  · rw [h1, h2]
  · rw [if_pos h1, if_neg h2] at h; cases h
  · rw [if_neg h1, if_pos h2] at h; cases h
  · rw [if_neg h1, if_neg h2] at h
    exact jad_inj (ha.resolve_left h1) (hb.resolve_left h2) (Option.some.inj h)
theorem jrv_rf (G : jG) (a : Nat) : jrv G a = va_rf (if a = 0 then none else some (jad G a)) := by
  unfold jrv
  split <;> rfl
theorem s_165 {l : Launch} {mi : jM} {α : Type} {emb : α → Option Value} {pc : Nat} {ls : List (Nat × Value)} {st : List Value} {H : jH} {o o2 : Option (α × jH)} (b d t q : Nat) {x y : Nat} (hw : jx3 mi.1 mi.2.1 pc 165 b d q = true) (ht : jt pc b d t = true) (k1 : JV l mi emb t ls st H o) (k2 : JV l mi emb q ls st H o2) : JV l mi emb pc ls (.ref y :: .ref x :: st) H (jg ((x = 0 ∨ jF0 ≤ x) ∧ (y = 0 ∨ jF0 ≤ y)) (if x = y then o else o2)) := by
  obtain ⟨hw1, rfl⟩ := jx3_spec hw
  intro r H' ho
  obtain ⟨hg, ho⟩ := jg_some ho
  by_cases h : x = y
  · rw [if_pos h] at ho
    obtain ⟨hm, kk⟩ := k1 r H' ho
    refine ⟨hm, fun c hc e1 n1 n2 Hr la locs hR hS hl => ?_⟩
    simp only [jstk, List.map_cons, jv_ref]
    rw [jrv_rf, jrv_rf]
    exact lv_acmp_eq hc.1 rfl (jd_165 hc.2.1 hw1) (jt_spec ht) (fun _ => kk c hc e1 n1 n2 Hr la locs hR hS hl) (fun h9 => absurd (by rw [h]) h9)
  · rw [if_neg h] at ho
    obtain ⟨hm, kk⟩ := k2 r H' ho
    refine ⟨hm, fun c hc e1 n1 n2 Hr la locs hR hS hl => ?_⟩
    simp only [jstk, List.map_cons, jv_ref]
    rw [jrv_rf, jrv_rf]
    exact lv_acmp_eq hc.1 rfl (jd_165 hc.2.1 hw1) (jt_spec ht) (fun h9 => absurd (jrv_inj hg.1 hg.2 h9) h) (fun _ => kk c hc e1 n1 n2 Hr la locs hR hS hl)
theorem s_166 {l : Launch} {mi : jM} {α : Type} {emb : α → Option Value} {pc : Nat} {ls : List (Nat × Value)} {st : List Value} {H : jH} {o o2 : Option (α × jH)} (b d t q : Nat) {x y : Nat} (hw : jx3 mi.1 mi.2.1 pc 166 b d q = true) (ht : jt pc b d t = true) (k1 : JV l mi emb t ls st H o) (k2 : JV l mi emb q ls st H o2) : JV l mi emb pc ls (.ref y :: .ref x :: st) H (jg ((x = 0 ∨ jF0 ≤ x) ∧ (y = 0 ∨ jF0 ≤ y)) (if ¬ x = y then o else o2)) := by
  obtain ⟨hw1, rfl⟩ := jx3_spec hw
  intro r H' ho
  obtain ⟨hg, ho⟩ := jg_some ho
  by_cases h : ¬ x = y
  · rw [if_pos h] at ho
    obtain ⟨hm, kk⟩ := k1 r H' ho
    refine ⟨hm, fun c hc e1 n1 n2 Hr la locs hR hS hl => ?_⟩
    simp only [jstk, List.map_cons, jv_ref]
    rw [jrv_rf, jrv_rf]
    exact lv_acmp_ne hc.1 rfl (jd_166 hc.2.1 hw1) (jt_spec ht) (fun _ => kk c hc e1 n1 n2 Hr la locs hR hS hl) (fun h9 => absurd h9 (fun q => h (jrv_inj hg.1 hg.2 q)))
  · rw [if_neg h] at ho
    obtain ⟨hm, kk⟩ := k2 r H' ho
    refine ⟨hm, fun c hc e1 n1 n2 Hr la locs hR hS hl => ?_⟩
    simp only [jstk, List.map_cons, jv_ref]
    rw [jrv_rf, jrv_rf]
    exact lv_acmp_ne hc.1 rfl (jd_166 hc.2.1 hw1) (jt_spec ht) (fun h9 => absurd (by rw [Classical.not_not.mp h]) h9) (fun _ => kk c hc e1 n1 n2 Hr la locs hR hS hl)
theorem jQ_ok {G : jG} {H : jH} {c : jX} {Hr : Heap} {locs : List Loc} {v : Option Value} (hR : jRel G H c.1.2.2.2 Hr) (hS : va_S (jA G) c.1.2.2.2.heap Hr locs) (t : State) (ht : t.heap = Hr) (hW : c.1.2.2.2.WarmedH t.vm) : jQ G v H c.2.1.2.1 c.1.2.2.2 (.returned (v.map (jv G))) t :=
  ⟨rfl, by rw [ht]; exact jrel_moved hW.alike hR, hS.F ht⟩
theorem s_172 {l : Launch} {mi : jM} {pc : Nat} {ls : List (Nat × Value)} {H : jH} {x : Int32} (hr : mi.2.2.2.2.1 = some .int) (hw : jw1 mi.1 mi.2.1 pc 172 = true) : JV l mi jeI pc ls [.int x] H (some (x, H)) := by
  intro r H' ho
  skip
  cases ho
  refine ⟨⟨Nat.le_refl _, Nat.le_refl _⟩, fun c hc e1 n1 n2 Hr la locs hR hS hl => ?_⟩
  exact W.iret (v := x) hc.1 rfl (hc.2.2.2.2.1.trans hr)  (jQ_ok (v := jeI x) hR hS) hS.2.2 (jd_172 hc.2.1 hw) (hlocks := hc.2.2.2.2.2.2.1)
theorem s_172Z {l : Launch} {mi : jM} {pc : Nat} {ls : List (Nat × Value)} {H : jH} {x : Int32} (hr : mi.2.2.2.2.1 = some .boolean) (hw : jw1 mi.1 mi.2.1 pc 172 = true) : JV l mi jeI pc ls [.int x] H (jg (x = 0 ∨ x = 1) (some (x, H))) := by
  intro r H' ho
  obtain ⟨hg, ho⟩ := jg_some ho
  cases ho
  refine ⟨⟨Nat.le_refl _, Nat.le_refl _⟩, fun c hc e1 n1 n2 Hr la locs hR hS hl => ?_⟩
  exact W.zret (v := x) hc.1 rfl (hc.2.2.2.2.1.trans hr) (jz_b hg) (jQ_ok (v := jeI x) hR hS) hS.2.2 (jd_172 hc.2.1 hw) (hlocks := hc.2.2.2.2.2.2.1)
theorem s_173 {l : Launch} {mi : jM} {pc : Nat} {ls : List (Nat × Value)} {H : jH} {x : Int64} (hr : mi.2.2.2.2.1 = some .long) (hw : jw1 mi.1 mi.2.1 pc 173 = true) : JV l mi jeL pc ls [.long x] H (some (x, H)) := by
  intro r H' ho
  skip
  cases ho
  refine ⟨⟨Nat.le_refl _, Nat.le_refl _⟩, fun c hc e1 n1 n2 Hr la locs hR hS hl => ?_⟩
  exact W.lret (v := x) hc.1 rfl (hc.2.2.2.2.1.trans hr)  (jQ_ok (v := jeL x) hR hS) hS.2.2 (jd_173 hc.2.1 hw) (hlocks := hc.2.2.2.2.2.2.1)
def jrm (a b c d : Nat) : Bool := Nat.ble a b && Nat.ble c d
theorem jrm_spec {a b c d : Nat} (h : jrm a b c d = true) : a ≤ b ∧ c ≤ d := by
  simp only [jrm, Bool.and_eq_true] at h
  exact ⟨Nat.le_of_ble_eq_true h.1, Nat.le_of_ble_eq_true h.2⟩
theorem s_177 {l : Launch} {mi : jM} {pc : Nat} {ls : List (Nat × Value)} {H : jH} (hr : mi.2.2.2.2.1 = none) (hw : jw1 mi.1 mi.2.1 pc 177 = true) : JV l mi jeV pc ls [] H (some ((), H)) := by
  intro r H' ho
  cases ho
  refine ⟨⟨Nat.le_refl _, Nat.le_refl _⟩, fun c hc e1 n1 n2 Hr la locs hR hS hl => ?_⟩
  exact W.vret hc.1 rfl (hc.2.2.2.2.1.trans hr) (jQ_ok (v := jeV ()) hR hS) hS.2.2 (jd_177 hc.2.1 hw) (hlocks := hc.2.2.2.2.2.2.1)
theorem s_176 {l : Launch} {mi : jM} {pc : Nat} {ls : List (Nat × Value)} {H : jH} {x : Nat} {rt : FieldType} (hr : mi.2.2.2.2.1 = some rt) (hrt : jisref rt = true) (hw : jw1 mi.1 mi.2.1 pc 176 = true) : JV l mi jeR pc ls [.ref x] H (some (x, H)) := by
  intro r H' ho
  cases ho
  refine ⟨⟨Nat.le_refl _, Nat.le_refl _⟩, fun c hc e1 n1 n2 Hr la locs hR hS hl => ?_⟩
  refine W.aret (v := jrv c.2.2.1 x) hc.1 rfl (hc.2.2.2.2.1.trans hr) ?_ ?_ (jQ_ok (v := jeR x) hR hS) hS.2.2 (jd_176 hc.2.1 hw) (hlocks := hc.2.2.2.2.2.2.1)
  · cases rt <;> first | (cases hrt; done) | exact Or.inl ⟨_, rfl⟩ | exact Or.inr ⟨_, rfl⟩
  · unfold jrv
    split
    · exact Or.inl rfl
    · exact Or.inr ⟨_, rfl⟩
theorem s_oinit {l : Launch} {mi : jM} {α : Type} {emb : α → Option Value} {pc : Nat} {ls : List (Nat × Value)} {st : List Value} {H : jH} {o : Option (α × jH)} (b d q i : Nat) {x : Nat} (hl0 : Cond.methodLink mi.2.2.2.1 i Lib.objectInit ∈ jws) (hins : Cond.instanceMethod Lib.objectInit ∈ jws) (hco : Cond.code Lib.objectInit ⟨#[0xb1]⟩ 1 none ∈ jws) (hi : b * 256 + d = i) (hrm : jrm 1 mi.2.2.2.2.2.2.1 ((st.map fun v => v.category).sum + 12) mi.2.2.2.2.2.2.2 = true) (hw : jx3 mi.1 mi.2.1 pc 183 b d q = true) (kk0 : JV l mi emb q ls st H o) : JV l mi emb pc ls (.ref x :: st) H (jg (jF0 ≤ x) o) := by
  obtain ⟨hw1, rfl⟩ := jx3_spec hw
  subst hi
  intro r H' ho
  obtain ⟨hg, ho⟩ := jg_some ho
  obtain ⟨hm, kk⟩ := kk0 r H' ho
  refine ⟨hm, fun c hc e1 n1 n2 Hr la locs hR hS hl => ?_⟩
  obtain ⟨hrm1, hrm2⟩ := jrm_spec hrm
  simp only [jstk, List.map_cons, jv_ref]
  rw [jrv_own hg]
  have hcat : ((st.map (jv c.2.2.1)).map fun v => v.category).sum = (st.map fun v => v.category).sum := by
    rw [List.map_map]
    congr 2
    funext v
    exact jv_cat _ v
  exact W.objInit hc.1 rfl hc.2.2.2.1 (hc.2.2.2.2.2.2.2.1 _ hl0) (hc.2.2.2.2.2.2.2.1 _ hins) (hc.2.2.2.2.2.2.2.1 _ hco) rfl (hl.1.trans hc.2.2.1.symm) rfl (jd_183 hc.2.1 hw1) hrm1 (by show 2 * 0 + ((st.map (jv c.2.2.1)).map fun v => v.category).sum + 12 ≤ mi.2.2.2.2.2.2.2; rw [hcat, Nat.mul_zero, Nat.zero_add]; exact hrm2) (kk c hc e1 n1 n2 Hr la locs hR hS hl)
end
section
def jb {α β : Type} (o : Option (α × jH)) (k : α → jH → Option (β × jH)) : Option (β × jH) := match o with
  | some x => k x.1 x.2
  | none => none
theorem jb_some {α β : Type} {o : Option (α × jH)} {k : α → jH → Option (β × jH)} {r : β × jH} (h : jb o k = some r) : ∃ (x : α) (H1 : jH), o = some (x, H1) ∧ k x H1 = some r := by
  unfold jb at h
  split at h
  · rename_i x
    exact ⟨x.1, x.2, rfl, h⟩
  · cases h
def jmok (y : MethodName) (b : ByteArray) (mi : jM) (n : Nat) : Prop := Cond.code y b mi.2.2.1 mi.2.2.2.2.1 ∈ jws ∧ Cond.initialized y.cls ∈ jws ∧ (y.cls ≠ "java/lang/invoke/MethodHandle" ∧ y.cls ≠ "java/lang/invoke/VarHandle") ∧ (parseMethodDescriptor y.desc).map (fun d => d.parameters.length) = some n
theorem jgoodIn {y : MethodName} {b : ByteArray} {maxL : Nat} {ret : Option FieldType} (h : Cond.code y b maxL ret ∈ jws) : GoodIn jws (Cond.code y b maxL ret :: jws) := by
  intro w hw
  rcases List.mem_cons.mp hw with rfl | h2
  · exact ⟨h, good_of_word (jws_good _ h)⟩
  · exact ⟨h2, good_of_word (jws_good _ h2)⟩
theorem jcats (G : jG) (st : List Value) : ((st.map (jv G)).map fun v => v.category).sum = (st.map fun v => v.category).sum := by
  rw [List.map_map]
  congr 2
  funext v
  exact jv_cat _ v
section JC
variable {p : Program} {l : Launch} {e : Env} {R : Room} {s : State} {m : MethodId} {args : Array Value} {below : List Frame} {meth : Method} {c : Code} {Hr : Heap} {locs : List Loc} {cells slots : Nat} {Q : State → Prop}
variable {pc : Nat} {la : Array Slot} {rest st0 : List Value} {G : jG} {H1 : jH} {mc ms : Nat} {a : Array Value}
theorem jcall_core {v : Option Value} (hr : va_Run p l e R s m args below meth c Hr locs cells slots mc ms (F0 m pc la st0) rest (jQ G v H1 a) (jA G)) (hS : va_S (jA G) s.heap Hr locs)
    (kk : ∀ (Hr1 : Heap) (locs1 : List Loc), jRel G H1 s Hr1 → va_S (jA G) s.heap Hr1 locs1 → W p l e R s m args below meth c Hr1 locs1 (cells + mc) (slots + ms) Q (F0 m (pc + 3) la ((v.map (jv G)).toList ++ rest))) : W p l e R s m args below meth c Hr locs cells slots Q (F0 m pc la st0) := by
  intro T hT X
  obtain ⟨v', st₀, t, T', L, h0, X', hL, e1, e2, ⟨hv, hR1, hz, hk⟩, st⟩ := hr T hT X
  have hv' : v' = v.map (jv G) := Outcome.returned.inj hv
  subst hv'
  rw [h0] at hz hk
  have hal : s.vm.Alike t.vm := by rw [← e2]; exact X'.warmed.alike
  have hR2 : jRel G H1 s T'.heap := by
    rw [e1]
    exact jrel_moved hal.symm hR1
  obtain ⟨t2, a1, b1⟩ := kk T'.heap (locs ++ L) hR2 ⟨Nat.le_trans hS.1 (by rw [e1]; exact hz), fun q h1 h2 => by rw [e1, hk q (Nat.lt_of_lt_of_le h1 hS.1) h2]; exact hS.2.1 q h1 h2, fun q hq => by
      rcases List.mem_append.mp hq with h | h
      · exact hS.2.2 q h
      · exact hL q h⟩ T' rfl X'
  exact ⟨t2, st t2 a1, b1⟩
end JC
theorem s_182 {l : Launch} {mi : jM} {α : Type} {emb : α → Option Value} {pc : Nat} {ls : List (Nat × Value)} {st st0 : List Value} {H : jH} {α2 : Type} {emb2 : α2 → Option Value} {o1 : Option (α2 × jH)} {k0 : α2 → jH → Option (α × jH)} (b d q i : Nat) {y : MethodName} {b2 : ByteArray} {mi2 : jM} {n : Nat} {av : List Value} {o ci N : Nat} {T : u_T} {Y : Nat → FieldType} (hM : JMet l y b2 mi2 emb2 (.ref o :: av) H o1) (hs : st0 = av.reverse ++ .ref o :: st) (hk : jmok y b2 mi2 n) (hok : jcok ci y.cls T N Y) (hl0 : Cond.methodLink mi.2.2.2.1 i y ∈ jws) (hin : Cond.instanceMethod y ∈ jws) (hsel : Cond.selects y.cls y y ∈ jws) (hi : b * 256 + d = i) (hn : av.length = n) (hst : Nat.ble ((st.map fun v => v.category).sum) 8 = true) (hrm : jrm (mi2.2.2.2.2.2.2.1 + 1) mi.2.2.2.2.2.2.1 (8 + (mi2.2.2.1 + 11) + mi2.2.2.2.2.2.2.2) mi.2.2.2.2.2.2.2 = true) (hw : jx3 mi.1 mi.2.1 pc 182 b d q = true) (kk0 : ∀ x H1, JV l mi emb q ls ((emb2 x).toList ++ st) H1 (k0 x H1)) : JV l mi emb pc ls st0 H (jg ((jK H o).1 = ci) (jb o1 k0)) := by
  obtain ⟨hw1, rfl⟩ := jx3_spec hw
  subst hi
  subst hs
  intro r H' ho
  obtain ⟨hg, ho⟩ := jg_some ho
  obtain ⟨x, H1, ho1, ho2⟩ := jb_some ho
  obtain ⟨hm1, hMet⟩ := hM x H1 ho1
  obtain ⟨hm, kk⟩ := kk0 x H1 r H' ho2
  refine ⟨⟨by omega, by omega⟩, fun c hc e1 n1 n2 Hr la locs hR hS hl => ?_⟩
  subst e1
  obtain ⟨r1, r2⟩ := jrm_spec hrm
  have hMG := hMet c.2.2.1
  have hPc : ∀ U : State, U.heap = Hr → c.1.2.2.2.WarmedH U.vm → jPc c.2.2.1 (.ref o :: av) H ((.ref o :: av).map (jv c.2.2.1)).toArray U := fun U hU hW => ⟨rfl, by rw [hU]; exact jrel_moved hW.alike hR, jNw_warm hW hc.2.2.2.2.2.2.2.2.2⟩
  have hrest : 2 * (F0 c.2.1.1 pc la (jstk c.2.2.1 (av.reverse ++ .ref o :: st))).monitorRoom + ((st.map (jv c.2.2.1)).map fun v => v.category).sum ≤ 8 := by
    show 2 * 0 + _ ≤ 8
    rw [jcats, Nat.mul_zero, Nat.zero_add]
    exact Nat.le_of_ble_eq_true hst
  obtain ⟨g1, g2, cellB, q1, q2, q3, -⟩ := jrel_obj hR hg hok.1
  have hfc := (hR.2.2.2.2.1.1 ci _ hok.1).2.1
  rw [List.map_cons, jv_ref, jrv_own g1] at hPc
  refine jcall_core (v := emb2 x) (rest := st.map (jv c.2.2.1)) (va_runV (As := av.map (jv c.2.2.1)) (b := jad c.2.2.1 o) (C := y.cls) (n := n) ⟨hc.1, rfl, hc.2.2.1, hc.2.2.2.1, hc.2.2.2.2.2.2.2.1⟩ hMG ⟨callB_of (ws := Cond.code y b2 mi2.2.2.1 mi2.2.2.2.2.1 :: jws) n hc.2.2.2.2.2.2.2.1 (jgoodIn hk.1) rfl rfl rfl (hc.2.2.2.2.2.2.2.1 _ hk.2.1) (hc.2.2.2.2.2.2.2.1 _ hl0) ⟨hk.2.2.1.1, hk.2.2.1.2, hk.2.2.2⟩ ⟨r1, r2⟩, hc.2.2.2.2.2.2.2.1 _ hin, hc.2.2.2.2.2.2.2.1 _ hsel⟩ ⟨jblind _ _ _, ⟨cellB, q1, by rw [q3]; rfl, by rw [q2]; exact hfc⟩, hPc⟩ rfl (by rw [List.length_map]; exact hn) hl.1 (by unfold jstk; rw [List.map_append, List.map_reverse, List.map_cons, jv_ref, jrv_own g1]) hrest (jd_182 hc.2.1 hw1) ⟨by show jn H - jn c.2.2.2 + (jn H1 - jn H) ≤ jn H' - jn c.2.2.2; omega, by show js H - js c.2.2.2 + (js H1 - js H) ≤ js H' - js c.2.2.2; omega⟩) hS fun Hr1 locs1 hR1 hS1 => ?_
  have h9 := kk c hc rfl (by omega) (by omega) Hr1 la locs1 hR1 hS1 hl
  refine W.cs (cells' := jn H1 - jn c.2.2.2) (slots' := js H1 - js c.2.2.2) (by omega) (by omega) ?_
  have hst9 : jstk c.2.2.1 ((emb2 x).toList ++ st) = ((emb2 x).map (jv c.2.2.1)).toList ++ st.map (jv c.2.2.1) := by
    unfold jstk
    rw [List.map_append]
    cases emb2 x <;> rfl
  rw [hst9] at h9
  exact h9
theorem s_184 {l : Launch} {mi : jM} {α : Type} {emb : α → Option Value} {pc : Nat} {ls : List (Nat × Value)} {st st0 : List Value} {H : jH} {α2 : Type} {emb2 : α2 → Option Value} {o1 : Option (α2 × jH)} {k0 : α2 → jH → Option (α × jH)} (b d q i : Nat) {y : MethodName} {b2 : ByteArray} {mi2 : jM} {n : Nat} {av : List Value} (hM : JMet l y b2 mi2 emb2 av H o1) (hs : st0 = av.reverse ++ st) (hk : jmok y b2 mi2 n) (hl0 : Cond.methodLink mi.2.2.2.1 i y ∈ jws) (hin : Cond.static y ∈ jws) (hi : b * 256 + d = i) (hn : av.length = n) (hst : Nat.ble ((st.map fun v => v.category).sum) 8 = true) (hrm : jrm (mi2.2.2.2.2.2.2.1 + 1) mi.2.2.2.2.2.2.1 (8 + (mi2.2.2.1 + 11) + mi2.2.2.2.2.2.2.2) mi.2.2.2.2.2.2.2 = true) (hw : jx3 mi.1 mi.2.1 pc 184 b d q = true) (kk0 : ∀ x H1, JV l mi emb q ls ((emb2 x).toList ++ st) H1 (k0 x H1)) : JV l mi emb pc ls st0 H (jb o1 k0) := by
  obtain ⟨hw1, rfl⟩ := jx3_spec hw
  subst hi
  subst hs
  intro r H' ho
  skip
  obtain ⟨x, H1, ho1, ho2⟩ := jb_some ho
  obtain ⟨hm1, hMet⟩ := hM x H1 ho1
  obtain ⟨hm, kk⟩ := kk0 x H1 r H' ho2
  refine ⟨⟨by omega, by omega⟩, fun c hc e1 n1 n2 Hr la locs hR hS hl => ?_⟩
  subst e1
  obtain ⟨r1, r2⟩ := jrm_spec hrm
  have hMG := hMet c.2.2.1
  have hPc : ∀ U : State, U.heap = Hr → c.1.2.2.2.WarmedH U.vm → jPc c.2.2.1 (av) H ((av).map (jv c.2.2.1)).toArray U := fun U hU hW => ⟨rfl, by rw [hU]; exact jrel_moved hW.alike hR, jNw_warm hW hc.2.2.2.2.2.2.2.2.2⟩
  have hrest : 2 * (F0 c.2.1.1 pc la (jstk c.2.2.1 (av.reverse ++ st))).monitorRoom + ((st.map (jv c.2.2.1)).map fun v => v.category).sum ≤ 8 := by
    show 2 * 0 + _ ≤ 8
    rw [jcats, Nat.mul_zero, Nat.zero_add]
    exact Nat.le_of_ble_eq_true hst
  refine jcall_core (v := emb2 x) (rest := st.map (jv c.2.2.1)) (va_runS (As := av.map (jv c.2.2.1)) (n := n) ⟨hc.1, rfl, hc.2.2.1, hc.2.2.2.1, hc.2.2.2.2.2.2.2.1⟩ hMG ⟨callB_of (ws := Cond.code y b2 mi2.2.2.1 mi2.2.2.2.2.1 :: jws) n hc.2.2.2.2.2.2.2.1 (jgoodIn hk.1) rfl rfl rfl (hc.2.2.2.2.2.2.2.1 _ hk.2.1) (hc.2.2.2.2.2.2.2.1 _ hl0) ⟨hk.2.2.1.1, hk.2.2.1.2, hk.2.2.2⟩ ⟨r1, r2⟩, hc.2.2.2.2.2.2.2.1 _ hin⟩ ⟨jblind _ _ _, hPc⟩ rfl (by rw [List.length_map]; exact hn) hl.1 (by unfold jstk; rw [List.map_append, List.map_reverse]) hrest (jd_184 hc.2.1 hw1) ⟨by show jn H - jn c.2.2.2 + (jn H1 - jn H) ≤ jn H' - jn c.2.2.2; omega, by show js H - js c.2.2.2 + (js H1 - js H) ≤ js H' - js c.2.2.2; omega⟩) hS fun Hr1 locs1 hR1 hS1 => ?_
  have h9 := kk c hc rfl (by omega) (by omega) Hr1 la locs1 hR1 hS1 hl
  refine W.cs (cells' := jn H1 - jn c.2.2.2) (slots' := js H1 - js c.2.2.2) (by omega) (by omega) ?_
  have hst9 : jstk c.2.2.1 ((emb2 x).toList ++ st) = ((emb2 x).map (jv c.2.2.1)).toList ++ st.map (jv c.2.2.1) := by
    unfold jstk
    rw [List.map_append]
    cases emb2 x <;> rfl
  rw [hst9] at h9
  exact h9
theorem s_183 {l : Launch} {mi : jM} {α : Type} {emb : α → Option Value} {pc : Nat} {ls : List (Nat × Value)} {st st0 : List Value} {H : jH} {α2 : Type} {emb2 : α2 → Option Value} {o1 : Option (α2 × jH)} {k0 : α2 → jH → Option (α × jH)} (b d q i : Nat) {y : MethodName} {b2 : ByteArray} {mi2 : jM} {n : Nat} {av : List Value} {o : Nat} (hM : JMet l y b2 mi2 emb2 (.ref o :: av) H o1) (hs : st0 = av.reverse ++ .ref o :: st) (hk : jmok y b2 mi2 n) (hret : mi2.2.2.2.2.1 = none) (hy1 : y.name = "<init>") (hl0 : Cond.methodLink mi.2.2.2.1 i y ∈ jws) (hin : Cond.instanceMethod y ∈ jws) (hi : b * 256 + d = i) (hn : av.length = n) (hst : Nat.ble ((st.map fun v => v.category).sum) 8 = true) (hrm : jrm (mi2.2.2.2.2.2.2.1 + 1) mi.2.2.2.2.2.2.1 (8 + (mi2.2.2.1 + 11) + mi2.2.2.2.2.2.2.2) mi.2.2.2.2.2.2.2 = true) (hw : jx3 mi.1 mi.2.1 pc 183 b d q = true) (kk0 : ∀ x H1, JV l mi emb q ls ((emb2 x).toList ++ st) H1 (k0 x H1)) : JV l mi emb pc ls st0 H (jg (jF0 ≤ o) (jb o1 k0)) := by
  obtain ⟨hw1, rfl⟩ := jx3_spec hw
  subst hi
  subst hs
  intro r H' ho
  obtain ⟨hg, ho⟩ := jg_some ho
  obtain ⟨x, H1, ho1, ho2⟩ := jb_some ho
  obtain ⟨hm1, hMet⟩ := hM x H1 ho1
  obtain ⟨hm, kk⟩ := kk0 x H1 r H' ho2
  refine ⟨⟨by omega, by omega⟩, fun c hc e1 n1 n2 Hr la locs hR hS hl => ?_⟩
  subst e1
  obtain ⟨r1, r2⟩ := jrm_spec hrm
  have hMG := hMet c.2.2.1
  have hPc : ∀ U : State, U.heap = Hr → c.1.2.2.2.WarmedH U.vm → jPc c.2.2.1 (.ref o :: av) H ((.ref o :: av).map (jv c.2.2.1)).toArray U := fun U hU hW => ⟨rfl, by rw [hU]; exact jrel_moved hW.alike hR, jNw_warm hW hc.2.2.2.2.2.2.2.2.2⟩
  have hrest : 2 * (F0 c.2.1.1 pc la (jstk c.2.2.1 (av.reverse ++ .ref o :: st))).monitorRoom + ((st.map (jv c.2.2.1)).map fun v => v.category).sum ≤ 8 := by
    show 2 * 0 + _ ≤ 8
    rw [jcats, Nat.mul_zero, Nat.zero_add]
    exact Nat.le_of_ble_eq_true hst
  rw [List.map_cons, jv_ref, jrv_own hg] at hPc
  rw [hret] at hMG
  refine jcall_core (v := emb2 x) (rest := st.map (jv c.2.2.1)) (va_runI (As := av.map (jv c.2.2.1)) (b := jad c.2.2.1 o) (n := n) ⟨hc.1, rfl, hc.2.2.1, hc.2.2.2.1, hc.2.2.2.2.2.2.2.1⟩ hMG ⟨callB_of (ws := Cond.code y b2 mi2.2.2.1 none :: jws) n hc.2.2.2.2.2.2.2.1 (jgoodIn (hret ▸ hk.1)) rfl rfl rfl (hc.2.2.2.2.2.2.2.1 _ hk.2.1) (hc.2.2.2.2.2.2.2.1 _ hl0) ⟨hk.2.2.1.1, hk.2.2.1.2, hk.2.2.2⟩ ⟨r1, r2⟩, hy1, hc.2.2.2.2.2.2.2.1 _ hin⟩ ⟨jblind _ _ _, hPc⟩ rfl (by rw [List.length_map]; exact hn) hl.1 (by unfold jstk; rw [List.map_append, List.map_reverse, List.map_cons, jv_ref, jrv_own hg]) hrest (jd_183 hc.2.1 hw1) ⟨by show jn H - jn c.2.2.2 + (jn H1 - jn H) ≤ jn H' - jn c.2.2.2; omega, by show js H - js c.2.2.2 + (js H1 - js H) ≤ js H' - js c.2.2.2; omega⟩) hS fun Hr1 locs1 hR1 hS1 => ?_
  have h9 := kk c hc rfl (by omega) (by omega) Hr1 la locs1 hR1 hS1 hl
  refine W.cs (cells' := jn H1 - jn c.2.2.2) (slots' := js H1 - js c.2.2.2) (by omega) (by omega) ?_
  have hst9 : jstk c.2.2.1 ((emb2 x).toList ++ st) = ((emb2 x).map (jv c.2.2.1)).toList ++ st.map (jv c.2.2.1) := by
    unfold jstk
    rw [List.map_append]
    cases emb2 x <;> rfl
  rw [hst9] at h9
  exact h9
theorem s_183N {l : Launch} {mi : jM} {α : Type} {emb : α → Option Value} {pc : Nat} {ls : List (Nat × Value)} {st st0 : List Value} {H : jH} {α2 : Type} {emb2 : α2 → Option Value} {o1 : Option (α2 × jH)} {k0 : α2 → jH → Option (α × jH)} (b d q i : Nat) {y : MethodName} {b2 : ByteArray} {mi2 : jM} {n : Nat} {av : List Value} {o : Nat} {host : String} (hM : JMet l y b2 mi2 emb2 (.ref o :: av) H o1) (hs : st0 = av.reverse ++ .ref o :: st) (hk : jmok y b2 mi2 n) (hret : mi2.2.2.2.2.1 = none) (hy1 : y.name = "<init>") (hl0 : (mi.2.2.2.1, i, y, host) ∈ jnM) (hin : Cond.instanceMethod y ∈ jws) (hi : b * 256 + d = i) (hn : av.length = n) (hst : Nat.ble ((st.map fun v => v.category).sum) 8 = true) (hrm : jrm (mi2.2.2.2.2.2.2.1 + 1) mi.2.2.2.2.2.2.1 (8 + (mi2.2.2.1 + 11) + mi2.2.2.2.2.2.2.2) mi.2.2.2.2.2.2.2 = true) (hw : jx3 mi.1 mi.2.1 pc 183 b d q = true) (kk0 : ∀ x H1, JV l mi emb q ls ((emb2 x).toList ++ st) H1 (k0 x H1)) : JV l mi emb pc ls st0 H (jg (jF0 ≤ o) (jb o1 k0)) := by
  obtain ⟨hw1, rfl⟩ := jx3_spec hw
  subst hi
  subst hs
  intro r H' ho
  obtain ⟨hg, ho⟩ := jg_some ho
  obtain ⟨x, H1, ho1, ho2⟩ := jb_some ho
  obtain ⟨hm1, hMet⟩ := hM x H1 ho1
  obtain ⟨hm, kk⟩ := kk0 x H1 r H' ho2
  refine ⟨⟨by omega, by omega⟩, fun c hc e1 n1 n2 Hr la locs hR hS hl => ?_⟩
  subst e1
  obtain ⟨r1, r2⟩ := jrm_spec hrm
  have hMG := hMet c.2.2.1
  have hPc : ∀ U : State, U.heap = Hr → c.1.2.2.2.WarmedH U.vm → jPc c.2.2.1 (.ref o :: av) H ((.ref o :: av).map (jv c.2.2.1)).toArray U := fun U hU hW => ⟨rfl, by rw [hU]; exact jrel_moved hW.alike hR, jNw_warm hW hc.2.2.2.2.2.2.2.2.2⟩
  have hrest : 2 * (F0 c.2.1.1 pc la (jstk c.2.2.1 (av.reverse ++ .ref o :: st))).monitorRoom + ((st.map (jv c.2.2.1)).map fun v => v.category).sum ≤ 8 := by
    show 2 * 0 + _ ≤ 8
    rw [jcats, Nat.mul_zero, Nat.zero_add]
    exact Nat.le_of_ble_eq_true hst
  rw [List.map_cons, jv_ref, jrv_own hg] at hPc
  rw [hret] at hMG
  refine jcall_core (v := emb2 x) (rest := st.map (jv c.2.2.1)) (va_runIN (As := av.map (jv c.2.2.1)) (b := jad c.2.2.1 o) (n := n) ⟨hc.1, rfl, hc.2.2.1, hc.2.2.2.1, hc.2.2.2.2.2.2.2.1⟩ hMG ⟨va_cnB (ws := Cond.code y b2 mi2.2.2.1 none :: jws) n hc.2.2.2.2.2.2.2.1 (jgoodIn (hret ▸ hk.1)) rfl rfl rfl (hc.2.2.2.2.2.2.2.2.2.2.1 _ hl0) (hc.2.2.2.2.2.2.2.1 _ hk.2.1) ⟨hk.2.2.1.1, hk.2.2.1.2, hk.2.2.2⟩ ⟨r1, r2⟩, hy1, hc.2.2.2.2.2.2.2.1 _ hin⟩ ⟨jblind _ _ _, hPc⟩ rfl (by rw [List.length_map]; exact hn) hl.1 (by unfold jstk; rw [List.map_append, List.map_reverse, List.map_cons, jv_ref, jrv_own hg]) hrest (jd_183 hc.2.1 hw1) ⟨by show jn H - jn c.2.2.2 + (jn H1 - jn H) ≤ jn H' - jn c.2.2.2; omega, by show js H - js c.2.2.2 + (js H1 - js H) ≤ js H' - js c.2.2.2; omega⟩) hS fun Hr1 locs1 hR1 hS1 => ?_
  have h9 := kk c hc rfl (by omega) (by omega) Hr1 la locs1 hR1 hS1 hl
  refine W.cs (cells' := jn H1 - jn c.2.2.2) (slots' := js H1 - js c.2.2.2) (by omega) (by omega) ?_
  have hst9 : jstk c.2.2.1 ((emb2 x).toList ++ st) = ((emb2 x).map (jv c.2.2.1)).toList ++ st.map (jv c.2.2.1) := by
    unfold jstk
    rw [List.map_append]
    cases emb2 x <;> rfl
  rw [hst9] at h9
  exact h9
end
section
theorem s_182I {l : Launch} {mi : jM} {α : Type} {emb : α → Option Value} {pc : Nat} {ls : List (Nat × Value)} {st st0 : List Value} {H : jH} {o1 : Option (Int32 × jH)} {k0 : Int32 → jH → Option (α × jH)} (b d q i : Nat) {y : MethodName} {b2 : ByteArray} {mi2 : jM} {n : Nat} {av : List Value} {o ci N : Nat} {T : u_T} {Y : Nat → FieldType} (hM : JMet l y b2 mi2 jeI (.ref o :: av) H o1) (hs : st0 = av.reverse ++ .ref o :: st) (hk : jmok y b2 mi2 n) (hok : jcok ci y.cls T N Y) (hl0 : Cond.methodLink mi.2.2.2.1 i y ∈ jws) (hin : Cond.instanceMethod y ∈ jws) (hsel : Cond.selects y.cls y y ∈ jws) (hi : b * 256 + d = i) (hn : av.length = n) (hst : Nat.ble ((st.map fun v => v.category).sum) 8 = true) (hrm : jrm (mi2.2.2.2.2.2.2.1 + 1) mi.2.2.2.2.2.2.1 (8 + (mi2.2.2.1 + 11) + mi2.2.2.2.2.2.2.2) mi.2.2.2.2.2.2.2 = true) (hw : jx3 mi.1 mi.2.1 pc 182 b d q = true) (kk0 : ∀ x H1, JV l mi emb q ls (.int x :: st) H1 (k0 x H1)) : JV l mi emb pc ls st0 H (jg ((jK H o).1 = ci) (jb o1 k0)) :=
  s_182 b d q i hM hs hk hok hl0 hin hsel hi hn hst hrm hw kk0
theorem s_182L {l : Launch} {mi : jM} {α : Type} {emb : α → Option Value} {pc : Nat} {ls : List (Nat × Value)} {st st0 : List Value} {H : jH} {o1 : Option (Int64 × jH)} {k0 : Int64 → jH → Option (α × jH)} (b d q i : Nat) {y : MethodName} {b2 : ByteArray} {mi2 : jM} {n : Nat} {av : List Value} {o ci N : Nat} {T : u_T} {Y : Nat → FieldType} (hM : JMet l y b2 mi2 jeL (.ref o :: av) H o1) (hs : st0 = av.reverse ++ .ref o :: st) (hk : jmok y b2 mi2 n) (hok : jcok ci y.cls T N Y) (hl0 : Cond.methodLink mi.2.2.2.1 i y ∈ jws) (hin : Cond.instanceMethod y ∈ jws) (hsel : Cond.selects y.cls y y ∈ jws) (hi : b * 256 + d = i) (hn : av.length = n) (hst : Nat.ble ((st.map fun v => v.category).sum) 8 = true) (hrm : jrm (mi2.2.2.2.2.2.2.1 + 1) mi.2.2.2.2.2.2.1 (8 + (mi2.2.2.1 + 11) + mi2.2.2.2.2.2.2.2) mi.2.2.2.2.2.2.2 = true) (hw : jx3 mi.1 mi.2.1 pc 182 b d q = true) (kk0 : ∀ x H1, JV l mi emb q ls (.long x :: st) H1 (k0 x H1)) : JV l mi emb pc ls st0 H (jg ((jK H o).1 = ci) (jb o1 k0)) :=
  s_182 b d q i hM hs hk hok hl0 hin hsel hi hn hst hrm hw kk0
theorem s_182R {l : Launch} {mi : jM} {α : Type} {emb : α → Option Value} {pc : Nat} {ls : List (Nat × Value)} {st st0 : List Value} {H : jH} {o1 : Option (Nat × jH)} {k0 : Nat → jH → Option (α × jH)} (b d q i : Nat) {y : MethodName} {b2 : ByteArray} {mi2 : jM} {n : Nat} {av : List Value} {o ci N : Nat} {T : u_T} {Y : Nat → FieldType} (hM : JMet l y b2 mi2 jeR (.ref o :: av) H o1) (hs : st0 = av.reverse ++ .ref o :: st) (hk : jmok y b2 mi2 n) (hok : jcok ci y.cls T N Y) (hl0 : Cond.methodLink mi.2.2.2.1 i y ∈ jws) (hin : Cond.instanceMethod y ∈ jws) (hsel : Cond.selects y.cls y y ∈ jws) (hi : b * 256 + d = i) (hn : av.length = n) (hst : Nat.ble ((st.map fun v => v.category).sum) 8 = true) (hrm : jrm (mi2.2.2.2.2.2.2.1 + 1) mi.2.2.2.2.2.2.1 (8 + (mi2.2.2.1 + 11) + mi2.2.2.2.2.2.2.2) mi.2.2.2.2.2.2.2 = true) (hw : jx3 mi.1 mi.2.1 pc 182 b d q = true) (kk0 : ∀ x H1, JV l mi emb q ls (.ref x :: st) H1 (k0 x H1)) : JV l mi emb pc ls st0 H (jg ((jK H o).1 = ci) (jb o1 k0)) :=
  s_182 b d q i hM hs hk hok hl0 hin hsel hi hn hst hrm hw kk0
theorem s_182V {l : Launch} {mi : jM} {α : Type} {emb : α → Option Value} {pc : Nat} {ls : List (Nat × Value)} {st st0 : List Value} {H : jH} {o1 : Option (Unit × jH)} {k0 : Unit → jH → Option (α × jH)} (b d q i : Nat) {y : MethodName} {b2 : ByteArray} {mi2 : jM} {n : Nat} {av : List Value} {o ci N : Nat} {T : u_T} {Y : Nat → FieldType} (hM : JMet l y b2 mi2 jeV (.ref o :: av) H o1) (hs : st0 = av.reverse ++ .ref o :: st) (hk : jmok y b2 mi2 n) (hok : jcok ci y.cls T N Y) (hl0 : Cond.methodLink mi.2.2.2.1 i y ∈ jws) (hin : Cond.instanceMethod y ∈ jws) (hsel : Cond.selects y.cls y y ∈ jws) (hi : b * 256 + d = i) (hn : av.length = n) (hst : Nat.ble ((st.map fun v => v.category).sum) 8 = true) (hrm : jrm (mi2.2.2.2.2.2.2.1 + 1) mi.2.2.2.2.2.2.1 (8 + (mi2.2.2.1 + 11) + mi2.2.2.2.2.2.2.2) mi.2.2.2.2.2.2.2 = true) (hw : jx3 mi.1 mi.2.1 pc 182 b d q = true) (kk0 : ∀ x H1, JV l mi emb q ls (st) H1 (k0 x H1)) : JV l mi emb pc ls st0 H (jg ((jK H o).1 = ci) (jb o1 k0)) :=
  s_182 b d q i hM hs hk hok hl0 hin hsel hi hn hst hrm hw kk0
theorem s_184I {l : Launch} {mi : jM} {α : Type} {emb : α → Option Value} {pc : Nat} {ls : List (Nat × Value)} {st st0 : List Value} {H : jH} {o1 : Option (Int32 × jH)} {k0 : Int32 → jH → Option (α × jH)} (b d q i : Nat) {y : MethodName} {b2 : ByteArray} {mi2 : jM} {n : Nat} {av : List Value} (hM : JMet l y b2 mi2 jeI av H o1) (hs : st0 = av.reverse ++ st) (hk : jmok y b2 mi2 n) (hl0 : Cond.methodLink mi.2.2.2.1 i y ∈ jws) (hin : Cond.static y ∈ jws) (hi : b * 256 + d = i) (hn : av.length = n) (hst : Nat.ble ((st.map fun v => v.category).sum) 8 = true) (hrm : jrm (mi2.2.2.2.2.2.2.1 + 1) mi.2.2.2.2.2.2.1 (8 + (mi2.2.2.1 + 11) + mi2.2.2.2.2.2.2.2) mi.2.2.2.2.2.2.2 = true) (hw : jx3 mi.1 mi.2.1 pc 184 b d q = true) (kk0 : ∀ x H1, JV l mi emb q ls (.int x :: st) H1 (k0 x H1)) : JV l mi emb pc ls st0 H (jb o1 k0) :=
  s_184 b d q i hM hs hk hl0 hin hi hn hst hrm hw kk0
theorem s_184L {l : Launch} {mi : jM} {α : Type} {emb : α → Option Value} {pc : Nat} {ls : List (Nat × Value)} {st st0 : List Value} {H : jH} {o1 : Option (Int64 × jH)} {k0 : Int64 → jH → Option (α × jH)} (b d q i : Nat) {y : MethodName} {b2 : ByteArray} {mi2 : jM} {n : Nat} {av : List Value} (hM : JMet l y b2 mi2 jeL av H o1) (hs : st0 = av.reverse ++ st) (hk : jmok y b2 mi2 n) (hl0 : Cond.methodLink mi.2.2.2.1 i y ∈ jws) (hin : Cond.static y ∈ jws) (hi : b * 256 + d = i) (hn : av.length = n) (hst : Nat.ble ((st.map fun v => v.category).sum) 8 = true) (hrm : jrm (mi2.2.2.2.2.2.2.1 + 1) mi.2.2.2.2.2.2.1 (8 + (mi2.2.2.1 + 11) + mi2.2.2.2.2.2.2.2) mi.2.2.2.2.2.2.2 = true) (hw : jx3 mi.1 mi.2.1 pc 184 b d q = true) (kk0 : ∀ x H1, JV l mi emb q ls (.long x :: st) H1 (k0 x H1)) : JV l mi emb pc ls st0 H (jb o1 k0) :=
  s_184 b d q i hM hs hk hl0 hin hi hn hst hrm hw kk0
theorem s_184R {l : Launch} {mi : jM} {α : Type} {emb : α → Option Value} {pc : Nat} {ls : List (Nat × Value)} {st st0 : List Value} {H : jH} {o1 : Option (Nat × jH)} {k0 : Nat → jH → Option (α × jH)} (b d q i : Nat) {y : MethodName} {b2 : ByteArray} {mi2 : jM} {n : Nat} {av : List Value} (hM : JMet l y b2 mi2 jeR av H o1) (hs : st0 = av.reverse ++ st) (hk : jmok y b2 mi2 n) (hl0 : Cond.methodLink mi.2.2.2.1 i y ∈ jws) (hin : Cond.static y ∈ jws) (hi : b * 256 + d = i) (hn : av.length = n) (hst : Nat.ble ((st.map fun v => v.category).sum) 8 = true) (hrm : jrm (mi2.2.2.2.2.2.2.1 + 1) mi.2.2.2.2.2.2.1 (8 + (mi2.2.2.1 + 11) + mi2.2.2.2.2.2.2.2) mi.2.2.2.2.2.2.2 = true) (hw : jx3 mi.1 mi.2.1 pc 184 b d q = true) (kk0 : ∀ x H1, JV l mi emb q ls (.ref x :: st) H1 (k0 x H1)) : JV l mi emb pc ls st0 H (jb o1 k0) :=
  s_184 b d q i hM hs hk hl0 hin hi hn hst hrm hw kk0
theorem s_184V {l : Launch} {mi : jM} {α : Type} {emb : α → Option Value} {pc : Nat} {ls : List (Nat × Value)} {st st0 : List Value} {H : jH} {o1 : Option (Unit × jH)} {k0 : Unit → jH → Option (α × jH)} (b d q i : Nat) {y : MethodName} {b2 : ByteArray} {mi2 : jM} {n : Nat} {av : List Value} (hM : JMet l y b2 mi2 jeV av H o1) (hs : st0 = av.reverse ++ st) (hk : jmok y b2 mi2 n) (hl0 : Cond.methodLink mi.2.2.2.1 i y ∈ jws) (hin : Cond.static y ∈ jws) (hi : b * 256 + d = i) (hn : av.length = n) (hst : Nat.ble ((st.map fun v => v.category).sum) 8 = true) (hrm : jrm (mi2.2.2.2.2.2.2.1 + 1) mi.2.2.2.2.2.2.1 (8 + (mi2.2.2.1 + 11) + mi2.2.2.2.2.2.2.2) mi.2.2.2.2.2.2.2 = true) (hw : jx3 mi.1 mi.2.1 pc 184 b d q = true) (kk0 : ∀ x H1, JV l mi emb q ls (st) H1 (k0 x H1)) : JV l mi emb pc ls st0 H (jb o1 k0) :=
  s_184 b d q i hM hs hk hl0 hin hi hn hst hrm hw kk0
theorem s_183V {l : Launch} {mi : jM} {α : Type} {emb : α → Option Value} {pc : Nat} {ls : List (Nat × Value)} {st st0 : List Value} {H : jH} {o1 : Option (Unit × jH)} {k0 : Unit → jH → Option (α × jH)} (b d q i : Nat) {y : MethodName} {b2 : ByteArray} {mi2 : jM} {n : Nat} {av : List Value} {o : Nat} (hM : JMet l y b2 mi2 jeV (.ref o :: av) H o1) (hs : st0 = av.reverse ++ .ref o :: st) (hk : jmok y b2 mi2 n) (hret : mi2.2.2.2.2.1 = none) (hy1 : y.name = "<init>") (hl0 : Cond.methodLink mi.2.2.2.1 i y ∈ jws) (hin : Cond.instanceMethod y ∈ jws) (hi : b * 256 + d = i) (hn : av.length = n) (hst : Nat.ble ((st.map fun v => v.category).sum) 8 = true) (hrm : jrm (mi2.2.2.2.2.2.2.1 + 1) mi.2.2.2.2.2.2.1 (8 + (mi2.2.2.1 + 11) + mi2.2.2.2.2.2.2.2) mi.2.2.2.2.2.2.2 = true) (hw : jx3 mi.1 mi.2.1 pc 183 b d q = true) (kk0 : ∀ x H1, JV l mi emb q ls st H1 (k0 x H1)) : JV l mi emb pc ls st0 H (jg (jF0 ≤ o) (jb o1 k0)) :=
  s_183 b d q i hM hs hk hret hy1 hl0 hin hi hn hst hrm hw kk0
theorem s_183VN {l : Launch} {mi : jM} {α : Type} {emb : α → Option Value} {pc : Nat} {ls : List (Nat × Value)} {st st0 : List Value} {H : jH} {o1 : Option (Unit × jH)} {k0 : Unit → jH → Option (α × jH)} (b d q i : Nat) {y : MethodName} {b2 : ByteArray} {mi2 : jM} {n : Nat} {av : List Value} {o : Nat} {host : String} (hM : JMet l y b2 mi2 jeV (.ref o :: av) H o1) (hs : st0 = av.reverse ++ .ref o :: st) (hk : jmok y b2 mi2 n) (hret : mi2.2.2.2.2.1 = none) (hy1 : y.name = "<init>") (hl0 : (mi.2.2.2.1, i, y, host) ∈ jnM) (hin : Cond.instanceMethod y ∈ jws) (hi : b * 256 + d = i) (hn : av.length = n) (hst : Nat.ble ((st.map fun v => v.category).sum) 8 = true) (hrm : jrm (mi2.2.2.2.2.2.2.1 + 1) mi.2.2.2.2.2.2.1 (8 + (mi2.2.2.1 + 11) + mi2.2.2.2.2.2.2.2) mi.2.2.2.2.2.2.2 = true) (hw : jx3 mi.1 mi.2.1 pc 183 b d q = true) (kk0 : ∀ x H1, JV l mi emb q ls st H1 (k0 x H1)) : JV l mi emb pc ls st0 H (jg (jF0 ≤ o) (jb o1 k0)) :=
  s_183N b d q i hM hs hk hret hy1 hl0 hin hi hn hst hrm hw kk0
theorem s_jmp {l : Launch} {mi : jM} {α : Type} {emb : α → Option Value} {pc : Nat} {ls ls' : List (Nat × Value)} {st : List Value} {H : jH} {o : Option (α × jH)} (k : JV l mi emb pc ls' st H o) (hs : jsub ls' ls) : JV l mi emb pc ls st H o := s_sub hs k
def jfuel : Nat := 4294967296
theorem jn_inj {a b : ByteArray} {N S : Nat} (ha : jn_is a N S) (hb : jn_is b N S) : a = b := by
  have h : a.data.toList.map UInt8.toNat = b.data.toList.map UInt8.toNat := ha.trans hb.symm
  have h2 : a.data.toList = b.data.toList := (List.map_inj_right (fun _ _ h => UInt8.toNat_inj.mp h)).mp h
  have h3 : a.data = b.data := Array.toList_inj.mp h2
  cases a
  cases b
  cases h3
  rfl
theorem s_sw1 {l : Launch} {mi : jM} {α : Type} {emb : α → Option Value} {pc : Nat} {ls : List (Nat × Value)} {st st0 : List Value} {H : jH} {o o2 : Option (α × jH)} {b : ByteArray} (len tgt : Nat) (dflt lo hi off : Int) (offs : Array Int) (v : Int32) {x : Int32} (hb : jn_is b mi.1 mi.2.1) (hd : decode b pc = .ok (.tableswitch dflt lo hi offs, len)) (hv : ¬ v.toInt < lo ∧ ¬ hi < v.toInt ∧ offs[(v.toInt - lo).toNat]? = some off ∧ (pc : Int) + off = (tgt : Int)) (k1 : JV l mi emb tgt ls st H o) (k2 : ¬ x = v → JV l mi emb pc ls (.int x :: st) H o2) : JV l mi emb pc ls (.int x :: st) H (if x = v then o else o2) := by
  intro r H' ho
  by_cases h : x = v
  · rw [if_pos h] at ho
    obtain ⟨hm, kk⟩ := k1 r H' ho
    subst h
    refine ⟨hm, fun c hc e1 n1 n2 Hr la locs hR hS hl => ?_⟩
    exact lv_tableIn hc.1 rfl (by rw [jn_inj hc.2.1 hb]; exact hd) hv.1 hv.2.1 hv.2.2.1 hv.2.2.2 (kk c hc e1 n1 n2 Hr la locs hR hS hl)
  · rw [if_neg h] at ho
    exact k2 h r H' ho
theorem s_sw0 {l : Launch} {mi : jM} {α : Type} {emb : α → Option Value} {pc : Nat} {ls : List (Nat × Value)} {st st0 : List Value} {H : jH} {o : Option (α × jH)} {b : ByteArray} (len tgt : Nat) (dflt lo hi : Int) (offs : Array Int) {x : Int32} (hb : jn_is b mi.1 mi.2.1) (hd : decode b pc = .ok (.tableswitch dflt lo hi offs, len)) (hx : x.toInt < lo ∨ hi < x.toInt) (ht : (pc : Int) + dflt = (tgt : Int)) (k1 : JV l mi emb tgt ls st H o) : JV l mi emb pc ls (.int x :: st) H o := by
  intro r H' ho
  obtain ⟨hm, kk⟩ := k1 r H' ho
  refine ⟨hm, fun c hc e1 n1 n2 Hr la locs hR hS hl => ?_⟩
  exact lv_tableOut hc.1 rfl (by rw [jn_inj hc.2.1 hb]; exact hd) hx ht (kk c hc e1 n1 n2 Hr la locs hR hS hl)
theorem jne_int {x v : Int32} {z : Int} (h : ¬ x = v) (hv : v.toInt = z) : x.toInt ≠ z := fun q => h (Int32.toInt_inj.mp (q.trans hv.symm))
end
section
def jmaxI (x y : Int32) : Int32 := if x < y then y else x
def jminI (x y : Int32) : Int32 := if y < x then y else x
def jabsI (x : Int32) : Int32 := if 0 ≤ x then x else 0 - x
def jmaxL (x y : Int64) : Int64 := if y < x then x else y
def jminL (x y : Int64) : Int64 := if y < x then y else x
def jabsL (x : Int64) : Int64 := if 0 < x then x else -x
theorem s_maxI {l : Launch} {mi : jM} {α : Type} {emb : α → Option Value} {pc : Nat} {ls : List (Nat × Value)} {st : List Value} {H : jH} {o : Option (α × jH)} (b d q i : Nat) {x y : Int32} (hl0 : Cond.methodLink mi.2.2.2.1 i Lib.Math.max.name ∈ jws) (hst : Cond.static Lib.Math.max.name ∈ jws) (hini : Cond.initialized "java/lang/Math" ∈ jws) (hco : Cond.code Lib.Math.max.name Lib.Math.max.code 2 (some .int) ∈ jws) (hi : b * 256 + d = i) (hrm : jrm 1 mi.2.2.2.2.2.2.1 ((st.map fun v => v.category).sum + 15) mi.2.2.2.2.2.2.2 = true) (hw : jx3 mi.1 mi.2.1 pc 184 b d q = true) (kk0 : JV l mi emb q ls (.int (jmaxI x y) :: st) H o) : JV l mi emb pc ls (.int y :: .int x :: st) H o := by
  obtain ⟨hw1, rfl⟩ := jx3_spec hw
  subst hi
  intro r H' ho
  obtain ⟨hm, kk⟩ := kk0 r H' ho
  obtain ⟨r1, r2⟩ := jrm_spec hrm
  refine ⟨hm, fun c hc e1 n1 n2 Hr la locs hR hS hl => ?_⟩
  exact va_mmax hc.1 rfl (hc.2.2.1.trans hl.1.symm) hc.2.2.2.1 (hc.2.2.2.2.2.2.2.1 _ hl0) (hc.2.2.2.2.2.2.2.1 _ hst) (hc.2.2.2.2.2.2.2.1 _ hini) (hc.2.2.2.2.2.2.2.1 _ hco) r1 (by rw [jcats]; show _ ≤ mi.2.2.2.2.2.2.2; omega) (by show _ ≤ jn H' - jn c.2.2.2; omega) (by show _ ≤ js H' - js c.2.2.2; omega) (jd_184 hc.2.1 hw1) (kk c hc e1 n1 n2 Hr la locs hR hS hl)
theorem s_minI {l : Launch} {mi : jM} {α : Type} {emb : α → Option Value} {pc : Nat} {ls : List (Nat × Value)} {st : List Value} {H : jH} {o : Option (α × jH)} (b d q i : Nat) {x y : Int32} (hl0 : Cond.methodLink mi.2.2.2.1 i Lib.Math.min.name ∈ jws) (hst : Cond.static Lib.Math.min.name ∈ jws) (hini : Cond.initialized "java/lang/Math" ∈ jws) (hco : Cond.code Lib.Math.min.name Lib.Math.min.code 2 (some .int) ∈ jws) (hi : b * 256 + d = i) (hrm : jrm 1 mi.2.2.2.2.2.2.1 ((st.map fun v => v.category).sum + 15) mi.2.2.2.2.2.2.2 = true) (hw : jx3 mi.1 mi.2.1 pc 184 b d q = true) (kk0 : JV l mi emb q ls (.int (jminI x y) :: st) H o) : JV l mi emb pc ls (.int y :: .int x :: st) H o := by
  obtain ⟨hw1, rfl⟩ := jx3_spec hw
  subst hi
  intro r H' ho
  obtain ⟨hm, kk⟩ := kk0 r H' ho
  obtain ⟨r1, r2⟩ := jrm_spec hrm
  refine ⟨hm, fun c hc e1 n1 n2 Hr la locs hR hS hl => ?_⟩
  exact va_mmin hc.1 rfl (hc.2.2.1.trans hl.1.symm) hc.2.2.2.1 (hc.2.2.2.2.2.2.2.1 _ hl0) (hc.2.2.2.2.2.2.2.1 _ hst) (hc.2.2.2.2.2.2.2.1 _ hini) (hc.2.2.2.2.2.2.2.1 _ hco) r1 (by rw [jcats]; show _ ≤ mi.2.2.2.2.2.2.2; omega) (by show _ ≤ jn H' - jn c.2.2.2; omega) (by show _ ≤ js H' - js c.2.2.2; omega) (jd_184 hc.2.1 hw1) (kk c hc e1 n1 n2 Hr la locs hR hS hl)
theorem s_absI {l : Launch} {mi : jM} {α : Type} {emb : α → Option Value} {pc : Nat} {ls : List (Nat × Value)} {st : List Value} {H : jH} {o : Option (α × jH)} (b d q i : Nat) {x : Int32} (hl0 : Cond.methodLink mi.2.2.2.1 i Lib.Math.abs.name ∈ jws) (hst : Cond.static Lib.Math.abs.name ∈ jws) (hini : Cond.initialized "java/lang/Math" ∈ jws) (hco : Cond.code Lib.Math.abs.name Lib.Math.abs.code 1 (some .int) ∈ jws) (hi : b * 256 + d = i) (hrm : jrm 1 mi.2.2.2.2.2.2.1 ((st.map fun v => v.category).sum + 15) mi.2.2.2.2.2.2.2 = true) (hw : jx3 mi.1 mi.2.1 pc 184 b d q = true) (kk0 : JV l mi emb q ls (.int (jabsI x) :: st) H o) : JV l mi emb pc ls (.int x :: st) H o := by
  obtain ⟨hw1, rfl⟩ := jx3_spec hw
  subst hi
  intro r H' ho
  obtain ⟨hm, kk⟩ := kk0 r H' ho
  obtain ⟨r1, r2⟩ := jrm_spec hrm
  refine ⟨hm, fun c hc e1 n1 n2 Hr la locs hR hS hl => ?_⟩
  exact va_mabs hc.1 rfl (hc.2.2.1.trans hl.1.symm) hc.2.2.2.1 (hc.2.2.2.2.2.2.2.1 _ hl0) (hc.2.2.2.2.2.2.2.1 _ hst) (hc.2.2.2.2.2.2.2.1 _ hini) (hc.2.2.2.2.2.2.2.1 _ hco) r1 (by rw [jcats]; show _ ≤ mi.2.2.2.2.2.2.2; omega) (by show _ ≤ jn H' - jn c.2.2.2; omega) (by show _ ≤ js H' - js c.2.2.2; omega) (jd_184 hc.2.1 hw1) (kk c hc e1 n1 n2 Hr la locs hR hS hl)
theorem s_maxL {l : Launch} {mi : jM} {α : Type} {emb : α → Option Value} {pc : Nat} {ls : List (Nat × Value)} {st : List Value} {H : jH} {o : Option (α × jH)} (b d q i : Nat) {x y : Int64} (hl0 : Cond.methodLink mi.2.2.2.1 i Lib.MathLoose.max_long.x ∈ jws) (hst : Cond.static Lib.MathLoose.max_long.x ∈ jws) (hini : Cond.initialized "java/lang/Math" ∈ jws) (hco : Cond.code Lib.MathLoose.max_long.x Lib.MathLoose.max_long.code 4 (some .long) ∈ jws) (hi : b * 256 + d = i) (hrm : jrm 1 mi.2.2.2.2.2.2.1 ((st.map fun v => v.category).sum + 15) mi.2.2.2.2.2.2.2 = true) (hw : jx3 mi.1 mi.2.1 pc 184 b d q = true) (kk0 : JV l mi emb q ls (.long (jmaxL x y) :: st) H o) : JV l mi emb pc ls (.long y :: .long x :: st) H o := by
  obtain ⟨hw1, rfl⟩ := jx3_spec hw
  subst hi
  intro r H' ho
  obtain ⟨hm, kk⟩ := kk0 r H' ho
  obtain ⟨r1, r2⟩ := jrm_spec hrm
  refine ⟨hm, fun c hc e1 n1 n2 Hr la locs hR hS hl => ?_⟩
  exact va_mmax_long hc.1 rfl (hc.2.2.1.trans hl.1.symm) hc.2.2.2.1 (hc.2.2.2.2.2.2.2.1 _ hl0) (hc.2.2.2.2.2.2.2.1 _ hst) (hc.2.2.2.2.2.2.2.1 _ hini) (hc.2.2.2.2.2.2.2.1 _ hco) r1 (by rw [jcats]; show _ ≤ mi.2.2.2.2.2.2.2; omega) (by show _ ≤ jn H' - jn c.2.2.2; omega) (by show _ ≤ js H' - js c.2.2.2; omega) (jd_184 hc.2.1 hw1) (kk c hc e1 n1 n2 Hr la locs hR hS hl)
theorem s_minL {l : Launch} {mi : jM} {α : Type} {emb : α → Option Value} {pc : Nat} {ls : List (Nat × Value)} {st : List Value} {H : jH} {o : Option (α × jH)} (b d q i : Nat) {x y : Int64} (hl0 : Cond.methodLink mi.2.2.2.1 i Lib.MathLoose.min_long.x ∈ jws) (hst : Cond.static Lib.MathLoose.min_long.x ∈ jws) (hini : Cond.initialized "java/lang/Math" ∈ jws) (hco : Cond.code Lib.MathLoose.min_long.x Lib.MathLoose.min_long.code 4 (some .long) ∈ jws) (hi : b * 256 + d = i) (hrm : jrm 1 mi.2.2.2.2.2.2.1 ((st.map fun v => v.category).sum + 15) mi.2.2.2.2.2.2.2 = true) (hw : jx3 mi.1 mi.2.1 pc 184 b d q = true) (kk0 : JV l mi emb q ls (.long (jminL x y) :: st) H o) : JV l mi emb pc ls (.long y :: .long x :: st) H o := by
  obtain ⟨hw1, rfl⟩ := jx3_spec hw
  subst hi
  intro r H' ho
  obtain ⟨hm, kk⟩ := kk0 r H' ho
  obtain ⟨r1, r2⟩ := jrm_spec hrm
  refine ⟨hm, fun c hc e1 n1 n2 Hr la locs hR hS hl => ?_⟩
  exact va_mmin_long hc.1 rfl (hc.2.2.1.trans hl.1.symm) hc.2.2.2.1 (hc.2.2.2.2.2.2.2.1 _ hl0) (hc.2.2.2.2.2.2.2.1 _ hst) (hc.2.2.2.2.2.2.2.1 _ hini) (hc.2.2.2.2.2.2.2.1 _ hco) r1 (by rw [jcats]; show _ ≤ mi.2.2.2.2.2.2.2; omega) (by show _ ≤ jn H' - jn c.2.2.2; omega) (by show _ ≤ js H' - js c.2.2.2; omega) (jd_184 hc.2.1 hw1) (kk c hc e1 n1 n2 Hr la locs hR hS hl)
theorem s_absL {l : Launch} {mi : jM} {α : Type} {emb : α → Option Value} {pc : Nat} {ls : List (Nat × Value)} {st : List Value} {H : jH} {o : Option (α × jH)} (b d q i : Nat) {x : Int64} (hl0 : Cond.methodLink mi.2.2.2.1 i Lib.MathLoose.abs_long.x ∈ jws) (hst : Cond.static Lib.MathLoose.abs_long.x ∈ jws) (hini : Cond.initialized "java/lang/Math" ∈ jws) (hco : Cond.code Lib.MathLoose.abs_long.x Lib.MathLoose.abs_long.code 2 (some .long) ∈ jws) (hi : b * 256 + d = i) (hrm : jrm 1 mi.2.2.2.2.2.2.1 ((st.map fun v => v.category).sum + 15) mi.2.2.2.2.2.2.2 = true) (hw : jx3 mi.1 mi.2.1 pc 184 b d q = true) (kk0 : JV l mi emb q ls (.long (jabsL x) :: st) H o) : JV l mi emb pc ls (.long x :: st) H o := by
  obtain ⟨hw1, rfl⟩ := jx3_spec hw
  subst hi
  intro r H' ho
  obtain ⟨hm, kk⟩ := kk0 r H' ho
  obtain ⟨r1, r2⟩ := jrm_spec hrm
  refine ⟨hm, fun c hc e1 n1 n2 Hr la locs hR hS hl => ?_⟩
  exact va_mabs_long hc.1 rfl (hc.2.2.1.trans hl.1.symm) hc.2.2.2.1 (hc.2.2.2.2.2.2.2.1 _ hl0) (hc.2.2.2.2.2.2.2.1 _ hst) (hc.2.2.2.2.2.2.2.1 _ hini) (hc.2.2.2.2.2.2.2.1 _ hco) r1 (by rw [jcats]; show _ ≤ mi.2.2.2.2.2.2.2; omega) (by show _ ≤ jn H' - jn c.2.2.2; omega) (by show _ ≤ js H' - js c.2.2.2; omega) (jd_184 hc.2.1 hw1) (kk c hc e1 n1 n2 Hr la locs hR hS hl)
end
section
def jcpf {α : Type} (f : Nat → Nat → α) (a sp b dp n : Nat) : Nat → Nat → α := fun x j => if x = b ∧ dp ≤ j ∧ j < dp + n then f a (sp + (j - dp)) else f x j
def jcpI (H : jH) (a sp b dp n : Nat) : jH := (jK H, jcpf (jI H) a sp b dp n, jL H, jR H, jn H, js H, jB H)
def jcpR (H : jH) (a sp b dp n : Nat) : jH := (jK H, jI H, jL H, jcpf (jR H) a sp b dp n, jn H, js H, jB H)
def jcpB (H : jH) (a sp b dp n : Nat) : jH := (jK H, jI H, jL H, jR H, jn H, js H, jcpf (jB H) a sp b dp n)
abbrev jcg (H : jH) (t a : Nat) (sp : Int32) (b : Nat) (dp n : Int32) : Prop := (jK H a).1 = t ∧ (jK H b).1 = t ∧ jF0 ≤ b ∧ 0 ≤ sp.toInt ∧ 0 ≤ dp.toInt ∧ 0 ≤ n.toInt ∧ sp.toInt + n.toInt ≤ (jK H a).2 ∧ dp.toInt + n.toInt ≤ (jK H b).2
theorem jnn {z : Int32} (h : 0 ≤ z.toInt) : ¬ z < 0 ∧ z.toInt = (z.toNatClampNeg : Int) := by
  refine ⟨fun h3 => ?_, ?_⟩
  · rw [Int32.lt_iff_toInt_lt] at h3
    have : (0 : Int32).toInt = 0 := rfl
    omega
  · show z.toInt = ((z.toInt.toNat : Nat) : Int)
    omega
theorem jread2 {G : jG} {H : jH} {U : State} {Hr : Heap} {a t : Nat} (hR : jRel G H U Hr) (ht : (jK H a).1 = t) (hm : t ∈ jtags) : a ≠ 0 ∧ ∃ cell : Cell, Hr[jad G a]? = some cell ∧ U.isArrayOf cell (jty t) ∧ cell.vm ≠ .unknown ∧ (jK H a).2 ≤ cell.slots.size ∧ ∀ j : Nat, j < (jK H a).2 → cell.slots[j]? = some (jcv G H a j (jkd (jty t))) := by
  have hge := jtag_ge hm
  have ha0 : a ≠ 0 := fun e => by rw [e, hR.2.2.2.1] at ht; omega
  refine ⟨ha0, ?_⟩
  obtain ⟨s1, s2, s3⟩ := hR.2.2.1 a (by omega)
  by_cases ho : jF0 ≤ a
  · obtain ⟨-, h3⟩ := jrel_arr hR ht hm (Or.inl ho)
    exact ⟨_, h3, (jrel_ty hR hm).1 _ _, (fun h => by cases h), by rw [arrV_size]; exact Nat.le_refl _, fun j hj => by rw [arrV_read _ _ hj]⟩
  · obtain ⟨u1, cell, u2, u3, u4, u5, u6, u7, u8⟩ := s2 (Nat.not_le.mp ho)
    have : t = 100 := by omega
    subst this
    refine ⟨cell, ?_, u3, u4, u5, u7⟩
    rw [show jad G a = G.2.1 a from if_pos (Nat.not_le.mp ho)]; exact u2
theorem jac_core {p : Program} {l : Launch} {e : Env} {R : Room} {s : State} {m : MethodId} {args : Array Value} {below : List Frame} {meth : Method} {c : Code} {Hr : Heap} {locs : List Loc} {cells slots : Nat} {Q : State → Prop} {pc : Nat} {la : Array Slot} {rest : List Value} {G : jG} {H H2 : jH} {a b t i : Nat} {sp dp n : Int32} {own : String}
    (hx : p.tables.exec = Jvm.exec) (hml : c.maxLocals = la.size) (hown : s.vm.findClass own = some m.cls) (hlink : (Cond.methodLink own i arraycopyName).before args s = true) (hnat : (Cond.native arraycopyName).before args s = true) (hstat : (Cond.static arraycopyName).before args s = true) (hini : (Cond.initialized "java/lang/System").before args s = true)
    (hR : jRel G H s Hr) (hS : va_S (jA G) s.heap Hr locs) (ht : t ∈ jtags) (hg : jcg H t a sp b dp n)
    (hfit : ∀ k, k < n.toNatClampNeg → fits (jty t) (jcv G H a (sp.toNatClampNeg + k) (jkd (jty t))) = true)
    (htk : ∀ (comp : ClassId) (T : State) (vm' : Vm), T.heap = Hr → s.vm.Alike vm' → (∃ k : Class, s.vm.classes[G.2.2.2 t]? = some k ∧ k.kind = .array comp (jty t)) → ∀ k, k < n.toNatClampNeg → (T.setVm vm').takes comp (jcv G H a (sp.toNatClampNeg + k) (jkd (jty t))))
    (h1 : jK H2 = jK H) (h2 : jn H2 = jn H) (h3 : ∀ x, x ≠ b → ∀ j, jI H2 x j = jI H x j ∧ jL H2 x j = jL H x j ∧ jR H2 x j = jR H x j ∧ jB H2 x j = jB H x j)
    (h4 : ∀ j, jcv G H2 b j (jkd (jty t)) = va_cpy (fun j => jcv G H a j (jkd (jty t))) (fun j => jcv G H b j (jkd (jty t))) sp.toNatClampNeg dp.toNatClampNeg n.toNatClampNeg j)
    (hframes : 1 ≤ R.frames) (hlocals : (rest.map fun v => v.category).sum + (nativeFrameWords "java/lang/System" "arraycopy" 5 + 11) ≤ R.locals) (hd : decode c.code pc = .ok (.invokestatic i, 3))
    (kk : ∀ (H' : Heap) (locs1 : List Loc), jRel G H2 s H' → va_S (jA G) s.heap H' locs1 → W p l e R s m args below meth c H' locs1 cells slots Q (F0 m (pc + 3) la rest)) :
    W p l e R s m args below meth c Hr locs cells slots Q (F0 m pc la (.int n :: .int dp :: jrv G b :: .int sp :: jrv G a :: rest)) := by
  obtain ⟨g1, g2, g3, g4, g5, g6, g7, g8⟩ := hg
  obtain ⟨ha0, cs, c1, c2, c3, c4, c5⟩ := jread2 hR g1 ht
  obtain ⟨-, d1⟩ := jrel_arr hR g2 ht (Or.inl g3)
  rw [jrv_own g3, show jrv G a = .ref (jad G a) from if_neg ha0]
  obtain ⟨s1, s2⟩ := jnn g4
  obtain ⟨t1, t2⟩ := jnn g5
  obtain ⟨n1, n2⟩ := jnn g6
  obtain ⟨cno, ks, hks, cms, hkks⟩ := c2
  obtain ⟨-, kd, hkd, cmd, hkkd⟩ := (jrel_ty hR ht).1 (jK H b).2 (fun j => jcv G H b j (jkd (jty t)))
  intro T hT X
  have hge : ∀ k, k < n.toNatClampNeg → cs.slots.getD (sp.toNatClampNeg + k) .null = jcv G H a (sp.toNatClampNeg + k) (jkd (jty t)) := fun k hk => by
    rw [Array.getD_eq_getD_getElem?, c5 _ (by omega)]
    rfl
  obtain ⟨vm', X', step⟩ := X.arraycopy hx hown hlink hnat hstat hini (src := jad G a) (dst := jad G b) (cs := cs) (cd := arrV (G.2.2.2 t) (jK H b).2 (fun j => jcv G H b j (jkd (jty t)))) (srcPos := sp) (destPos := dp) (n := n) (by rw [hT]; exact c1) (by rw [hT]; exact d1)
    cno (fun _ h => by cases h) c3 (fun h => by cases h) hks hkd hkks hkkd (by simp) s1 t1 n1
    (by rw [s2, n2]; omega) (by rw [t2, n2, arrV_size]; omega)
    (fun vm₁ hal k hk => by
      rw [hge k hk]
      exact ⟨hfit k hk, htk cmd T vm₁ hT hal ⟨kd, hkd, hkkd⟩ k hk⟩)
    (g := F0 m pc la (.int n :: .int dp :: .ref (jad G b) :: .int sp :: .ref (jad G a) :: rest)) rfl (by rw [hml]) (rest := rest) rfl hd hframes (by show 2 * 0 + _ + _ ≤ _; omega)
  have e1 : copied cs (arrV (G.2.2.2 t) (jK H b).2 (fun j => jcv G H b j (jkd (jty t)))) sp dp n = arrV (G.2.2.2 t) (jK H b).2 (fun j => jcv G H2 b j (jkd (jty t))) := by
    rw [show (fun j => jcv G H2 b j (jkd (jty t))) = fun j => va_cpy (fun j => jcv G H a j (jkd (jty t))) (fun j => jcv G H b j (jkd (jty t))) sp.toNatClampNeg dp.toNatClampNeg n.toNatClampNeg j from funext h4]
    exact va_copiedX (fun z => z) cs (G.2.2.2 t) (n0 := (jK H a).2) (fun j => jcv G H a j (jkd (jty t))) (fun j => jcv G H b j (jkd (jty t))) c5 (by omega)
  rw [e1] at X' step
  have hl : jad G b < Hr.size := (Array.getElem?_eq_some_iff.mp d1).1
  have hheap : ((T.setVm vm').setCell (jad G b) (arrV (G.2.2.2 t) (jK H b).2 (fun j => jcv G H2 b j (jkd (jty t))))).heap = Hr.setIfInBounds (jad G b) (arrV (G.2.2.2 t) (jK H b).2 (fun j => jcv G H2 b j (jkd (jty t)))) := by rw [← hT]; rfl
  have oq : ∀ q : Nat, q ≠ jad G b → (Hr.setIfInBounds (jad G b) (arrV (G.2.2.2 t) (jK H b).2 (fun j => jcv G H2 b j (jkd (jty t)))))[q]? = Hr[q]? := fun q hq => by simp [Array.getElem?_setIfInBounds, Ne.symm hq]
  have hge2 := jtag_ge ht
  obtain ⟨z, a1, b1⟩ := kk _ _ (jrel_upd hR g3 (by simp) oq h1 h2 h3 (Or.inr ⟨by rw [h1, g2]; exact ht, by rw [h1, g2]; exact jcl_none (by omega), by rw [h1, g2]; simp [Array.getElem?_setIfInBounds, hl]⟩)) ⟨by simp; exact hS.1, fun q q1 q2 => by
      rw [oq q (fun e => q2 (by rw [e]; exact jad_A g3))]
      exact hS.2.1 q q1 q2, fun q hq => by
      rcases List.mem_append.mp hq with h | h
      · exact hS.2.2 q h
      · obtain ⟨z, -, hz⟩ := List.mem_map.mp h
        rw [← hz]
        exact jad_A g3⟩ _ hheap X'
  exact ⟨z, step z a1, b1⟩
theorem jcpf_off {α : Type} {f : Nat → Nat → α} {a sp b dp n x j : Nat} (h : x ≠ b) : jcpf f a sp b dp n x j = f x j := if_neg fun q => h q.1
theorem jcpf_on {α : Type} {f : Nat → Nat → α} {a sp b dp n j : Nat} : jcpf f a sp b dp n b j = va_cpy (f a) (f b) sp dp n j := by
  unfold jcpf va_cpy
  by_cases h : dp ≤ j ∧ j < dp + n
  · rw [if_pos h, if_pos ⟨rfl, h⟩]
  · rw [if_neg h, if_neg fun q => h q.2]
theorem jcpy_map {α β : Type} (F : α → β) (f g : Nat → α) (sp dp n j : Nat) : F (va_cpy f g sp dp n j) = va_cpy (fun j => F (f j)) (fun j => F (g j)) sp dp n j := by
  unfold va_cpy
  split <;> rfl
section JS
variable {l : Launch} {mi : jM} {α : Type} {emb : α → Option Value} {pc : Nat} {ls : List (Nat × Value)} {st : List Value} {H : jH} {k0 : jH → Option (α × jH)} {a b : Nat} {sp dp n : Int32}
theorem s_acI (x y q i : Nat) (hl0 : Cond.methodLink mi.2.2.2.1 i arraycopyName ∈ jws) (hnat : Cond.native arraycopyName ∈ jws) (hstat : Cond.static arraycopyName ∈ jws) (hini : Cond.initialized "java/lang/System" ∈ jws) (hi : x * 256 + y = i) (hw : jx3 mi.1 mi.2.1 pc 184 x y q = true) (hnw : nativeFrameWords "java/lang/System" "arraycopy" 5 = nativeFrameWords "java/lang/System" "arraycopy" 5)
    (hrm : jrm 1 mi.2.2.2.2.2.2.1 ((st.map fun v => v.category).sum + (nativeFrameWords "java/lang/System" "arraycopy" 5 + 11)) mi.2.2.2.2.2.2.2 = true) (kk0 : ∀ H1, JV l mi emb q ls st H1 (k0 H1)) :
    JV l mi emb pc ls (.int n :: .int dp :: .ref b :: .int sp :: .ref a :: st) H (jg (jcg H 100 a sp b dp n) (jl (jcpI H a sp.toNatClampNeg b dp.toNatClampNeg n.toNatClampNeg) k0)) := by
  obtain ⟨hw1, rfl⟩ := jx3_spec hw
  subst hi
  intro r H' ho
  obtain ⟨hg, ho⟩ := jg_some ho
  obtain ⟨hm, kk⟩ := kk0 _ r H' ho
  obtain ⟨r1, r2⟩ := jrm_spec hrm
  refine ⟨hm, fun c hc e1 n1 n2 Hr la locs hR hS hl => ?_⟩
  exact jac_core (t := 100) (H2 := jcpI H a sp.toNatClampNeg b dp.toNatClampNeg n.toNatClampNeg) hc.1 (hc.2.2.1.trans hl.1.symm) hc.2.2.2.1 (hc.2.2.2.2.2.2.2.1 _ hl0) (hc.2.2.2.2.2.2.2.1 _ hnat) (hc.2.2.2.2.2.2.2.1 _ hstat) (hc.2.2.2.2.2.2.2.1 _ hini) hR hS (by decide) hg (fun _ _ => rfl) (fun _ _ _ _ _ _ _ _ => trivial) rfl rfl
    (fun z hz j => ⟨jcpf_off hz, rfl, rfl, rfl⟩) (fun j => by
      show Value.int (jcpf (jI H) a sp.toNatClampNeg b dp.toNatClampNeg n.toNatClampNeg b j) = _
      rw [jcpf_on]
      exact jcpy_map Value.int _ _ _ _ _ _) r1 (by rw [jcats]; exact r2) (jd_184 hc.2.1 hw1) fun Hr2 locs2 hR2 hS2 => kk c hc e1 n1 n2 Hr2 la locs2 hR2 hS2 hl
theorem jfits_b (u : UInt8) : fits .byte (.int (jbs u)) = true := by
  have h : ∀ n, n < 256 → fits .byte (.int (jbs (UInt8.ofNat n))) = true := by decide +kernel
  have h2 := h u.toNat (UInt8.toNat_lt u)
  rwa [UInt8.ofNat_toNat] at h2
theorem s_acB (x y q i : Nat) (hl0 : Cond.methodLink mi.2.2.2.1 i arraycopyName ∈ jws) (hnat : Cond.native arraycopyName ∈ jws) (hstat : Cond.static arraycopyName ∈ jws) (hini : Cond.initialized "java/lang/System" ∈ jws) (hi : x * 256 + y = i) (hw : jx3 mi.1 mi.2.1 pc 184 x y q = true) (hnw : nativeFrameWords "java/lang/System" "arraycopy" 5 = nativeFrameWords "java/lang/System" "arraycopy" 5)
    (hrm : jrm 1 mi.2.2.2.2.2.2.1 ((st.map fun v => v.category).sum + (nativeFrameWords "java/lang/System" "arraycopy" 5 + 11)) mi.2.2.2.2.2.2.2 = true) (kk0 : ∀ H1, JV l mi emb q ls st H1 (k0 H1)) :
    JV l mi emb pc ls (.int n :: .int dp :: .ref b :: .int sp :: .ref a :: st) H (jg (jcg H 101 a sp b dp n) (jl (jcpB H a sp.toNatClampNeg b dp.toNatClampNeg n.toNatClampNeg) k0)) := by
  obtain ⟨hw1, rfl⟩ := jx3_spec hw
  subst hi
  intro r H' ho
  obtain ⟨hg, ho⟩ := jg_some ho
  obtain ⟨hm, kk⟩ := kk0 _ r H' ho
  obtain ⟨r1, r2⟩ := jrm_spec hrm
  refine ⟨hm, fun c hc e1 n1 n2 Hr la locs hR hS hl => ?_⟩
  exact jac_core (t := 101) (H2 := jcpB H a sp.toNatClampNeg b dp.toNatClampNeg n.toNatClampNeg) hc.1 (hc.2.2.1.trans hl.1.symm) hc.2.2.2.1 (hc.2.2.2.2.2.2.2.1 _ hl0) (hc.2.2.2.2.2.2.2.1 _ hnat) (hc.2.2.2.2.2.2.2.1 _ hstat) (hc.2.2.2.2.2.2.2.1 _ hini) hR hS (by decide) hg (fun _ _ => jfits_b _) (fun _ _ _ _ _ _ _ _ => trivial) rfl rfl
    (fun z hz j => ⟨rfl, rfl, rfl, jcpf_off hz⟩) (fun j => by
      show Value.int (jbs (jcpf (jB H) a sp.toNatClampNeg b dp.toNatClampNeg n.toNatClampNeg b j)) = _
      rw [jcpf_on]
      exact jcpy_map (fun u => Value.int (jbs u)) _ _ _ _ _ _) r1 (by rw [jcats]; exact r2) (jd_184 hc.2.1 hw1) fun Hr2 locs2 hR2 hS2 => kk c hc e1 n1 n2 Hr2 la locs2 hR2 hS2 hl
abbrev jcgR (H : jH) (t et a : Nat) (sp : Int32) (b : Nat) (dp n : Int32) : Prop := jcg H t a sp b dp n ∧ ∀ k, k < n.toNatClampNeg → jR H a (sp.toNatClampNeg + k) = 0 ∨ (jK H (jR H a (sp.toNatClampNeg + k))).1 = et
theorem s_acR {t et N : Nat} {C : String} {T : u_T} {Y : Nat → FieldType} (x y q i : Nat) (ht : t ∈ jtags ∧ t ≠ 100 ∧ jty t = .object C) (he : jcok et C T N Y) (hl0 : Cond.methodLink mi.2.2.2.1 i arraycopyName ∈ jws) (hnat : Cond.native arraycopyName ∈ jws) (hstat : Cond.static arraycopyName ∈ jws) (hini : Cond.initialized "java/lang/System" ∈ jws) (hi : x * 256 + y = i) (hw : jx3 mi.1 mi.2.1 pc 184 x y q = true) (hnw : nativeFrameWords "java/lang/System" "arraycopy" 5 = nativeFrameWords "java/lang/System" "arraycopy" 5)
    (hrm : jrm 1 mi.2.2.2.2.2.2.1 ((st.map fun v => v.category).sum + (nativeFrameWords "java/lang/System" "arraycopy" 5 + 11)) mi.2.2.2.2.2.2.2 = true) (kk0 : ∀ H1, JV l mi emb q ls st H1 (k0 H1)) :
    JV l mi emb pc ls (.int n :: .int dp :: .ref b :: .int sp :: .ref a :: st) H (jg (jcgR H t et a sp b dp n) (jl (jcpR H a sp.toNatClampNeg b dp.toNatClampNeg n.toNatClampNeg) k0)) := by
  obtain ⟨hw1, rfl⟩ := jx3_spec hw
  subst hi
  intro r H' ho
  obtain ⟨⟨hg, hel⟩, ho⟩ := jg_some ho
  obtain ⟨hm, kk⟩ := kk0 _ r H' ho
  obtain ⟨r1, r2⟩ := jrm_spec hrm
  refine ⟨hm, fun c hc e1 n1 n2 Hr la locs hR hS hl => ?_⟩
  have hkd : jkd (jty t) = 2 := by rw [ht.2.2]; rfl
  have hjv : ∀ z j, jcv c.2.2.1 H z j (jkd (jty t)) = jrv c.2.2.1 (jR H z j) := fun z j => by rw [hkd]; rfl
  refine jac_core (t := t) (H2 := jcpR H a sp.toNatClampNeg b dp.toNatClampNeg n.toNatClampNeg) hc.1 (hc.2.2.1.trans hl.1.symm) hc.2.2.2.1 (hc.2.2.2.2.2.2.2.1 _ hl0) (hc.2.2.2.2.2.2.2.1 _ hnat) (hc.2.2.2.2.2.2.2.1 _ hstat) (hc.2.2.2.2.2.2.2.1 _ hini) hR hS ht.1 hg (fun k hk => by rw [hjv, ht.2.2]; exact (jfits_ref (t := .object C) rfl).2) ?_ rfl rfl
    (fun z hz j => ⟨rfl, rfl, jcpf_off hz, rfl⟩) (fun j => by
      rw [hkd]
      show jrv c.2.2.1 (jcpf (jR H) a sp.toNatClampNeg b dp.toNatClampNeg n.toNatClampNeg b j) = _
      rw [jcpf_on]
      exact jcpy_map (jrv c.2.2.1) _ _ _ _ _ _) r1 (by rw [jcats]; exact r2) (jd_184 hc.2.1 hw1) fun Hr2 locs2 hR2 hS2 => kk c hc e1 n1 n2 Hr2 la locs2 hR2 hS2 hl
  intro comp T vm' hT hal ⟨kA, hkA, hkkA⟩ k hk
  rw [hjv]
  rcases hel k hk with h0 | h0
  · rw [h0]
    exact trivial
  · obtain ⟨o1, o2, cellV, q1, q2, q3, q4⟩ := jrel_obj hR h0 he.1
    rw [jrv_own o1]
    have hra := (jrel_ty hR ht.1).2
    rw [ht.2.2] at hra
    obtain ⟨kA', comp', w1, w2, w3, -⟩ := hra
    cases hkA.symm.trans w1
    rw [hkkA, ht.2.2] at w2
    cases w2
    have hcls := (hR.2.2.2.2.1.1 et _ he.1).2
    have hcomp : comp = c.2.2.1.2.2.1.1 et := Option.some.inj (w3.symm.trans hcls.1)
    subst hcomp
    obtain ⟨kC, hkC, -⟩ := id hcls.2
    obtain ⟨kC', hkC', -⟩ := hal.2.2 _ _ hkC
    refine ⟨cellV, (show T.heap[_]? = some cellV by rw [hT]; exact q1), (fun q h => by rw [q3] at h; cases h), ⟨kC', by rw [q2]; exact hkC'⟩, ⟨kC', hkC'⟩, ?_⟩
    show vm'.assignable _ _ = true
    rw [hal.assignable, q2]
    exact va_assign hcls
/-- a clone of a byte array -/
def jclb (H : jH) (a : Nat) : jH := (fun x => if x = jn H then (101, (jK H a).2) else jK H x, jz (jI H) (jn H) 0, jz (jL H) (jn H) 0, jz (jR H) (jn H) 0, jn H + 1, js H + (jK H a).2, fun x j => if x = jn H then jB H a j else jB H x j)
def jcl_ {β : Type} (H : jH) (a : Nat) (k : Nat → jH → β) : β := k (jn H) (jclb H a)
theorem s_192B {o1 : Option (α × jH)} (x y q i : Nat) (hl0 : Cond.classLink mi.2.2.2.1 i "[B" ∈ jws) (hi : x * 256 + y = i) (hw : jx3 mi.1 mi.2.1 pc 192 x y q = true) (kk0 : JV l mi emb q ls (.ref a :: st) H o1) : JV l mi emb pc ls (.ref a :: st) H (jg ((jK H a).1 = 101) o1) := by
  obtain ⟨hw1, rfl⟩ := jx3_spec hw
  subst hi
  intro r H' ho
  obtain ⟨hg, ho⟩ := jg_some ho
  obtain ⟨hm, kk⟩ := kk0 r H' ho
  refine ⟨hm, fun c hc e1 n1 n2 Hr la locs hR hS hl => ?_⟩
  have h9 := kk c hc e1 n1 n2 Hr la locs hR hS hl
  obtain ⟨g1, g2⟩ := jrel_arr hR hg (by decide) (Or.inr (by decide))
  simp only [jstk, List.map_cons, jv_ref] at h9 ⊢
  rw [jrv_own g1] at h9 ⊢
  refine va_castA (D := c.2.2.1.2.2.1) (cl := jcl) (ws := [(jad c.2.2.1 a, .inl (c.2.2.1.2.2.2 101, (jK H a).2, .inl (fun j => jbs (jB H a j))))]) hc.1 rfl hc.2.2.2.1 (hc.2.2.2.2.2.2.2.1 _ hl0) (H := Hr) ?_ 0 rfl ?_ (jd_192 hc.2.1 hw1) h9
  · intro k q hk
    have hk0 : k < 1 := (List.getElem?_eq_some_iff.mp hk).1
    rw [show k = 0 by omega] at hk
    cases hk
    exact g2
  · exact (jrel_ty hR (t := 101) (by decide)).2
theorem s_clone {k1 : Nat → jH → Option (α × jH)} (x y q i : Nat) (hl0 : Cond.methodLink mi.2.2.2.1 i ⟨"[B", "clone", "()Ljava/lang/Object;"⟩ ∈ jws) (hsame : Cond.sameMethod "[B" "java/lang/Object" "clone" "()Ljava/lang/Object;" ∈ jws) (hnat : Cond.native ⟨"java/lang/Object", "clone", "()Ljava/lang/Object;"⟩ ∈ jws) (hinst : Cond.instanceMethod ⟨"java/lang/Object", "clone", "()Ljava/lang/Object;"⟩ ∈ jws)
    (hsel : Cond.selects "[B" ⟨"[B", "clone", "()Ljava/lang/Object;"⟩ ⟨"java/lang/Object", "clone", "()Ljava/lang/Object;"⟩ ∈ jws) (hi : x * 256 + y = i) (hw : jx3 mi.1 mi.2.1 pc 182 x y q = true) (hrm : jrm 1 mi.2.2.2.2.2.2.1 ((st.map fun v => v.category).sum + 14) mi.2.2.2.2.2.2.2 = true) (kk0 : ∀ r H1, JV l mi emb q ls (.ref r :: st) H1 (k1 r H1)) : JV l mi emb pc ls (.ref a :: st) H (jg ((jK H a).1 = 101) (jcl_ H a k1)) := by
  obtain ⟨hw1, rfl⟩ := jx3_spec hw
  subst hi
  intro r H' ho
  obtain ⟨hg, ho⟩ := jg_some ho
  obtain ⟨hm, kk⟩ := kk0 _ _ r H' ho
  obtain ⟨r1, r2⟩ := jrm_spec hrm
  have hjn : jn (jclb H a) = jn H + 1 := rfl
  have hjs : js (jclb H a) = js H + (jK H a).2 := rfl
  rw [hjn, hjs] at hm
  refine ⟨⟨by omega, by omega⟩, fun c hc e1 n1 n2 Hr la locs hR hS hl => ?_⟩
  have hsz := hR.1
  have hF := hR.2.1
  obtain ⟨g1, g2⟩ := jrel_arr hR hg (by decide) (Or.inr (by decide))
  obtain ⟨c0, t0', f1, f2, f3⟩ := Cond.castable_spec (va_Nw.use (A := c.2.1.2.1) rfl hc.2.2.2.2.2.2.2.2.2.2.2.2.1)
  have hra : c.1.2.2.2.vm.findClass "[B" = some (c.2.2.1.2.2.2 101) := (jrel_ty hR (t := 101) (by decide)).2
  cases hra.symm.trans f1
  have hty := (jrel_ty hR (t := 101) (by decide)).1
  simp only [jstk, List.map_cons, jv_ref]
  rw [jrv_own g1]
  intro T hT X
  obtain ⟨-, kA, hkA, comp, hkind⟩ := State.isArrayOf_alike X.warmed.alike (hty 0 (fun _ => .null))
  obtain ⟨-, kS, hkS, compS, hkindS⟩ := hty 0 (fun _ => .null)
  obtain ⟨vm', X', st'⟩ := X.cloneArray hc.1 hc.2.2.2.1 (hc.2.2.2.2.2.2.2.1 _ hl0) (hc.2.2.2.2.2.2.2.1 _ hsame) (hc.2.2.2.2.2.2.2.1 _ hnat) (hc.2.2.2.2.2.2.2.1 _ hinst) (hc.2.2.2.2.2.2.2.1 _ hsel) (a := jad c.2.2.1 a) (cell := arrV (c.2.2.1.2.2.2 101) (jK H a).2 (fun j => jcv c.2.2.1 H a j (jkd (jty 101)))) (by rw [hT]; exact g2) (fun k h => by cases h) (fun h => by cases h) hra f2 f3
    (fun i v hv => by
      have hk' : T.vm.classes[c.2.2.1.2.2.2 101]? = some kA := hkA
      have hilt : i < (jK H a).2 := by
        have := (Array.getElem?_eq_some_iff.mp hv).1
        rwa [arrV_size] at this
      rw [arrV_read _ _ hilt] at hv
      cases hv
      show State.fitsSlot _ (c.2.2.1.2.2.2 101) _ _ _ = true
      have h7 : fits (jty 101) (jcv c.2.2.1 H a i (jkd (jty 101))) = true := jfits_b (jB H a i)
      simpa [State.fitsSlot, State.slotType?, arrV, hk', hkind] using h7)
    (g := F0 c.2.1.1 pc la (.ref (jad c.2.2.1 a) :: st.map (jv c.2.2.1))) rfl (hl.1.trans hc.2.2.1.symm) rfl (jd_182 hc.2.1 hw1) r1 (by show 2 * 0 + _ + 14 ≤ mi.2.2.2.2.2.2.2; rw [jcats]; omega) (by show _ ≤ jn H' - jn c.2.2.2; omega) (by rw [arrV_size]; show _ ≤ js H' - js c.2.2.2; omega) (hloader := Vm.clonesLoader_of_array hkS hkindS)
  rw [arrV_size] at X'
  have hE : ({ cls := (arrV (c.2.2.1.2.2.2 101) (jK H a).2 (fun j => jcv c.2.2.1 H a j (jkd (jty 101)))).cls, slots := (arrV (c.2.2.1.2.2.2 101) (jK H a).2 (fun j => jcv c.2.2.1 H a j (jkd (jty 101)))).slots } : Cell) = arrV (c.2.2.1.2.2.2 101) (jK H a).2 (fun j => jcv c.2.2.1 H a j (jkd (jty 101))) := rfl
  rw [hE] at X' st'
  generalize hH1 : Hr.push (arrV (c.2.2.1.2.2.2 101) (jK H a).2 (fun j => jcv c.2.2.1 H a j (jkd (jty 101)))) = H1
  have z1 : H1.size = Hr.size + 1 := by rw [← hH1, Array.size_push]
  have e2 : H1[Hr.size]? = some (arrV (c.2.2.1.2.2.2 101) (jK H a).2 (fun j => jcv c.2.2.1 H a j (jkd (jty 101)))) := by rw [← hH1, Array.getElem?_push_size]
  have o1 : ∀ q : Nat, q < Hr.size → H1[q]? = Hr[q]? := fun q hq => by rw [← hH1, Array.getElem?_push, if_neg (Nat.ne_of_lt hq)]
  have hne : a ≠ jn H := by
    have := (hR.2.2.1 a (by omega)).1
    omega
  have hR2 : jRel c.2.2.1 (jclb H a) c.1.2.2.2 H1 := by
    obtain ⟨w1, w2, w3, w4, w5, w6⟩ := hR
    have hKn : ∀ b, b ≠ jn H → jK (jclb H a) b = jK H b := fun b hb => if_neg hb
    have hKs : jK (jclb H a) (jn H) = (101, (jK H a).2) := if_pos rfl
    refine ⟨by rw [z1, hjn]; omega, by rw [hjn]; omega, fun b hb => ?_, by rw [hKn 0 (by unfold jF0 at w2; omega)]; exact w4, w5, fun q hq => (w6 q hq).kept fun a ha _ => o1 a ha⟩
    by_cases hbn : b = jn H
    · subst hbn
      refine ⟨by rw [hjn]; omega, fun h => by omega, fun _ => Or.inr ⟨by rw [hKs]; exact (by decide : (101 : Nat) ∈ jtags), by rw [hKs]; rfl, ?_⟩⟩
      rw [hKs, jad_own w2, show c.2.2.1.1 + (jn H - jF0) = Hr.size by omega, e2]
      congr 2
      funext j
      show Value.int (jbs (jB H a j)) = Value.int (jbs (if jn H = jn H then jB H a j else jB H (jn H) j))
      rw [if_pos rfl]
    · rw [hKn b hbn] at hb
      obtain ⟨s1, s2, s3⟩ := w3 b hb
      refine ⟨by rw [hjn]; omega, fun hlt => ?_, fun hge => ?_⟩
      · obtain ⟨t1, cell, t2, t3, t4, t5, t6, t7, t8⟩ := s2 hlt
        refine ⟨by rw [hKn b hbn]; exact t1, cell, ?_, t3, t4, by rw [hKn b hbn]; exact t5, by rw [hKn b hbn]; exact t6, fun j hj => ?_, t8⟩
        · rw [o1 _ (Array.getElem?_eq_some_iff.mp t2).1]; exact t2
        · rw [hKn b hbn] at hj
          rw [show jI (jclb H a) b j = jI H b j from if_neg hbn]
          exact t7 j hj
      · refine jcell_congr (s3 hge) (hKn b hbn) (fun j k => jcv_congr (if_neg hbn) (if_neg hbn) (if_neg hbn) (if_neg hbn)) (o1 _ ?_)
        rw [jad_own hge]
        omega
  have hS2 : va_S (jA c.2.2.1) c.1.2.2.2.heap H1 locs := ⟨by rw [z1]; exact Nat.le_succ_of_le hS.1, fun q h1 h2 => by rw [o1 q (Nat.lt_of_lt_of_le h1 hS.1)]; exact hS.2.1 q h1 h2, hS.2.2⟩
  have h1 := kk c hc e1 (by rw [hjn]; omega) (by rw [hjs]; omega) H1 la locs hR2 hS2 hl
  simp only [jstk, List.map_cons, jv_ref] at h1
  rw [jrv_own hF, jad_own hF, show c.2.2.1.1 + (jn H - jF0) = Hr.size by omega, hjn, hjs] at h1
  have h2 := W.cs (cells := jn H - jn c.2.2.2 + 1) (slots := js H - js c.2.2.2 + (jK H a).2) (by omega) (by omega) h1
  obtain ⟨t, b1, b2⟩ := h2 ((T.setVm vm').pushCell _) (by rw [← hH1, ← hT]; rfl) X'
  refine ⟨t, st' t ?_, b2⟩
  rw [hT]
  exact b1
end JS
end
section
theorem jassign_self (vm : Vm) (c : ClassId) : vm.assignable c c = true := by
  first | (show vm.assignableAux _ c c = true; unfold Vm.assignableAux; simp)
def jmul (H : jH) (t1 t2 n1 n2 : Nat) : jH := (fun b => if b = jn H then (t1, n1) else if jn H < b ∧ b ≤ jn H + n1 then (t2, n2) else jK H b, fun b j => if jn H ≤ b ∧ b ≤ jn H + n1 then 0 else jI H b j, fun b j => if jn H ≤ b ∧ b ≤ jn H + n1 then 0 else jL H b j,
  fun b j => if b = jn H then (if j < n1 then jn H + 1 + j else 0) else if jn H < b ∧ b ≤ jn H + n1 then 0 else jR H b j, jn H + 1 + n1, js H + n1 + n1 * n2, fun b j => if jn H ≤ b ∧ b ≤ jn H + n1 then 0 else jB H b j)
def jnm {β : Type} (H : jH) (t1 t2 n1 n2 : Nat) (k : Nat → jH → β) : β := k (jn H) (jmul H t1 t2 n1 n2)
theorem jouter (c : ClassId) (N h0 : Nat) : ∀ i : Nat, Jvm.Free.Multi.outerC c N h0 i = arrV c N (fun j => if j < i then .ref (h0 + 1 + j) else .null)
  | 0 => by
    show ({ cls := c, slots := Array.replicate N .null, vm := .none } : Cell) = _
    rw [arrV_new]
    refine congrArg (arrV c N) (funext fun j => ?_)
    simp
  | i + 1 => by
    show (Jvm.Free.Multi.outerC c N h0 i).setSlot i (.ref (h0 + 1 + i)) = _
    rw [jouter c N h0 i, arrV_store]
    refine congrArg (arrV c N) (funext fun j => ?_)
    by_cases e : j = i
    · subst e
      simp [updV]
    · by_cases h : j < i
      · simp [updV, e, h, Nat.lt_succ_of_lt h]
      · simp [updV, e, h, show ¬ j < i + 1 by omega]
/-- a row of rows: the outer one and its rows are new -/
theorem jrel_multi {G : jG} {H : jH} {U : State} {Hr Hr2 : Heap} {t1 t2 n1 n2 : Nat} (hR : jRel G H U Hr) (h1 : t1 ∈ jtags) (h2 : t2 ∈ jtags) (hk1 : jkd (jty t1) = 2) (hk2 : jkd (jty t2) ≠ 2) (hsz : Hr2.size = Hr.size + 1 + n1) (hoff : ∀ q, q < Hr.size → Hr2[q]? = Hr[q]?)
    (ho : Hr2[Hr.size]? = some (arrV (G.2.2.2 t1) n1 (fun j => if j < n1 then .ref (Hr.size + 1 + j) else .null)))
    (hi : ∀ j, j < n1 → Hr2[Hr.size + 1 + j]? = some (arrV (G.2.2.2 t2) n2 (fun _ => if jkd (jty t2) = 1 then .long 0 else .int 0))) : jRel G (jmul H t1 t2 n1 n2) U Hr2 := by
  obtain ⟨r1, r2, r3, r4, r5, r6⟩ := hR
  have g1 := jtag_ge h1
  have g2 := jtag_ge h2
  have hn : jn (jmul H t1 t2 n1 n2) = jn H + 1 + n1 := rfl
  have hKn : ∀ b, b < jn H ∨ jn H + n1 < b → jK (jmul H t1 t2 n1 n2) b = jK H b := fun b hb => by
    show (if b = jn H then _ else if jn H < b ∧ b ≤ jn H + n1 then _ else jK H b) = _
    rw [if_neg (by omega), if_neg (by omega)]
  have hKo : jK (jmul H t1 t2 n1 n2) (jn H) = (t1, n1) := if_pos rfl
  have hKi : ∀ b, jn H < b → b ≤ jn H + n1 → jK (jmul H t1 t2 n1 n2) b = (t2, n2) := fun b a1 a2 => by
    show (if b = jn H then _ else if jn H < b ∧ b ≤ jn H + n1 then _ else jK H b) = _
    rw [if_neg (by omega), if_pos ⟨a1, a2⟩]
  refine ⟨by rw [hsz, hn]; omega, by rw [hn]; omega, fun a ha => ?_, by rw [hKn 0 (by unfold jF0 at r2; omega)]; exact r4, r5, fun q hq => (r6 q hq).kept fun a ha _ => hoff a ha⟩
  by_cases hb0 : a = jn H
  · subst hb0
    refine ⟨by rw [hn]; omega, fun h => by omega, fun _ => Or.inr ⟨by rw [hKo]; exact h1, by rw [hKo]; exact jcl_none (by show 19 ≤ t1; omega), ?_⟩⟩
    rw [hKo, jad_own r2, show G.1 + (jn H - jF0) = Hr.size by omega, ho]
    congr 2
    funext j
    show _ = jcv G (jmul H t1 t2 n1 n2) (jn H) j (jkd (jty t1))
    rw [hk1]
    show _ = jrv G (if jn H = jn H then (if j < n1 then jn H + 1 + j else 0) else _)
    rw [if_pos rfl]
    by_cases hj : j < n1
    · rw [if_pos hj, if_pos hj, jrv_own (by omega), jad_own (by omega), show G.1 + (jn H + 1 + j - jF0) = Hr.size + 1 + j by omega]
    · rw [if_neg hj, if_neg hj]
      rfl
  · by_cases hbi : jn H < a ∧ a ≤ jn H + n1
    · refine ⟨by rw [hn]; omega, fun h => by omega, fun _ => Or.inr ⟨by rw [hKi a hbi.1 hbi.2]; exact h2, by rw [hKi a hbi.1 hbi.2]; exact jcl_none (by show 19 ≤ t2; omega), ?_⟩⟩
      have h9 := hi (a - jn H - 1) (by omega)
      rw [hKi a hbi.1 hbi.2, jad_own (by omega), show G.1 + (a - jF0) = Hr.size + 1 + (a - jn H - 1) by omega, h9]
      congr 2
      funext j
      have hI : jI (jmul H t1 t2 n1 n2) a j = 0 := if_pos ⟨by omega, hbi.2⟩
      have hL : jL (jmul H t1 t2 n1 n2) a j = 0 := if_pos ⟨by omega, hbi.2⟩
      have hB : jB (jmul H t1 t2 n1 n2) a j = 0 := if_pos ⟨by omega, hbi.2⟩
      unfold jcv
      rw [hI, hL, hB]
      by_cases q0 : jkd (jty t2) = 0
      · rw [if_pos q0, if_neg (by omega)]
      · rw [if_neg q0]
        by_cases q1 : jkd (jty t2) = 1
        · rw [if_pos q1, if_pos q1]
        · rw [if_neg q1, if_neg q1, if_neg hk2]
          rfl
    · rw [hKn a (by omega)] at ha
      obtain ⟨s1, s2, s3⟩ := r3 a ha
      have hI : ∀ j, jI (jmul H t1 t2 n1 n2) a j = jI H a j := fun j => if_neg (by omega)
      have hL : ∀ j, jL (jmul H t1 t2 n1 n2) a j = jL H a j := fun j => if_neg (by omega)
      have hB : ∀ j, jB (jmul H t1 t2 n1 n2) a j = jB H a j := fun j => if_neg (by omega)
      have hRr : ∀ j, jR (jmul H t1 t2 n1 n2) a j = jR H a j := fun j => by
        show (if a = jn H then _ else if jn H < a ∧ a ≤ jn H + n1 then _ else jR H a j) = _
        rw [if_neg hb0, if_neg hbi]
      refine ⟨by rw [hn]; omega, fun hlt => ?_, fun hge => ?_⟩
      · obtain ⟨u1, cell, u2, u3, u4, u5, u6, u7, u8⟩ := s2 hlt
        refine ⟨by rw [hKn a (by omega)]; exact u1, cell, ?_, u3, u4, by rw [hKn a (by omega)]; exact u5, by rw [hKn a (by omega)]; exact u6, fun j hj => ?_, u8⟩
        · rw [hoff _ (Array.getElem?_eq_some_iff.mp u2).1]; exact u2
        · rw [hKn a (by omega)] at hj
          rw [hI]
          exact u7 j hj
      · refine jcell_congr (s3 hge) (hKn a (by omega)) (fun j k => jcv_congr (hI j) (hL j) (hRr j) (hB j)) (hoff _ ?_)
        rw [jad_own hge]
        omega
section JS2
variable {l : Launch} {mi : jM} {α : Type} {emb : α → Option Value} {pc : Nat} {ls : List (Nat × Value)} {st st0 : List Value} {H : jH}
theorem s_197 {k1 : Nat → jH → Option (α × jH)} (x y q i t1 t2 : Nat) {n m : Int32} {ty : FieldType} (h1 : t1 ∈ jtags ∧ jty t1 = .array ty) (h2 : t2 ∈ jtags ∧ jty t2 = ty ∧ jkd ty ≠ 2) (hnm : (FieldType.array ty).toString = "[" ++ ty.toString) (hra : ∀ (U : State) (c : ClassId), va_RA U c ty = (U.vm.findClass ("[" ++ ty.toString) = some c))
    (hdf : fits ty (defaultValue ty) = true) (hdd : (defaultValue ty).isDefault = true) (hdv : defaultValue ty = if jkd ty = 1 then .long 0 else .int 0) (hcb : componentBytes ty ≤ 8) (hA : ∀ U, jNw U → jAOA ty U) (hcl : Cond.classLink mi.2.2.2.1 i ("[" ++ (FieldType.array ty).toString) ∈ jws) (hac : Cond.arrayClass ty ∈ jws) (hi : x * 256 + y = i) {b : ByteArray} (hb : jn_is b mi.1 mi.2.1) (hd : decode b pc = .ok (.multianewarray i 2, 4)) (hq : pc + 4 = q) (kk0 : ∀ r H1, JV l mi emb q ls (.ref r :: st) H1 (k1 r H1)) :
    JV l mi emb pc ls (.int m :: .int n :: st) H (jg (jgn n ∧ jgn m) (jnm H t1 t2 n.toNatClampNeg m.toNatClampNeg k1)) := by
  subst hi
  subst hq
  intro r H' ho
  obtain ⟨⟨hg1, hg2⟩, ho⟩ := jg_some ho
  obtain ⟨hm, kk⟩ := kk0 _ _ r H' ho
  have hjn : jn (jmul H t1 t2 n.toNatClampNeg m.toNatClampNeg) = jn H + 1 + n.toNatClampNeg := rfl
  have hjs : js (jmul H t1 t2 n.toNatClampNeg m.toNatClampNeg) = js H + n.toNatClampNeg + n.toNatClampNeg * m.toNatClampNeg := rfl
  rw [hjn, hjs] at hm
  refine ⟨⟨by omega, by omega⟩, fun c hc e1 n1 n2 Hr la locs hR hS hl => ?_⟩
  obtain ⟨a1, a2⟩ := jgn_nat hg1
  obtain ⟨b1, b2⟩ := jgn_nat hg2
  have hsz := hR.1
  have hF := hR.2.1
  simp only [jstk, List.map_cons]
  intro T hT X
  obtain ⟨vm₁, cA, comp, -, fA, fC, -, -, X', step⟩ := X.multianewarray2F hc.1 hc.2.2.2.1 (hc.2.2.2.2.2.2.2.1 _ hcl) (hA _ hc.2.2.2.2.2.2.2.2.2) (hc.2.2.2.2.2.2.2.1 _ hac) (g := F0 c.2.1.1 pc la (.int m :: .int n :: st.map (jv c.2.2.1))) rfl (by rw [jn_inj hc.2.1 hb]; exact hd) rfl a1 b1 (by omega) (Nat.le_trans (Nat.mul_le_mul b2 hcb) (by decide)) (by omega) hdf hdd (by show _ ≤ jn H' - jn c.2.2.2; omega) (by show _ ≤ js H' - js c.2.2.2; omega)
  have r1 : c.1.2.2.2.vm.findClass ("[" ++ (FieldType.array ty).toString) = some (c.2.2.1.2.2.2 t1) := by
    have := (jrel_ty hR h1.1).2
    rw [h1.2] at this
    exact this
  have r2 : c.1.2.2.2.vm.findClass (FieldType.array ty).toString = some (c.2.2.1.2.2.2 t2) := by
    have := (jrel_ty hR h2.1).2
    rw [h2.2.1, hra] at this
    rw [hnm]
    exact this
  cases fA.symm.trans r1
  cases fC.symm.trans r2
  generalize hFl : Jvm.Free.Multi.fill (T.setVm vm₁) (c.2.2.1.2.2.2 t1) (c.2.2.1.2.2.2 t2) n.toNatClampNeg m.toNatClampNeg (defaultValue ty) n.toNatClampNeg = F at X' step
  have hTh : (T.setVm vm₁).heap = Hr := hT
  obtain ⟨f1, f2, -, -⟩ := Jvm.Free.Multi.fill_facts (T.setVm vm₁) (c.2.2.1.2.2.2 t1) (c.2.2.1.2.2.2 t2) n.toNatClampNeg m.toNatClampNeg (defaultValue ty) n.toNatClampNeg
  rw [hFl, hTh] at f1 f2
  have hold : ∀ x : Nat, x < Hr.size → F.heap[x]? = Hr[x]? := fun x hx => by
    have := Jvm.Free.Multi.fill_old (T.setVm vm₁) (c.2.2.1.2.2.2 t1) (c.2.2.1.2.2.2 t2) n.toNatClampNeg m.toNatClampNeg (defaultValue ty) (a := x) (by rw [hTh]; exact hx) n.toNatClampNeg
    rw [hFl, hTh] at this
    exact this
  have hrow : ∀ j : Nat, j < n.toNatClampNeg → F.heap[Hr.size + 1 + j]? = some (arrV (c.2.2.1.2.2.2 t2) m.toNatClampNeg (fun _ => if jkd (jty t2) = 1 then .long 0 else .int 0)) := fun j hj => by
    have := Jvm.Free.Multi.fill_inner (T.setVm vm₁) (c.2.2.1.2.2.2 t1) (c.2.2.1.2.2.2 t2) n.toNatClampNeg m.toNatClampNeg (defaultValue ty) n.toNatClampNeg j hj
    rw [hFl, hTh] at this
    rw [this, h2.2.1, ← hdv, ← arrV_new]
    rfl
  rw [jouter] at f2
  have hR2 := jrel_multi (n1 := n.toNatClampNeg) (n2 := m.toNatClampNeg) hR h1.1 h2.1 (by rw [h1.2]; rfl) (by rw [h2.2.1]; exact h2.2.2) f1 hold f2 hrow
  have hS2 : va_S (jA c.2.2.1) c.1.2.2.2.heap F.heap locs := ⟨by rw [f1]; have := hS.1; omega, fun q h1 h2 => by rw [hold q (Nat.lt_of_lt_of_le h1 hS.1)]; exact hS.2.1 q h1 h2, hS.2.2⟩
  have h9 := kk c hc e1 (by rw [hjn]; omega) (by rw [hjs]; omega) F.heap la locs hR2 hS2 hl
  simp only [jstk, List.map_cons, jv_ref] at h9
  rw [jrv_own hF, jad_own hF, show c.2.2.1.1 + (jn H - jF0) = Hr.size by omega, hjn, hjs] at h9
  have h8 := W.cs (cells := jn H - jn c.2.2.2 + 1 + n.toNatClampNeg) (slots := js H - js c.2.2.2 + n.toNatClampNeg + n.toNatClampNeg * m.toNatClampNeg) (by omega) (by omega) h9
  obtain ⟨t, b3, b4⟩ := h8 F rfl X'
  refine ⟨t, step t ?_, b4⟩
  rw [hT]
  exact b3
theorem s_83A {k0 : jH → Option (α × jH)} (q : Nat) {a x : Nat} {i : Int32} (hw : jx1 mi.1 mi.2.1 pc 83 q = true) (kk0 : ∀ H1, JV l mi emb q ls st H1 (k0 H1)) : JV l mi emb pc ls (.ref x :: .int i :: .ref a :: st) H (jg ((jK H a).1 = 110 ∧ jin i (jK H a).2 ∧ (jK H x).1 = 101) (jl (jsR H a i.toNatClampNeg x) k0)) := by
  obtain ⟨hw1, rfl⟩ := jx1_spec hw
  intro r H' ho
  obtain ⟨hg, ho⟩ := jg_some ho
  obtain ⟨hm, kk⟩ := kk0 _ r H' ho
  refine ⟨hm, fun c hc e1 n1 n2 Hr la locs hR hS hl => ?_⟩
  obtain ⟨h1, h3⟩ := jrel_arr hR hg.1 (by decide) (Or.inr (by decide))
  obtain ⟨g1, g3⟩ := jrel_arr hR hg.2.2 (by decide) (Or.inr (by decide))
  have hlt := jin_lt hg.2.1
  have h0 : ¬ i < 0 := fun q => jin_vp hg.2.1 (Or.inl q)
  obtain ⟨comp, cc, kA, f1, -, f3, f4, f5⟩ := arrayOverA_spec (hc.2.2.2.2.2.2.2.2.2.2.2.1.2.1)
  have r1 : c.1.2.2.2.vm.findClass ("[" ++ (FieldType.array .byte).toString) = some (c.2.2.1.2.2.2 110) := (jrel_ty hR (t := 110) (by decide)).2
  have r2 : c.1.2.2.2.vm.findClass (FieldType.array .byte).toString = some (c.2.2.1.2.2.2 101) := (jrel_ty hR (t := 101) (by decide)).2
  cases f5.symm.trans r1
  cases f1.symm.trans r2
  obtain ⟨kC, hkC, -⟩ := Vm.findClass_spec r2
  simp only [jstk, List.map_cons, jv_ref]
  rw [jrv_own h1, jrv_own g1]
  exact W.aast hc.1 rfl h3 (fun q h => by cases h) (fun h => by cases h) f3 f4 rfl hkC ⟨h0, by show _ < (arrV _ _ _).slots.size; rw [arrV_size]; exact hlt⟩ g3 (fun q h => by cases h) hkC (jassign_self _ _) rfl rfl (jd_83 hc.2.1 hw1) fun Hr2 e4 e5 e6 => kk c hc e1 n1 n2 Hr2 la _ (jstore_rel (t := 110) hR hg.1 (by decide) (Or.inr (by decide)) (jput1_R (x := x)) (by rw [jrv_own g1]; exact e4) e5 e6) (hS.put e5 e6 (jad_A h1)) hl
end JS2
theorem s_185 {l : Launch} {mi : jM} {α : Type} {emb : α → Option Value} {pc : Nat} {ls : List (Nat × Value)} {st st0 : List Value} {H : jH} {o1 : Option (Int32 × jH)} {k0 : Int32 → jH → Option (α × jH)} (q i : Nat) {y : MethodName} {b b2 : ByteArray} {mi2 : jM} {n : Nat} {av : List Value} {o ci N : Nat} {T : u_T} {Y : Nat → FieldType} (x : MethodName)
    (hM : JMet l y b2 mi2 jeI (.ref o :: av) H o1) (hs : st0 = av.reverse ++ .ref o :: st) (hk : jmok y b2 mi2 n) (hok : jcok ci y.cls T N Y) (hl0 : Cond.methodLink mi.2.2.2.1 i x ∈ jws) (hin : Cond.instanceMethod y ∈ jws) (hsel : Cond.selects y.cls x y ∈ jws) (hx : x.cls ≠ "java/lang/invoke/MethodHandle" ∧ x.cls ≠ "java/lang/invoke/VarHandle" ∧ (parseMethodDescriptor x.desc).map (fun d => d.parameters.length) = some n) (hFw : ∀ U, jNw U → va_Fw y.cls x y U)
    (hb : jn_is b mi.1 mi.2.1) {cnt : Nat} (hd : decode b pc = .ok (.invokeinterface i cnt, 5)) (hq : pc + 5 = q) (hn : av.length = n) (hst : Nat.ble ((st.map fun v => v.category).sum) 8 = true) (hrm : jrm (mi2.2.2.2.2.2.2.1 + 1) mi.2.2.2.2.2.2.1 (8 + (mi2.2.2.1 + 11) + mi2.2.2.2.2.2.2.2) mi.2.2.2.2.2.2.2 = true) (kk0 : ∀ x H1, JV l mi emb q ls (.int x :: st) H1 (k0 x H1)) :
    JV l mi emb pc ls st0 H (jg ((jK H o).1 = ci) (jb o1 k0)) := by
  subst hq
  subst hs
  intro r H' ho
  obtain ⟨hg, ho⟩ := jg_some ho
  obtain ⟨x1, H1, ho1, ho2⟩ := jb_some ho
  obtain ⟨hm1, hMet⟩ := hM x1 H1 ho1
  obtain ⟨hm, kk⟩ := kk0 x1 H1 r H' ho2
  refine ⟨⟨by omega, by omega⟩, fun c hc e1 n1 n2 Hr la locs hR hS hl => ?_⟩
  subst e1
  obtain ⟨r1, r2⟩ := jrm_spec hrm
  have hMG := hMet c.2.2.1
  have hPc : ∀ U : State, U.heap = Hr → c.1.2.2.2.WarmedH U.vm → jPc c.2.2.1 (.ref o :: av) H ((.ref o :: av).map (jv c.2.2.1)).toArray U := fun U hU hW => ⟨rfl, by rw [hU]; exact jrel_moved hW.alike hR, jNw_warm hW hc.2.2.2.2.2.2.2.2.2⟩
  have hrest : 2 * (F0 c.2.1.1 pc la (jstk c.2.2.1 (av.reverse ++ .ref o :: st))).monitorRoom + ((st.map (jv c.2.2.1)).map fun v => v.category).sum ≤ 8 := by
    show 2 * 0 + _ ≤ 8
    rw [jcats, Nat.mul_zero, Nat.zero_add]
    exact Nat.le_of_ble_eq_true hst
  obtain ⟨g1, g2, cellB, q1, q2, q3, -⟩ := jrel_obj hR hg hok.1
  have hcls := (hR.2.2.2.2.1.1 ci _ hok.1).2
  rw [List.map_cons, jv_ref, jrv_own g1] at hPc
  have hGI : GoodIn jws (va_wsF mi.2.2.2.1 i y.cls x y (.code y b2 mi2.2.2.1 mi2.2.2.2.2.1 :: jws)) := by
    intro w hw
    unfold va_wsF at hw
    rcases List.mem_append.mp hw with h | h
    · simp only [List.mem_cons, List.not_mem_nil, or_false] at h
      rcases h with rfl | rfl | rfl | rfl
      · exact ⟨hl0, good_of_word (jws_good _ hl0)⟩
      · exact ⟨hsel, good_of_word (jws_good _ hsel)⟩
      · exact ⟨hin, good_of_word (jws_good _ hin)⟩
      · exact ⟨hk.2.1, good_of_word (jws_good _ hk.2.1)⟩
    · exact jgoodIn hk.1 w h
  have hrun := va_runF (As := av.map (jv c.2.2.1)) (b := jad c.2.2.1 o) (C := y.cls) (n := n) (g := F0 c.2.1.1 pc la (jstk c.2.2.1 (av.reverse ++ .ref o :: st))) (cells := jn H - jn c.2.2.2) (slots := js H - js c.2.2.2) (locs := locs) (H := Hr) (R := jroom mi.2.2.2.2.2.2.1 (jn H' - jn c.2.2.2) (js H' - js c.2.2.2) mi.2.2.2.2.2.2.2) (e := c.1.2.2.1) (below := c.2.1.2.2.1) (meth := c.2.1.2.2.2.1) (rest := st.map (jv c.2.2.1)) hcls ⟨hc.1, rfl, hc.2.2.1, hc.2.2.2.1, hc.2.2.2.2.2.2.2.1⟩ hMG
    (va_cwF (x := x) n hc.2.2.2.2.2.2.2.1 hGI rfl rfl rfl (hFw _ hc.2.2.2.2.2.2.2.2.2) hx ⟨r1, r2⟩) ⟨jblind _ _ _, ⟨cellB, q1, by rw [q3]; rfl, by rw [q2]; exact hcls.1⟩, hPc⟩ rfl (by rw [List.length_map]; exact hn) hl.1 (by unfold jstk; rw [List.map_append, List.map_reverse, List.map_cons, jv_ref, jrv_own g1]) hrest (by rw [jn_inj hc.2.1 hb]; exact hd) ⟨by show jn H - jn c.2.2.2 + (jn H1 - jn H) ≤ jn H' - jn c.2.2.2; omega, by show js H - js c.2.2.2 + (js H1 - js H) ≤ js H' - js c.2.2.2; omega⟩
  intro T hT X
  obtain ⟨v', st₀, t, T', L, h0, X', hL, w1, w2, ⟨hv, hR1, hz, hkk⟩, stp⟩ := hrun T hT X
  have hv' : v' = (jeI x1).map (jv c.2.2.1) := Outcome.returned.inj hv
  subst hv'
  rw [h0] at hz hkk
  have hal : c.1.2.2.2.vm.Alike t.vm := by rw [← w2]; exact X'.warmed.alike
  have hR2 : jRel c.2.2.1 H1 c.1.2.2.2 T'.heap := by
    rw [w1]
    exact jrel_moved hal.symm hR1
  have h9 := kk c hc rfl (by omega) (by omega) T'.heap la (locs ++ L) hR2 ⟨Nat.le_trans hS.1 (by rw [w1]; exact hz), fun q h1 h2 => by rw [w1, hkk q (Nat.lt_of_lt_of_le h1 hS.1) h2]; exact hS.2.1 q h1 h2, fun q hq => by
      rcases List.mem_append.mp hq with h | h
      · exact hS.2.2 q h
      · exact hL q h⟩ hl
  have h8 := W.cs (cells := jn H - jn c.2.2.2 + (jn H1 - jn H)) (slots := js H - js c.2.2.2 + (js H1 - js H)) (by omega) (by omega) h9
  obtain ⟨t2, b1, b2⟩ := h8 T' rfl X'
  exact ⟨t2, stp t2 b1, b2⟩
end
