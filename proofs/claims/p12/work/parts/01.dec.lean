/-! Decoding by one number: the bytes of a method's code, the first one lowest, as one number N; reads are shifts. -/
def jn_bytes : Nat → Nat → List Nat
  | _, 0 => []
  | N, S + 1 => (N % 256) :: jn_bytes (N / 256) S
theorem jn_bytes_len : ∀ (S N : Nat), (jn_bytes N S).length = S
  | 0, _ => rfl
  | S + 1, N => by simp [jn_bytes, jn_bytes_len S]
theorem jn_bytes_get : ∀ (S N i : Nat), i < S → (jn_bytes N S)[i]? = some ((N >>> (8 * i)) % 256)
  | S + 1, N, 0, _ => by simp [jn_bytes]
  | S + 1, N, i + 1, h => by
    rw [jn_bytes, List.getElem?_cons_succ, jn_bytes_get S (N / 256) i (by omega)]
    congr 2
    rw [Nat.shiftRight_eq_div_pow, Nat.shiftRight_eq_div_pow, show (256 : Nat) = 2 ^ 8 from rfl, Nat.div_div_eq_div_mul, ← Nat.pow_add]
    congr 2
    omega
def jn_is (code : ByteArray) (N S : Nat) : Prop := code.data.toList.map UInt8.toNat = jn_bytes N S
theorem jn_size {code : ByteArray} {N S : Nat} (h : jn_is code N S) : code.size = S := by
  have h1 := congrArg List.length h
  rw [jn_bytes_len, List.length_map] at h1
  rw [← h1]
  exact (Array.length_toList).symm
theorem jn_at {code : ByteArray} {N S i : Nat} (h : jn_is code N S) (hi : i < code.size) : code[i].toNat = (N >>> (8 * i)) % 256 := by
  have hs := jn_size h
  have h1 := jn_bytes_get S N i (by omega)
  rw [← h, List.getElem?_map] at h1
  have h2 : code.data.toList[i]? = some code[i] := by
    have hi' : i < code.data.size := hi
    rw [Array.getElem?_toList]
    exact Array.getElem?_eq_getElem hi'
  rw [h2] at h1
  exact Option.some.inj h1
def jw1 (N S pc a : Nat) : Bool := Nat.blt pc S && Nat.beq ((N >>> (8 * pc)) % 256) a
def jw2 (N S pc a b : Nat) : Bool := Nat.blt (pc + 1) S && Nat.beq ((N >>> (8 * pc)) % 65536) (a + 256 * b) && Nat.blt a 256 && Nat.blt b 256
def jw3 (N S pc a b c : Nat) : Bool := Nat.blt (pc + 2) S && Nat.beq ((N >>> (8 * pc)) % 16777216) (a + 256 * b + 65536 * c) && Nat.blt a 256 && Nat.blt b 256 && Nat.blt c 256
theorem jn_sh (N i j : Nat) : N >>> (8 * (i + j)) = (N >>> (8 * i)) >>> (8 * j) := by
  rw [Nat.mul_add, Nat.shiftRight_add]
theorem jw1_spec {N S pc a : Nat} (h : jw1 N S pc a = true) : pc < S ∧ (N >>> (8 * pc)) % 256 = a := by
  simp only [jw1, Bool.and_eq_true, Nat.blt_eq, Nat.beq_eq] at h
  exact h
theorem jw2_spec {N S pc a b : Nat} (h : jw2 N S pc a b = true) : pc + 1 < S ∧ (N >>> (8 * pc)) % 256 = a ∧ (N >>> (8 * (pc + 1))) % 256 = b := by
  simp only [jw2, Bool.and_eq_true, Nat.blt_eq, Nat.beq_eq] at h
  obtain ⟨⟨⟨h1, h2⟩, h3⟩, h4⟩ := h
  rw [jn_sh N pc 1]
  generalize N >>> (8 * pc) = M at *
  rw [Nat.shiftRight_eq_div_pow, show (2 : Nat) ^ (8 * 1) = 256 from rfl]
  omega
theorem jw3_spec {N S pc a b c : Nat} (h : jw3 N S pc a b c = true) : pc + 2 < S ∧ (N >>> (8 * pc)) % 256 = a ∧ (N >>> (8 * (pc + 1))) % 256 = b ∧ (N >>> (8 * (pc + 2))) % 256 = c := by
  simp only [jw3, Bool.and_eq_true, Nat.blt_eq, Nat.beq_eq] at h
  obtain ⟨⟨⟨⟨h1, h2⟩, h3⟩, h4⟩, h5⟩ := h
  rw [jn_sh N pc 1, jn_sh N pc 2]
  generalize N >>> (8 * pc) = M at *
  rw [Nat.shiftRight_eq_div_pow, Nat.shiftRight_eq_div_pow, show (2 : Nat) ^ (8 * 1) = 256 from rfl, show (2 : Nat) ^ (8 * 2) = 65536 from rfl]
  omega
theorem ju1 {code : ByteArray} {N S i b : Nat} (h : jn_is code N S) (hi : i < S) (hb : (N >>> (8 * i)) % 256 = b) : (Reader.u1 : Decoder Nat) code i = (Except.ok (b, i + 1) : Except DecodeError (Nat × Nat)) := by
  have hs := jn_size h
  have hi' : i < code.size := by omega
  have h2 := jn_at h hi'
  rw [hb] at h2
  subst h2
  show (if h : i < code.size then (do set (i + 1); Pure.pure code[i].toNat) else throw (HasTruncated.truncated i) : Decoder Nat) code i = _
  rw [dif_pos hi']
  rfl
theorem jbind {α β : Type} {x : Decoder α} {f : α → Decoder β} {code : ByteArray} {i j : Nat} {a : α} (h : x code i = Except.ok (a, j)) : (x >>= f) code i = f a code j := by
  show Except.bind (x code i) _ = _
  rw [h]
  rfl
theorem jdec {code : ByteArray} {pc j : Nat} {ins : Instr} (h : Decoder.instr pc code pc = Except.ok (ins, j)) : decode code pc = .ok (ins, j - pc) := by
  show Except.bind (Decoder.instr pc code pc) _ = _
  rw [h]
  rfl
theorem ju2 {code : ByteArray} {N S i b d : Nat} (h : jn_is code N S) (hi : i + 1 < S) (hb : (N >>> (8 * i)) % 256 = b) (hd : (N >>> (8 * (i + 1))) % 256 = d) : (Reader.u2 : Decoder Nat) code i = (Except.ok (b * 256 + d, i + 2) : Except DecodeError (Nat × Nat)) := by
  unfold Reader.u2
  refine (jbind (ju1 h (by omega) hb)).trans ?_
  refine (jbind (ju1 h (by omega) hd)).trans ?_
  rfl
theorem js2 {code : ByteArray} {N S i b d : Nat} (h : jn_is code N S) (hi : i + 1 < S) (hb : (N >>> (8 * i)) % 256 = b) (hd : (N >>> (8 * (i + 1))) % 256 = d) : (Reader.s2 : Decoder Int) code i = (Except.ok (Reader.signed 16 (b * 256 + d), i + 2) : Except DecodeError (Int × Nat)) := by
  unfold Reader.s2
  show Except.map _ ((Reader.u2 : Decoder Nat) code i) = _
  rw [ju2 h hi hb hd]
  rfl
theorem js1 {code : ByteArray} {N S i b : Nat} (h : jn_is code N S) (hi : i < S) (hb : (N >>> (8 * i)) % 256 = b) : (Reader.s1 : Decoder Int) code i = (Except.ok (Reader.signed 8 b, i + 1) : Except DecodeError (Int × Nat)) := by
  unfold Reader.s1
  show Except.map _ ((Reader.u1 : Decoder Nat) code i) = _
  rw [ju1 h hi hb]
  rfl
set_option maxRecDepth 20000 in
theorem jd_1 {code : ByteArray} {N S pc : Nat} (h : jn_is code N S) (hw : jw1 N S pc 1 = true) : decode code pc = .ok (.aconst_null, 1) := by
  obtain ⟨h1, h2⟩ := jw1_spec hw
  have h3 : Decoder.instr pc code pc = Except.ok (.aconst_null, pc + 1) := by
    unfold Decoder.instr
    exact (jbind (ju1 h h1 h2)).trans rfl
  rw [jdec h3, Nat.add_sub_cancel_left]
set_option maxRecDepth 20000 in
theorem jd_2 {code : ByteArray} {N S pc : Nat} (h : jn_is code N S) (hw : jw1 N S pc 2 = true) : decode code pc = .ok ((.iconst (-1)), 1) := by
  obtain ⟨h1, h2⟩ := jw1_spec hw
  have h3 : Decoder.instr pc code pc = Except.ok ((.iconst (-1)), pc + 1) := by
    unfold Decoder.instr
    exact (jbind (ju1 h h1 h2)).trans rfl
  rw [jdec h3, Nat.add_sub_cancel_left]
set_option maxRecDepth 20000 in
theorem jd_3 {code : ByteArray} {N S pc : Nat} (h : jn_is code N S) (hw : jw1 N S pc 3 = true) : decode code pc = .ok ((.iconst 0), 1) := by
  obtain ⟨h1, h2⟩ := jw1_spec hw
  have h3 : Decoder.instr pc code pc = Except.ok ((.iconst 0), pc + 1) := by
    unfold Decoder.instr
    exact (jbind (ju1 h h1 h2)).trans rfl
  rw [jdec h3, Nat.add_sub_cancel_left]
set_option maxRecDepth 20000 in
theorem jd_4 {code : ByteArray} {N S pc : Nat} (h : jn_is code N S) (hw : jw1 N S pc 4 = true) : decode code pc = .ok ((.iconst 1), 1) := by
  obtain ⟨h1, h2⟩ := jw1_spec hw
  have h3 : Decoder.instr pc code pc = Except.ok ((.iconst 1), pc + 1) := by
    unfold Decoder.instr
    exact (jbind (ju1 h h1 h2)).trans rfl
  rw [jdec h3, Nat.add_sub_cancel_left]
set_option maxRecDepth 20000 in
theorem jd_5 {code : ByteArray} {N S pc : Nat} (h : jn_is code N S) (hw : jw1 N S pc 5 = true) : decode code pc = .ok ((.iconst 2), 1) := by
  obtain ⟨h1, h2⟩ := jw1_spec hw
  have h3 : Decoder.instr pc code pc = Except.ok ((.iconst 2), pc + 1) := by
    unfold Decoder.instr
    exact (jbind (ju1 h h1 h2)).trans rfl
  rw [jdec h3, Nat.add_sub_cancel_left]
set_option maxRecDepth 20000 in
theorem jd_6 {code : ByteArray} {N S pc : Nat} (h : jn_is code N S) (hw : jw1 N S pc 6 = true) : decode code pc = .ok ((.iconst 3), 1) := by
  obtain ⟨h1, h2⟩ := jw1_spec hw
  have h3 : Decoder.instr pc code pc = Except.ok ((.iconst 3), pc + 1) := by
    unfold Decoder.instr
    exact (jbind (ju1 h h1 h2)).trans rfl
  rw [jdec h3, Nat.add_sub_cancel_left]
set_option maxRecDepth 20000 in
theorem jd_7 {code : ByteArray} {N S pc : Nat} (h : jn_is code N S) (hw : jw1 N S pc 7 = true) : decode code pc = .ok ((.iconst 4), 1) := by
  obtain ⟨h1, h2⟩ := jw1_spec hw
  have h3 : Decoder.instr pc code pc = Except.ok ((.iconst 4), pc + 1) := by
    unfold Decoder.instr
    exact (jbind (ju1 h h1 h2)).trans rfl
  rw [jdec h3, Nat.add_sub_cancel_left]
set_option maxRecDepth 20000 in
theorem jd_8 {code : ByteArray} {N S pc : Nat} (h : jn_is code N S) (hw : jw1 N S pc 8 = true) : decode code pc = .ok ((.iconst 5), 1) := by
  obtain ⟨h1, h2⟩ := jw1_spec hw
  have h3 : Decoder.instr pc code pc = Except.ok ((.iconst 5), pc + 1) := by
    unfold Decoder.instr
    exact (jbind (ju1 h h1 h2)).trans rfl
  rw [jdec h3, Nat.add_sub_cancel_left]
set_option maxRecDepth 20000 in
theorem jd_9 {code : ByteArray} {N S pc : Nat} (h : jn_is code N S) (hw : jw1 N S pc 9 = true) : decode code pc = .ok ((.lconst 0), 1) := by
  obtain ⟨h1, h2⟩ := jw1_spec hw
  have h3 : Decoder.instr pc code pc = Except.ok ((.lconst 0), pc + 1) := by
    unfold Decoder.instr
    exact (jbind (ju1 h h1 h2)).trans rfl
  rw [jdec h3, Nat.add_sub_cancel_left]
set_option maxRecDepth 20000 in
theorem jd_10 {code : ByteArray} {N S pc : Nat} (h : jn_is code N S) (hw : jw1 N S pc 10 = true) : decode code pc = .ok ((.lconst 1), 1) := by
  obtain ⟨h1, h2⟩ := jw1_spec hw
  have h3 : Decoder.instr pc code pc = Except.ok ((.lconst 1), pc + 1) := by
    unfold Decoder.instr
    exact (jbind (ju1 h h1 h2)).trans rfl
  rw [jdec h3, Nat.add_sub_cancel_left]
set_option maxRecDepth 20000 in
theorem jd_26 {code : ByteArray} {N S pc : Nat} (h : jn_is code N S) (hw : jw1 N S pc 26 = true) : decode code pc = .ok ((.iload_n 0), 1) := by
  obtain ⟨h1, h2⟩ := jw1_spec hw
  have h3 : Decoder.instr pc code pc = Except.ok ((.iload_n 0), pc + 1) := by
    unfold Decoder.instr
    exact (jbind (ju1 h h1 h2)).trans rfl
  rw [jdec h3, Nat.add_sub_cancel_left]
set_option maxRecDepth 20000 in
theorem jd_27 {code : ByteArray} {N S pc : Nat} (h : jn_is code N S) (hw : jw1 N S pc 27 = true) : decode code pc = .ok ((.iload_n 1), 1) := by
  obtain ⟨h1, h2⟩ := jw1_spec hw
  have h3 : Decoder.instr pc code pc = Except.ok ((.iload_n 1), pc + 1) := by
    unfold Decoder.instr
    exact (jbind (ju1 h h1 h2)).trans rfl
  rw [jdec h3, Nat.add_sub_cancel_left]
set_option maxRecDepth 20000 in
theorem jd_28 {code : ByteArray} {N S pc : Nat} (h : jn_is code N S) (hw : jw1 N S pc 28 = true) : decode code pc = .ok ((.iload_n 2), 1) := by
  obtain ⟨h1, h2⟩ := jw1_spec hw
  have h3 : Decoder.instr pc code pc = Except.ok ((.iload_n 2), pc + 1) := by
    unfold Decoder.instr
    exact (jbind (ju1 h h1 h2)).trans rfl
  rw [jdec h3, Nat.add_sub_cancel_left]
set_option maxRecDepth 20000 in
theorem jd_29 {code : ByteArray} {N S pc : Nat} (h : jn_is code N S) (hw : jw1 N S pc 29 = true) : decode code pc = .ok ((.iload_n 3), 1) := by
  obtain ⟨h1, h2⟩ := jw1_spec hw
  have h3 : Decoder.instr pc code pc = Except.ok ((.iload_n 3), pc + 1) := by
    unfold Decoder.instr
    exact (jbind (ju1 h h1 h2)).trans rfl
  rw [jdec h3, Nat.add_sub_cancel_left]
set_option maxRecDepth 20000 in
theorem jd_30 {code : ByteArray} {N S pc : Nat} (h : jn_is code N S) (hw : jw1 N S pc 30 = true) : decode code pc = .ok ((.lload_n 0), 1) := by
  obtain ⟨h1, h2⟩ := jw1_spec hw
  have h3 : Decoder.instr pc code pc = Except.ok ((.lload_n 0), pc + 1) := by
    unfold Decoder.instr
    exact (jbind (ju1 h h1 h2)).trans rfl
  rw [jdec h3, Nat.add_sub_cancel_left]
set_option maxRecDepth 20000 in
theorem jd_31 {code : ByteArray} {N S pc : Nat} (h : jn_is code N S) (hw : jw1 N S pc 31 = true) : decode code pc = .ok ((.lload_n 1), 1) := by
  obtain ⟨h1, h2⟩ := jw1_spec hw
  have h3 : Decoder.instr pc code pc = Except.ok ((.lload_n 1), pc + 1) := by
    unfold Decoder.instr
    exact (jbind (ju1 h h1 h2)).trans rfl
  rw [jdec h3, Nat.add_sub_cancel_left]
set_option maxRecDepth 20000 in
theorem jd_32 {code : ByteArray} {N S pc : Nat} (h : jn_is code N S) (hw : jw1 N S pc 32 = true) : decode code pc = .ok ((.lload_n 2), 1) := by
  obtain ⟨h1, h2⟩ := jw1_spec hw
  have h3 : Decoder.instr pc code pc = Except.ok ((.lload_n 2), pc + 1) := by
    unfold Decoder.instr
    exact (jbind (ju1 h h1 h2)).trans rfl
  rw [jdec h3, Nat.add_sub_cancel_left]
set_option maxRecDepth 20000 in
theorem jd_33 {code : ByteArray} {N S pc : Nat} (h : jn_is code N S) (hw : jw1 N S pc 33 = true) : decode code pc = .ok ((.lload_n 3), 1) := by
  obtain ⟨h1, h2⟩ := jw1_spec hw
  have h3 : Decoder.instr pc code pc = Except.ok ((.lload_n 3), pc + 1) := by
    unfold Decoder.instr
    exact (jbind (ju1 h h1 h2)).trans rfl
  rw [jdec h3, Nat.add_sub_cancel_left]
set_option maxRecDepth 20000 in
theorem jd_42 {code : ByteArray} {N S pc : Nat} (h : jn_is code N S) (hw : jw1 N S pc 42 = true) : decode code pc = .ok ((.aload_n 0), 1) := by
  obtain ⟨h1, h2⟩ := jw1_spec hw
  have h3 : Decoder.instr pc code pc = Except.ok ((.aload_n 0), pc + 1) := by
    unfold Decoder.instr
    exact (jbind (ju1 h h1 h2)).trans rfl
  rw [jdec h3, Nat.add_sub_cancel_left]
set_option maxRecDepth 20000 in
theorem jd_43 {code : ByteArray} {N S pc : Nat} (h : jn_is code N S) (hw : jw1 N S pc 43 = true) : decode code pc = .ok ((.aload_n 1), 1) := by
  obtain ⟨h1, h2⟩ := jw1_spec hw
  have h3 : Decoder.instr pc code pc = Except.ok ((.aload_n 1), pc + 1) := by
    unfold Decoder.instr
    exact (jbind (ju1 h h1 h2)).trans rfl
  rw [jdec h3, Nat.add_sub_cancel_left]
set_option maxRecDepth 20000 in
theorem jd_44 {code : ByteArray} {N S pc : Nat} (h : jn_is code N S) (hw : jw1 N S pc 44 = true) : decode code pc = .ok ((.aload_n 2), 1) := by
  obtain ⟨h1, h2⟩ := jw1_spec hw
  have h3 : Decoder.instr pc code pc = Except.ok ((.aload_n 2), pc + 1) := by
    unfold Decoder.instr
    exact (jbind (ju1 h h1 h2)).trans rfl
  rw [jdec h3, Nat.add_sub_cancel_left]
set_option maxRecDepth 20000 in
theorem jd_45 {code : ByteArray} {N S pc : Nat} (h : jn_is code N S) (hw : jw1 N S pc 45 = true) : decode code pc = .ok ((.aload_n 3), 1) := by
  obtain ⟨h1, h2⟩ := jw1_spec hw
  have h3 : Decoder.instr pc code pc = Except.ok ((.aload_n 3), pc + 1) := by
    unfold Decoder.instr
    exact (jbind (ju1 h h1 h2)).trans rfl
  rw [jdec h3, Nat.add_sub_cancel_left]
set_option maxRecDepth 20000 in
theorem jd_46 {code : ByteArray} {N S pc : Nat} (h : jn_is code N S) (hw : jw1 N S pc 46 = true) : decode code pc = .ok (.iaload, 1) := by
  obtain ⟨h1, h2⟩ := jw1_spec hw
  have h3 : Decoder.instr pc code pc = Except.ok (.iaload, pc + 1) := by
    unfold Decoder.instr
    exact (jbind (ju1 h h1 h2)).trans rfl
  rw [jdec h3, Nat.add_sub_cancel_left]
set_option maxRecDepth 20000 in
theorem jd_47 {code : ByteArray} {N S pc : Nat} (h : jn_is code N S) (hw : jw1 N S pc 47 = true) : decode code pc = .ok (.laload, 1) := by
  obtain ⟨h1, h2⟩ := jw1_spec hw
  have h3 : Decoder.instr pc code pc = Except.ok (.laload, pc + 1) := by
    unfold Decoder.instr
    exact (jbind (ju1 h h1 h2)).trans rfl
  rw [jdec h3, Nat.add_sub_cancel_left]
set_option maxRecDepth 20000 in
theorem jd_50 {code : ByteArray} {N S pc : Nat} (h : jn_is code N S) (hw : jw1 N S pc 50 = true) : decode code pc = .ok (.aaload, 1) := by
  obtain ⟨h1, h2⟩ := jw1_spec hw
  have h3 : Decoder.instr pc code pc = Except.ok (.aaload, pc + 1) := by
    unfold Decoder.instr
    exact (jbind (ju1 h h1 h2)).trans rfl
  rw [jdec h3, Nat.add_sub_cancel_left]
set_option maxRecDepth 20000 in
theorem jd_51 {code : ByteArray} {N S pc : Nat} (h : jn_is code N S) (hw : jw1 N S pc 51 = true) : decode code pc = .ok (.baload, 1) := by
  obtain ⟨h1, h2⟩ := jw1_spec hw
  have h3 : Decoder.instr pc code pc = Except.ok (.baload, pc + 1) := by
    unfold Decoder.instr
    exact (jbind (ju1 h h1 h2)).trans rfl
  rw [jdec h3, Nat.add_sub_cancel_left]
set_option maxRecDepth 20000 in
theorem jd_59 {code : ByteArray} {N S pc : Nat} (h : jn_is code N S) (hw : jw1 N S pc 59 = true) : decode code pc = .ok ((.istore_n 0), 1) := by
  obtain ⟨h1, h2⟩ := jw1_spec hw
  have h3 : Decoder.instr pc code pc = Except.ok ((.istore_n 0), pc + 1) := by
    unfold Decoder.instr
    exact (jbind (ju1 h h1 h2)).trans rfl
  rw [jdec h3, Nat.add_sub_cancel_left]
set_option maxRecDepth 20000 in
theorem jd_60 {code : ByteArray} {N S pc : Nat} (h : jn_is code N S) (hw : jw1 N S pc 60 = true) : decode code pc = .ok ((.istore_n 1), 1) := by
  obtain ⟨h1, h2⟩ := jw1_spec hw
  have h3 : Decoder.instr pc code pc = Except.ok ((.istore_n 1), pc + 1) := by
    unfold Decoder.instr
    exact (jbind (ju1 h h1 h2)).trans rfl
  rw [jdec h3, Nat.add_sub_cancel_left]
set_option maxRecDepth 20000 in
theorem jd_61 {code : ByteArray} {N S pc : Nat} (h : jn_is code N S) (hw : jw1 N S pc 61 = true) : decode code pc = .ok ((.istore_n 2), 1) := by
  obtain ⟨h1, h2⟩ := jw1_spec hw
  have h3 : Decoder.instr pc code pc = Except.ok ((.istore_n 2), pc + 1) := by
    unfold Decoder.instr
    exact (jbind (ju1 h h1 h2)).trans rfl
  rw [jdec h3, Nat.add_sub_cancel_left]
set_option maxRecDepth 20000 in
theorem jd_62 {code : ByteArray} {N S pc : Nat} (h : jn_is code N S) (hw : jw1 N S pc 62 = true) : decode code pc = .ok ((.istore_n 3), 1) := by
  obtain ⟨h1, h2⟩ := jw1_spec hw
  have h3 : Decoder.instr pc code pc = Except.ok ((.istore_n 3), pc + 1) := by
    unfold Decoder.instr
    exact (jbind (ju1 h h1 h2)).trans rfl
  rw [jdec h3, Nat.add_sub_cancel_left]
set_option maxRecDepth 20000 in
theorem jd_63 {code : ByteArray} {N S pc : Nat} (h : jn_is code N S) (hw : jw1 N S pc 63 = true) : decode code pc = .ok ((.lstore_n 0), 1) := by
  obtain ⟨h1, h2⟩ := jw1_spec hw
  have h3 : Decoder.instr pc code pc = Except.ok ((.lstore_n 0), pc + 1) := by
    unfold Decoder.instr
    exact (jbind (ju1 h h1 h2)).trans rfl
  rw [jdec h3, Nat.add_sub_cancel_left]
set_option maxRecDepth 20000 in
theorem jd_64 {code : ByteArray} {N S pc : Nat} (h : jn_is code N S) (hw : jw1 N S pc 64 = true) : decode code pc = .ok ((.lstore_n 1), 1) := by
  obtain ⟨h1, h2⟩ := jw1_spec hw
  have h3 : Decoder.instr pc code pc = Except.ok ((.lstore_n 1), pc + 1) := by
    unfold Decoder.instr
    exact (jbind (ju1 h h1 h2)).trans rfl
  rw [jdec h3, Nat.add_sub_cancel_left]
set_option maxRecDepth 20000 in
theorem jd_65 {code : ByteArray} {N S pc : Nat} (h : jn_is code N S) (hw : jw1 N S pc 65 = true) : decode code pc = .ok ((.lstore_n 2), 1) := by
  obtain ⟨h1, h2⟩ := jw1_spec hw
  have h3 : Decoder.instr pc code pc = Except.ok ((.lstore_n 2), pc + 1) := by
    unfold Decoder.instr
    exact (jbind (ju1 h h1 h2)).trans rfl
  rw [jdec h3, Nat.add_sub_cancel_left]
set_option maxRecDepth 20000 in
theorem jd_66 {code : ByteArray} {N S pc : Nat} (h : jn_is code N S) (hw : jw1 N S pc 66 = true) : decode code pc = .ok ((.lstore_n 3), 1) := by
  obtain ⟨h1, h2⟩ := jw1_spec hw
  have h3 : Decoder.instr pc code pc = Except.ok ((.lstore_n 3), pc + 1) := by
    unfold Decoder.instr
    exact (jbind (ju1 h h1 h2)).trans rfl
  rw [jdec h3, Nat.add_sub_cancel_left]
set_option maxRecDepth 20000 in
theorem jd_75 {code : ByteArray} {N S pc : Nat} (h : jn_is code N S) (hw : jw1 N S pc 75 = true) : decode code pc = .ok ((.astore_n 0), 1) := by
  obtain ⟨h1, h2⟩ := jw1_spec hw
  have h3 : Decoder.instr pc code pc = Except.ok ((.astore_n 0), pc + 1) := by
    unfold Decoder.instr
    exact (jbind (ju1 h h1 h2)).trans rfl
  rw [jdec h3, Nat.add_sub_cancel_left]
set_option maxRecDepth 20000 in
theorem jd_76 {code : ByteArray} {N S pc : Nat} (h : jn_is code N S) (hw : jw1 N S pc 76 = true) : decode code pc = .ok ((.astore_n 1), 1) := by
  obtain ⟨h1, h2⟩ := jw1_spec hw
  have h3 : Decoder.instr pc code pc = Except.ok ((.astore_n 1), pc + 1) := by
    unfold Decoder.instr
    exact (jbind (ju1 h h1 h2)).trans rfl
  rw [jdec h3, Nat.add_sub_cancel_left]
set_option maxRecDepth 20000 in
theorem jd_77 {code : ByteArray} {N S pc : Nat} (h : jn_is code N S) (hw : jw1 N S pc 77 = true) : decode code pc = .ok ((.astore_n 2), 1) := by
  obtain ⟨h1, h2⟩ := jw1_spec hw
  have h3 : Decoder.instr pc code pc = Except.ok ((.astore_n 2), pc + 1) := by
    unfold Decoder.instr
    exact (jbind (ju1 h h1 h2)).trans rfl
  rw [jdec h3, Nat.add_sub_cancel_left]
set_option maxRecDepth 20000 in
theorem jd_78 {code : ByteArray} {N S pc : Nat} (h : jn_is code N S) (hw : jw1 N S pc 78 = true) : decode code pc = .ok ((.astore_n 3), 1) := by
  obtain ⟨h1, h2⟩ := jw1_spec hw
  have h3 : Decoder.instr pc code pc = Except.ok ((.astore_n 3), pc + 1) := by
    unfold Decoder.instr
    exact (jbind (ju1 h h1 h2)).trans rfl
  rw [jdec h3, Nat.add_sub_cancel_left]
set_option maxRecDepth 20000 in
theorem jd_79 {code : ByteArray} {N S pc : Nat} (h : jn_is code N S) (hw : jw1 N S pc 79 = true) : decode code pc = .ok (.iastore, 1) := by
  obtain ⟨h1, h2⟩ := jw1_spec hw
  have h3 : Decoder.instr pc code pc = Except.ok (.iastore, pc + 1) := by
    unfold Decoder.instr
    exact (jbind (ju1 h h1 h2)).trans rfl
  rw [jdec h3, Nat.add_sub_cancel_left]
set_option maxRecDepth 20000 in
theorem jd_80 {code : ByteArray} {N S pc : Nat} (h : jn_is code N S) (hw : jw1 N S pc 80 = true) : decode code pc = .ok (.lastore, 1) := by
  obtain ⟨h1, h2⟩ := jw1_spec hw
  have h3 : Decoder.instr pc code pc = Except.ok (.lastore, pc + 1) := by
    unfold Decoder.instr
    exact (jbind (ju1 h h1 h2)).trans rfl
  rw [jdec h3, Nat.add_sub_cancel_left]
set_option maxRecDepth 20000 in
theorem jd_83 {code : ByteArray} {N S pc : Nat} (h : jn_is code N S) (hw : jw1 N S pc 83 = true) : decode code pc = .ok (.aastore, 1) := by
  obtain ⟨h1, h2⟩ := jw1_spec hw
  have h3 : Decoder.instr pc code pc = Except.ok (.aastore, pc + 1) := by
    unfold Decoder.instr
    exact (jbind (ju1 h h1 h2)).trans rfl
  rw [jdec h3, Nat.add_sub_cancel_left]
set_option maxRecDepth 20000 in
theorem jd_84 {code : ByteArray} {N S pc : Nat} (h : jn_is code N S) (hw : jw1 N S pc 84 = true) : decode code pc = .ok (.bastore, 1) := by
  obtain ⟨h1, h2⟩ := jw1_spec hw
  have h3 : Decoder.instr pc code pc = Except.ok (.bastore, pc + 1) := by
    unfold Decoder.instr
    exact (jbind (ju1 h h1 h2)).trans rfl
  rw [jdec h3, Nat.add_sub_cancel_left]
set_option maxRecDepth 20000 in
theorem jd_87 {code : ByteArray} {N S pc : Nat} (h : jn_is code N S) (hw : jw1 N S pc 87 = true) : decode code pc = .ok (.pop, 1) := by
  obtain ⟨h1, h2⟩ := jw1_spec hw
  have h3 : Decoder.instr pc code pc = Except.ok (.pop, pc + 1) := by
    unfold Decoder.instr
    exact (jbind (ju1 h h1 h2)).trans rfl
  rw [jdec h3, Nat.add_sub_cancel_left]
set_option maxRecDepth 20000 in
theorem jd_88 {code : ByteArray} {N S pc : Nat} (h : jn_is code N S) (hw : jw1 N S pc 88 = true) : decode code pc = .ok (.pop2, 1) := by
  obtain ⟨h1, h2⟩ := jw1_spec hw
  have h3 : Decoder.instr pc code pc = Except.ok (.pop2, pc + 1) := by
    unfold Decoder.instr
    exact (jbind (ju1 h h1 h2)).trans rfl
  rw [jdec h3, Nat.add_sub_cancel_left]
set_option maxRecDepth 20000 in
theorem jd_89 {code : ByteArray} {N S pc : Nat} (h : jn_is code N S) (hw : jw1 N S pc 89 = true) : decode code pc = .ok (.dup, 1) := by
  obtain ⟨h1, h2⟩ := jw1_spec hw
  have h3 : Decoder.instr pc code pc = Except.ok (.dup, pc + 1) := by
    unfold Decoder.instr
    exact (jbind (ju1 h h1 h2)).trans rfl
  rw [jdec h3, Nat.add_sub_cancel_left]
set_option maxRecDepth 20000 in
theorem jd_92 {code : ByteArray} {N S pc : Nat} (h : jn_is code N S) (hw : jw1 N S pc 92 = true) : decode code pc = .ok (.dup2, 1) := by
  obtain ⟨h1, h2⟩ := jw1_spec hw
  have h3 : Decoder.instr pc code pc = Except.ok (.dup2, pc + 1) := by
    unfold Decoder.instr
    exact (jbind (ju1 h h1 h2)).trans rfl
  rw [jdec h3, Nat.add_sub_cancel_left]
set_option maxRecDepth 20000 in
theorem jd_96 {code : ByteArray} {N S pc : Nat} (h : jn_is code N S) (hw : jw1 N S pc 96 = true) : decode code pc = .ok (.iadd, 1) := by
  obtain ⟨h1, h2⟩ := jw1_spec hw
  have h3 : Decoder.instr pc code pc = Except.ok (.iadd, pc + 1) := by
    unfold Decoder.instr
    exact (jbind (ju1 h h1 h2)).trans rfl
  rw [jdec h3, Nat.add_sub_cancel_left]
set_option maxRecDepth 20000 in
theorem jd_97 {code : ByteArray} {N S pc : Nat} (h : jn_is code N S) (hw : jw1 N S pc 97 = true) : decode code pc = .ok (.ladd, 1) := by
  obtain ⟨h1, h2⟩ := jw1_spec hw
  have h3 : Decoder.instr pc code pc = Except.ok (.ladd, pc + 1) := by
    unfold Decoder.instr
    exact (jbind (ju1 h h1 h2)).trans rfl
  rw [jdec h3, Nat.add_sub_cancel_left]
set_option maxRecDepth 20000 in
theorem jd_100 {code : ByteArray} {N S pc : Nat} (h : jn_is code N S) (hw : jw1 N S pc 100 = true) : decode code pc = .ok (.isub, 1) := by
  obtain ⟨h1, h2⟩ := jw1_spec hw
  have h3 : Decoder.instr pc code pc = Except.ok (.isub, pc + 1) := by
    unfold Decoder.instr
    exact (jbind (ju1 h h1 h2)).trans rfl
  rw [jdec h3, Nat.add_sub_cancel_left]
set_option maxRecDepth 20000 in
theorem jd_101 {code : ByteArray} {N S pc : Nat} (h : jn_is code N S) (hw : jw1 N S pc 101 = true) : decode code pc = .ok (.lsub, 1) := by
  obtain ⟨h1, h2⟩ := jw1_spec hw
  have h3 : Decoder.instr pc code pc = Except.ok (.lsub, pc + 1) := by
    unfold Decoder.instr
    exact (jbind (ju1 h h1 h2)).trans rfl
  rw [jdec h3, Nat.add_sub_cancel_left]
set_option maxRecDepth 20000 in
theorem jd_104 {code : ByteArray} {N S pc : Nat} (h : jn_is code N S) (hw : jw1 N S pc 104 = true) : decode code pc = .ok (.imul, 1) := by
  obtain ⟨h1, h2⟩ := jw1_spec hw
  have h3 : Decoder.instr pc code pc = Except.ok (.imul, pc + 1) := by
    unfold Decoder.instr
    exact (jbind (ju1 h h1 h2)).trans rfl
  rw [jdec h3, Nat.add_sub_cancel_left]
set_option maxRecDepth 20000 in
theorem jd_105 {code : ByteArray} {N S pc : Nat} (h : jn_is code N S) (hw : jw1 N S pc 105 = true) : decode code pc = .ok (.lmul, 1) := by
  obtain ⟨h1, h2⟩ := jw1_spec hw
  have h3 : Decoder.instr pc code pc = Except.ok (.lmul, pc + 1) := by
    unfold Decoder.instr
    exact (jbind (ju1 h h1 h2)).trans rfl
  rw [jdec h3, Nat.add_sub_cancel_left]
set_option maxRecDepth 20000 in
theorem jd_108 {code : ByteArray} {N S pc : Nat} (h : jn_is code N S) (hw : jw1 N S pc 108 = true) : decode code pc = .ok (.idiv, 1) := by
  obtain ⟨h1, h2⟩ := jw1_spec hw
  have h3 : Decoder.instr pc code pc = Except.ok (.idiv, pc + 1) := by
    unfold Decoder.instr
    exact (jbind (ju1 h h1 h2)).trans rfl
  rw [jdec h3, Nat.add_sub_cancel_left]
set_option maxRecDepth 20000 in
theorem jd_109 {code : ByteArray} {N S pc : Nat} (h : jn_is code N S) (hw : jw1 N S pc 109 = true) : decode code pc = .ok (.ldiv, 1) := by
  obtain ⟨h1, h2⟩ := jw1_spec hw
  have h3 : Decoder.instr pc code pc = Except.ok (.ldiv, pc + 1) := by
    unfold Decoder.instr
    exact (jbind (ju1 h h1 h2)).trans rfl
  rw [jdec h3, Nat.add_sub_cancel_left]
set_option maxRecDepth 20000 in
theorem jd_112 {code : ByteArray} {N S pc : Nat} (h : jn_is code N S) (hw : jw1 N S pc 112 = true) : decode code pc = .ok (.irem, 1) := by
  obtain ⟨h1, h2⟩ := jw1_spec hw
  have h3 : Decoder.instr pc code pc = Except.ok (.irem, pc + 1) := by
    unfold Decoder.instr
    exact (jbind (ju1 h h1 h2)).trans rfl
  rw [jdec h3, Nat.add_sub_cancel_left]
set_option maxRecDepth 20000 in
theorem jd_113 {code : ByteArray} {N S pc : Nat} (h : jn_is code N S) (hw : jw1 N S pc 113 = true) : decode code pc = .ok (.lrem, 1) := by
  obtain ⟨h1, h2⟩ := jw1_spec hw
  have h3 : Decoder.instr pc code pc = Except.ok (.lrem, pc + 1) := by
    unfold Decoder.instr
    exact (jbind (ju1 h h1 h2)).trans rfl
  rw [jdec h3, Nat.add_sub_cancel_left]
set_option maxRecDepth 20000 in
theorem jd_116 {code : ByteArray} {N S pc : Nat} (h : jn_is code N S) (hw : jw1 N S pc 116 = true) : decode code pc = .ok (.ineg, 1) := by
  obtain ⟨h1, h2⟩ := jw1_spec hw
  have h3 : Decoder.instr pc code pc = Except.ok (.ineg, pc + 1) := by
    unfold Decoder.instr
    exact (jbind (ju1 h h1 h2)).trans rfl
  rw [jdec h3, Nat.add_sub_cancel_left]
set_option maxRecDepth 20000 in
theorem jd_117 {code : ByteArray} {N S pc : Nat} (h : jn_is code N S) (hw : jw1 N S pc 117 = true) : decode code pc = .ok (.lneg, 1) := by
  obtain ⟨h1, h2⟩ := jw1_spec hw
  have h3 : Decoder.instr pc code pc = Except.ok (.lneg, pc + 1) := by
    unfold Decoder.instr
    exact (jbind (ju1 h h1 h2)).trans rfl
  rw [jdec h3, Nat.add_sub_cancel_left]
set_option maxRecDepth 20000 in
theorem jd_120 {code : ByteArray} {N S pc : Nat} (h : jn_is code N S) (hw : jw1 N S pc 120 = true) : decode code pc = .ok (.ishl, 1) := by
  obtain ⟨h1, h2⟩ := jw1_spec hw
  have h3 : Decoder.instr pc code pc = Except.ok (.ishl, pc + 1) := by
    unfold Decoder.instr
    exact (jbind (ju1 h h1 h2)).trans rfl
  rw [jdec h3, Nat.add_sub_cancel_left]
set_option maxRecDepth 20000 in
theorem jd_121 {code : ByteArray} {N S pc : Nat} (h : jn_is code N S) (hw : jw1 N S pc 121 = true) : decode code pc = .ok (.lshl, 1) := by
  obtain ⟨h1, h2⟩ := jw1_spec hw
  have h3 : Decoder.instr pc code pc = Except.ok (.lshl, pc + 1) := by
    unfold Decoder.instr
    exact (jbind (ju1 h h1 h2)).trans rfl
  rw [jdec h3, Nat.add_sub_cancel_left]
set_option maxRecDepth 20000 in
theorem jd_122 {code : ByteArray} {N S pc : Nat} (h : jn_is code N S) (hw : jw1 N S pc 122 = true) : decode code pc = .ok (.ishr, 1) := by
  obtain ⟨h1, h2⟩ := jw1_spec hw
  have h3 : Decoder.instr pc code pc = Except.ok (.ishr, pc + 1) := by
    unfold Decoder.instr
    exact (jbind (ju1 h h1 h2)).trans rfl
  rw [jdec h3, Nat.add_sub_cancel_left]
set_option maxRecDepth 20000 in
theorem jd_123 {code : ByteArray} {N S pc : Nat} (h : jn_is code N S) (hw : jw1 N S pc 123 = true) : decode code pc = .ok (.lshr, 1) := by
  obtain ⟨h1, h2⟩ := jw1_spec hw
  have h3 : Decoder.instr pc code pc = Except.ok (.lshr, pc + 1) := by
    unfold Decoder.instr
    exact (jbind (ju1 h h1 h2)).trans rfl
  rw [jdec h3, Nat.add_sub_cancel_left]
set_option maxRecDepth 20000 in
theorem jd_124 {code : ByteArray} {N S pc : Nat} (h : jn_is code N S) (hw : jw1 N S pc 124 = true) : decode code pc = .ok (.iushr, 1) := by
  obtain ⟨h1, h2⟩ := jw1_spec hw
  have h3 : Decoder.instr pc code pc = Except.ok (.iushr, pc + 1) := by
    unfold Decoder.instr
    exact (jbind (ju1 h h1 h2)).trans rfl
  rw [jdec h3, Nat.add_sub_cancel_left]
set_option maxRecDepth 20000 in
theorem jd_125 {code : ByteArray} {N S pc : Nat} (h : jn_is code N S) (hw : jw1 N S pc 125 = true) : decode code pc = .ok (.lushr, 1) := by
  obtain ⟨h1, h2⟩ := jw1_spec hw
  have h3 : Decoder.instr pc code pc = Except.ok (.lushr, pc + 1) := by
    unfold Decoder.instr
    exact (jbind (ju1 h h1 h2)).trans rfl
  rw [jdec h3, Nat.add_sub_cancel_left]
set_option maxRecDepth 20000 in
theorem jd_126 {code : ByteArray} {N S pc : Nat} (h : jn_is code N S) (hw : jw1 N S pc 126 = true) : decode code pc = .ok (.iand, 1) := by
  obtain ⟨h1, h2⟩ := jw1_spec hw
  have h3 : Decoder.instr pc code pc = Except.ok (.iand, pc + 1) := by
    unfold Decoder.instr
    exact (jbind (ju1 h h1 h2)).trans rfl
  rw [jdec h3, Nat.add_sub_cancel_left]
set_option maxRecDepth 20000 in
theorem jd_127 {code : ByteArray} {N S pc : Nat} (h : jn_is code N S) (hw : jw1 N S pc 127 = true) : decode code pc = .ok (.land, 1) := by
  obtain ⟨h1, h2⟩ := jw1_spec hw
  have h3 : Decoder.instr pc code pc = Except.ok (.land, pc + 1) := by
    unfold Decoder.instr
    exact (jbind (ju1 h h1 h2)).trans rfl
  rw [jdec h3, Nat.add_sub_cancel_left]
set_option maxRecDepth 20000 in
theorem jd_128 {code : ByteArray} {N S pc : Nat} (h : jn_is code N S) (hw : jw1 N S pc 128 = true) : decode code pc = .ok (.ior, 1) := by
  obtain ⟨h1, h2⟩ := jw1_spec hw
  have h3 : Decoder.instr pc code pc = Except.ok (.ior, pc + 1) := by
    unfold Decoder.instr
    exact (jbind (ju1 h h1 h2)).trans rfl
  rw [jdec h3, Nat.add_sub_cancel_left]
set_option maxRecDepth 20000 in
theorem jd_129 {code : ByteArray} {N S pc : Nat} (h : jn_is code N S) (hw : jw1 N S pc 129 = true) : decode code pc = .ok (.lor, 1) := by
  obtain ⟨h1, h2⟩ := jw1_spec hw
  have h3 : Decoder.instr pc code pc = Except.ok (.lor, pc + 1) := by
    unfold Decoder.instr
    exact (jbind (ju1 h h1 h2)).trans rfl
  rw [jdec h3, Nat.add_sub_cancel_left]
set_option maxRecDepth 20000 in
theorem jd_130 {code : ByteArray} {N S pc : Nat} (h : jn_is code N S) (hw : jw1 N S pc 130 = true) : decode code pc = .ok (.ixor, 1) := by
  obtain ⟨h1, h2⟩ := jw1_spec hw
  have h3 : Decoder.instr pc code pc = Except.ok (.ixor, pc + 1) := by
    unfold Decoder.instr
    exact (jbind (ju1 h h1 h2)).trans rfl
  rw [jdec h3, Nat.add_sub_cancel_left]
set_option maxRecDepth 20000 in
theorem jd_131 {code : ByteArray} {N S pc : Nat} (h : jn_is code N S) (hw : jw1 N S pc 131 = true) : decode code pc = .ok (.lxor, 1) := by
  obtain ⟨h1, h2⟩ := jw1_spec hw
  have h3 : Decoder.instr pc code pc = Except.ok (.lxor, pc + 1) := by
    unfold Decoder.instr
    exact (jbind (ju1 h h1 h2)).trans rfl
  rw [jdec h3, Nat.add_sub_cancel_left]
set_option maxRecDepth 20000 in
theorem jd_133 {code : ByteArray} {N S pc : Nat} (h : jn_is code N S) (hw : jw1 N S pc 133 = true) : decode code pc = .ok (.i2l, 1) := by
  obtain ⟨h1, h2⟩ := jw1_spec hw
  have h3 : Decoder.instr pc code pc = Except.ok (.i2l, pc + 1) := by
    unfold Decoder.instr
    exact (jbind (ju1 h h1 h2)).trans rfl
  rw [jdec h3, Nat.add_sub_cancel_left]
set_option maxRecDepth 20000 in
theorem jd_136 {code : ByteArray} {N S pc : Nat} (h : jn_is code N S) (hw : jw1 N S pc 136 = true) : decode code pc = .ok (.l2i, 1) := by
  obtain ⟨h1, h2⟩ := jw1_spec hw
  have h3 : Decoder.instr pc code pc = Except.ok (.l2i, pc + 1) := by
    unfold Decoder.instr
    exact (jbind (ju1 h h1 h2)).trans rfl
  rw [jdec h3, Nat.add_sub_cancel_left]
set_option maxRecDepth 20000 in
theorem jd_145 {code : ByteArray} {N S pc : Nat} (h : jn_is code N S) (hw : jw1 N S pc 145 = true) : decode code pc = .ok (.i2b, 1) := by
  obtain ⟨h1, h2⟩ := jw1_spec hw
  have h3 : Decoder.instr pc code pc = Except.ok (.i2b, pc + 1) := by
    unfold Decoder.instr
    exact (jbind (ju1 h h1 h2)).trans rfl
  rw [jdec h3, Nat.add_sub_cancel_left]
set_option maxRecDepth 20000 in
theorem jd_148 {code : ByteArray} {N S pc : Nat} (h : jn_is code N S) (hw : jw1 N S pc 148 = true) : decode code pc = .ok (.lcmp, 1) := by
  obtain ⟨h1, h2⟩ := jw1_spec hw
  have h3 : Decoder.instr pc code pc = Except.ok (.lcmp, pc + 1) := by
    unfold Decoder.instr
    exact (jbind (ju1 h h1 h2)).trans rfl
  rw [jdec h3, Nat.add_sub_cancel_left]
set_option maxRecDepth 20000 in
theorem jd_172 {code : ByteArray} {N S pc : Nat} (h : jn_is code N S) (hw : jw1 N S pc 172 = true) : decode code pc = .ok (.ireturn, 1) := by
  obtain ⟨h1, h2⟩ := jw1_spec hw
  have h3 : Decoder.instr pc code pc = Except.ok (.ireturn, pc + 1) := by
    unfold Decoder.instr
    exact (jbind (ju1 h h1 h2)).trans rfl
  rw [jdec h3, Nat.add_sub_cancel_left]
set_option maxRecDepth 20000 in
theorem jd_173 {code : ByteArray} {N S pc : Nat} (h : jn_is code N S) (hw : jw1 N S pc 173 = true) : decode code pc = .ok (.lreturn, 1) := by
  obtain ⟨h1, h2⟩ := jw1_spec hw
  have h3 : Decoder.instr pc code pc = Except.ok (.lreturn, pc + 1) := by
    unfold Decoder.instr
    exact (jbind (ju1 h h1 h2)).trans rfl
  rw [jdec h3, Nat.add_sub_cancel_left]
set_option maxRecDepth 20000 in
theorem jd_176 {code : ByteArray} {N S pc : Nat} (h : jn_is code N S) (hw : jw1 N S pc 176 = true) : decode code pc = .ok (.areturn, 1) := by
  obtain ⟨h1, h2⟩ := jw1_spec hw
  have h3 : Decoder.instr pc code pc = Except.ok (.areturn, pc + 1) := by
    unfold Decoder.instr
    exact (jbind (ju1 h h1 h2)).trans rfl
  rw [jdec h3, Nat.add_sub_cancel_left]
set_option maxRecDepth 20000 in
theorem jd_177 {code : ByteArray} {N S pc : Nat} (h : jn_is code N S) (hw : jw1 N S pc 177 = true) : decode code pc = .ok (.return_, 1) := by
  obtain ⟨h1, h2⟩ := jw1_spec hw
  have h3 : Decoder.instr pc code pc = Except.ok (.return_, pc + 1) := by
    unfold Decoder.instr
    exact (jbind (ju1 h h1 h2)).trans rfl
  rw [jdec h3, Nat.add_sub_cancel_left]
set_option maxRecDepth 20000 in
theorem jd_190 {code : ByteArray} {N S pc : Nat} (h : jn_is code N S) (hw : jw1 N S pc 190 = true) : decode code pc = .ok (.arraylength, 1) := by
  obtain ⟨h1, h2⟩ := jw1_spec hw
  have h3 : Decoder.instr pc code pc = Except.ok (.arraylength, pc + 1) := by
    unfold Decoder.instr
    exact (jbind (ju1 h h1 h2)).trans rfl
  rw [jdec h3, Nat.add_sub_cancel_left]
set_option maxRecDepth 20000 in
theorem jd_16 {code : ByteArray} {N S pc b : Nat} (h : jn_is code N S) (hw : jw2 N S pc 16 b = true) : decode code pc = .ok (.bipush (Reader.signed 8 b), 2) := by
  obtain ⟨h1, h2, h4⟩ := jw2_spec hw
  have h3 : Decoder.instr pc code pc = Except.ok (.bipush (Reader.signed 8 b), pc + 2) := by
    unfold Decoder.instr
    refine (jbind (ju1 h (by omega) h2)).trans ?_
    refine (jbind (js1 h (by omega) h4)).trans rfl
  rw [jdec h3, Nat.add_sub_cancel_left]
set_option maxRecDepth 20000 in
theorem jd_18 {code : ByteArray} {N S pc b : Nat} (h : jn_is code N S) (hw : jw2 N S pc 18 b = true) : decode code pc = .ok (.ldc b, 2) := by
  obtain ⟨h1, h2, h4⟩ := jw2_spec hw
  have h3 : Decoder.instr pc code pc = Except.ok (.ldc b, pc + 2) := by
    unfold Decoder.instr
    refine (jbind (ju1 h (by omega) h2)).trans ?_
    refine (jbind (ju1 h (by omega) h4)).trans rfl
  rw [jdec h3, Nat.add_sub_cancel_left]
set_option maxRecDepth 20000 in
theorem jd_21 {code : ByteArray} {N S pc b : Nat} (h : jn_is code N S) (hw : jw2 N S pc 21 b = true) : decode code pc = .ok (.iload b, 2) := by
  obtain ⟨h1, h2, h4⟩ := jw2_spec hw
  have h3 : Decoder.instr pc code pc = Except.ok (.iload b, pc + 2) := by
    unfold Decoder.instr
    refine (jbind (ju1 h (by omega) h2)).trans ?_
    refine (jbind (ju1 h (by omega) h4)).trans rfl
  rw [jdec h3, Nat.add_sub_cancel_left]
set_option maxRecDepth 20000 in
theorem jd_22 {code : ByteArray} {N S pc b : Nat} (h : jn_is code N S) (hw : jw2 N S pc 22 b = true) : decode code pc = .ok (.lload b, 2) := by
  obtain ⟨h1, h2, h4⟩ := jw2_spec hw
  have h3 : Decoder.instr pc code pc = Except.ok (.lload b, pc + 2) := by
    unfold Decoder.instr
    refine (jbind (ju1 h (by omega) h2)).trans ?_
    refine (jbind (ju1 h (by omega) h4)).trans rfl
  rw [jdec h3, Nat.add_sub_cancel_left]
set_option maxRecDepth 20000 in
theorem jd_25 {code : ByteArray} {N S pc b : Nat} (h : jn_is code N S) (hw : jw2 N S pc 25 b = true) : decode code pc = .ok (.aload b, 2) := by
  obtain ⟨h1, h2, h4⟩ := jw2_spec hw
  have h3 : Decoder.instr pc code pc = Except.ok (.aload b, pc + 2) := by
    unfold Decoder.instr
    refine (jbind (ju1 h (by omega) h2)).trans ?_
    refine (jbind (ju1 h (by omega) h4)).trans rfl
  rw [jdec h3, Nat.add_sub_cancel_left]
set_option maxRecDepth 20000 in
theorem jd_54 {code : ByteArray} {N S pc b : Nat} (h : jn_is code N S) (hw : jw2 N S pc 54 b = true) : decode code pc = .ok (.istore b, 2) := by
  obtain ⟨h1, h2, h4⟩ := jw2_spec hw
  have h3 : Decoder.instr pc code pc = Except.ok (.istore b, pc + 2) := by
    unfold Decoder.instr
    refine (jbind (ju1 h (by omega) h2)).trans ?_
    refine (jbind (ju1 h (by omega) h4)).trans rfl
  rw [jdec h3, Nat.add_sub_cancel_left]
set_option maxRecDepth 20000 in
theorem jd_55 {code : ByteArray} {N S pc b : Nat} (h : jn_is code N S) (hw : jw2 N S pc 55 b = true) : decode code pc = .ok (.lstore b, 2) := by
  obtain ⟨h1, h2, h4⟩ := jw2_spec hw
  have h3 : Decoder.instr pc code pc = Except.ok (.lstore b, pc + 2) := by
    unfold Decoder.instr
    refine (jbind (ju1 h (by omega) h2)).trans ?_
    refine (jbind (ju1 h (by omega) h4)).trans rfl
  rw [jdec h3, Nat.add_sub_cancel_left]
set_option maxRecDepth 20000 in
theorem jd_58 {code : ByteArray} {N S pc b : Nat} (h : jn_is code N S) (hw : jw2 N S pc 58 b = true) : decode code pc = .ok (.astore b, 2) := by
  obtain ⟨h1, h2, h4⟩ := jw2_spec hw
  have h3 : Decoder.instr pc code pc = Except.ok (.astore b, pc + 2) := by
    unfold Decoder.instr
    refine (jbind (ju1 h (by omega) h2)).trans ?_
    refine (jbind (ju1 h (by omega) h4)).trans rfl
  rw [jdec h3, Nat.add_sub_cancel_left]
set_option maxRecDepth 20000 in
theorem jd_188_4 {code : ByteArray} {N S pc : Nat} (h : jn_is code N S) (hw : jw2 N S pc 188 4 = true) : decode code pc = .ok (.newarray .boolean, 2) := by
  obtain ⟨h1, h2, h4⟩ := jw2_spec hw
  have h3 : Decoder.instr pc code pc = Except.ok (.newarray .boolean, pc + 2) := by
    unfold Decoder.instr
    refine (jbind (ju1 h (by omega) h2)).trans ?_
    show Decoder.newarray pc code (pc + 1) = _
    unfold Decoder.newarray
    refine (jbind (ju1 h (by omega) h4)).trans rfl
  rw [jdec h3, Nat.add_sub_cancel_left]
set_option maxRecDepth 20000 in
theorem jd_188_8 {code : ByteArray} {N S pc : Nat} (h : jn_is code N S) (hw : jw2 N S pc 188 8 = true) : decode code pc = .ok (.newarray .byte, 2) := by
  obtain ⟨h1, h2, h4⟩ := jw2_spec hw
  have h3 : Decoder.instr pc code pc = Except.ok (.newarray .byte, pc + 2) := by
    unfold Decoder.instr
    refine (jbind (ju1 h (by omega) h2)).trans ?_
    show Decoder.newarray pc code (pc + 1) = _
    unfold Decoder.newarray
    refine (jbind (ju1 h (by omega) h4)).trans rfl
  rw [jdec h3, Nat.add_sub_cancel_left]
set_option maxRecDepth 20000 in
theorem jd_188_10 {code : ByteArray} {N S pc : Nat} (h : jn_is code N S) (hw : jw2 N S pc 188 10 = true) : decode code pc = .ok (.newarray .int, 2) := by
  obtain ⟨h1, h2, h4⟩ := jw2_spec hw
  have h3 : Decoder.instr pc code pc = Except.ok (.newarray .int, pc + 2) := by
    unfold Decoder.instr
    refine (jbind (ju1 h (by omega) h2)).trans ?_
    show Decoder.newarray pc code (pc + 1) = _
    unfold Decoder.newarray
    refine (jbind (ju1 h (by omega) h4)).trans rfl
  rw [jdec h3, Nat.add_sub_cancel_left]
set_option maxRecDepth 20000 in
theorem jd_188_11 {code : ByteArray} {N S pc : Nat} (h : jn_is code N S) (hw : jw2 N S pc 188 11 = true) : decode code pc = .ok (.newarray .long, 2) := by
  obtain ⟨h1, h2, h4⟩ := jw2_spec hw
  have h3 : Decoder.instr pc code pc = Except.ok (.newarray .long, pc + 2) := by
    unfold Decoder.instr
    refine (jbind (ju1 h (by omega) h2)).trans ?_
    show Decoder.newarray pc code (pc + 1) = _
    unfold Decoder.newarray
    refine (jbind (ju1 h (by omega) h4)).trans rfl
  rw [jdec h3, Nat.add_sub_cancel_left]
set_option maxRecDepth 20000 in
theorem jd_17 {code : ByteArray} {N S pc b d : Nat} (h : jn_is code N S) (hw : jw3 N S pc 17 b d = true) : decode code pc = .ok (.sipush (Reader.signed 16 (b * 256 + d)), 3) := by
  obtain ⟨h1, h2, h4, h5⟩ := jw3_spec hw
  have h3 : Decoder.instr pc code pc = Except.ok (.sipush (Reader.signed 16 (b * 256 + d)), pc + 3) := by
    unfold Decoder.instr
    refine (jbind (ju1 h (by omega) h2)).trans ?_
    refine (jbind (js2 h (by omega) h4 h5)).trans rfl
  rw [jdec h3, Nat.add_sub_cancel_left]
set_option maxRecDepth 20000 in
theorem jd_19 {code : ByteArray} {N S pc b d : Nat} (h : jn_is code N S) (hw : jw3 N S pc 19 b d = true) : decode code pc = .ok (.ldc_w (b * 256 + d), 3) := by
  obtain ⟨h1, h2, h4, h5⟩ := jw3_spec hw
  have h3 : Decoder.instr pc code pc = Except.ok (.ldc_w (b * 256 + d), pc + 3) := by
    unfold Decoder.instr
    refine (jbind (ju1 h (by omega) h2)).trans ?_
    refine (jbind (ju2 h (by omega) h4 h5)).trans rfl
  rw [jdec h3, Nat.add_sub_cancel_left]
set_option maxRecDepth 20000 in
theorem jd_20 {code : ByteArray} {N S pc b d : Nat} (h : jn_is code N S) (hw : jw3 N S pc 20 b d = true) : decode code pc = .ok (.ldc2_w (b * 256 + d), 3) := by
  obtain ⟨h1, h2, h4, h5⟩ := jw3_spec hw
  have h3 : Decoder.instr pc code pc = Except.ok (.ldc2_w (b * 256 + d), pc + 3) := by
    unfold Decoder.instr
    refine (jbind (ju1 h (by omega) h2)).trans ?_
    refine (jbind (ju2 h (by omega) h4 h5)).trans rfl
  rw [jdec h3, Nat.add_sub_cancel_left]
set_option maxRecDepth 20000 in
theorem jd_153 {code : ByteArray} {N S pc b d : Nat} (h : jn_is code N S) (hw : jw3 N S pc 153 b d = true) : decode code pc = .ok (.ifCond .eq (Reader.signed 16 (b * 256 + d)), 3) := by
  obtain ⟨h1, h2, h4, h5⟩ := jw3_spec hw
  have h3 : Decoder.instr pc code pc = Except.ok (.ifCond .eq (Reader.signed 16 (b * 256 + d)), pc + 3) := by
    unfold Decoder.instr
    refine (jbind (ju1 h (by omega) h2)).trans ?_
    refine (jbind (js2 h (by omega) h4 h5)).trans rfl
  rw [jdec h3, Nat.add_sub_cancel_left]
set_option maxRecDepth 20000 in
theorem jd_159 {code : ByteArray} {N S pc b d : Nat} (h : jn_is code N S) (hw : jw3 N S pc 159 b d = true) : decode code pc = .ok (.if_icmp .eq (Reader.signed 16 (b * 256 + d)), 3) := by
  obtain ⟨h1, h2, h4, h5⟩ := jw3_spec hw
  have h3 : Decoder.instr pc code pc = Except.ok (.if_icmp .eq (Reader.signed 16 (b * 256 + d)), pc + 3) := by
    unfold Decoder.instr
    refine (jbind (ju1 h (by omega) h2)).trans ?_
    refine (jbind (js2 h (by omega) h4 h5)).trans rfl
  rw [jdec h3, Nat.add_sub_cancel_left]
set_option maxRecDepth 20000 in
theorem jd_154 {code : ByteArray} {N S pc b d : Nat} (h : jn_is code N S) (hw : jw3 N S pc 154 b d = true) : decode code pc = .ok (.ifCond .ne (Reader.signed 16 (b * 256 + d)), 3) := by
  obtain ⟨h1, h2, h4, h5⟩ := jw3_spec hw
  have h3 : Decoder.instr pc code pc = Except.ok (.ifCond .ne (Reader.signed 16 (b * 256 + d)), pc + 3) := by
    unfold Decoder.instr
    refine (jbind (ju1 h (by omega) h2)).trans ?_
    refine (jbind (js2 h (by omega) h4 h5)).trans rfl
  rw [jdec h3, Nat.add_sub_cancel_left]
set_option maxRecDepth 20000 in
theorem jd_160 {code : ByteArray} {N S pc b d : Nat} (h : jn_is code N S) (hw : jw3 N S pc 160 b d = true) : decode code pc = .ok (.if_icmp .ne (Reader.signed 16 (b * 256 + d)), 3) := by
  obtain ⟨h1, h2, h4, h5⟩ := jw3_spec hw
  have h3 : Decoder.instr pc code pc = Except.ok (.if_icmp .ne (Reader.signed 16 (b * 256 + d)), pc + 3) := by
    unfold Decoder.instr
    refine (jbind (ju1 h (by omega) h2)).trans ?_
    refine (jbind (js2 h (by omega) h4 h5)).trans rfl
  rw [jdec h3, Nat.add_sub_cancel_left]
set_option maxRecDepth 20000 in
theorem jd_155 {code : ByteArray} {N S pc b d : Nat} (h : jn_is code N S) (hw : jw3 N S pc 155 b d = true) : decode code pc = .ok (.ifCond .lt (Reader.signed 16 (b * 256 + d)), 3) := by
  obtain ⟨h1, h2, h4, h5⟩ := jw3_spec hw
  have h3 : Decoder.instr pc code pc = Except.ok (.ifCond .lt (Reader.signed 16 (b * 256 + d)), pc + 3) := by
    unfold Decoder.instr
    refine (jbind (ju1 h (by omega) h2)).trans ?_
    refine (jbind (js2 h (by omega) h4 h5)).trans rfl
  rw [jdec h3, Nat.add_sub_cancel_left]
set_option maxRecDepth 20000 in
theorem jd_161 {code : ByteArray} {N S pc b d : Nat} (h : jn_is code N S) (hw : jw3 N S pc 161 b d = true) : decode code pc = .ok (.if_icmp .lt (Reader.signed 16 (b * 256 + d)), 3) := by
  obtain ⟨h1, h2, h4, h5⟩ := jw3_spec hw
  have h3 : Decoder.instr pc code pc = Except.ok (.if_icmp .lt (Reader.signed 16 (b * 256 + d)), pc + 3) := by
    unfold Decoder.instr
    refine (jbind (ju1 h (by omega) h2)).trans ?_
    refine (jbind (js2 h (by omega) h4 h5)).trans rfl
  rw [jdec h3, Nat.add_sub_cancel_left]
set_option maxRecDepth 20000 in
theorem jd_156 {code : ByteArray} {N S pc b d : Nat} (h : jn_is code N S) (hw : jw3 N S pc 156 b d = true) : decode code pc = .ok (.ifCond .ge (Reader.signed 16 (b * 256 + d)), 3) := by
  obtain ⟨h1, h2, h4, h5⟩ := jw3_spec hw
  have h3 : Decoder.instr pc code pc = Except.ok (.ifCond .ge (Reader.signed 16 (b * 256 + d)), pc + 3) := by
    unfold Decoder.instr
    refine (jbind (ju1 h (by omega) h2)).trans ?_
    refine (jbind (js2 h (by omega) h4 h5)).trans rfl
  rw [jdec h3, Nat.add_sub_cancel_left]
set_option maxRecDepth 20000 in
theorem jd_162 {code : ByteArray} {N S pc b d : Nat} (h : jn_is code N S) (hw : jw3 N S pc 162 b d = true) : decode code pc = .ok (.if_icmp .ge (Reader.signed 16 (b * 256 + d)), 3) := by
  obtain ⟨h1, h2, h4, h5⟩ := jw3_spec hw
  have h3 : Decoder.instr pc code pc = Except.ok (.if_icmp .ge (Reader.signed 16 (b * 256 + d)), pc + 3) := by
    unfold Decoder.instr
    refine (jbind (ju1 h (by omega) h2)).trans ?_
    refine (jbind (js2 h (by omega) h4 h5)).trans rfl
  rw [jdec h3, Nat.add_sub_cancel_left]
set_option maxRecDepth 20000 in
theorem jd_157 {code : ByteArray} {N S pc b d : Nat} (h : jn_is code N S) (hw : jw3 N S pc 157 b d = true) : decode code pc = .ok (.ifCond .gt (Reader.signed 16 (b * 256 + d)), 3) := by
  obtain ⟨h1, h2, h4, h5⟩ := jw3_spec hw
  have h3 : Decoder.instr pc code pc = Except.ok (.ifCond .gt (Reader.signed 16 (b * 256 + d)), pc + 3) := by
    unfold Decoder.instr
    refine (jbind (ju1 h (by omega) h2)).trans ?_
    refine (jbind (js2 h (by omega) h4 h5)).trans rfl
  rw [jdec h3, Nat.add_sub_cancel_left]
set_option maxRecDepth 20000 in
theorem jd_163 {code : ByteArray} {N S pc b d : Nat} (h : jn_is code N S) (hw : jw3 N S pc 163 b d = true) : decode code pc = .ok (.if_icmp .gt (Reader.signed 16 (b * 256 + d)), 3) := by
  obtain ⟨h1, h2, h4, h5⟩ := jw3_spec hw
  have h3 : Decoder.instr pc code pc = Except.ok (.if_icmp .gt (Reader.signed 16 (b * 256 + d)), pc + 3) := by
    unfold Decoder.instr
    refine (jbind (ju1 h (by omega) h2)).trans ?_
    refine (jbind (js2 h (by omega) h4 h5)).trans rfl
  rw [jdec h3, Nat.add_sub_cancel_left]
set_option maxRecDepth 20000 in
theorem jd_158 {code : ByteArray} {N S pc b d : Nat} (h : jn_is code N S) (hw : jw3 N S pc 158 b d = true) : decode code pc = .ok (.ifCond .le (Reader.signed 16 (b * 256 + d)), 3) := by
  obtain ⟨h1, h2, h4, h5⟩ := jw3_spec hw
  have h3 : Decoder.instr pc code pc = Except.ok (.ifCond .le (Reader.signed 16 (b * 256 + d)), pc + 3) := by
    unfold Decoder.instr
    refine (jbind (ju1 h (by omega) h2)).trans ?_
    refine (jbind (js2 h (by omega) h4 h5)).trans rfl
  rw [jdec h3, Nat.add_sub_cancel_left]
set_option maxRecDepth 20000 in
theorem jd_164 {code : ByteArray} {N S pc b d : Nat} (h : jn_is code N S) (hw : jw3 N S pc 164 b d = true) : decode code pc = .ok (.if_icmp .le (Reader.signed 16 (b * 256 + d)), 3) := by
  obtain ⟨h1, h2, h4, h5⟩ := jw3_spec hw
  have h3 : Decoder.instr pc code pc = Except.ok (.if_icmp .le (Reader.signed 16 (b * 256 + d)), pc + 3) := by
    unfold Decoder.instr
    refine (jbind (ju1 h (by omega) h2)).trans ?_
    refine (jbind (js2 h (by omega) h4 h5)).trans rfl
  rw [jdec h3, Nat.add_sub_cancel_left]
set_option maxRecDepth 20000 in
theorem jd_165 {code : ByteArray} {N S pc b d : Nat} (h : jn_is code N S) (hw : jw3 N S pc 165 b d = true) : decode code pc = .ok (.if_acmp .eq (Reader.signed 16 (b * 256 + d)), 3) := by
  obtain ⟨h1, h2, h4, h5⟩ := jw3_spec hw
  have h3 : Decoder.instr pc code pc = Except.ok (.if_acmp .eq (Reader.signed 16 (b * 256 + d)), pc + 3) := by
    unfold Decoder.instr
    refine (jbind (ju1 h (by omega) h2)).trans ?_
    refine (jbind (js2 h (by omega) h4 h5)).trans rfl
  rw [jdec h3, Nat.add_sub_cancel_left]
set_option maxRecDepth 20000 in
theorem jd_166 {code : ByteArray} {N S pc b d : Nat} (h : jn_is code N S) (hw : jw3 N S pc 166 b d = true) : decode code pc = .ok (.if_acmp .ne (Reader.signed 16 (b * 256 + d)), 3) := by
  obtain ⟨h1, h2, h4, h5⟩ := jw3_spec hw
  have h3 : Decoder.instr pc code pc = Except.ok (.if_acmp .ne (Reader.signed 16 (b * 256 + d)), pc + 3) := by
    unfold Decoder.instr
    refine (jbind (ju1 h (by omega) h2)).trans ?_
    refine (jbind (js2 h (by omega) h4 h5)).trans rfl
  rw [jdec h3, Nat.add_sub_cancel_left]
set_option maxRecDepth 20000 in
theorem jd_167 {code : ByteArray} {N S pc b d : Nat} (h : jn_is code N S) (hw : jw3 N S pc 167 b d = true) : decode code pc = .ok (.goto (Reader.signed 16 (b * 256 + d)), 3) := by
  obtain ⟨h1, h2, h4, h5⟩ := jw3_spec hw
  have h3 : Decoder.instr pc code pc = Except.ok (.goto (Reader.signed 16 (b * 256 + d)), pc + 3) := by
    unfold Decoder.instr
    refine (jbind (ju1 h (by omega) h2)).trans ?_
    refine (jbind (js2 h (by omega) h4 h5)).trans rfl
  rw [jdec h3, Nat.add_sub_cancel_left]
set_option maxRecDepth 20000 in
theorem jd_178 {code : ByteArray} {N S pc b d : Nat} (h : jn_is code N S) (hw : jw3 N S pc 178 b d = true) : decode code pc = .ok (.getstatic (b * 256 + d), 3) := by
  obtain ⟨h1, h2, h4, h5⟩ := jw3_spec hw
  have h3 : Decoder.instr pc code pc = Except.ok (.getstatic (b * 256 + d), pc + 3) := by
    unfold Decoder.instr
    refine (jbind (ju1 h (by omega) h2)).trans ?_
    refine (jbind (ju2 h (by omega) h4 h5)).trans rfl
  rw [jdec h3, Nat.add_sub_cancel_left]
set_option maxRecDepth 20000 in
theorem jd_180 {code : ByteArray} {N S pc b d : Nat} (h : jn_is code N S) (hw : jw3 N S pc 180 b d = true) : decode code pc = .ok (.getfield (b * 256 + d), 3) := by
  obtain ⟨h1, h2, h4, h5⟩ := jw3_spec hw
  have h3 : Decoder.instr pc code pc = Except.ok (.getfield (b * 256 + d), pc + 3) := by
    unfold Decoder.instr
    refine (jbind (ju1 h (by omega) h2)).trans ?_
    refine (jbind (ju2 h (by omega) h4 h5)).trans rfl
  rw [jdec h3, Nat.add_sub_cancel_left]
set_option maxRecDepth 20000 in
theorem jd_181 {code : ByteArray} {N S pc b d : Nat} (h : jn_is code N S) (hw : jw3 N S pc 181 b d = true) : decode code pc = .ok (.putfield (b * 256 + d), 3) := by
  obtain ⟨h1, h2, h4, h5⟩ := jw3_spec hw
  have h3 : Decoder.instr pc code pc = Except.ok (.putfield (b * 256 + d), pc + 3) := by
    unfold Decoder.instr
    refine (jbind (ju1 h (by omega) h2)).trans ?_
    refine (jbind (ju2 h (by omega) h4 h5)).trans rfl
  rw [jdec h3, Nat.add_sub_cancel_left]
set_option maxRecDepth 20000 in
theorem jd_182 {code : ByteArray} {N S pc b d : Nat} (h : jn_is code N S) (hw : jw3 N S pc 182 b d = true) : decode code pc = .ok (.invokevirtual (b * 256 + d), 3) := by
  obtain ⟨h1, h2, h4, h5⟩ := jw3_spec hw
  have h3 : Decoder.instr pc code pc = Except.ok (.invokevirtual (b * 256 + d), pc + 3) := by
    unfold Decoder.instr
    refine (jbind (ju1 h (by omega) h2)).trans ?_
    refine (jbind (ju2 h (by omega) h4 h5)).trans rfl
  rw [jdec h3, Nat.add_sub_cancel_left]
set_option maxRecDepth 20000 in
theorem jd_183 {code : ByteArray} {N S pc b d : Nat} (h : jn_is code N S) (hw : jw3 N S pc 183 b d = true) : decode code pc = .ok (.invokespecial (b * 256 + d), 3) := by
  obtain ⟨h1, h2, h4, h5⟩ := jw3_spec hw
  have h3 : Decoder.instr pc code pc = Except.ok (.invokespecial (b * 256 + d), pc + 3) := by
    unfold Decoder.instr
    refine (jbind (ju1 h (by omega) h2)).trans ?_
    refine (jbind (ju2 h (by omega) h4 h5)).trans rfl
  rw [jdec h3, Nat.add_sub_cancel_left]
set_option maxRecDepth 20000 in
theorem jd_184 {code : ByteArray} {N S pc b d : Nat} (h : jn_is code N S) (hw : jw3 N S pc 184 b d = true) : decode code pc = .ok (.invokestatic (b * 256 + d), 3) := by
  obtain ⟨h1, h2, h4, h5⟩ := jw3_spec hw
  have h3 : Decoder.instr pc code pc = Except.ok (.invokestatic (b * 256 + d), pc + 3) := by
    unfold Decoder.instr
    refine (jbind (ju1 h (by omega) h2)).trans ?_
    refine (jbind (ju2 h (by omega) h4 h5)).trans rfl
  rw [jdec h3, Nat.add_sub_cancel_left]
set_option maxRecDepth 20000 in
theorem jd_187 {code : ByteArray} {N S pc b d : Nat} (h : jn_is code N S) (hw : jw3 N S pc 187 b d = true) : decode code pc = .ok (.new (b * 256 + d), 3) := by
  obtain ⟨h1, h2, h4, h5⟩ := jw3_spec hw
  have h3 : Decoder.instr pc code pc = Except.ok (.new (b * 256 + d), pc + 3) := by
    unfold Decoder.instr
    refine (jbind (ju1 h (by omega) h2)).trans ?_
    refine (jbind (ju2 h (by omega) h4 h5)).trans rfl
  rw [jdec h3, Nat.add_sub_cancel_left]
set_option maxRecDepth 20000 in
theorem jd_189 {code : ByteArray} {N S pc b d : Nat} (h : jn_is code N S) (hw : jw3 N S pc 189 b d = true) : decode code pc = .ok (.anewarray (b * 256 + d), 3) := by
  obtain ⟨h1, h2, h4, h5⟩ := jw3_spec hw
  have h3 : Decoder.instr pc code pc = Except.ok (.anewarray (b * 256 + d), pc + 3) := by
    unfold Decoder.instr
    refine (jbind (ju1 h (by omega) h2)).trans ?_
    refine (jbind (ju2 h (by omega) h4 h5)).trans rfl
  rw [jdec h3, Nat.add_sub_cancel_left]
set_option maxRecDepth 20000 in
theorem jd_192 {code : ByteArray} {N S pc b d : Nat} (h : jn_is code N S) (hw : jw3 N S pc 192 b d = true) : decode code pc = .ok (.checkcast (b * 256 + d), 3) := by
  obtain ⟨h1, h2, h4, h5⟩ := jw3_spec hw
  have h3 : Decoder.instr pc code pc = Except.ok (.checkcast (b * 256 + d), pc + 3) := by
    unfold Decoder.instr
    refine (jbind (ju1 h (by omega) h2)).trans ?_
    refine (jbind (ju2 h (by omega) h4 h5)).trans rfl
  rw [jdec h3, Nat.add_sub_cancel_left]
set_option maxRecDepth 20000 in
theorem jd_198 {code : ByteArray} {N S pc b d : Nat} (h : jn_is code N S) (hw : jw3 N S pc 198 b d = true) : decode code pc = .ok (.ifnull (Reader.signed 16 (b * 256 + d)), 3) := by
  obtain ⟨h1, h2, h4, h5⟩ := jw3_spec hw
  have h3 : Decoder.instr pc code pc = Except.ok (.ifnull (Reader.signed 16 (b * 256 + d)), pc + 3) := by
    unfold Decoder.instr
    refine (jbind (ju1 h (by omega) h2)).trans ?_
    refine (jbind (js2 h (by omega) h4 h5)).trans rfl
  rw [jdec h3, Nat.add_sub_cancel_left]
set_option maxRecDepth 20000 in
theorem jd_199 {code : ByteArray} {N S pc b d : Nat} (h : jn_is code N S) (hw : jw3 N S pc 199 b d = true) : decode code pc = .ok (.ifnonnull (Reader.signed 16 (b * 256 + d)), 3) := by
  obtain ⟨h1, h2, h4, h5⟩ := jw3_spec hw
  have h3 : Decoder.instr pc code pc = Except.ok (.ifnonnull (Reader.signed 16 (b * 256 + d)), pc + 3) := by
    unfold Decoder.instr
    refine (jbind (ju1 h (by omega) h2)).trans ?_
    refine (jbind (js2 h (by omega) h4 h5)).trans rfl
  rw [jdec h3, Nat.add_sub_cancel_left]
set_option maxRecDepth 20000 in
theorem jd_132 {code : ByteArray} {N S pc b d : Nat} (h : jn_is code N S) (hw : jw3 N S pc 132 b d = true) : decode code pc = .ok (.iinc b (Reader.signed 8 d), 3) := by
  obtain ⟨h1, h2, h4, h5⟩ := jw3_spec hw
  have h3 : Decoder.instr pc code pc = Except.ok (.iinc b (Reader.signed 8 d), pc + 3) := by
    unfold Decoder.instr
    refine (jbind (ju1 h (by omega) h2)).trans ?_
    refine (jbind (ju1 h (by omega) h4)).trans ?_
    refine (jbind (js1 h (by omega) h5)).trans rfl
  rw [jdec h3, Nat.add_sub_cancel_left]
def jt (pc b d tgt : Nat) : Bool := if Nat.blt (b * 256 + d) 32768 then Nat.beq (pc + (b * 256 + d)) tgt else Nat.beq (pc + (b * 256 + d)) (tgt + 65536)
theorem jt_spec {pc b d tgt : Nat} (h : jt pc b d tgt = true) : (pc : Int) + Reader.signed 16 (b * 256 + d) = (tgt : Int) := by
  unfold jt at h
  unfold Reader.signed
  generalize b * 256 + d = x at *
  split at h
  · rename_i h1
    rw [Nat.blt_eq] at h1
    rw [Nat.beq_eq] at h
    rw [if_pos (by simpa using h1)]
    omega
  · rename_i h1
    rw [Nat.blt_eq] at h1
    rw [Nat.beq_eq] at h
    rw [if_neg (by simpa using h1)]
    omega
