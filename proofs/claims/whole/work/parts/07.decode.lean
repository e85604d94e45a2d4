theorem dk_u1 {code : ByteArray} {p b : Nat} (h : p < code.size) (hb : code[p].toNat = b) : (Reader.u1 : Decoder Nat) code p = .ok (b, p + 1) := by
  have e : (Reader.u1 : Decoder Nat) code p = (if h : p < code.size then (Except.ok (code[p].toNat, p + 1) : Except DecodeError (Nat × Nat)) else Except.error (HasTruncated.truncated p)) := by
    unfold Reader.u1
    show (dite (p < code.size) _ _ : Decoder Nat) code p = _
    by_cases h : p < code.size
    · rw [dif_pos h, dif_pos h]; rfl
    · rw [dif_neg h, dif_neg h]; rfl
  rw [e, dif_pos h, hb]
abbrev dk_R (code : ByteArray) (p b : Nat) : Prop := (Reader.u1 : Decoder Nat) code p = .ok (b, p + 1)
theorem dk_end {code : ByteArray} {pc n : Nat} {i : Instr} (h : Decoder.instr pc code pc = .ok (i, pc + n)) : decode code pc = .ok (i, n) := by
  unfold decode Reader.runAt
  show Except.bind (Decoder.instr pc code pc) _ = _
  rw [h]
  show Except.ok (i, pc + n - pc) = _
  rw [Nat.add_sub_cancel_left]
theorem dk_u2 {code : ByteArray} {p x y : Nat} (h2 : dk_R code p x) (h3 : dk_R code (p + 1) y) : (Reader.u2 : Decoder Nat) code p = .ok (x * 256 + y, p + 2) := by
  unfold Reader.u2
  show Except.bind ((Reader.u1 : Decoder Nat) code p) _ = _
  rw [h2]
  show Except.bind ((Reader.u1 : Decoder Nat) code (p + 1)) _ = _
  rw [h3]
  rfl
theorem dk_s1 {code : ByteArray} {p x : Nat} (h2 : dk_R code p x) : (Reader.s1 : Decoder Int) code p = .ok (Reader.signed 8 x, p + 1) := by
  unfold Reader.s1
  show Except.bind ((Reader.u1 : Decoder Nat) code p) _ = _
  rw [h2]
  rfl
theorem dk_s2 {code : ByteArray} {p x y : Nat} (h2 : dk_R code p x) (h3 : dk_R code (p + 1) y) : (Reader.s2 : Decoder Int) code p = .ok (Reader.signed 16 (x * 256 + y), p + 2) := by
  unfold Reader.s2
  show Except.bind ((Reader.u2 : Decoder Nat) code p) _ = _
  rw [dk_u2 h2 h3]
  rfl
section
variable {code : ByteArray} {pc x y : Nat}
theorem dk_iconst_m1 (h1 : dk_R code pc 2) : decode code pc = .ok (.iconst (-1), 1) := by
  refine dk_end ?_
  unfold Decoder.instr
  show Except.bind ((Reader.u1 : Decoder Nat) code pc) _ = _
  rw [h1]
  rfl
theorem dk_iconst_0 (h1 : dk_R code pc 3) : decode code pc = .ok (.iconst 0, 1) := by
  refine dk_end ?_
  unfold Decoder.instr
  show Except.bind ((Reader.u1 : Decoder Nat) code pc) _ = _
  rw [h1]
  rfl
theorem dk_iconst_1 (h1 : dk_R code pc 4) : decode code pc = .ok (.iconst 1, 1) := by
  refine dk_end ?_
  unfold Decoder.instr
  show Except.bind ((Reader.u1 : Decoder Nat) code pc) _ = _
  rw [h1]
  rfl
theorem dk_iconst_2 (h1 : dk_R code pc 5) : decode code pc = .ok (.iconst 2, 1) := by
  refine dk_end ?_
  unfold Decoder.instr
  show Except.bind ((Reader.u1 : Decoder Nat) code pc) _ = _
  rw [h1]
  rfl
theorem dk_iconst_3 (h1 : dk_R code pc 6) : decode code pc = .ok (.iconst 3, 1) := by
  refine dk_end ?_
  unfold Decoder.instr
  show Except.bind ((Reader.u1 : Decoder Nat) code pc) _ = _
  rw [h1]
  rfl
theorem dk_iconst_4 (h1 : dk_R code pc 7) : decode code pc = .ok (.iconst 4, 1) := by
  refine dk_end ?_
  unfold Decoder.instr
  show Except.bind ((Reader.u1 : Decoder Nat) code pc) _ = _
  rw [h1]
  rfl
theorem dk_iconst_5 (h1 : dk_R code pc 8) : decode code pc = .ok (.iconst 5, 1) := by
  refine dk_end ?_
  unfold Decoder.instr
  show Except.bind ((Reader.u1 : Decoder Nat) code pc) _ = _
  rw [h1]
  rfl
theorem dk_iload_0 (h1 : dk_R code pc 26) : decode code pc = .ok (.iload_n 0, 1) := by
  refine dk_end ?_
  unfold Decoder.instr
  show Except.bind ((Reader.u1 : Decoder Nat) code pc) _ = _
  rw [h1]
  rfl
theorem dk_iload_1 (h1 : dk_R code pc 27) : decode code pc = .ok (.iload_n 1, 1) := by
  refine dk_end ?_
  unfold Decoder.instr
  show Except.bind ((Reader.u1 : Decoder Nat) code pc) _ = _
  rw [h1]
  rfl
theorem dk_iload_2 (h1 : dk_R code pc 28) : decode code pc = .ok (.iload_n 2, 1) := by
  refine dk_end ?_
  unfold Decoder.instr
  show Except.bind ((Reader.u1 : Decoder Nat) code pc) _ = _
  rw [h1]
  rfl
theorem dk_iload_3 (h1 : dk_R code pc 29) : decode code pc = .ok (.iload_n 3, 1) := by
  refine dk_end ?_
  unfold Decoder.instr
  show Except.bind ((Reader.u1 : Decoder Nat) code pc) _ = _
  rw [h1]
  rfl
theorem dk_lload_0 (h1 : dk_R code pc 30) : decode code pc = .ok (.lload_n 0, 1) := by
  refine dk_end ?_
  unfold Decoder.instr
  show Except.bind ((Reader.u1 : Decoder Nat) code pc) _ = _
  rw [h1]
  rfl
theorem dk_lload_1 (h1 : dk_R code pc 31) : decode code pc = .ok (.lload_n 1, 1) := by
  refine dk_end ?_
  unfold Decoder.instr
  show Except.bind ((Reader.u1 : Decoder Nat) code pc) _ = _
  rw [h1]
  rfl
theorem dk_lload_2 (h1 : dk_R code pc 32) : decode code pc = .ok (.lload_n 2, 1) := by
  refine dk_end ?_
  unfold Decoder.instr
  show Except.bind ((Reader.u1 : Decoder Nat) code pc) _ = _
  rw [h1]
  rfl
theorem dk_lload_3 (h1 : dk_R code pc 33) : decode code pc = .ok (.lload_n 3, 1) := by
  refine dk_end ?_
  unfold Decoder.instr
  show Except.bind ((Reader.u1 : Decoder Nat) code pc) _ = _
  rw [h1]
  rfl
theorem dk_aload_0 (h1 : dk_R code pc 42) : decode code pc = .ok (.aload_n 0, 1) := by
  refine dk_end ?_
  unfold Decoder.instr
  show Except.bind ((Reader.u1 : Decoder Nat) code pc) _ = _
  rw [h1]
  rfl
theorem dk_aload_1 (h1 : dk_R code pc 43) : decode code pc = .ok (.aload_n 1, 1) := by
  refine dk_end ?_
  unfold Decoder.instr
  show Except.bind ((Reader.u1 : Decoder Nat) code pc) _ = _
  rw [h1]
  rfl
theorem dk_aload_2 (h1 : dk_R code pc 44) : decode code pc = .ok (.aload_n 2, 1) := by
  refine dk_end ?_
  unfold Decoder.instr
  show Except.bind ((Reader.u1 : Decoder Nat) code pc) _ = _
  rw [h1]
  rfl
theorem dk_aload_3 (h1 : dk_R code pc 45) : decode code pc = .ok (.aload_n 3, 1) := by
  refine dk_end ?_
  unfold Decoder.instr
  show Except.bind ((Reader.u1 : Decoder Nat) code pc) _ = _
  rw [h1]
  rfl
theorem dk_istore_0 (h1 : dk_R code pc 59) : decode code pc = .ok (.istore_n 0, 1) := by
  refine dk_end ?_
  unfold Decoder.instr
  show Except.bind ((Reader.u1 : Decoder Nat) code pc) _ = _
  rw [h1]
  rfl
theorem dk_istore_1 (h1 : dk_R code pc 60) : decode code pc = .ok (.istore_n 1, 1) := by
  refine dk_end ?_
  unfold Decoder.instr
  show Except.bind ((Reader.u1 : Decoder Nat) code pc) _ = _
  rw [h1]
  rfl
theorem dk_istore_2 (h1 : dk_R code pc 61) : decode code pc = .ok (.istore_n 2, 1) := by
  refine dk_end ?_
  unfold Decoder.instr
  show Except.bind ((Reader.u1 : Decoder Nat) code pc) _ = _
  rw [h1]
  rfl
theorem dk_istore_3 (h1 : dk_R code pc 62) : decode code pc = .ok (.istore_n 3, 1) := by
  refine dk_end ?_
  unfold Decoder.instr
  show Except.bind ((Reader.u1 : Decoder Nat) code pc) _ = _
  rw [h1]
  rfl
theorem dk_astore_0 (h1 : dk_R code pc 75) : decode code pc = .ok (.astore_n 0, 1) := by
  refine dk_end ?_
  unfold Decoder.instr
  show Except.bind ((Reader.u1 : Decoder Nat) code pc) _ = _
  rw [h1]
  rfl
theorem dk_astore_1 (h1 : dk_R code pc 76) : decode code pc = .ok (.astore_n 1, 1) := by
  refine dk_end ?_
  unfold Decoder.instr
  show Except.bind ((Reader.u1 : Decoder Nat) code pc) _ = _
  rw [h1]
  rfl
theorem dk_astore_2 (h1 : dk_R code pc 77) : decode code pc = .ok (.astore_n 2, 1) := by
  refine dk_end ?_
  unfold Decoder.instr
  show Except.bind ((Reader.u1 : Decoder Nat) code pc) _ = _
  rw [h1]
  rfl
theorem dk_astore_3 (h1 : dk_R code pc 78) : decode code pc = .ok (.astore_n 3, 1) := by
  refine dk_end ?_
  unfold Decoder.instr
  show Except.bind ((Reader.u1 : Decoder Nat) code pc) _ = _
  rw [h1]
  rfl
theorem dk_iaload (h1 : dk_R code pc 46) : decode code pc = .ok (.iaload, 1) := by
  refine dk_end ?_
  unfold Decoder.instr
  show Except.bind ((Reader.u1 : Decoder Nat) code pc) _ = _
  rw [h1]
  rfl
theorem dk_laload (h1 : dk_R code pc 47) : decode code pc = .ok (.laload, 1) := by
  refine dk_end ?_
  unfold Decoder.instr
  show Except.bind ((Reader.u1 : Decoder Nat) code pc) _ = _
  rw [h1]
  rfl
theorem dk_aaload (h1 : dk_R code pc 50) : decode code pc = .ok (.aaload, 1) := by
  refine dk_end ?_
  unfold Decoder.instr
  show Except.bind ((Reader.u1 : Decoder Nat) code pc) _ = _
  rw [h1]
  rfl
theorem dk_iastore (h1 : dk_R code pc 79) : decode code pc = .ok (.iastore, 1) := by
  refine dk_end ?_
  unfold Decoder.instr
  show Except.bind ((Reader.u1 : Decoder Nat) code pc) _ = _
  rw [h1]
  rfl
theorem dk_lastore (h1 : dk_R code pc 80) : decode code pc = .ok (.lastore, 1) := by
  refine dk_end ?_
  unfold Decoder.instr
  show Except.bind ((Reader.u1 : Decoder Nat) code pc) _ = _
  rw [h1]
  rfl
theorem dk_aastore (h1 : dk_R code pc 83) : decode code pc = .ok (.aastore, 1) := by
  refine dk_end ?_
  unfold Decoder.instr
  show Except.bind ((Reader.u1 : Decoder Nat) code pc) _ = _
  rw [h1]
  rfl
theorem dk_pop (h1 : dk_R code pc 87) : decode code pc = .ok (.pop, 1) := by
  refine dk_end ?_
  unfold Decoder.instr
  show Except.bind ((Reader.u1 : Decoder Nat) code pc) _ = _
  rw [h1]
  rfl
theorem dk_dup (h1 : dk_R code pc 89) : decode code pc = .ok (.dup, 1) := by
  refine dk_end ?_
  unfold Decoder.instr
  show Except.bind ((Reader.u1 : Decoder Nat) code pc) _ = _
  rw [h1]
  rfl
theorem dk_dup2 (h1 : dk_R code pc 92) : decode code pc = .ok (.dup2, 1) := by
  refine dk_end ?_
  unfold Decoder.instr
  show Except.bind ((Reader.u1 : Decoder Nat) code pc) _ = _
  rw [h1]
  rfl
theorem dk_iadd (h1 : dk_R code pc 96) : decode code pc = .ok (.iadd, 1) := by
  refine dk_end ?_
  unfold Decoder.instr
  show Except.bind ((Reader.u1 : Decoder Nat) code pc) _ = _
  rw [h1]
  rfl
theorem dk_isub (h1 : dk_R code pc 100) : decode code pc = .ok (.isub, 1) := by
  refine dk_end ?_
  unfold Decoder.instr
  show Except.bind ((Reader.u1 : Decoder Nat) code pc) _ = _
  rw [h1]
  rfl
theorem dk_imul (h1 : dk_R code pc 104) : decode code pc = .ok (.imul, 1) := by
  refine dk_end ?_
  unfold Decoder.instr
  show Except.bind ((Reader.u1 : Decoder Nat) code pc) _ = _
  rw [h1]
  rfl
theorem dk_idiv (h1 : dk_R code pc 108) : decode code pc = .ok (.idiv, 1) := by
  refine dk_end ?_
  unfold Decoder.instr
  show Except.bind ((Reader.u1 : Decoder Nat) code pc) _ = _
  rw [h1]
  rfl
theorem dk_irem (h1 : dk_R code pc 112) : decode code pc = .ok (.irem, 1) := by
  refine dk_end ?_
  unfold Decoder.instr
  show Except.bind ((Reader.u1 : Decoder Nat) code pc) _ = _
  rw [h1]
  rfl
theorem dk_ishl (h1 : dk_R code pc 120) : decode code pc = .ok (.ishl, 1) := by
  refine dk_end ?_
  unfold Decoder.instr
  show Except.bind ((Reader.u1 : Decoder Nat) code pc) _ = _
  rw [h1]
  rfl
theorem dk_lshl (h1 : dk_R code pc 121) : decode code pc = .ok (.lshl, 1) := by
  refine dk_end ?_
  unfold Decoder.instr
  show Except.bind ((Reader.u1 : Decoder Nat) code pc) _ = _
  rw [h1]
  rfl
theorem dk_ishr (h1 : dk_R code pc 122) : decode code pc = .ok (.ishr, 1) := by
  refine dk_end ?_
  unfold Decoder.instr
  show Except.bind ((Reader.u1 : Decoder Nat) code pc) _ = _
  rw [h1]
  rfl
theorem dk_lshr (h1 : dk_R code pc 123) : decode code pc = .ok (.lshr, 1) := by
  refine dk_end ?_
  unfold Decoder.instr
  show Except.bind ((Reader.u1 : Decoder Nat) code pc) _ = _
  rw [h1]
  rfl
theorem dk_lushr (h1 : dk_R code pc 125) : decode code pc = .ok (.lushr, 1) := by
  refine dk_end ?_
  unfold Decoder.instr
  show Except.bind ((Reader.u1 : Decoder Nat) code pc) _ = _
  rw [h1]
  rfl
theorem dk_iand (h1 : dk_R code pc 126) : decode code pc = .ok (.iand, 1) := by
  refine dk_end ?_
  unfold Decoder.instr
  show Except.bind ((Reader.u1 : Decoder Nat) code pc) _ = _
  rw [h1]
  rfl
theorem dk_land (h1 : dk_R code pc 127) : decode code pc = .ok (.land, 1) := by
  refine dk_end ?_
  unfold Decoder.instr
  show Except.bind ((Reader.u1 : Decoder Nat) code pc) _ = _
  rw [h1]
  rfl
theorem dk_ior (h1 : dk_R code pc 128) : decode code pc = .ok (.ior, 1) := by
  refine dk_end ?_
  unfold Decoder.instr
  show Except.bind ((Reader.u1 : Decoder Nat) code pc) _ = _
  rw [h1]
  rfl
theorem dk_lor (h1 : dk_R code pc 129) : decode code pc = .ok (.lor, 1) := by
  refine dk_end ?_
  unfold Decoder.instr
  show Except.bind ((Reader.u1 : Decoder Nat) code pc) _ = _
  rw [h1]
  rfl
theorem dk_i2l (h1 : dk_R code pc 133) : decode code pc = .ok (.i2l, 1) := by
  refine dk_end ?_
  unfold Decoder.instr
  show Except.bind ((Reader.u1 : Decoder Nat) code pc) _ = _
  rw [h1]
  rfl
theorem dk_l2i (h1 : dk_R code pc 136) : decode code pc = .ok (.l2i, 1) := by
  refine dk_end ?_
  unfold Decoder.instr
  show Except.bind ((Reader.u1 : Decoder Nat) code pc) _ = _
  rw [h1]
  rfl
theorem dk_lcmp (h1 : dk_R code pc 148) : decode code pc = .ok (.lcmp, 1) := by
  refine dk_end ?_
  unfold Decoder.instr
  show Except.bind ((Reader.u1 : Decoder Nat) code pc) _ = _
  rw [h1]
  rfl
theorem dk_ireturn (h1 : dk_R code pc 172) : decode code pc = .ok (.ireturn, 1) := by
  refine dk_end ?_
  unfold Decoder.instr
  show Except.bind ((Reader.u1 : Decoder Nat) code pc) _ = _
  rw [h1]
  rfl
theorem dk_areturn (h1 : dk_R code pc 176) : decode code pc = .ok (.areturn, 1) := by
  refine dk_end ?_
  unfold Decoder.instr
  show Except.bind ((Reader.u1 : Decoder Nat) code pc) _ = _
  rw [h1]
  rfl
theorem dk_return_ (h1 : dk_R code pc 177) : decode code pc = .ok (.return_, 1) := by
  refine dk_end ?_
  unfold Decoder.instr
  show Except.bind ((Reader.u1 : Decoder Nat) code pc) _ = _
  rw [h1]
  rfl
theorem dk_arraylength (h1 : dk_R code pc 190) : decode code pc = .ok (.arraylength, 1) := by
  refine dk_end ?_
  unfold Decoder.instr
  show Except.bind ((Reader.u1 : Decoder Nat) code pc) _ = _
  rw [h1]
  rfl
theorem dk_athrow (h1 : dk_R code pc 191) : decode code pc = .ok (.athrow, 1) := by
  refine dk_end ?_
  unfold Decoder.instr
  show Except.bind ((Reader.u1 : Decoder Nat) code pc) _ = _
  rw [h1]
  rfl
theorem dk_ldc (h1 : dk_R code pc 18) (h2 : dk_R code (pc + 1) x) : decode code pc = .ok (.ldc x, 2) := by
  refine dk_end ?_
  unfold Decoder.instr
  show Except.bind ((Reader.u1 : Decoder Nat) code pc) _ = _
  rw [h1]
  show Except.bind ((Reader.u1 : Decoder Nat) code (pc + 1)) _ = _
  rw [h2]
  rfl
theorem dk_iload (h1 : dk_R code pc 21) (h2 : dk_R code (pc + 1) x) : decode code pc = .ok (.iload x, 2) := by
  refine dk_end ?_
  unfold Decoder.instr
  show Except.bind ((Reader.u1 : Decoder Nat) code pc) _ = _
  rw [h1]
  show Except.bind ((Reader.u1 : Decoder Nat) code (pc + 1)) _ = _
  rw [h2]
  rfl
theorem dk_lload (h1 : dk_R code pc 22) (h2 : dk_R code (pc + 1) x) : decode code pc = .ok (.lload x, 2) := by
  refine dk_end ?_
  unfold Decoder.instr
  show Except.bind ((Reader.u1 : Decoder Nat) code pc) _ = _
  rw [h1]
  show Except.bind ((Reader.u1 : Decoder Nat) code (pc + 1)) _ = _
  rw [h2]
  rfl
theorem dk_aload (h1 : dk_R code pc 25) (h2 : dk_R code (pc + 1) x) : decode code pc = .ok (.aload x, 2) := by
  refine dk_end ?_
  unfold Decoder.instr
  show Except.bind ((Reader.u1 : Decoder Nat) code pc) _ = _
  rw [h1]
  show Except.bind ((Reader.u1 : Decoder Nat) code (pc + 1)) _ = _
  rw [h2]
  rfl
theorem dk_istore (h1 : dk_R code pc 54) (h2 : dk_R code (pc + 1) x) : decode code pc = .ok (.istore x, 2) := by
  refine dk_end ?_
  unfold Decoder.instr
  show Except.bind ((Reader.u1 : Decoder Nat) code pc) _ = _
  rw [h1]
  show Except.bind ((Reader.u1 : Decoder Nat) code (pc + 1)) _ = _
  rw [h2]
  rfl
theorem dk_astore (h1 : dk_R code pc 58) (h2 : dk_R code (pc + 1) x) : decode code pc = .ok (.astore x, 2) := by
  refine dk_end ?_
  unfold Decoder.instr
  show Except.bind ((Reader.u1 : Decoder Nat) code pc) _ = _
  rw [h1]
  show Except.bind ((Reader.u1 : Decoder Nat) code (pc + 1)) _ = _
  rw [h2]
  rfl
theorem dk_ldc_w (h1 : dk_R code pc 19) (h2 : dk_R code (pc + 1) x) (h3 : dk_R code (pc + 1 + 1) y) : decode code pc = .ok (.ldc_w (x * 256 + y), 3) := by
  refine dk_end ?_
  unfold Decoder.instr
  show Except.bind ((Reader.u1 : Decoder Nat) code pc) _ = _
  rw [h1]
  show Except.bind ((Reader.u2 : Decoder Nat) code (pc + 1)) _ = _
  rw [dk_u2 h2 h3]
  rfl
theorem dk_ldc2_w (h1 : dk_R code pc 20) (h2 : dk_R code (pc + 1) x) (h3 : dk_R code (pc + 1 + 1) y) : decode code pc = .ok (.ldc2_w (x * 256 + y), 3) := by
  refine dk_end ?_
  unfold Decoder.instr
  show Except.bind ((Reader.u1 : Decoder Nat) code pc) _ = _
  rw [h1]
  show Except.bind ((Reader.u2 : Decoder Nat) code (pc + 1)) _ = _
  rw [dk_u2 h2 h3]
  rfl
theorem dk_getstatic (h1 : dk_R code pc 178) (h2 : dk_R code (pc + 1) x) (h3 : dk_R code (pc + 1 + 1) y) : decode code pc = .ok (.getstatic (x * 256 + y), 3) := by
  refine dk_end ?_
  unfold Decoder.instr
  show Except.bind ((Reader.u1 : Decoder Nat) code pc) _ = _
  rw [h1]
  show Except.bind ((Reader.u2 : Decoder Nat) code (pc + 1)) _ = _
  rw [dk_u2 h2 h3]
  rfl
theorem dk_getfield (h1 : dk_R code pc 180) (h2 : dk_R code (pc + 1) x) (h3 : dk_R code (pc + 1 + 1) y) : decode code pc = .ok (.getfield (x * 256 + y), 3) := by
  refine dk_end ?_
  unfold Decoder.instr
  show Except.bind ((Reader.u1 : Decoder Nat) code pc) _ = _
  rw [h1]
  show Except.bind ((Reader.u2 : Decoder Nat) code (pc + 1)) _ = _
  rw [dk_u2 h2 h3]
  rfl
theorem dk_putfield (h1 : dk_R code pc 181) (h2 : dk_R code (pc + 1) x) (h3 : dk_R code (pc + 1 + 1) y) : decode code pc = .ok (.putfield (x * 256 + y), 3) := by
  refine dk_end ?_
  unfold Decoder.instr
  show Except.bind ((Reader.u1 : Decoder Nat) code pc) _ = _
  rw [h1]
  show Except.bind ((Reader.u2 : Decoder Nat) code (pc + 1)) _ = _
  rw [dk_u2 h2 h3]
  rfl
theorem dk_invokevirtual (h1 : dk_R code pc 182) (h2 : dk_R code (pc + 1) x) (h3 : dk_R code (pc + 1 + 1) y) : decode code pc = .ok (.invokevirtual (x * 256 + y), 3) := by
  refine dk_end ?_
  unfold Decoder.instr
  show Except.bind ((Reader.u1 : Decoder Nat) code pc) _ = _
  rw [h1]
  show Except.bind ((Reader.u2 : Decoder Nat) code (pc + 1)) _ = _
  rw [dk_u2 h2 h3]
  rfl
theorem dk_invokespecial (h1 : dk_R code pc 183) (h2 : dk_R code (pc + 1) x) (h3 : dk_R code (pc + 1 + 1) y) : decode code pc = .ok (.invokespecial (x * 256 + y), 3) := by
  refine dk_end ?_
  unfold Decoder.instr
  show Except.bind ((Reader.u1 : Decoder Nat) code pc) _ = _
  rw [h1]
  show Except.bind ((Reader.u2 : Decoder Nat) code (pc + 1)) _ = _
  rw [dk_u2 h2 h3]
  rfl
theorem dk_invokestatic (h1 : dk_R code pc 184) (h2 : dk_R code (pc + 1) x) (h3 : dk_R code (pc + 1 + 1) y) : decode code pc = .ok (.invokestatic (x * 256 + y), 3) := by
  refine dk_end ?_
  unfold Decoder.instr
  show Except.bind ((Reader.u1 : Decoder Nat) code pc) _ = _
  rw [h1]
  show Except.bind ((Reader.u2 : Decoder Nat) code (pc + 1)) _ = _
  rw [dk_u2 h2 h3]
  rfl
theorem dk_new (h1 : dk_R code pc 187) (h2 : dk_R code (pc + 1) x) (h3 : dk_R code (pc + 1 + 1) y) : decode code pc = .ok (.new (x * 256 + y), 3) := by
  refine dk_end ?_
  unfold Decoder.instr
  show Except.bind ((Reader.u1 : Decoder Nat) code pc) _ = _
  rw [h1]
  show Except.bind ((Reader.u2 : Decoder Nat) code (pc + 1)) _ = _
  rw [dk_u2 h2 h3]
  rfl
theorem dk_anewarray (h1 : dk_R code pc 189) (h2 : dk_R code (pc + 1) x) (h3 : dk_R code (pc + 1 + 1) y) : decode code pc = .ok (.anewarray (x * 256 + y), 3) := by
  refine dk_end ?_
  unfold Decoder.instr
  show Except.bind ((Reader.u1 : Decoder Nat) code pc) _ = _
  rw [h1]
  show Except.bind ((Reader.u2 : Decoder Nat) code (pc + 1)) _ = _
  rw [dk_u2 h2 h3]
  rfl
theorem dk_bipush (h1 : dk_R code pc 16) (h2 : dk_R code (pc + 1) x) : decode code pc = .ok (.bipush (Reader.signed 8 x), 2) := by
  refine dk_end ?_
  unfold Decoder.instr
  show Except.bind ((Reader.u1 : Decoder Nat) code pc) _ = _
  rw [h1]
  show Except.bind ((Reader.s1 : Decoder Int) code (pc + 1)) _ = _
  rw [dk_s1 h2]
  rfl
theorem dk_sipush (h1 : dk_R code pc 17) (h2 : dk_R code (pc + 1) x) (h3 : dk_R code (pc + 1 + 1) y) : decode code pc = .ok (.sipush (Reader.signed 16 (x * 256 + y)), 3) := by
  refine dk_end ?_
  unfold Decoder.instr
  show Except.bind ((Reader.u1 : Decoder Nat) code pc) _ = _
  rw [h1]
  show Except.bind ((Reader.s2 : Decoder Int) code (pc + 1)) _ = _
  rw [dk_s2 h2 h3]
  rfl
theorem dk_goto (h1 : dk_R code pc 167) (h2 : dk_R code (pc + 1) x) (h3 : dk_R code (pc + 1 + 1) y) : decode code pc = .ok (.goto (Reader.signed 16 (x * 256 + y)), 3) := by
  refine dk_end ?_
  unfold Decoder.instr
  show Except.bind ((Reader.u1 : Decoder Nat) code pc) _ = _
  rw [h1]
  show Except.bind ((Reader.s2 : Decoder Int) code (pc + 1)) _ = _
  rw [dk_s2 h2 h3]
  rfl
theorem dk_if_eq (h1 : dk_R code pc 153) (h2 : dk_R code (pc + 1) x) (h3 : dk_R code (pc + 1 + 1) y) : decode code pc = .ok (.ifCond .eq (Reader.signed 16 (x * 256 + y)), 3) := by
  refine dk_end ?_
  unfold Decoder.instr
  show Except.bind ((Reader.u1 : Decoder Nat) code pc) _ = _
  rw [h1]
  show Except.bind ((Reader.s2 : Decoder Int) code (pc + 1)) _ = _
  rw [dk_s2 h2 h3]
  rfl
theorem dk_if_ne (h1 : dk_R code pc 154) (h2 : dk_R code (pc + 1) x) (h3 : dk_R code (pc + 1 + 1) y) : decode code pc = .ok (.ifCond .ne (Reader.signed 16 (x * 256 + y)), 3) := by
  refine dk_end ?_
  unfold Decoder.instr
  show Except.bind ((Reader.u1 : Decoder Nat) code pc) _ = _
  rw [h1]
  show Except.bind ((Reader.s2 : Decoder Int) code (pc + 1)) _ = _
  rw [dk_s2 h2 h3]
  rfl
theorem dk_if_lt (h1 : dk_R code pc 155) (h2 : dk_R code (pc + 1) x) (h3 : dk_R code (pc + 1 + 1) y) : decode code pc = .ok (.ifCond .lt (Reader.signed 16 (x * 256 + y)), 3) := by
  refine dk_end ?_
  unfold Decoder.instr
  show Except.bind ((Reader.u1 : Decoder Nat) code pc) _ = _
  rw [h1]
  show Except.bind ((Reader.s2 : Decoder Int) code (pc + 1)) _ = _
  rw [dk_s2 h2 h3]
  rfl
theorem dk_if_ge (h1 : dk_R code pc 156) (h2 : dk_R code (pc + 1) x) (h3 : dk_R code (pc + 1 + 1) y) : decode code pc = .ok (.ifCond .ge (Reader.signed 16 (x * 256 + y)), 3) := by
  refine dk_end ?_
  unfold Decoder.instr
  show Except.bind ((Reader.u1 : Decoder Nat) code pc) _ = _
  rw [h1]
  show Except.bind ((Reader.s2 : Decoder Int) code (pc + 1)) _ = _
  rw [dk_s2 h2 h3]
  rfl
theorem dk_if_gt (h1 : dk_R code pc 157) (h2 : dk_R code (pc + 1) x) (h3 : dk_R code (pc + 1 + 1) y) : decode code pc = .ok (.ifCond .gt (Reader.signed 16 (x * 256 + y)), 3) := by
  refine dk_end ?_
  unfold Decoder.instr
  show Except.bind ((Reader.u1 : Decoder Nat) code pc) _ = _
  rw [h1]
  show Except.bind ((Reader.s2 : Decoder Int) code (pc + 1)) _ = _
  rw [dk_s2 h2 h3]
  rfl
theorem dk_if_le (h1 : dk_R code pc 158) (h2 : dk_R code (pc + 1) x) (h3 : dk_R code (pc + 1 + 1) y) : decode code pc = .ok (.ifCond .le (Reader.signed 16 (x * 256 + y)), 3) := by
  refine dk_end ?_
  unfold Decoder.instr
  show Except.bind ((Reader.u1 : Decoder Nat) code pc) _ = _
  rw [h1]
  show Except.bind ((Reader.s2 : Decoder Int) code (pc + 1)) _ = _
  rw [dk_s2 h2 h3]
  rfl
theorem dk_icmp_eq (h1 : dk_R code pc 159) (h2 : dk_R code (pc + 1) x) (h3 : dk_R code (pc + 1 + 1) y) : decode code pc = .ok (.if_icmp .eq (Reader.signed 16 (x * 256 + y)), 3) := by
  refine dk_end ?_
  unfold Decoder.instr
  show Except.bind ((Reader.u1 : Decoder Nat) code pc) _ = _
  rw [h1]
  show Except.bind ((Reader.s2 : Decoder Int) code (pc + 1)) _ = _
  rw [dk_s2 h2 h3]
  rfl
theorem dk_icmp_ne (h1 : dk_R code pc 160) (h2 : dk_R code (pc + 1) x) (h3 : dk_R code (pc + 1 + 1) y) : decode code pc = .ok (.if_icmp .ne (Reader.signed 16 (x * 256 + y)), 3) := by
  refine dk_end ?_
  unfold Decoder.instr
  show Except.bind ((Reader.u1 : Decoder Nat) code pc) _ = _
  rw [h1]
  show Except.bind ((Reader.s2 : Decoder Int) code (pc + 1)) _ = _
  rw [dk_s2 h2 h3]
  rfl
theorem dk_icmp_lt (h1 : dk_R code pc 161) (h2 : dk_R code (pc + 1) x) (h3 : dk_R code (pc + 1 + 1) y) : decode code pc = .ok (.if_icmp .lt (Reader.signed 16 (x * 256 + y)), 3) := by
  refine dk_end ?_
  unfold Decoder.instr
  show Except.bind ((Reader.u1 : Decoder Nat) code pc) _ = _
  rw [h1]
  show Except.bind ((Reader.s2 : Decoder Int) code (pc + 1)) _ = _
  rw [dk_s2 h2 h3]
  rfl
theorem dk_icmp_ge (h1 : dk_R code pc 162) (h2 : dk_R code (pc + 1) x) (h3 : dk_R code (pc + 1 + 1) y) : decode code pc = .ok (.if_icmp .ge (Reader.signed 16 (x * 256 + y)), 3) := by
  refine dk_end ?_
  unfold Decoder.instr
  show Except.bind ((Reader.u1 : Decoder Nat) code pc) _ = _
  rw [h1]
  show Except.bind ((Reader.s2 : Decoder Int) code (pc + 1)) _ = _
  rw [dk_s2 h2 h3]
  rfl
theorem dk_icmp_gt (h1 : dk_R code pc 163) (h2 : dk_R code (pc + 1) x) (h3 : dk_R code (pc + 1 + 1) y) : decode code pc = .ok (.if_icmp .gt (Reader.signed 16 (x * 256 + y)), 3) := by
  refine dk_end ?_
  unfold Decoder.instr
  show Except.bind ((Reader.u1 : Decoder Nat) code pc) _ = _
  rw [h1]
  show Except.bind ((Reader.s2 : Decoder Int) code (pc + 1)) _ = _
  rw [dk_s2 h2 h3]
  rfl
theorem dk_icmp_le (h1 : dk_R code pc 164) (h2 : dk_R code (pc + 1) x) (h3 : dk_R code (pc + 1 + 1) y) : decode code pc = .ok (.if_icmp .le (Reader.signed 16 (x * 256 + y)), 3) := by
  refine dk_end ?_
  unfold Decoder.instr
  show Except.bind ((Reader.u1 : Decoder Nat) code pc) _ = _
  rw [h1]
  show Except.bind ((Reader.s2 : Decoder Int) code (pc + 1)) _ = _
  rw [dk_s2 h2 h3]
  rfl
theorem dk_iinc (h1 : dk_R code pc 132) (h2 : dk_R code (pc + 1) x) (h3 : dk_R code (pc + 1 + 1) y) : decode code pc = .ok (.iinc x (Reader.signed 8 y), 3) := by
  refine dk_end ?_
  unfold Decoder.instr
  show Except.bind ((Reader.u1 : Decoder Nat) code pc) _ = _
  rw [h1]
  show Except.bind ((Reader.u1 : Decoder Nat) code (pc + 1)) _ = _
  rw [h2]
  show Except.bind ((Reader.s1 : Decoder Int) code (pc + 1 + 1)) _ = _
  rw [dk_s1 h3]
  rfl
theorem dk_newarray_int (h1 : dk_R code pc 188) (h2 : dk_R code (pc + 1) 10) : decode code pc = .ok (.newarray .int, 2) := by
  refine dk_end ?_
  unfold Decoder.instr
  show Except.bind ((Reader.u1 : Decoder Nat) code pc) _ = _
  rw [h1]
  show Decoder.newarray pc code (pc + 1) = _
  unfold Decoder.newarray
  show Except.bind ((Reader.u1 : Decoder Nat) code (pc + 1)) _ = _
  rw [h2]
  rfl
theorem dk_newarray_long (h1 : dk_R code pc 188) (h2 : dk_R code (pc + 1) 11) : decode code pc = .ok (.newarray .long, 2) := by
  refine dk_end ?_
  unfold Decoder.instr
  show Except.bind ((Reader.u1 : Decoder Nat) code pc) _ = _
  rw [h1]
  show Decoder.newarray pc code (pc + 1) = _
  unfold Decoder.newarray
  show Except.bind ((Reader.u1 : Decoder Nat) code (pc + 1)) _ = _
  rw [h2]
  rfl
end
/-! the checker -/
def ck_0 (k : Nat) : List Nat → Nat
  | a :: _ => if Nat.beq a k then 1 else 0
  | _ => 0
def ck_1 (k x : Nat) : List Nat → Nat
  | a :: b :: _ => if Nat.beq a k && Nat.beq b x then 2 else 0
  | _ => 0
def ck_2 (k x : Nat) : List Nat → Nat
  | a :: b :: c :: _ => if Nat.beq a k && Nat.beq (b * 256 + c) x then 3 else 0
  | _ => 0
def ck_s1 (k : Nat) (n : Int) : List Nat → Nat
  | a :: b :: _ => if Nat.beq a k && decide (Reader.signed 8 b = n) then 2 else 0
  | _ => 0
def ck_s2 (k : Nat) (n : Int) : List Nat → Nat
  | a :: b :: c :: _ => if Nat.beq a k && decide (Reader.signed 16 (b * 256 + c) = n) then 3 else 0
  | _ => 0
def ck_in (x : Nat) (n : Int) : List Nat → Nat
  | a :: b :: c :: _ => if Nat.beq a 132 && Nat.beq b x && decide (Reader.signed 8 c = n) then 3 else 0
  | _ => 0
theorem ck_0_ok {k n : Nat} {l : List Nat} (h : ck_0 k l = n + 1) : ∃ r, l = k :: r ∧ n = 0 := by
  cases l with
  | nil => cases h
  | cons a r =>
    simp only [ck_0] at h
    split at h
    · rename_i hc
      cases Nat.eq_of_beq_eq_true hc
      exact ⟨r, rfl, by omega⟩
    · cases h
theorem ck_1_ok {k x n : Nat} {l : List Nat} (h : ck_1 k x l = n + 1) : ∃ r, l = k :: x :: r ∧ n = 1 := by
  match l, h with
  | [], h => cases h
  | [_], h => cases h
  | a :: b :: r, h =>
    simp only [ck_1] at h
    split at h
    · rename_i hc
      rw [Bool.and_eq_true] at hc
      cases Nat.eq_of_beq_eq_true hc.1
      cases Nat.eq_of_beq_eq_true hc.2
      exact ⟨r, rfl, by omega⟩
    · cases h
theorem ck_2_ok {k x n : Nat} {l : List Nat} (h : ck_2 k x l = n + 1) : ∃ b c r, l = k :: b :: c :: r ∧ b * 256 + c = x ∧ n = 2 := by
  match l, h with
  | [], h => cases h
  | [_], h => cases h
  | [_, _], h => cases h
  | a :: b :: c :: r, h =>
    simp only [ck_2] at h
    split at h
    · rename_i hc
      rw [Bool.and_eq_true] at hc
      cases Nat.eq_of_beq_eq_true hc.1
      exact ⟨b, c, r, rfl, Nat.eq_of_beq_eq_true hc.2, by omega⟩
    · cases h
theorem ck_s1_ok {k n : Nat} {z : Int} {l : List Nat} (h : ck_s1 k z l = n + 1) : ∃ b r, l = k :: b :: r ∧ Reader.signed 8 b = z ∧ n = 1 := by
  match l, h with
  | [], h => cases h
  | [_], h => cases h
  | a :: b :: r, h =>
    simp only [ck_s1] at h
    split at h
    · rename_i hc
      rw [Bool.and_eq_true] at hc
      cases Nat.eq_of_beq_eq_true hc.1
      exact ⟨b, r, rfl, of_decide_eq_true hc.2, by omega⟩
    · cases h
theorem ck_s2_ok {k n : Nat} {z : Int} {l : List Nat} (h : ck_s2 k z l = n + 1) : ∃ b c r, l = k :: b :: c :: r ∧ Reader.signed 16 (b * 256 + c) = z ∧ n = 2 := by
  match l, h with
  | [], h => cases h
  | [_], h => cases h
  | [_, _], h => cases h
  | a :: b :: c :: r, h =>
    simp only [ck_s2] at h
    split at h
    · rename_i hc
      rw [Bool.and_eq_true] at hc
      cases Nat.eq_of_beq_eq_true hc.1
      exact ⟨b, c, r, rfl, of_decide_eq_true hc.2, by omega⟩
    · cases h
theorem ck_in_ok {x n : Nat} {z : Int} {l : List Nat} (h : ck_in x z l = n + 1) : ∃ c r, l = 132 :: x :: c :: r ∧ Reader.signed 8 c = z ∧ n = 2 := by
  match l, h with
  | [], h => cases h
  | [_], h => cases h
  | [_, _], h => cases h
  | a :: b :: c :: r, h =>
    simp only [ck_in] at h
    split at h
    · rename_i hc
      rw [Bool.and_eq_true, Bool.and_eq_true] at hc
      cases Nat.eq_of_beq_eq_true hc.1.1
      cases Nat.eq_of_beq_eq_true hc.1.2
      exact ⟨c, r, rfl, of_decide_eq_true hc.2, by omega⟩
    · cases h
def dk_bl (code : ByteArray) : List Nat := code.data.toList.map UInt8.toNat
theorem dk_at {code : ByteArray} {p b : Nat} {r : List Nat} (h : (dk_bl code).drop p = b :: r) : dk_R code p b ∧ (dk_bl code).drop (p + 1) = r := by
  have hp : p < (dk_bl code).length := by
    rcases Nat.lt_or_ge p (dk_bl code).length with h1 | h1
    · exact h1
    · rw [List.drop_eq_nil_of_le h1] at h; cases h
  have h0 := List.drop_eq_getElem_cons hp
  rw [h] at h0
  injection h0 with e1 e2
  have hs : p < code.size := by
    have : (dk_bl code).length = code.size := by
      unfold dk_bl
      rw [List.length_map, Array.length_toList]
      rfl
    omega
  refine ⟨dk_u1 hs ?_, e2.symm⟩
  rw [e1]
  simp [dk_bl]
  rfl
def ck_b (i : Instr) (l : List Nat) : Nat := match i with
  | .iconst n => match l with
    | a :: _ => if (Nat.ble 2 a && Nat.ble a 8) && decide ((a : Int) - 3 = n) then 1 else 0
    | _ => 0
  | .iload_n k => ck_0 (26 + k.val) l
  | .lload_n k => ck_0 (30 + k.val) l
  | .aload_n k => ck_0 (42 + k.val) l
  | .istore_n k => ck_0 (59 + k.val) l
  | .astore_n k => ck_0 (75 + k.val) l
  | .iaload => ck_0 46 l
  | .laload => ck_0 47 l
  | .aaload => ck_0 50 l
  | .iastore => ck_0 79 l
  | .lastore => ck_0 80 l
  | .aastore => ck_0 83 l
  | .pop => ck_0 87 l
  | .dup => ck_0 89 l
  | .dup2 => ck_0 92 l
  | .iadd => ck_0 96 l
  | .isub => ck_0 100 l
  | .imul => ck_0 104 l
  | .idiv => ck_0 108 l
  | .irem => ck_0 112 l
  | .ishl => ck_0 120 l
  | .lshl => ck_0 121 l
  | .ishr => ck_0 122 l
  | .lshr => ck_0 123 l
  | .lushr => ck_0 125 l
  | .iand => ck_0 126 l
  | .land => ck_0 127 l
  | .ior => ck_0 128 l
  | .lor => ck_0 129 l
  | .i2l => ck_0 133 l
  | .l2i => ck_0 136 l
  | .lcmp => ck_0 148 l
  | .ireturn => ck_0 172 l
  | .areturn => ck_0 176 l
  | .return_ => ck_0 177 l
  | .arraylength => ck_0 190 l
  | .athrow => ck_0 191 l
  | .ldc x => ck_1 18 x l
  | .iload x => ck_1 21 x l
  | .lload x => ck_1 22 x l
  | .aload x => ck_1 25 x l
  | .istore x => ck_1 54 x l
  | .astore x => ck_1 58 x l
  | .ldc_w x => ck_2 19 x l
  | .ldc2_w x => ck_2 20 x l
  | .getstatic x => ck_2 178 x l
  | .getfield x => ck_2 180 x l
  | .putfield x => ck_2 181 x l
  | .invokevirtual x => ck_2 182 x l
  | .invokespecial x => ck_2 183 x l
  | .invokestatic x => ck_2 184 x l
  | .new x => ck_2 187 x l
  | .anewarray x => ck_2 189 x l
  | .bipush n => ck_s1 16 n l
  | .sipush n => ck_s2 17 n l
  | .goto n => ck_s2 167 n l
  | .ifCond .eq n => ck_s2 153 n l
  | .ifCond .ne n => ck_s2 154 n l
  | .ifCond .lt n => ck_s2 155 n l
  | .ifCond .ge n => ck_s2 156 n l
  | .ifCond .gt n => ck_s2 157 n l
  | .ifCond .le n => ck_s2 158 n l
  | .if_icmp .eq n => ck_s2 159 n l
  | .if_icmp .ne n => ck_s2 160 n l
  | .if_icmp .lt n => ck_s2 161 n l
  | .if_icmp .ge n => ck_s2 162 n l
  | .if_icmp .gt n => ck_s2 163 n l
  | .if_icmp .le n => ck_s2 164 n l
  | .iinc x n => ck_in x n l
  | .newarray .int => ck_1 188 10 l
  | .newarray .long => ck_1 188 11 l
  | _ => 0
theorem ck_ok {code : ByteArray} {pc n : Nat} {i : Instr} (h : ck_b i ((dk_bl code).drop pc) = n + 1) : decode code pc = .ok (i, n + 1) := by
  generalize hl : (dk_bl code).drop pc = l at h
  have no : ∀ {k : Nat}, 0 = k + 1 → decode code pc = .ok (i, n + 1) := fun h => absurd h (by omega)
  cases i with
  | iconst z =>
    cases l with
    | nil => exact absurd (show 0 = n + 1 from h) (by omega)
    | cons a r =>
      replace h : (if (Nat.ble 2 a && Nat.ble a 8) && decide ((a : Int) - 3 = z) then 1 else 0) = n + 1 := h
      split at h
      · rename_i hc
        rw [Bool.and_eq_true, Bool.and_eq_true] at hc
        have h1 := Nat.le_of_ble_eq_true hc.1.1
        have h2 := Nat.le_of_ble_eq_true hc.1.2
        have h3 := of_decide_eq_true hc.2
        cases show n = 0 by omega
        have hr := (dk_at hl).1
        rcases (show a = 2 ∨ a = 3 ∨ a = 4 ∨ a = 5 ∨ a = 6 ∨ a = 7 ∨ a = 8 by omega) with rfl | rfl | rfl | rfl | rfl | rfl | rfl
        · cases (show z = -1 by omega); exact dk_iconst_m1 hr
        · cases (show z = 0 by omega); exact dk_iconst_0 hr
        · cases (show z = 1 by omega); exact dk_iconst_1 hr
        · cases (show z = 2 by omega); exact dk_iconst_2 hr
        · cases (show z = 3 by omega); exact dk_iconst_3 hr
        · cases (show z = 4 by omega); exact dk_iconst_4 hr
        · cases (show z = 5 by omega); exact dk_iconst_5 hr
      · cases h
  | iload_n k =>
    obtain ⟨r, rfl, rfl⟩ := ck_0_ok (show ck_0 (26 + k.val) l = n + 1 from h)
    have hr := (dk_at hl).1
    match k with
    | ⟨0, _⟩ => exact dk_iload_0 hr
    | ⟨1, _⟩ => exact dk_iload_1 hr
    | ⟨2, _⟩ => exact dk_iload_2 hr
    | ⟨3, _⟩ => exact dk_iload_3 hr
  | lload_n k =>
    obtain ⟨r, rfl, rfl⟩ := ck_0_ok (show ck_0 (30 + k.val) l = n + 1 from h)
    have hr := (dk_at hl).1
    match k with
    | ⟨0, _⟩ => exact dk_lload_0 hr
    | ⟨1, _⟩ => exact dk_lload_1 hr
    | ⟨2, _⟩ => exact dk_lload_2 hr
    | ⟨3, _⟩ => exact dk_lload_3 hr
  | aload_n k =>
    obtain ⟨r, rfl, rfl⟩ := ck_0_ok (show ck_0 (42 + k.val) l = n + 1 from h)
    have hr := (dk_at hl).1
    match k with
    | ⟨0, _⟩ => exact dk_aload_0 hr
    | ⟨1, _⟩ => exact dk_aload_1 hr
    | ⟨2, _⟩ => exact dk_aload_2 hr
    | ⟨3, _⟩ => exact dk_aload_3 hr
  | istore_n k =>
    obtain ⟨r, rfl, rfl⟩ := ck_0_ok (show ck_0 (59 + k.val) l = n + 1 from h)
    have hr := (dk_at hl).1
    match k with
    | ⟨0, _⟩ => exact dk_istore_0 hr
    | ⟨1, _⟩ => exact dk_istore_1 hr
    | ⟨2, _⟩ => exact dk_istore_2 hr
    | ⟨3, _⟩ => exact dk_istore_3 hr
  | astore_n k =>
    obtain ⟨r, rfl, rfl⟩ := ck_0_ok (show ck_0 (75 + k.val) l = n + 1 from h)
    have hr := (dk_at hl).1
    match k with
    | ⟨0, _⟩ => exact dk_astore_0 hr
    | ⟨1, _⟩ => exact dk_astore_1 hr
    | ⟨2, _⟩ => exact dk_astore_2 hr
    | ⟨3, _⟩ => exact dk_astore_3 hr
  | iaload =>
    obtain ⟨r, rfl, rfl⟩ := ck_0_ok (show ck_0 46 l = n + 1 from h)
    exact dk_iaload (dk_at hl).1
  | laload =>
    obtain ⟨r, rfl, rfl⟩ := ck_0_ok (show ck_0 47 l = n + 1 from h)
    exact dk_laload (dk_at hl).1
  | aaload =>
    obtain ⟨r, rfl, rfl⟩ := ck_0_ok (show ck_0 50 l = n + 1 from h)
    exact dk_aaload (dk_at hl).1
  | iastore =>
    obtain ⟨r, rfl, rfl⟩ := ck_0_ok (show ck_0 79 l = n + 1 from h)
    exact dk_iastore (dk_at hl).1
  | lastore =>
    obtain ⟨r, rfl, rfl⟩ := ck_0_ok (show ck_0 80 l = n + 1 from h)
    exact dk_lastore (dk_at hl).1
  | aastore =>
    obtain ⟨r, rfl, rfl⟩ := ck_0_ok (show ck_0 83 l = n + 1 from h)
    exact dk_aastore (dk_at hl).1
  | pop =>
    obtain ⟨r, rfl, rfl⟩ := ck_0_ok (show ck_0 87 l = n + 1 from h)
    exact dk_pop (dk_at hl).1
  | dup =>
    obtain ⟨r, rfl, rfl⟩ := ck_0_ok (show ck_0 89 l = n + 1 from h)
    exact dk_dup (dk_at hl).1
  | dup2 =>
    obtain ⟨r, rfl, rfl⟩ := ck_0_ok (show ck_0 92 l = n + 1 from h)
    exact dk_dup2 (dk_at hl).1
  | iadd =>
    obtain ⟨r, rfl, rfl⟩ := ck_0_ok (show ck_0 96 l = n + 1 from h)
    exact dk_iadd (dk_at hl).1
  | isub =>
    obtain ⟨r, rfl, rfl⟩ := ck_0_ok (show ck_0 100 l = n + 1 from h)
    exact dk_isub (dk_at hl).1
  | imul =>
    obtain ⟨r, rfl, rfl⟩ := ck_0_ok (show ck_0 104 l = n + 1 from h)
    exact dk_imul (dk_at hl).1
  | idiv =>
    obtain ⟨r, rfl, rfl⟩ := ck_0_ok (show ck_0 108 l = n + 1 from h)
    exact dk_idiv (dk_at hl).1
  | irem =>
    obtain ⟨r, rfl, rfl⟩ := ck_0_ok (show ck_0 112 l = n + 1 from h)
    exact dk_irem (dk_at hl).1
  | ishl =>
    obtain ⟨r, rfl, rfl⟩ := ck_0_ok (show ck_0 120 l = n + 1 from h)
    exact dk_ishl (dk_at hl).1
  | lshl =>
    obtain ⟨r, rfl, rfl⟩ := ck_0_ok (show ck_0 121 l = n + 1 from h)
    exact dk_lshl (dk_at hl).1
  | ishr =>
    obtain ⟨r, rfl, rfl⟩ := ck_0_ok (show ck_0 122 l = n + 1 from h)
    exact dk_ishr (dk_at hl).1
  | lshr =>
    obtain ⟨r, rfl, rfl⟩ := ck_0_ok (show ck_0 123 l = n + 1 from h)
    exact dk_lshr (dk_at hl).1
  | lushr =>
    obtain ⟨r, rfl, rfl⟩ := ck_0_ok (show ck_0 125 l = n + 1 from h)
    exact dk_lushr (dk_at hl).1
  | iand =>
    obtain ⟨r, rfl, rfl⟩ := ck_0_ok (show ck_0 126 l = n + 1 from h)
    exact dk_iand (dk_at hl).1
  | land =>
    obtain ⟨r, rfl, rfl⟩ := ck_0_ok (show ck_0 127 l = n + 1 from h)
    exact dk_land (dk_at hl).1
  | ior =>
    obtain ⟨r, rfl, rfl⟩ := ck_0_ok (show ck_0 128 l = n + 1 from h)
    exact dk_ior (dk_at hl).1
  | lor =>
    obtain ⟨r, rfl, rfl⟩ := ck_0_ok (show ck_0 129 l = n + 1 from h)
    exact dk_lor (dk_at hl).1
  | i2l =>
    obtain ⟨r, rfl, rfl⟩ := ck_0_ok (show ck_0 133 l = n + 1 from h)
    exact dk_i2l (dk_at hl).1
  | l2i =>
    obtain ⟨r, rfl, rfl⟩ := ck_0_ok (show ck_0 136 l = n + 1 from h)
    exact dk_l2i (dk_at hl).1
  | lcmp =>
    obtain ⟨r, rfl, rfl⟩ := ck_0_ok (show ck_0 148 l = n + 1 from h)
    exact dk_lcmp (dk_at hl).1
  | ireturn =>
    obtain ⟨r, rfl, rfl⟩ := ck_0_ok (show ck_0 172 l = n + 1 from h)
    exact dk_ireturn (dk_at hl).1
  | areturn =>
    obtain ⟨r, rfl, rfl⟩ := ck_0_ok (show ck_0 176 l = n + 1 from h)
    exact dk_areturn (dk_at hl).1
  | return_ =>
    obtain ⟨r, rfl, rfl⟩ := ck_0_ok (show ck_0 177 l = n + 1 from h)
    exact dk_return_ (dk_at hl).1
  | arraylength =>
    obtain ⟨r, rfl, rfl⟩ := ck_0_ok (show ck_0 190 l = n + 1 from h)
    exact dk_arraylength (dk_at hl).1
  | athrow =>
    obtain ⟨r, rfl, rfl⟩ := ck_0_ok (show ck_0 191 l = n + 1 from h)
    exact dk_athrow (dk_at hl).1
  | ldc x =>
    obtain ⟨r, rfl, rfl⟩ := ck_1_ok (show ck_1 18 x l = n + 1 from h)
    exact dk_ldc (dk_at hl).1 (dk_at (dk_at hl).2).1
  | iload x =>
    obtain ⟨r, rfl, rfl⟩ := ck_1_ok (show ck_1 21 x l = n + 1 from h)
    exact dk_iload (dk_at hl).1 (dk_at (dk_at hl).2).1
  | lload x =>
    obtain ⟨r, rfl, rfl⟩ := ck_1_ok (show ck_1 22 x l = n + 1 from h)
    exact dk_lload (dk_at hl).1 (dk_at (dk_at hl).2).1
  | aload x =>
    obtain ⟨r, rfl, rfl⟩ := ck_1_ok (show ck_1 25 x l = n + 1 from h)
    exact dk_aload (dk_at hl).1 (dk_at (dk_at hl).2).1
  | istore x =>
    obtain ⟨r, rfl, rfl⟩ := ck_1_ok (show ck_1 54 x l = n + 1 from h)
    exact dk_istore (dk_at hl).1 (dk_at (dk_at hl).2).1
  | astore x =>
    obtain ⟨r, rfl, rfl⟩ := ck_1_ok (show ck_1 58 x l = n + 1 from h)
    exact dk_astore (dk_at hl).1 (dk_at (dk_at hl).2).1
  | ldc_w x =>
    obtain ⟨b, c, r, rfl, rfl, rfl⟩ := ck_2_ok (show ck_2 19 x l = n + 1 from h)
    exact dk_ldc_w (dk_at hl).1 (dk_at (dk_at hl).2).1 (dk_at (dk_at (dk_at hl).2).2).1
  | ldc2_w x =>
    obtain ⟨b, c, r, rfl, rfl, rfl⟩ := ck_2_ok (show ck_2 20 x l = n + 1 from h)
    exact dk_ldc2_w (dk_at hl).1 (dk_at (dk_at hl).2).1 (dk_at (dk_at (dk_at hl).2).2).1
  | getstatic x =>
    obtain ⟨b, c, r, rfl, rfl, rfl⟩ := ck_2_ok (show ck_2 178 x l = n + 1 from h)
    exact dk_getstatic (dk_at hl).1 (dk_at (dk_at hl).2).1 (dk_at (dk_at (dk_at hl).2).2).1
  | getfield x =>
    obtain ⟨b, c, r, rfl, rfl, rfl⟩ := ck_2_ok (show ck_2 180 x l = n + 1 from h)
    exact dk_getfield (dk_at hl).1 (dk_at (dk_at hl).2).1 (dk_at (dk_at (dk_at hl).2).2).1
  | putfield x =>
    obtain ⟨b, c, r, rfl, rfl, rfl⟩ := ck_2_ok (show ck_2 181 x l = n + 1 from h)
    exact dk_putfield (dk_at hl).1 (dk_at (dk_at hl).2).1 (dk_at (dk_at (dk_at hl).2).2).1
  | invokevirtual x =>
    obtain ⟨b, c, r, rfl, rfl, rfl⟩ := ck_2_ok (show ck_2 182 x l = n + 1 from h)
    exact dk_invokevirtual (dk_at hl).1 (dk_at (dk_at hl).2).1 (dk_at (dk_at (dk_at hl).2).2).1
  | invokespecial x =>
    obtain ⟨b, c, r, rfl, rfl, rfl⟩ := ck_2_ok (show ck_2 183 x l = n + 1 from h)
    exact dk_invokespecial (dk_at hl).1 (dk_at (dk_at hl).2).1 (dk_at (dk_at (dk_at hl).2).2).1
  | invokestatic x =>
    obtain ⟨b, c, r, rfl, rfl, rfl⟩ := ck_2_ok (show ck_2 184 x l = n + 1 from h)
    exact dk_invokestatic (dk_at hl).1 (dk_at (dk_at hl).2).1 (dk_at (dk_at (dk_at hl).2).2).1
  | new x =>
    obtain ⟨b, c, r, rfl, rfl, rfl⟩ := ck_2_ok (show ck_2 187 x l = n + 1 from h)
    exact dk_new (dk_at hl).1 (dk_at (dk_at hl).2).1 (dk_at (dk_at (dk_at hl).2).2).1
  | anewarray x =>
    obtain ⟨b, c, r, rfl, rfl, rfl⟩ := ck_2_ok (show ck_2 189 x l = n + 1 from h)
    exact dk_anewarray (dk_at hl).1 (dk_at (dk_at hl).2).1 (dk_at (dk_at (dk_at hl).2).2).1
  | bipush z =>
    obtain ⟨b, r, rfl, rfl, rfl⟩ := ck_s1_ok (show ck_s1 16 z l = n + 1 from h)
    exact dk_bipush (dk_at hl).1 (dk_at (dk_at hl).2).1
  | sipush z =>
    obtain ⟨b, c, r, rfl, rfl, rfl⟩ := ck_s2_ok (show ck_s2 17 z l = n + 1 from h)
    exact dk_sipush (dk_at hl).1 (dk_at (dk_at hl).2).1 (dk_at (dk_at (dk_at hl).2).2).1
  | goto z =>
    obtain ⟨b, c, r, rfl, rfl, rfl⟩ := ck_s2_ok (show ck_s2 167 z l = n + 1 from h)
    exact dk_goto (dk_at hl).1 (dk_at (dk_at hl).2).1 (dk_at (dk_at (dk_at hl).2).2).1
  | ifCond cc z =>
    cases cc with
    | eq =>
      obtain ⟨b, c, r, rfl, rfl, rfl⟩ := ck_s2_ok (show ck_s2 153 z l = n + 1 from h)
      exact dk_if_eq (dk_at hl).1 (dk_at (dk_at hl).2).1 (dk_at (dk_at (dk_at hl).2).2).1
    | ne =>
      obtain ⟨b, c, r, rfl, rfl, rfl⟩ := ck_s2_ok (show ck_s2 154 z l = n + 1 from h)
      exact dk_if_ne (dk_at hl).1 (dk_at (dk_at hl).2).1 (dk_at (dk_at (dk_at hl).2).2).1
    | lt =>
      obtain ⟨b, c, r, rfl, rfl, rfl⟩ := ck_s2_ok (show ck_s2 155 z l = n + 1 from h)
      exact dk_if_lt (dk_at hl).1 (dk_at (dk_at hl).2).1 (dk_at (dk_at (dk_at hl).2).2).1
    | ge =>
      obtain ⟨b, c, r, rfl, rfl, rfl⟩ := ck_s2_ok (show ck_s2 156 z l = n + 1 from h)
      exact dk_if_ge (dk_at hl).1 (dk_at (dk_at hl).2).1 (dk_at (dk_at (dk_at hl).2).2).1
    | gt =>
      obtain ⟨b, c, r, rfl, rfl, rfl⟩ := ck_s2_ok (show ck_s2 157 z l = n + 1 from h)
      exact dk_if_gt (dk_at hl).1 (dk_at (dk_at hl).2).1 (dk_at (dk_at (dk_at hl).2).2).1
    | le =>
      obtain ⟨b, c, r, rfl, rfl, rfl⟩ := ck_s2_ok (show ck_s2 158 z l = n + 1 from h)
      exact dk_if_le (dk_at hl).1 (dk_at (dk_at hl).2).1 (dk_at (dk_at (dk_at hl).2).2).1
  | if_icmp cc z =>
    cases cc with
    | eq =>
      obtain ⟨b, c, r, rfl, rfl, rfl⟩ := ck_s2_ok (show ck_s2 159 z l = n + 1 from h)
      exact dk_icmp_eq (dk_at hl).1 (dk_at (dk_at hl).2).1 (dk_at (dk_at (dk_at hl).2).2).1
    | ne =>
      obtain ⟨b, c, r, rfl, rfl, rfl⟩ := ck_s2_ok (show ck_s2 160 z l = n + 1 from h)
      exact dk_icmp_ne (dk_at hl).1 (dk_at (dk_at hl).2).1 (dk_at (dk_at (dk_at hl).2).2).1
    | lt =>
      obtain ⟨b, c, r, rfl, rfl, rfl⟩ := ck_s2_ok (show ck_s2 161 z l = n + 1 from h)
      exact dk_icmp_lt (dk_at hl).1 (dk_at (dk_at hl).2).1 (dk_at (dk_at (dk_at hl).2).2).1
    | ge =>
      obtain ⟨b, c, r, rfl, rfl, rfl⟩ := ck_s2_ok (show ck_s2 162 z l = n + 1 from h)
      exact dk_icmp_ge (dk_at hl).1 (dk_at (dk_at hl).2).1 (dk_at (dk_at (dk_at hl).2).2).1
    | gt =>
      obtain ⟨b, c, r, rfl, rfl, rfl⟩ := ck_s2_ok (show ck_s2 163 z l = n + 1 from h)
      exact dk_icmp_gt (dk_at hl).1 (dk_at (dk_at hl).2).1 (dk_at (dk_at (dk_at hl).2).2).1
    | le =>
      obtain ⟨b, c, r, rfl, rfl, rfl⟩ := ck_s2_ok (show ck_s2 164 z l = n + 1 from h)
      exact dk_icmp_le (dk_at hl).1 (dk_at (dk_at hl).2).1 (dk_at (dk_at (dk_at hl).2).2).1
  | iinc x z =>
    obtain ⟨c, r, rfl, rfl, rfl⟩ := ck_in_ok (show ck_in x z l = n + 1 from h)
    exact dk_iinc (dk_at hl).1 (dk_at (dk_at hl).2).1 (dk_at (dk_at (dk_at hl).2).2).1
  | newarray t =>
    cases t with
    | int =>
      obtain ⟨r, rfl, rfl⟩ := ck_1_ok (show ck_1 188 10 l = n + 1 from h)
      exact dk_newarray_int (dk_at hl).1 (dk_at (dk_at hl).2).1
    | long =>
      obtain ⟨r, rfl, rfl⟩ := ck_1_ok (show ck_1 188 11 l = n + 1 from h)
      exact dk_newarray_long (dk_at hl).1 (dk_at (dk_at hl).2).1
    | _ => exact absurd (show 0 = n + 1 from h) (by omega)
  | _ => exact absurd (show 0 = n + 1 from h) (by omega)
