/-! ===== decoding along the bytes ===== -/
def fd_rd (b : ByteArray) (p x : Nat) : Prop := ∃ h : p < b.size, b[p].toNat = x
theorem fd_u1r {b : ByteArray} {p x : Nat} (h : fd_rd b p x) : (Reader.u1 : Reader DecodeError Nat).runAt b p = .ok (x, p + 1) := by
  obtain ⟨h, e⟩ := h
  subst e
  show (dite (p < b.size) (fun h => (do set (p + 1); return b[p].toNat : Reader DecodeError Nat)) (fun _ => throw (HasTruncated.truncated p))) b p = _
  rw [dif_pos h]
  rfl
theorem fd_u1 {b : ByteArray} {p x : Nat} {α : Type} (h : fd_rd b p x) (f : Nat → Reader DecodeError α) : (Reader.u1 >>= f).runAt b p = (f x).runAt b (p + 1) := by
  have h1 := fd_u1r h
  show Except.bind ((Reader.u1 : Reader DecodeError Nat).runAt b p) (fun q => match q with | (a, s) => (f a).runAt b s) = _
  rw [h1]
  rfl
def fd_p (i : Instr) : Reader DecodeError Instr := Pure.pure i
theorem fd_s1 {b : ByteArray} {p x : Nat} {α : Type} (h : fd_rd b p x) (f : Int → Reader DecodeError α) : (Reader.s1 >>= f).runAt b p = (f (Reader.signed 8 x)).runAt b (p + 1) := by
  have h1 := fd_u1r h
  show Except.bind (Except.bind ((Reader.u1 : Reader DecodeError Nat).runAt b p) (fun q => match q with | (a, s) => .ok (Reader.signed 8 a, s))) (fun q => match q with | (a, s) => (f a).runAt b s) = _
  rw [h1]
  rfl
theorem fd_u2r {b : ByteArray} {p x y : Nat} (h : fd_rd b p x) (h2 : fd_rd b (p + 1) y) : (Reader.u2 : Reader DecodeError Nat).runAt b p = .ok (x * 256 + y, p + 2) := by
  show (Reader.u1 >>= fun hi => Reader.u1 >>= fun lo => (Pure.pure (hi * 256 + lo) : Reader DecodeError Nat)).runAt b p = _
  rw [fd_u1 h, fd_u1 h2]
  rfl
theorem fd_u2 {b : ByteArray} {p x y : Nat} {α : Type} (h : fd_rd b p x) (h2 : fd_rd b (p + 1) y) (f : Nat → Reader DecodeError α) : (Reader.u2 >>= f).runAt b p = (f (x * 256 + y)).runAt b (p + 2) := by
  have h1 := fd_u2r h h2
  show Except.bind ((Reader.u2 : Reader DecodeError Nat).runAt b p) (fun q => match q with | (a, s) => (f a).runAt b s) = _
  rw [h1]
  rfl
theorem fd_s2 {b : ByteArray} {p x y : Nat} {α : Type} (h : fd_rd b p x) (h2 : fd_rd b (p + 1) y) (f : Int → Reader DecodeError α) : (Reader.s2 >>= f).runAt b p = (f (Reader.signed 16 (x * 256 + y))).runAt b (p + 2) := by
  have h1 := fd_u2r h h2
  show Except.bind (Except.bind ((Reader.u2 : Reader DecodeError Nat).runAt b p) (fun q => match q with | (a, s) => .ok (Reader.signed 16 a, s))) (fun q => match q with | (a, s) => (f a).runAt b s) = _
  rw [h1]
  rfl
theorem fd_end {b : ByteArray} {pc : Nat} {K : Nat → Reader DecodeError Instr} {i : Instr} {n : Nat} (hK : Decoder.instr pc = Reader.u1 >>= K) (h : (Reader.u1 >>= K).runAt b pc = .ok (i, pc + n)) : decode b pc = .ok (i, n) := by
  show Except.bind ((Decoder.instr pc).runAt b pc) (fun q => match q with | (i, m) => .ok (i, m - pc)) = _
  rw [hK, h]
  show Except.ok (i, pc + n - pc) = _
  rw [Nat.add_sub_cancel_left]
theorem fd_op_2 {b : ByteArray} {pc : Nat} (h0 : fd_rd b pc 2) : decode b pc = .ok ((.iconst (-1)), 1) := by
  obtain ⟨K, hK, hop⟩ : ∃ K : Nat → Reader DecodeError Instr, Decoder.instr pc = Reader.u1 >>= K ∧ K 2 = fd_p (.iconst (-1)) := ⟨_, rfl, rfl⟩
  refine fd_end hK ?_
  rw [fd_u1 h0, hop]
  rfl
theorem fd_op_3 {b : ByteArray} {pc : Nat} (h0 : fd_rd b pc 3) : decode b pc = .ok ((.iconst 0), 1) := by
  obtain ⟨K, hK, hop⟩ : ∃ K : Nat → Reader DecodeError Instr, Decoder.instr pc = Reader.u1 >>= K ∧ K 3 = fd_p (.iconst 0) := ⟨_, rfl, rfl⟩
  refine fd_end hK ?_
  rw [fd_u1 h0, hop]
  rfl
theorem fd_op_4 {b : ByteArray} {pc : Nat} (h0 : fd_rd b pc 4) : decode b pc = .ok ((.iconst 1), 1) := by
  obtain ⟨K, hK, hop⟩ : ∃ K : Nat → Reader DecodeError Instr, Decoder.instr pc = Reader.u1 >>= K ∧ K 4 = fd_p (.iconst 1) := ⟨_, rfl, rfl⟩
  refine fd_end hK ?_
  rw [fd_u1 h0, hop]
  rfl
theorem fd_op_5 {b : ByteArray} {pc : Nat} (h0 : fd_rd b pc 5) : decode b pc = .ok ((.iconst 2), 1) := by
  obtain ⟨K, hK, hop⟩ : ∃ K : Nat → Reader DecodeError Instr, Decoder.instr pc = Reader.u1 >>= K ∧ K 5 = fd_p (.iconst 2) := ⟨_, rfl, rfl⟩
  refine fd_end hK ?_
  rw [fd_u1 h0, hop]
  rfl
theorem fd_op_6 {b : ByteArray} {pc : Nat} (h0 : fd_rd b pc 6) : decode b pc = .ok ((.iconst 3), 1) := by
  obtain ⟨K, hK, hop⟩ : ∃ K : Nat → Reader DecodeError Instr, Decoder.instr pc = Reader.u1 >>= K ∧ K 6 = fd_p (.iconst 3) := ⟨_, rfl, rfl⟩
  refine fd_end hK ?_
  rw [fd_u1 h0, hop]
  rfl
theorem fd_op_7 {b : ByteArray} {pc : Nat} (h0 : fd_rd b pc 7) : decode b pc = .ok ((.iconst 4), 1) := by
  obtain ⟨K, hK, hop⟩ : ∃ K : Nat → Reader DecodeError Instr, Decoder.instr pc = Reader.u1 >>= K ∧ K 7 = fd_p (.iconst 4) := ⟨_, rfl, rfl⟩
  refine fd_end hK ?_
  rw [fd_u1 h0, hop]
  rfl
theorem fd_op_8 {b : ByteArray} {pc : Nat} (h0 : fd_rd b pc 8) : decode b pc = .ok ((.iconst 5), 1) := by
  obtain ⟨K, hK, hop⟩ : ∃ K : Nat → Reader DecodeError Instr, Decoder.instr pc = Reader.u1 >>= K ∧ K 8 = fd_p (.iconst 5) := ⟨_, rfl, rfl⟩
  refine fd_end hK ?_
  rw [fd_u1 h0, hop]
  rfl
theorem fd_op_9 {b : ByteArray} {pc : Nat} (h0 : fd_rd b pc 9) : decode b pc = .ok ((.lconst 0), 1) := by
  obtain ⟨K, hK, hop⟩ : ∃ K : Nat → Reader DecodeError Instr, Decoder.instr pc = Reader.u1 >>= K ∧ K 9 = fd_p (.lconst 0) := ⟨_, rfl, rfl⟩
  refine fd_end hK ?_
  rw [fd_u1 h0, hop]
  rfl
theorem fd_op_10 {b : ByteArray} {pc : Nat} (h0 : fd_rd b pc 10) : decode b pc = .ok ((.lconst 1), 1) := by
  obtain ⟨K, hK, hop⟩ : ∃ K : Nat → Reader DecodeError Instr, Decoder.instr pc = Reader.u1 >>= K ∧ K 10 = fd_p (.lconst 1) := ⟨_, rfl, rfl⟩
  refine fd_end hK ?_
  rw [fd_u1 h0, hop]
  rfl
theorem fd_op_16 {b : ByteArray} {pc x : Nat} (h0 : fd_rd b pc 16) (h1 : fd_rd b (pc + 1) x) : decode b pc = .ok ((.bipush (Reader.signed 8 x)), 2) := by
  obtain ⟨K, hK, hop⟩ : ∃ K : Nat → Reader DecodeError Instr, Decoder.instr pc = Reader.u1 >>= K ∧ K 16 = (Reader.s1 >>= fun u => fd_p (.bipush u)) := ⟨_, rfl, rfl⟩
  refine fd_end hK ?_
  rw [fd_u1 h0, hop, fd_s1 h1]
  rfl
theorem fd_op_17 {b : ByteArray} {pc x y : Nat} (h0 : fd_rd b pc 17) (h1 : fd_rd b (pc + 1) x) (h2 : fd_rd b (pc + 2) y) : decode b pc = .ok ((.sipush (Reader.signed 16 (x * 256 + y))), 3) := by
  obtain ⟨K, hK, hop⟩ : ∃ K : Nat → Reader DecodeError Instr, Decoder.instr pc = Reader.u1 >>= K ∧ K 17 = (Reader.s2 >>= fun u => fd_p (.sipush u)) := ⟨_, rfl, rfl⟩
  refine fd_end hK ?_
  rw [fd_u1 h0, hop, fd_s2 h1 h2]
  rfl
theorem fd_op_18 {b : ByteArray} {pc x : Nat} (h0 : fd_rd b pc 18) (h1 : fd_rd b (pc + 1) x) : decode b pc = .ok ((.ldc x), 2) := by
  obtain ⟨K, hK, hop⟩ : ∃ K : Nat → Reader DecodeError Instr, Decoder.instr pc = Reader.u1 >>= K ∧ K 18 = (Reader.u1 >>= fun u => fd_p (.ldc u)) := ⟨_, rfl, rfl⟩
  refine fd_end hK ?_
  rw [fd_u1 h0, hop, fd_u1 h1]
  rfl
theorem fd_op_19 {b : ByteArray} {pc x y : Nat} (h0 : fd_rd b pc 19) (h1 : fd_rd b (pc + 1) x) (h2 : fd_rd b (pc + 2) y) : decode b pc = .ok ((.ldc_w (x * 256 + y)), 3) := by
  obtain ⟨K, hK, hop⟩ : ∃ K : Nat → Reader DecodeError Instr, Decoder.instr pc = Reader.u1 >>= K ∧ K 19 = (Reader.u2 >>= fun u => fd_p (.ldc_w u)) := ⟨_, rfl, rfl⟩
  refine fd_end hK ?_
  rw [fd_u1 h0, hop, fd_u2 h1 h2]
  rfl
theorem fd_op_20 {b : ByteArray} {pc x y : Nat} (h0 : fd_rd b pc 20) (h1 : fd_rd b (pc + 1) x) (h2 : fd_rd b (pc + 2) y) : decode b pc = .ok ((.ldc2_w (x * 256 + y)), 3) := by
  obtain ⟨K, hK, hop⟩ : ∃ K : Nat → Reader DecodeError Instr, Decoder.instr pc = Reader.u1 >>= K ∧ K 20 = (Reader.u2 >>= fun u => fd_p (.ldc2_w u)) := ⟨_, rfl, rfl⟩
  refine fd_end hK ?_
  rw [fd_u1 h0, hop, fd_u2 h1 h2]
  rfl
theorem fd_op_21 {b : ByteArray} {pc x : Nat} (h0 : fd_rd b pc 21) (h1 : fd_rd b (pc + 1) x) : decode b pc = .ok ((.iload x), 2) := by
  obtain ⟨K, hK, hop⟩ : ∃ K : Nat → Reader DecodeError Instr, Decoder.instr pc = Reader.u1 >>= K ∧ K 21 = (Reader.u1 >>= fun u => fd_p (.iload u)) := ⟨_, rfl, rfl⟩
  refine fd_end hK ?_
  rw [fd_u1 h0, hop, fd_u1 h1]
  rfl
theorem fd_op_22 {b : ByteArray} {pc x : Nat} (h0 : fd_rd b pc 22) (h1 : fd_rd b (pc + 1) x) : decode b pc = .ok ((.lload x), 2) := by
  obtain ⟨K, hK, hop⟩ : ∃ K : Nat → Reader DecodeError Instr, Decoder.instr pc = Reader.u1 >>= K ∧ K 22 = (Reader.u1 >>= fun u => fd_p (.lload u)) := ⟨_, rfl, rfl⟩
  refine fd_end hK ?_
  rw [fd_u1 h0, hop, fd_u1 h1]
  rfl
theorem fd_op_26 {b : ByteArray} {pc : Nat} (h0 : fd_rd b pc 26) : decode b pc = .ok ((.iload_n 0), 1) := by
  obtain ⟨K, hK, hop⟩ : ∃ K : Nat → Reader DecodeError Instr, Decoder.instr pc = Reader.u1 >>= K ∧ K 26 = fd_p (.iload_n 0) := ⟨_, rfl, rfl⟩
  refine fd_end hK ?_
  rw [fd_u1 h0, hop]
  rfl
theorem fd_op_27 {b : ByteArray} {pc : Nat} (h0 : fd_rd b pc 27) : decode b pc = .ok ((.iload_n 1), 1) := by
  obtain ⟨K, hK, hop⟩ : ∃ K : Nat → Reader DecodeError Instr, Decoder.instr pc = Reader.u1 >>= K ∧ K 27 = fd_p (.iload_n 1) := ⟨_, rfl, rfl⟩
  refine fd_end hK ?_
  rw [fd_u1 h0, hop]
  rfl
theorem fd_op_28 {b : ByteArray} {pc : Nat} (h0 : fd_rd b pc 28) : decode b pc = .ok ((.iload_n 2), 1) := by
  obtain ⟨K, hK, hop⟩ : ∃ K : Nat → Reader DecodeError Instr, Decoder.instr pc = Reader.u1 >>= K ∧ K 28 = fd_p (.iload_n 2) := ⟨_, rfl, rfl⟩
  refine fd_end hK ?_
  rw [fd_u1 h0, hop]
  rfl
theorem fd_op_29 {b : ByteArray} {pc : Nat} (h0 : fd_rd b pc 29) : decode b pc = .ok ((.iload_n 3), 1) := by
  obtain ⟨K, hK, hop⟩ : ∃ K : Nat → Reader DecodeError Instr, Decoder.instr pc = Reader.u1 >>= K ∧ K 29 = fd_p (.iload_n 3) := ⟨_, rfl, rfl⟩
  refine fd_end hK ?_
  rw [fd_u1 h0, hop]
  rfl
theorem fd_op_30 {b : ByteArray} {pc : Nat} (h0 : fd_rd b pc 30) : decode b pc = .ok ((.lload_n 0), 1) := by
  obtain ⟨K, hK, hop⟩ : ∃ K : Nat → Reader DecodeError Instr, Decoder.instr pc = Reader.u1 >>= K ∧ K 30 = fd_p (.lload_n 0) := ⟨_, rfl, rfl⟩
  refine fd_end hK ?_
  rw [fd_u1 h0, hop]
  rfl
theorem fd_op_31 {b : ByteArray} {pc : Nat} (h0 : fd_rd b pc 31) : decode b pc = .ok ((.lload_n 1), 1) := by
  obtain ⟨K, hK, hop⟩ : ∃ K : Nat → Reader DecodeError Instr, Decoder.instr pc = Reader.u1 >>= K ∧ K 31 = fd_p (.lload_n 1) := ⟨_, rfl, rfl⟩
  refine fd_end hK ?_
  rw [fd_u1 h0, hop]
  rfl
theorem fd_op_32 {b : ByteArray} {pc : Nat} (h0 : fd_rd b pc 32) : decode b pc = .ok ((.lload_n 2), 1) := by
  obtain ⟨K, hK, hop⟩ : ∃ K : Nat → Reader DecodeError Instr, Decoder.instr pc = Reader.u1 >>= K ∧ K 32 = fd_p (.lload_n 2) := ⟨_, rfl, rfl⟩
  refine fd_end hK ?_
  rw [fd_u1 h0, hop]
  rfl
theorem fd_op_33 {b : ByteArray} {pc : Nat} (h0 : fd_rd b pc 33) : decode b pc = .ok ((.lload_n 3), 1) := by
  obtain ⟨K, hK, hop⟩ : ∃ K : Nat → Reader DecodeError Instr, Decoder.instr pc = Reader.u1 >>= K ∧ K 33 = fd_p (.lload_n 3) := ⟨_, rfl, rfl⟩
  refine fd_end hK ?_
  rw [fd_u1 h0, hop]
  rfl
theorem fd_op_42 {b : ByteArray} {pc : Nat} (h0 : fd_rd b pc 42) : decode b pc = .ok ((.aload_n 0), 1) := by
  obtain ⟨K, hK, hop⟩ : ∃ K : Nat → Reader DecodeError Instr, Decoder.instr pc = Reader.u1 >>= K ∧ K 42 = fd_p (.aload_n 0) := ⟨_, rfl, rfl⟩
  refine fd_end hK ?_
  rw [fd_u1 h0, hop]
  rfl
theorem fd_op_43 {b : ByteArray} {pc : Nat} (h0 : fd_rd b pc 43) : decode b pc = .ok ((.aload_n 1), 1) := by
  obtain ⟨K, hK, hop⟩ : ∃ K : Nat → Reader DecodeError Instr, Decoder.instr pc = Reader.u1 >>= K ∧ K 43 = fd_p (.aload_n 1) := ⟨_, rfl, rfl⟩
  refine fd_end hK ?_
  rw [fd_u1 h0, hop]
  rfl
theorem fd_op_44 {b : ByteArray} {pc : Nat} (h0 : fd_rd b pc 44) : decode b pc = .ok ((.aload_n 2), 1) := by
  obtain ⟨K, hK, hop⟩ : ∃ K : Nat → Reader DecodeError Instr, Decoder.instr pc = Reader.u1 >>= K ∧ K 44 = fd_p (.aload_n 2) := ⟨_, rfl, rfl⟩
  refine fd_end hK ?_
  rw [fd_u1 h0, hop]
  rfl
theorem fd_op_45 {b : ByteArray} {pc : Nat} (h0 : fd_rd b pc 45) : decode b pc = .ok ((.aload_n 3), 1) := by
  obtain ⟨K, hK, hop⟩ : ∃ K : Nat → Reader DecodeError Instr, Decoder.instr pc = Reader.u1 >>= K ∧ K 45 = fd_p (.aload_n 3) := ⟨_, rfl, rfl⟩
  refine fd_end hK ?_
  rw [fd_u1 h0, hop]
  rfl
theorem fd_op_46 {b : ByteArray} {pc : Nat} (h0 : fd_rd b pc 46) : decode b pc = .ok (.iaload, 1) := by
  obtain ⟨K, hK, hop⟩ : ∃ K : Nat → Reader DecodeError Instr, Decoder.instr pc = Reader.u1 >>= K ∧ K 46 = fd_p .iaload := ⟨_, rfl, rfl⟩
  refine fd_end hK ?_
  rw [fd_u1 h0, hop]
  rfl
theorem fd_op_47 {b : ByteArray} {pc : Nat} (h0 : fd_rd b pc 47) : decode b pc = .ok (.laload, 1) := by
  obtain ⟨K, hK, hop⟩ : ∃ K : Nat → Reader DecodeError Instr, Decoder.instr pc = Reader.u1 >>= K ∧ K 47 = fd_p .laload := ⟨_, rfl, rfl⟩
  refine fd_end hK ?_
  rw [fd_u1 h0, hop]
  rfl
theorem fd_op_51 {b : ByteArray} {pc : Nat} (h0 : fd_rd b pc 51) : decode b pc = .ok (.baload, 1) := by
  obtain ⟨K, hK, hop⟩ : ∃ K : Nat → Reader DecodeError Instr, Decoder.instr pc = Reader.u1 >>= K ∧ K 51 = fd_p .baload := ⟨_, rfl, rfl⟩
  refine fd_end hK ?_
  rw [fd_u1 h0, hop]
  rfl
theorem fd_op_52 {b : ByteArray} {pc : Nat} (h0 : fd_rd b pc 52) : decode b pc = .ok (.caload, 1) := by
  obtain ⟨K, hK, hop⟩ : ∃ K : Nat → Reader DecodeError Instr, Decoder.instr pc = Reader.u1 >>= K ∧ K 52 = fd_p .caload := ⟨_, rfl, rfl⟩
  refine fd_end hK ?_
  rw [fd_u1 h0, hop]
  rfl
theorem fd_op_54 {b : ByteArray} {pc x : Nat} (h0 : fd_rd b pc 54) (h1 : fd_rd b (pc + 1) x) : decode b pc = .ok ((.istore x), 2) := by
  obtain ⟨K, hK, hop⟩ : ∃ K : Nat → Reader DecodeError Instr, Decoder.instr pc = Reader.u1 >>= K ∧ K 54 = (Reader.u1 >>= fun u => fd_p (.istore u)) := ⟨_, rfl, rfl⟩
  refine fd_end hK ?_
  rw [fd_u1 h0, hop, fd_u1 h1]
  rfl
theorem fd_op_55 {b : ByteArray} {pc x : Nat} (h0 : fd_rd b pc 55) (h1 : fd_rd b (pc + 1) x) : decode b pc = .ok ((.lstore x), 2) := by
  obtain ⟨K, hK, hop⟩ : ∃ K : Nat → Reader DecodeError Instr, Decoder.instr pc = Reader.u1 >>= K ∧ K 55 = (Reader.u1 >>= fun u => fd_p (.lstore u)) := ⟨_, rfl, rfl⟩
  refine fd_end hK ?_
  rw [fd_u1 h0, hop, fd_u1 h1]
  rfl
theorem fd_op_59 {b : ByteArray} {pc : Nat} (h0 : fd_rd b pc 59) : decode b pc = .ok ((.istore_n 0), 1) := by
  obtain ⟨K, hK, hop⟩ : ∃ K : Nat → Reader DecodeError Instr, Decoder.instr pc = Reader.u1 >>= K ∧ K 59 = fd_p (.istore_n 0) := ⟨_, rfl, rfl⟩
  refine fd_end hK ?_
  rw [fd_u1 h0, hop]
  rfl
theorem fd_op_60 {b : ByteArray} {pc : Nat} (h0 : fd_rd b pc 60) : decode b pc = .ok ((.istore_n 1), 1) := by
  obtain ⟨K, hK, hop⟩ : ∃ K : Nat → Reader DecodeError Instr, Decoder.instr pc = Reader.u1 >>= K ∧ K 60 = fd_p (.istore_n 1) := ⟨_, rfl, rfl⟩
  refine fd_end hK ?_
  rw [fd_u1 h0, hop]
  rfl
theorem fd_op_61 {b : ByteArray} {pc : Nat} (h0 : fd_rd b pc 61) : decode b pc = .ok ((.istore_n 2), 1) := by
  obtain ⟨K, hK, hop⟩ : ∃ K : Nat → Reader DecodeError Instr, Decoder.instr pc = Reader.u1 >>= K ∧ K 61 = fd_p (.istore_n 2) := ⟨_, rfl, rfl⟩
  refine fd_end hK ?_
  rw [fd_u1 h0, hop]
  rfl
theorem fd_op_62 {b : ByteArray} {pc : Nat} (h0 : fd_rd b pc 62) : decode b pc = .ok ((.istore_n 3), 1) := by
  obtain ⟨K, hK, hop⟩ : ∃ K : Nat → Reader DecodeError Instr, Decoder.instr pc = Reader.u1 >>= K ∧ K 62 = fd_p (.istore_n 3) := ⟨_, rfl, rfl⟩
  refine fd_end hK ?_
  rw [fd_u1 h0, hop]
  rfl
theorem fd_op_63 {b : ByteArray} {pc : Nat} (h0 : fd_rd b pc 63) : decode b pc = .ok ((.lstore_n 0), 1) := by
  obtain ⟨K, hK, hop⟩ : ∃ K : Nat → Reader DecodeError Instr, Decoder.instr pc = Reader.u1 >>= K ∧ K 63 = fd_p (.lstore_n 0) := ⟨_, rfl, rfl⟩
  refine fd_end hK ?_
  rw [fd_u1 h0, hop]
  rfl
theorem fd_op_64 {b : ByteArray} {pc : Nat} (h0 : fd_rd b pc 64) : decode b pc = .ok ((.lstore_n 1), 1) := by
  obtain ⟨K, hK, hop⟩ : ∃ K : Nat → Reader DecodeError Instr, Decoder.instr pc = Reader.u1 >>= K ∧ K 64 = fd_p (.lstore_n 1) := ⟨_, rfl, rfl⟩
  refine fd_end hK ?_
  rw [fd_u1 h0, hop]
  rfl
theorem fd_op_65 {b : ByteArray} {pc : Nat} (h0 : fd_rd b pc 65) : decode b pc = .ok ((.lstore_n 2), 1) := by
  obtain ⟨K, hK, hop⟩ : ∃ K : Nat → Reader DecodeError Instr, Decoder.instr pc = Reader.u1 >>= K ∧ K 65 = fd_p (.lstore_n 2) := ⟨_, rfl, rfl⟩
  refine fd_end hK ?_
  rw [fd_u1 h0, hop]
  rfl
theorem fd_op_66 {b : ByteArray} {pc : Nat} (h0 : fd_rd b pc 66) : decode b pc = .ok ((.lstore_n 3), 1) := by
  obtain ⟨K, hK, hop⟩ : ∃ K : Nat → Reader DecodeError Instr, Decoder.instr pc = Reader.u1 >>= K ∧ K 66 = fd_p (.lstore_n 3) := ⟨_, rfl, rfl⟩
  refine fd_end hK ?_
  rw [fd_u1 h0, hop]
  rfl
theorem fd_op_75 {b : ByteArray} {pc : Nat} (h0 : fd_rd b pc 75) : decode b pc = .ok ((.astore_n 0), 1) := by
  obtain ⟨K, hK, hop⟩ : ∃ K : Nat → Reader DecodeError Instr, Decoder.instr pc = Reader.u1 >>= K ∧ K 75 = fd_p (.astore_n 0) := ⟨_, rfl, rfl⟩
  refine fd_end hK ?_
  rw [fd_u1 h0, hop]
  rfl
theorem fd_op_76 {b : ByteArray} {pc : Nat} (h0 : fd_rd b pc 76) : decode b pc = .ok ((.astore_n 1), 1) := by
  obtain ⟨K, hK, hop⟩ : ∃ K : Nat → Reader DecodeError Instr, Decoder.instr pc = Reader.u1 >>= K ∧ K 76 = fd_p (.astore_n 1) := ⟨_, rfl, rfl⟩
  refine fd_end hK ?_
  rw [fd_u1 h0, hop]
  rfl
theorem fd_op_77 {b : ByteArray} {pc : Nat} (h0 : fd_rd b pc 77) : decode b pc = .ok ((.astore_n 2), 1) := by
  obtain ⟨K, hK, hop⟩ : ∃ K : Nat → Reader DecodeError Instr, Decoder.instr pc = Reader.u1 >>= K ∧ K 77 = fd_p (.astore_n 2) := ⟨_, rfl, rfl⟩
  refine fd_end hK ?_
  rw [fd_u1 h0, hop]
  rfl
theorem fd_op_78 {b : ByteArray} {pc : Nat} (h0 : fd_rd b pc 78) : decode b pc = .ok ((.astore_n 3), 1) := by
  obtain ⟨K, hK, hop⟩ : ∃ K : Nat → Reader DecodeError Instr, Decoder.instr pc = Reader.u1 >>= K ∧ K 78 = fd_p (.astore_n 3) := ⟨_, rfl, rfl⟩
  refine fd_end hK ?_
  rw [fd_u1 h0, hop]
  rfl
theorem fd_op_79 {b : ByteArray} {pc : Nat} (h0 : fd_rd b pc 79) : decode b pc = .ok (.iastore, 1) := by
  obtain ⟨K, hK, hop⟩ : ∃ K : Nat → Reader DecodeError Instr, Decoder.instr pc = Reader.u1 >>= K ∧ K 79 = fd_p .iastore := ⟨_, rfl, rfl⟩
  refine fd_end hK ?_
  rw [fd_u1 h0, hop]
  rfl
theorem fd_op_80 {b : ByteArray} {pc : Nat} (h0 : fd_rd b pc 80) : decode b pc = .ok (.lastore, 1) := by
  obtain ⟨K, hK, hop⟩ : ∃ K : Nat → Reader DecodeError Instr, Decoder.instr pc = Reader.u1 >>= K ∧ K 80 = fd_p .lastore := ⟨_, rfl, rfl⟩
  refine fd_end hK ?_
  rw [fd_u1 h0, hop]
  rfl
theorem fd_op_84 {b : ByteArray} {pc : Nat} (h0 : fd_rd b pc 84) : decode b pc = .ok (.bastore, 1) := by
  obtain ⟨K, hK, hop⟩ : ∃ K : Nat → Reader DecodeError Instr, Decoder.instr pc = Reader.u1 >>= K ∧ K 84 = fd_p .bastore := ⟨_, rfl, rfl⟩
  refine fd_end hK ?_
  rw [fd_u1 h0, hop]
  rfl
theorem fd_op_85 {b : ByteArray} {pc : Nat} (h0 : fd_rd b pc 85) : decode b pc = .ok (.castore, 1) := by
  obtain ⟨K, hK, hop⟩ : ∃ K : Nat → Reader DecodeError Instr, Decoder.instr pc = Reader.u1 >>= K ∧ K 85 = fd_p .castore := ⟨_, rfl, rfl⟩
  refine fd_end hK ?_
  rw [fd_u1 h0, hop]
  rfl
theorem fd_op_87 {b : ByteArray} {pc : Nat} (h0 : fd_rd b pc 87) : decode b pc = .ok (.pop, 1) := by
  obtain ⟨K, hK, hop⟩ : ∃ K : Nat → Reader DecodeError Instr, Decoder.instr pc = Reader.u1 >>= K ∧ K 87 = fd_p .pop := ⟨_, rfl, rfl⟩
  refine fd_end hK ?_
  rw [fd_u1 h0, hop]
  rfl
theorem fd_op_89 {b : ByteArray} {pc : Nat} (h0 : fd_rd b pc 89) : decode b pc = .ok (.dup, 1) := by
  obtain ⟨K, hK, hop⟩ : ∃ K : Nat → Reader DecodeError Instr, Decoder.instr pc = Reader.u1 >>= K ∧ K 89 = fd_p .dup := ⟨_, rfl, rfl⟩
  refine fd_end hK ?_
  rw [fd_u1 h0, hop]
  rfl
theorem fd_op_92 {b : ByteArray} {pc : Nat} (h0 : fd_rd b pc 92) : decode b pc = .ok (.dup2, 1) := by
  obtain ⟨K, hK, hop⟩ : ∃ K : Nat → Reader DecodeError Instr, Decoder.instr pc = Reader.u1 >>= K ∧ K 92 = fd_p .dup2 := ⟨_, rfl, rfl⟩
  refine fd_end hK ?_
  rw [fd_u1 h0, hop]
  rfl
theorem fd_op_96 {b : ByteArray} {pc : Nat} (h0 : fd_rd b pc 96) : decode b pc = .ok (.iadd, 1) := by
  obtain ⟨K, hK, hop⟩ : ∃ K : Nat → Reader DecodeError Instr, Decoder.instr pc = Reader.u1 >>= K ∧ K 96 = fd_p .iadd := ⟨_, rfl, rfl⟩
  refine fd_end hK ?_
  rw [fd_u1 h0, hop]
  rfl
theorem fd_op_97 {b : ByteArray} {pc : Nat} (h0 : fd_rd b pc 97) : decode b pc = .ok (.ladd, 1) := by
  obtain ⟨K, hK, hop⟩ : ∃ K : Nat → Reader DecodeError Instr, Decoder.instr pc = Reader.u1 >>= K ∧ K 97 = fd_p .ladd := ⟨_, rfl, rfl⟩
  refine fd_end hK ?_
  rw [fd_u1 h0, hop]
  rfl
theorem fd_op_100 {b : ByteArray} {pc : Nat} (h0 : fd_rd b pc 100) : decode b pc = .ok (.isub, 1) := by
  obtain ⟨K, hK, hop⟩ : ∃ K : Nat → Reader DecodeError Instr, Decoder.instr pc = Reader.u1 >>= K ∧ K 100 = fd_p .isub := ⟨_, rfl, rfl⟩
  refine fd_end hK ?_
  rw [fd_u1 h0, hop]
  rfl
theorem fd_op_101 {b : ByteArray} {pc : Nat} (h0 : fd_rd b pc 101) : decode b pc = .ok (.lsub, 1) := by
  obtain ⟨K, hK, hop⟩ : ∃ K : Nat → Reader DecodeError Instr, Decoder.instr pc = Reader.u1 >>= K ∧ K 101 = fd_p .lsub := ⟨_, rfl, rfl⟩
  refine fd_end hK ?_
  rw [fd_u1 h0, hop]
  rfl
theorem fd_op_104 {b : ByteArray} {pc : Nat} (h0 : fd_rd b pc 104) : decode b pc = .ok (.imul, 1) := by
  obtain ⟨K, hK, hop⟩ : ∃ K : Nat → Reader DecodeError Instr, Decoder.instr pc = Reader.u1 >>= K ∧ K 104 = fd_p .imul := ⟨_, rfl, rfl⟩
  refine fd_end hK ?_
  rw [fd_u1 h0, hop]
  rfl
theorem fd_op_105 {b : ByteArray} {pc : Nat} (h0 : fd_rd b pc 105) : decode b pc = .ok (.lmul, 1) := by
  obtain ⟨K, hK, hop⟩ : ∃ K : Nat → Reader DecodeError Instr, Decoder.instr pc = Reader.u1 >>= K ∧ K 105 = fd_p .lmul := ⟨_, rfl, rfl⟩
  refine fd_end hK ?_
  rw [fd_u1 h0, hop]
  rfl
theorem fd_op_108 {b : ByteArray} {pc : Nat} (h0 : fd_rd b pc 108) : decode b pc = .ok (.idiv, 1) := by
  obtain ⟨K, hK, hop⟩ : ∃ K : Nat → Reader DecodeError Instr, Decoder.instr pc = Reader.u1 >>= K ∧ K 108 = fd_p .idiv := ⟨_, rfl, rfl⟩
  refine fd_end hK ?_
  rw [fd_u1 h0, hop]
  rfl
theorem fd_op_109 {b : ByteArray} {pc : Nat} (h0 : fd_rd b pc 109) : decode b pc = .ok (.ldiv, 1) := by
  obtain ⟨K, hK, hop⟩ : ∃ K : Nat → Reader DecodeError Instr, Decoder.instr pc = Reader.u1 >>= K ∧ K 109 = fd_p .ldiv := ⟨_, rfl, rfl⟩
  refine fd_end hK ?_
  rw [fd_u1 h0, hop]
  rfl
theorem fd_op_112 {b : ByteArray} {pc : Nat} (h0 : fd_rd b pc 112) : decode b pc = .ok (.irem, 1) := by
  obtain ⟨K, hK, hop⟩ : ∃ K : Nat → Reader DecodeError Instr, Decoder.instr pc = Reader.u1 >>= K ∧ K 112 = fd_p .irem := ⟨_, rfl, rfl⟩
  refine fd_end hK ?_
  rw [fd_u1 h0, hop]
  rfl
theorem fd_op_113 {b : ByteArray} {pc : Nat} (h0 : fd_rd b pc 113) : decode b pc = .ok (.lrem, 1) := by
  obtain ⟨K, hK, hop⟩ : ∃ K : Nat → Reader DecodeError Instr, Decoder.instr pc = Reader.u1 >>= K ∧ K 113 = fd_p .lrem := ⟨_, rfl, rfl⟩
  refine fd_end hK ?_
  rw [fd_u1 h0, hop]
  rfl
theorem fd_op_116 {b : ByteArray} {pc : Nat} (h0 : fd_rd b pc 116) : decode b pc = .ok (.ineg, 1) := by
  obtain ⟨K, hK, hop⟩ : ∃ K : Nat → Reader DecodeError Instr, Decoder.instr pc = Reader.u1 >>= K ∧ K 116 = fd_p .ineg := ⟨_, rfl, rfl⟩
  refine fd_end hK ?_
  rw [fd_u1 h0, hop]
  rfl
theorem fd_op_120 {b : ByteArray} {pc : Nat} (h0 : fd_rd b pc 120) : decode b pc = .ok (.ishl, 1) := by
  obtain ⟨K, hK, hop⟩ : ∃ K : Nat → Reader DecodeError Instr, Decoder.instr pc = Reader.u1 >>= K ∧ K 120 = fd_p .ishl := ⟨_, rfl, rfl⟩
  refine fd_end hK ?_
  rw [fd_u1 h0, hop]
  rfl
theorem fd_op_121 {b : ByteArray} {pc : Nat} (h0 : fd_rd b pc 121) : decode b pc = .ok (.lshl, 1) := by
  obtain ⟨K, hK, hop⟩ : ∃ K : Nat → Reader DecodeError Instr, Decoder.instr pc = Reader.u1 >>= K ∧ K 121 = fd_p .lshl := ⟨_, rfl, rfl⟩
  refine fd_end hK ?_
  rw [fd_u1 h0, hop]
  rfl
theorem fd_op_122 {b : ByteArray} {pc : Nat} (h0 : fd_rd b pc 122) : decode b pc = .ok (.ishr, 1) := by
  obtain ⟨K, hK, hop⟩ : ∃ K : Nat → Reader DecodeError Instr, Decoder.instr pc = Reader.u1 >>= K ∧ K 122 = fd_p .ishr := ⟨_, rfl, rfl⟩
  refine fd_end hK ?_
  rw [fd_u1 h0, hop]
  rfl
theorem fd_op_123 {b : ByteArray} {pc : Nat} (h0 : fd_rd b pc 123) : decode b pc = .ok (.lshr, 1) := by
  obtain ⟨K, hK, hop⟩ : ∃ K : Nat → Reader DecodeError Instr, Decoder.instr pc = Reader.u1 >>= K ∧ K 123 = fd_p .lshr := ⟨_, rfl, rfl⟩
  refine fd_end hK ?_
  rw [fd_u1 h0, hop]
  rfl
theorem fd_op_124 {b : ByteArray} {pc : Nat} (h0 : fd_rd b pc 124) : decode b pc = .ok (.iushr, 1) := by
  obtain ⟨K, hK, hop⟩ : ∃ K : Nat → Reader DecodeError Instr, Decoder.instr pc = Reader.u1 >>= K ∧ K 124 = fd_p .iushr := ⟨_, rfl, rfl⟩
  refine fd_end hK ?_
  rw [fd_u1 h0, hop]
  rfl
theorem fd_op_126 {b : ByteArray} {pc : Nat} (h0 : fd_rd b pc 126) : decode b pc = .ok (.iand, 1) := by
  obtain ⟨K, hK, hop⟩ : ∃ K : Nat → Reader DecodeError Instr, Decoder.instr pc = Reader.u1 >>= K ∧ K 126 = fd_p .iand := ⟨_, rfl, rfl⟩
  refine fd_end hK ?_
  rw [fd_u1 h0, hop]
  rfl
theorem fd_op_127 {b : ByteArray} {pc : Nat} (h0 : fd_rd b pc 127) : decode b pc = .ok (.land, 1) := by
  obtain ⟨K, hK, hop⟩ : ∃ K : Nat → Reader DecodeError Instr, Decoder.instr pc = Reader.u1 >>= K ∧ K 127 = fd_p .land := ⟨_, rfl, rfl⟩
  refine fd_end hK ?_
  rw [fd_u1 h0, hop]
  rfl
theorem fd_op_128 {b : ByteArray} {pc : Nat} (h0 : fd_rd b pc 128) : decode b pc = .ok (.ior, 1) := by
  obtain ⟨K, hK, hop⟩ : ∃ K : Nat → Reader DecodeError Instr, Decoder.instr pc = Reader.u1 >>= K ∧ K 128 = fd_p .ior := ⟨_, rfl, rfl⟩
  refine fd_end hK ?_
  rw [fd_u1 h0, hop]
  rfl
theorem fd_op_129 {b : ByteArray} {pc : Nat} (h0 : fd_rd b pc 129) : decode b pc = .ok (.lor, 1) := by
  obtain ⟨K, hK, hop⟩ : ∃ K : Nat → Reader DecodeError Instr, Decoder.instr pc = Reader.u1 >>= K ∧ K 129 = fd_p .lor := ⟨_, rfl, rfl⟩
  refine fd_end hK ?_
  rw [fd_u1 h0, hop]
  rfl
theorem fd_op_130 {b : ByteArray} {pc : Nat} (h0 : fd_rd b pc 130) : decode b pc = .ok (.ixor, 1) := by
  obtain ⟨K, hK, hop⟩ : ∃ K : Nat → Reader DecodeError Instr, Decoder.instr pc = Reader.u1 >>= K ∧ K 130 = fd_p .ixor := ⟨_, rfl, rfl⟩
  refine fd_end hK ?_
  rw [fd_u1 h0, hop]
  rfl
theorem fd_op_131 {b : ByteArray} {pc : Nat} (h0 : fd_rd b pc 131) : decode b pc = .ok (.lxor, 1) := by
  obtain ⟨K, hK, hop⟩ : ∃ K : Nat → Reader DecodeError Instr, Decoder.instr pc = Reader.u1 >>= K ∧ K 131 = fd_p .lxor := ⟨_, rfl, rfl⟩
  refine fd_end hK ?_
  rw [fd_u1 h0, hop]
  rfl
theorem fd_op_132 {b : ByteArray} {pc x y : Nat} (h0 : fd_rd b pc 132) (h1 : fd_rd b (pc + 1) x) (h2 : fd_rd b (pc + 2) y) : decode b pc = .ok ((.iinc x (Reader.signed 8 y)), 3) := by
  obtain ⟨K, hK, hop⟩ : ∃ K : Nat → Reader DecodeError Instr, Decoder.instr pc = Reader.u1 >>= K ∧ K 132 = (Reader.u1 >>= fun u => Reader.s1 >>= fun v => fd_p (.iinc u v)) := ⟨_, rfl, rfl⟩
  refine fd_end hK ?_
  rw [fd_u1 h0, hop, fd_u1 h1, fd_s1 h2]
  rfl
theorem fd_op_133 {b : ByteArray} {pc : Nat} (h0 : fd_rd b pc 133) : decode b pc = .ok (.i2l, 1) := by
  obtain ⟨K, hK, hop⟩ : ∃ K : Nat → Reader DecodeError Instr, Decoder.instr pc = Reader.u1 >>= K ∧ K 133 = fd_p .i2l := ⟨_, rfl, rfl⟩
  refine fd_end hK ?_
  rw [fd_u1 h0, hop]
  rfl
theorem fd_op_136 {b : ByteArray} {pc : Nat} (h0 : fd_rd b pc 136) : decode b pc = .ok (.l2i, 1) := by
  obtain ⟨K, hK, hop⟩ : ∃ K : Nat → Reader DecodeError Instr, Decoder.instr pc = Reader.u1 >>= K ∧ K 136 = fd_p .l2i := ⟨_, rfl, rfl⟩
  refine fd_end hK ?_
  rw [fd_u1 h0, hop]
  rfl
theorem fd_op_146 {b : ByteArray} {pc : Nat} (h0 : fd_rd b pc 146) : decode b pc = .ok (.i2c, 1) := by
  obtain ⟨K, hK, hop⟩ : ∃ K : Nat → Reader DecodeError Instr, Decoder.instr pc = Reader.u1 >>= K ∧ K 146 = fd_p .i2c := ⟨_, rfl, rfl⟩
  refine fd_end hK ?_
  rw [fd_u1 h0, hop]
  rfl
theorem fd_op_148 {b : ByteArray} {pc : Nat} (h0 : fd_rd b pc 148) : decode b pc = .ok (.lcmp, 1) := by
  obtain ⟨K, hK, hop⟩ : ∃ K : Nat → Reader DecodeError Instr, Decoder.instr pc = Reader.u1 >>= K ∧ K 148 = fd_p .lcmp := ⟨_, rfl, rfl⟩
  refine fd_end hK ?_
  rw [fd_u1 h0, hop]
  rfl
theorem fd_op_153 {b : ByteArray} {pc x y : Nat} (h0 : fd_rd b pc 153) (h1 : fd_rd b (pc + 1) x) (h2 : fd_rd b (pc + 2) y) : decode b pc = .ok ((.ifCond .eq (Reader.signed 16 (x * 256 + y))), 3) := by
  obtain ⟨K, hK, hop⟩ : ∃ K : Nat → Reader DecodeError Instr, Decoder.instr pc = Reader.u1 >>= K ∧ K 153 = (Reader.s2 >>= fun u => fd_p (.ifCond .eq u)) := ⟨_, rfl, rfl⟩
  refine fd_end hK ?_
  rw [fd_u1 h0, hop, fd_s2 h1 h2]
  rfl
theorem fd_op_154 {b : ByteArray} {pc x y : Nat} (h0 : fd_rd b pc 154) (h1 : fd_rd b (pc + 1) x) (h2 : fd_rd b (pc + 2) y) : decode b pc = .ok ((.ifCond .ne (Reader.signed 16 (x * 256 + y))), 3) := by
  obtain ⟨K, hK, hop⟩ : ∃ K : Nat → Reader DecodeError Instr, Decoder.instr pc = Reader.u1 >>= K ∧ K 154 = (Reader.s2 >>= fun u => fd_p (.ifCond .ne u)) := ⟨_, rfl, rfl⟩
  refine fd_end hK ?_
  rw [fd_u1 h0, hop, fd_s2 h1 h2]
  rfl
theorem fd_op_155 {b : ByteArray} {pc x y : Nat} (h0 : fd_rd b pc 155) (h1 : fd_rd b (pc + 1) x) (h2 : fd_rd b (pc + 2) y) : decode b pc = .ok ((.ifCond .lt (Reader.signed 16 (x * 256 + y))), 3) := by
  obtain ⟨K, hK, hop⟩ : ∃ K : Nat → Reader DecodeError Instr, Decoder.instr pc = Reader.u1 >>= K ∧ K 155 = (Reader.s2 >>= fun u => fd_p (.ifCond .lt u)) := ⟨_, rfl, rfl⟩
  refine fd_end hK ?_
  rw [fd_u1 h0, hop, fd_s2 h1 h2]
  rfl
theorem fd_op_156 {b : ByteArray} {pc x y : Nat} (h0 : fd_rd b pc 156) (h1 : fd_rd b (pc + 1) x) (h2 : fd_rd b (pc + 2) y) : decode b pc = .ok ((.ifCond .ge (Reader.signed 16 (x * 256 + y))), 3) := by
  obtain ⟨K, hK, hop⟩ : ∃ K : Nat → Reader DecodeError Instr, Decoder.instr pc = Reader.u1 >>= K ∧ K 156 = (Reader.s2 >>= fun u => fd_p (.ifCond .ge u)) := ⟨_, rfl, rfl⟩
  refine fd_end hK ?_
  rw [fd_u1 h0, hop, fd_s2 h1 h2]
  rfl
theorem fd_op_157 {b : ByteArray} {pc x y : Nat} (h0 : fd_rd b pc 157) (h1 : fd_rd b (pc + 1) x) (h2 : fd_rd b (pc + 2) y) : decode b pc = .ok ((.ifCond .gt (Reader.signed 16 (x * 256 + y))), 3) := by
  obtain ⟨K, hK, hop⟩ : ∃ K : Nat → Reader DecodeError Instr, Decoder.instr pc = Reader.u1 >>= K ∧ K 157 = (Reader.s2 >>= fun u => fd_p (.ifCond .gt u)) := ⟨_, rfl, rfl⟩
  refine fd_end hK ?_
  rw [fd_u1 h0, hop, fd_s2 h1 h2]
  rfl
theorem fd_op_158 {b : ByteArray} {pc x y : Nat} (h0 : fd_rd b pc 158) (h1 : fd_rd b (pc + 1) x) (h2 : fd_rd b (pc + 2) y) : decode b pc = .ok ((.ifCond .le (Reader.signed 16 (x * 256 + y))), 3) := by
  obtain ⟨K, hK, hop⟩ : ∃ K : Nat → Reader DecodeError Instr, Decoder.instr pc = Reader.u1 >>= K ∧ K 158 = (Reader.s2 >>= fun u => fd_p (.ifCond .le u)) := ⟨_, rfl, rfl⟩
  refine fd_end hK ?_
  rw [fd_u1 h0, hop, fd_s2 h1 h2]
  rfl
theorem fd_op_159 {b : ByteArray} {pc x y : Nat} (h0 : fd_rd b pc 159) (h1 : fd_rd b (pc + 1) x) (h2 : fd_rd b (pc + 2) y) : decode b pc = .ok ((.if_icmp .eq (Reader.signed 16 (x * 256 + y))), 3) := by
  obtain ⟨K, hK, hop⟩ : ∃ K : Nat → Reader DecodeError Instr, Decoder.instr pc = Reader.u1 >>= K ∧ K 159 = (Reader.s2 >>= fun u => fd_p (.if_icmp .eq u)) := ⟨_, rfl, rfl⟩
  refine fd_end hK ?_
  rw [fd_u1 h0, hop, fd_s2 h1 h2]
  rfl
theorem fd_op_160 {b : ByteArray} {pc x y : Nat} (h0 : fd_rd b pc 160) (h1 : fd_rd b (pc + 1) x) (h2 : fd_rd b (pc + 2) y) : decode b pc = .ok ((.if_icmp .ne (Reader.signed 16 (x * 256 + y))), 3) := by
  obtain ⟨K, hK, hop⟩ : ∃ K : Nat → Reader DecodeError Instr, Decoder.instr pc = Reader.u1 >>= K ∧ K 160 = (Reader.s2 >>= fun u => fd_p (.if_icmp .ne u)) := ⟨_, rfl, rfl⟩
  refine fd_end hK ?_
  rw [fd_u1 h0, hop, fd_s2 h1 h2]
  rfl
theorem fd_op_161 {b : ByteArray} {pc x y : Nat} (h0 : fd_rd b pc 161) (h1 : fd_rd b (pc + 1) x) (h2 : fd_rd b (pc + 2) y) : decode b pc = .ok ((.if_icmp .lt (Reader.signed 16 (x * 256 + y))), 3) := by
  obtain ⟨K, hK, hop⟩ : ∃ K : Nat → Reader DecodeError Instr, Decoder.instr pc = Reader.u1 >>= K ∧ K 161 = (Reader.s2 >>= fun u => fd_p (.if_icmp .lt u)) := ⟨_, rfl, rfl⟩
  refine fd_end hK ?_
  rw [fd_u1 h0, hop, fd_s2 h1 h2]
  rfl
theorem fd_op_162 {b : ByteArray} {pc x y : Nat} (h0 : fd_rd b pc 162) (h1 : fd_rd b (pc + 1) x) (h2 : fd_rd b (pc + 2) y) : decode b pc = .ok ((.if_icmp .ge (Reader.signed 16 (x * 256 + y))), 3) := by
  obtain ⟨K, hK, hop⟩ : ∃ K : Nat → Reader DecodeError Instr, Decoder.instr pc = Reader.u1 >>= K ∧ K 162 = (Reader.s2 >>= fun u => fd_p (.if_icmp .ge u)) := ⟨_, rfl, rfl⟩
  refine fd_end hK ?_
  rw [fd_u1 h0, hop, fd_s2 h1 h2]
  rfl
theorem fd_op_163 {b : ByteArray} {pc x y : Nat} (h0 : fd_rd b pc 163) (h1 : fd_rd b (pc + 1) x) (h2 : fd_rd b (pc + 2) y) : decode b pc = .ok ((.if_icmp .gt (Reader.signed 16 (x * 256 + y))), 3) := by
  obtain ⟨K, hK, hop⟩ : ∃ K : Nat → Reader DecodeError Instr, Decoder.instr pc = Reader.u1 >>= K ∧ K 163 = (Reader.s2 >>= fun u => fd_p (.if_icmp .gt u)) := ⟨_, rfl, rfl⟩
  refine fd_end hK ?_
  rw [fd_u1 h0, hop, fd_s2 h1 h2]
  rfl
theorem fd_op_164 {b : ByteArray} {pc x y : Nat} (h0 : fd_rd b pc 164) (h1 : fd_rd b (pc + 1) x) (h2 : fd_rd b (pc + 2) y) : decode b pc = .ok ((.if_icmp .le (Reader.signed 16 (x * 256 + y))), 3) := by
  obtain ⟨K, hK, hop⟩ : ∃ K : Nat → Reader DecodeError Instr, Decoder.instr pc = Reader.u1 >>= K ∧ K 164 = (Reader.s2 >>= fun u => fd_p (.if_icmp .le u)) := ⟨_, rfl, rfl⟩
  refine fd_end hK ?_
  rw [fd_u1 h0, hop, fd_s2 h1 h2]
  rfl
theorem fd_op_167 {b : ByteArray} {pc x y : Nat} (h0 : fd_rd b pc 167) (h1 : fd_rd b (pc + 1) x) (h2 : fd_rd b (pc + 2) y) : decode b pc = .ok ((.goto (Reader.signed 16 (x * 256 + y))), 3) := by
  obtain ⟨K, hK, hop⟩ : ∃ K : Nat → Reader DecodeError Instr, Decoder.instr pc = Reader.u1 >>= K ∧ K 167 = (Reader.s2 >>= fun u => fd_p (.goto u)) := ⟨_, rfl, rfl⟩
  refine fd_end hK ?_
  rw [fd_u1 h0, hop, fd_s2 h1 h2]
  rfl
theorem fd_op_172 {b : ByteArray} {pc : Nat} (h0 : fd_rd b pc 172) : decode b pc = .ok (.ireturn, 1) := by
  obtain ⟨K, hK, hop⟩ : ∃ K : Nat → Reader DecodeError Instr, Decoder.instr pc = Reader.u1 >>= K ∧ K 172 = fd_p .ireturn := ⟨_, rfl, rfl⟩
  refine fd_end hK ?_
  rw [fd_u1 h0, hop]
  rfl
theorem fd_op_173 {b : ByteArray} {pc : Nat} (h0 : fd_rd b pc 173) : decode b pc = .ok (.lreturn, 1) := by
  obtain ⟨K, hK, hop⟩ : ∃ K : Nat → Reader DecodeError Instr, Decoder.instr pc = Reader.u1 >>= K ∧ K 173 = fd_p .lreturn := ⟨_, rfl, rfl⟩
  refine fd_end hK ?_
  rw [fd_u1 h0, hop]
  rfl
theorem fd_op_177 {b : ByteArray} {pc : Nat} (h0 : fd_rd b pc 177) : decode b pc = .ok (.return_, 1) := by
  obtain ⟨K, hK, hop⟩ : ∃ K : Nat → Reader DecodeError Instr, Decoder.instr pc = Reader.u1 >>= K ∧ K 177 = fd_p .return_ := ⟨_, rfl, rfl⟩
  refine fd_end hK ?_
  rw [fd_u1 h0, hop]
  rfl
theorem fd_op_180 {b : ByteArray} {pc x y : Nat} (h0 : fd_rd b pc 180) (h1 : fd_rd b (pc + 1) x) (h2 : fd_rd b (pc + 2) y) : decode b pc = .ok ((.getfield (x * 256 + y)), 3) := by
  obtain ⟨K, hK, hop⟩ : ∃ K : Nat → Reader DecodeError Instr, Decoder.instr pc = Reader.u1 >>= K ∧ K 180 = (Reader.u2 >>= fun u => fd_p (.getfield u)) := ⟨_, rfl, rfl⟩
  refine fd_end hK ?_
  rw [fd_u1 h0, hop, fd_u2 h1 h2]
  rfl
theorem fd_op_181 {b : ByteArray} {pc x y : Nat} (h0 : fd_rd b pc 181) (h1 : fd_rd b (pc + 1) x) (h2 : fd_rd b (pc + 2) y) : decode b pc = .ok ((.putfield (x * 256 + y)), 3) := by
  obtain ⟨K, hK, hop⟩ : ∃ K : Nat → Reader DecodeError Instr, Decoder.instr pc = Reader.u1 >>= K ∧ K 181 = (Reader.u2 >>= fun u => fd_p (.putfield u)) := ⟨_, rfl, rfl⟩
  refine fd_end hK ?_
  rw [fd_u1 h0, hop, fd_u2 h1 h2]
  rfl
theorem fd_op_182 {b : ByteArray} {pc x y : Nat} (h0 : fd_rd b pc 182) (h1 : fd_rd b (pc + 1) x) (h2 : fd_rd b (pc + 2) y) : decode b pc = .ok ((.invokevirtual (x * 256 + y)), 3) := by
  obtain ⟨K, hK, hop⟩ : ∃ K : Nat → Reader DecodeError Instr, Decoder.instr pc = Reader.u1 >>= K ∧ K 182 = (Reader.u2 >>= fun u => fd_p (.invokevirtual u)) := ⟨_, rfl, rfl⟩
  refine fd_end hK ?_
  rw [fd_u1 h0, hop, fd_u2 h1 h2]
  rfl
theorem fd_op_184 {b : ByteArray} {pc x y : Nat} (h0 : fd_rd b pc 184) (h1 : fd_rd b (pc + 1) x) (h2 : fd_rd b (pc + 2) y) : decode b pc = .ok ((.invokestatic (x * 256 + y)), 3) := by
  obtain ⟨K, hK, hop⟩ : ∃ K : Nat → Reader DecodeError Instr, Decoder.instr pc = Reader.u1 >>= K ∧ K 184 = (Reader.u2 >>= fun u => fd_p (.invokestatic u)) := ⟨_, rfl, rfl⟩
  refine fd_end hK ?_
  rw [fd_u1 h0, hop, fd_u2 h1 h2]
  rfl
theorem fd_op_190 {b : ByteArray} {pc : Nat} (h0 : fd_rd b pc 190) : decode b pc = .ok (.arraylength, 1) := by
  obtain ⟨K, hK, hop⟩ : ∃ K : Nat → Reader DecodeError Instr, Decoder.instr pc = Reader.u1 >>= K ∧ K 190 = fd_p .arraylength := ⟨_, rfl, rfl⟩
  refine fd_end hK ?_
  rw [fd_u1 h0, hop]
  rfl
def fd_a1 (r : List Nat) (f : Nat → Option (Instr × Nat)) : Option (Instr × Nat) := match r with
  | x :: _ => f x
  | [] => none
def fd_a2 (r : List Nat) (f : Nat → Nat → Option (Instr × Nat)) : Option (Instr × Nat) := match r with
  | x :: y :: _ => f x y
  | _ => none
theorem fd_a1_some {r : List Nat} {f : Nat → Option (Instr × Nat)} {o} (h : fd_a1 r f = some o) : ∃ x, r[0]? = some x ∧ f x = some o := by
  unfold fd_a1 at h
  split at h
  · exact ⟨_, rfl, h⟩
  · cases h
theorem fd_a2_some {r : List Nat} {f : Nat → Nat → Option (Instr × Nat)} {o} (h : fd_a2 r f = some o) : ∃ x y, r[0]? = some x ∧ r[1]? = some y ∧ f x y = some o := by
  unfold fd_a2 at h
  split at h
  · exact ⟨_, _, rfl, rfl, h⟩
  · cases h
theorem qt_cnd {α : Type} {b : Bool} {x y : Option α} {i : α} {Q : Prop} (h1 : x = some i → Q) (h2 : y = some i → Q) : cond b x y = some i → Q := by
  cases b
  · exact h2
  · exact h1
theorem qt_non {α : Type} {i : α} {Q : Prop} : (none : Option α) = some i → Q := fun h => by cases h
theorem qt_leaf {α : Type} {k c : Nat} {x : Option α} {i : α} {Q : Nat → Prop} (h : x = some i → Q c) : cond (Nat.beq k c) x none = some i → Q k := by
  cases hb : Nat.beq k c
  · exact qt_non
  · rw [Nat.eq_of_beq_eq_true hb]
    exact h
def fd_dec (op : Nat) (r : List Nat) : Option (Instr × Nat) := (cond (Nat.ble 87 op) (cond (Nat.ble 132 op) (cond (Nat.ble 161 op) (cond (Nat.ble 173 op) (cond (Nat.ble 181 op) (cond (Nat.ble 184 op) (cond (Nat.ble 190 op) (cond (Nat.beq op 190) (some (.arraylength, 1)) none) (cond (Nat.beq op 184) (fd_a2 r fun x y => some ((.invokestatic (x * 256 + y)), 3)) none)) (cond (Nat.ble 182 op) (cond (Nat.beq op 182) (fd_a2 r fun x y => some ((.invokevirtual (x * 256 + y)), 3)) none) (cond (Nat.beq op 181) (fd_a2 r fun x y => some ((.putfield (x * 256 + y)), 3)) none))) (cond (Nat.ble 177 op) (cond (Nat.ble 180 op) (cond (Nat.beq op 180) (fd_a2 r fun x y => some ((.getfield (x * 256 + y)), 3)) none) (cond (Nat.beq op 177) (some (.return_, 1)) none)) (cond (Nat.beq op 173) (some (.lreturn, 1)) none))) (cond (Nat.ble 164 op) (cond (Nat.ble 167 op) (cond (Nat.ble 172 op) (cond (Nat.beq op 172) (some (.ireturn, 1)) none) (cond (Nat.beq op 167) (fd_a2 r fun x y => some ((.goto (Reader.signed 16 (x * 256 + y))), 3)) none)) (cond (Nat.beq op 164) (fd_a2 r fun x y => some ((.if_icmp .le (Reader.signed 16 (x * 256 + y))), 3)) none)) (cond (Nat.ble 162 op) (cond (Nat.ble 163 op) (cond (Nat.beq op 163) (fd_a2 r fun x y => some ((.if_icmp .gt (Reader.signed 16 (x * 256 + y))), 3)) none) (cond (Nat.beq op 162) (fd_a2 r fun x y => some ((.if_icmp .ge (Reader.signed 16 (x * 256 + y))), 3)) none)) (cond (Nat.beq op 161) (fd_a2 r fun x y => some ((.if_icmp .lt (Reader.signed 16 (x * 256 + y))), 3)) none)))) (cond (Nat.ble 154 op) (cond (Nat.ble 157 op) (cond (Nat.ble 159 op) (cond (Nat.ble 160 op) (cond (Nat.beq op 160) (fd_a2 r fun x y => some ((.if_icmp .ne (Reader.signed 16 (x * 256 + y))), 3)) none) (cond (Nat.beq op 159) (fd_a2 r fun x y => some ((.if_icmp .eq (Reader.signed 16 (x * 256 + y))), 3)) none)) (cond (Nat.ble 158 op) (cond (Nat.beq op 158) (fd_a2 r fun x y => some ((.ifCond .le (Reader.signed 16 (x * 256 + y))), 3)) none) (cond (Nat.beq op 157) (fd_a2 r fun x y => some ((.ifCond .gt (Reader.signed 16 (x * 256 + y))), 3)) none))) (cond (Nat.ble 155 op) (cond (Nat.ble 156 op) (cond (Nat.beq op 156) (fd_a2 r fun x y => some ((.ifCond .ge (Reader.signed 16 (x * 256 + y))), 3)) none) (cond (Nat.beq op 155) (fd_a2 r fun x y => some ((.ifCond .lt (Reader.signed 16 (x * 256 + y))), 3)) none)) (cond (Nat.beq op 154) (fd_a2 r fun x y => some ((.ifCond .ne (Reader.signed 16 (x * 256 + y))), 3)) none))) (cond (Nat.ble 146 op) (cond (Nat.ble 148 op) (cond (Nat.ble 153 op) (cond (Nat.beq op 153) (fd_a2 r fun x y => some ((.ifCond .eq (Reader.signed 16 (x * 256 + y))), 3)) none) (cond (Nat.beq op 148) (some (.lcmp, 1)) none)) (cond (Nat.beq op 146) (some (.i2c, 1)) none)) (cond (Nat.ble 133 op) (cond (Nat.ble 136 op) (cond (Nat.beq op 136) (some (.l2i, 1)) none) (cond (Nat.beq op 133) (some (.i2l, 1)) none)) (cond (Nat.beq op 132) (fd_a2 r fun x y => some ((.iinc x (Reader.signed 8 y)), 3)) none))))) (cond (Nat.ble 113 op) (cond (Nat.ble 124 op) (cond (Nat.ble 128 op) (cond (Nat.ble 130 op) (cond (Nat.ble 131 op) (cond (Nat.beq op 131) (some (.lxor, 1)) none) (cond (Nat.beq op 130) (some (.ixor, 1)) none)) (cond (Nat.ble 129 op) (cond (Nat.beq op 129) (some (.lor, 1)) none) (cond (Nat.beq op 128) (some (.ior, 1)) none))) (cond (Nat.ble 126 op) (cond (Nat.ble 127 op) (cond (Nat.beq op 127) (some (.land, 1)) none) (cond (Nat.beq op 126) (some (.iand, 1)) none)) (cond (Nat.beq op 124) (some (.iushr, 1)) none))) (cond (Nat.ble 121 op) (cond (Nat.ble 122 op) (cond (Nat.ble 123 op) (cond (Nat.beq op 123) (some (.lshr, 1)) none) (cond (Nat.beq op 122) (some (.ishr, 1)) none)) (cond (Nat.beq op 121) (some (.lshl, 1)) none)) (cond (Nat.ble 116 op) (cond (Nat.ble 120 op) (cond (Nat.beq op 120) (some (.ishl, 1)) none) (cond (Nat.beq op 116) (some (.ineg, 1)) none)) (cond (Nat.beq op 113) (some (.lrem, 1)) none)))) (cond (Nat.ble 101 op) (cond (Nat.ble 108 op) (cond (Nat.ble 109 op) (cond (Nat.ble 112 op) (cond (Nat.beq op 112) (some (.irem, 1)) none) (cond (Nat.beq op 109) (some (.ldiv, 1)) none)) (cond (Nat.beq op 108) (some (.idiv, 1)) none)) (cond (Nat.ble 104 op) (cond (Nat.ble 105 op) (cond (Nat.beq op 105) (some (.lmul, 1)) none) (cond (Nat.beq op 104) (some (.imul, 1)) none)) (cond (Nat.beq op 101) (some (.lsub, 1)) none))) (cond (Nat.ble 96 op) (cond (Nat.ble 97 op) (cond (Nat.ble 100 op) (cond (Nat.beq op 100) (some (.isub, 1)) none) (cond (Nat.beq op 97) (some (.ladd, 1)) none)) (cond (Nat.beq op 96) (some (.iadd, 1)) none)) (cond (Nat.ble 89 op) (cond (Nat.ble 92 op) (cond (Nat.beq op 92) (some (.dup2, 1)) none) (cond (Nat.beq op 89) (some (.dup, 1)) none)) (cond (Nat.beq op 87) (some (.pop, 1)) none)))))) (cond (Nat.ble 43 op) (cond (Nat.ble 62 op) (cond (Nat.ble 76 op) (cond (Nat.ble 79 op) (cond (Nat.ble 84 op) (cond (Nat.ble 85 op) (cond (Nat.beq op 85) (some (.castore, 1)) none) (cond (Nat.beq op 84) (some (.bastore, 1)) none)) (cond (Nat.ble 80 op) (cond (Nat.beq op 80) (some (.lastore, 1)) none) (cond (Nat.beq op 79) (some (.iastore, 1)) none))) (cond (Nat.ble 77 op) (cond (Nat.ble 78 op) (cond (Nat.beq op 78) (some ((.astore_n 3), 1)) none) (cond (Nat.beq op 77) (some ((.astore_n 2), 1)) none)) (cond (Nat.beq op 76) (some ((.astore_n 1), 1)) none))) (cond (Nat.ble 65 op) (cond (Nat.ble 66 op) (cond (Nat.ble 75 op) (cond (Nat.beq op 75) (some ((.astore_n 0), 1)) none) (cond (Nat.beq op 66) (some ((.lstore_n 3), 1)) none)) (cond (Nat.beq op 65) (some ((.lstore_n 2), 1)) none)) (cond (Nat.ble 63 op) (cond (Nat.ble 64 op) (cond (Nat.beq op 64) (some ((.lstore_n 1), 1)) none) (cond (Nat.beq op 63) (some ((.lstore_n 0), 1)) none)) (cond (Nat.beq op 62) (some ((.istore_n 3), 1)) none)))) (cond (Nat.ble 52 op) (cond (Nat.ble 59 op) (cond (Nat.ble 60 op) (cond (Nat.ble 61 op) (cond (Nat.beq op 61) (some ((.istore_n 2), 1)) none) (cond (Nat.beq op 60) (some ((.istore_n 1), 1)) none)) (cond (Nat.beq op 59) (some ((.istore_n 0), 1)) none)) (cond (Nat.ble 54 op) (cond (Nat.ble 55 op) (cond (Nat.beq op 55) (fd_a1 r fun x => some ((.lstore x), 2)) none) (cond (Nat.beq op 54) (fd_a1 r fun x => some ((.istore x), 2)) none)) (cond (Nat.beq op 52) (some (.caload, 1)) none))) (cond (Nat.ble 46 op) (cond (Nat.ble 47 op) (cond (Nat.ble 51 op) (cond (Nat.beq op 51) (some (.baload, 1)) none) (cond (Nat.beq op 47) (some (.laload, 1)) none)) (cond (Nat.beq op 46) (some (.iaload, 1)) none)) (cond (Nat.ble 44 op) (cond (Nat.ble 45 op) (cond (Nat.beq op 45) (some ((.aload_n 3), 1)) none) (cond (Nat.beq op 44) (some ((.aload_n 2), 1)) none)) (cond (Nat.beq op 43) (some ((.aload_n 1), 1)) none))))) (cond (Nat.ble 19 op) (cond (Nat.ble 28 op) (cond (Nat.ble 31 op) (cond (Nat.ble 33 op) (cond (Nat.ble 42 op) (cond (Nat.beq op 42) (some ((.aload_n 0), 1)) none) (cond (Nat.beq op 33) (some ((.lload_n 3), 1)) none)) (cond (Nat.ble 32 op) (cond (Nat.beq op 32) (some ((.lload_n 2), 1)) none) (cond (Nat.beq op 31) (some ((.lload_n 1), 1)) none))) (cond (Nat.ble 29 op) (cond (Nat.ble 30 op) (cond (Nat.beq op 30) (some ((.lload_n 0), 1)) none) (cond (Nat.beq op 29) (some ((.iload_n 3), 1)) none)) (cond (Nat.beq op 28) (some ((.iload_n 2), 1)) none))) (cond (Nat.ble 22 op) (cond (Nat.ble 26 op) (cond (Nat.ble 27 op) (cond (Nat.beq op 27) (some ((.iload_n 1), 1)) none) (cond (Nat.beq op 26) (some ((.iload_n 0), 1)) none)) (cond (Nat.beq op 22) (fd_a1 r fun x => some ((.lload x), 2)) none)) (cond (Nat.ble 20 op) (cond (Nat.ble 21 op) (cond (Nat.beq op 21) (fd_a1 r fun x => some ((.iload x), 2)) none) (cond (Nat.beq op 20) (fd_a2 r fun x y => some ((.ldc2_w (x * 256 + y)), 3)) none)) (cond (Nat.beq op 19) (fd_a2 r fun x y => some ((.ldc_w (x * 256 + y)), 3)) none)))) (cond (Nat.ble 8 op) (cond (Nat.ble 16 op) (cond (Nat.ble 17 op) (cond (Nat.ble 18 op) (cond (Nat.beq op 18) (fd_a1 r fun x => some ((.ldc x), 2)) none) (cond (Nat.beq op 17) (fd_a2 r fun x y => some ((.sipush (Reader.signed 16 (x * 256 + y))), 3)) none)) (cond (Nat.beq op 16) (fd_a1 r fun x => some ((.bipush (Reader.signed 8 x)), 2)) none)) (cond (Nat.ble 9 op) (cond (Nat.ble 10 op) (cond (Nat.beq op 10) (some ((.lconst 1), 1)) none) (cond (Nat.beq op 9) (some ((.lconst 0), 1)) none)) (cond (Nat.beq op 8) (some ((.iconst 5), 1)) none))) (cond (Nat.ble 5 op) (cond (Nat.ble 6 op) (cond (Nat.ble 7 op) (cond (Nat.beq op 7) (some ((.iconst 4), 1)) none) (cond (Nat.beq op 6) (some ((.iconst 3), 1)) none)) (cond (Nat.beq op 5) (some ((.iconst 2), 1)) none)) (cond (Nat.ble 3 op) (cond (Nat.ble 4 op) (cond (Nat.beq op 4) (some ((.iconst 1), 1)) none) (cond (Nat.beq op 3) (some ((.iconst 0), 1)) none)) (cond (Nat.beq op 2) (some ((.iconst (-1)), 1)) none)))))))
theorem fd_sound {b : ByteArray} {pc op : Nat} {r : List Nat} {res : Instr × Nat} (hr : ∀ i x, r[i]? = some x → fd_rd b (pc + (i + 1)) x) : fd_dec op r = some res → fd_rd b pc op → decode b pc = .ok res := (qt_cnd (qt_cnd (qt_cnd (qt_cnd (qt_cnd (qt_cnd (qt_cnd (qt_leaf (Q := fun op => fd_rd b pc op → decode b pc = .ok res) (fun h h0 => by cases h; exact fd_op_190 h0)) (qt_leaf (Q := fun op => fd_rd b pc op → decode b pc = .ok res) (fun h h0 => by obtain ⟨x, y, q1, q2, h⟩ := fd_a2_some h; cases h; exact fd_op_184 h0 (hr 0 _ q1) (hr 1 _ q2)))) (qt_cnd (qt_leaf (Q := fun op => fd_rd b pc op → decode b pc = .ok res) (fun h h0 => by obtain ⟨x, y, q1, q2, h⟩ := fd_a2_some h; cases h; exact fd_op_182 h0 (hr 0 _ q1) (hr 1 _ q2))) (qt_leaf (Q := fun op => fd_rd b pc op → decode b pc = .ok res) (fun h h0 => by obtain ⟨x, y, q1, q2, h⟩ := fd_a2_some h; cases h; exact fd_op_181 h0 (hr 0 _ q1) (hr 1 _ q2))))) (qt_cnd (qt_cnd (qt_leaf (Q := fun op => fd_rd b pc op → decode b pc = .ok res) (fun h h0 => by obtain ⟨x, y, q1, q2, h⟩ := fd_a2_some h; cases h; exact fd_op_180 h0 (hr 0 _ q1) (hr 1 _ q2))) (qt_leaf (Q := fun op => fd_rd b pc op → decode b pc = .ok res) (fun h h0 => by cases h; exact fd_op_177 h0))) (qt_leaf (Q := fun op => fd_rd b pc op → decode b pc = .ok res) (fun h h0 => by cases h; exact fd_op_173 h0)))) (qt_cnd (qt_cnd (qt_cnd (qt_leaf (Q := fun op => fd_rd b pc op → decode b pc = .ok res) (fun h h0 => by cases h; exact fd_op_172 h0)) (qt_leaf (Q := fun op => fd_rd b pc op → decode b pc = .ok res) (fun h h0 => by obtain ⟨x, y, q1, q2, h⟩ := fd_a2_some h; cases h; exact fd_op_167 h0 (hr 0 _ q1) (hr 1 _ q2)))) (qt_leaf (Q := fun op => fd_rd b pc op → decode b pc = .ok res) (fun h h0 => by obtain ⟨x, y, q1, q2, h⟩ := fd_a2_some h; cases h; exact fd_op_164 h0 (hr 0 _ q1) (hr 1 _ q2)))) (qt_cnd (qt_cnd (qt_leaf (Q := fun op => fd_rd b pc op → decode b pc = .ok res) (fun h h0 => by obtain ⟨x, y, q1, q2, h⟩ := fd_a2_some h; cases h; exact fd_op_163 h0 (hr 0 _ q1) (hr 1 _ q2))) (qt_leaf (Q := fun op => fd_rd b pc op → decode b pc = .ok res) (fun h h0 => by obtain ⟨x, y, q1, q2, h⟩ := fd_a2_some h; cases h; exact fd_op_162 h0 (hr 0 _ q1) (hr 1 _ q2)))) (qt_leaf (Q := fun op => fd_rd b pc op → decode b pc = .ok res) (fun h h0 => by obtain ⟨x, y, q1, q2, h⟩ := fd_a2_some h; cases h; exact fd_op_161 h0 (hr 0 _ q1) (hr 1 _ q2)))))) (qt_cnd (qt_cnd (qt_cnd (qt_cnd (qt_leaf (Q := fun op => fd_rd b pc op → decode b pc = .ok res) (fun h h0 => by obtain ⟨x, y, q1, q2, h⟩ := fd_a2_some h; cases h; exact fd_op_160 h0 (hr 0 _ q1) (hr 1 _ q2))) (qt_leaf (Q := fun op => fd_rd b pc op → decode b pc = .ok res) (fun h h0 => by obtain ⟨x, y, q1, q2, h⟩ := fd_a2_some h; cases h; exact fd_op_159 h0 (hr 0 _ q1) (hr 1 _ q2)))) (qt_cnd (qt_leaf (Q := fun op => fd_rd b pc op → decode b pc = .ok res) (fun h h0 => by obtain ⟨x, y, q1, q2, h⟩ := fd_a2_some h; cases h; exact fd_op_158 h0 (hr 0 _ q1) (hr 1 _ q2))) (qt_leaf (Q := fun op => fd_rd b pc op → decode b pc = .ok res) (fun h h0 => by obtain ⟨x, y, q1, q2, h⟩ := fd_a2_some h; cases h; exact fd_op_157 h0 (hr 0 _ q1) (hr 1 _ q2))))) (qt_cnd (qt_cnd (qt_leaf (Q := fun op => fd_rd b pc op → decode b pc = .ok res) (fun h h0 => by obtain ⟨x, y, q1, q2, h⟩ := fd_a2_some h; cases h; exact fd_op_156 h0 (hr 0 _ q1) (hr 1 _ q2))) (qt_leaf (Q := fun op => fd_rd b pc op → decode b pc = .ok res) (fun h h0 => by obtain ⟨x, y, q1, q2, h⟩ := fd_a2_some h; cases h; exact fd_op_155 h0 (hr 0 _ q1) (hr 1 _ q2)))) (qt_leaf (Q := fun op => fd_rd b pc op → decode b pc = .ok res) (fun h h0 => by obtain ⟨x, y, q1, q2, h⟩ := fd_a2_some h; cases h; exact fd_op_154 h0 (hr 0 _ q1) (hr 1 _ q2))))) (qt_cnd (qt_cnd (qt_cnd (qt_leaf (Q := fun op => fd_rd b pc op → decode b pc = .ok res) (fun h h0 => by obtain ⟨x, y, q1, q2, h⟩ := fd_a2_some h; cases h; exact fd_op_153 h0 (hr 0 _ q1) (hr 1 _ q2))) (qt_leaf (Q := fun op => fd_rd b pc op → decode b pc = .ok res) (fun h h0 => by cases h; exact fd_op_148 h0))) (qt_leaf (Q := fun op => fd_rd b pc op → decode b pc = .ok res) (fun h h0 => by cases h; exact fd_op_146 h0))) (qt_cnd (qt_cnd (qt_leaf (Q := fun op => fd_rd b pc op → decode b pc = .ok res) (fun h h0 => by cases h; exact fd_op_136 h0)) (qt_leaf (Q := fun op => fd_rd b pc op → decode b pc = .ok res) (fun h h0 => by cases h; exact fd_op_133 h0))) (qt_leaf (Q := fun op => fd_rd b pc op → decode b pc = .ok res) (fun h h0 => by obtain ⟨x, y, q1, q2, h⟩ := fd_a2_some h; cases h; exact fd_op_132 h0 (hr 0 _ q1) (hr 1 _ q2))))))) (qt_cnd (qt_cnd (qt_cnd (qt_cnd (qt_cnd (qt_leaf (Q := fun op => fd_rd b pc op → decode b pc = .ok res) (fun h h0 => by cases h; exact fd_op_131 h0)) (qt_leaf (Q := fun op => fd_rd b pc op → decode b pc = .ok res) (fun h h0 => by cases h; exact fd_op_130 h0))) (qt_cnd (qt_leaf (Q := fun op => fd_rd b pc op → decode b pc = .ok res) (fun h h0 => by cases h; exact fd_op_129 h0)) (qt_leaf (Q := fun op => fd_rd b pc op → decode b pc = .ok res) (fun h h0 => by cases h; exact fd_op_128 h0)))) (qt_cnd (qt_cnd (qt_leaf (Q := fun op => fd_rd b pc op → decode b pc = .ok res) (fun h h0 => by cases h; exact fd_op_127 h0)) (qt_leaf (Q := fun op => fd_rd b pc op → decode b pc = .ok res) (fun h h0 => by cases h; exact fd_op_126 h0))) (qt_leaf (Q := fun op => fd_rd b pc op → decode b pc = .ok res) (fun h h0 => by cases h; exact fd_op_124 h0)))) (qt_cnd (qt_cnd (qt_cnd (qt_leaf (Q := fun op => fd_rd b pc op → decode b pc = .ok res) (fun h h0 => by cases h; exact fd_op_123 h0)) (qt_leaf (Q := fun op => fd_rd b pc op → decode b pc = .ok res) (fun h h0 => by cases h; exact fd_op_122 h0))) (qt_leaf (Q := fun op => fd_rd b pc op → decode b pc = .ok res) (fun h h0 => by cases h; exact fd_op_121 h0))) (qt_cnd (qt_cnd (qt_leaf (Q := fun op => fd_rd b pc op → decode b pc = .ok res) (fun h h0 => by cases h; exact fd_op_120 h0)) (qt_leaf (Q := fun op => fd_rd b pc op → decode b pc = .ok res) (fun h h0 => by cases h; exact fd_op_116 h0))) (qt_leaf (Q := fun op => fd_rd b pc op → decode b pc = .ok res) (fun h h0 => by cases h; exact fd_op_113 h0))))) (qt_cnd (qt_cnd (qt_cnd (qt_cnd (qt_leaf (Q := fun op => fd_rd b pc op → decode b pc = .ok res) (fun h h0 => by cases h; exact fd_op_112 h0)) (qt_leaf (Q := fun op => fd_rd b pc op → decode b pc = .ok res) (fun h h0 => by cases h; exact fd_op_109 h0))) (qt_leaf (Q := fun op => fd_rd b pc op → decode b pc = .ok res) (fun h h0 => by cases h; exact fd_op_108 h0))) (qt_cnd (qt_cnd (qt_leaf (Q := fun op => fd_rd b pc op → decode b pc = .ok res) (fun h h0 => by cases h; exact fd_op_105 h0)) (qt_leaf (Q := fun op => fd_rd b pc op → decode b pc = .ok res) (fun h h0 => by cases h; exact fd_op_104 h0))) (qt_leaf (Q := fun op => fd_rd b pc op → decode b pc = .ok res) (fun h h0 => by cases h; exact fd_op_101 h0)))) (qt_cnd (qt_cnd (qt_cnd (qt_leaf (Q := fun op => fd_rd b pc op → decode b pc = .ok res) (fun h h0 => by cases h; exact fd_op_100 h0)) (qt_leaf (Q := fun op => fd_rd b pc op → decode b pc = .ok res) (fun h h0 => by cases h; exact fd_op_97 h0))) (qt_leaf (Q := fun op => fd_rd b pc op → decode b pc = .ok res) (fun h h0 => by cases h; exact fd_op_96 h0))) (qt_cnd (qt_cnd (qt_leaf (Q := fun op => fd_rd b pc op → decode b pc = .ok res) (fun h h0 => by cases h; exact fd_op_92 h0)) (qt_leaf (Q := fun op => fd_rd b pc op → decode b pc = .ok res) (fun h h0 => by cases h; exact fd_op_89 h0))) (qt_leaf (Q := fun op => fd_rd b pc op → decode b pc = .ok res) (fun h h0 => by cases h; exact fd_op_87 h0))))))) (qt_cnd (qt_cnd (qt_cnd (qt_cnd (qt_cnd (qt_cnd (qt_leaf (Q := fun op => fd_rd b pc op → decode b pc = .ok res) (fun h h0 => by cases h; exact fd_op_85 h0)) (qt_leaf (Q := fun op => fd_rd b pc op → decode b pc = .ok res) (fun h h0 => by cases h; exact fd_op_84 h0))) (qt_cnd (qt_leaf (Q := fun op => fd_rd b pc op → decode b pc = .ok res) (fun h h0 => by cases h; exact fd_op_80 h0)) (qt_leaf (Q := fun op => fd_rd b pc op → decode b pc = .ok res) (fun h h0 => by cases h; exact fd_op_79 h0)))) (qt_cnd (qt_cnd (qt_leaf (Q := fun op => fd_rd b pc op → decode b pc = .ok res) (fun h h0 => by cases h; exact fd_op_78 h0)) (qt_leaf (Q := fun op => fd_rd b pc op → decode b pc = .ok res) (fun h h0 => by cases h; exact fd_op_77 h0))) (qt_leaf (Q := fun op => fd_rd b pc op → decode b pc = .ok res) (fun h h0 => by cases h; exact fd_op_76 h0)))) (qt_cnd (qt_cnd (qt_cnd (qt_leaf (Q := fun op => fd_rd b pc op → decode b pc = .ok res) (fun h h0 => by cases h; exact fd_op_75 h0)) (qt_leaf (Q := fun op => fd_rd b pc op → decode b pc = .ok res) (fun h h0 => by cases h; exact fd_op_66 h0))) (qt_leaf (Q := fun op => fd_rd b pc op → decode b pc = .ok res) (fun h h0 => by cases h; exact fd_op_65 h0))) (qt_cnd (qt_cnd (qt_leaf (Q := fun op => fd_rd b pc op → decode b pc = .ok res) (fun h h0 => by cases h; exact fd_op_64 h0)) (qt_leaf (Q := fun op => fd_rd b pc op → decode b pc = .ok res) (fun h h0 => by cases h; exact fd_op_63 h0))) (qt_leaf (Q := fun op => fd_rd b pc op → decode b pc = .ok res) (fun h h0 => by cases h; exact fd_op_62 h0))))) (qt_cnd (qt_cnd (qt_cnd (qt_cnd (qt_leaf (Q := fun op => fd_rd b pc op → decode b pc = .ok res) (fun h h0 => by cases h; exact fd_op_61 h0)) (qt_leaf (Q := fun op => fd_rd b pc op → decode b pc = .ok res) (fun h h0 => by cases h; exact fd_op_60 h0))) (qt_leaf (Q := fun op => fd_rd b pc op → decode b pc = .ok res) (fun h h0 => by cases h; exact fd_op_59 h0))) (qt_cnd (qt_cnd (qt_leaf (Q := fun op => fd_rd b pc op → decode b pc = .ok res) (fun h h0 => by obtain ⟨x, q1, h⟩ := fd_a1_some h; cases h; exact fd_op_55 h0 (hr 0 _ q1))) (qt_leaf (Q := fun op => fd_rd b pc op → decode b pc = .ok res) (fun h h0 => by obtain ⟨x, q1, h⟩ := fd_a1_some h; cases h; exact fd_op_54 h0 (hr 0 _ q1)))) (qt_leaf (Q := fun op => fd_rd b pc op → decode b pc = .ok res) (fun h h0 => by cases h; exact fd_op_52 h0)))) (qt_cnd (qt_cnd (qt_cnd (qt_leaf (Q := fun op => fd_rd b pc op → decode b pc = .ok res) (fun h h0 => by cases h; exact fd_op_51 h0)) (qt_leaf (Q := fun op => fd_rd b pc op → decode b pc = .ok res) (fun h h0 => by cases h; exact fd_op_47 h0))) (qt_leaf (Q := fun op => fd_rd b pc op → decode b pc = .ok res) (fun h h0 => by cases h; exact fd_op_46 h0))) (qt_cnd (qt_cnd (qt_leaf (Q := fun op => fd_rd b pc op → decode b pc = .ok res) (fun h h0 => by cases h; exact fd_op_45 h0)) (qt_leaf (Q := fun op => fd_rd b pc op → decode b pc = .ok res) (fun h h0 => by cases h; exact fd_op_44 h0))) (qt_leaf (Q := fun op => fd_rd b pc op → decode b pc = .ok res) (fun h h0 => by cases h; exact fd_op_43 h0)))))) (qt_cnd (qt_cnd (qt_cnd (qt_cnd (qt_cnd (qt_leaf (Q := fun op => fd_rd b pc op → decode b pc = .ok res) (fun h h0 => by cases h; exact fd_op_42 h0)) (qt_leaf (Q := fun op => fd_rd b pc op → decode b pc = .ok res) (fun h h0 => by cases h; exact fd_op_33 h0))) (qt_cnd (qt_leaf (Q := fun op => fd_rd b pc op → decode b pc = .ok res) (fun h h0 => by cases h; exact fd_op_32 h0)) (qt_leaf (Q := fun op => fd_rd b pc op → decode b pc = .ok res) (fun h h0 => by cases h; exact fd_op_31 h0)))) (qt_cnd (qt_cnd (qt_leaf (Q := fun op => fd_rd b pc op → decode b pc = .ok res) (fun h h0 => by cases h; exact fd_op_30 h0)) (qt_leaf (Q := fun op => fd_rd b pc op → decode b pc = .ok res) (fun h h0 => by cases h; exact fd_op_29 h0))) (qt_leaf (Q := fun op => fd_rd b pc op → decode b pc = .ok res) (fun h h0 => by cases h; exact fd_op_28 h0)))) (qt_cnd (qt_cnd (qt_cnd (qt_leaf (Q := fun op => fd_rd b pc op → decode b pc = .ok res) (fun h h0 => by cases h; exact fd_op_27 h0)) (qt_leaf (Q := fun op => fd_rd b pc op → decode b pc = .ok res) (fun h h0 => by cases h; exact fd_op_26 h0))) (qt_leaf (Q := fun op => fd_rd b pc op → decode b pc = .ok res) (fun h h0 => by obtain ⟨x, q1, h⟩ := fd_a1_some h; cases h; exact fd_op_22 h0 (hr 0 _ q1)))) (qt_cnd (qt_cnd (qt_leaf (Q := fun op => fd_rd b pc op → decode b pc = .ok res) (fun h h0 => by obtain ⟨x, q1, h⟩ := fd_a1_some h; cases h; exact fd_op_21 h0 (hr 0 _ q1))) (qt_leaf (Q := fun op => fd_rd b pc op → decode b pc = .ok res) (fun h h0 => by obtain ⟨x, y, q1, q2, h⟩ := fd_a2_some h; cases h; exact fd_op_20 h0 (hr 0 _ q1) (hr 1 _ q2)))) (qt_leaf (Q := fun op => fd_rd b pc op → decode b pc = .ok res) (fun h h0 => by obtain ⟨x, y, q1, q2, h⟩ := fd_a2_some h; cases h; exact fd_op_19 h0 (hr 0 _ q1) (hr 1 _ q2)))))) (qt_cnd (qt_cnd (qt_cnd (qt_cnd (qt_leaf (Q := fun op => fd_rd b pc op → decode b pc = .ok res) (fun h h0 => by obtain ⟨x, q1, h⟩ := fd_a1_some h; cases h; exact fd_op_18 h0 (hr 0 _ q1))) (qt_leaf (Q := fun op => fd_rd b pc op → decode b pc = .ok res) (fun h h0 => by obtain ⟨x, y, q1, q2, h⟩ := fd_a2_some h; cases h; exact fd_op_17 h0 (hr 0 _ q1) (hr 1 _ q2)))) (qt_leaf (Q := fun op => fd_rd b pc op → decode b pc = .ok res) (fun h h0 => by obtain ⟨x, q1, h⟩ := fd_a1_some h; cases h; exact fd_op_16 h0 (hr 0 _ q1)))) (qt_cnd (qt_cnd (qt_leaf (Q := fun op => fd_rd b pc op → decode b pc = .ok res) (fun h h0 => by cases h; exact fd_op_10 h0)) (qt_leaf (Q := fun op => fd_rd b pc op → decode b pc = .ok res) (fun h h0 => by cases h; exact fd_op_9 h0))) (qt_leaf (Q := fun op => fd_rd b pc op → decode b pc = .ok res) (fun h h0 => by cases h; exact fd_op_8 h0)))) (qt_cnd (qt_cnd (qt_cnd (qt_leaf (Q := fun op => fd_rd b pc op → decode b pc = .ok res) (fun h h0 => by cases h; exact fd_op_7 h0)) (qt_leaf (Q := fun op => fd_rd b pc op → decode b pc = .ok res) (fun h h0 => by cases h; exact fd_op_6 h0))) (qt_leaf (Q := fun op => fd_rd b pc op → decode b pc = .ok res) (fun h h0 => by cases h; exact fd_op_5 h0))) (qt_cnd (qt_cnd (qt_leaf (Q := fun op => fd_rd b pc op → decode b pc = .ok res) (fun h h0 => by cases h; exact fd_op_4 h0)) (qt_leaf (Q := fun op => fd_rd b pc op → decode b pc = .ok res) (fun h h0 => by cases h; exact fd_op_3 h0))) (qt_leaf (Q := fun op => fd_rd b pc op → decode b pc = .ok res) (fun h h0 => by cases h; exact fd_op_2 h0))))))))
def fd_isSw : Instr → Bool
  | .tableswitch _ _ _ _ => true
  | .lookupswitch _ _ => true
  | _ => false
def fd_walk (f : Nat → Option Instr) : Nat → List Nat → Bool
  | _, [] => true
  | pc, op :: r => (match f pc with
    | none => true
    | some i => bif fd_isSw i then true else match fd_dec op r with
      | some (i', len) => decide (i' = i) && (Nat.beq (qm_len i) 0 || Nat.beq len (qm_len i))
      | none => false) && fd_walk f (pc + 1) r
theorem fd_walk_at {f : Nat → Option Instr} : ∀ (l : List Nat) (p : Nat), fd_walk f p l = true → ∀ (j : Nat) (i : Instr), j < l.length → f (p + j) = some i → fd_isSw i = false → ∃ op r i' len, l.drop j = op :: r ∧ fd_dec op r = some (i', len) ∧ i' = i ∧ (qm_len i = 0 ∨ len = qm_len i)
  | [], _, _, j, _, hj, _, _ => by cases hj
  | op :: r, p, h, 0, i, _, hi, hs => by
    unfold fd_walk at h
    rw [Bool.and_eq_true] at h
    have h1 := h.1
    have hi : f p = some i := hi
    rw [hi] at h1
    simp only [hs, cond_false] at h1
    cases hd : fd_dec op r with
    | none => rw [hd] at h1; cases h1
    | some q =>
      obtain ⟨i', len⟩ := q
      rw [hd] at h1
      simp only [Bool.and_eq_true, Bool.or_eq_true, decide_eq_true_eq] at h1
      refine ⟨op, r, i', len, rfl, hd, h1.1, ?_⟩
      rcases h1.2 with h2 | h2
      · exact Or.inl (Nat.eq_of_beq_eq_true h2)
      · exact Or.inr (Nat.eq_of_beq_eq_true h2)
  | op :: r, p, h, j + 1, i, hj, hi, hs => by
    unfold fd_walk at h
    rw [Bool.and_eq_true] at h
    exact fd_walk_at r (p + 1) h.2 j i (Nat.lt_of_succ_lt_succ hj) (by rw [show p + 1 + j = p + (j + 1) by omega]; exact hi) hs
def fd_bytes (b : ByteArray) : List Nat := b.data.toList.map UInt8.toNat
theorem fd_rd_of {b : ByteArray} {p x : Nat} (h : (fd_bytes b)[p]? = some x) : fd_rd b p x := by
  unfold fd_bytes at h
  rw [List.getElem?_map] at h
  cases hv : b.data.toList[p]? with
  | none => rw [hv] at h; cases h
  | some v =>
    rw [hv] at h
    cases h
    obtain ⟨h1, h2⟩ := List.getElem?_eq_some_iff.mp hv
    refine ⟨h1, ?_⟩
    rw [← h2]
    rfl
def qt_ok {ε : Type} (f : Option Instr) (d : Except ε (Instr × Nat)) : Bool := match f with
  | none => true
  | some i => match d with
    | .ok (i', len) => decide (i' = i) && (Nat.beq (qm_len i) 0 || Nat.beq len (qm_len i))
    | .error _ => false
def qv_A (b : ByteArray) (f : Nat → Option Instr) : Prop := ∀ pc i, f pc = some i → ∃ len, decode b pc = .ok (i, len) ∧ (qm_len i = 0 ∨ len = qm_len i)
theorem qt_chk {b : ByteArray} {f : Nat → Option Instr} {B : Nat} (h1 : (fd_walk f 0 (fd_bytes b) && Nat.ble B (fd_bytes b).length) = true) (h3 : (List.range B).all (fun pc => match f pc with | some i => bif fd_isSw i then qt_ok (some i) (decode b pc) else true | none => true) = true) (h2 : ∀ pc, Nat.ble B pc = true → f pc = none) : qv_A b f := by
  intro pc i hi
  rw [Bool.and_eq_true] at h1
  have hB : pc < B := by
    by_cases h : pc < B
    · exact h
    · rw [h2 pc (Nat.ble_eq_true_of_le (by omega))] at hi
      cases hi
  cases hs : fd_isSw i with
  | true =>
    have h := List.all_eq_true.mp h3 pc (List.mem_range.mpr hB)
    rw [hi] at h
    simp only [hs, cond_true] at h
    unfold qt_ok at h
    simp only at h
    cases hd : decode b pc with
    | error e => rw [hd] at h; cases h
    | ok q =>
      obtain ⟨i', len⟩ := q
      rw [hd] at h
      simp only [Bool.and_eq_true, Bool.or_eq_true, decide_eq_true_eq] at h
      obtain ⟨rfl, h⟩ := h
      refine ⟨len, rfl, ?_⟩
      rcases h with h | h
      · exact Or.inl (Nat.eq_of_beq_eq_true h)
      · exact Or.inr (Nat.eq_of_beq_eq_true h)
  | false =>
    have hl := Nat.le_of_ble_eq_true h1.2
    obtain ⟨op, r, i', len, e1, e2, rfl, e3⟩ := fd_walk_at (fd_bytes b) 0 h1.1 pc i (by omega) (by rw [Nat.zero_add]; exact hi) hs
    have hg : ∀ j x, (op :: r)[j]? = some x → fd_rd b (pc + j) x := by
      intro j x hx
      rw [← e1, List.getElem?_drop] at hx
      exact fd_rd_of hx
    refine ⟨len, fd_sound (fun j x hx => ?_) e2 (hg 0 op rfl), e3⟩
    exact hg (j + 1) x hx
