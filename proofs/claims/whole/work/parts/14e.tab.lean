/-! ===== decoding of what constructors use ===== -/
theorem fd_op_183 {b : ByteArray} {pc x y : Nat} (h0 : fd_rd b pc 183) (h1 : fd_rd b (pc + 1) x) (h2 : fd_rd b (pc + 2) y) : decode b pc = .ok ((.invokespecial (x * 256 + y)), 3) := by
  obtain ⟨K, hK, hop⟩ : ∃ K : Nat → Reader DecodeError Instr, Decoder.instr pc = Reader.u1 >>= K ∧ K 183 = (Reader.u2 >>= fun u => fd_p (.invokespecial u)) := ⟨_, rfl, rfl⟩
  refine fd_end hK ?_
  rw [fd_u1 h0, hop, fd_u2 h1 h2]
  rfl
theorem fd_op_187 {b : ByteArray} {pc x y : Nat} (h0 : fd_rd b pc 187) (h1 : fd_rd b (pc + 1) x) (h2 : fd_rd b (pc + 2) y) : decode b pc = .ok ((.new (x * 256 + y)), 3) := by
  obtain ⟨K, hK, hop⟩ : ∃ K : Nat → Reader DecodeError Instr, Decoder.instr pc = Reader.u1 >>= K ∧ K 187 = (Reader.u2 >>= fun u => fd_p (.new u)) := ⟨_, rfl, rfl⟩
  refine fd_end hK ?_
  rw [fd_u1 h0, hop, fd_u2 h1 h2]
  rfl
theorem fd_op_188_4 {b : ByteArray} {pc : Nat} (h0 : fd_rd b pc 188) (h1 : fd_rd b (pc + 1) 4) : decode b pc = .ok ((.newarray .boolean), 2) := by
  obtain ⟨K, hK, hop⟩ : ∃ K : Nat → Reader DecodeError Instr, Decoder.instr pc = Reader.u1 >>= K ∧ K 188 = Decoder.newarray pc := ⟨_, rfl, rfl⟩
  obtain ⟨K2, hK2, hop2⟩ : ∃ K2 : Nat → Reader DecodeError Instr, Decoder.newarray pc = Reader.u1 >>= K2 ∧ K2 4 = fd_p (.newarray .boolean) := ⟨_, rfl, rfl⟩
  refine fd_end hK ?_
  rw [fd_u1 h0, hop, hK2, fd_u1 h1, hop2]
  rfl
theorem fd_op_188_5 {b : ByteArray} {pc : Nat} (h0 : fd_rd b pc 188) (h1 : fd_rd b (pc + 1) 5) : decode b pc = .ok ((.newarray .char), 2) := by
  obtain ⟨K, hK, hop⟩ : ∃ K : Nat → Reader DecodeError Instr, Decoder.instr pc = Reader.u1 >>= K ∧ K 188 = Decoder.newarray pc := ⟨_, rfl, rfl⟩
  obtain ⟨K2, hK2, hop2⟩ : ∃ K2 : Nat → Reader DecodeError Instr, Decoder.newarray pc = Reader.u1 >>= K2 ∧ K2 5 = fd_p (.newarray .char) := ⟨_, rfl, rfl⟩
  refine fd_end hK ?_
  rw [fd_u1 h0, hop, hK2, fd_u1 h1, hop2]
  rfl
theorem fd_op_188_10 {b : ByteArray} {pc : Nat} (h0 : fd_rd b pc 188) (h1 : fd_rd b (pc + 1) 10) : decode b pc = .ok ((.newarray .int), 2) := by
  obtain ⟨K, hK, hop⟩ : ∃ K : Nat → Reader DecodeError Instr, Decoder.instr pc = Reader.u1 >>= K ∧ K 188 = Decoder.newarray pc := ⟨_, rfl, rfl⟩
  obtain ⟨K2, hK2, hop2⟩ : ∃ K2 : Nat → Reader DecodeError Instr, Decoder.newarray pc = Reader.u1 >>= K2 ∧ K2 10 = fd_p (.newarray .int) := ⟨_, rfl, rfl⟩
  refine fd_end hK ?_
  rw [fd_u1 h0, hop, hK2, fd_u1 h1, hop2]
  rfl
theorem fd_op_188_11 {b : ByteArray} {pc : Nat} (h0 : fd_rd b pc 188) (h1 : fd_rd b (pc + 1) 11) : decode b pc = .ok ((.newarray .long), 2) := by
  obtain ⟨K, hK, hop⟩ : ∃ K : Nat → Reader DecodeError Instr, Decoder.instr pc = Reader.u1 >>= K ∧ K 188 = Decoder.newarray pc := ⟨_, rfl, rfl⟩
  obtain ⟨K2, hK2, hop2⟩ : ∃ K2 : Nat → Reader DecodeError Instr, Decoder.newarray pc = Reader.u1 >>= K2 ∧ K2 11 = fd_p (.newarray .long) := ⟨_, rfl, rfl⟩
  refine fd_end hK ?_
  rw [fd_u1 h0, hop, hK2, fd_u1 h1, hop2]
  rfl
def fd_at (x : Nat) : Option (Instr × Nat) := (cond (Nat.beq x 4) (some ((.newarray .boolean), 2)) (cond (Nat.beq x 5) (some ((.newarray .char), 2)) (cond (Nat.beq x 10) (some ((.newarray .int), 2)) (cond (Nat.beq x 11) (some ((.newarray .long), 2)) none))))
def fd_dec2 (op : Nat) (r : List Nat) : Option (Instr × Nat) := cond (Nat.beq op 183) (fd_a2 r fun x y => some ((.invokespecial (x * 256 + y)), 3)) (cond (Nat.beq op 187) (fd_a2 r fun x y => some ((.new (x * 256 + y)), 3)) (cond (Nat.beq op 188) (fd_a1 r fd_at) (fd_dec op r)))
theorem fd_sound2 {b : ByteArray} {pc op : Nat} {r : List Nat} {res : Instr × Nat} (hr : ∀ i x, r[i]? = some x → fd_rd b (pc + (i + 1)) x) (h : fd_dec2 op r = some res) (h0 : fd_rd b pc op) : decode b pc = .ok res := by
  unfold fd_dec2 at h
  cases h1 : Nat.beq op 183 with
  | true =>
    rw [h1] at h
    obtain ⟨x, y, q1, q2, h⟩ := fd_a2_some h
    cases h
    rw [Nat.eq_of_beq_eq_true h1] at h0
    exact fd_op_183 h0 (hr 0 x q1) (hr 1 y q2)
  | false =>
    rw [h1] at h
    cases h2 : Nat.beq op 187 with
    | true =>
      rw [h2] at h
      obtain ⟨x, y, q1, q2, h⟩ := fd_a2_some h
      cases h
      rw [Nat.eq_of_beq_eq_true h2] at h0
      exact fd_op_187 h0 (hr 0 x q1) (hr 1 y q2)
    | false =>
      rw [h2] at h
      cases h3 : Nat.beq op 188 with
      | true =>
        rw [h3] at h
        obtain ⟨x, q1, h⟩ := fd_a1_some h
        rw [Nat.eq_of_beq_eq_true h3] at h0
        have q2 := hr 0 x q1
        unfold fd_at at h
        cases h4 : Nat.beq x 4 with
        | true =>
          rw [h4] at h
          cases h
          rw [Nat.eq_of_beq_eq_true h4] at q2
          exact fd_op_188_4 h0 q2
        | false =>
          rw [h4] at h
          clear h4
          cases h4 : Nat.beq x 5 with
          | true =>
            rw [h4] at h
            cases h
            rw [Nat.eq_of_beq_eq_true h4] at q2
            exact fd_op_188_5 h0 q2
          | false =>
            rw [h4] at h
            clear h4
            cases h4 : Nat.beq x 10 with
            | true =>
              rw [h4] at h
              cases h
              rw [Nat.eq_of_beq_eq_true h4] at q2
              exact fd_op_188_10 h0 q2
            | false =>
              rw [h4] at h
              clear h4
              cases h4 : Nat.beq x 11 with
              | true =>
                rw [h4] at h
                cases h
                rw [Nat.eq_of_beq_eq_true h4] at q2
                exact fd_op_188_11 h0 q2
              | false =>
                rw [h4] at h
                clear h4
                cases h
      | false =>
        rw [h3] at h
        exact fd_sound hr h h0
def qz_at : List Instr → Nat → Nat → Option Instr
  | [], _, _ => none
  | i :: r, p, pc => cond (Nat.beq pc p) (some i) (qz_at r (p + qk_len i) pc)
def qz_chk : List Instr → List Nat → Bool
  | [], _ => true
  | i :: r, bs => match bs with
    | [] => false
    | op :: t => (match fd_dec2 op t with
      | some (i', len) => decide (i' = i) && Nat.beq len (qk_len i)
      | none => false) && qz_chk r (bs.drop (qk_len i))
theorem qz_sound {b : ByteArray} : ∀ (l : List Instr) (p : Nat), qz_chk l ((fd_bytes b).drop p) = true → ∀ pc i, qz_at l p pc = some i → ∃ len, decode b pc = .ok (i, len) ∧ len = qk_len i
  | [], _, _, pc, i, h => by cases h
  | i0 :: r, p, hc, pc, i, h => by
    unfold qz_at at h
    cases hb : Nat.beq pc p with
    | true =>
      rw [hb] at h
      cases h
      obtain rfl := Nat.eq_of_beq_eq_true hb
      cases hd : (fd_bytes b).drop pc with
      | nil => rw [hd] at hc; cases hc
      | cons op t =>
        rw [hd] at hc
        unfold qz_chk at hc
        rw [Bool.and_eq_true] at hc
        have h1 := hc.1
        cases hf : fd_dec2 op t with
        | none => rw [hf] at h1; cases h1
        | some q =>
          obtain ⟨i', len⟩ := q
          rw [hf] at h1
          simp only [Bool.and_eq_true, decide_eq_true_eq] at h1
          obtain ⟨rfl, h2⟩ := h1
          have hh : ∀ j x, (op :: t)[j]? = some x → (fd_bytes b)[pc + j]? = some x := by
            intro j x hx
            rw [← hd, List.getElem?_drop] at hx
            exact hx
          exact ⟨len, fd_sound2 (fun j x hx => fd_rd_of (hh (j + 1) x hx)) hf (fd_rd_of (hh 0 op rfl)), Nat.eq_of_beq_eq_true h2⟩
    | false =>
      rw [hb] at h
      have h : qz_at r (p + qk_len i0) pc = some i := h
      refine qz_sound r (p + qk_len i0) ?_ pc i h
      cases hd : (fd_bytes b).drop p with
      | nil => rw [hd] at hc; cases hc
      | cons op t =>
        rw [hd] at hc
        unfold qz_chk at hc
        rw [Bool.and_eq_true] at hc
        have h2 := hc.2
        rw [← hd, List.drop_drop] at h2
        exact h2
def qz_l5000 : List Instr := [.aload_n 0, .invokespecial 1, .aload_n 0, .bipush 20, .newarray .int, .putfield 9, .aload_n 0, .bipush 20, .newarray .int, .putfield 13, .aload_n 0, .aload_n 1, .putfield 16, .return_]
def qz_l5001 : List Instr := [.aload_n 0, .invokespecial 3, .aload_n 0, .bipush 40, .putfield 11, .aload_n 0, .bipush 8, .newarray .int, .putfield 17, .aload_n 0, .bipush 32, .newarray .int, .putfield 21, .aload_n 0, .bipush 60, .newarray .int, .putfield 24, .aload_n 0, .sipush 480, .newarray .int, .putfield 27, .return_]
def qz_l5003 : List Instr := [.aload_n 0, .invokespecial 5, .aload_n 0, .sipush 522, .newarray .int, .putfield 13, .return_]
def qz_l5004 : List Instr := [.aload_n 0, .invokespecial 3, .aload_n 0, .bipush 40, .putfield 11, .aload_n 0, .bipush 6, .newarray .int, .putfield 15, .aload_n 0, .bipush 8, .newarray .int, .putfield 19, .aload_n 0, .bipush 6, .newarray .int, .putfield 22, .aload_n 0, .bipush 8, .newarray .int, .putfield 25, .aload_n 0, .bipush 32, .newarray .int, .putfield 28, .aload_n 0, .bipush 6, .newarray .int, .putfield 31, .aload_n 0, .bipush 60, .newarray .int, .putfield 34, .aload_n 0, .bipush 60, .newarray .int, .putfield 37, .return_]
def qz_l5005 : List Instr := [.aload_n 0, .invokespecial 3, .aload_n 0, .aload_n 1, .putfield 9, .aload_n 0, .aload_n 2, .putfield 15, .return_]
def qz_l5006 : List Instr := [.aload_n 0, .invokespecial 3, .aload_n 0, .sipush 1600, .newarray .int, .putfield 11, .aload_n 0, .sipush 1600, .newarray .int, .putfield 17, .aload_n 0, .bipush 100, .newarray .long, .putfield 20, .aload_n 0, .aload_n 1, .putfield 24, .aload_n 0, .aload_n 2, .putfield 28, .return_]
def qz_l5007 : List Instr := [.aload_n 0, .invokespecial 1, .aload_n 0, .bipush 96, .newarray .int, .putfield 11, .return_]
def qz_l5008 : List Instr := [.aload_n 0, .invokespecial 3, .aload_n 0, .sipush 1600, .newarray .int, .putfield 11, .return_]
def qz_l5009 : List Instr := [.aload_n 0, .invokespecial 5, .aload_n 0, .bipush 27, .newarray .int, .putfield 13, .aload_n 0, .bipush 27, .newarray .int, .putfield 17, .aload_n 0, .bipush 8, .newarray .long, .putfield 22, .aload_n 0, .iconst (-1), .putfield 26, .aload_n 0, .aload_n 1, .putfield 30, .aload_n 0, .aload_n 2, .putfield 34, .aload_n 0, .aload_n 3, .putfield 38, .return_]
def qz_l5010 : List Instr := [.aload_n 0, .invokespecial 3, .aload_n 0, .iconst (-1), .putfield 9, .aload_n 0, .aload_n 1, .putfield 15, .return_]
def qz_l5011 : List Instr := [.aload_n 0, .invokespecial 1, .aload_n 0, .new 7, .dup, .invokespecial 9, .putfield 10, .aload_n 0, .new 16, .dup, .aload_n 0, .getfield 10, .invokespecial 18, .putfield 21, .aload_n 0, .new 25, .dup, .invokespecial 27, .putfield 28, .aload_n 0, .new 25, .dup, .invokespecial 27, .putfield 32, .aload_n 0, .new 35, .dup, .aload_n 0, .getfield 21, .aload_n 0, .getfield 32, .invokespecial 37, .putfield 40, .aload_n 0, .new 44, .dup, .invokespecial 46, .putfield 47, .aload_n 0, .new 51, .dup, .aload_n 0, .getfield 47, .invokespecial 53, .putfield 56, .aload_n 0, .new 60, .dup, .invokespecial 62, .putfield 63, .aload_n 0, .new 60, .dup, .invokespecial 62, .putfield 67, .aload_n 0, .new 70, .dup, .aload_n 0, .getfield 47, .aload_n 0, .getfield 63, .aload_n 0, .getfield 67, .invokespecial 72, .putfield 75, .aload_n 0, .new 79, .dup, .aload_n 0, .getfield 21, .aload_n 0, .getfield 47, .invokespecial 81, .putfield 84, .aload_n 0, .new 88, .dup, .invokespecial 90, .putfield 91, .aload_n 0, .iconst (-1), .putfield 95, .return_]
def qz_l5012 : List Instr := [.aload_n 0, .invokespecial 1, .aload_n 0, .sipush 1600, .newarray .int, .putfield 7, .aload_n 0, .iconst (-1), .putfield 13, .aload_n 0, .bipush 6, .newarray .char, .dup, .iconst 0, .bipush 99, .castore, .dup, .iconst 1, .bipush 111, .castore, .dup, .iconst 2, .bipush 108, .castore, .dup, .iconst 3, .bipush 111, .castore, .dup, .iconst 4, .bipush 117, .castore, .dup, .iconst 5, .bipush 114, .castore, .putfield 17, .aload_n 0, .iconst 4, .newarray .char, .dup, .iconst 0, .bipush 99, .castore, .dup, .iconst 1, .bipush 97, .castore, .dup, .iconst 2, .bipush 114, .castore, .dup, .iconst 3, .bipush 100, .castore, .putfield 21, .aload_n 0, .bipush 6, .newarray .char, .dup, .iconst 0, .bipush 115, .castore, .dup, .iconst 1, .bipush 116, .castore, .dup, .iconst 2, .bipush 114, .castore, .dup, .iconst 3, .bipush 117, .castore, .dup, .iconst 4, .bipush 110, .castore, .dup, .iconst 5, .bipush 103, .castore, .putfield 24, .aload_n 0, .iconst 1, .newarray .char, .dup, .iconst 0, .bipush 115, .castore, .putfield 27, .aload_n 0, .iconst 1, .newarray .char, .dup, .iconst 0, .bipush 122, .castore, .putfield 30, .aload_n 0, .iconst 4, .newarray .char, .dup, .iconst 0, .bipush 112, .castore, .dup, .iconst 1, .bipush 97, .castore, .dup, .iconst 2, .bipush 99, .castore, .dup, .iconst 3, .bipush 107, .castore, .putfield 33, .aload_n 0, .iconst 5, .newarray .char, .dup, .iconst 0, .bipush 116, .castore, .dup, .iconst 1, .bipush 119, .castore, .dup, .iconst 2, .bipush 105, .castore, .dup, .iconst 3, .bipush 115, .castore, .dup, .iconst 4, .bipush 116, .castore, .putfield 36, .aload_n 0, .iconst 5, .newarray .char, .dup, .iconst 0, .bipush 119, .castore, .dup, .iconst 1, .bipush 101, .castore, .dup, .iconst 2, .bipush 97, .castore, .dup, .iconst 3, .bipush 118, .castore, .dup, .iconst 4, .bipush 101, .castore, .putfield 39, .aload_n 0, .iconst 2, .newarray .char, .dup, .iconst 0, .bipush 111, .castore, .dup, .iconst 1, .bipush 110, .castore, .putfield 42, .aload_n 0, .iconst 4, .newarray .char, .dup, .iconst 0, .bipush 98, .castore, .dup, .iconst 1, .bipush 97, .castore, .dup, .iconst 2, .bipush 99, .castore, .dup, .iconst 3, .bipush 107, .castore, .putfield 45, .aload_n 0, .iconst 5, .newarray .char, .dup, .iconst 0, .bipush 115, .castore, .dup, .iconst 1, .bipush 116, .castore, .dup, .iconst 2, .bipush 105, .castore, .dup, .iconst 3, .bipush 108, .castore, .dup, .iconst 4, .bipush 108, .castore, .putfield 48, .aload_n 0, .iconst 5, .newarray .char, .dup, .iconst 0, .bipush 116, .castore, .dup, .iconst 1, .bipush 119, .castore, .dup, .iconst 2, .bipush 105, .castore, .dup, .iconst 3, .bipush 99, .castore, .dup, .iconst 4, .bipush 101, .castore, .putfield 51, .aload_n 0, .bipush 6, .newarray .int, .putfield 54, .aload_n 0, .bipush 48, .newarray .long, .putfield 57, .aload_n 0, .bipush 80, .newarray .int, .putfield 61, .aload_n 0, .bipush 12, .newarray .int, .putfield 64, .aload_n 0, .iconst 2, .newarray .int, .putfield 67, .aload_n 0, .bipush 60, .newarray .int, .putfield 70, .aload_n 0, .bipush 60, .newarray .int, .putfield 73, .aload_n 0, .bipush 7, .newarray .int, .putfield 76, .aload_n 0, .iconst (-1), .putfield 79, .aload_n 0, .sipush 480, .newarray .int, .putfield 82, .aload_n 0, .sipush 10420, .newarray .int, .putfield 85, .aload_n 0, .iconst 2, .newarray .int, .putfield 88, .aload_n 0, .sipush 192, .newarray .int, .putfield 91, .aload_n 0, .sipush 512, .newarray .boolean, .putfield 94, .aload_n 0, .iconst 5, .newarray .char, .dup, .iconst 0, .bipush 102, .castore, .dup, .iconst 1, .bipush 105, .castore, .dup, .iconst 2, .bipush 114, .castore, .dup, .iconst 3, .bipush 115, .castore, .dup, .iconst 4, .bipush 116, .castore, .putfield 98, .aload_n 0, .iconst 4, .newarray .char, .dup, .iconst 0, .bipush 108, .castore, .dup, .iconst 1, .bipush 97, .castore, .dup, .iconst 2, .bipush 115, .castore, .dup, .iconst 3, .bipush 116, .castore, .putfield 101, .aload_n 0, .iconst 5, .newarray .char, .dup, .iconst 0, .bipush 111, .castore, .dup, .iconst 1, .bipush 102, .castore, .dup, .iconst 2, .bipush 116, .castore, .dup, .iconst 3, .bipush 101, .castore, .dup, .iconst 4, .bipush 110, .castore, .putfield 104, .aload_n 0, .iconst 5, .newarray .char, .dup, .iconst 0, .bipush 116, .castore, .dup, .iconst 1, .bipush 111, .castore, .dup, .iconst 2, .bipush 116, .castore, .dup, .iconst 3, .bipush 97, .castore, .dup, .iconst 4, .bipush 108, .castore, .putfield 107, .aload_n 0, .iconst 4, .newarray .char, .dup, .iconst 0, .bipush 109, .castore, .dup, .iconst 1, .bipush 111, .castore, .dup, .iconst 2, .bipush 115, .castore, .dup, .iconst 3, .bipush 116, .castore, .putfield 110, .aload_n 0, .iconst 5, .newarray .char, .dup, .iconst 0, .bipush 108, .castore, .dup, .iconst 1, .bipush 101, .castore, .dup, .iconst 2, .bipush 97, .castore, .dup, .iconst 3, .bipush 115, .castore, .dup, .iconst 4, .bipush 116, .castore, .putfield 113, .aload_n 0, .iconst 3, .newarray .char, .dup, .iconst 0, .bipush 110, .castore, .dup, .iconst 1, .bipush 111, .castore, .dup, .iconst 2, .bipush 116, .castore, .putfield 116, .aload_n 0, .iconst 3, .newarray .char, .dup, .iconst 0, .bipush 97, .castore, .dup, .iconst 1, .bipush 110, .castore, .dup, .iconst 2, .bipush 100, .castore, .putfield 119, .aload_n 0, .iconst 2, .newarray .char, .dup, .iconst 0, .bipush 111, .castore, .dup, .iconst 1, .bipush 114, .castore, .putfield 122, .aload_n 0, .iconst 3, .newarray .char, .dup, .iconst 0, .bipush 97, .castore, .dup, .iconst 1, .bipush 108, .castore, .dup, .iconst 2, .bipush 108, .castore, .putfield 125, .aload_n 0, .iconst 3, .newarray .char, .dup, .iconst 0, .bipush 109, .castore, .dup, .iconst 1, .bipush 105, .castore, .dup, .iconst 2, .bipush 110, .castore, .putfield 128, .aload_n 0, .iconst 3, .newarray .char, .dup, .iconst 0, .bipush 109, .castore, .dup, .iconst 1, .bipush 97, .castore, .dup, .iconst 2, .bipush 120, .castore, .putfield 131, .aload_n 0, .iconst 3, .newarray .char, .dup, .iconst 0, .bipush 114, .castore, .dup, .iconst 1, .bipush 111, .castore, .dup, .iconst 2, .bipush 119, .castore, .putfield 134, .aload_n 0, .iconst 4, .newarray .char, .dup, .iconst 0, .bipush 98, .castore, .dup, .iconst 1, .bipush 97, .castore, .dup, .iconst 2, .bipush 99, .castore, .dup, .iconst 3, .bipush 107, .castore, .putfield 137, .aload_n 0, .iconst 5, .newarray .char, .dup, .iconst 0, .bipush 115, .castore, .dup, .iconst 1, .bipush 116, .castore, .dup, .iconst 2, .bipush 105, .castore, .dup, .iconst 3, .bipush 108, .castore, .dup, .iconst 4, .bipush 108, .castore, .putfield 140, .aload_n 0, .iconst 5, .newarray .char, .dup, .iconst 0, .bipush 102, .castore, .dup, .iconst 1, .bipush 114, .castore, .dup, .iconst 2, .bipush 111, .castore, .dup, .iconst 3, .bipush 110, .castore, .dup, .iconst 4, .bipush 116, .castore, .putfield 143, .aload_n 0, .bipush 6, .newarray .char, .dup, .iconst 0, .bipush 98, .castore, .dup, .iconst 1, .bipush 101, .castore, .dup, .iconst 2, .bipush 104, .castore, .dup, .iconst 3, .bipush 105, .castore, .dup, .iconst 4, .bipush 110, .castore, .dup, .iconst 5, .bipush 100, .castore, .putfield 146, .aload_n 0, .iconst 5, .newarray .char, .dup, .iconst 0, .bipush 115, .castore, .dup, .iconst 1, .bipush 108, .castore, .dup, .iconst 2, .bipush 97, .castore, .dup, .iconst 3, .bipush 110, .castore, .dup, .iconst 4, .bipush 116, .castore, .putfield 149, .aload_n 0, .iconst 5, .newarray .char, .dup, .iconst 0, .bipush 116, .castore, .dup, .iconst 1, .bipush 119, .castore, .dup, .iconst 2, .bipush 105, .castore, .dup, .iconst 3, .bipush 115, .castore, .dup, .iconst 4, .bipush 116, .castore, .putfield 152, .aload_n 0, .sipush 1700, .newarray .int, .putfield 155, .aload_n 0, .sipush 1700, .newarray .int, .putfield 158, .aload_n 0, .sipush 1700, .newarray .long, .putfield 161, .aload_n 0, .sipush 522, .newarray .int, .putfield 164, .return_]
def qz_l3001 : List Instr := [.new 7, .dup, .invokespecial 9, .astore_n 1, .new 10, .dup, .invokespecial 12, .astore_n 2, .iconst 0, .istore_n 3]
theorem qz_c5000 : qz_chk qz_l5000 (fd_bytes cX0_init) = true := by decide +kernel
theorem qz_c5001 : qz_chk qz_l5001 (fd_bytes cX1_init) = true := by decide +kernel
theorem qz_c5003 : qz_chk qz_l5003 (fd_bytes cX3_init) = true := by decide +kernel
theorem qz_c5004 : qz_chk qz_l5004 (fd_bytes cX4_init) = true := by decide +kernel
theorem qz_c5005 : qz_chk qz_l5005 (fd_bytes cX5_init) = true := by decide +kernel
theorem qz_c5006 : qz_chk qz_l5006 (fd_bytes cX6_init) = true := by decide +kernel
theorem qz_c5007 : qz_chk qz_l5007 (fd_bytes cX7_init) = true := by decide +kernel
theorem qz_c5008 : qz_chk qz_l5008 (fd_bytes cX8_init) = true := by decide +kernel
theorem qz_c5009 : qz_chk qz_l5009 (fd_bytes cX9_init) = true := by decide +kernel
theorem qz_c5010 : qz_chk qz_l5010 (fd_bytes cX10_init) = true := by decide +kernel
theorem qz_c5011 : qz_chk qz_l5011 (fd_bytes cX11_init) = true := by decide +kernel
theorem qz_c5012 : qz_chk qz_l5012 (fd_bytes cX12_init) = true := by decide +kernel
theorem qz_c3001 : qz_chk qz_l3001 (fd_bytes cL_law) = true := by decide +kernel
def qz_l (k : Nat) : List Instr := (cond (Nat.beq k 3001) qz_l3001 (cond (Nat.beq k 5000) qz_l5000 (cond (Nat.beq k 5001) qz_l5001 (cond (Nat.beq k 5003) qz_l5003 (cond (Nat.beq k 5004) qz_l5004 (cond (Nat.beq k 5005) qz_l5005 (cond (Nat.beq k 5006) qz_l5006 (cond (Nat.beq k 5007) qz_l5007 (cond (Nat.beq k 5008) qz_l5008 (cond (Nat.beq k 5009) qz_l5009 (cond (Nat.beq k 5010) qz_l5010 (cond (Nat.beq k 5011) qz_l5011 (cond (Nat.beq k 5012) qz_l5012 [])))))))))))))
noncomputable def qz_bs (k : Nat) : ByteArray := (cond (Nat.beq k 3001) cL_law (cond (Nat.beq k 5000) cX0_init (cond (Nat.beq k 5001) cX1_init (cond (Nat.beq k 5003) cX3_init (cond (Nat.beq k 5004) cX4_init (cond (Nat.beq k 5005) cX5_init (cond (Nat.beq k 5006) cX6_init (cond (Nat.beq k 5007) cX7_init (cond (Nat.beq k 5008) cX8_init (cond (Nat.beq k 5009) cX9_init (cond (Nat.beq k 5010) cX10_init (cond (Nat.beq k 5011) cX11_init (cond (Nat.beq k 5012) cX12_init cL_law)))))))))))))
noncomputable def qz_ow (k : Nat) : String := (cond (Nat.beq k 3001) RL (cond (Nat.beq k 5000) RX0 (cond (Nat.beq k 5001) RX1 (cond (Nat.beq k 5003) RX3 (cond (Nat.beq k 5004) RX4 (cond (Nat.beq k 5005) RX5 (cond (Nat.beq k 5006) RX6 (cond (Nat.beq k 5007) RX7 (cond (Nat.beq k 5008) RX8 (cond (Nat.beq k 5009) RX9 (cond (Nat.beq k 5010) RX10 (cond (Nat.beq k 5011) RX11 (cond (Nat.beq k 5012) RX12 RL)))))))))))))
noncomputable def qz_nm (k : Nat) : MethodName := (cond (Nat.beq k 3001) (⟨RL, "law", "([I)Z"⟩ : MethodName) (cond (Nat.beq k 5000) yX0_init (cond (Nat.beq k 5001) yX1_init (cond (Nat.beq k 5003) yX3_init (cond (Nat.beq k 5004) yX4_init (cond (Nat.beq k 5005) yX5_init (cond (Nat.beq k 5006) yX6_init (cond (Nat.beq k 5007) yX7_init (cond (Nat.beq k 5008) yX8_init (cond (Nat.beq k 5009) yX9_init (cond (Nat.beq k 5010) yX10_init (cond (Nat.beq k 5011) yX11_init (cond (Nat.beq k 5012) yX12_init (⟨RL, "law", "([I)Z"⟩ : MethodName))))))))))))))
def qz_mxl (k : Nat) : Nat := (cond (Nat.beq k 3001) 4 (cond (Nat.beq k 5000) 2 (cond (Nat.beq k 5001) 1 (cond (Nat.beq k 5003) 1 (cond (Nat.beq k 5004) 1 (cond (Nat.beq k 5005) 3 (cond (Nat.beq k 5006) 3 (cond (Nat.beq k 5007) 1 (cond (Nat.beq k 5008) 1 (cond (Nat.beq k 5009) 4 (cond (Nat.beq k 5010) 2 (cond (Nat.beq k 5011) 1 (cond (Nat.beq k 5012) 1 0)))))))))))))
/-- class made: method, place, its number; where the words stand -/
def qz_ncls : List (Nat × Nat × Nat × Nat × Nat × Nat × Nat × Nat × Nat) := [(5011, 7, 7, 0, 28, 0, 29, 0, 2), (5011, 16, 9, 0, 46, 0, 47, 0, 3), (5011, 25, 3, 0, 82, 0, 83, 0, 4), (5011, 25, 3, 0, 82, 0, 83, 0, 4), (5011, 35, 4, 0, 153, 0, 154, 0, 5), (5011, 44, 1, 0, 169, 0, 170, 0, 6), (5011, 51, 0, 0, 209, 0, 210, 0, 7), (5011, 60, 6, 0, 229, 0, 230, 0, 8), (5011, 60, 6, 0, 229, 0, 230, 0, 8), (5011, 70, 8, 1, 4, 1, 5, 0, 9), (5011, 79, 5, 1, 36, 1, 37, 0, 10), (5011, 88, 2, 1, 67, 1, 68, 0, 11), (3001, 7, 10, 0, 20, 0, 21, 0, 1), (3001, 10, 11, 4, 192, 4, 193, 0, 12)]
def qz_flds : List (Nat × Nat × Nat × Nat × Nat × Nat) := [(5000, 9, 0, 1, 0, 216), (5000, 13, 0, 2, 0, 217), (5000, 16, 0, 0, 0, 215), (5001, 11, 1, 2, 0, 187), (5001, 17, 1, 3, 0, 190), (5001, 21, 1, 4, 0, 191), (5001, 24, 1, 5, 0, 192), (5001, 27, 1, 6, 0, 193), (5003, 13, 2, 0, 1, 73), (5004, 11, 3, 4, 0, 101), (5004, 15, 3, 6, 0, 109), (5004, 19, 3, 7, 0, 111), (5004, 22, 3, 8, 0, 113), (5004, 25, 3, 9, 0, 115), (5004, 28, 3, 10, 0, 118), (5004, 31, 3, 11, 0, 121), (5004, 34, 3, 12, 0, 122), (5004, 37, 3, 13, 0, 123), (5005, 9, 4, 0, 0, 159), (5005, 15, 4, 1, 0, 160), (5006, 11, 5, 2, 1, 44), (5006, 17, 5, 3, 1, 45), (5006, 20, 5, 4, 1, 46), (5006, 24, 5, 0, 1, 42), (5006, 28, 5, 1, 1, 43), (5007, 11, 6, 1, 0, 238), (5008, 11, 7, 0, 0, 34), (5009, 13, 8, 3, 1, 13), (5009, 17, 8, 4, 1, 14), (5009, 22, 8, 5, 1, 15), (5009, 26, 8, 6, 1, 16), (5009, 30, 8, 0, 1, 10), (5009, 34, 8, 1, 1, 11), (5009, 38, 8, 2, 1, 12), (5010, 9, 9, 7, 0, 63), (5010, 15, 9, 0, 0, 52), (5011, 10, 10, 0, 1, 81), (5011, 21, 10, 1, 1, 82), (5011, 28, 10, 2, 1, 83), (5011, 32, 10, 3, 1, 84), (5011, 40, 10, 4, 1, 85), (5011, 47, 10, 5, 1, 86), (5011, 56, 10, 6, 1, 87), (5011, 63, 10, 7, 1, 88), (5011, 67, 10, 8, 1, 89), (5011, 75, 10, 9, 1, 90), (5011, 84, 10, 10, 1, 91), (5011, 91, 10, 11, 1, 92), (5011, 95, 10, 12, 1, 93), (5012, 7, 11, 0, 4, 198), (5012, 13, 11, 8, 4, 206), (5012, 17, 11, 9, 4, 207), (5012, 21, 11, 10, 4, 208), (5012, 24, 11, 11, 4, 209), (5012, 27, 11, 12, 4, 210), (5012, 30, 11, 13, 4, 211), (5012, 33, 11, 14, 4, 212), (5012, 36, 11, 15, 4, 213), (5012, 39, 11, 16, 4, 214), (5012, 42, 11, 17, 4, 215), (5012, 45, 11, 18, 4, 216), (5012, 48, 11, 19, 4, 217), (5012, 51, 11, 20, 4, 218), (5012, 54, 11, 22, 4, 220), (5012, 57, 11, 23, 4, 221), (5012, 61, 11, 24, 4, 222), (5012, 64, 11, 25, 4, 223), (5012, 67, 11, 26, 4, 224), (5012, 70, 11, 27, 4, 225), (5012, 73, 11, 28, 4, 226), (5012, 76, 11, 33, 4, 231), (5012, 79, 11, 35, 4, 233), (5012, 82, 11, 36, 4, 234), (5012, 85, 11, 38, 4, 236), (5012, 88, 11, 41, 4, 239), (5012, 91, 11, 42, 5, 0), (5012, 94, 11, 44, 5, 2), (5012, 98, 11, 45, 5, 3), (5012, 101, 11, 46, 5, 4), (5012, 104, 11, 47, 5, 5), (5012, 107, 11, 48, 5, 6), (5012, 110, 11, 49, 5, 7), (5012, 113, 11, 50, 5, 8), (5012, 116, 11, 51, 5, 9), (5012, 119, 11, 52, 5, 10), (5012, 122, 11, 53, 5, 11), (5012, 125, 11, 54, 5, 12), (5012, 128, 11, 55, 5, 13), (5012, 131, 11, 56, 5, 14), (5012, 134, 11, 57, 5, 15), (5012, 137, 11, 58, 5, 16), (5012, 140, 11, 59, 5, 17), (5012, 143, 11, 60, 5, 18), (5012, 146, 11, 61, 5, 19), (5012, 149, 11, 62, 5, 20), (5012, 152, 11, 63, 5, 21), (5012, 155, 11, 64, 5, 22), (5012, 158, 11, 66, 5, 24), (5012, 161, 11, 70, 5, 28), (5012, 164, 11, 74, 5, 32)]
def qz_isps : List (Nat × Nat × Nat × Nat × Nat × Nat × Nat) := [(5000, 1, 0, 0, 0, 0, 214), (5001, 3, 0, 0, 0, 0, 174), (5003, 5, 0, 0, 0, 1, 72), (5004, 3, 0, 0, 0, 0, 87), (5005, 3, 0, 0, 0, 0, 158), (5006, 3, 0, 0, 0, 1, 41), (5007, 1, 0, 0, 0, 0, 234), (5008, 3, 0, 0, 0, 0, 33), (5009, 5, 0, 0, 0, 1, 9), (5010, 3, 0, 0, 0, 0, 51), (5011, 1, 0, 0, 0, 0, 25), (5011, 9, 5008, 0, 1, 0, 30), (5011, 18, 5010, 1, 0, 0, 48), (5011, 27, 5004, 0, 1, 0, 84), (5011, 37, 5005, 2, 0, 0, 155), (5011, 46, 5001, 0, 1, 0, 171), (5011, 53, 5000, 1, 0, 0, 211), (5011, 62, 5007, 0, 1, 0, 231), (5011, 72, 5009, 3, 0, 1, 6), (5011, 81, 5006, 2, 0, 1, 38), (5011, 90, 5003, 0, 1, 1, 69), (5012, 1, 0, 0, 0, 4, 197), (3001, 9, 5011, 0, 0, 0, 22), (3001, 12, 5012, 0, 0, 4, 194)]
def qz_ncl (k i : Nat) : Option Nat := (qz_ncls.find? fun e => Nat.beq e.1 k && Nat.beq e.2.1 i).map fun e => e.2.2.1
def qz_fld (k i : Nat) : Option (Nat × Nat) := (qz_flds.find? fun e => Nat.beq e.1 k && Nat.beq e.2.1 i).map fun e => (e.2.2.1, e.2.2.2.1)
def qz_isp (k i : Nat) : Option (Nat × Nat) := (qz_isps.find? fun e => Nat.beq e.1 k && Nat.beq e.2.1 i).map fun e => (e.2.2.1, e.2.2.2.1)
def qz_nf (ci : Nat) : Nat := ([4, 7, 2, 14, 3, 8, 2, 2, 8, 8, 13, 76] : List Nat).getD ci 0
noncomputable def qz_T : qk_T := (fun k pc => qz_at (qz_l k) 0 pc, qz_ncl, qz_fld, qz_isp, qz_mxl, qb_ty, qz_nf)
noncomputable def qz_NS : qk_NS := [(RX11, 9, yX8_init, RX11), (RX11, 27, yX4_init, RX11), (RX11, 46, yX1_init, RX11), (RX11, 62, yX7_init, RX11), (RX11, 90, yX3_init, RX11)]
theorem qz_vAt : qk_vAt qz_T qz_bs := by
  intro k pc i h
  have h : qz_at (qz_l k) 0 pc = some i := h
  unfold qz_l at h
  unfold qz_bs
  cases h3001 : Nat.beq k 3001 with
  | true =>
    rw [h3001] at h
    exact qz_sound qz_l3001 0 qz_c3001 pc i h
  | false =>
  rw [h3001] at h
  cases h5000 : Nat.beq k 5000 with
  | true =>
    rw [h5000] at h
    exact qz_sound qz_l5000 0 qz_c5000 pc i h
  | false =>
  rw [h5000] at h
  cases h5001 : Nat.beq k 5001 with
  | true =>
    rw [h5001] at h
    exact qz_sound qz_l5001 0 qz_c5001 pc i h
  | false =>
  rw [h5001] at h
  cases h5003 : Nat.beq k 5003 with
  | true =>
    rw [h5003] at h
    exact qz_sound qz_l5003 0 qz_c5003 pc i h
  | false =>
  rw [h5003] at h
  cases h5004 : Nat.beq k 5004 with
  | true =>
    rw [h5004] at h
    exact qz_sound qz_l5004 0 qz_c5004 pc i h
  | false =>
  rw [h5004] at h
  cases h5005 : Nat.beq k 5005 with
  | true =>
    rw [h5005] at h
    exact qz_sound qz_l5005 0 qz_c5005 pc i h
  | false =>
  rw [h5005] at h
  cases h5006 : Nat.beq k 5006 with
  | true =>
    rw [h5006] at h
    exact qz_sound qz_l5006 0 qz_c5006 pc i h
  | false =>
  rw [h5006] at h
  cases h5007 : Nat.beq k 5007 with
  | true =>
    rw [h5007] at h
    exact qz_sound qz_l5007 0 qz_c5007 pc i h
  | false =>
  rw [h5007] at h
  cases h5008 : Nat.beq k 5008 with
  | true =>
    rw [h5008] at h
    exact qz_sound qz_l5008 0 qz_c5008 pc i h
  | false =>
  rw [h5008] at h
  cases h5009 : Nat.beq k 5009 with
  | true =>
    rw [h5009] at h
    exact qz_sound qz_l5009 0 qz_c5009 pc i h
  | false =>
  rw [h5009] at h
  cases h5010 : Nat.beq k 5010 with
  | true =>
    rw [h5010] at h
    exact qz_sound qz_l5010 0 qz_c5010 pc i h
  | false =>
  rw [h5010] at h
  cases h5011 : Nat.beq k 5011 with
  | true =>
    rw [h5011] at h
    exact qz_sound qz_l5011 0 qz_c5011 pc i h
  | false =>
  rw [h5011] at h
  cases h5012 : Nat.beq k 5012 with
  | true =>
    rw [h5012] at h
    exact qz_sound qz_l5012 0 qz_c5012 pc i h
  | false =>
  rw [h5012] at h
  cases h
noncomputable def qt_ncl (e : Nat × Nat × Nat × Nat × Nat × Nat × Nat × Nat × Nat) : Bool := match vwCl[e.2.2.1]? with
  | some (C, _, n) => (qt_w e.2.2.2.1 e.2.2.2.2.1 (.classLink (qz_ow e.1) e.2.1 C) && qt_w e.2.2.2.2.2.1 e.2.2.2.2.2.2.1 (.instantiable C n)) && (qt_w e.2.2.2.2.2.2.2.1 e.2.2.2.2.2.2.2.2 (.initialized C) && Nat.beq n (qz_nf e.2.2.1))
  | none => false
theorem qz_ncls_ok : qz_ncls.all qt_ncl = true := by decide +kernel
theorem qz_find {α : Type} {l : List α} {p : α → Bool} {f : α → Bool} {x : α} (h : l.find? p = some x) (ha : l.all f = true) : p x = true ∧ f x = true := ⟨List.find?_some h, List.all_eq_true.mp ha x (List.mem_of_find?_eq_some h)⟩
theorem qz_vNcl : qk_vNcl qz_T qz_ow vwCl qb_TB := by
  intro k i ci h
  have h : (qz_ncls.find? fun e => Nat.beq e.1 k && Nat.beq e.2.1 i).map (fun e => e.2.2.1) = some ci := h
  cases hf : qz_ncls.find? fun e => Nat.beq e.1 k && Nat.beq e.2.1 i with
  | none => rw [hf] at h; cases h
  | some e =>
    rw [hf] at h
    cases h
    obtain ⟨h1, h2⟩ := qz_find hf qz_ncls_ok
    rw [Bool.and_eq_true] at h1
    obtain rfl := Nat.eq_of_beq_eq_true h1.1
    obtain rfl := Nat.eq_of_beq_eq_true h1.2
    unfold qt_ncl at h2
    cases hc : vwCl[e.2.2.1]? with
    | none => rw [hc] at h2; cases h2
    | some q =>
      obtain ⟨C, F, n⟩ := q
      rw [hc] at h2
      simp only [Bool.and_eq_true] at h2
      obtain ⟨⟨w1, w2⟩, w3, w4⟩ := h2
      obtain rfl := Nat.eq_of_beq_eq_true w4
      obtain ⟨g1, g2, g3⟩ := qv_cl _ _ hc
      exact ⟨C, F, rfl, g1, g2, qb_mem w1, qb_mem w2, qb_mem w3⟩
noncomputable def qt_jfl (e : Nat × Nat × Nat × Nat × Nat × Nat) : Bool := match vwCl[e.2.2.1]? with
  | some (_, F, n) => (Nat.blt e.2.2.2.1 n && qt_w e.2.2.2.2.1 e.2.2.2.2.2 (.fieldLink (qz_ow e.1) e.2.1 (F e.2.2.2.1).1 (F e.2.2.2.1).2.1 (F e.2.2.2.1).2.2.1)) && ((bif (F e.2.2.2.1).2.2.2 then decide ((F e.2.2.2.1).1 = qz_ow e.1) else true) && bif Nat.beq e.1 3001 then false else true)
  | none => false
theorem qz_flds_ok : qz_flds.all qt_jfl = true := by decide +kernel
theorem qz_vFld0 : ∀ k i ci j, qk_fld qz_T k i = some (ci, j) → (∃ (C : String) (F : u_T) (n : Nat), vwCl[ci]? = some (C, F, n) ∧ j < n ∧ Jvm.Cond.fieldLink (qz_ow k) i (F j).1 (F j).2.1 (F j).2.2.1 ∈ qb_TB ∧ (∀ w ∈ u_ws C F n, w ∈ qb_TB) ∧ (∀ a, a < n → parseFieldDescriptor (F a).2.2.1 = some (qk_ty qz_T ci a)) ∧ (∀ a, a < n → ∀ b, b < n → a ≠ b → (F a).2.1 ≠ (F b).2.1) ∧ ((F j).2.2.2 = true → (F j).1 = qz_ow k)) ∧ k ≠ 3001 := by
  intro k i ci j h
  have h : (qz_flds.find? fun e => Nat.beq e.1 k && Nat.beq e.2.1 i).map (fun e => (e.2.2.1, e.2.2.2.1)) = some (ci, j) := h
  cases hf : qz_flds.find? fun e => Nat.beq e.1 k && Nat.beq e.2.1 i with
  | none => rw [hf] at h; cases h
  | some e =>
    rw [hf] at h
    cases h
    obtain ⟨h1, h2⟩ := qz_find hf qz_flds_ok
    rw [Bool.and_eq_true] at h1
    obtain rfl := Nat.eq_of_beq_eq_true h1.1
    obtain rfl := Nat.eq_of_beq_eq_true h1.2
    unfold qt_jfl at h2
    cases hc : vwCl[e.2.2.1]? with
    | none => rw [hc] at h2; cases h2
    | some q =>
      obtain ⟨C, F, n⟩ := q
      rw [hc] at h2
      simp only [Bool.and_eq_true] at h2
      obtain ⟨⟨w1, w2⟩, w3, w4⟩ := h2
      obtain ⟨g1, g2, g3⟩ := qv_cl _ _ hc
      refine ⟨⟨C, F, n, rfl, Nat.le_of_ble_eq_true w1, qb_mem w2, g1, g2, g3, fun hfin => ?_⟩, fun hk => ?_⟩
      · rw [hfin] at w3
        exact of_decide_eq_true w3
      · rw [hk] at w4
        cases w4
theorem qz_vFld : qk_vFld qz_T qz_ow vwCl qb_TB := fun k i ci j h => (qz_vFld0 k i ci j h).1
theorem qz_vLaw : ∀ k i ci j, qk_fld qz_T k i = some (ci, j) → k ≠ 3001 := fun k i ci j h => (qz_vFld0 k i ci j h).2
theorem qz_vArr : qk_vArr qb_TB := by
  intro t kd h
  cases t <;> cases h
  all_goals first | exact qb_memP (j := 5) (i := 188) rfl rfl | exact qb_memP (j := 5) (i := 187) rfl rfl | exact qb_memP (j := 0) (i := 45) rfl rfl | exact qb_memP (j := 1) (i := 35) rfl rfl
def qz_ispP (k' n : Nat) : Prop := Jvm.Cond.code (qz_nm k') (qz_bs k') (qz_mxl k') none ∈ qb_TB ∧ Jvm.Cond.initialized (qz_nm k').cls ∈ qb_TB ∧ ((qz_nm k').cls ≠ "java/lang/invoke/MethodHandle" ∧ (qz_nm k').cls ≠ "java/lang/invoke/VarHandle") ∧ Jvm.Cond.instanceMethod (qz_nm k') ∈ qb_TB ∧ (qz_nm k').name = "<init>" ∧ plainFor (qz_nm k') = true ∧ qz_ow k' = (qz_nm k').cls ∧ (parseMethodDescriptor (qz_nm k').desc).map (fun d => d.parameters.length) = some n ∧ qz_mxl k' ≤ 30
theorem qz_p5000 : qz_ispP 5000 1 := ⟨(qb_memP (j := 0) (i := 213) rfl rfl), (qb_memP (j := 0) (i := 7) rfl rfl), qb_neq (by decide +kernel), (qb_memP (j := 0) (i := 212) rfl rfl), rfl, by decide +kernel, rfl, by decide +kernel, by decide +kernel⟩
theorem qz_p5001 : qz_ispP 5001 0 := ⟨(qb_memP (j := 0) (i := 173) rfl rfl), (qb_memP (j := 0) (i := 6) rfl rfl), qb_neq (by decide +kernel), (qb_memP (j := 0) (i := 172) rfl rfl), rfl, by decide +kernel, rfl, by decide +kernel, by decide +kernel⟩
theorem qz_p5003 : qz_ispP 5003 0 := ⟨(qb_memP (j := 1) (i := 71) rfl rfl), (qb_memP (j := 0) (i := 11) rfl rfl), qb_neq (by decide +kernel), (qb_memP (j := 1) (i := 70) rfl rfl), rfl, by decide +kernel, rfl, by decide +kernel, by decide +kernel⟩
theorem qz_p5004 : qz_ispP 5004 0 := ⟨(qb_memP (j := 0) (i := 86) rfl rfl), (qb_memP (j := 0) (i := 4) rfl rfl), qb_neq (by decide +kernel), (qb_memP (j := 0) (i := 85) rfl rfl), rfl, by decide +kernel, rfl, by decide +kernel, by decide +kernel⟩
theorem qz_p5005 : qz_ispP 5005 2 := ⟨(qb_memP (j := 0) (i := 157) rfl rfl), (qb_memP (j := 0) (i := 5) rfl rfl), qb_neq (by decide +kernel), (qb_memP (j := 0) (i := 156) rfl rfl), rfl, by decide +kernel, rfl, by decide +kernel, by decide +kernel⟩
theorem qz_p5006 : qz_ispP 5006 2 := ⟨(qb_memP (j := 1) (i := 40) rfl rfl), (qb_memP (j := 0) (i := 10) rfl rfl), qb_neq (by decide +kernel), (qb_memP (j := 1) (i := 39) rfl rfl), rfl, by decide +kernel, rfl, by decide +kernel, by decide +kernel⟩
theorem qz_p5007 : qz_ispP 5007 0 := ⟨(qb_memP (j := 0) (i := 233) rfl rfl), (qb_memP (j := 0) (i := 8) rfl rfl), qb_neq (by decide +kernel), (qb_memP (j := 0) (i := 232) rfl rfl), rfl, by decide +kernel, rfl, by decide +kernel, by decide +kernel⟩
theorem qz_p5008 : qz_ispP 5008 0 := ⟨(qb_memP (j := 0) (i := 32) rfl rfl), (qb_memP (j := 0) (i := 2) rfl rfl), qb_neq (by decide +kernel), (qb_memP (j := 0) (i := 31) rfl rfl), rfl, by decide +kernel, rfl, by decide +kernel, by decide +kernel⟩
theorem qz_p5009 : qz_ispP 5009 3 := ⟨(qb_memP (j := 1) (i := 8) rfl rfl), (qb_memP (j := 0) (i := 9) rfl rfl), qb_neq (by decide +kernel), (qb_memP (j := 1) (i := 7) rfl rfl), rfl, by decide +kernel, rfl, by decide +kernel, by decide +kernel⟩
theorem qz_p5010 : qz_ispP 5010 1 := ⟨(qb_memP (j := 0) (i := 50) rfl rfl), (qb_memP (j := 0) (i := 3) rfl rfl), qb_neq (by decide +kernel), (qb_memP (j := 0) (i := 49) rfl rfl), rfl, by decide +kernel, rfl, by decide +kernel, by decide +kernel⟩
theorem qz_p5011 : qz_ispP 5011 0 := ⟨(qb_memP (j := 0) (i := 24) rfl rfl), (qb_memP (j := 0) (i := 1) rfl rfl), qb_neq (by decide +kernel), (qb_memP (j := 0) (i := 23) rfl rfl), rfl, by decide +kernel, rfl, by decide +kernel, by decide +kernel⟩
theorem qz_p5012 : qz_ispP 5012 0 := ⟨(qb_memP (j := 4) (i := 196) rfl rfl), (qb_memP (j := 0) (i := 12) rfl rfl), qb_neq (by decide +kernel), (qb_memP (j := 4) (i := 195) rfl rfl), rfl, by decide +kernel, rfl, by decide +kernel, by decide +kernel⟩
theorem qz_obj : Jvm.Cond.instanceMethod Lib.objectInit ∈ qb_TB ∧ Jvm.Cond.code Lib.objectInit ⟨#[0xb1]⟩ 1 none ∈ qb_TB := ⟨(qb_memP (j := 0) (i := 26) rfl rfl), (qb_memP (j := 0) (i := 27) rfl rfl)⟩
def qz_kn : List (Nat × Nat) := [(5000, 1), (5001, 0), (5003, 0), (5004, 0), (5005, 2), (5006, 2), (5007, 0), (5008, 0), (5009, 3), (5010, 1), (5011, 0), (5012, 0)]
noncomputable def qt_isp (e : Nat × Nat × Nat × Nat × Nat × Nat × Nat) : Bool := bif Nat.beq e.2.2.1 0 then qt_w e.2.2.2.2.2.1 e.2.2.2.2.2.2 (.methodLink (qz_ow e.1) e.2.1 Lib.objectInit) else
  (bif Nat.beq e.2.2.2.2.1 0 then qt_w e.2.2.2.2.2.1 e.2.2.2.2.2.2 (.methodLink (qz_ow e.1) e.2.1 (qz_nm e.2.2.1)) else (qz_NS.any fun q => decide (q.1 = qz_ow e.1) && (Nat.beq q.2.1 e.2.1 && decide (q.2.2.1 = qz_nm e.2.2.1)))) && decide ((e.2.2.1, e.2.2.2.1) ∈ qz_kn)
theorem qz_isps_ok : qz_isps.all qt_isp = true := by decide +kernel
theorem qz_kn_ok : ∀ q ∈ qz_kn, qz_ispP q.1 q.2 := by
  intro q hq
  simp only [qz_kn, List.mem_cons, List.not_mem_nil, or_false] at hq
  rcases hq with rfl | rfl | rfl | rfl | rfl | rfl | rfl | rfl | rfl | rfl | rfl | rfl
  · exact qz_p5000
  · exact qz_p5001
  · exact qz_p5003
  · exact qz_p5004
  · exact qz_p5005
  · exact qz_p5006
  · exact qz_p5007
  · exact qz_p5008
  · exact qz_p5009
  · exact qz_p5010
  · exact qz_p5011
  · exact qz_p5012
theorem qz_vIsp : qk_vIsp qz_T qz_bs qz_ow qz_nm qb_TB qz_NS := by
  intro k i k' n h
  have h : (qz_isps.find? fun e => Nat.beq e.1 k && Nat.beq e.2.1 i).map (fun e => (e.2.2.1, e.2.2.2.1)) = some (k', n) := h
  cases hf : qz_isps.find? fun e => Nat.beq e.1 k && Nat.beq e.2.1 i with
  | none => rw [hf] at h; cases h
  | some e =>
    rw [hf] at h
    cases h
    obtain ⟨h1, h2⟩ := qz_find hf qz_isps_ok
    rw [Bool.and_eq_true] at h1
    obtain rfl := Nat.eq_of_beq_eq_true h1.1
    obtain rfl := Nat.eq_of_beq_eq_true h1.2
    unfold qt_isp at h2
    refine ⟨fun hk => ?_, fun hk => ?_⟩
    · rw [hk] at h2
      exact ⟨qb_mem h2, qz_obj⟩
    · have hb : Nat.beq e.2.2.1 0 = false := by
        cases hb : Nat.beq e.2.2.1 0 with
        | false => rfl
        | true => exact absurd (Nat.eq_of_beq_eq_true hb) hk
      rw [hb, cond_false, Bool.and_eq_true] at h2
      obtain ⟨h3, h4⟩ := h2
      obtain ⟨a1, a2, a3, a4, a5, a6, a7, a8, a9⟩ := qz_kn_ok _ (of_decide_eq_true h4)
      refine ⟨a1, a2, a3, a4, a5, a6, a7, a8, a9, ?_⟩
      cases hn : Nat.beq e.2.2.2.2.1 0 with
      | true =>
        rw [hn, cond_true] at h3
        exact Or.inl (qb_mem h3)
      | false =>
        rw [hn, cond_false] at h3
        obtain ⟨q, hq, h5⟩ := List.any_eq_true.mp h3
        simp only [Bool.and_eq_true, decide_eq_true_eq] at h5
        obtain ⟨e1, e2, e3⟩ := h5
        refine Or.inr ⟨q.2.2.2, ?_⟩
        rw [← e1, ← Nat.eq_of_beq_eq_true e2, ← e3]
        exact hq
