/-! ===== numbers of 32 and 64 bits ===== -/
theorem qa_r32 {x : Int} (h : qm_r32 x) : (Int32.ofInt x).toInt = x := Int32.toInt_ofInt_of_le h.1 h.2
theorem qa_r64 {x : Int} (h : qm_r64 x) : (Int64.ofInt x).toInt = x := Int64.toInt_ofInt_of_le h.1 h.2
theorem qa_bv (x : Int) : (Int32.ofInt x).toBitVec = BitVec.ofInt 32 x := rfl
theorem qa_bvL (x : Int) : (Int64.ofInt x).toBitVec = BitVec.ofInt 64 x := rfl
/-- a mask of the lowest k bits -/
theorem qa_mask (x : Int) {k : Nat} (hk : k < 31) : qi_and x ((2 ^ k - 1 : Nat) : Int) = x % (2 ^ k : Nat) := by
  unfold qi_and
  have hp : (2 : Nat) ^ k ≤ 2 ^ 30 := Nat.pow_le_pow_right (by decide) (by omega)
  have hp0 : 0 < (2 : Nat) ^ k := Nat.pow_pos (by decide)
  have h1 : ((Int32.ofInt x &&& Int32.ofInt ((2 ^ k - 1 : Nat) : Int)).toBitVec).toNat = (x % (2 ^ 32 : Nat)).toNat % 2 ^ k := by
    rw [Int32.toBitVec_and, BitVec.toNat_and, qa_bv, qa_bv, BitVec.toNat_ofInt, BitVec.toNat_ofInt]
    have e2 : ((((2 ^ k - 1 : Nat) : Int)) % ((2 ^ 32 : Nat) : Int)).toNat = 2 ^ k - 1 := by
      rw [Int.emod_eq_of_lt (by omega) (by omega)]
      exact Int.toNat_natCast _
    rw [e2, Nat.and_two_pow_sub_one_eq_mod]
  have h2 : (x % (2 ^ 32 : Nat)).toNat % 2 ^ k = (x % (2 ^ k : Nat)).toNat := by
    have hd : ((2 ^ k : Nat) : Int) ∣ ((2 ^ 32 : Nat) : Int) := by
      refine Int.natCast_dvd_natCast.mpr (Nat.pow_dvd_pow 2 (by omega))
    have e3 : x % ((2 ^ k : Nat) : Int) = (x % ((2 ^ 32 : Nat) : Int)) % ((2 ^ k : Nat) : Int) := (Int.emod_emod_of_dvd x hd).symm
    rw [e3]
    have hn : 0 ≤ x % ((2 ^ 32 : Nat) : Int) := Int.emod_nonneg _ (by decide)
    obtain ⟨n, hn2⟩ := Int.eq_ofNat_of_zero_le hn
    rw [hn2, ← Int.natCast_emod]
    rfl
  have hb : 0 ≤ x % ((2 ^ k : Nat) : Int) := Int.emod_nonneg _ (by omega)
  have hb2 : x % ((2 ^ k : Nat) : Int) < ((2 ^ k : Nat) : Int) := Int.emod_lt_of_pos _ (by omega)
  show ((Int32.ofInt x &&& Int32.ofInt ((2 ^ k - 1 : Nat) : Int)).toBitVec).toInt = _
  rw [BitVec.toInt_eq_toNat_of_lt (by rw [h1, h2]; omega), h1, h2]
  omega
theorem qa_and1 (x : Int) : qi_and x 1 = x % 2 := qa_mask x (k := 1) (by decide)
theorem qa_and3 (x : Int) : qi_and x 3 = x % 4 := qa_mask x (k := 2) (by decide)
theorem qa_and31 (x : Int) : qi_and x 31 = x % 32 := qa_mask x (k := 5) (by decide)
theorem qa_and255 (x : Int) : qi_and x 255 = x % 256 := qa_mask x (k := 8) (by decide)
theorem qa_r_and (x y : Int) : qm_r32 (qi_and x y) := ⟨Int32.le_toInt _, Int32.toInt_lt _⟩
theorem qa_r_or (x y : Int) : qm_r32 (qi_or x y) := ⟨Int32.le_toInt _, Int32.toInt_lt _⟩
theorem qa_r_xor (x y : Int) : qm_r32 (qi_xor x y) := ⟨Int32.le_toInt _, Int32.toInt_lt _⟩
theorem qa_r_shl (x y : Int) : qm_r32 (qi_shl x y) := ⟨Int32.le_toInt _, Int32.toInt_lt _⟩
theorem qa_r_shr (x y : Int) : qm_r32 (qi_shr x y) := ⟨Int32.le_toInt _, Int32.toInt_lt _⟩
theorem qa_r_div (x y : Int) : qm_r32 (qi_div x y) := ⟨Int32.le_toInt _, Int32.toInt_lt _⟩
theorem qa_r_rem (x y : Int) : qm_r32 (qi_rem x y) := ⟨Int32.le_toInt _, Int32.toInt_lt _⟩
theorem qa_smod : ∀ k : Nat, k < 32 → ((Int32.ofInt (k : Int) &&& 31).toBitVec.smod 32).toNat = k := by decide
theorem qa_shr {x : Int} {k : Nat} (hx : qm_r32 x) (hk : k < 32) : qi_shr x (k : Int) = x / ((2 ^ k : Nat) : Int) := by
  unfold qi_shr
  show ((Int32.ofInt x).toBitVec.sshiftRight' ((Int32.ofInt (k : Int) &&& 31).toBitVec.smod 32)).toInt = _
  rw [BitVec.toInt_sshiftRight', qa_smod k hk, Int.shiftRight_eq_div_pow]
  show (Int32.ofInt x).toInt / _ = _
  rw [qa_r32 hx]
theorem qa_shl {x : Int} {k : Nat} (hx : 0 ≤ x) (hk : k < 31) (h : x * ((2 ^ k : Nat) : Int) < 2147483648) : qi_shl x (k : Int) = x * ((2 ^ k : Nat) : Int) := by
  unfold qi_shl
  have hp0 : 0 < (2 : Nat) ^ k := Nat.pow_pos (by decide)
  have hx2 : x < 2147483648 := by
    refine Int.lt_of_le_of_lt ?_ h
    have : x * 1 ≤ x * ((2 ^ k : Nat) : Int) := Int.mul_le_mul_of_nonneg_left (by omega) hx
    omega
  show ((Int32.ofInt x).toBitVec <<< ((Int32.ofInt (k : Int) &&& 31).toBitVec.smod 32)).toInt = _
  rw [BitVec.shiftLeft_eq', BitVec.toInt_shiftLeft, qa_smod k (by omega)]
  have e : (Int32.ofInt x).toBitVec.toNat = x.toNat := by
    rw [qa_bv, BitVec.toNat_ofInt, Int.emod_eq_of_lt hx (by omega)]
  rw [e, Nat.shiftLeft_eq]
  obtain ⟨n, rfl⟩ := Int.eq_ofNat_of_zero_le hx
  rw [Int.toNat_natCast, Int.natCast_mul, Int.bmod_eq_of_le]
  · have : 0 ≤ (n : Int) * ((2 ^ k : Nat) : Int) := Int.mul_nonneg hx (by omega)
    omega
  · omega
theorem qa_or_add {a b : Int} {k : Nat} (ha : 0 ≤ a) (ha2 : a < ((2 ^ k : Nat) : Int)) (hb : 0 ≤ b) (hd : ((2 ^ k : Nat) : Int) ∣ b) (h : b + a < 2147483648) : qi_or b a = b + a := by
  obtain ⟨c, rfl⟩ := hd
  have hp0 : 0 < (2 : Nat) ^ k := Nat.pow_pos (by decide)
  have hc : 0 ≤ c := by
    rcases Int.lt_or_le c 0 with q | q
    · have : ((2 ^ k : Nat) : Int) * c < 0 := Int.mul_neg_of_pos_of_neg (by omega) q
      omega
    · exact q
  obtain ⟨n, rfl⟩ := Int.eq_ofNat_of_zero_le hc
  obtain ⟨m, rfl⟩ := Int.eq_ofNat_of_zero_le ha
  have h' : 2 ^ k * n + m < 2147483648 := by
    have : ((2 ^ k * n + m : Nat) : Int) < 2147483648 := by push_cast; push_cast at h; exact h
    omega
  have hm : m < 2 ^ k := by omega
  unfold qi_or
  have e1 : ((2 ^ k : Nat) : Int) * (n : Int) = ((2 ^ k * n : Nat) : Int) := by push_cast; rfl
  rw [e1]
  have e : ((Int32.ofInt ((2 ^ k * n : Nat) : Int) ||| Int32.ofInt (m : Int)).toBitVec).toNat = 2 ^ k * n + m := by
    rw [Int32.toBitVec_or, BitVec.toNat_or, qa_bv, qa_bv, BitVec.toNat_ofInt, BitVec.toNat_ofInt, Int.emod_eq_of_lt (by omega) (by omega), Int.emod_eq_of_lt (by omega) (by omega), Int.toNat_natCast, Int.toNat_natCast, Nat.two_pow_add_eq_or_of_lt hm]
  show ((Int32.ofInt ((2 ^ k * n : Nat) : Int) ||| Int32.ofInt (m : Int)).toBitVec).toInt = _
  rw [BitVec.toInt_eq_toNat_of_lt (by rw [e]; omega), e]
  push_cast
  rfl
theorem qa_tdiv {x y : Int} (hx : qm_r32 x) (hy : qm_r32 y) (h1 : y ≠ -1) : qi_div x y = x.tdiv y := by
  unfold qi_div
  rw [Int32.toInt_div_of_ne_right, qa_r32 hx, qa_r32 hy]
  intro e
  have := congrArg Int32.toInt e
  rw [qa_r32 hy] at this
  exact h1 this
theorem qa_tmod {x y : Int} (hx : qm_r32 x) (hy : qm_r32 y) (h0 : y ≠ 0) (h1 : y ≠ -1) : qi_rem x y = x.tmod y := by
  have hd : (Int32.ofInt x / Int32.ofInt y).toInt = x.tdiv y := qa_tdiv hx hy h1
  unfold qi_rem
  rw [Int32.toInt_sub, Int32.toInt_mul, hd, qa_r32 hx, qa_r32 hy, Int.sub_bmod_bmod]
  have e : x - x.tdiv y * y = x.tmod y := by
    rw [Int.tmod_def, Int.mul_comm]
  rw [e]
  have h2 : (x.tmod y).natAbs = x.natAbs % y.natAbs := Int.natAbs_tmod x y
  have h3 := Nat.mod_le x.natAbs y.natAbs
  have h4 := hx.1
  have h5 := hx.2
  have h6 : -2147483648 ≤ x.tmod y := by omega
  have h7 : x.tmod y ≤ 2147483648 := by omega
  have h8 : x.tmod y ≠ 2147483648 := by
    intro q
    have h9 : x = -2147483648 := by omega
    have h10 : x.tmod y ≤ 0 := by
      have h11 : (-x).tmod y = -(x.tmod y) := Int.neg_tmod x y
      have h12 : 0 ≤ (-x).tmod y := Int.tmod_nonneg y (by omega)
      omega
    omega
  rw [Int.bmod_eq_of_le] <;> omega
theorem qa_div {x y : Int} (hx : 0 ≤ x) (hx2 : x < 2147483648) (hy : 0 < y) (hy2 : y < 2147483648) : qi_div x y = x / y := by
  rw [qa_tdiv ⟨by omega, hx2⟩ ⟨by omega, hy2⟩ (by omega), Int.tdiv_eq_ediv_of_nonneg hx]
theorem qa_rem {x y : Int} (hx : 0 ≤ x) (hx2 : x < 2147483648) (hy : 0 < y) (hy2 : y < 2147483648) : qi_rem x y = x % y := by
  rw [qa_tmod ⟨by omega, hx2⟩ ⟨by omega, hy2⟩ (by omega) (by omega), Int.tmod_eq_emod_of_nonneg hx]
theorem qa_max (x y : Int) : qm_max x y = max x y := by
  unfold qm_max
  split <;> omega
theorem qa_min (x y : Int) : qm_min x y = min x y := by
  unfold qm_min
  split <;> omega
