/-! ===== 64 bits; bits of small numbers ===== -/
def jd_lb (x : Int) (i : Nat) : Bool := (BitVec.ofInt 64 x).getLsbD i
theorem jl_ofL (z : Int64) : BitVec.ofInt 64 z.toInt = z.toBitVec := by
  have h : Int64.ofInt z.toInt = z := Int64.ofInt_toInt z
  have h2 : (Int64.ofInt z.toInt).toBitVec = z.toBitVec := by rw [h]
  exact h2
theorem jl_lor (x y : Int) (i : Nat) : jd_lb (ql_or x y) i = (jd_lb x i || jd_lb y i) := by
  unfold jd_lb ql_or
  rw [jl_ofL, Int64.toBitVec_or, BitVec.getLsbD_or]; rfl
theorem jl_land (x y : Int) (i : Nat) : jd_lb (ql_and x y) i = (jd_lb x i && jd_lb y i) := by
  unfold jd_lb ql_and
  rw [jl_ofL, Int64.toBitVec_and, BitVec.getLsbD_and]; rfl
theorem jl_sm64 : ∀ k : Nat, k < 64 → (((Int32.ofInt (k : Int)).toInt64 &&& 63).toBitVec.smod 64).toNat = k := by decide
theorem jl_lshl {n : Nat} (hn : n < 64) {i : Nat} (hi : i < 64) : jd_lb (ql_shl 1 (n : Int)) i = decide (i = n) := by
  unfold jd_lb ql_shl
  rw [jl_ofL]
  show ((Int64.ofInt 1).toBitVec <<< (((Int32.ofInt (n : Int)).toInt64 &&& 63).toBitVec.smod 64)).getLsbD i = _
  rw [BitVec.shiftLeft_eq', jl_sm64 n hn, BitVec.getLsbD_shiftLeft]
  have e : (Int64.ofInt 1).toBitVec = 1#64 := rfl
  rw [e, BitVec.getLsbD_one]
  by_cases h : i = n
  · subst h; simp [hi]
  · by_cases h2 : i < n
    · simp [h2, h]
    · have : ¬ i - n = 0 := by omega
      simp [h2, h, this]
theorem jl_lshr (x : Int) {n : Nat} (hn : n < 64) : ql_and (ql_shr x (n : Int)) 1 = if jd_lb x n = true then 1 else 0 := by
  unfold ql_and ql_shr jd_lb
  rw [Int64.ofInt_toInt]
  have e1 : (Int64.ofInt x >>> ((Int32.ofInt (n : Int)).toInt64 &&& 63)).toBitVec = (BitVec.ofInt 64 x).sshiftRight n := by
    show (Int64.ofInt x).toBitVec.sshiftRight (((Int32.ofInt (n : Int)).toInt64 &&& 63).toBitVec.smod 64).toNat = _
    rw [jl_sm64 n hn]; rfl
  have e2 : ((Int64.ofInt x >>> ((Int32.ofInt (n : Int)).toInt64 &&& 63)) &&& Int64.ofInt 1).toBitVec = ((BitVec.ofInt 64 x).sshiftRight n) &&& 1#64 := by
    rw [Int64.toBitVec_and, e1]; rfl
  have e3 : (((BitVec.ofInt 64 x).sshiftRight n) &&& 1#64).toNat = if (BitVec.ofInt 64 x).getLsbD n = true then 1 else 0 := by
    have h0 : ((BitVec.ofInt 64 x).sshiftRight n).getLsbD 0 = (BitVec.ofInt 64 x).getLsbD n := by
      rw [BitVec.getLsbD_sshiftRight]
      simp [hn]
    have h1 : ((BitVec.ofInt 64 x).sshiftRight n).toNat.testBit 0 = (BitVec.ofInt 64 x).getLsbD n := h0
    rw [Nat.testBit_zero] at h1
    rw [BitVec.toNat_and]
    show ((BitVec.ofInt 64 x).sshiftRight n).toNat &&& 1 = _
    rw [Nat.and_one_is_mod, ← h1]
    by_cases q : ((BitVec.ofInt 64 x).sshiftRight n).toNat % 2 = 1
    · simp [q]
    · simp [q]; omega
  show (((Int64.ofInt x >>> ((Int32.ofInt (n : Int)).toInt64 &&& 63)) &&& Int64.ofInt 1).toBitVec).toInt = _
  rw [e2]
  have e4 : 2 * (((BitVec.ofInt 64 x).sshiftRight n) &&& 1#64).toNat < 2 ^ 64 := by rw [e3]; split <;> decide
  rw [BitVec.toInt_eq_toNat_of_lt e4, e3]
  split <;> rfl
theorem jl_l0 (i : Nat) : jd_lb 0 i = false := by
  unfold jd_lb
  have e : BitVec.ofInt 64 0 = 0#64 := rfl
  rw [e, BitVec.getLsbD_zero]
theorem jl_lm1 {i : Nat} (hi : i < 64) : jd_lb (-1) i = true := by
  unfold jd_lb
  have e : BitVec.ofInt 64 (-1) = BitVec.allOnes 64 := by decide
  rw [e, BitVec.getLsbD_allOnes]
  exact decide_eq_true hi
theorem jl_lz {x : Int} (h : qm_r64 x) : x = 0 ↔ ∀ i, i < 64 → jd_lb x i = false := by
  constructor
  · rintro rfl i _; exact jl_l0 i
  · intro hb
    have e : BitVec.ofInt 64 x = 0#64 := by
      refine BitVec.eq_of_getLsbD_eq fun i hi => ?_
      rw [BitVec.getLsbD_zero]; exact hb i hi
    have e2 : (Int64.ofInt x).toInt = x := qa_r64 h
    have e3 : Int64.ofInt x = Int64.ofInt 0 := by
      have : (Int64.ofInt x).toBitVec = (Int64.ofInt 0).toBitVec := e
      exact Int64.toBitVec_inj.mp this
    rw [← e2, e3]; rfl
theorem jl_lr_and (x y : Int) : qm_r64 (ql_and x y) := ⟨Int64.le_toInt _, Int64.toInt_lt _⟩
theorem jl_lr_or (x y : Int) : qm_r64 (ql_or x y) := ⟨Int64.le_toInt _, Int64.toInt_lt _⟩
theorem jl_bt (w i : Nat) : jd_bit w i = (w.testBit i).toNat := (Nat.toNat_testBit w i).symm
theorem jl_btt {w i : Nat} : w.testBit i = true ↔ jd_bit w i = 1 := by
  rw [jl_bt]; cases w.testBit i <;> simp
theorem jl_bte {v w i : Nat} : v.testBit i = w.testBit i ↔ jd_bit v i = jd_bit w i := by
  rw [jl_bt, jl_bt]; cases v.testBit i <;> cases w.testBit i <;> simp
/-- the turns of n rows the other way -/
def jd_cp (n t : Nat) : Nat := 2 ^ n - (t + 1)
theorem jl_cpl {n : Nat} (t : Nat) : jd_cp n t < 2 ^ n := by
  have := jl_pp n
  unfold jd_cp; omega
theorem jl_cpt {n t r : Nat} (h : t < 2 ^ n) (hr : r < n) : jd_bit (jd_cp n t) r = 1 - jd_bit t r := by
  have e : (jd_cp n t).testBit r = !t.testBit r := by
    unfold jd_cp
    rw [Nat.testBit_two_pow_sub_succ h, decide_eq_true hr, Bool.true_and]
  rw [jl_bt, e, jl_bt]
  cases t.testBit r <;> rfl
theorem jl_cpc {n t : Nat} (h : t < 2 ^ n) : jd_cp n (jd_cp n t) = t := by unfold jd_cp; omega
theorem jl_pnc {n t : Nat} (h : t < 2 ^ n) : ∀ m, m ≤ n → jd_pn (jd_cp n t) m + jd_pn t m = m
  | 0, _ => rfl
  | m + 1, hm => by
    have ih := jl_pnc h m (by omega)
    have e1 : jd_pn (jd_cp n t) (m + 1) = jd_pn (jd_cp n t) m + jd_bit (jd_cp n t) m := rfl
    have e2 : jd_pn t (m + 1) = jd_pn t m + jd_bit t m := rfl
    have := jl_cpt h (show m < n by omega)
    have := jl_bit2 t m
    omega
theorem jl_ande {n a b m : Nat} (ha : a < 2 ^ n) (hb : b < 2 ^ n) (hm : m < 64) (hn : n ≤ 6) : a &&& (63 - m) = b &&& (63 - m) ↔ ∀ r, r < n → jd_bit m r = 0 → jd_bit a r = jd_bit b r := by
  have h63 : ∀ r, (63 - m).testBit r = (decide (r < 6) && !m.testBit r) := fun r => by
    have := Nat.testBit_two_pow_sub_succ (n := 6) hm r
    rw [← this]; congr 1; omega
  constructor
  · intro h r hr h0
    have h2 : (a &&& (63 - m)).testBit r = (b &&& (63 - m)).testBit r := by rw [h]
    rw [Nat.testBit_and, Nat.testBit_and, h63, decide_eq_true (show r < 6 by omega), Bool.true_and] at h2
    have h3 : m.testBit r = false := by
      cases q : m.testBit r with
      | false => rfl
      | true => have := jl_btt.mp q; omega
    rw [h3, Bool.not_false, Bool.and_true, Bool.and_true] at h2
    exact jl_bte.mp h2
  · intro h
    refine Nat.eq_of_testBit_eq fun r => ?_
    rw [Nat.testBit_and, Nat.testBit_and, h63]
    by_cases hr : r < n
    · cases q : m.testBit r with
      | true => simp
      | false =>
        have h0 : jd_bit m r = 0 := by rw [jl_bt, q]; rfl
        rw [jl_bte.mpr (h r hr h0)]
    · have e1 : a.testBit r = false := by
        cases q : a.testBit r with
        | false => rfl
        | true => have := jl_btt.mp q; rw [jl_bit_0 ha (by omega)] at this; omega
      have e2 : b.testBit r = false := by
        cases q : b.testBit r with
        | false => rfl
        | true => have := jl_btt.mp q; rw [jl_bit_0 hb (by omega)] at this; omega
      rw [e1, e2]
theorem jl_xm : ∀ m : Nat, m < 64 → ∀ t : Nat, t < 64 → qi_and (t : Int) (qi_xor (m : Int) (-1)) = ((t &&& (63 - m) : Nat) : Int) := by decide +kernel
/-- all cards have rows of turns that agree outside m -/
def jd_AG (nc n : Nat) (W : Nat → Nat → Prop) (m : Nat) : Prop := ∃ k0, k0 < 2 ^ n ∧ ∀ c, c < nc → ∃ k, k < 2 ^ n ∧ W c k ∧ ∀ r, r < n → jd_bit m r = 0 → jd_bit k r = jd_bit k0 r
def jd_apv (nc n : Nat) (W : Nat → Nat → Prop) (v : Int) : Prop := v ≤ n ∧ (v = n ∨ ∃ m, m < 2 ^ n ∧ jd_AG nc n W m ∧ ((jd_pn m n : Nat) : Int) = v) ∧ ∀ m, m < 2 ^ n → jd_AG nc n W m → v ≤ ((jd_pn m n : Nat) : Int)
theorem jl_apv {nc n : Nat} {W : Nat → Nat → Prop} {v v' : Int} (h1 : jd_apv nc n W v) (h2 : jd_apv nc n W v') : v = v' := by
  obtain ⟨a1, a2, a3⟩ := h1
  obtain ⟨b1, b2, b3⟩ := h2
  have hp := fun m => jl_pn_b m n
  rcases a2 with a2 | ⟨m, x1, x2, x3⟩ <;> rcases b2 with b2 | ⟨m', y1, y2, y3⟩
  · omega
  · have := a3 m' y1 y2; omega
  · have := b3 m x1 x2; omega
  · have := a3 m' y1 y2; have := b3 m x1 x2; omega
def jd_W (lm : Int) (th sf sb : Nat → Nat → Int) (s : Nat) (c w : Nat) : Prop := ∃ k, k < 4 ∧ jd_way (jd_P lm th sf sb 0 (-1) 0 c k) s w
def jd_apt (nc : Nat) (lm : Int) (th sf sb : Nat → Nat → Int) (s : Nat) (v : Int) : Prop := ((s = 0 ∨ 6 < s ∨ ¬ jd_fb nc lm th sf sb s (-1)) ∧ v = -1) ∨ (0 < s ∧ s ≤ 6 ∧ jd_fb nc lm th sf sb s (-1) ∧ jd_apv nc s (jd_W lm th sf sb s) v)
theorem jl_apt' {nc : Nat} {lm : Int} {th sf sb : Nat → Nat → Int} {s : Nat} {v v' : Int} (h1 : jd_apt nc lm th sf sb s v) (h2 : jd_apt nc lm th sf sb s v') : v = v' := by
  rcases h1 with ⟨a1, a2⟩ | ⟨a1, a2, a3, a4⟩ <;> rcases h2 with ⟨b1, b2⟩ | ⟨b1, b2, b3, b4⟩
  · omega
  · rcases a1 with a1 | a1 | a1
    · omega
    · omega
    · exact absurd b3 a1
  · rcases b1 with b1 | b1 | b1
    · omega
    · omega
    · exact absurd a3 b1
  · exact jl_apv a4 b4
section
variable {L d : Nat} {μ : qm_M} {Q : Int → qm_M → Prop}
set_option maxRecDepth 100000 in
theorem js_2601 {x : Nat} (hx : x < 64) (H : Q ((jd_pn x 6 : Nat) : Int) μ) : qm_CI (qb_T L) d 2601 [qm_I (x : Int)] μ Q := by
  refine b2601_0 μ _ _ ⟨_, rfl, ?_⟩
  have key : ∀ x : Nat, x < 64 → (qi_and (((qi_and (((qi_and ((x : Int) - (qi_and (qi_ushr (x : Int) 1) 1431655765)) 858993459) + (qi_and (qi_ushr ((x : Int) - (qi_and (qi_ushr (x : Int) 1) 1431655765)) 2) 858993459)) + (qi_ushr ((qi_and ((x : Int) - (qi_and (qi_ushr (x : Int) 1) 1431655765)) 858993459) + (qi_and (qi_ushr ((x : Int) - (qi_and (qi_ushr (x : Int) 1) 1431655765)) 2) 858993459)) 4)) 252645135) + (qi_ushr (qi_and (((qi_and ((x : Int) - (qi_and (qi_ushr (x : Int) 1) 1431655765)) 858993459) + (qi_and (qi_ushr ((x : Int) - (qi_and (qi_ushr (x : Int) 1) 1431655765)) 2) 858993459)) + (qi_ushr ((qi_and ((x : Int) - (qi_and (qi_ushr (x : Int) 1) 1431655765)) 858993459) + (qi_and (qi_ushr ((x : Int) - (qi_and (qi_ushr (x : Int) 1) 1431655765)) 2) 858993459)) 4)) 252645135) 8)) + (qi_ushr ((qi_and (((qi_and ((x : Int) - (qi_and (qi_ushr (x : Int) 1) 1431655765)) 858993459) + (qi_and (qi_ushr ((x : Int) - (qi_and (qi_ushr (x : Int) 1) 1431655765)) 2) 858993459)) + (qi_ushr ((qi_and ((x : Int) - (qi_and (qi_ushr (x : Int) 1) 1431655765)) 858993459) + (qi_and (qi_ushr ((x : Int) - (qi_and (qi_ushr (x : Int) 1) 1431655765)) 2) 858993459)) 4)) 252645135) + (qi_ushr (qi_and (((qi_and ((x : Int) - (qi_and (qi_ushr (x : Int) 1) 1431655765)) 858993459) + (qi_and (qi_ushr ((x : Int) - (qi_and (qi_ushr (x : Int) 1) 1431655765)) 2) 858993459)) + (qi_ushr ((qi_and ((x : Int) - (qi_and (qi_ushr (x : Int) 1) 1431655765)) 858993459) + (qi_and (qi_ushr ((x : Int) - (qi_and (qi_ushr (x : Int) 1) 1431655765)) 2) 858993459)) 4)) 252645135) 8)) 16)) 63) = ((jd_pn x 6 : Nat) : Int) := by decide +kernel
  rw [key x hx]; exact H
end
