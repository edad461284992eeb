/-! ===== rows of turns as bits; how many there are by their twist ===== -/
noncomputable def jd_cl (p : Prop) : Int := @ite Int p (Classical.propDecidable p) 1 0
theorem jl_cl1 {p : Prop} (h : p) : jd_cl p = 1 := by unfold jd_cl; rw [if_pos h]
theorem jl_cl0 {p : Prop} (h : ¬ p) : jd_cl p = 0 := by unfold jd_cl; rw [if_neg h]
theorem jl_cle {p q : Prop} (h : p ↔ q) : jd_cl p = jd_cl q := by
  by_cases hp : p
  · rw [jl_cl1 hp, jl_cl1 (h.mp hp)]
  · rw [jl_cl0 hp, jl_cl0 (fun z => hp (h.mpr z))]
theorem jl_clb (p : Prop) : 0 ≤ jd_cl p ∧ jd_cl p ≤ 1 := by
  by_cases hp : p
  · rw [jl_cl1 hp]; decide
  · rw [jl_cl0 hp]; decide
theorem jl_clm {p q r : Prop} (h : p ↔ q ∧ r) : jd_cl p = jd_cl q * jd_cl r := by
  by_cases hq : q
  · rw [jl_cl1 hq, Int.one_mul]; exact jl_cle (h.trans ⟨fun z => z.2, fun z => ⟨hq, z⟩⟩)
  · rw [jl_cl0 hq, Int.zero_mul, jl_cl0 (fun z => hq (h.mp z).1)]
theorem jl_sum_add (f : Nat → Int) (a : Nat) : ∀ b, jd_sum f (a + b) = jd_sum f a + jd_sum (fun i => f (a + i)) b
  | 0 => by show jd_sum f a = jd_sum f a + 0; omega
  | b + 1 => by
    show jd_sum f (a + b) + f (a + b) = jd_sum f a + (jd_sum (fun i => f (a + i)) b + f (a + b))
    rw [jl_sum_add f a b]; omega
theorem jl_sum_mul (c : Int) (f : Nat → Int) : ∀ n, jd_sum (fun i => c * f i) n = c * jd_sum f n
  | 0 => by show (0 : Int) = c * 0; omega
  | n + 1 => by
    show jd_sum (fun i => c * f i) n + c * f n = c * (jd_sum f n + f n)
    rw [jl_sum_mul c f n, Int.mul_add]
theorem jl_sum_zip (f g : Nat → Int) : ∀ n, jd_sum (fun i => f i + g i) n = jd_sum f n + jd_sum g n
  | 0 => rfl
  | n + 1 => by
    show jd_sum (fun i => f i + g i) n + (f n + g n) = jd_sum f n + f n + (jd_sum g n + g n)
    rw [jl_sum_zip f g n]; omega
theorem jl_sum_0 : ∀ (f : Nat → Int) n, (∀ i, i < n → f i = 0) → jd_sum f n = 0
  | _, 0, _ => rfl
  | f, n + 1, h => by
    show jd_sum f n + f n = 0
    rw [jl_sum_0 f n (fun i hi => h i (by omega)), h n (by omega)]; rfl
theorem jl_sum_swap (f : Nat → Nat → Int) (m : Nat) : ∀ n, jd_sum (fun i => jd_sum (fun j => f i j) m) n = jd_sum (fun j => jd_sum (fun i => f i j) n) m
  | 0 => (jl_sum_0 _ m (fun _ _ => rfl)).symm
  | n + 1 => by
    show jd_sum (fun i => jd_sum (fun j => f i j) m) n + jd_sum (fun j => f n j) m = jd_sum (fun j => jd_sum (fun i => f i j) n + f n j) m
    rw [jl_sum_swap f m n, jl_sum_zip]
theorem jl_sum_pos {f : Nat → Int} (h : ∀ i, 0 ≤ f i) : ∀ n, 0 < jd_sum f n ↔ ∃ i, i < n ∧ 0 < f i
  | 0 => ⟨fun q => absurd q (by show ¬ (0 : Int) < 0; omega), fun ⟨i, hi, _⟩ => absurd hi (by omega)⟩
  | n + 1 => by
    have ih := jl_sum_pos h n
    have e : jd_sum f (n + 1) = jd_sum f n + f n := rfl
    have h0 : 0 ≤ jd_sum f n := by
      by_cases q : 0 < jd_sum f n
      · omega
      · have : ∀ m, 0 ≤ jd_sum f m := fun m => by
          induction m with
          | zero => exact Int.le_refl 0
          | succ m ihm =>
            have e2 : jd_sum f (m + 1) = jd_sum f m + f m := rfl
            have := h m
            rw [e2]; omega
        exact this n
    have hn := h n
    constructor
    · intro q
      by_cases q2 : 0 < f n
      · exact ⟨n, by omega, q2⟩
      · obtain ⟨i, hi, hf⟩ := ih.mp (by omega)
        exact ⟨i, by omega, hf⟩
    · rintro ⟨i, hi, hf⟩
      by_cases q : i = n
      · rw [q] at hf; omega
      · have := ih.mpr ⟨i, by omega, hf⟩; omega
theorem jl_sum_one (p : Prop) (x : Int) : ∀ n, jd_sum (fun i => jd_cl (p ∧ x = (i : Int))) n = jd_cl (p ∧ 0 ≤ x ∧ x < (n : Int))
  | 0 => by
    rw [jl_cl0 (fun q => by omega)]; rfl
  | n + 1 => by
    show jd_sum (fun i => jd_cl (p ∧ x = (i : Int))) n + jd_cl (p ∧ x = (n : Int)) = _
    rw [jl_sum_one p x n]
    by_cases hp : p
    · by_cases q : x = (n : Int)
      · rw [jl_cl0 (fun z => by omega), jl_cl1 ⟨hp, q⟩, jl_cl1 ⟨hp, by omega, by omega⟩]; rfl
      · rw [jl_cl0 (p := p ∧ x = (n : Int)) (fun z => q z.2), Int.add_zero]
        exact jl_cle ⟨fun z => ⟨hp, by omega, by omega⟩, fun z => ⟨hp, by omega, by omega⟩⟩
    · rw [jl_cl0 (fun z => hp z.1), jl_cl0 (fun z => hp z.1), jl_cl0 (fun z => hp z.1)]; rfl
def jd_bit (w i : Nat) : Nat := w / 2 ^ i % 2
def jd_dr (b : Nat) : Int := if b = 1 then -1 else 1
def jd_tb (w : Nat) : Nat → Int
  | 0 => 0
  | r + 1 => jd_tb w r + jd_dr (jd_bit w r)
def jd_pn (w : Nat) : Nat → Nat
  | 0 => 0
  | i + 1 => jd_pn w i + jd_bit w i
theorem jl_bit2 (w i : Nat) : jd_bit w i < 2 := Nat.mod_lt _ (by decide)
theorem jl_pp (n : Nat) : 0 < 2 ^ n := Nat.pow_pos (by decide)
theorem jl_bit_hi {w n : Nat} (h : w < 2 ^ n) : jd_bit (2 ^ n + w) n = 1 := by
  unfold jd_bit
  rw [Nat.add_comm, Nat.add_div_right _ (jl_pp n), Nat.div_eq_of_lt h]
theorem jl_bit_0 {w n i : Nat} (h : w < 2 ^ n) (hi : n ≤ i) : jd_bit w i = 0 := by
  unfold jd_bit
  rw [Nat.div_eq_of_lt (Nat.lt_of_lt_of_le h (Nat.pow_le_pow_right (by decide) hi))]
theorem jl_bit_lo {w n i : Nat} (hi : i < n) : jd_bit (2 ^ n + w) i = jd_bit w i := by
  unfold jd_bit
  have e : 2 ^ n = 2 ^ i * (2 * 2 ^ (n - i - 1)) := by
    rw [← Nat.mul_assoc, ← Nat.pow_succ, ← Nat.pow_add]; congr 1; omega
  rw [e, Nat.add_comm, Nat.add_mul_div_left _ _ (jl_pp i), Nat.add_mul_mod_self_left]
theorem jl_tb_e {w v : Nat} : ∀ m, (∀ i, i < m → jd_bit w i = jd_bit v i) → jd_tb w m = jd_tb v m
  | 0, _ => rfl
  | m + 1, h => by
    show jd_tb w m + jd_dr (jd_bit w m) = jd_tb v m + jd_dr (jd_bit v m)
    rw [jl_tb_e m (fun i hi => h i (by omega)), h m (by omega)]
theorem jl_tb_b (w : Nat) : ∀ n : Nat, -(n : Int) ≤ jd_tb w n ∧ jd_tb w n ≤ (n : Int)
  | 0 => ⟨by show -((0 : Nat) : Int) ≤ 0; omega, by show (0 : Int) ≤ ((0 : Nat) : Int); omega⟩
  | n + 1 => by
    have ih := jl_tb_b w n
    have e : jd_tb w (n + 1) = jd_tb w n + jd_dr (jd_bit w n) := rfl
    rw [e]; unfold jd_dr; split <;> omega
theorem jl_tb_p (w : Nat) : ∀ n : Nat, jd_tb w n = (n : Int) - 2 * ((jd_pn w n : Nat) : Int)
  | 0 => rfl
  | n + 1 => by
    have ih := jl_tb_p w n
    have e : jd_tb w (n + 1) = jd_tb w n + jd_dr (jd_bit w n) := rfl
    have e2 : jd_pn w (n + 1) = jd_pn w n + jd_bit w n := rfl
    have := jl_bit2 w n
    rw [e, e2, ih]; unfold jd_dr; split <;> omega
theorem jl_pn_b (w : Nat) : ∀ n, jd_pn w n ≤ n
  | 0 => Nat.le_refl 0
  | n + 1 => by
    have ih := jl_pn_b w n
    have e2 : jd_pn w (n + 1) = jd_pn w n + jd_bit w n := rfl
    have := jl_bit2 w n
    omega
theorem jl_pn_hi {w n : Nat} (h : w < 2 ^ n) : ∀ m, jd_pn w (n + m) = jd_pn w n
  | 0 => rfl
  | m + 1 => by
    show jd_pn w (n + m) + jd_bit w (n + m) = _
    rw [jl_pn_hi h m, jl_bit_0 h (by omega)]; rfl
/-- a row of turns that keeps a test at each row (its turn as a bit, 1 back; its twist) -/
def jd_way (P : Nat → Nat → Int → Prop) (n w : Nat) : Prop := ∀ r, r < n → P r (jd_bit w r) (jd_tb w (r + 1))
noncomputable def jd_dp (P : Nat → Nat → Int → Prop) : Nat → Int → Int
  | 0, t => if t = 0 then 1 else 0
  | r + 1, t => jd_cl (P r 0 t) * jd_dp P r (t - 1) + jd_cl (P r 1 t) * jd_dp P r (t + 1)
theorem jl_way_lo {P : Nat → Nat → Int → Prop} {n w : Nat} (h : w < 2 ^ n) : jd_way P (n + 1) w ↔ P n 0 (jd_tb w n + 1) ∧ jd_way P n w := by
  have e : jd_bit w n = 0 := jl_bit_0 h (Nat.le_refl _)
  have e2 : jd_tb w (n + 1) = jd_tb w n + 1 := by
    show jd_tb w n + jd_dr (jd_bit w n) = _
    rw [e]; rfl
  constructor
  · intro q
    have := q n (by omega)
    rw [e, e2] at this
    exact ⟨this, fun r hr => q r (by omega)⟩
  · rintro ⟨q1, q2⟩ r hr
    by_cases hn : r = n
    · rw [hn, e, e2]; exact q1
    · exact q2 r (by omega)
theorem jl_way_hi {P : Nat → Nat → Int → Prop} {n w : Nat} (h : w < 2 ^ n) : jd_way P (n + 1) (2 ^ n + w) ↔ P n 1 (jd_tb w n - 1) ∧ jd_way P n w := by
  have e : jd_bit (2 ^ n + w) n = 1 := jl_bit_hi h
  have e3 : ∀ m, m ≤ n → jd_tb (2 ^ n + w) m = jd_tb w m := fun m hm => jl_tb_e m fun i hi => jl_bit_lo (by omega)
  have e2 : jd_tb (2 ^ n + w) (n + 1) = jd_tb w n - 1 := by
    show jd_tb (2 ^ n + w) n + jd_dr (jd_bit (2 ^ n + w) n) = _
    rw [e, e3 n (Nat.le_refl _)]; rfl
  constructor
  · intro q
    have := q n (by omega)
    rw [e, e2] at this
    refine ⟨this, fun r hr => ?_⟩
    have := q r (by omega)
    rw [jl_bit_lo hr, e3 _ (by omega)] at this
    exact this
  · rintro ⟨q1, q2⟩ r hr
    by_cases hn : r = n
    · rw [hn, e, e2]; exact q1
    · rw [jl_bit_lo (by omega), e3 _ (by omega)]; exact q2 r (by omega)
theorem jl_tb_lo {n w : Nat} (h : w < 2 ^ n) : jd_tb w (n + 1) = jd_tb w n + 1 := by
  show jd_tb w n + jd_dr (jd_bit w n) = _
  rw [jl_bit_0 h (Nat.le_refl _)]; rfl
theorem jl_tb_hi {n w : Nat} (h : w < 2 ^ n) : jd_tb (2 ^ n + w) (n + 1) = jd_tb w n - 1 := by
  show jd_tb (2 ^ n + w) n + jd_dr (jd_bit (2 ^ n + w) n) = _
  rw [jl_bit_hi h, jl_tb_e n fun i hi => jl_bit_lo hi]; rfl
theorem jl_cnt (P : Nat → Nat → Int → Prop) : ∀ (n : Nat) (t : Int), jd_sum (fun w => jd_cl (jd_way P n w ∧ jd_tb w n = t)) (2 ^ n) = jd_dp P n t
  | 0, t => by
    show 0 + jd_cl (jd_way P 0 0 ∧ (0 : Int) = t) = if t = 0 then 1 else 0
    by_cases h : t = 0
    · rw [if_pos h, jl_cl1 ⟨fun r hr => absurd hr (by omega), h.symm⟩]; rfl
    · rw [if_neg h, jl_cl0 (fun q => h q.2.symm)]; rfl
  | n + 1, t => by
    rw [Nat.pow_succ, Nat.mul_two, jl_sum_add]
    show _ = jd_cl (P n 0 t) * jd_dp P n (t - 1) + jd_cl (P n 1 t) * jd_dp P n (t + 1)
    rw [← jl_cnt P n (t - 1), ← jl_cnt P n (t + 1), ← jl_sum_mul, ← jl_sum_mul]
    congr 1
    · refine jl_sume _ fun w hw => jl_clm ?_
      rw [jl_way_lo hw, jl_tb_lo hw]
      constructor
      · rintro ⟨⟨a, b⟩, c⟩
        rw [c] at a
        exact ⟨a, b, by omega⟩
      · rintro ⟨a, b, c⟩
        rw [c, show t - 1 + 1 = t by omega]
        exact ⟨⟨a, b⟩, rfl⟩
    · refine jl_sume _ fun w hw => jl_clm ?_
      rw [jl_way_hi hw, jl_tb_hi hw]
      constructor
      · rintro ⟨⟨a, b⟩, c⟩
        rw [c] at a
        exact ⟨a, b, by omega⟩
      · rintro ⟨a, b, c⟩
        rw [c, show t + 1 - 1 = t by omega]
        exact ⟨⟨a, b⟩, rfl⟩
theorem jl_dpw (P : Nat → Nat → Int → Prop) (n : Nat) (t : Int) : 0 < jd_dp P n t ↔ ∃ w, w < 2 ^ n ∧ jd_way P n w ∧ jd_tb w n = t := by
  rw [← jl_cnt, jl_sum_pos (fun i => (jl_clb _).1)]
  constructor
  · rintro ⟨w, h1, h2⟩
    refine ⟨w, h1, ?_⟩
    by_cases h : jd_way P n w ∧ jd_tb w n = t
    · exact h
    · rw [jl_cl0 h] at h2; exact absurd h2 (by decide)
  · rintro ⟨w, h1, h2⟩
    exact ⟨w, h1, by rw [jl_cl1 h2]; decide⟩
theorem jl_dpb (P : Nat → Nat → Int → Prop) (n : Nat) (t : Int) : 0 ≤ jd_dp P n t ∧ jd_dp P n t ≤ ((2 ^ n : Nat) : Int) := by
  rw [← jl_cnt]
  have := jl_sumb (f := fun w => jd_cl (jd_way P n w ∧ jd_tb w n = t)) (b := 1) (fun w => jl_clb _) (2 ^ n)
  omega
theorem jl_dps {P : Nat → Nat → Int → Prop} {n : Nat} {t : Int} (h : t < -(n : Int) ∨ (n : Int) < t) : jd_dp P n t = 0 := by
  have h1 := jl_dpb P n t
  by_cases q : 0 < jd_dp P n t
  · obtain ⟨w, _, _, h4⟩ := (jl_dpw P n t).mp q
    have := jl_tb_b w n
    omega
  · omega
theorem jl_dpm {P : Nat → Nat → Int → Prop} {n : Nat} (h : ∃ t, 0 < jd_dp P (n + 1) t) : ∃ t, 0 < jd_dp P n t := by
  obtain ⟨t, ht⟩ := h
  have e : jd_dp P (n + 1) t = jd_cl (P n 0 t) * jd_dp P n (t - 1) + jd_cl (P n 1 t) * jd_dp P n (t + 1) := rfl
  have b1 := jl_dpb P n (t - 1)
  have b2 := jl_dpb P n (t + 1)
  by_cases q : 0 < jd_dp P n (t - 1)
  · exact ⟨_, q⟩
  · by_cases q2 : 0 < jd_dp P n (t + 1)
    · exact ⟨_, q2⟩
    · rw [show jd_dp P n (t - 1) = 0 by omega, show jd_dp P n (t + 1) = 0 by omega] at e
      omega
theorem jl_dpmm {P : Nat → Nat → Int → Prop} {n : Nat} : ∀ m, (∃ t, 0 < jd_dp P (n + m) t) → ∃ t, 0 < jd_dp P n t
  | 0, h => h
  | m + 1, h => jl_dpmm m (jl_dpm h)
theorem jl_dpt (P : Nat → Nat → Int → Prop) (n : Nat) : jd_sum (fun i => jd_dp P n ((i : Int) - n)) (2 * n + 1) = jd_sum (fun w => jd_cl (jd_way P n w)) (2 ^ n) := by
  have e : jd_sum (fun i => jd_dp P n ((i : Int) - n)) (2 * n + 1) = jd_sum (fun i => jd_sum (fun w => jd_cl (jd_way P n w ∧ jd_tb w n + n = (i : Int))) (2 ^ n)) (2 * n + 1) := by
    refine jl_sume _ fun i hi => ?_
    rw [← jl_cnt]
    refine jl_sume _ fun w hw => jl_cle ⟨fun z => ⟨z.1, by omega⟩, fun z => ⟨z.1, by omega⟩⟩
  rw [e, jl_sum_swap]
  refine jl_sume _ fun w hw => ?_
  rw [jl_sum_one]
  have := jl_tb_b w n
  exact jl_cle ⟨fun z => z.1, fun z => ⟨z, by omega, by omega⟩⟩
theorem jl_hw (P : Nat → Nat → Int → Prop) (n : Nat) : (∃ t, 0 < jd_dp P n t) ↔ ∃ w, w < 2 ^ n ∧ jd_way P n w := by
  constructor
  · rintro ⟨t, ht⟩
    obtain ⟨w, h1, h2, _⟩ := (jl_dpw P n t).mp ht
    exact ⟨w, h1, h2⟩
  · rintro ⟨w, h1, h2⟩
    exact ⟨jd_tb w n, (jl_dpw P n _).mpr ⟨w, h1, h2, rfl⟩⟩
theorem jl_kern0 : ∀ a, a < 64 → ∀ b, b < 64 → 64 * a + b ≠ 0 → ((64 * a + b) &&& ((64 * a + b) - 1)) < 64 * a + b ∧ jd_pn ((64 * a + b) &&& ((64 * a + b) - 1)) 12 + 1 = jd_pn (64 * a + b) 12 := by decide +kernel
theorem jl_kern {w : Nat} (h : w < 4096) (h0 : w ≠ 0) : (w &&& (w - 1)) < w ∧ jd_pn (w &&& (w - 1)) 12 + 1 = jd_pn w 12 := by
  have := jl_kern0 (w / 64) (by omega) (w % 64) (by omega)
  rw [show 64 * (w / 64) + w % 64 = w by omega] at this
  exact this h0
theorem qa_and_nat {a b : Nat} (ha : a < 2147483648) (hb : b < 2147483648) : qi_and (a : Int) (b : Int) = ((a &&& b : Nat) : Int) := by
  unfold qi_and
  have hab : a &&& b ≤ a := Nat.and_le_left
  have e : ((Int32.ofInt (a : Int) &&& Int32.ofInt (b : Int)).toBitVec).toNat = a &&& b := by
    rw [Int32.toBitVec_and, BitVec.toNat_and, qa_bv, qa_bv, BitVec.toNat_ofInt, BitVec.toNat_ofInt, Int.emod_eq_of_lt (by omega) (by omega), Int.emod_eq_of_lt (by omega) (by omega), Int.toNat_natCast, Int.toNat_natCast]
  show ((Int32.ofInt (a : Int) &&& Int32.ofInt (b : Int)).toBitVec).toInt = _
  rw [BitVec.toInt_eq_toNat_of_lt (by rw [e]; omega), e]
theorem qa_shl1 {n : Nat} (hn : n < 31) : qi_shl 1 (n : Int) = ((2 ^ n : Nat) : Int) := by
  have : 2 ^ n ≤ 2 ^ 30 := Nat.pow_le_pow_right (by decide) (by omega)
  rw [qa_shl (by decide) hn (by omega), Int.one_mul]
theorem qa_bit {w i : Nat} (hw : w < 2147483648) (hi : i < 32) : qi_and (qi_shr (w : Int) (i : Int)) 1 = ((jd_bit w i : Nat) : Int) := by
  rw [qa_and1, qa_shr (by omega) hi]
  unfold jd_bit
  rw [Int.natCast_emod, Int.natCast_ediv]; rfl
