/-! ===== words, numbers, marks of a tape ===== -/
def jx_bl (x : Int) : Prop := x = 10 ∨ x = 32
def jx_le (x : Int) : Prop := 97 ≤ x ∧ x ≤ 122
def jx_di (x : Int) : Prop := 48 ≤ x ∧ x ≤ 57
def jx_run (C : Int → Prop) (n : Nat) (t : Nat → Int) (p e : Nat) : Prop := p ≤ e ∧ e ≤ n ∧ (∀ i, p ≤ i → i < e → C (t i)) ∧ (e < n → ¬ C (t e))
theorem jx_ru {C : Int → Prop} {n : Nat} {t : Nat → Int} {p e e' : Nat} (h1 : jx_run C n t p e) (h2 : jx_run C n t p e') : e = e' := by
  obtain ⟨a1, a2, a3, a4⟩ := h1
  obtain ⟨b1, b2, b3, b4⟩ := h2
  rcases Nat.lt_trichotomy e e' with q | q | q
  · exact absurd (b3 e a1 q) (a4 (by omega))
  · exact q
  · exact absurd (a3 e' b1 q) (b4 (by omega))
theorem jx_re (C : Int → Prop) (n : Nat) (t : Nat → Int) : ∀ (m p : Nat), p + m = n → ∃ e, jx_run C n t p e
  | 0, p, h => ⟨p, Nat.le_refl _, by omega, fun i h1 h2 => absurd h1 (by omega), fun q => absurd q (by omega)⟩
  | m + 1, p, h => by
    by_cases q : C (t p)
    · obtain ⟨e, h1, h2, h3, h4⟩ := jx_re C n t m (p + 1) (by omega)
      refine ⟨e, by omega, h2, fun i h5 h6 => ?_, h4⟩
      by_cases z : i = p
      · rw [z]; exact q
      · exact h3 i (by omega) h6
    · exact ⟨p, Nat.le_refl _, by omega, fun i h1 h2 => absurd h1 (by omega), fun _ => q⟩
noncomputable def jx_e (C : Int → Prop) (n : Nat) (t : Nat → Int) (p : Nat) : Nat := @dite Nat (∃ e, jx_run C n t p e) (Classical.propDecidable _) (fun h => Classical.choose h) (fun _ => p)
theorem jx_es (C : Int → Prop) {n : Nat} (t : Nat → Int) {p : Nat} (h : p ≤ n) : jx_run C n t p (jx_e C n t p) := by
  have he := jx_re C n t (n - p) p (by omega)
  unfold jx_e
  rw [dif_pos he]
  exact Classical.choose_spec he
theorem jx_ee {C : Int → Prop} {n : Nat} {t : Nat → Int} {p e : Nat} (h : jx_run C n t p e) : jx_e C n t p = e := jx_ru (jx_es C t (Nat.le_trans h.1 h.2.1)) h
noncomputable def jx_st (n : Nat) (t : Nat → Int) (b : Nat) : Nat := jx_e jx_bl n t b
noncomputable def jx_we (n : Nat) (t : Nat → Int) (b : Nat) : Nat := jx_e jx_le n t (jx_st n t b)
noncomputable def jx_de (n : Nat) (t : Nat → Int) (b : Nat) : Nat := jx_e jx_di n t (jx_st n t b)
theorem jx_sts {n : Nat} (t : Nat → Int) {b : Nat} (h : b ≤ n) : jx_run jx_bl n t b (jx_st n t b) := jx_es jx_bl t h
theorem jx_wes {n : Nat} (t : Nat → Int) {b : Nat} (h : b ≤ n) : jx_run jx_le n t (jx_st n t b) (jx_we n t b) := jx_es jx_le t (jx_sts t h).2.1
theorem jx_des {n : Nat} (t : Nat → Int) {b : Nat} (h : b ≤ n) : jx_run jx_di n t (jx_st n t b) (jx_de n t b) := jx_es jx_di t (jx_sts t h).2.1
theorem jx_wlt {n : Nat} {t : Nat → Int} {b : Nat} (h : b ≤ n) (h2 : jx_st n t b < n) (h3 : jx_le (t (jx_st n t b))) : jx_st n t b < jx_we n t b := by
  obtain ⟨a1, a2, a3, a4⟩ := jx_wes t h
  refine Nat.lt_of_le_of_ne a1 fun z => ?_
  rw [← z] at a4
  exact a4 h2 h3
theorem jx_dlt {n : Nat} {t : Nat → Int} {b : Nat} (h : b ≤ n) (h2 : jx_st n t b < n) (h3 : jx_di (t (jx_st n t b))) : jx_st n t b < jx_de n t b := by
  obtain ⟨a1, a2, a3, a4⟩ := jx_des t h
  refine Nat.lt_of_le_of_ne a1 fun z => ?_
  rw [← z] at a4
  exact a4 h2 h3
/-- right behind a word or number -/
def jx_tn (n : Nat) (t : Nat → Int) (b : Nat) (m : Bool) : Prop := m = true ∧ jx_st n t b = b
def jx_isL (n : Nat) (t : Nat → Int) (b : Nat) (m : Bool) : Prop := jx_st n t b < n ∧ jx_le (t (jx_st n t b)) ∧ ¬ jx_tn n t b m
def jx_isN (n : Nat) (t : Nat → Int) (b : Nat) (m : Bool) : Prop := jx_st n t b < n ∧ jx_di (t (jx_st n t b)) ∧ ¬ jx_tn n t b m
def jx_isW (n : Nat) (t : Nat → Int) (b : Nat) (m : Bool) (l : List Nat) : Prop := jx_isL n t b m ∧ jx_we n t b = jx_st n t b + l.length ∧ ∀ i, i < l.length → t (jx_st n t b + i) = ((l.getD i 0 : Nat) : Int)
def jx_isM (n : Nat) (t : Nat → Int) (b : Nat) (c : Int) : Prop := jx_st n t b < n ∧ t (jx_st n t b) = c
def jd_n5 (f : Nat → Int) : Nat → Int
  | 0 => 0
  | k + 1 => jd_n5 f k + f k * ((2 ^ (5 * k) : Nat) : Int)
def jd_n10 (f : Nat → Int) : Nat → Int
  | 0 => 0
  | k + 1 => 10 * jd_n10 f k + f k
theorem jl_p32 (i : Nat) : ((2 ^ (5 * (i + 1)) : Nat) : Int) = 32 * ((2 ^ (5 * i) : Nat) : Int) := by
  rw [show 5 * (i + 1) = 5 + 5 * i by omega, Nat.pow_add, Int.natCast_mul]; rfl
theorem jl_n5b {f : Nat → Int} : ∀ k : Nat, (∀ i, i < k → 0 ≤ f i ∧ f i < 32) → 0 ≤ jd_n5 f k ∧ jd_n5 f k < ((2 ^ (5 * k) : Nat) : Int)
  | 0, _ => ⟨Int.le_refl 0, by show (0 : Int) < ((2 ^ (5 * 0) : Nat) : Int); exact jl_p0 _⟩
  | k + 1, h => by
    have ih := jl_n5b k (fun c hc => h c (by omega))
    have hu := h k (by omega)
    have e : jd_n5 f (k + 1) = jd_n5 f k + f k * ((2 ^ (5 * k) : Nat) : Int) := rfl
    have h0 := jl_p0 (5 * k)
    rw [e, jl_p32]
    generalize ((2 ^ (5 * k) : Nat) : Int) = P at *
    have h1 : 0 ≤ f k * P := Int.mul_nonneg hu.1 (by omega)
    have h2 : f k * P ≤ 31 * P := Int.mul_le_mul_of_nonneg_right (by omega) (by omega)
    omega
theorem jl_n5d {f : Nat → Int} : ∀ k : Nat, (∀ i, i < k → 0 ≤ f i ∧ f i < 32) → ∀ i, jd_n5 f k / ((2 ^ (5 * i) : Nat) : Int) % 32 = if i < k then f i else 0
  | 0, _ => fun i => by
    show (0 : Int) / _ % 32 = _
    rw [Int.zero_ediv, if_neg (by omega)]; rfl
  | k + 1, h => fun i => by
    have ih := jl_n5d k (fun c hc => h c (by omega)) i
    have hb := jl_n5b k (fun c hc => h c (by omega))
    have hu := h k (by omega)
    have e : jd_n5 f (k + 1) = jd_n5 f k + f k * ((2 ^ (5 * k) : Nat) : Int) := rfl
    rw [e]
    rcases Nat.lt_trichotomy i k with q | q | q
    · have e2 : f k * ((2 ^ (5 * k) : Nat) : Int) = (32 * (f k * ((2 ^ (5 * (k - i - 1)) : Nat) : Int))) * ((2 ^ (5 * i) : Nat) : Int) := by
        have e3 : ((2 ^ (5 * k) : Nat) : Int) = 32 * ((2 ^ (5 * (k - i - 1)) : Nat) : Int) * ((2 ^ (5 * i) : Nat) : Int) := by
          rw [show 5 * k = 5 + 5 * (k - i - 1) + 5 * i by omega, Nat.pow_add, Nat.pow_add, Int.natCast_mul, Int.natCast_mul]; rfl
        rw [e3]
        rw [← Int.mul_assoc, ← Int.mul_assoc, Int.mul_comm (f k) 32, Int.mul_assoc 32 (f k)]
      rw [e2, Int.add_mul_ediv_right _ _ (by have := jl_p0 (5 * i); omega), if_pos (by omega)]
      rw [if_pos q] at ih
      omega
    · rw [q, Int.add_mul_ediv_right _ _ (by have := jl_p0 (5 * k); omega), Int.ediv_eq_zero_of_lt hb.1 hb.2, if_pos (by omega)]
      omega
    · have h2 := jl_n5b (k + 1) h
      rw [e] at h2
      have h3 : ((2 ^ (5 * (k + 1)) : Nat) : Int) ≤ ((2 ^ (5 * i) : Nat) : Int) := by
        have : 2 ^ (5 * (k + 1)) ≤ 2 ^ (5 * i) := Nat.pow_le_pow_right (by decide) (by omega)
        omega
      rw [Int.ediv_eq_zero_of_lt h2.1 (by omega), if_neg (by omega)]; rfl
theorem jl_n10b {f : Nat → Int} : ∀ k : Nat, (∀ i, i < k → 0 ≤ f i ∧ f i ≤ 9) → k ≤ 4 → 0 ≤ jd_n10 f k ∧ jd_n10 f k < (if k = 0 then 1 else if k = 1 then 10 else if k = 2 then 100 else if k = 3 then 1000 else 10000)
  | 0, _, _ => ⟨Int.le_refl 0, by show (0 : Int) < if 0 = 0 then 1 else _; rw [if_pos rfl]; decide⟩
  | k + 1, h, hk => by
    have ih := jl_n10b k (fun c hc => h c (by omega)) (by omega)
    have hu := h k (by omega)
    have e : jd_n10 f (k + 1) = 10 * jd_n10 f k + f k := rfl
    rw [e]
    have h4 : k = 0 ∨ k = 1 ∨ k = 2 ∨ k = 3 := by omega
    rcases h4 with q | q | q | q <;> subst q <;> simp at ih ⊢ <;> omega
noncomputable def jx_kd (n : Nat) (t : Nat → Int) (b : Nat) (m : Bool) (k : Int) : Int := @ite Int (jx_tn n t b m) (Classical.propDecidable _) 4 k
/-- the class's present word -/
def jc_tok (n : Nat) (t : Nat → Int) (b : Nat) (m : Bool) (μ : qm_M) : Prop :=
  μ 2 4 = ((jx_st n t b : Nat) : Int) ∧
  ((jx_st n t b = n ∧ μ 2 1 = 0 ∧ μ 2 3 = (n : Int)) ∨
   (jx_st n t b < n ∧ jx_le (t (jx_st n t b)) ∧ μ 2 1 = jx_kd n t b m 1 ∧ μ 2 2 = ((jx_we n t b - jx_st n t b : Nat) : Int) ∧ μ 2 3 = ((jx_we n t b : Nat) : Int) ∧ μ 2 5 = jd_n5 (fun i => t (jx_st n t b + i) - 96) (min (jx_we n t b - jx_st n t b) 6)) ∨
   (jx_st n t b < n ∧ jx_di (t (jx_st n t b)) ∧ μ 2 1 = jx_kd n t b m 2 ∧ μ 2 2 = ((jx_de n t b - jx_st n t b : Nat) : Int) ∧ μ 2 3 = ((jx_de n t b : Nat) : Int) ∧ μ 2 5 = jd_n10 (fun i => t (jx_st n t b + i) - 48) (min (jx_de n t b - jx_st n t b) 4)) ∨
   (jx_st n t b < n ∧ ¬ jx_le (t (jx_st n t b)) ∧ ¬ jx_di (t (jx_st n t b)) ∧ μ 2 1 = 3 ∧ μ 2 2 = 1 ∧ μ 2 3 = ((jx_st n t b + 1 : Nat) : Int) ∧ μ 2 5 = t (jx_st n t b)))
/-- only the words' cell has changed, its fault has not -/
def jd_f2 (μ μ' : qm_M) : Prop := jd_fr [2] μ μ' ∧ μ' 2 6 = μ 2 6 ∧ μ' 2 7 = μ 2 7
theorem jl_f2r (μ : qm_M) : jd_f2 μ μ := ⟨jf_refl _ _, rfl, rfl⟩
theorem jl_f2t {μ μ1 μ2 : qm_M} (h : jd_f2 μ μ1) (h2 : jd_f2 μ1 μ2) : jd_f2 μ μ2 := ⟨jf_trans h.1 h2.1, h2.2.1.trans h.2.1, h2.2.2.trans h.2.2⟩
theorem jl_f2s {μ μ1 : qm_M} {k : Nat} {z : Int} (h : jd_f2 μ μ1) (h6 : (6 : Nat) ≠ k) (h7 : (7 : Nat) ≠ k) : jd_f2 μ (qm_set μ1 2 k z) :=
  ⟨jf_set h.1 rfl, by rw [jl_sk _ _ _ h6]; exact h.2.1, by rw [jl_sk _ _ _ h7]; exact h.2.2⟩
section
variable {L d n : Nat} {t : Nat → Int} {b : Nat} {m : Bool} {μ : qm_M} {Q : Int → qm_M → Prop} {V : qm_M → Prop}
theorem js_2003 {x : Int} (hx : -1 ≤ x ∧ x < 256) (H1 : jx_le x → Q 1 μ) (H2 : jx_di x → Q 2 μ) (H0 : x = -1 → Q 0 μ) (H3 : ¬ jx_le x → ¬ jx_di x → x ≠ -1 → Q 3 μ) : qm_CI (qb_T L) d 2003 [qm_I x] μ Q := by
  unfold jx_le jx_di at *
  have h28 : ¬ (97 ≤ x ∧ x ≤ 122) → ¬ (48 ≤ x ∧ x ≤ 57) → qm_W (qb_T L) d 2003 28 [qm_I x] [] μ (fun v μ' => ∃ r, v = some (.inl r) ∧ Q r μ') := fun a1 a2 => b2003_28 μ _ _ ⟨by omega, fun y => ⟨_, rfl, H0 y⟩, fun y => ⟨_, rfl, H3 a1 a2 y⟩⟩
  have h14 : ¬ (97 ≤ x ∧ x ≤ 122) → qm_W (qb_T L) d 2003 14 [qm_I x] [] μ (fun v μ' => ∃ r, v = some (.inl r) ∧ Q r μ') := fun a1 => b2003_14 μ _ _ ⟨by omega, fun y => h28 a1 (by omega), fun y => ⟨by omega, fun y2 => h28 a1 (by omega), fun y2 => ⟨_, rfl, H2 (by omega)⟩⟩⟩
  exact b2003_0 μ _ _ ⟨by omega, fun y => h14 (by omega), fun y => ⟨by omega, fun y2 => h14 (by omega), fun y2 => ⟨_, rfl, H1 (by omega)⟩⟩⟩
/-- a letter, a digit, a mark taken -/
theorem js_2004w {x : Int} {k : Nat} {f : Nat → Int} (h1 : μ 2 1 = 1) (h2 : μ 2 2 = (k : Int)) (hk : k < 2000) (h5 : μ 2 5 = jd_n5 f (min k 6)) (hf : ∀ i, i < k + 1 → 0 ≤ f i ∧ f i < 32) (hx : x = f k + 96) (H : ∀ μ', jd_f2 μ μ' → μ' 2 1 = 1 → μ' 2 2 = ((k + 1 : Nat) : Int) → μ' 2 5 = jd_n5 f (min (k + 1) 6) → μ' 2 3 = μ 2 3 → μ' 2 4 = μ 2 4 → V μ') : qm_CV (qb_T L) d 2004 [qm_P 2, qm_I x] μ V := by
  subst hx
  refine b2004_0 μ _ _ ?_
  rw [h1, h2]
  refine ⟨by decide, fun _ => ⟨by omega, fun y => ?_, fun y => ?_⟩, fun y => absurd rfl y⟩
  · refine b2004_42 μ _ _ ?_
    rw [h1]
    refine ⟨by decide, fun q => absurd q (by decide), fun _ => b2004_77 μ _ _ ?_⟩
    rw [h1]
    refine ⟨by decide, fun q => absurd q (by decide), fun _ => b2004_90 μ _ _ ⟨rfl, H _ (jl_f2s (jl_f2r _) (by decide) (by decide)) ?_ ?_ ?_ ?_ ?_⟩⟩
    · rw [jl_sk _ _ _ (by decide)]; exact h1
    · rw [jl_ss, h2]; rfl
    · rw [jl_sk _ _ _ (by decide), h5, show min k 6 = min (k + 1) 6 by omega]
    · rw [jl_sk _ _ _ (by decide)]
    · rw [jl_sk _ _ _ (by decide)]
  · have hb := jl_n5b k (f := f) (fun i hi => hf i (by omega))
    have hfk := hf k (by omega)
    have hp : ((2 ^ (5 * k) : Nat) : Int) ≤ 33554432 := by
      have : 2 ^ (5 * k) ≤ 2 ^ 25 := Nat.pow_le_pow_right (by decide) (by omega)
      omega
    have hp0 := jl_p0 (5 * k)
    have hm1 : f k * ((2 ^ (5 * k) : Nat) : Int) ≤ 31 * 33554432 := Int.mul_le_mul (by omega) hp (by omega) (by omega)
    have hm0 : 0 ≤ f k * ((2 ^ (5 * k) : Nat) : Int) := Int.mul_nonneg hfk.1 (by omega)
    rw [show min k 6 = k by omega] at h5
    have e : qi_or (μ 2 5) (qi_shl (f k + 96 - 97 + 1) (5 * (k : Int))) = jd_n5 f (k + 1) := by
      rw [h5, show f k + 96 - 97 + 1 = f k by omega, show (5 : Int) * (k : Int) = ((5 * k : Nat) : Int) by omega, qa_shl hfk.1 (by omega) (by omega), jl_or_comm, qa_or_add hb.1 hb.2 hm0 (Int.dvd_mul_left _ _) (by omega), Int.add_comm]
      rfl
    rw [e]
    refine b2004_90 _ _ _ ⟨rfl, H _ (jl_f2s (jl_f2s (jl_f2r _) (by decide) (by decide)) (by decide) (by decide)) ?_ ?_ ?_ ?_ ?_⟩
    · rw [jl_sk _ _ _ (by decide), jl_sk _ _ _ (by decide)]; exact h1
    · rw [jl_ss, jl_sk _ _ _ (by decide), h2]; rfl
    · rw [jl_sk _ _ _ (by decide), jl_ss, show min (k + 1) 6 = k + 1 by omega]
    · rw [jl_sk _ _ _ (by decide), jl_sk _ _ _ (by decide)]
    · rw [jl_sk _ _ _ (by decide), jl_sk _ _ _ (by decide)]
theorem js_2004d {x : Int} {k : Nat} {f : Nat → Int} (h1 : μ 2 1 = 2) (h2 : μ 2 2 = (k : Int)) (hk : k < 2000) (h5 : μ 2 5 = jd_n10 f (min k 4)) (hx : x = f k + 48) (H : ∀ μ', jd_f2 μ μ' → μ' 2 1 = 2 → μ' 2 2 = ((k + 1 : Nat) : Int) → μ' 2 5 = jd_n10 f (min (k + 1) 4) → μ' 2 3 = μ 2 3 → μ' 2 4 = μ 2 4 → V μ') : qm_CV (qb_T L) d 2004 [qm_P 2, qm_I x] μ V := by
  subst hx
  refine b2004_0 μ _ _ ?_
  rw [h1]
  refine ⟨by decide, fun q => absurd q (by decide), fun _ => b2004_42 μ _ _ ?_⟩
  rw [h1, h2]
  refine ⟨by decide, fun _ => ⟨by omega, fun y => b2004_77 μ _ _ ?_, fun y => ?_⟩, fun y => absurd rfl y⟩
  · rw [h1]
    refine ⟨by decide, fun q => absurd q (by decide), fun _ => b2004_90 μ _ _ ⟨rfl, H _ (jl_f2s (jl_f2r _) (by decide) (by decide)) ?_ ?_ ?_ ?_ ?_⟩⟩
    · rw [jl_sk _ _ _ (by decide)]; exact h1
    · rw [jl_ss, h2]; rfl
    · rw [jl_sk _ _ _ (by decide), h5, show min k 4 = min (k + 1) 4 by omega]
    · rw [jl_sk _ _ _ (by decide)]
    · rw [jl_sk _ _ _ (by decide)]
  · refine b2004_90 _ _ _ ⟨rfl, H _ (jl_f2s (jl_f2s (jl_f2r _) (by decide) (by decide)) (by decide) (by decide)) ?_ ?_ ?_ ?_ ?_⟩
    · rw [jl_sk _ _ _ (by decide), jl_sk _ _ _ (by decide)]; exact h1
    · rw [jl_ss, jl_sk _ _ _ (by decide), h2]; rfl
    · rw [jl_sk _ _ _ (by decide), jl_ss, h5, show min k 4 = k by omega, show min (k + 1) 4 = k + 1 by omega]
      show _ = 10 * jd_n10 f k + f k
      omega
    · rw [jl_sk _ _ _ (by decide), jl_sk _ _ _ (by decide)]
    · rw [jl_sk _ _ _ (by decide), jl_sk _ _ _ (by decide)]
theorem js_2004m {x : Int} (h1 : μ 2 1 = 3) (h2 : μ 2 2 = 0) (H : ∀ μ', jd_f2 μ μ' → μ' 2 1 = 3 → μ' 2 2 = 1 → μ' 2 5 = x → μ' 2 3 = μ 2 3 → μ' 2 4 = μ 2 4 → V μ') : qm_CV (qb_T L) d 2004 [qm_P 2, qm_I x] μ V := by
  refine b2004_0 μ _ _ ?_
  rw [h1]
  refine ⟨by decide, fun q => absurd q (by decide), fun _ => b2004_42 μ _ _ ?_⟩
  rw [h1]
  refine ⟨by decide, fun q => absurd q (by decide), fun _ => b2004_77 μ _ _ ?_⟩
  rw [h1]
  refine ⟨by decide, fun _ => b2004_90 _ _ _ ⟨rfl, H _ (jl_f2s (jl_f2s (jl_f2r _) (by decide) (by decide)) (by decide) (by decide)) ?_ ?_ ?_ ?_ ?_⟩, fun q => absurd rfl q⟩
  · rw [jl_sk _ _ _ (by decide), jl_sk _ _ _ (by decide)]; exact h1
  · rw [jl_ss, jl_sk _ _ _ (by decide), h2]; rfl
  · rw [jl_sk _ _ _ (by decide), jl_ss]
  · rw [jl_sk _ _ _ (by decide), jl_sk _ _ _ (by decide)]
  · rw [jl_sk _ _ _ (by decide), jl_sk _ _ _ (by decide)]
theorem jl_tfr2 {μ' : qm_M} (hT : jc_tape n t μ) (hf : jd_f2 μ μ') : jc_tape n t μ' := jl_tfr hT (hf.1 1 rfl) (hf.1 14 rfl)
theorem js_2002 (hT : jc_tape n t μ) (hk : jd_tok n t) (hb : b ≤ n) (h3 : μ 2 3 = (b : Int)) (hkr : 0 ≤ μ 2 1 ∧ μ 2 1 ≤ 4) (hm : m = true ↔ (μ 2 1 = 1 ∨ μ 2 1 = 2)) (H : ∀ μ', jd_f2 μ μ' → jc_tok n t b m μ' → V μ') : qm_CV (qb_T L) (d + 1) 2002 [qm_P 2] μ V := by
  have hn := hk.1
  obtain ⟨s1, s2, s3, s4⟩ := jx_sts t hb
  have hbt : ∀ i, i < n → 0 ≤ t i ∧ t i < 256 := hk.2
  refine b2002_0 μ _ ?_
  have mid : ∀ x1 : Int, (x1 = 0 ∨ x1 = 1) → (m = true ↔ x1 = 1) → qm_W (qb_T L) (d + 1) 2002 21 [qm_P 2, none, none, none] [qm_I x1] μ (fun v μ' => v = none ∧ V μ') := by
    intro x1 hx1 hx1m
    refine b2002_21 μ _ _ ?_
    rw [h3]
    -- the end: torn or not
    have fin : ∀ (x3 : Int) μ', jd_f2 μ μ' → μ' 2 4 = ((jx_st n t b : Nat) : Int) → (jc_tok n t b false μ') → (μ' 2 1 = 0 ∨ μ' 2 1 = 1 ∨ μ' 2 1 = 2 ∨ μ' 2 1 = 3) → qm_W (qb_T L) (d + 1) 2002 216 [qm_P 2, qm_I x1, qm_I (b : Int), qm_I x3] [] μ' (fun v μ' => v = none ∧ V μ') := by
      intro x3 μ' hf h4 htk hk4
      have hnt : jx_kd n t b false = fun k => k := by
        funext k; unfold jx_kd; rw [if_neg (fun z => by have := z.1; cases this)]
      have same : ¬ jx_tn n t b m → jc_tok n t b m μ' := fun z => by
        have e : jx_kd n t b m = jx_kd n t b false := by
          rw [hnt]; funext k; unfold jx_kd; rw [if_neg z]
        unfold jc_tok at htk ⊢
        rw [e]; exact htk
      have marks : (μ' 2 1 = 0 ∨ μ' 2 1 = 3) → jc_tok n t b m μ' := fun z => by
        refine ⟨htk.1, ?_⟩
        rcases htk.2 with y | ⟨y1, y2, y3, y4⟩ | ⟨y1, y2, y3, y4⟩ | y
        · exact Or.inl y
        · rw [hnt] at y3; have y3' : μ' 2 1 = 1 := y3; omega
        · rw [hnt] at y3; have y3' : μ' 2 1 = 2 := y3; omega
        · exact Or.inr (Or.inr (Or.inr y))
      have torn : jx_tn n t b m → (μ' 2 1 = 1 ∨ μ' 2 1 = 2) → jc_tok n t b m (qm_set μ' 2 1 4) := fun z z2 => by
        refine ⟨by rw [jl_sk _ _ _ (by decide)]; exact htk.1, ?_⟩
        rw [jl_ss, jl_sk _ _ _ (by decide), jl_sk _ _ _ (by decide), jl_sk _ _ _ (by decide)]
        have e4 : ∀ k, jx_kd n t b m k = 4 := fun k => by unfold jx_kd; rw [if_pos z]
        rcases htk.2 with y | ⟨y1, y2, y3, y4⟩ | ⟨y1, y2, y3, y4⟩ | y
        · have := y.2.1; omega
        · exact Or.inr (Or.inl ⟨y1, y2, (e4 _).symm, y4⟩)
        · exact Or.inr (Or.inr (Or.inl ⟨y1, y2, (e4 _).symm, y4⟩))
        · have := y.2.2.2.1; omega
      refine b2002_216 μ' _ _ _ _ ?_
      rw [h4]
      refine ⟨by omega, fun y => ⟨rfl, H μ' hf (same fun z => by have := hx1m.mp z.1; omega)⟩, fun y => ⟨by omega, by omega, fun y2 => ⟨by omega, fun y3 => ⟨rfl, H _ (jl_f2s hf (by decide) (by decide)) (torn ⟨hx1m.mpr (by omega), by omega⟩ (Or.inl y3))⟩, fun y3 => ⟨by omega, fun y4 => ⟨rfl, H _ (jl_f2s hf (by decide) (by decide)) (torn ⟨hx1m.mpr (by omega), by omega⟩ (Or.inr y4))⟩, fun y4 => ⟨rfl, H μ' hf (marks (by omega))⟩⟩⟩, fun y2 => ⟨rfl, H μ' hf (same fun z => y2 (by rw [z.2]))⟩⟩⟩
    have after : ∀ μ', jd_f2 μ μ' → μ' 2 3 = ((jx_st n t b : Nat) : Int) → qm_W (qb_T L) (d + 1) 2002 86 [qm_P 2, qm_I x1, qm_I (b : Int), none] [] μ' (fun v μ' => v = none ∧ V μ') := by
      intro μ' hf h3'
      refine b2002_86 μ' _ _ _ ?_
      rw [h3']
      have hf1 : jd_f2 μ (qm_set (qm_set (qm_set μ' 2 4 ((jx_st n t b : Nat) : Int)) 2 2 0) 2 5 0) := jl_f2s (jl_f2s (jl_f2s hf (by decide) (by decide)) (by decide) (by decide)) (by decide) (by decide)
      have g4 : (qm_set (qm_set (qm_set μ' 2 4 ((jx_st n t b : Nat) : Int)) 2 2 0) 2 5 0) 2 4 = ((jx_st n t b : Nat) : Int) := by rw [jl_sk _ _ _ (by decide), jl_sk _ _ _ (by decide), jl_ss]
      have g2 : (qm_set (qm_set (qm_set μ' 2 4 ((jx_st n t b : Nat) : Int)) 2 2 0) 2 5 0) 2 2 = 0 := by rw [jl_sk _ _ _ (by decide), jl_ss]
      have g5 : (qm_set (qm_set (qm_set μ' 2 4 ((jx_st n t b : Nat) : Int)) 2 2 0) 2 5 0) 2 5 = 0 := jl_ss _ _ _ _
      have g3 : (qm_set (qm_set (qm_set μ' 2 4 ((jx_st n t b : Nat) : Int)) 2 2 0) 2 5 0) 2 3 = ((jx_st n t b : Nat) : Int) := by rw [jl_sk _ _ _ (by decide), jl_sk _ _ _ (by decide), jl_sk _ _ _ (by decide)]; exact h3'
      generalize qm_set (qm_set (qm_set μ' 2 4 ((jx_st n t b : Nat) : Int)) 2 2 0) 2 5 0 = μ1 at hf1 g4 g2 g5 g3 ⊢
      have hT1 := jl_tfr2 hT hf1
      have hkf : ∀ k, jx_kd n t b false k = k := fun k => by unfold jx_kd; rw [if_neg (fun z => by have := z.1; cases this)]
      by_cases hlt : jx_st n t b < n
      · have hbx := hbt _ hlt
        refine js_1602 (jx_st n t b) hT1 hk rfl hlt (js_2003 (by omega) (fun hle => ?_) (fun hdi => ?_) (fun y => by omega) (fun hle hdi _ => ?_))
        · -- a word
          obtain ⟨e1, e2, e3, e4⟩ := jx_wes t hb
          have elt := jx_wlt hb hlt hle
          refine ⟨by decide, fun q => absurd q (by decide), fun _ => b2002_134 _ _ _ _ _ ?_⟩
          have f1 : jd_f2 μ (qm_set μ1 2 1 1) := jl_f2s hf1 (by decide) (by decide)
          have ff : ∀ i, i < jx_we n t b - jx_st n t b → 0 ≤ t (jx_st n t b + i) - 96 ∧ t (jx_st n t b + i) - 96 < 32 := fun i hi => by
            have := e3 (jx_st n t b + i) (by omega) (by omega)
            unfold jx_le at this; omega
          refine jl_from (S := fun i => ∀ μ' (x3 : Int), jd_f2 μ μ' → μ' 2 4 = ((jx_st n t b : Nat) : Int) → μ' 2 1 = 1 → μ' 2 2 = ((i - jx_st n t b : Nat) : Int) → μ' 2 3 = (i : Int) → μ' 2 5 = jd_n5 (fun j => t (jx_st n t b + j) - 96) (min (i - jx_st n t b) 6) → (x3 = if i < jx_we n t b then 1 else 0) → qm_W (qb_T L) (d + 1) 2002 135 [qm_P 2, qm_I x1, qm_I (b : Int), qm_I x3] [] μ' (fun v μ' => v = none ∧ V μ')) (jx_st n t b) (jx_we n t b - jx_st n t b) (fun i h5 h6 ih μ' x3 hf' q4 q1 q2 q3 q5 hx3 => ?_) (fun μ' x3 hf' q4 q1 q2 q3 q5 hx3 => ?_) _ 1 f1 (by rw [jl_sk _ _ _ (by decide)]; exact g4) (jl_ss _ _ _ _) (by rw [jl_sk _ _ _ (by decide), Nat.sub_self]; exact g2) (by rw [jl_sk _ _ _ (by decide)]; exact g3) (by rw [jl_sk _ _ _ (by decide), Nat.sub_self]; exact g5) (by rw [if_pos elt])
          · rw [if_pos (by omega)] at hx3
            subst hx3
            have hT' := jl_tfr2 hT hf'
            refine b2002_135 μ' _ _ _ _ ?_
            rw [q3, hT'.1]
            refine ⟨by decide, fun q => absurd q (by decide), fun _ => ⟨by omega, by omega, fun q => absurd q (by omega), fun _ => js_1602 i hT' hk rfl (by omega) (js_2004w (k := i - jx_st n t b) (f := fun j => t (jx_st n t b + j) - 96) q1 q2 (by omega) q5 (fun j hj => ff j (by omega)) (by show t i = t (jx_st n t b + (i - jx_st n t b)) - 96 + 96; rw [show jx_st n t b + (i - jx_st n t b) = i by omega]; omega) fun μ2 f2 r1 r2 r5 r3 r4 => ?_)⟩⟩
            rw [r1, r3, q3]
            refine ⟨by decide, fun q => absurd q (by decide), fun _ => ?_⟩
            have f3 : jd_f2 μ (qm_set μ2 2 3 ((i : Int) + 1)) := jl_f2s (jl_f2t hf' f2) (by decide) (by decide)
            have nx : ∀ x3 : Int, (x3 = if i + 1 < jx_we n t b then 1 else 0) → qm_W (qb_T L) (d + 1) 2002 135 [qm_P 2, qm_I x1, qm_I (b : Int), qm_I x3] [] (qm_set μ2 2 3 ((i : Int) + 1)) (fun v μ' => v = none ∧ V μ') := fun x3 hx3 => ih _ x3 f3 (by rw [jl_sk _ _ _ (by decide), r4]; exact q4) (by rw [jl_sk _ _ _ (by decide)]; exact r1) (by rw [jl_sk _ _ _ (by decide), r2]; omega) (jl_ss _ _ _ _) (by rw [jl_sk _ _ _ (by decide), r5]; congr 1; omega) hx3
            have hT3 := jl_tfr2 hT f3
            have g1' : (qm_set μ2 2 3 ((i : Int) + 1)) 2 1 = 1 := by rw [jl_sk _ _ _ (by decide)]; exact r1
            by_cases hin : i + 1 < n
            · have hbx2 := hbt _ hin
              refine js_1602 (i + 1) hT3 hk rfl hin (js_2003 (by omega) (fun y => ?_) (fun y => ?_) (fun y => by omega) (fun y y2 y3 => ?_))
              · rw [g1']
                refine ⟨by decide, by decide, fun _ => b2002_212 _ _ _ _ _ _ (nx 1 ?_), fun q => absurd rfl q⟩
                rw [if_pos]
                refine Nat.lt_of_le_of_ne (by omega) fun z => ?_
                rw [← z] at e4
                exact e4 hin y
              · rw [g1']
                refine ⟨by decide, by decide, fun q => absurd q (by decide), fun _ => b2002_211 _ _ _ _ _ (b2002_212 _ _ _ _ _ _ (nx 0 ?_))⟩
                rw [if_neg]
                intro z
                have := e3 (i + 1) (by omega) z
                unfold jx_le at this; unfold jx_di at y; omega
              · rw [g1']
                refine ⟨by decide, by decide, fun q => absurd q (by decide), fun _ => b2002_211 _ _ _ _ _ (b2002_212 _ _ _ _ _ _ (nx 0 ?_))⟩
                rw [if_neg]
                intro z
                exact y (e3 (i + 1) (by omega) z)
            · refine js_1602e hT3 hk (by omega) (by omega) (js_2003 (by omega) (fun y => by unfold jx_le at y; omega) (fun y => by unfold jx_di at y; omega) (fun _ => ?_) (fun _ _ y => absurd rfl y))
              rw [g1']
              exact ⟨by decide, by decide, fun q => absurd q (by decide), fun _ => b2002_211 _ _ _ _ _ (b2002_212 _ _ _ _ _ _ (nx 0 (by rw [if_neg (by omega)])))⟩
          · rw [show jx_st n t b + (jx_we n t b - jx_st n t b) = jx_we n t b by omega] at q2 q3 q5 hx3
            rw [if_neg (Nat.lt_irrefl _)] at hx3
            subst hx3
            refine b2002_135 μ' _ _ _ _ ⟨by decide, fun _ => fin 0 μ' hf' q4 ⟨q4, Or.inr (Or.inl ⟨hlt, hle, by rw [hkf]; exact q1, q2, q3, q5⟩)⟩ (by omega), fun q => absurd rfl q⟩
        · -- a number
          obtain ⟨e1, e2, e3, e4⟩ := jx_des t hb
          have elt := jx_dlt hb hlt hdi
          refine ⟨by decide, fun q => absurd q (by decide), fun _ => b2002_134 _ _ _ _ _ ?_⟩
          have f1 : jd_f2 μ (qm_set μ1 2 1 2) := jl_f2s hf1 (by decide) (by decide)
          refine jl_from (S := fun i => ∀ μ' (x3 : Int), jd_f2 μ μ' → μ' 2 4 = ((jx_st n t b : Nat) : Int) → μ' 2 1 = 2 → μ' 2 2 = ((i - jx_st n t b : Nat) : Int) → μ' 2 3 = (i : Int) → μ' 2 5 = jd_n10 (fun j => t (jx_st n t b + j) - 48) (min (i - jx_st n t b) 4) → (x3 = if i < jx_de n t b then 1 else 0) → qm_W (qb_T L) (d + 1) 2002 135 [qm_P 2, qm_I x1, qm_I (b : Int), qm_I x3] [] μ' (fun v μ' => v = none ∧ V μ')) (jx_st n t b) (jx_de n t b - jx_st n t b) (fun i h5 h6 ih μ' x3 hf' q4 q1 q2 q3 q5 hx3 => ?_) (fun μ' x3 hf' q4 q1 q2 q3 q5 hx3 => ?_) _ 1 f1 (by rw [jl_sk _ _ _ (by decide)]; exact g4) (jl_ss _ _ _ _) (by rw [jl_sk _ _ _ (by decide), Nat.sub_self]; exact g2) (by rw [jl_sk _ _ _ (by decide)]; exact g3) (by rw [jl_sk _ _ _ (by decide), Nat.sub_self]; exact g5) (by rw [if_pos elt])
          · rw [if_pos (by omega)] at hx3
            subst hx3
            have hT' := jl_tfr2 hT hf'
            refine b2002_135 μ' _ _ _ _ ?_
            rw [q3, hT'.1]
            refine ⟨by decide, fun q => absurd q (by decide), fun _ => ⟨by omega, by omega, fun q => absurd q (by omega), fun _ => js_1602 i hT' hk rfl (by omega) (js_2004d (k := i - jx_st n t b) (f := fun j => t (jx_st n t b + j) - 48) q1 q2 (by omega) q5 (by show t i = t (jx_st n t b + (i - jx_st n t b)) - 48 + 48; rw [show jx_st n t b + (i - jx_st n t b) = i by omega]; omega) fun μ2 f2 r1 r2 r5 r3 r4 => ?_)⟩⟩
            rw [r1, r3, q3]
            refine ⟨by decide, fun q => absurd q (by decide), fun _ => ?_⟩
            have f3 : jd_f2 μ (qm_set μ2 2 3 ((i : Int) + 1)) := jl_f2s (jl_f2t hf' f2) (by decide) (by decide)
            have nx : ∀ x3 : Int, (x3 = if i + 1 < jx_de n t b then 1 else 0) → qm_W (qb_T L) (d + 1) 2002 135 [qm_P 2, qm_I x1, qm_I (b : Int), qm_I x3] [] (qm_set μ2 2 3 ((i : Int) + 1)) (fun v μ' => v = none ∧ V μ') := fun x3 hx3 => ih _ x3 f3 (by rw [jl_sk _ _ _ (by decide), r4]; exact q4) (by rw [jl_sk _ _ _ (by decide)]; exact r1) (by rw [jl_sk _ _ _ (by decide), r2]; omega) (jl_ss _ _ _ _) (by rw [jl_sk _ _ _ (by decide), r5]; congr 1; omega) hx3
            have hT3 := jl_tfr2 hT f3
            have g1' : (qm_set μ2 2 3 ((i : Int) + 1)) 2 1 = 2 := by rw [jl_sk _ _ _ (by decide)]; exact r1
            by_cases hin : i + 1 < n
            · have hbx2 := hbt _ hin
              refine js_1602 (i + 1) hT3 hk rfl hin (js_2003 (by omega) (fun y => ?_) (fun y => ?_) (fun y => by omega) (fun y y2 y3 => ?_))
              · rw [g1']
                refine ⟨by decide, by decide, fun q => absurd q (by decide), fun _ => b2002_211 _ _ _ _ _ (b2002_212 _ _ _ _ _ _ (nx 0 ?_))⟩
                rw [if_neg]
                intro z
                have := e3 (i + 1) (by omega) z
                unfold jx_di at this; unfold jx_le at y; omega
              · rw [g1']
                refine ⟨by decide, by decide, fun _ => b2002_212 _ _ _ _ _ _ (nx 1 ?_), fun q => absurd rfl q⟩
                rw [if_pos]
                refine Nat.lt_of_le_of_ne (by omega) fun z => ?_
                rw [← z] at e4
                exact e4 hin y
              · rw [g1']
                refine ⟨by decide, by decide, fun q => absurd q (by decide), fun _ => b2002_211 _ _ _ _ _ (b2002_212 _ _ _ _ _ _ (nx 0 ?_))⟩
                rw [if_neg]
                intro z
                exact y2 (e3 (i + 1) (by omega) z)
            · refine js_1602e hT3 hk (by omega) (by omega) (js_2003 (by omega) (fun y => by unfold jx_le at y; omega) (fun y => by unfold jx_di at y; omega) (fun _ => ?_) (fun _ _ y => absurd rfl y))
              rw [g1']
              exact ⟨by decide, by decide, fun q => absurd q (by decide), fun _ => b2002_211 _ _ _ _ _ (b2002_212 _ _ _ _ _ _ (nx 0 (by rw [if_neg (by omega)])))⟩
          · rw [show jx_st n t b + (jx_de n t b - jx_st n t b) = jx_de n t b by omega] at q2 q3 q5 hx3
            rw [if_neg (Nat.lt_irrefl _)] at hx3
            subst hx3
            refine b2002_135 μ' _ _ _ _ ⟨by decide, fun _ => fin 0 μ' hf' q4 ⟨q4, Or.inr (Or.inr (Or.inl ⟨hlt, hdi, by rw [hkf]; exact q1, q2, q3, q5⟩))⟩ (by omega), fun q => absurd rfl q⟩
        · -- a mark
          refine ⟨by decide, fun q => absurd q (by decide), fun _ => b2002_134 _ _ _ _ _ ?_⟩
          have f1 : jd_f2 μ (qm_set μ1 2 1 3) := jl_f2s hf1 (by decide) (by decide)
          have hT' := jl_tfr2 hT f1
          refine b2002_135 _ _ _ _ _ ?_
          rw [jl_sk (k' := 3) _ _ _ (by decide), g3, hT'.1]
          refine ⟨by decide, fun q => absurd q (by decide), fun _ => ⟨by omega, by omega, fun q => absurd q (by omega), fun _ => js_1602 (jx_st n t b) hT' hk rfl hlt (js_2004m (jl_ss _ _ _ _) (by rw [jl_sk _ _ _ (by decide)]; exact g2) fun μ2 f2 r1 r2 r5 r3 r4 => ?_)⟩⟩
          rw [r1]
          refine ⟨by decide, fun _ => b2002_211 _ _ _ _ _ (b2002_212 _ _ _ _ _ _ (b2002_135 _ _ _ _ _ ⟨by decide, fun _ => ?_, fun q => absurd rfl q⟩)), fun q => absurd rfl q⟩
          have e4' : μ2 2 4 = ((jx_st n t b : Nat) : Int) := by rw [r4, jl_sk _ _ _ (by decide)]; exact g4
          have e3' : μ2 2 3 = ((jx_st n t b : Nat) : Int) := by rw [r3, jl_sk _ _ _ (by decide)]; exact g3
          refine fin 0 _ (jl_f2s (jl_f2t f1 f2) (by decide) (by decide)) (by rw [jl_sk _ _ _ (by decide)]; exact e4') ⟨by rw [jl_sk _ _ _ (by decide)]; exact e4', Or.inr (Or.inr (Or.inr ⟨hlt, hle, hdi, ?_, ?_, ?_, ?_⟩))⟩ ?_
          · rw [jl_sk _ _ _ (by decide)]; exact r1
          · rw [jl_sk _ _ _ (by decide)]; exact r2
          · rw [jl_ss, e3']; rfl
          · rw [jl_sk _ _ _ (by decide)]; exact r5
          · rw [jl_sk _ _ _ (by decide)]; omega
      · -- the end
        have hst : jx_st n t b = n := by omega
        refine js_1602e hT1 hk (by omega) (by omega) (js_2003 (by omega) (fun y => by unfold jx_le at y; omega) (fun y => by unfold jx_di at y; omega) (fun _ => ?_) (fun _ _ y => absurd rfl y))
        have f1 : jd_f2 μ (qm_set μ1 2 1 0) := jl_f2s hf1 (by decide) (by decide)
        refine ⟨by decide, fun _ => b2002_134 _ _ _ _ _ (b2002_135 _ _ _ _ _ ⟨by decide, fun _ => fin 0 _ f1 (by rw [jl_sk _ _ _ (by decide)]; exact g4) ⟨by rw [jl_sk _ _ _ (by decide)]; exact g4, Or.inl ⟨hst, jl_ss _ _ _ _, ?_⟩⟩ (Or.inl (jl_ss _ _ _ _)), fun q => absurd rfl q⟩), fun q => absurd rfl q⟩
        rw [jl_sk _ _ _ (by decide), g3, hst]
    -- the blanks
    refine jl_from (S := fun i => ∀ μ', jd_f2 μ μ' → μ' 2 3 = (i : Int) → qm_W (qb_T L) (d + 1) 2002 27 [qm_P 2, qm_I x1, qm_I (b : Int), none] [] μ' (fun v μ' => v = none ∧ V μ')) b (jx_st n t b - b) (fun i h5 h6 ih μ' hf h3' => ?_) (fun μ' hf h3' => ?_) μ (jl_f2r _) h3
    · have hT' := jl_tfr2 hT hf
      have hbl := s3 i h5 (by omega)
      have hbx := hbt i (by omega)
      have nx : qm_W (qb_T L) (d + 1) 2002 73 [qm_P 2, qm_I x1, qm_I (b : Int), none] [] μ' (fun v μ' => v = none ∧ V μ') := by
        refine b2002_73 μ' _ _ _ (ih _ (jl_f2s hf (by decide) (by decide)) ?_)
        rw [jl_ss, h3']; rfl
      refine b2002_27 μ' _ _ _ ?_
      rw [h3', hT'.1]
      refine ⟨by omega, by omega, fun q => absurd q (by omega), fun _ => js_1602 i hT' hk rfl (by omega) ⟨by omega, fun _ => nx, fun y => ?_⟩⟩
      rw [h3']
      refine js_1602 i hT' hk rfl (by omega) ⟨by omega, fun _ => nx, fun y2 => ?_⟩
      unfold jx_bl at hbl; omega
    · rw [show b + (jx_st n t b - b) = jx_st n t b by omega] at h3'
      have hT' := jl_tfr2 hT hf
      refine b2002_27 μ' _ _ _ ?_
      rw [h3', hT'.1]
      refine ⟨by omega, by omega, fun q => after μ' hf h3', fun y0 => ?_⟩
      have hlt : jx_st n t b < n := by omega
      have hbx := hbt _ hlt
      have hnb := s4 hlt
      unfold jx_bl at hnb
      refine js_1602 (jx_st n t b) hT' hk rfl hlt ⟨by omega, fun y => by omega, fun y => ?_⟩
      rw [h3']
      exact js_1602 (jx_st n t b) hT' hk rfl hlt ⟨by omega, fun y2 => by omega, fun y2 => after μ' hf h3'⟩
  refine ⟨by omega, fun y => b2002_16 μ _ (mid 1 (Or.inr rfl) ⟨fun _ => rfl, fun _ => hm.mpr (Or.inl y)⟩), fun y => ⟨by omega, fun y2 => b2002_16 μ _ (mid 1 (Or.inr rfl) ⟨fun _ => rfl, fun _ => hm.mpr (Or.inr y2)⟩), fun y2 => mid 0 (Or.inl rfl) ⟨fun q => by have := hm.mp q; omega, fun q => absurd q (by decide)⟩⟩⟩
end
