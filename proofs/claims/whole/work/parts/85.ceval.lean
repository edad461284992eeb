/-! ===== numbers of a question ===== -/
theorem je_td {a b : Int} (hb : 0 < b) : a.tdiv b = a / b + if 0 ≤ a ∨ b ∣ a then 0 else 1 := by rw [Int.tdiv_eq_ediv, Int.sign_eq_one_of_pos hb]
theorem je_flp {a b : Int} (hb : 0 < b) : je_fl a b = if a.tmod b = 0 ∨ 0 ≤ a then a.tdiv b else a.tdiv b - 1 := by
  unfold je_fl
  rw [if_neg (by omega), if_pos hb, je_td hb]
  by_cases h : b ∣ a
  · rw [if_pos (Or.inr h), if_pos (Or.inl (Int.tmod_eq_zero_of_dvd h))]; omega
  · by_cases h2 : 0 ≤ a
    · rw [if_pos (Or.inl h2), if_pos (Or.inr h2)]; omega
    · rw [if_neg (fun z => z.elim (fun y => h (Int.dvd_of_tmod_eq_zero y)) h2), if_neg (fun z => z.elim h2 h)]; omega
theorem je_tmn (a b : Int) : (-a).tmod (-b) = -(a.tmod b) := by
  rw [Int.tmod_def, Int.neg_tdiv_neg, Int.tmod_def, Int.neg_mul]
  omega
theorem je_flt {a b : Int} (hb : b ≠ 0) : je_fl a b = if a.tmod b = 0 ∨ (a < 0 ↔ b < 0) then a.tdiv b else a.tdiv b - 1 := by
  by_cases h : 0 < b
  · rw [je_flp h]
    by_cases h1 : a.tmod b = 0
    · rw [if_pos (Or.inl h1), if_pos (Or.inl h1)]
    · by_cases h2 : 0 ≤ a
      · rw [if_pos (Or.inr h2), if_pos (Or.inr (by omega))]
      · rw [if_neg (fun z => z.elim h1 h2), if_neg (fun z => z.elim h1 (by omega))]
  · have e : je_fl a b = je_fl (-a) (-b) := by
      unfold je_fl
      rw [if_neg hb, if_neg h, if_neg (by omega), if_pos (by omega)]
    rw [e, je_flp (by omega), je_tmn, Int.neg_tdiv_neg]
    by_cases h1 : a.tmod b = 0
    · rw [if_pos (Or.inl (by omega)), if_pos (Or.inl h1)]
    · by_cases h2 : 0 ≤ -a
      · by_cases h3 : a = 0
        · exact absurd (by rw [h3]; exact Int.zero_tmod b) h1
        · rw [if_pos (Or.inr h2), if_pos (Or.inr (by omega))]
      · rw [if_neg (fun z => z.elim (fun y => h1 (by omega)) h2), if_neg (fun z => z.elim h1 (by omega))]
theorem ql_xors {x y : Int} (hx : qm_r64 x) (hy : qm_r64 y) : 0 ≤ ql_xor x y ↔ (x < 0 ↔ y < 0) := by
  have h1 : ((Int64.ofInt x).toBitVec ^^^ (Int64.ofInt y).toBitVec).msb = decide (ql_xor x y < 0) := BitVec.msb_eq_toInt
  have hx2 : (Int64.ofInt x).toBitVec.msb = decide (x < 0) := by
    rw [BitVec.msb_eq_toInt]
    show decide ((Int64.ofInt x).toInt < 0) = _
    rw [qa_r64 hx]
  have hy2 : (Int64.ofInt y).toBitVec.msb = decide (y < 0) := by
    rw [BitVec.msb_eq_toInt]
    show decide ((Int64.ofInt y).toInt < 0) = _
    rw [qa_r64 hy]
  rw [BitVec.msb_xor, hx2, hy2] at h1
  by_cases a : x < 0 <;> by_cases b : y < 0 <;> simp [a, b] at h1 ⊢ <;> omega
theorem ql_rxor (x y : Int) : -9223372036854775808 ≤ ql_xor x y ∧ ql_xor x y < 9223372036854775808 := ⟨Int64.le_toInt _, Int64.toInt_lt _⟩
theorem ql_andb {a b : Int} (ha : je_b a) (hb : je_b b) : ql_and a b = a * b := by
  rcases ha with rfl | rfl <;> rcases hb with rfl | rfl <;> decide
theorem ql_orb {a b : Int} (ha : je_b a) (hb : je_b b) : ql_or a b = jd_is (0 < a + b) := by
  rcases ha with rfl | rfl <;> rcases hb with rfl | rfl <;> decide
theorem je_mul {a b : Int} (ha : je_n a) (hb : je_n b) : -1000000000000 ≤ a * b ∧ a * b ≤ 1000000000000 := by
  unfold je_n at *
  have h1 : (a * b).natAbs = a.natAbs * b.natAbs := Int.natAbs_mul a b
  have h2 : a.natAbs * b.natAbs ≤ 1000000 * 1000000 := Nat.mul_le_mul (by omega) (by omega)
  omega
theorem je_tdb {a b : Int} (ha : je_n a) : (-1000000 ≤ a.tmod b ∧ a.tmod b ≤ 1000000) ∧ (a.tdiv b * b = a - a.tmod b) := by
  unfold je_n at ha
  have h2 : (a.tmod b).natAbs = a.natAbs % b.natAbs := Int.natAbs_tmod a b
  have h3 := Nat.mod_le a.natAbs b.natAbs
  have h4 := Int.tmod_def a b
  have h5 := Int.mul_comm b (a.tdiv b)
  refine ⟨by omega, by omega⟩
section
variable {L d : Nat} {μ : qm_M} {Q : Int → qm_M → Prop} {V : qm_M → Prop} {a b : Int}
theorem js_2801 (ha : je_n a) (hb : je_n b) (h0 : b ≠ 0) (H : Q (je_fl a b) μ) : qm_CL (qb_T L) d 2801 [qm_L a, qm_L b] μ Q := by
  have ha' := ha
  have hb' := hb
  unfold je_n at ha' hb'
  have hra : qm_r64 a := ⟨by omega, by omega⟩
  have hrb : qm_r64 b := ⟨by omega, by omega⟩
  have hd : ql_div a b = a.tdiv b := ql_tdiv ⟨by omega, by omega⟩ hrb
  obtain ⟨m1, m2⟩ := je_tdb (b := b) ha
  have hs := ql_xors hra hrb
  rw [je_flt h0] at H
  refine b2801_0 μ _ _ _ ?_
  rw [hd]
  refine ⟨hrb, h0, ql_rxor a b, fun z => ⟨_, rfl, ?_⟩, fun z => ⟨by omega, hra, fun y => ⟨_, rfl, ?_⟩, fun y => ⟨_, rfl, ?_⟩⟩⟩
  · rw [if_pos (Or.inr (hs.mp z))] at H; exact H
  · rw [if_pos (Or.inl (by omega))] at H; exact H
  · rw [if_neg (fun w => w.elim (fun v => y (by omega)) (fun v => z (hs.mpr v)))] at H; exact H
theorem js_1219 (ha : -9000000000000000000 ≤ a ∧ a ≤ 9000000000000000000) (H : Q (je_cl a) μ) : qm_CL (qb_T L) (d + 1) 1219 [qm_L a] μ Q := by
  have e : qm_max (-1000000) (qm_min 1000000 a) = je_cl a := by
    unfold qm_max qm_min je_cl
    split <;> split <;> split <;> omega
  have e2 : -9223372036854775808 ≤ qm_min 1000000 a ∧ qm_min 1000000 a < 9223372036854775808 := by
    unfold qm_min
    split <;> omega
  refine b1219_0 μ _ _ ⟨by omega, e2, _, rfl, ?_⟩
  rw [e]; exact H
theorem je_two_9 (a b : Int) : je_two 9 a b = je_cl (a + b) := by
  unfold je_two
  rw [if_pos rfl]
theorem je_two_10 (a b : Int) : je_two 10 a b = je_cl (a - b) := by
  unfold je_two
  rw [if_neg (by decide), if_pos rfl]
theorem je_two_11 (a b : Int) : je_two 11 a b = je_cl (a * b) := by
  unfold je_two
  rw [if_neg (by decide), if_neg (by decide), if_pos rfl]
theorem je_two_12 (a b : Int) : je_two 12 a b = je_fl a b := by
  unfold je_two
  rw [if_neg (by decide), if_neg (by decide), if_neg (by decide), if_pos rfl]
theorem je_two_13 (a b : Int) : je_two 13 a b = (if a < b then a else b) := by
  unfold je_two
  rw [if_neg (by decide), if_neg (by decide), if_neg (by decide), if_neg (by decide), if_pos rfl]
theorem je_two_14 (a b : Int) : je_two 14 a b = (if b < a then a else b) := by
  unfold je_two
  rw [if_neg (by decide), if_neg (by decide), if_neg (by decide), if_neg (by decide), if_neg (by decide), if_pos rfl]
theorem je_two_15 (a b : Int) : je_two 15 a b = jd_is (a < b) := by
  unfold je_two
  rw [if_neg (by decide), if_neg (by decide), if_neg (by decide), if_neg (by decide), if_neg (by decide), if_neg (by decide), if_pos rfl]
theorem je_two_16 (a b : Int) : je_two 16 a b = jd_is (b < a) := by
  unfold je_two
  rw [if_neg (by decide), if_neg (by decide), if_neg (by decide), if_neg (by decide), if_neg (by decide), if_neg (by decide), if_neg (by decide), if_pos rfl]
theorem je_two_17 (a b : Int) : je_two 17 a b = jd_is (a = b) := by
  unfold je_two
  rw [if_neg (by decide), if_neg (by decide), if_neg (by decide), if_neg (by decide), if_neg (by decide), if_neg (by decide), if_neg (by decide), if_neg (by decide), if_pos rfl]
theorem je_two_18 (a b : Int) : je_two 18 a b = a * b := by
  unfold je_two
  rw [if_neg (by decide), if_neg (by decide), if_neg (by decide), if_neg (by decide), if_neg (by decide), if_neg (by decide), if_neg (by decide), if_neg (by decide), if_neg (by decide), if_pos rfl]
theorem je_two_19 (a b : Int) : je_two 19 a b = jd_is (0 < a + b) := by
  unfold je_two
  rw [if_neg (by decide), if_neg (by decide), if_neg (by decide), if_neg (by decide), if_neg (by decide), if_neg (by decide), if_neg (by decide), if_neg (by decide), if_neg (by decide), if_neg (by decide)]
theorem js_1220_9 (ha : je_n a) (hb : je_n b) (H : Q (je_cl (a + b)) μ) : qm_CL (qb_T L) (d + 2) 1220 [qm_I 9, qm_L a, qm_L b] μ Q := by
  have ha' := ha
  have hb' := hb
  unfold je_n at ha' hb'
  exact b1220_0 μ _ _ _ _ ⟨by decide, fun _ => js_1219 (by omega) ⟨_, rfl, H⟩, fun q => absurd q (by decide), fun q => absurd q (by decide), fun q => absurd q (by decide), fun q => absurd q (by decide), fun q => absurd q (by decide), fun q => absurd q (by decide), fun q => absurd q (by decide), fun q => absurd q (by decide), fun q => absurd q (by decide), fun q => q.elim (fun z => absurd z (by decide)) (fun z => absurd z (by decide))⟩
theorem js_1220_10 (ha : je_n a) (hb : je_n b) (H : Q (je_cl (a - b)) μ) : qm_CL (qb_T L) (d + 2) 1220 [qm_I 10, qm_L a, qm_L b] μ Q := by
  have ha' := ha
  have hb' := hb
  unfold je_n at ha' hb'
  exact b1220_0 μ _ _ _ _ ⟨by decide, fun q => absurd q (by decide), fun _ => js_1219 (by omega) ⟨_, rfl, H⟩, fun q => absurd q (by decide), fun q => absurd q (by decide), fun q => absurd q (by decide), fun q => absurd q (by decide), fun q => absurd q (by decide), fun q => absurd q (by decide), fun q => absurd q (by decide), fun q => absurd q (by decide), fun q => q.elim (fun z => absurd z (by decide)) (fun z => absurd z (by decide))⟩
theorem js_1220_11 (ha : je_n a) (hb : je_n b) (H : Q (je_cl (a * b)) μ) : qm_CL (qb_T L) (d + 2) 1220 [qm_I 11, qm_L a, qm_L b] μ Q := by
  have ha' := ha
  have hb' := hb
  unfold je_n at ha' hb'
  have hm := je_mul ha hb
  exact b1220_0 μ _ _ _ _ ⟨by decide, fun q => absurd q (by decide), fun q => absurd q (by decide), fun _ => js_1219 (by omega) ⟨_, rfl, H⟩, fun q => absurd q (by decide), fun q => absurd q (by decide), fun q => absurd q (by decide), fun q => absurd q (by decide), fun q => absurd q (by decide), fun q => absurd q (by decide), fun q => absurd q (by decide), fun q => q.elim (fun z => absurd z (by decide)) (fun z => absurd z (by decide))⟩
theorem js_1220_12 (ha : je_n a) (hb : je_n b) (H : Q (je_fl a b) μ) : qm_CL (qb_T L) (d + 2) 1220 [qm_I 12, qm_L a, qm_L b] μ Q := by
  have ha' := ha
  have hb' := hb
  unfold je_n at ha' hb'
  exact b1220_0 μ _ _ _ _ ⟨by decide, fun q => absurd q (by decide), fun q => absurd q (by decide), fun q => absurd q (by decide), fun _ => ⟨by omega, fun z => ⟨_, rfl, (show je_fl a b = 0 from if_pos z) ▸ H⟩, fun z => js_2801 ha hb z ⟨_, rfl, H⟩⟩, fun q => absurd q (by decide), fun q => absurd q (by decide), fun q => absurd q (by decide), fun q => absurd q (by decide), fun q => absurd q (by decide), fun q => absurd q (by decide), fun q => q.elim (fun z => absurd z (by decide)) (fun z => absurd z (by decide))⟩
theorem js_1220_13 (ha : je_n a) (hb : je_n b) (H : Q ((if a < b then a else b)) μ) : qm_CL (qb_T L) (d + 2) 1220 [qm_I 13, qm_L a, qm_L b] μ Q := by
  have ha' := ha
  have hb' := hb
  unfold je_n at ha' hb'
  exact b1220_0 μ _ _ _ _ ⟨by decide, fun q => absurd q (by decide), fun q => absurd q (by decide), fun q => absurd q (by decide), fun q => absurd q (by decide), fun _ => ⟨by omega, by omega, _, rfl, (show (if a < b then a else b) = qm_min a b by unfold qm_min; split <;> split <;> omega) ▸ H⟩, fun q => absurd q (by decide), fun q => absurd q (by decide), fun q => absurd q (by decide), fun q => absurd q (by decide), fun q => absurd q (by decide), fun q => q.elim (fun z => absurd z (by decide)) (fun z => absurd z (by decide))⟩
theorem js_1220_14 (ha : je_n a) (hb : je_n b) (H : Q ((if b < a then a else b)) μ) : qm_CL (qb_T L) (d + 2) 1220 [qm_I 14, qm_L a, qm_L b] μ Q := by
  have ha' := ha
  have hb' := hb
  unfold je_n at ha' hb'
  exact b1220_0 μ _ _ _ _ ⟨by decide, fun q => absurd q (by decide), fun q => absurd q (by decide), fun q => absurd q (by decide), fun q => absurd q (by decide), fun q => absurd q (by decide), fun _ => ⟨by omega, by omega, _, rfl, (show (if b < a then a else b) = qm_max a b by unfold qm_max; split <;> split <;> omega) ▸ H⟩, fun q => absurd q (by decide), fun q => absurd q (by decide), fun q => absurd q (by decide), fun q => absurd q (by decide), fun q => q.elim (fun z => absurd z (by decide)) (fun z => absurd z (by decide))⟩
theorem js_1220_15 (ha : je_n a) (hb : je_n b) (H : Q (jd_is (a < b)) μ) : qm_CL (qb_T L) (d + 2) 1220 [qm_I 15, qm_L a, qm_L b] μ Q := by
  have ha' := ha
  have hb' := hb
  unfold je_n at ha' hb'
  exact b1220_0 μ _ _ _ _ ⟨by decide, fun q => absurd q (by decide), fun q => absurd q (by decide), fun q => absurd q (by decide), fun q => absurd q (by decide), fun q => absurd q (by decide), fun q => absurd q (by decide), fun _ => ⟨by omega, by omega, fun z => ⟨_, rfl, (show jd_is (a < b) = 0 from if_neg (by omega)) ▸ H⟩, fun z => ⟨_, rfl, (show jd_is (a < b) = 1 from if_pos (by omega)) ▸ H⟩⟩, fun q => absurd q (by decide), fun q => absurd q (by decide), fun q => absurd q (by decide), fun q => q.elim (fun z => absurd z (by decide)) (fun z => absurd z (by decide))⟩
theorem js_1220_16 (ha : je_n a) (hb : je_n b) (H : Q (jd_is (b < a)) μ) : qm_CL (qb_T L) (d + 2) 1220 [qm_I 16, qm_L a, qm_L b] μ Q := by
  have ha' := ha
  have hb' := hb
  unfold je_n at ha' hb'
  exact b1220_0 μ _ _ _ _ ⟨by decide, fun q => absurd q (by decide), fun q => absurd q (by decide), fun q => absurd q (by decide), fun q => absurd q (by decide), fun q => absurd q (by decide), fun q => absurd q (by decide), fun q => absurd q (by decide), fun _ => ⟨by omega, by omega, fun z => ⟨_, rfl, (show jd_is (b < a) = 0 from if_neg (by omega)) ▸ H⟩, fun z => ⟨_, rfl, (show jd_is (b < a) = 1 from if_pos (by omega)) ▸ H⟩⟩, fun q => absurd q (by decide), fun q => absurd q (by decide), fun q => q.elim (fun z => absurd z (by decide)) (fun z => absurd z (by decide))⟩
theorem js_1220_17 (ha : je_n a) (hb : je_n b) (H : Q (jd_is (a = b)) μ) : qm_CL (qb_T L) (d + 2) 1220 [qm_I 17, qm_L a, qm_L b] μ Q := by
  have ha' := ha
  have hb' := hb
  unfold je_n at ha' hb'
  exact b1220_0 μ _ _ _ _ ⟨by decide, fun q => absurd q (by decide), fun q => absurd q (by decide), fun q => absurd q (by decide), fun q => absurd q (by decide), fun q => absurd q (by decide), fun q => absurd q (by decide), fun q => absurd q (by decide), fun q => absurd q (by decide), fun _ => ⟨by omega, by omega, fun z => ⟨_, rfl, (show jd_is (a = b) = 1 from if_pos z) ▸ H⟩, fun z => ⟨_, rfl, (show jd_is (a = b) = 0 from if_neg z) ▸ H⟩⟩, fun q => absurd q (by decide), fun q => q.elim (fun z => absurd z (by decide)) (fun z => absurd z (by decide))⟩
theorem js_1220_18 (ha : je_n a) (hb : je_n b) (h1 : je_b a) (h2 : je_b b) (H : Q (a * b) μ) : qm_CL (qb_T L) (d + 2) 1220 [qm_I 18, qm_L a, qm_L b] μ Q := by
  have ha' := ha
  have hb' := hb
  unfold je_n at ha' hb'
  exact b1220_0 μ _ _ _ _ ⟨by decide, fun q => absurd q (by decide), fun q => absurd q (by decide), fun q => absurd q (by decide), fun q => absurd q (by decide), fun q => absurd q (by decide), fun q => absurd q (by decide), fun q => absurd q (by decide), fun q => absurd q (by decide), fun q => absurd q (by decide), fun _ => ⟨_, rfl, (ql_andb h1 h2).symm ▸ H⟩, fun q => q.elim (fun z => absurd z (by decide)) (fun z => absurd z (by decide))⟩
theorem js_1220_19 (ha : je_n a) (hb : je_n b) (h1 : je_b a) (h2 : je_b b) (H : Q (jd_is (0 < a + b)) μ) : qm_CL (qb_T L) (d + 2) 1220 [qm_I 19, qm_L a, qm_L b] μ Q := by
  have ha' := ha
  have hb' := hb
  unfold je_n at ha' hb'
  exact b1220_0 μ _ _ _ _ ⟨by decide, fun q => absurd q (by decide), fun q => absurd q (by decide), fun q => absurd q (by decide), fun q => absurd q (by decide), fun q => absurd q (by decide), fun q => absurd q (by decide), fun q => absurd q (by decide), fun q => absurd q (by decide), fun q => absurd q (by decide), fun q => absurd q (by decide), fun _ => ⟨_, rfl, (ql_orb h1 h2).symm ▸ H⟩⟩
theorem js_1220 {x : Int} (ha : je_n a) (hb : je_n b) (hx : 9 ≤ x) (h : x ≤ 17 ∨ (x ≤ 19 ∧ je_b a ∧ je_b b)) (H : Q (je_two x a b) μ) : qm_CL (qb_T L) (d + 2) 1220 [qm_I x, qm_L a, qm_L b] μ Q := by
  have hx19 : x ≤ 19 := by rcases h with h | h <;> omega
  have hc : x = 9 ∨ x = 10 ∨ x = 11 ∨ x = 12 ∨ x = 13 ∨ x = 14 ∨ x = 15 ∨ x = 16 ∨ x = 17 ∨ x = 18 ∨ x = 19 := by omega
  rcases hc with rfl | rfl | rfl | rfl | rfl | rfl | rfl | rfl | rfl | rfl | rfl
  · rw [je_two_9] at H; exact js_1220_9 ha hb H
  · rw [je_two_10] at H; exact js_1220_10 ha hb H
  · rw [je_two_11] at H; exact js_1220_11 ha hb H
  · rw [je_two_12] at H; exact js_1220_12 ha hb H
  · rw [je_two_13] at H; exact js_1220_13 ha hb H
  · rw [je_two_14] at H; exact js_1220_14 ha hb H
  · rw [je_two_15] at H; exact js_1220_15 ha hb H
  · rw [je_two_16] at H; exact js_1220_16 ha hb H
  · rw [je_two_17] at H; exact js_1220_17 ha hb H
  · rw [je_two_18] at H
    rcases h with h | h
    · exact absurd h (by decide)
    · exact js_1220_18 ha hb h.2.1 h.2.2 H
  · rw [je_two_19] at H
    rcases h with h | h
    · exact absurd h (by decide)
    · exact js_1220_19 ha hb h.2.1 h.2.2 H
end
