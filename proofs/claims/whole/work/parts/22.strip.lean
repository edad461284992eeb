/-! ===== strips taken; names' letters ===== -/
def jc_st (o a : Nat) (nc s : Nat) (sf : Nat → Nat → Int) (μ : qm_M) : Prop := μ o 0 = (s : Int) ∧ ∀ r c, r < s → c < nc → μ a (8 * r + c) = sf r c
def jm_st (b : Nat) (nc s : Nat) (sf : Nat → Nat → Int) (μ : qm_M) : Prop := μ 69 b = (s : Int) ∧ ∀ r c, r < s → c < nc → μ 70 (96 * b + 8 * r + c) = sf r c
def jd_sok (nc s : Nat) (nco : Int) (sf : Nat → Nat → Int) : Prop := s ≤ 12 ∧ ∀ r c, r < s → c < nc → 0 ≤ sf r c ∧ sf r c ≤ nco
/-- a tape is a strip -/
def jd_isst (nc n : Nat) (nco : Int) (t : Nat → Int) : Prop := 0 < nc ∧ 0 < n ∧ n % nc = 0 ∧ n / nc ≤ 12 ∧ ∀ i, i < n → t i ≤ nco
theorem jl_ix {n j k : Nat} (hn : 0 < n) (h8 : n ≤ 8) (h : 8 * (j / n) + j % n = 8 * (k / n) + k % n) : j = k := by
  have h1 := Nat.div_add_mod j n
  have h2 := Nat.div_add_mod k n
  have h3 := Nat.mod_lt j hn
  have h4 := Nat.mod_lt k hn
  have e1 : j / n = k / n := by omega
  have e2 : j % n = k % n := by omega
  rw [← h1, ← h2, e1, e2]
theorem jl_rc {n r c : Nat} (hc : c < n) : (n * r + c) / n = r ∧ (n * r + c) % n = c := by
  constructor
  · rw [Nat.mul_add_div (by omega), Nat.div_eq_of_lt hc, Nat.add_zero]
  · rw [Nat.mul_add_mod, Nat.mod_eq_of_lt hc]
theorem jl_idm (k n : Nat) (hk : k < 2147483648) (hn : 0 < n) (hn2 : n ≤ 8) : qi_div (k : Int) (n : Int) = ((k / n : Nat) : Int) ∧ qi_rem (k : Int) (n : Int) = ((k % n : Nat) : Int) := by
  rw [qa_div (by omega) (by omega) (by omega) (by omega), qa_rem (by omega) (by omega) (by omega) (by omega)]
  exact ⟨(Int.natCast_ediv k n).symm, (Int.natCast_emod k n).symm⟩
theorem jl_rcn {n m r c : Nat} (hm : m % n = 0) (hr : r < m / n) (hc : c < n) : n * r + c < m := by
  have h1 := Nat.div_add_mod m n
  have h2 : n * (r + 1) ≤ n * (m / n) := Nat.mul_le_mul_left n hr
  rw [Nat.mul_add, Nat.mul_one] at h2
  omega
section
variable {L d n nc : Nat} {nco : Int} {t : Nat → Int} {μ : qm_M} {Q : Int → qm_M → Prop} {V : qm_M → Prop}
theorem js_1401_8 (h : jc_tape n t μ) (hk : jd_tok n t) (hnc : nc ≤ 8) (hco : 0 ≤ nco ∧ nco ≤ 6) (H : ∀ μ', jd_fr [8, 37] μ μ' → jd_isst nc n nco t → jc_st 8 37 nc (n / nc) (fun r c => t (nc * r + c)) μ' → Q 1 μ') (H0 : ¬ jd_isst nc n nco t → Q 0 μ) : qm_CI (qb_T L) (d + 1) 1401 [qm_P 8, qm_P 1, qm_I (nc : Int), qm_I nco] μ Q := by
  have h1 := hk.1
  refine b1401_8_0 μ _ _ _ ?_
  rw [h.1]
  refine ⟨by omega, fun q => ⟨_, rfl, H0 fun z => by have := z.1; omega⟩, fun q => ⟨by omega, fun q2 => ⟨_, rfl, H0 fun z => by have := z.2.1; omega⟩, fun q2 => ?_⟩⟩
  have hd := jl_idm n nc (by omega) (by omega) hnc
  have hm := Nat.mod_lt n (show 0 < nc by omega)
  have hdl := Nat.div_le_self n nc
  have hd0 : (0 : Int) ≤ ((n / nc : Nat) : Int) := Int.natCast_nonneg _
  rw [hd.1, hd.2]
  refine ⟨by omega, by omega, by omega, fun q3 => ⟨by omega, by omega, by omega, fun q4 => ?_, fun q4 => ⟨_, rfl, H0 fun z => by have := z.2.2.2.1; omega⟩⟩, fun q3 => ⟨_, rfl, H0 fun z => by have := z.2.2.1; omega⟩⟩
  refine jl_loop (S := fun i => (∀ j, j < i → t j ≤ nco) → qm_W (qb_T L) (d + 1) 1401 36 [qm_P 8, qm_P 1, qm_I (nc : Int), qm_I nco, qm_I ((i : Nat) : Int)] [] μ (fun v μ' => ∃ r, v = some (.inl r) ∧ Q r μ')) n (fun i hi ih hp => ?_) (fun hp => ?_) (fun j hj => absurd hj (by omega))
  · refine b1401_8_36 μ _ _ _ _ ?_
    rw [h.1]
    have hb := hk.2 i hi
    refine ⟨by omega, by omega, fun q => absurd q (by omega), fun _ => js_1602 i h hk rfl hi ⟨by omega, by omega, fun q => ih fun j hj => ?_, fun q => ⟨_, rfl, H0 fun z => q (z.2.2.2.2 i hi)⟩⟩⟩
    by_cases hj2 : j = i
    · rw [hj2]; exact q
    · exact hp j (by omega)
  · refine b1401_8_36 μ _ _ _ _ ?_
    rw [h.1, hd.1]
    refine ⟨by omega, by omega, fun _ => ⟨by omega, by omega, ?_⟩, fun q => absurd (Int.le_refl _) q⟩
    have hS : jd_isst nc n nco t := ⟨by omega, by omega, by omega, by omega, hp⟩
    refine jl_loop (S := fun i => ∀ μ', jd_fr [8, 37] μ μ' → μ' 8 0 = ((n / nc : Nat) : Int) → (∀ j, j < i → μ' 37 (8 * (j / nc) + j % nc) = t j) → qm_W (qb_T L) (d + 1) 1401 76 [qm_P 8, qm_P 1, qm_I (nc : Int), qm_I nco, qm_I ((i : Nat) : Int)] [] μ' (fun v μ' => ∃ r, v = some (.inl r) ∧ Q r μ')) n (fun i hi ih μ' hf hr hj => ?_) (fun μ' hf hr hj => ?_) _ (jf_set (jf_refl _ _) rfl) (jl_ss _ _ _ _) (fun j hj => absurd hj (by omega))
    · have ht : jc_tape n t μ' := by unfold jc_tape; rw [hf 1 rfl, hf 14 rfl]; exact h
      refine b1401_8_76 μ' _ _ _ _ ?_
      have hd2 := jl_idm i nc (by omega) (by omega) hnc
      have hm2 := Nat.mod_lt i (show 0 < nc by omega)
      have hq0 : (0 : Int) ≤ ((i / nc : Nat) : Int) := Int.natCast_nonneg _
      have hq2 : i / nc ≤ n / nc := Nat.div_le_div_right (by omega)
      have hq3 : i / nc < n / nc := by
        refine Nat.lt_of_not_le fun z => ?_
        have e1 := Nat.div_add_mod i nc
        have e2 := Nat.div_add_mod n nc
        have e3 : nc * (n / nc) ≤ nc * (i / nc) := Nat.mul_le_mul_left nc z
        omega
      rw [ht.1, hd2.1, hd2.2]
      refine ⟨by omega, by omega, fun q => absurd q (by omega), fun _ => ⟨by omega, by omega, by omega, by omega, js_1602 i ht hk rfl hi ?_⟩⟩
      refine js_402i (8 * (i / nc) + i % nc) rfl (by decide) (by omega) (by omega) ?_
      refine ih _ (jf_set hf rfl) (by rw [jl_sn _ _ _ (by decide)]; exact hr) fun j hj2 => ?_
      by_cases hj3 : j = i
      · rw [hj3, jl_ss]
      · rw [jl_sk _ _ _ (fun z => hj3 (jl_ix (by omega) hnc z))]; exact hj j (by omega)
    · have ht : jc_tape n t μ' := by unfold jc_tape; rw [hf 1 rfl, hf 14 rfl]; exact h
      refine b1401_8_76 μ' _ _ _ _ ?_
      rw [ht.1]
      refine ⟨by omega, by omega, fun _ => ⟨_, rfl, H μ' hf hS ⟨hr, fun r c hr2 hc => ?_⟩⟩, fun q => absurd (Int.le_refl _) q⟩
      have h5 := jl_rc (n := nc) (r := r) hc
      have h6 := hj (nc * r + c) (jl_rcn (by omega) hr2 hc)
      rw [h5.1, h5.2] at h6
      exact h6
theorem js_1401_9 (h : jc_tape n t μ) (hk : jd_tok n t) (hnc : nc ≤ 8) (hco : 0 ≤ nco ∧ nco ≤ 6) (H : ∀ μ', jd_fr [9, 38] μ μ' → jd_isst nc n nco t → jc_st 9 38 nc (n / nc) (fun r c => t (nc * r + c)) μ' → Q 1 μ') (H0 : ¬ jd_isst nc n nco t → Q 0 μ) : qm_CI (qb_T L) (d + 1) 1401 [qm_P 9, qm_P 1, qm_I (nc : Int), qm_I nco] μ Q := by
  have h1 := hk.1
  refine b1401_9_0 μ _ _ _ ?_
  rw [h.1]
  refine ⟨by omega, fun q => ⟨_, rfl, H0 fun z => by have := z.1; omega⟩, fun q => ⟨by omega, fun q2 => ⟨_, rfl, H0 fun z => by have := z.2.1; omega⟩, fun q2 => ?_⟩⟩
  have hd := jl_idm n nc (by omega) (by omega) hnc
  have hm := Nat.mod_lt n (show 0 < nc by omega)
  have hdl := Nat.div_le_self n nc
  have hd0 : (0 : Int) ≤ ((n / nc : Nat) : Int) := Int.natCast_nonneg _
  rw [hd.1, hd.2]
  refine ⟨by omega, by omega, by omega, fun q3 => ⟨by omega, by omega, by omega, fun q4 => ?_, fun q4 => ⟨_, rfl, H0 fun z => by have := z.2.2.2.1; omega⟩⟩, fun q3 => ⟨_, rfl, H0 fun z => by have := z.2.2.1; omega⟩⟩
  refine jl_loop (S := fun i => (∀ j, j < i → t j ≤ nco) → qm_W (qb_T L) (d + 1) 1401 36 [qm_P 9, qm_P 1, qm_I (nc : Int), qm_I nco, qm_I ((i : Nat) : Int)] [] μ (fun v μ' => ∃ r, v = some (.inl r) ∧ Q r μ')) n (fun i hi ih hp => ?_) (fun hp => ?_) (fun j hj => absurd hj (by omega))
  · refine b1401_9_36 μ _ _ _ _ ?_
    rw [h.1]
    have hb := hk.2 i hi
    refine ⟨by omega, by omega, fun q => absurd q (by omega), fun _ => js_1602 i h hk rfl hi ⟨by omega, by omega, fun q => ih fun j hj => ?_, fun q => ⟨_, rfl, H0 fun z => q (z.2.2.2.2 i hi)⟩⟩⟩
    by_cases hj2 : j = i
    · rw [hj2]; exact q
    · exact hp j (by omega)
  · refine b1401_9_36 μ _ _ _ _ ?_
    rw [h.1, hd.1]
    refine ⟨by omega, by omega, fun _ => ⟨by omega, by omega, ?_⟩, fun q => absurd (Int.le_refl _) q⟩
    have hS : jd_isst nc n nco t := ⟨by omega, by omega, by omega, by omega, hp⟩
    refine jl_loop (S := fun i => ∀ μ', jd_fr [9, 38] μ μ' → μ' 9 0 = ((n / nc : Nat) : Int) → (∀ j, j < i → μ' 38 (8 * (j / nc) + j % nc) = t j) → qm_W (qb_T L) (d + 1) 1401 76 [qm_P 9, qm_P 1, qm_I (nc : Int), qm_I nco, qm_I ((i : Nat) : Int)] [] μ' (fun v μ' => ∃ r, v = some (.inl r) ∧ Q r μ')) n (fun i hi ih μ' hf hr hj => ?_) (fun μ' hf hr hj => ?_) _ (jf_set (jf_refl _ _) rfl) (jl_ss _ _ _ _) (fun j hj => absurd hj (by omega))
    · have ht : jc_tape n t μ' := by unfold jc_tape; rw [hf 1 rfl, hf 14 rfl]; exact h
      refine b1401_9_76 μ' _ _ _ _ ?_
      have hd2 := jl_idm i nc (by omega) (by omega) hnc
      have hm2 := Nat.mod_lt i (show 0 < nc by omega)
      have hq0 : (0 : Int) ≤ ((i / nc : Nat) : Int) := Int.natCast_nonneg _
      have hq2 : i / nc ≤ n / nc := Nat.div_le_div_right (by omega)
      have hq3 : i / nc < n / nc := by
        refine Nat.lt_of_not_le fun z => ?_
        have e1 := Nat.div_add_mod i nc
        have e2 := Nat.div_add_mod n nc
        have e3 : nc * (n / nc) ≤ nc * (i / nc) := Nat.mul_le_mul_left nc z
        omega
      rw [ht.1, hd2.1, hd2.2]
      refine ⟨by omega, by omega, fun q => absurd q (by omega), fun _ => ⟨by omega, by omega, by omega, by omega, js_1602 i ht hk rfl hi ?_⟩⟩
      refine js_402i (8 * (i / nc) + i % nc) rfl (by decide) (by omega) (by omega) ?_
      refine ih _ (jf_set hf rfl) (by rw [jl_sn _ _ _ (by decide)]; exact hr) fun j hj2 => ?_
      by_cases hj3 : j = i
      · rw [hj3, jl_ss]
      · rw [jl_sk _ _ _ (fun z => hj3 (jl_ix (by omega) hnc z))]; exact hj j (by omega)
    · have ht : jc_tape n t μ' := by unfold jc_tape; rw [hf 1 rfl, hf 14 rfl]; exact h
      refine b1401_9_76 μ' _ _ _ _ ?_
      rw [ht.1]
      refine ⟨by omega, by omega, fun _ => ⟨_, rfl, H μ' hf hS ⟨hr, fun r c hr2 hc => ?_⟩⟩, fun q => absurd (Int.le_refl _) q⟩
      have h5 := jl_rc (n := nc) (r := r) hc
      have h6 := hj (nc * r + c) (jl_rcn (by omega) hr2 hc)
      rw [h5.1, h5.2] at h6
      exact h6
theorem js_2216 {b : Int} {nr : Nat} {lm lt sp ct s0 s1 np : Int} (h : jc_tape n t μ) (hk : jd_tok n t) (hnc : nc ≤ 8) (hco : 0 ≤ nco ∧ nco ≤ 6) (hN : jc_num nc nco np lm lt sp ct s0 s1 μ) (hb : b = 0 ∨ b = 1) (H8 : b = 0 → ∀ μ', jd_fr [1, 8, 37] μ μ' → jd_isst nc n nco t → μ' 1 1 = 0 → jc_st 8 37 nc (n / nc) (fun r c => t (nc * r + c)) μ' → Q ((n / nc : Nat) : Int) μ') (H9 : b = 1 → ∀ μ', jd_fr [1, 9, 38] μ μ' → jd_isst nc n nco t → μ' 1 1 = 0 → jc_st 9 38 nc (n / nc) (fun r c => t (nc * r + c)) μ' → Q ((n / nc : Nat) : Int) μ') (H0 : ∀ μ', jd_fr [1] μ μ' → ¬ jd_isst nc n nco t → μ' 1 1 = 0 → Q (-1) μ') : qm_CI (qb_T L) (d + 2) 2216 [qm_P 0, qm_I b] μ Q := by
  refine b2216_0 μ _ _ ?_
  rw [hN.1, hN.2.1]
  refine ⟨by omega, fun q => ?_, fun q => ?_⟩
  · refine js_1401_8 h hk hnc hco (fun μ' f hS hst => ⟨by decide, fun z => absurd z (by decide), fun _ => ⟨_, rfl, ?_⟩⟩) (fun hS => ⟨by decide, fun _ => ⟨_, rfl, ?_⟩, fun z => absurd rfl z⟩)
    · rw [hst.1]
      refine H8 q _ (jf_set (jf_sub f rfl) rfl) hS (jl_ss _ _ _ _) ⟨?_, fun r c hr hc => ?_⟩
      · rw [jl_sn _ _ _ (by decide)]; exact hst.1
      · rw [jl_sn _ _ _ (by decide)]; exact hst.2 r c hr hc
    · exact H0 _ (jf_set (jf_refl _ _) rfl) hS (jl_ss _ _ _ _)
  · refine js_1401_9 h hk hnc hco (fun μ' f hS hst => ⟨by decide, fun z => absurd z (by decide), fun _ => ⟨_, rfl, ?_⟩⟩) (fun hS => ⟨by decide, fun _ => ⟨_, rfl, ?_⟩, fun z => absurd rfl z⟩)
    · rw [hst.1]
      refine H9 (by omega) _ (jf_set (jf_sub f rfl) rfl) hS (jl_ss _ _ _ _) ⟨?_, fun r c hr hc => ?_⟩
      · rw [jl_sn _ _ _ (by decide)]; exact hst.1
      · rw [jl_sn _ _ _ (by decide)]; exact hst.2 r c hr hc
    · exact H0 _ (jf_set (jf_refl _ _) rfl) hS (jl_ss _ _ _ _)
theorem js_2468 {b : Nat} (h : jm_tape n t μ) (hk : jd_tok n t) (hnc : nc ≤ 8) (hco : 0 ≤ nco ∧ nco ≤ 6) (hN1 : μ 59 4 = (nc : Int)) (hN2 : μ 59 3 = nco) (hb : b = 0 ∨ b = 1) (H : ∀ μ', jd_fm [1] [69, 70] μ μ' → jd_isst nc n nco t → μ' 13 1 = 0 → jm_st b nc (n / nc) (fun r c => t (nc * r + c)) μ' → μ' 69 (1 - b) = μ 69 (1 - b) → (∀ k, k < 96 → μ' 70 (96 * (1 - b) + k) = μ 70 (96 * (1 - b) + k)) → Q ((n / nc : Nat) : Int) μ') (H0 : ∀ μ', jd_fm [1] [] μ μ' → ¬ jd_isst nc n nco t → μ' 13 1 = 0 → Q (-1) μ') : qm_CI (qb_T L) (d + 1) 2468 [qm_P 13, qm_I (b : Int)] μ Q := by
  have h1 := hk.1
  have f1 : jd_fm [1] [] μ (qm_set μ 13 1 0) := jg_f (jg_refl _ _ _) rfl
  have H0' : ¬ jd_isst nc n nco t → ∃ r, qm_I (-1) = some (.inl r) ∧ Q r (qm_set μ 13 1 0) := fun z => ⟨_, rfl, H0 _ f1 z (jl_ss _ _ _ _)⟩
  refine b2468_0 μ _ _ (b2436_0 _ _ ⟨_, rfl, ?_⟩)
  rw [h.1, f1.1 59 rfl rfl, hN1]
  refine ⟨by omega, fun q => H0' fun z => by have := z.1; omega, fun q => ⟨by omega, fun q2 => H0' fun z => by have := z.2.1; omega, fun q2 => ?_⟩⟩
  have hd := jl_idm n nc (by omega) (by omega) hnc
  have hm := Nat.mod_lt n (show 0 < nc by omega)
  have hdl := Nat.div_le_self n nc
  have hd0 : (0 : Int) ≤ ((n / nc : Nat) : Int) := Int.natCast_nonneg _
  rw [hd.1, hd.2]
  refine ⟨by omega, by omega, by omega, fun q3 => ⟨by omega, by omega, by omega, fun q4 => ?_, fun q4 => H0' fun z => by have := z.2.2.2.1; omega⟩, fun q3 => H0' fun z => by have := z.2.2.1; omega⟩
  have f1' : jd_fm [1] [69, 70] μ (qm_set μ 13 1 0) := jg_sub f1 rfl rfl
  have hz1 : (qm_set μ 13 1 0) 13 1 = 0 := jl_ss _ _ _ _
  have hz2 : ∀ k, (qm_set μ 13 1 0) 69 k = μ 69 k := fun k => by rw [jl_sn _ _ _ (by decide)]
  have hz3 : ∀ k, (qm_set μ 13 1 0) 70 k = μ 70 k := fun k => by rw [jl_sn _ _ _ (by decide)]
  generalize hμ : qm_set μ 13 1 0 = μ1 at f1 H0' f1' hz1 hz2 hz3 ⊢
  have t1 : ∀ i, i < n → μ1 46 i = t i := by rw [f1.1 46 rfl rfl]; exact h.2
  refine jl_loop (S := fun i => (∀ j, j < i → t j ≤ nco) → qm_W (qb_T L) (d + 1) 2468 42 [qm_P 13, qm_I (b : Int), qm_I (n : Int), qm_I (nc : Int), qm_I ((i : Nat) : Int), none] [] μ1 (fun v μ' => ∃ r, v = some (.inl r) ∧ Q r μ')) n (fun i hi ih hp => ?_) (fun hp => ?_) (fun j hj => absurd hj (by omega))
  · refine b2468_42 μ1 _ _ _ _ _ ⟨by omega, by omega, fun q => absurd q (by omega), fun _ => ⟨by omega, b2435_0 μ1 _ ⟨_, rfl, ?_⟩⟩⟩
    have hb := hk.2 i hi
    rw [Int.toNat_natCast, t1 i hi, f1.1 59 rfl rfl, hN2]
    refine ⟨by omega, by omega, fun q => ih fun j hj => ?_, fun q => H0' fun z => q (z.2.2.2.2 i hi)⟩
    by_cases hj2 : j = i
    · rw [hj2]; exact q
    · exact hp j (by omega)
  · have hS : jd_isst nc n nco t := ⟨by omega, by omega, by omega, by omega, hp⟩
    have go : qm_W (qb_T L) (d + 1) 2468 80 [qm_P 13, qm_I (b : Int), qm_I (n : Int), qm_I (nc : Int), qm_I ((n : Nat) : Int), none] [qm_I ((96 * b : Nat) : Int)] μ1 (fun v μ' => ∃ r, v = some (.inl r) ∧ Q r μ') := by
      refine b2468_80 μ1 _ _ _ _ _ _ ?_
      refine jl_loop (S := fun i => ∀ μ', jd_fm [1] [69, 70] μ μ' → μ' 13 1 = 0 → (∀ k, μ' 69 k = μ 69 k) → (∀ k, k < 96 → μ' 70 (96 * (1 - b) + k) = μ 70 (96 * (1 - b) + k)) → (∀ j, j < i → μ' 70 (96 * b + (8 * (j / nc) + j % nc)) = t j) → qm_W (qb_T L) (d + 1) 2468 85 [qm_P 13, qm_I (b : Int), qm_I (n : Int), qm_I (nc : Int), qm_I ((96 * b : Nat) : Int), qm_I ((i : Nat) : Int)] [] μ' (fun v μ' => ∃ r, v = some (.inl r) ∧ Q r μ')) n (fun i hi ih μ' hf hr0 hr1 hr2 hj => ?_) (fun μ' hf hr0 hr1 hr2 hj => ?_) μ1 f1' hz1 hz2 (fun k _ => hz3 _) (fun j hj => absurd hj (by omega))
      · have ht : ∀ i, i < n → μ' 46 i = t i := by rw [hf.1 46 rfl rfl]; exact h.2
        have hd2 := jl_idm i nc (by omega) (by omega) hnc
        have hm2 := Nat.mod_lt i (show 0 < nc by omega)
        have hq0 : (0 : Int) ≤ ((i / nc : Nat) : Int) := Int.natCast_nonneg _
        have hq2 : i / nc ≤ n / nc := Nat.div_le_div_right (by omega)
        have hq3 : i / nc < n / nc := by
          refine Nat.lt_of_not_le fun z => ?_
          have e1 := Nat.div_add_mod i nc
          have e2 := Nat.div_add_mod n nc
          have e3 : nc * (n / nc) ≤ nc * (i / nc) := Nat.mul_le_mul_left nc z
          omega
        refine b2468_85 μ' _ _ _ _ _ _ ?_
        rw [hd2.1, hd2.2, Int.toNat_natCast, ht i hi, show (((96 * b : Nat) : Int) + 8 * ((i / nc : Nat) : Int) + ((i % nc : Nat) : Int)).toNat = 96 * b + (8 * (i / nc) + i % nc) by omega]
        refine ⟨by omega, by omega, fun q => absurd q (by omega), fun _ => ⟨by omega, by omega, by omega, by omega, by omega, by omega, ?_⟩⟩
        refine ih _ (jg_c hf rfl rfl) (by rw [jl_sn _ _ _ (by decide)]; exact hr0) (fun k => by rw [jl_sn _ _ _ (by decide)]; exact hr1 k) (fun k hk2 => by rw [jl_sk _ _ _ (by omega)]; exact hr2 k hk2) fun j hj2 => ?_
        by_cases hj3 : j = i
        · rw [hj3, jl_ss]
        · rw [jl_sk _ _ _ (fun z => hj3 (jl_ix (by omega) hnc (by omega)))]; exact hj j (by omega)
      · have go2 : qm_W (qb_T L) (d + 1) 2468 137 [qm_P 13, qm_I (b : Int), qm_I (n : Int), qm_I (nc : Int), qm_I ((96 * b : Nat) : Int), qm_I ((n : Nat) : Int)] [qm_I (b : Int), qm_P 69] μ' (fun v μ' => ∃ r, v = some (.inl r) ∧ Q r μ') := by
          refine b2468_137 μ' _ _ _ _ _ _ _ ?_
          rw [hd.1, Int.toNat_natCast]
          refine ⟨by omega, by omega, by omega, by omega, by omega, _, rfl, ?_⟩
          refine H _ (jg_c hf rfl rfl) hS (by rw [jl_sn _ _ _ (by decide)]; exact hr0) ⟨jl_ss _ _ _ _, fun r c hr3 hc => ?_⟩ ?_ (fun k hk2 => by rw [jl_sn _ _ _ (by decide)]; exact hr2 k hk2)
          · rw [jl_sn _ _ _ (by decide)]
            have h5 := jl_rc (n := nc) (r := r) hc
            have h6 := hj (nc * r + c) (jl_rcn (by omega) hr3 hc)
            rw [h5.1, h5.2] at h6
            rw [Nat.add_assoc]
            exact h6
          · rw [jl_sk _ _ _ (by omega)]; exact hr1 _
        refine b2468_85 μ' _ _ _ _ _ _ ⟨by omega, by omega, fun _ => ⟨by omega, fun z => ?_, fun z => ?_⟩, fun q => absurd (Int.le_refl _) q⟩
        · obtain rfl : b = 0 := by omega
          exact go2
        · obtain rfl : b = 1 := by omega
          exact go2
    refine b2468_42 μ1 _ _ _ _ _ ⟨by omega, by omega, fun _ => ⟨by omega, fun z => ?_, fun z => ?_⟩, fun q => absurd (Int.le_refl _) q⟩
    · obtain rfl : b = 0 := by omega
      exact go
    · obtain rfl : b = 1 := by omega
      exact go
end
