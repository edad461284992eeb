/-! ===== an image brought ===== -/
def jd_oib (nc : Nat) (t : Nat → Int) (m : Nat) : jd_B := (m, (fun c => t (1 + 5 * c)), (fun c k => t (2 + 5 * c + k)), jd_Tt nc t)
section
variable {L d nc n ct : Nat} {lm nco : Int} {t o : Nat → Int} {st : Nat → jd_B} {b : jd_B} {μ : qm_M} {Q : Int → qm_M → Prop} {V : qm_M → Prop}
theorem jl_tfr {μ' : qm_M} (hT : jc_tape n t μ) (h1 : μ' 1 = μ 1) (h14 : μ' 14 = μ 14) : jc_tape n t μ' := by
  unfold jc_tape at *
  rw [h1, h14]; exact hT
theorem js_609 (hB : jc_bb nc lm b μ) (hO : jd_okb nc lm b) (hT : jc_tape n t μ) (hk : jd_tok n t) (hco : nco ≤ 6) (hi : jd_ison nc n nco lm t) (H : ∀ μ', jd_fr [6, 31, 32, 33, 34] μ μ' → jc_bb nc lm (jd_oib nc t (t 0).toNat) μ' → V μ') : qm_CV (qb_T L) (d + 3) 609 [qm_P 1, qm_P 6] μ V := by
  have h1 := hO.1
  have hok := jl_onok hO hco hk hi
  obtain ⟨h0, h60, hn, -, h4, h5⟩ := hi
  obtain ⟨e1, e2, e3⟩ := jl_isn hk h0 h60 hn
  refine b609_0 μ _ ?_
  refine jl_loop (S := fun c => ∀ μ' w, jd_fr [31, 32] μ μ' → (∀ c', c' < c → μ' 31 c' = t (1 + 5 * c')) → (∀ c' k, c' < c → k < 4 → μ' 32 (4 * c' + k) = t (2 + 5 * c' + k)) → qm_W (qb_T L) (d + 3) 609 2 [qm_P 1, qm_P 6, qm_I ((c : Nat) : Int), w, none] [] μ' (fun v μ' => v = none ∧ V μ')) nc (fun c hc ih μ' w hf g1 g2 => ?_) (fun μ' w hf g1 g2 => ?_) μ none (jf_refl _ _) (fun c' hc' => absurd hc' (by omega)) (fun c' k hc' _ => absurd hc' (by omega))
  · refine b609_2 μ' _ _ _ ?_
    rw [hf 6 rfl, hB.1]
    refine ⟨by omega, by omega, fun q => absurd q (by omega), fun _ => js_1602 (1 + 5 * c) (jl_tfr hT (hf 1 rfl) (hf 14 rfl)) hk (by omega) (by omega) (b208_0 μ' _ _ _ (js_402i c rfl (by decide) rfl (by omega) ⟨rfl, ?_⟩))⟩
    refine jl_loop (S := fun k => ∀ μ', jd_fr [31, 32] μ μ' → (∀ c', c' < c + 1 → μ' 31 c' = t (1 + 5 * c')) → (∀ c' k, c' < c → k < 4 → μ' 32 (4 * c' + k) = t (2 + 5 * c' + k)) → (∀ k', k' < k → μ' 32 (4 * c + k') = t (2 + 5 * c + k')) → qm_W (qb_T L) (d + 3) 609 26 [qm_P 1, qm_P 6, qm_I ((c : Nat) : Int), qm_I ((k : Nat) : Int), none] [] μ' (fun v μ' => v = none ∧ V μ')) 4 (fun k hk4 ih2 μ' hf g1 g2 g3 => ?_) (fun μ' hf g1 g2 g3 => ?_) _ (jf_set hf rfl) (fun c' hc' => ?_) (fun c' k hc' hk' => by rw [jl_sn _ _ _ (by decide)]; exact g2 c' k hc' hk') (fun k' hk' => absurd hk' (by omega))
    · refine b609_26 μ' _ _ _ ⟨by omega, fun q => absurd q (by omega), fun _ => js_1602 (2 + 5 * c + k) (jl_tfr hT (hf 1 rfl) (hf 14 rfl)) hk (by omega) (by omega) (b211_0 μ' _ _ _ _ ?_)⟩
      rw [qa_and3]
      refine js_402i (4 * c + k) rfl (by decide) (by omega) (by omega) ⟨rfl, ih2 _ (jf_set hf rfl) (fun c' hc' => by rw [jl_sn _ _ _ (by decide)]; exact g1 c' hc') (fun c' k' hc' hk' => by rw [jl_sk _ _ _ (by omega)]; exact g2 c' k' hc' hk') fun k' hk' => ?_⟩
      by_cases q : k' = k
      · rw [q, jl_ss]
      · rw [jl_sk _ _ _ (by omega)]; exact g3 k' (by omega)
    · refine b609_26 μ' _ _ _ ⟨by decide, fun _ => ih μ' _ hf g1 fun c' k hc' hk' => ?_, fun q => absurd (by decide) q⟩
      by_cases q : c' = c
      · rw [q]; exact g3 k hk'
      · exact g2 c' k (by omega) hk'
    · by_cases q : c' = c
      · rw [q, jl_ss]
      · rw [jl_sk _ _ _ q]; exact g1 c' (by omega)
  · refine b609_2 μ' _ _ _ ?_
    rw [hf 6 rfl, hB.1]
    refine ⟨by omega, by omega, fun _ => ?_, fun q => absurd (Int.le_refl _) q⟩
    have hb0 : jc_bb nc lm (jd_oib nc t 0) (qm_set μ' 6 1 0) := by
      refine ⟨?_, jl_ss _ _ _ _, ?_, ?_, ?_, fun r c hr _ => absurd hr (Nat.not_lt_zero _), fun r hr => absurd hr (Nat.not_lt_zero _), fun r c hr _ => absurd hr (Nat.not_lt_zero _)⟩
      · rw [jl_sk _ _ _ (by decide), hf 6 rfl]; exact hB.1
      · rw [jl_sk _ _ _ (by decide), hf 6 rfl]; exact hB.2.2.1
      · rw [jl_sn _ _ _ (by decide)]; exact g1
      · rw [jl_sn _ _ _ (by decide)]; exact g2
    refine jl_loop (S := fun m => ∀ μ' w w2, jd_fr [6, 31, 32, 33, 34] μ μ' → jc_bb nc lm (jd_oib nc t m) μ' → qm_W (qb_T L) (d + 3) 609 67 [qm_P 1, qm_P 6, qm_I ((m : Nat) : Int), w, w2] [] μ' (fun v μ' => v = none ∧ V μ')) (t 0).toNat (fun m hm ih μ' w w2 hf hb => ?_) (fun μ' w w2 hf hb => ?_) _ w none (jf_set (jf_sub hf rfl) rfl) hb0
    · have hT' := jl_tfr hT (hf 1 rfl) (hf 14 rfl)
      have hT0 := hk.2 0 h0
      refine b609_67 μ' _ _ _ _ (js_1602 0 hT' hk rfl h0 ⟨by omega, by omega, fun q => absurd q (by omega), fun _ => ?_⟩)
      have hu : ∀ c, c < nc → 0 ≤ jd_Tt nc t m c ∧ jd_Tt nc t m c ≤ 2 := fun c hc => (hok (m + 1) (by omega)).2.2.2.2.2.1 m c (by omega) hc
      refine jl_loop (S := fun c => qm_W (qb_T L) (d + 3) 609 81 [qm_P 1, qm_P 6, qm_I ((m : Nat) : Int), qm_I (jd_n4 (fun c => jd_Tt nc t m c) c), qm_I ((c : Nat) : Int)] [] μ' (fun v μ' => v = none ∧ V μ')) nc (fun c hc ih2 => ?_) ?_
      · have hlt := jl_rc2 hm hc
        have hb1 := jl_n4b c (u := fun c => jd_Tt nc t m c) (fun c' hc' => by have := hu c' (by omega); omega)
        have hb2 := jl_n4b (c + 1) (u := fun c => jd_Tt nc t m c) (fun c' hc' => by have := hu c' (by omega); omega)
        have hb3 := jl_p16 (n := c + 1) (by omega)
        have hp0 := jl_p0 (2 * c)
        have huc := hu c hc
        refine b609_81 μ' _ _ _ _ ?_
        rw [hb.1]
        refine ⟨by omega, by omega, fun q => absurd q (by omega), fun _ => js_607 hT' hk (by omega) ?_⟩
        have e4 : jd_n4 (fun c => jd_Tt nc t m c) (c + 1) = jd_n4 (fun c => jd_Tt nc t m c) c + jd_Tt nc t m c * ((2 ^ (2 * c) : Nat) : Int) := rfl
        rw [show (2 : Int) * ((c : Nat) : Int) = ((2 * c : Nat) : Int) by omega, qa_shl huc.1 (by omega) (by omega), jl_or_comm, qa_or_add hb1.1 hb1.2 (Int.mul_nonneg huc.1 (by omega)) (Int.dvd_mul_left _ _) (by omega), Int.add_comm, ← e4]
        exact ih2
      · refine b609_81 μ' _ _ _ _ ?_
        rw [hb.1]
        refine ⟨by omega, by omega, fun _ => ?_, fun q => absurd (Int.le_refl _) q⟩
        have hb1 := jl_n4b nc (u := fun c => jd_Tt nc t m c) (fun c' hc' => by have := hu c' (by omega); omega)
        have hd1 := jl_n4d nc (u := fun c => jd_Tt nc t m c) (fun c' hc' => by have := hu c' (by omega); omega)
        have hcan : jd_can nc m lm (jd_Tt nc t) (fun c => jd_Tt nc t m c) := fun c hc => (hok (m + 1) (by omega)).2.2.2.2.2.2 (m + 1) c (Nat.le_refl _) hc
        refine js_202 (u := fun c => jd_Tt nc t m c) hb (hok m (by omega)) hb1 (fun c hc => ⟨hd1 c hc, (hu c hc).2⟩) (fun μ2 f2 _ _ hb2 => ih μ2 _ _ (jf_trans hf (jf_sub f2 rfl)) ?_) (fun μ2 f2 hno _ => absurd ⟨show m < 60 by omega, hcan⟩ hno)
        have e5 : jd_ap (jd_Tt nc t) m (fun c => jd_Tt nc t m c) = jd_Tt nc t := by
          funext r c
          unfold jd_ap
          split
          · rename_i q; rw [q]
          · rfl
        rw [show (jd_oib nc t m).2.2.2 = jd_Tt nc t from rfl, show (jd_oib nc t m).1 = m from rfl, e5] at hb2
        exact hb2
    · have hT' := jl_tfr hT (hf 1 rfl) (hf 14 rfl)
      have hT0 := hk.2 0 h0
      exact b609_67 μ' _ _ _ _ (js_1602 0 hT' hk rfl h0 ⟨by omega, by omega, fun _ => ⟨rfl, H μ' hf hb⟩, fun q => absurd (by omega) q⟩)
theorem js_2228 (hB : jc_bb nc lm b μ) (hO : jd_okb nc lm b) (hT : jc_tape n t μ) (hk : jd_tok n t) (h31 : μ 3 1 = nco) (hco : 0 ≤ nco ∧ nco ≤ 6) (H1 : jd_ison nc n nco lm t → ∀ μ', jd_fr [1, 6, 7, 31, 32, 33, 34] μ μ' → jc_bb nc lm (jd_oib nc t (t 0).toNat) μ' → μ' 1 1 = 0 → μ' 7 3 = 0 → Q 1 μ') (H0 : ¬ jd_ison nc n nco lm t → ∀ μ', jd_fr [1] μ μ' → μ' 1 1 = 0 → Q 0 μ') : qm_CI (qb_T L) (d + 4) 2228 [qm_P 0] μ Q := by
  refine b2228_0 μ _ ?_
  rw [h31]
  refine js_605 hB hO hT hk hco (fun hi => ⟨by decide, fun q => absurd q (by decide), fun _ => js_609 hB hO hT hk hco.2 hi fun μ1 f1 hb => b2228_42 _ _ _ ⟨Or.inr rfl, _, rfl, H1 hi _ (jf_set (jf_set (jf_sub f1 rfl) rfl) rfl) (jl_cbf hb ?_ ?_ ?_ ?_ ?_) (jl_ss _ _ _ _) ?_⟩⟩) (fun hi => ⟨by decide, fun _ => b2228_42 _ _ _ ⟨Or.inl rfl, _, rfl, H0 hi _ (jf_set (jf_refl _ _) rfl) (jl_ss _ _ _ _)⟩, fun q => absurd rfl q⟩)
  · rw [jl_sn _ _ _ (by decide), jl_sn _ _ _ (by decide)]
  · rw [jl_sn _ _ _ (by decide), jl_sn _ _ _ (by decide)]
  · rw [jl_sn _ _ _ (by decide), jl_sn _ _ _ (by decide)]
  · rw [jl_sn _ _ _ (by decide), jl_sn _ _ _ (by decide)]
  · rw [jl_sn _ _ _ (by decide), jl_sn _ _ _ (by decide)]
  · rw [jl_sn _ _ _ (by decide), jl_ss]
/-! the reference's -/
theorem js_2524 (hM : jm_bb nc lm b μ) (hO : jd_okb nc lm b) (hT : ∀ i, i < n → μ 46 i = t i) (hk : jd_tok n t) (h31 : μ 59 3 = nco) (hco : 0 ≤ nco ∧ nco ≤ 6) (H1 : jd_ison nc n nco lm t → Q 1 μ) (H0 : ¬ jd_ison nc n nco lm t → Q 0 μ) : qm_CI (qb_T L) (d + 1) 2524 [qm_P 13, qm_I (n : Int)] μ Q := by
  have h1 := hO.1
  have hnb := hk.1
  have hlm := hO.2.2.1
  refine b2524_0 μ _ _ (js_2436 hM ⟨by omega, by omega, fun y => ⟨_, rfl, H0 fun z => ?_⟩, fun y => ?_⟩)
  · obtain ⟨e1, _, _⟩ := jl_isn hk z.1 z.2.1 z.2.2.1; omega
  have h0 : 0 < n := by omega
  have hb0 := hk.2 0 h0
  rw [hT 0 h0]
  have hmul : 0 ≤ t 0 * (nc : Int) ∧ (t 0 ≤ 60 → t 0 * (nc : Int) ≤ 60 * 8) := ⟨Int.mul_nonneg hb0.1 (by omega), fun z => Int.mul_le_mul z (by omega) (by omega) (by omega)⟩
  refine ⟨by omega, fun y2 => ⟨_, rfl, H0 fun z => by have := z.2.1; omega⟩, fun y2 => ⟨by omega, by have := hmul.2 (by omega); omega, fun y3 => ⟨by omega, ?_⟩, fun y3 => ⟨_, rfl, H0 fun z => y3 z.2.2.1⟩⟩⟩
  obtain ⟨e1, e2, e3⟩ := jl_isn hk h0 (by omega) y3
  have hbl := hk.2 (n - 1) (by omega)
  have hck := jl_ck t (n - 1)
  refine js_2521 (n := n - 1) (o := t) rfl (by decide) (by omega) (by omega) (fun i hi => ⟨hT i (by omega), hk.2 i (by omega)⟩) ?_
  rw [show ((n : Int) - 1).toNat = n - 1 by omega, hT (n - 1) (by omega)]
  refine ⟨by omega, by omega, fun y4 => ?_, fun y4 => ⟨_, rfl, H0 fun z => y4 z.2.2.2.1.symm⟩⟩
  refine jl_loop (S := fun k => (∀ k', k' < k → t (1 + k') < (if k' % 5 = 0 then 2 else nco)) → qm_W (qb_T L) (d + 1) 2524 68 [qm_P 13, qm_I (n : Int), qm_I (nc : Int), qm_I ((k : Nat) : Int), none, none, none] [] μ (fun v μ' => ∃ r, v = some (.inl r) ∧ Q r μ')) (5 * nc) (fun k hk5 ih hp => ?_) (fun hp => ?_) (fun k' hk' => absurd hk' (by omega))
  · have hbk := hk.2 (1 + k) (by omega)
    have no : ¬ t (1 + k) < (if k % 5 = 0 then 2 else nco) → ¬ jd_ison nc n nco lm t := fun z x => by
      have := x.2.2.2.2.1 (k / 5) (by omega)
      by_cases q : k % 5 = 0
      · rw [if_pos q] at z
        have h9 := this.1
        rw [show 1 + 5 * (k / 5) = 1 + k by omega] at h9
        omega
      · rw [if_neg q] at z
        have h9 := this.2 (k % 5 - 1) (by omega)
        rw [show 2 + 5 * (k / 5) + (k % 5 - 1) = 1 + k by omega] at h9
        exact z h9
    have nx : t (1 + k) < (if k % 5 = 0 then 2 else nco) → qm_W (qb_T L) (d + 1) 2524 68 [qm_P 13, qm_I (n : Int), qm_I (nc : Int), qm_I ((k : Int) + 1), none, none, none] [] μ (fun v μ' => ∃ r, v = some (.inl r) ∧ Q r μ') := fun z => ih fun k' hk' => by
      by_cases q : k' = k
      · rw [q]; exact z
      · exact hp k' (by omega)
    refine b2524_68 μ _ _ _ _ ?_
    rw [show (1 + (k : Int)).toNat = 1 + k by omega, hT (1 + k) (by omega), qa_rem (by omega) (by omega) (by decide) (by decide)]
    refine ⟨by omega, by omega, fun q => absurd q (by omega), fun _ => ⟨by omega, by omega, fun y5 => b2524_97 μ _ _ _ _ _ _ ⟨by omega, by omega, fun y6 => nx ?_, fun y6 => ⟨_, rfl, H0 (no ?_)⟩⟩, fun y5 => b2435_0 μ _ ⟨_, rfl, ?_⟩⟩⟩
    · rw [if_pos (by omega)]; exact y6
    · rw [if_pos (by omega)]; exact y6
    · rw [h31]
      refine b2524_97 μ _ _ _ _ _ _ ⟨by omega, by omega, fun y6 => nx ?_, fun y6 => ⟨_, rfl, H0 (no ?_)⟩⟩
      · rw [if_neg (by omega)]; exact y6
      · rw [if_neg (by omega)]; exact y6
  · have hcards : ∀ c, c < nc → t (1 + 5 * c) ≤ 1 ∧ ∀ k, k < 4 → t (2 + 5 * c + k) < nco := fun c hc => by
      refine ⟨?_, fun k hk4 => ?_⟩
      · have := hp (5 * c) (by omega)
        rw [if_pos (by omega)] at this; omega
      · have := hp (5 * c + 1 + k) (by omega)
        rw [if_neg (by omega), show 1 + (5 * c + 1 + k) = 2 + 5 * c + k by omega] at this; exact this
    refine b2524_68 μ _ _ _ _ ⟨by omega, by omega, fun _ => ?_, fun q => absurd (by omega) q⟩
    refine jl_loop (S := fun c => ∀ w4 w5 w6, (∀ c', c' < c → ∀ r, r < (t 0).toNat → jd_Tt nc t r c' ≤ 2 ∧ -lm ≤ jd_tw (fun i => jd_Tt nc t i c') (r + 1) ∧ jd_tw (fun i => jd_Tt nc t i c') (r + 1) ≤ lm) → qm_W (qb_T L) (d + 1) 2524 110 [qm_P 13, qm_I (n : Int), qm_I (nc : Int), qm_I ((c : Nat) : Int), w4, w5, w6] [] μ (fun v μ' => ∃ r, v = some (.inl r) ∧ Q r μ')) nc (fun c hc ih w4 w5 w6 hq => ?_) (fun w4 w5 w6 hq => ?_) none none none (fun c' hc' => absurd hc' (by omega))
    · have hlmm : μ 63 1 = lm := by
        rcases hM.2.2.1 with y | y
        · exact y
        · omega
      refine b2524_110 μ _ _ _ _ _ _ _ ⟨by omega, by omega, fun q => absurd q (by omega), fun _ => ?_⟩
      refine jl_loop (S := fun r => ∀ w6, (∀ r', r' < r → jd_Tt nc t r' c ≤ 2 ∧ -lm ≤ jd_tw (fun i => jd_Tt nc t i c) (r' + 1) ∧ jd_tw (fun i => jd_Tt nc t i c) (r' + 1) ≤ lm) → qm_W (qb_T L) (d + 1) 2524 121 [qm_P 13, qm_I (n : Int), qm_I (nc : Int), qm_I ((c : Nat) : Int), qm_I (jd_tw (fun i => jd_Tt nc t i c) r), qm_I ((r : Nat) : Int), w6] [] μ (fun v μ' => ∃ r, v = some (.inl r) ∧ Q r μ')) (t 0).toNat (fun r hr ih2 w6 hp2 => ?_) (fun w6 hp2 => ?_) w6 (fun r' hr' => absurd hr' (by omega))
      · have hlt := jl_rc2 hr hc
        have hb := hk.2 (1 + 5 * nc + nc * r + c) (by omega)
        have htb := jl_twb (fun i => jd_Tt nc t i c) (r + 1)
        have em : (nc : Int) * (r : Int) = ((nc * r : Nat) : Int) := (Int.natCast_mul nc r).symm
        refine b2524_121 μ _ _ _ _ _ _ _ ?_
        rw [hT 0 h0, em, show (1 + 5 * (nc : Int) + ((nc * r : Nat) : Int) + (c : Int)).toNat = 1 + 5 * nc + nc * r + c by omega, hT _ (by omega)]
        refine ⟨by omega, by omega, fun q => absurd q (by omega), fun _ => ⟨by omega, js_2440 (by omega) ⟨by omega, fun y5 => ⟨_, rfl, H0 fun z => ?_⟩, fun y5 => ?_⟩⟩⟩
        · have := (z.2.2.2.2.2 c hc r hr).1
          unfold jd_Tt at this; omega
        · have e4 : jd_tw (fun i => jd_Tt nc t i c) r + jd_mv (t (1 + 5 * nc + nc * r + c)) = jd_tw (fun i => jd_Tt nc t i c) (r + 1) := rfl
          rw [e4]
          refine js_2443 (by omega) ?_
          rw [hlmm]
          have ea : jd_abs (jd_tw (fun i => jd_Tt nc t i c) (r + 1)) ≤ lm ↔ -lm ≤ jd_tw (fun i => jd_Tt nc t i c) (r + 1) ∧ jd_tw (fun i => jd_Tt nc t i c) (r + 1) ≤ lm := by unfold jd_abs; split <;> omega
          refine ⟨by unfold jd_abs; split <;> omega, by omega, fun y6 => ih2 _ fun r' hr' => ?_, fun y6 => ⟨_, rfl, H0 fun z => y6 (ea.mpr (z.2.2.2.2.2 c hc r hr).2)⟩⟩
          by_cases q : r' = r
          · rw [q]; exact ⟨by unfold jd_Tt; omega, ea.mp y6⟩
          · exact hp2 r' (by omega)
      · refine b2524_121 μ _ _ _ _ _ _ _ ?_
        rw [hT 0 h0]
        refine ⟨by omega, by omega, fun _ => ih _ _ _ fun c' hc' => ?_, fun q => absurd (by omega) q⟩
        by_cases q : c' = c
        · rw [q]; exact hp2
        · exact hq c' (by omega)
    · exact b2524_110 μ _ _ _ _ _ _ _ ⟨by omega, by omega, fun _ => ⟨_, rfl, H1 ⟨h0, by omega, y3, y4.symm, hcards, hq⟩⟩, fun q => absurd (Int.le_refl _) q⟩
theorem js_2525 (hM : jm_bb nc lm b μ) (hO : jd_okb nc lm b) (hT : jm_tape n t μ) (hk : jd_tok n t) (h31 : μ 59 3 = nco) (hco : 0 ≤ nco ∧ nco ≤ 6) (H1 : jd_ison nc n nco lm t → ∀ μ', jd_fm [1, 37, 39] [61, 67] μ μ' → jm_bb nc lm (jd_oib nc t (t 0).toNat) μ' → μ' 13 1 = 0 → μ' 13 39 = 0 → (∀ k, k < 40 → μ' 61 k = μ 61 k) → Q 1 μ') (H0 : ¬ jd_ison nc n nco lm t → ∀ μ', jd_fm [1] [] μ μ' → μ' 13 1 = 0 → Q 0 μ') : qm_CI (qb_T L) (d + 2) 2525 [qm_P 13] μ Q := by
  have h1 := hO.1
  have hnb := hk.1
  refine b2525_0 μ _ ?_
  rw [hT.1]
  have f0 : jd_fm [1] [] μ (qm_set μ 13 1 0) := jg_f (jg_refl _ _ _) rfl
  have g0 : (qm_set μ 13 1 0) 13 1 = 0 := jl_ss _ _ _ _
  generalize qm_set μ 13 1 0 = μ1 at f0 g0 ⊢
  have hM1 : jm_bb nc lm b μ1 := jl_mbf hM (by rw [f0.1 59 rfl rfl]) (f0.2 37 rfl) (by rw [f0.1 63 rfl rfl]) (fun k _ => by rw [f0.1 61 rfl rfl]) (f0.1 67 rfl rfl)
  have hT1 : ∀ i, i < n → μ1 46 i = t i := by rw [f0.1 46 rfl rfl]; exact hT.2
  refine js_2524 hM1 hO hT1 hk (by rw [f0.1 59 rfl rfl]; exact h31) hco (fun hi => ⟨by decide, fun q => absurd q (by decide), fun _ => js_2436 hM1 ?_⟩) (fun hi => ⟨by decide, fun _ => ⟨_, rfl, H0 hi μ1 f0 g0⟩, fun q => absurd rfl q⟩)
  obtain ⟨h0, h60, hn, -, -, -⟩ := id hi
  obtain ⟨e1, e2, e3⟩ := jl_isn hk h0 h60 hn
  have hb0 := hk.2 0 h0
  rw [hT1 0 h0]
  have f1 : jd_fm [1, 37, 39] [61, 67] μ (qm_set μ1 13 37 (t 0)) := jg_f (jg_sub f0 rfl rfl) rfl
  refine jl_loop (S := fun k => ∀ μ', jd_fm [1, 37, 39] [61, 67] μ μ' → μ' 13 1 = 0 → μ' 13 37 = t 0 → μ' 67 = μ 67 → (∀ k', k' < 40 → μ' 61 k' = μ 61 k') → (∀ k', k' < k → μ' 61 (40 + k') = t (1 + k')) → qm_W (qb_T L) (d + 2) 2525 37 [qm_P 13, qm_I (n : Int), qm_I (nc : Int), qm_I ((k : Nat) : Int), none] [] μ' (fun v μ' => ∃ r, v = some (.inl r) ∧ Q r μ')) (5 * nc) (fun k hk5 ih μ' hf a1 a2 a3 a4 a5 => ?_) (fun μ' hf a1 a2 a3 a4 a5 => ?_) _ f1 (by rw [jl_sk _ _ _ (by decide)]; exact g0) (jl_ss _ _ _ _) (by rw [jl_sn _ _ _ (by decide), f0.1 67 rfl rfl]) (fun k' _ => by rw [jl_sn _ _ _ (by decide), f0.1 61 rfl rfl]) (fun k' hk' => absurd hk' (by omega))
  · refine b2525_37 μ' _ _ _ _ ⟨by omega, by omega, fun q => absurd q (by omega), fun _ => ⟨by omega, by omega, ?_⟩⟩
    rw [show (1 + (k : Int)).toNat = 1 + k by omega, show (40 + (k : Int)).toNat = 40 + k by omega, hf.1 46 rfl rfl, hT.2 (1 + k) (by omega)]
    refine ih _ (jg_c hf rfl rfl) (by rw [jl_sn _ _ _ (by decide)]; exact a1) (by rw [jl_sn _ _ _ (by decide)]; exact a2) (by rw [jl_sn _ _ _ (by decide)]; exact a3) (fun k' hk' => by rw [jl_sk _ _ _ (by omega)]; exact a4 k' hk') fun k' hk' => ?_
    by_cases q : k' = k
    · rw [q, jl_ss]
    · rw [jl_sk _ _ _ (by omega)]; exact a5 k' (by omega)
  · refine b2525_37 μ' _ _ _ _ ⟨by omega, by omega, fun _ => ?_, fun q => absurd (by omega) q⟩
    refine jl_loop (S := fun r => ∀ μ' w, jd_fm [1, 37, 39] [61, 67] μ μ' → μ' 13 1 = 0 → μ' 13 37 = t 0 → (∀ k', k' < 40 → μ' 61 k' = μ 61 k') → (∀ k', k' < 5 * nc → μ' 61 (40 + k') = t (1 + k')) → (∀ r' c, r' < r → c < nc → μ' 67 (8 * r' + c) = jd_Tt nc t r' c) → qm_W (qb_T L) (d + 2) 2525 69 [qm_P 13, qm_I (n : Int), qm_I (nc : Int), qm_I ((r : Nat) : Int), w] [] μ' (fun v μ' => ∃ r, v = some (.inl r) ∧ Q r μ')) (t 0).toNat (fun r hr ih μ' w hf a1 a2 a4 a5 a6 => ?_) (fun μ' w hf a1 a2 a4 a5 a6 => ?_) μ' none hf a1 a2 a4 a5 (fun r' c hr' _ => absurd hr' (by omega))
    · refine b2525_69 μ' _ _ _ _ _ ?_
      rw [a2]
      refine ⟨by omega, by omega, fun q => absurd q (by omega), fun _ => ?_⟩
      refine jl_loop (S := fun c => ∀ μ', jd_fm [1, 37, 39] [61, 67] μ μ' → μ' 13 1 = 0 → μ' 13 37 = t 0 → (∀ k', k' < 40 → μ' 61 k' = μ 61 k') → (∀ k', k' < 5 * nc → μ' 61 (40 + k') = t (1 + k')) → (∀ r' c, r' < r → c < nc → μ' 67 (8 * r' + c) = jd_Tt nc t r' c) → (∀ c', c' < c → μ' 67 (8 * r + c') = jd_Tt nc t r c') → qm_W (qb_T L) (d + 2) 2525 80 [qm_P 13, qm_I (n : Int), qm_I (nc : Int), qm_I ((r : Nat) : Int), qm_I ((c : Nat) : Int)] [] μ' (fun v μ' => ∃ r, v = some (.inl r) ∧ Q r μ')) nc (fun c hc ih2 μ' hf a1 a2 a4 a5 a6 a7 => ?_) (fun μ' hf a1 a2 a4 a5 a6 a7 => ?_) μ' hf a1 a2 a4 a5 a6 (fun c' hc' => absurd hc' (by omega))
      · have hlt := jl_rc2 hr hc
        have em : (nc : Int) * (r : Int) = ((nc * r : Nat) : Int) := (Int.natCast_mul nc r).symm
        refine b2525_80 μ' _ _ _ _ _ ⟨by omega, by omega, fun q => absurd q (by omega), fun _ => ?_⟩
        rw [em, show (1 + 5 * (nc : Int) + ((nc * r : Nat) : Int) + (c : Int)).toNat = 1 + 5 * nc + nc * r + c by omega, show ((8 * (r : Int)) + (c : Int)).toNat = 8 * r + c by omega, hf.1 46 rfl rfl, hT.2 _ (by omega)]
        refine ⟨by omega, by omega, ih2 _ (jg_c hf rfl rfl) (by rw [jl_sn _ _ _ (by decide)]; exact a1) (by rw [jl_sn _ _ _ (by decide)]; exact a2) (by rw [jl_sn _ _ _ (by decide)]; exact a4) (by rw [jl_sn _ _ _ (by decide)]; exact a5) (fun r' c' hr' hc' => by rw [jl_sk _ _ _ (by omega)]; exact a6 r' c' hr' hc') fun c' hc' => ?_⟩
        by_cases q : c' = c
        · rw [q, jl_ss]; rfl
        · rw [jl_sk _ _ _ (by omega)]; exact a7 c' (by omega)
      · refine b2525_80 μ' _ _ _ _ _ ⟨by omega, by omega, fun _ => ih μ' _ hf a1 a2 a4 a5 fun r' c hr' hc => ?_, fun q => absurd (Int.le_refl _) q⟩
        by_cases q : r' = r
        · rw [q]; exact a7 c hc
        · exact a6 r' c (by omega) hc
    · refine b2525_69 μ' _ _ _ _ _ ?_
      rw [a2]
      refine ⟨by omega, by omega, fun _ => ⟨_, rfl, ?_⟩, fun q => absurd (by omega) q⟩
      have ff := jg_f (k := 39) (z := 0) hf rfl
      refine H1 hi _ ff ⟨?_, ?_, ?_, fun c hc => ?_, fun c k hc hk4 => ?_, ?_⟩ (by rw [jl_sk _ _ _ (by decide)]; exact a1) (jl_ss _ _ _ _) (fun k hk => by rw [jl_sn _ _ _ (by decide)]; exact a4 k hk)
      · rw [ff.1 59 rfl rfl]; exact hM.1
      · rw [jl_sk _ _ _ (by decide), a2]; exact e3.symm
      · rw [ff.1 63 rfl rfl]; exact hM.2.2.1
      · rw [jl_sn _ _ _ (by decide), a5 (5 * c) (by omega)]; rfl
      · rw [jl_sn _ _ _ (by decide), show 41 + 5 * c + k = 40 + (5 * c + 1 + k) by omega, a5 _ (by omega), show 1 + (5 * c + 1 + k) = 2 + 5 * c + k by omega]; rfl
      · rw [jl_sn _ _ _ (by decide)]; exact a6
end
