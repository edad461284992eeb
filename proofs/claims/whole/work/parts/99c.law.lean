/-! ===== the loop over the calls ===== -/
section
variable {L d : Nat} {ξ : Nat → Int} {μ : qm_M} {x3 : Int}
abbrev jy_Q : qm_V → qm_M → Prop := fun v _ => v = qm_I 1
abbrev jy_K (L d : Nat) (ξ : Nat → Int) (x3 : Int) : Prop := ∀ μ2, jq_inv ξ μ2 → qm_W (qb_T L) (d + 1) 3001 917 [qm_P 999, qm_P 0, qm_P 13, qm_I x3] [] μ2 jy_Q
theorem jy_end {r1 r2 : Int} {μ2 : qm_M} (K : jy_K L d ξ x3) (h : r2 = r1 ∧ qm_r32 r1 ∧ jq_inv ξ μ2) : (-2147483648 ≤ r1 ∧ r1 < 2147483648) ∧ (-2147483648 ≤ r2 ∧ r2 < 2147483648) ∧ ((r1 = r2 → qm_W (qb_T L) (d + 1) 3001 917 [qm_P 999, qm_P 0, qm_P 13, qm_I x3] [] μ2 jy_Q) ∧ (¬ r1 = r2 → jy_Q (qm_I 0) μ2)) := by
  obtain ⟨rfl, h1, h2⟩ := h
  exact ⟨h1, h1, fun _ => K μ2 h2, fun q => absurd rfl q⟩
theorem jy_endl {r1 r2 : Int} {μ2 : qm_M} (K : jy_K L d ξ x3) (h : r2 = r1 ∧ qm_r64 r1 ∧ jq_inv ξ μ2) : (-9223372036854775808 ≤ r1 ∧ r1 < 9223372036854775808) ∧ (-9223372036854775808 ≤ r2 ∧ r2 < 9223372036854775808) ∧ ((r1 = r2 → qm_W (qb_T L) (d + 1) 3001 917 [qm_P 999, qm_P 0, qm_P 13, qm_I x3] [] μ2 jy_Q) ∧ (¬ r1 = r2 → jy_Q (qm_I 0) μ2)) := by
  obtain ⟨rfl, h1, h2⟩ := h
  exact ⟨h1, h1, fun _ => K μ2 h2, fun q => absurd rfl q⟩
theorem jy_0 {ma mb : Nat} (hx : ∀ k, μ 999 k = ξ k) (h0 : 0 ≤ x3) (hL : x3 + 6 ≤ (L : Int)) (K : jy_K L d ξ x3) (h : jp L d ξ ma mb [qm_P 0] [qm_P 13] μ) : qm_CI (qb_T L) d ma [qm_P 0] μ (fun r1 μ1 => qm_CI (qb_T L) d mb [qm_P 13] μ1 (fun r2 μ2 => (-2147483648 ≤ r1 ∧ r1 < 2147483648) ∧ (-2147483648 ≤ r2 ∧ r2 < 2147483648) ∧ ((r1 = r2 → qm_W (qb_T L) (d + 1) 3001 917 [qm_P 999, qm_P 0, qm_P 13, qm_I x3] [] μ2 jy_Q) ∧ (¬ r1 = r2 → jy_Q (qm_I 0) μ2)))) := by
  refine qc_I h (Nat.le_refl _) fun r1 μ1 h1 => ?_
  exact qc_I h1.2 (Nat.le_refl _) fun r2 μ2 h2 => jy_end K h2
theorem jy_1 {ma mb : Nat} (hx : ∀ k, μ 999 k = ξ k) (h0 : 0 ≤ x3) (hL : x3 + 6 ≤ (L : Int)) (K : jy_K L d ξ x3) (h : jp L d ξ ma mb [qm_P 0, qm_I (ξ (x3 + 1).toNat)] [qm_P 13, qm_I (ξ (x3 + 1).toNat)] μ) : (0 ≤ x3 + 1 ∧ x3 + 1 < (L : Int)) ∧ (qm_CI (qb_T L) d ma [qm_P 0, qm_I (μ 999 ((x3 + 1).toNat))] μ (fun r1 μ1 => (0 ≤ x3 + 1 ∧ x3 + 1 < (L : Int)) ∧ (qm_CI (qb_T L) d mb [qm_P 13, qm_I (μ1 999 ((x3 + 1).toNat))] μ1 (fun r2 μ2 => (-2147483648 ≤ r1 ∧ r1 < 2147483648) ∧ (-2147483648 ≤ r2 ∧ r2 < 2147483648) ∧ ((r1 = r2 → qm_W (qb_T L) (d + 1) 3001 917 [qm_P 999, qm_P 0, qm_P 13, qm_I x3] [] μ2 jy_Q) ∧ (¬ r1 = r2 → jy_Q (qm_I 0) μ2)))))) := by
  rw [hx]
  refine ⟨⟨by omega, by omega⟩, qc_I h (Nat.le_refl _) fun r1 μ1 h1 => ?_⟩
  rw [h1.1]
  exact ⟨⟨by omega, by omega⟩, qc_I h1.2 (Nat.le_refl _) fun r2 μ2 h2 => jy_end K h2⟩
theorem jy_2 {ma mb : Nat} (hx : ∀ k, μ 999 k = ξ k) (h0 : 0 ≤ x3) (hL : x3 + 6 ≤ (L : Int)) (K : jy_K L d ξ x3) (h : jp L d ξ ma mb [qm_P 0, qm_I (ξ (x3 + 1).toNat), qm_I (ξ (x3 + 2).toNat)] [qm_P 13, qm_I (ξ (x3 + 1).toNat), qm_I (ξ (x3 + 2).toNat)] μ) : (0 ≤ x3 + 1 ∧ x3 + 1 < (L : Int)) ∧ ((0 ≤ x3 + 2 ∧ x3 + 2 < (L : Int)) ∧ (qm_CI (qb_T L) d ma [qm_P 0, qm_I (μ 999 ((x3 + 1).toNat)), qm_I (μ 999 ((x3 + 2).toNat))] μ (fun r1 μ1 => (0 ≤ x3 + 1 ∧ x3 + 1 < (L : Int)) ∧ ((0 ≤ x3 + 2 ∧ x3 + 2 < (L : Int)) ∧ (qm_CI (qb_T L) d mb [qm_P 13, qm_I (μ1 999 ((x3 + 1).toNat)), qm_I (μ1 999 ((x3 + 2).toNat))] μ1 (fun r2 μ2 => (-2147483648 ≤ r1 ∧ r1 < 2147483648) ∧ (-2147483648 ≤ r2 ∧ r2 < 2147483648) ∧ ((r1 = r2 → qm_W (qb_T L) (d + 1) 3001 917 [qm_P 999, qm_P 0, qm_P 13, qm_I x3] [] μ2 jy_Q) ∧ (¬ r1 = r2 → jy_Q (qm_I 0) μ2)))))))) := by
  rw [hx, hx]
  refine ⟨⟨by omega, by omega⟩, ⟨by omega, by omega⟩, qc_I h (Nat.le_refl _) fun r1 μ1 h1 => ?_⟩
  rw [h1.1, h1.1]
  exact ⟨⟨by omega, by omega⟩, ⟨by omega, by omega⟩, qc_I h1.2 (Nat.le_refl _) fun r2 μ2 h2 => jy_end K h2⟩
theorem jy_3 {ma mb : Nat} (hx : ∀ k, μ 999 k = ξ k) (h0 : 0 ≤ x3) (hL : x3 + 6 ≤ (L : Int)) (K : jy_K L d ξ x3) (h : jp L d ξ ma mb [qm_P 0, qm_I (ξ (x3 + 1).toNat), qm_I (ξ (x3 + 2).toNat), qm_I (ξ (x3 + 3).toNat)] [qm_P 13, qm_I (ξ (x3 + 1).toNat), qm_I (ξ (x3 + 2).toNat), qm_I (ξ (x3 + 3).toNat)] μ) : (0 ≤ x3 + 1 ∧ x3 + 1 < (L : Int)) ∧ ((0 ≤ x3 + 2 ∧ x3 + 2 < (L : Int)) ∧ ((0 ≤ x3 + 3 ∧ x3 + 3 < (L : Int)) ∧ (qm_CI (qb_T L) d ma [qm_P 0, qm_I (μ 999 ((x3 + 1).toNat)), qm_I (μ 999 ((x3 + 2).toNat)), qm_I (μ 999 ((x3 + 3).toNat))] μ (fun r1 μ1 => (0 ≤ x3 + 1 ∧ x3 + 1 < (L : Int)) ∧ ((0 ≤ x3 + 2 ∧ x3 + 2 < (L : Int)) ∧ ((0 ≤ x3 + 3 ∧ x3 + 3 < (L : Int)) ∧ (qm_CI (qb_T L) d mb [qm_P 13, qm_I (μ1 999 ((x3 + 1).toNat)), qm_I (μ1 999 ((x3 + 2).toNat)), qm_I (μ1 999 ((x3 + 3).toNat))] μ1 (fun r2 μ2 => (-2147483648 ≤ r1 ∧ r1 < 2147483648) ∧ (-2147483648 ≤ r2 ∧ r2 < 2147483648) ∧ ((r1 = r2 → qm_W (qb_T L) (d + 1) 3001 917 [qm_P 999, qm_P 0, qm_P 13, qm_I x3] [] μ2 jy_Q) ∧ (¬ r1 = r2 → jy_Q (qm_I 0) μ2)))))))))) := by
  rw [hx, hx, hx]
  refine ⟨⟨by omega, by omega⟩, ⟨by omega, by omega⟩, ⟨by omega, by omega⟩, qc_I h (Nat.le_refl _) fun r1 μ1 h1 => ?_⟩
  rw [h1.1, h1.1, h1.1]
  exact ⟨⟨by omega, by omega⟩, ⟨by omega, by omega⟩, ⟨by omega, by omega⟩, qc_I h1.2 (Nat.le_refl _) fun r2 μ2 h2 => jy_end K h2⟩
theorem jy_5 {ma mb : Nat} (hx : ∀ k, μ 999 k = ξ k) (h0 : 0 ≤ x3) (hL : x3 + 6 ≤ (L : Int)) (K : jy_K L d ξ x3) (h : jp L d ξ ma mb [qm_P 0, qm_I (ξ (x3 + 1).toNat), qm_I (ξ (x3 + 2).toNat), qm_I (ξ (x3 + 3).toNat), qm_I (ξ (x3 + 4).toNat), qm_I (ξ (x3 + 5).toNat)] [qm_P 13, qm_I (ξ (x3 + 1).toNat), qm_I (ξ (x3 + 2).toNat), qm_I (ξ (x3 + 3).toNat), qm_I (ξ (x3 + 4).toNat), qm_I (ξ (x3 + 5).toNat)] μ) : (0 ≤ x3 + 1 ∧ x3 + 1 < (L : Int)) ∧ ((0 ≤ x3 + 2 ∧ x3 + 2 < (L : Int)) ∧ ((0 ≤ x3 + 3 ∧ x3 + 3 < (L : Int)) ∧ ((0 ≤ x3 + 4 ∧ x3 + 4 < (L : Int)) ∧ ((0 ≤ x3 + 5 ∧ x3 + 5 < (L : Int)) ∧ (qm_CI (qb_T L) d ma [qm_P 0, qm_I (μ 999 ((x3 + 1).toNat)), qm_I (μ 999 ((x3 + 2).toNat)), qm_I (μ 999 ((x3 + 3).toNat)), qm_I (μ 999 ((x3 + 4).toNat)), qm_I (μ 999 ((x3 + 5).toNat))] μ (fun r1 μ1 => (0 ≤ x3 + 1 ∧ x3 + 1 < (L : Int)) ∧ ((0 ≤ x3 + 2 ∧ x3 + 2 < (L : Int)) ∧ ((0 ≤ x3 + 3 ∧ x3 + 3 < (L : Int)) ∧ ((0 ≤ x3 + 4 ∧ x3 + 4 < (L : Int)) ∧ ((0 ≤ x3 + 5 ∧ x3 + 5 < (L : Int)) ∧ (qm_CI (qb_T L) d mb [qm_P 13, qm_I (μ1 999 ((x3 + 1).toNat)), qm_I (μ1 999 ((x3 + 2).toNat)), qm_I (μ1 999 ((x3 + 3).toNat)), qm_I (μ1 999 ((x3 + 4).toNat)), qm_I (μ1 999 ((x3 + 5).toNat))] μ1 (fun r2 μ2 => (-2147483648 ≤ r1 ∧ r1 < 2147483648) ∧ (-2147483648 ≤ r2 ∧ r2 < 2147483648) ∧ ((r1 = r2 → qm_W (qb_T L) (d + 1) 3001 917 [qm_P 999, qm_P 0, qm_P 13, qm_I x3] [] μ2 jy_Q) ∧ (¬ r1 = r2 → jy_Q (qm_I 0) μ2)))))))))))))) := by
  rw [hx, hx, hx, hx, hx]
  refine ⟨⟨by omega, by omega⟩, ⟨by omega, by omega⟩, ⟨by omega, by omega⟩, ⟨by omega, by omega⟩, ⟨by omega, by omega⟩, qc_I h (Nat.le_refl _) fun r1 μ1 h1 => ?_⟩
  rw [h1.1, h1.1, h1.1, h1.1, h1.1]
  exact ⟨⟨by omega, by omega⟩, ⟨by omega, by omega⟩, ⟨by omega, by omega⟩, ⟨by omega, by omega⟩, ⟨by omega, by omega⟩, qc_I h1.2 (Nat.le_refl _) fun r2 μ2 h2 => jy_end K h2⟩
theorem jy_l {ma mb : Nat} (K : jy_K L d ξ x3) (h : jpL L d ξ ma mb [qm_P 0] [qm_P 13] μ) : qm_CL (qb_T L) d ma [qm_P 0] μ (fun r1 μ1 => qm_CL (qb_T L) d mb [qm_P 13] μ1 (fun r2 μ2 => (-9223372036854775808 ≤ r1 ∧ r1 < 9223372036854775808) ∧ (-9223372036854775808 ≤ r2 ∧ r2 < 9223372036854775808) ∧ ((r1 = r2 → qm_W (qb_T L) (d + 1) 3001 917 [qm_P 999, qm_P 0, qm_P 13, qm_I x3] [] μ2 jy_Q) ∧ (¬ r1 = r2 → jy_Q (qm_I 0) μ2)))) := qc_L h (Nat.le_refl _) fun r1 μ1 h1 => qc_L h1.2 (Nat.le_refl _) fun r2 μ2 h2 => jy_endl K h2
theorem jy_498 {a s3 : Int} {s0 : Int} (K : jy_K L d ξ x3) (h : qm_CI (qb_T L) d 2461 [qm_P 13, qm_I a, qm_I s0] μ (fun r2 μ2 => r2 = s3 ∧ qm_r32 s3 ∧ jq_inv ξ μ2)) : qm_W (qb_T L) (d + 1) 3001 498 [qm_P 999, qm_P 0, qm_P 13, qm_I x3] [qm_I s0, qm_I a, qm_P 13, qm_I s3] μ jy_Q := b3001_498 _ _ _ _ _ _ (qc_I h (Nat.le_refl _) fun r2 μ2 h2 => jy_end K h2)
theorem jy_642 {s2 : Int} {s0 : Int} (K : jy_K L d ξ x3) (h : qm_CI (qb_T L) d 2468 [qm_P 13, qm_I s0] μ (fun r2 μ2 => r2 = s2 ∧ qm_r32 s2 ∧ jq_inv ξ μ2)) : qm_W (qb_T L) (d + 1) 3001 642 [qm_P 999, qm_P 0, qm_P 13, qm_I x3] [qm_I s0, qm_P 13, qm_I s2] μ jy_Q := b3001_642 _ _ _ _ _ (qc_I h (Nat.le_refl _) fun r2 μ2 h2 => jy_end K h2)
theorem jy_476 {b : Int} (hξ : ∀ i, qm_r32 (ξ i)) (h0 : 0 ≤ x3) (hL : x3 + 6 ≤ (L : Int)) (K : jy_K L d ξ x3) (hb : b = if ξ (x3 + 2).toNat = 0 then 0 else 1) (h : jp L d ξ 2210 2461 [qm_P 0, qm_I (ξ (x3 + 1).toNat), qm_I b] [qm_P 13, qm_I (ξ (x3 + 1).toNat), qm_I b] μ) : qm_W (qb_T L) (d + 1) 3001 476 [qm_P 999, qm_P 0, qm_P 13, qm_I x3] [qm_I b, qm_I (ξ (x3 + 1).toNat), qm_P 0] μ jy_Q := by
  refine b3001_476 _ _ _ _ _ (qc_I h (Nat.le_refl _) fun r1 μ1 h1 => ?_)
  rw [h1.1, h1.1]
  refine ⟨⟨by omega, by omega⟩, ⟨by omega, by omega⟩, hξ _, fun q => ?_, fun q => ?_⟩
  · rw [if_pos q] at hb; subst hb; exact jy_498 K h1.2
  · rw [if_neg q] at hb; subst hb; exact jy_498 K h1.2
theorem jy_625 {b : Int} (hξ : ∀ i, qm_r32 (ξ i)) (h0 : 0 ≤ x3) (hL : x3 + 6 ≤ (L : Int)) (K : jy_K L d ξ x3) (hb : b = if ξ (x3 + 1).toNat = 0 then 0 else 1) (h : jp L d ξ 2216 2468 [qm_P 0, qm_I b] [qm_P 13, qm_I b] μ) : qm_W (qb_T L) (d + 1) 3001 625 [qm_P 999, qm_P 0, qm_P 13, qm_I x3] [qm_I b, qm_P 0] μ jy_Q := by
  refine b3001_625 _ _ _ _ (qc_I h (Nat.le_refl _) fun r1 μ1 h1 => ?_)
  rw [h1.1]
  refine ⟨⟨by omega, by omega⟩, hξ _, fun q => ?_, fun q => ?_⟩
  · rw [if_pos q] at hb; subst hb; exact jy_642 K h1.2
  · rw [if_neg q] at hb; subst hb; exact jy_642 K h1.2
end
