/-! ===== what holds before the first call ===== -/
theorem jz_at {ξ : Nat → Int} {c k : Nat} (h : ¬ c = 999) : qs_mu ξ c k = qs_mu (fun _ => 0) c k := by unfold qs_mu; rw [if_neg h, if_neg h]
theorem jz_cst : jx_TW.all (fun e => !Nat.beq e.1 999 && (List.range e.2.length).all (fun i => decide (qs_mu (fun _ => 0) e.1 i = ((e.2.getD i 0 : Nat) : Int)))) = true := by decide +kernel
theorem jz_E : ([(1, 1, 0), (6, 0, 0), (6, 1, 0), (6, 2, 40), (7, 3, 0), (3, 1, 0), (3, 2, 0), (3, 3, 0), (3, 4, 40), (3, 5, 0), (0, 12, -1), (8, 0, 0), (9, 0, 0), (12, 1, 0), (2, 6, 0), (2, 7, -1), (10, 6, -1), (10, 7, 0), (13, 1, 0), (59, 4, 0), (13, 37, 0), (63, 1, 0), (13, 39, 0), (59, 3, 0), (59, 5, 0), (13, 30, 0), (13, 35, -1), (69, 0, 0), (69, 1, 0), (13, 75, 0), (13, 7, 0), (13, 8, -1)] : List (Nat × Nat × Int)).all (fun e => decide (qs_mu (fun _ => 0) e.1 e.2.1 = e.2.2)) = true := by decide +kernel
theorem jz_nw : 0 ≤ qs_mu (fun _ => 0) 13 40 ∧ qs_mu (fun _ => 0) 13 40 < 20 := by decide +kernel
theorem jz_v (ξ : Nat → Int) {c k : Nat} {z : Int} (hc : ¬ c = 999) (h : ([(1, 1, 0), (6, 0, 0), (6, 1, 0), (6, 2, 40), (7, 3, 0), (3, 1, 0), (3, 2, 0), (3, 3, 0), (3, 4, 40), (3, 5, 0), (0, 12, -1), (8, 0, 0), (9, 0, 0), (12, 1, 0), (2, 6, 0), (2, 7, -1), (10, 6, -1), (10, 7, 0), (13, 1, 0), (59, 4, 0), (13, 37, 0), (63, 1, 0), (13, 39, 0), (59, 3, 0), (59, 5, 0), (13, 30, 0), (13, 35, -1), (69, 0, 0), (69, 1, 0), (13, 75, 0), (13, 7, 0), (13, 8, -1)] : List (Nat × Nat × Int)).contains (c, k, z) = true) : qs_mu ξ c k = z := by
  rw [jz_at hc]
  exact of_decide_eq_true (List.all_eq_true.mp jz_E (c, k, z) (List.contains_iff_mem.mp h))
theorem jz_I : jd_I 0 (fun _ => 0) 0 0 0 40 0 (-1) (fun _ => 0) (fun _ => 0) (fun _ _ => 0) (fun _ _ => 0) 0 (fun _ => (0, (fun _ => 0), (fun _ _ => 0), (fun _ _ => 0))) 0 0 (fun _ _ => 0) (fun _ _ => 0) 0 (fun _ => 0) 0 (-1) := by
  refine ⟨⟨by decide, fun i hi => absurd hi (by omega)⟩, ⟨by decide, Nat.zero_le _, by decide, fun c hc => absurd hc (by omega), fun c k hc => absurd hc (by omega), fun r c hr => absurd hr (Nat.not_lt_zero _), fun r c hr hc => absurd hc (by omega)⟩, by decide, ⟨by decide, by decide, by decide, by decide, by decide, by decide, by decide⟩, fun p hp => absurd hp (by omega), ⟨by decide, fun q i hq hi => absurd hi (Nat.not_lt_zero _)⟩, ⟨by decide, fun r c hr => absurd hr (by omega)⟩, ⟨by decide, fun r c hr => absurd hr (by omega)⟩, fun h => absurd h (by omega), ⟨by decide, fun i hi => absurd hi (by omega)⟩, by decide, by decide⟩
theorem jz_c (ξ : Nat → Int) : jc_I 0 (fun _ => 0) 0 0 0 40 0 (-1) (fun _ => 0) (fun _ => 0) (fun _ _ => 0) 0 (fun _ => (0, (fun _ => 0), (fun _ _ => 0), (fun _ _ => 0))) 0 0 (fun _ _ => 0) (fun _ _ => 0) 0 (fun _ => 0) 0 (-1) (qs_mu ξ) := by
  have v := fun {c k : Nat} {z : Int} => jz_v ξ (c := c) (k := k) (z := z)
  refine ⟨⟨v (by decide) rfl, fun i hi => absurd hi (by omega)⟩, ⟨v (by decide) rfl, v (by decide) rfl, v (by decide) rfl, fun c hc => absurd hc (by omega), fun c k hc => absurd hc (by omega), fun r c hr => absurd hr (Nat.not_lt_zero _), fun r hr => absurd hr (Nat.not_lt_zero _), fun r c hr => absurd hr (Nat.not_lt_zero _)⟩, ⟨v (by decide) rfl, fun i hi => absurd hi (by omega)⟩, ⟨v (by decide) rfl, v (by decide) rfl, v (by decide) rfl, v (by decide) rfl, v (by decide) rfl, v (by decide) rfl, v (by decide) rfl, v (by decide) rfl, v (by decide) rfl⟩, fun p hp => absurd hp (by omega), ⟨⟨v (by decide) rfl, v (by decide) rfl, v (by decide) rfl⟩, fun i hi => absurd hi (Nat.not_lt_zero _), fun i hi => absurd hi (Nat.not_lt_zero _), fun i hi => absurd hi (Nat.not_lt_zero _)⟩, ⟨v (by decide) rfl, fun r c hr => absurd hr (by omega)⟩, ⟨v (by decide) rfl, fun r c hr => absurd hr (by omega)⟩, ⟨v (by decide) rfl, fun i hi => absurd hi (by omega)⟩, ⟨v (by decide) rfl, v (by decide) rfl⟩, ⟨v (by decide) rfl, ?_⟩⟩
  rw [v (c := 10) (k := 7) (z := 0) (by decide) rfl]
  decide
theorem jz_m (ξ : Nat → Int) : jm_I 0 (fun _ => 0) 0 0 0 40 0 (-1) (fun _ => 0) (fun _ => 0) (fun _ _ => 0) 0 (fun _ => (0, (fun _ => 0), (fun _ _ => 0), (fun _ _ => 0))) 0 0 (fun _ _ => 0) (fun _ _ => 0) 0 (fun _ => 0) 0 (-1) (qs_mu ξ) := by
  have v := fun {c k : Nat} {z : Int} => jz_v ξ (c := c) (k := k) (z := z)
  refine ⟨⟨v (by decide) rfl, fun i hi => absurd hi (by omega)⟩, ⟨v (by decide) rfl, v (by decide) rfl, Or.inr ⟨rfl, v (by decide) rfl, rfl⟩, fun c hc => absurd hc (by omega), fun c k hc => absurd hc (by omega), fun r c hr => absurd hr (Nat.not_lt_zero _)⟩, ⟨v (by decide) rfl, (qs_mu (fun _ => 0) 13 40).toNat, ?_, ?_, fun i hi => absurd hi (by omega)⟩, ⟨v (by decide) rfl, v (by decide) rfl, v (by decide) rfl, v (by decide) rfl, v (by decide) rfl, v (by decide) rfl, v (by decide) rfl⟩, fun p hp => absurd hp (by omega), ⟨?_, fun q i hq hi => absurd hi (Nat.not_lt_zero _)⟩, ⟨v (by decide) rfl, fun r c hr => absurd hr (by omega)⟩, ⟨v (by decide) rfl, fun r c hr => absurd hr (by omega)⟩, ⟨v (by decide) rfl, fun i hi => absurd hi (by omega)⟩, ⟨v (by decide) rfl, v (by decide) rfl⟩, ?_, v (by decide) rfl⟩
  · have := jz_nw; omega
  · rw [jz_at (by decide)]; have := jz_nw; omega
  · intro q hq
    match q, hq with
    | 0, _ => exact v (by decide) rfl
    | 1, _ => exact v (by decide) rfl
    | 2, _ => exact v (by decide) rfl
  · intro e he i hi
    have h1 := List.all_eq_true.mp jz_cst e he
    rw [Bool.and_eq_true, Bool.not_eq_true'] at h1
    rw [jz_at (fun q => by rw [q] at h1; exact absurd h1.1 (by decide))]
    exact of_decide_eq_true (List.all_eq_true.mp h1.2 i (List.mem_range.mpr hi))
theorem jz_inv (ξ : Nat → Int) : jq_inv ξ (qs_mu ξ) :=
  ⟨0, fun _ => 0, 0, 0, 0, 40, 0, -1, fun _ => 0, fun _ => 0, fun _ _ => 0, fun _ _ => 0, 0, fun _ => (0, (fun _ => 0), (fun _ _ => 0), (fun _ _ => 0)), 0, 0, fun _ _ => 0, fun _ _ => 0, 0, fun _ => 0, 0, -1, jz_I, jz_c ξ, jz_m ξ, fun _ => rfl⟩
