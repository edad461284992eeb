/-! ===== a question answered, the reference's ===== -/
theorem je_s0 (f : Nat → Int) (i : Nat) : je_fst f (i + 1) = if je_fst f i = -1 then (if f i = 0 then -1 else (i : Int)) else je_fst f i := rfl
theorem je_s1 (f : Nat → Int) (i : Nat) : je_lst f (i + 1) = if f i = 0 then je_lst f i else (i : Int) := rfl
theorem je_s4 (f : Nat → Int) (i : Nat) : je_mst f (i + 1) = if i = 0 then f i else if je_mst f i < f i then f i else je_mst f i := rfl
theorem je_s5 (f : Nat → Int) (i : Nat) : je_lea f (i + 1) = if i = 0 then f i else if f i < je_lea f i then f i else je_lea f i := rfl
section
variable {L d : Nat} {μ : qm_M} {Q : Int → qm_M → Prop} {V : qm_M → Prop}
theorem js_2518 {k : Int} {f : Nat → Int} {i : Nat} (hi : i < 60) (h72 : μ 13 72 = je_ans k f i) (h73 : μ 13 73 = if i = 0 then 1 else 0) (hk : 0 ≤ k ∧ k ≤ 5) (hb : k ≤ 2 → je_b (f i)) (hn : ∀ j, j < i + 1 → je_n (f j)) (H : ∀ μ', jd_fm [72, 73] [] μ μ' → μ' 13 72 = je_ans k f (i + 1) → μ' 13 73 = 0 → V μ') : qm_CV (qb_T L) d 2518 [qm_P 13, qm_I k, qm_L (f i), qm_I ((i : Nat) : Int)] μ V := by
  have hfi := hn i (by omega)
  have b1 := je_fstb f i
  have b2 := je_mstb i (fun j hj => hn j (by omega))
  have b3 := je_leab i (fun j hj => hn j (by omega))
  unfold je_n at hfi b2 b3
  have s0 := je_s0 f i
  have s1 := je_s1 f i
  have s4 := je_s4 f i
  have s5 := je_s5 f i
  have ss : jd_sum f (i + 1) = jd_sum f i + f i := rfl
  -- the last rows of it
  have fin : ∀ (z : Int) (x5 : Int) (μ1 : qm_M), k ≤ 3 → jd_fm [72, 73] [] μ μ1 → μ1 13 72 = je_ans k f (i + 1) → qm_W (qb_T L) d 2518 90 [qm_P 13, qm_I k, qm_L (f i), none, qm_I ((i : Nat) : Int), qm_I x5] [] μ1 (fun v μ' => v = none ∧ V μ') := fun z x5 μ1 hk3 hf e => by
    refine b2518_90 μ1 _ _ _ _ _ ⟨by omega, fun _ => ⟨rfl, H _ (jg_f hf rfl) ?_ (jl_ss _ _ _ _)⟩, fun q => absurd hk3 q⟩
    rw [jl_sk _ _ _ (by decide)]; exact e
  have l75 : ∀ (x5 : Int) (μ1 : qm_M), k ≤ 2 → jd_fm [72, 73] [] μ μ1 → μ1 13 72 = je_ans k f (i + 1) → qm_W (qb_T L) d 2518 75 [qm_P 13, qm_I k, qm_L (f i), none, qm_I ((i : Nat) : Int), qm_I x5] [] μ1 (fun v μ' => v = none ∧ V μ') := fun x5 μ1 hk2 hf e => b2518_75 μ1 _ _ _ _ _ ⟨by omega, fun q => by omega, fun _ => fin 0 x5 μ1 (by omega) hf e⟩
  have l55 : ∀ (x5 : Int) (μ1 : qm_M), k ≤ 1 → jd_fm [72, 73] [] μ μ1 → μ1 13 72 = je_ans k f (i + 1) → qm_W (qb_T L) d 2518 55 [qm_P 13, qm_I k, qm_L (f i), none, qm_I ((i : Nat) : Int), qm_I x5] [] μ1 (fun v μ' => v = none ∧ V μ') := fun x5 μ1 hk2 hf e => b2518_55 μ1 _ _ _ _ _ ⟨by omega, fun q => by omega, fun _ => l75 x5 μ1 (by omega) hf e⟩
  have l48 : ∀ (x5 : Int), k ≤ 1 → ((i : Nat) : Int) = je_ans k f (i + 1) → qm_W (qb_T L) d 2518 48 [qm_P 13, qm_I k, qm_L (f i), none, qm_I ((i : Nat) : Int), qm_I x5] [] μ (fun v μ' => v = none ∧ V μ') := fun x5 hk2 e => b2518_48 μ _ _ _ _ _ ⟨by omega, l55 x5 _ hk2 (jg_f (jg_refl _ _ _) rfl) (by rw [jl_ss]; exact e)⟩
  -- the greatest, the least
  have l16 : 3 ≤ k → qm_W (qb_T L) d 2518 16 [qm_P 13, qm_I k, qm_L (f i), none, qm_I ((i : Nat) : Int), none] [qm_I 0] μ (fun v μ' => v = none ∧ V μ') := fun hk3 => by
    refine b2518_16 μ _ _ _ _ _ ⟨by omega, fun q => by omega, fun _ => b2518_38 μ _ _ _ _ _ ⟨by omega, fun q => by omega, fun _ => b2518_55 μ _ _ _ _ _ ⟨by omega, fun q => by omega, fun _ => b2518_75 μ _ _ _ _ _ ⟨by omega, fun q => ?_, fun q => ?_⟩⟩⟩⟩
    · refine fin 0 0 _ (by omega) (jg_f (jg_refl _ _ _) rfl) ?_
      rw [jl_ss, h72]
      subst q
      show jd_sum f i + f i = jd_sum f (i + 1)
      rfl
    · have up : je_ans k f (i + 1) = f i → qm_W (qb_T L) d 2518 128 [qm_P 13, qm_I k, qm_L (f i), none, qm_I ((i : Nat) : Int), qm_I 0] [] μ (fun v μ' => v = none ∧ V μ') := fun e => by
        refine b2518_128 μ _ _ _ _ _ ⟨rfl, H _ (jg_f (jg_f (jg_refl _ _ _) rfl) rfl) ?_ (jl_ss _ _ _ _)⟩
        rw [jl_sk _ _ _ (by decide), jl_ss, e]
      have st : je_ans k f (i + 1) = je_ans k f i → (none : qm_V) = none ∧ V (qm_set μ 13 73 0) := fun e => ⟨rfl, H _ (jg_f (jg_refl _ _ _) rfl) (by rw [jl_sk _ _ _ (by decide), h72, e]) (jl_ss _ _ _ _)⟩
      have hk45 : k = 4 ∨ k = 5 := by omega
      refine b2518_90 μ _ _ _ _ _ ⟨by omega, fun q2 => by omega, fun _ => ?_⟩
      rw [h73, h72]
      rcases hk45 with rfl | rfl
      · have a4 : ∀ m, je_ans 4 f m = je_mst f m := fun m => rfl
        rw [a4] at up st ⊢
        rw [a4] at st
        by_cases hz : i = 0
        · rw [if_pos hz] at s4 ⊢
          exact ⟨by decide, fun z => absurd z (by decide), fun _ => up s4⟩
        · rw [if_neg hz] at s4 ⊢
          refine ⟨by decide, fun _ => ⟨by decide, fun _ => ⟨by omega, by omega, fun z => ?_, fun z => ?_⟩, fun z => absurd rfl z⟩, fun z => absurd rfl z⟩
          · rw [if_neg (by omega)] at s4; exact st s4
          · rw [if_pos (by omega)] at s4; exact up s4
      · have a5 : ∀ m, je_ans 5 f m = je_lea f m := fun m => rfl
        rw [a5] at up st ⊢
        rw [a5] at st
        by_cases hz : i = 0
        · rw [if_pos hz] at s5 ⊢
          exact ⟨by decide, fun z => absurd z (by decide), fun _ => up s5⟩
        · rw [if_neg hz] at s5 ⊢
          refine ⟨by decide, fun _ => ⟨by decide, fun z => absurd z (by decide), fun _ => ⟨by omega, by omega, fun z => ?_, fun z => ?_⟩⟩, fun z => absurd rfl z⟩
          · rw [if_neg (by omega)] at s5; exact st s5
          · rw [if_pos (by omega)] at s5; exact up s5
  -- tests
  have l16t : ∀ x : Int, k ≤ 2 → ((x = 1 ∧ f i = 1) ∨ (x = 0 ∧ f i = 0)) → qm_W (qb_T L) d 2518 16 [qm_P 13, qm_I k, qm_L (f i), none, qm_I ((i : Nat) : Int), none] [qm_I x] μ (fun v μ' => v = none ∧ V μ') := fun x hk2 hx => by
    have hk012 : k = 0 ∨ k = 1 ∨ k = 2 := by omega
    rcases hk012 with rfl | rfl | rfl
    · have a0 : ∀ m, je_ans 0 f m = je_fst f m := fun m => rfl
      rw [a0] at h72
      have e38 : je_fst f (i + 1) = je_fst f i → qm_W (qb_T L) d 2518 38 [qm_P 13, qm_I 0, qm_L (f i), none, qm_I ((i : Nat) : Int), qm_I x] [] μ (fun v μ' => v = none ∧ V μ') := fun e => b2518_38 μ _ _ _ _ _ ⟨by decide, fun q => absurd q (by decide), fun _ => l55 x μ (by decide) (jg_refl _ _ _) (by rw [h72, a0, e])⟩
      refine b2518_16 μ _ _ _ _ _ ⟨by decide, fun _ => ⟨by omega, fun q => e38 ?_, fun q => ?_⟩, fun q => absurd rfl q⟩
      · rw [s0, if_pos (show f i = 0 by omega)]
        by_cases y : je_fst f i = -1
        · rw [if_pos y, y]
        · rw [if_neg y]
      · rw [h72]
        refine ⟨by omega, fun y => l48 x (by decide) ?_, fun y => e38 ?_⟩
        · rw [a0, s0, if_pos y, if_neg (by omega)]
        · rw [s0, if_neg y]
    · have a1 : ∀ m, je_ans 1 f m = je_lst f m := fun m => rfl
      rw [a1] at h72
      refine b2518_16 μ _ _ _ _ _ ⟨by decide, fun q => absurd q (by decide), fun _ => b2518_38 μ _ _ _ _ _ ⟨by decide, fun _ => ⟨by omega, fun q => l55 x μ (by decide) (jg_refl _ _ _) ?_, fun q => l48 x (by decide) ?_⟩, fun q => absurd rfl q⟩⟩
      · rw [h72, a1, s1, if_pos (show f i = 0 by omega)]
      · rw [a1, s1, if_neg (show ¬ f i = 0 by omega)]
    · have a2 : ∀ m, je_ans 2 f m = jd_sum f m := fun m => rfl
      rw [a2] at h72
      refine b2518_16 μ _ _ _ _ _ ⟨by decide, fun q => absurd q (by decide), fun _ => b2518_38 μ _ _ _ _ _ ⟨by decide, fun q => absurd q (by decide), fun _ => b2518_55 μ _ _ _ _ _ ⟨by decide, fun _ => ⟨by omega, fun q => l75 x μ (by decide) (jg_refl _ _ _) ?_, fun q => l75 x _ (by decide) (jg_f (jg_refl _ _ _) rfl) ?_⟩, fun q => absurd rfl q⟩⟩⟩
      · rw [h72, a2, ss]; omega
      · rw [jl_ss, h72, a2, ss]; omega
  refine b2518_0 μ _ _ _ _ ⟨by omega, fun q => b2518_15 μ _ _ _ _ (l16 q), fun q => ⟨by omega, fun z => l16t 1 (by omega) (Or.inl ⟨rfl, z⟩), fun z => b2518_15 μ _ _ _ _ (l16t 0 (by omega) (Or.inr ⟨rfl, ?_⟩))⟩⟩
  have := hb (by omega)
  unfold je_b at this
  omega
end
