/-! ===== text, the reference's: the call ===== -/
section
variable {L d n : Nat} {t : Nat → Int} {D μ : qm_M} {Q : Int → qm_M → Prop}
theorem js_2432 (hk : jd_tok n t) (hT : jm_tape n t μ) (hcst : jm_cst μ) (hI : jx_inv D 0 0 0) (hD : D 4 0 = 0 ∧ D 4 4 = 40 ∧ D 4 5 = 0 ∧ D 5 2 = 0) (H1 : ∀ s c0 c1 c2, jx_txq n t 72 (0, false, D) = .inr s → jx_inv s.2.2 c0 c1 c2 → ∀ nr sp μ', jd_wst c1 (s.2.2 4 4) (jx_T s.2.2) (s.2.2 4 5).toNat nr sp → jd_ok c1 nr (s.2.2 4 4) (s.2.2 26) (jx_th s.2.2) (jx_T s.2.2) → jd_fm [1, 2, 3, 4, 5, 6, 7, 8, 21, 29, 30, 31, 32, 34, 35, 37, 39] [59, 60, 61, 62, 63, 64, 65, 66, 67, 69] μ μ' → jm_belt c1 nr (s.2.2 4 4) (s.2.2 26) (jx_th s.2.2) (jx_T s.2.2) μ' → (μ' 59 3 = (c0 : Int) ∧ μ' 59 4 = (c1 : Int) ∧ μ' 59 5 = (c2 : Int)) → ((∀ i, i < c0 → jx_nm (s.2.2 23 i) (μ' 60 (24 + (8 * 0 + i)))) ∧ (∀ i, i < c1 → jx_nm (s.2.2 24 i) (μ' 60 (24 + (8 * 1 + i)))) ∧ ∀ i, i < c2 → jx_nm (s.2.2 25 i) (μ' 60 (24 + (8 * 2 + i)))) → (∀ p, p < c2 → μ' 62 (6 + p) = s.2.2 28 p) → μ' 13 30 = s.2.2 4 5 → μ' 13 39 = 0 → μ' 69 0 = 0 → μ' 69 1 = 0 → μ' 13 35 = sp → μ' 13 1 = 0 → μ' 13 7 = 0 → μ' 13 8 = -1 → Q (s.2.2 4 0) μ') (H0 : ∀ e, jx_txq n t 72 (0, false, D) = .inl e → ∀ μ', jd_fm [1, 2, 3, 4, 5, 6, 7, 8, 21, 29, 31, 32, 34] [59, 60, 61, 62, 63, 64, 65, 66] μ μ' → jm_up μ μ' → μ' 13 1 = 0 → μ' 13 7 = e.1 → μ' 13 8 = e.2 → Q (-1) μ') : qm_CI (qb_T L) (d + 9) 2432 [qm_P 13] μ Q := by
  have hn := hk.1
  refine b2432_0 μ _ ?_
  rw [hT.1]
  -- the start
  have st : ∃ μ1, jd_fm [1, 2, 3, 4, 5, 6, 29, 31, 32] [59, 63] μ μ1 ∧ jm_up μ μ1 ∧ μ1 13 1 = 0 ∧ jm_at μ1 n t 0 false D 0 0 0 μ1 ∧ ∀ V : qm_V → qm_M → Prop, qm_W (qb_T L) (d + 9) 2432 76 [qm_P 13, qm_I 3] [] μ1 V → qm_W (qb_T L) (d + 9) 2432 58 [qm_P 13, qm_I 0] [] (qm_set (qm_set (qm_set (qm_set (qm_set (qm_set (qm_set (qm_set (qm_set (qm_set μ 13 3 (n : Int)) 13 1 0) 13 2 0) 13 4 (-1)) 13 5 0) 13 6 (-1)) 13 32 0) 63 0 40) 13 29 0) 13 31 0) V := by
    have f0 : jd_fm [1, 2, 3, 4, 5, 6, 29, 31, 32] [59, 63] μ (qm_set (qm_set (qm_set (qm_set (qm_set (qm_set (qm_set (qm_set (qm_set (qm_set μ 13 3 (n : Int)) 13 1 0) 13 2 0) 13 4 (-1)) 13 5 0) 13 6 (-1)) 13 32 0) 63 0 40) 13 29 0) 13 31 0) := jg_f (jg_f (jg_c (jg_f (jg_f (jg_f (jg_f (jg_f (jg_f (jg_f (jg_refl _ _ _) rfl) rfl) rfl) rfl) rfl) rfl) rfl) rfl rfl) rfl) rfl
    have v : ∀ X : qm_M, X = (qm_set (qm_set (qm_set (qm_set (qm_set (qm_set (qm_set (qm_set (qm_set (qm_set μ 13 3 (n : Int)) 13 1 0) 13 2 0) 13 4 (-1)) 13 5 0) 13 6 (-1)) 13 32 0) 63 0 40) 13 29 0) 13 31 0) → X 13 3 = (n : Int) ∧ X 13 1 = 0 ∧ X 13 2 = 0 ∧ X 13 4 = -1 ∧ X 13 5 = 0 ∧ X 13 6 = -1 ∧ X 13 32 = 0 ∧ X 63 0 = 40 ∧ X 13 29 = 0 ∧ X 13 31 = 0 ∧ jm_up μ X := fun X hX => by
      subst hX
      refine ⟨?_, ?_, ?_, ?_, ?_, ?_, ?_, ?_, ?_, jl_ss _ _ _ _, ?_⟩
      · rw [jl_sk _ _ _ (by decide), jl_sk _ _ _ (by decide), jl_sn _ _ _ (by decide), jl_sk _ _ _ (by decide), jl_sk _ _ _ (by decide), jl_sk _ _ _ (by decide), jl_sk _ _ _ (by decide), jl_sk _ _ _ (by decide), jl_sk _ _ _ (by decide), jl_ss]
      · rw [jl_sk _ _ _ (by decide), jl_sk _ _ _ (by decide), jl_sn _ _ _ (by decide), jl_sk _ _ _ (by decide), jl_sk _ _ _ (by decide), jl_sk _ _ _ (by decide), jl_sk _ _ _ (by decide), jl_sk _ _ _ (by decide), jl_ss]
      · rw [jl_sk _ _ _ (by decide), jl_sk _ _ _ (by decide), jl_sn _ _ _ (by decide), jl_sk _ _ _ (by decide), jl_sk _ _ _ (by decide), jl_sk _ _ _ (by decide), jl_sk _ _ _ (by decide), jl_ss]
      · rw [jl_sk _ _ _ (by decide), jl_sk _ _ _ (by decide), jl_sn _ _ _ (by decide), jl_sk _ _ _ (by decide), jl_sk _ _ _ (by decide), jl_sk _ _ _ (by decide), jl_ss]
      · rw [jl_sk _ _ _ (by decide), jl_sk _ _ _ (by decide), jl_sn _ _ _ (by decide), jl_sk _ _ _ (by decide), jl_sk _ _ _ (by decide), jl_ss]
      · rw [jl_sk _ _ _ (by decide), jl_sk _ _ _ (by decide), jl_sn _ _ _ (by decide), jl_sk _ _ _ (by decide), jl_ss]
      · rw [jl_sk _ _ _ (by decide), jl_sk _ _ _ (by decide), jl_sn _ _ _ (by decide), jl_ss]
      · rw [jl_sn _ _ _ (by decide), jl_sn _ _ _ (by decide), jl_ss]
      · rw [jl_sk _ _ _ (by decide), jl_ss]
      · have u13 : ∀ {X : qm_M} {k : Nat} {z : Int}, jm_up μ X → jm_up μ (qm_set X 13 k z) := fun h => jl_ups h ⟨fun q => absurd q (by decide), fun q => absurd q (by decide), fun q => absurd q (by decide), fun q => absurd q (by decide), fun q => absurd q (by decide)⟩
        exact u13 (u13 (jl_ups (u13 (u13 (u13 (u13 (u13 (u13 (u13 (jl_upr μ)))))))) ⟨fun q => absurd q (by decide), fun q => absurd q (by decide), fun q => absurd q (by decide), fun q => absurd q (by decide), fun _ => by decide⟩))
    obtain ⟨v3, v1, v2, v4, v5, v6, v32, v63, v29, v31, vup⟩ := v _ rfl
    generalize qm_set (qm_set (qm_set (qm_set (qm_set (qm_set (qm_set (qm_set (qm_set (qm_set μ 13 3 (n : Int)) 13 1 0) 13 2 0) 13 4 (-1)) 13 5 0) 13 6 (-1)) 13 32 0) 63 0 40) 13 29 0) 13 31 0 = X at *
    have f1 : jd_fm [] [59] X (qm_set (qm_set (qm_set X 59 0 0) 59 1 0) 59 2 0) := jg_c (jg_c (jg_c (jg_refl _ _ _) rfl rfl) rfl rfl) rfl rfl
    refine ⟨qm_set (qm_set (qm_set X 59 0 0) 59 1 0) 59 2 0, jg_trans f0 (jg_sub f1 rfl rfl), jl_ups (jl_ups (jl_ups vup ⟨by omega, by omega, by omega, by omega, by omega⟩) ⟨by omega, by omega, by omega, by omega, by omega⟩) ⟨by omega, by omega, by omega, by omega, by omega⟩, ?_, ?_, fun V hV => ?_⟩
    · rw [f1.2 1 rfl]; exact v1
    · refine ⟨⟨jg_refl _ _ _, jl_upr _⟩, ⟨⟨0, ?_, Nat.le_refl _, Nat.zero_le _⟩, ?_, fun q => (by cases q), fun _ => ?_, ?_, ?_, ?_⟩, Nat.zero_le _, ⟨⟨?_, ?_, ?_⟩, fun i hi => absurd hi (by omega), fun i hi => absurd hi (by omega), fun i hi => absurd hi (by omega)⟩, ⟨fun i hi => absurd hi (by omega), fun i hi => absurd hi (by omega)⟩, ⟨?_, fun j hj hj2 => ?_⟩, ⟨?_, ?_, ?_⟩, ?_⟩
      · rw [f1.2 2 rfl]; exact v2
      · rw [f1.2 3 rfl]; exact v3
      · rw [f1.2 4 rfl, v4]; decide
      · rw [f1.2 5 rfl]; exact v5
      · rw [f1.2 6 rfl]; exact v6
      · rw [f1.1 46 rfl rfl, f0.1 46 rfl rfl]; exact hT.2
      · rw [jl_sk _ _ _ (by decide), jl_sk _ _ _ (by decide), jl_ss]; rfl
      · rw [jl_sk _ _ _ (by decide), jl_ss]; rfl
      · rw [jl_ss]; rfl
      · rw [f1.2 29 rfl, v29]; exact hD.2.2.1.symm
      · rw [hD.2.2.1] at hj2; omega
      · rw [f1.1 63 rfl rfl, v63]; exact hD.2.1.symm
      · rw [f1.2 31 rfl, v31]; exact hD.2.2.2.symm
      · rw [f1.2 32 rfl, v32]; exact hD.1.symm
      · exact jm_cstf (jm_cstf hcst f0 rfl) f1 rfl
    · refine b2432_58 _ _ _ ⟨by decide, fun q => absurd q (by decide), fun _ => ⟨by decide, ?_⟩⟩
      refine b2432_58 _ _ _ ⟨by decide, fun q => absurd q (by decide), fun _ => ⟨by decide, ?_⟩⟩
      refine b2432_58 _ _ _ ⟨by decide, fun q => absurd q (by decide), fun _ => ⟨by decide, ?_⟩⟩
      exact b2432_58 _ _ _ ⟨by decide, fun _ => hV, fun q => absurd (by decide) q⟩
  obtain ⟨μ1, f1, u1, e1, hat, go⟩ := st
  refine go _ (jm_rloop hk 72 0 false D μ1 0 0 0 hI (by rw [hD.1]; decide) hat (fun s hs c0 c1 c2 μ2 hI2 ha2 => ?_) (fun e he μ2 hn2 => ?_))
  · have e5 := ha2.2.1.2.2.2.2.1
    have e6 := ha2.2.1.2.2.2.2.2.1
    refine b2432_98 μ2 _ _ ?_
    rw [e5, e6]
    refine ⟨by decide, fun _ => ?_, fun q => absurd rfl q⟩
    have f7 : jd_fm [7, 8] [] μ2 (qm_set (qm_set μ2 13 7 0) 13 8 (-1)) := jg_f (jg_f (jg_refl _ _ _) rfl) rfl
    have ha3 : jm_at (qm_set (qm_set μ2 13 7 0) 13 8 (-1)) n t s.1 s.2.1 s.2.2 c0 c1 c2 (qm_set (qm_set μ2 13 7 0) 13 8 (-1)) := by
      obtain ⟨h1, h2, h3, h4, h5, h6, h7, h8⟩ := ha2
      refine ⟨⟨jg_refl _ _ _, jl_upr _⟩, jl_posf h2 f7 rfl rfl rfl rfl rfl rfl, h3, ?_, ?_, ?_, ?_, jm_cstf h8 f7 rfl⟩
      · unfold jm_dn at *; rw [f7.1 59 rfl rfl, f7.1 60 rfl rfl]; exact h4
      · unfold jm_dc at *; rw [f7.1 61 rfl rfl, f7.1 62 rfl rfl]; exact h5
      · unfold jm_dl at *; rw [f7.1 64 rfl rfl, f7.1 65 rfl rfl, f7.2 29 rfl]; exact h6
      · unfold jm_df at *; rw [f7.1 63 rfl rfl, f7.2 31 rfl, f7.2 32 rfl]; exact h7
    refine js_2433 hI2 ha3 fun nr sp μ4 hw hO f4 hB q1 q2 q3 q4 q5 q6 q7 q8 => ?_
    have e32 : μ4 13 32 = s.2.2 4 0 := by rw [f4.2 32 rfl]; exact ha3.2.2.2.2.2.2.1.2.2
    rw [e32]
    refine ⟨_, rfl, H1 s c0 c1 c2 hs hI2 nr sp μ4 hw hO (jg_trans (jg_trans (jg_sub f1 rfl rfl) (jg_sub ha2.1.1 rfl rfl)) (jg_trans (jg_sub f7 rfl rfl) (jg_sub f4 rfl rfl))) hB q1 q2 q3 q4 q5 q6 q7 q8 ?_ ?_ ?_⟩
    · rw [f4.2 1 rfl, f7.2 1 rfl, ha2.1.1.2 1 rfl]; exact e1
    · rw [f4.2 7 rfl, jl_sk _ _ _ (by decide), jl_ss]
    · rw [f4.2 8 rfl, jl_ss]
  · have e5 := hn2.2.1.2.2.1
    have e6 := hn2.2.1.2.2.2.1
    have e7 := hn2.2.1.2.2.2.2.1
    refine b2432_98 μ2 _ _ ?_
    rw [e5, e7]
    refine ⟨by omega, fun z => absurd z (by omega), fun _ => ⟨_, rfl, H0 e he _ (jg_f (jg_f (jg_trans (jg_sub f1 rfl rfl) (jg_sub hn2.1.1 rfl rfl)) rfl) rfl) ?_ ?_ ?_ ?_⟩⟩
    · have u13 : ∀ {X : qm_M} {k : Nat} {z : Int}, jm_up μ X → jm_up μ (qm_set X 13 k z) := fun h => jl_ups h ⟨fun q => absurd q (by decide), fun q => absurd q (by decide), fun q => absurd q (by decide), fun q => absurd q (by decide), fun q => absurd q (by decide)⟩
      refine u13 (u13 ?_)
      exact (jl_fru ⟨jg_refl jx_MF jx_MC μ2, jl_upr μ2⟩ (jg_refl [] [] μ2) rfl rfl (jl_upr μ2)).2 |> fun _ => ⟨fun k hk => (hn2.1.2.1 k hk).trans (u1.1 k hk), fun k hk => (hn2.1.2.2.1 k hk).trans (u1.2.1 k hk), fun k hk => (hn2.1.2.2.2.1 k hk).trans (u1.2.2.1 k hk), fun k hk => (hn2.1.2.2.2.2.1 k hk).trans (u1.2.2.2.1 k hk), fun k hk => (hn2.1.2.2.2.2.2 k hk).trans (u1.2.2.2.2 k hk)⟩
    · rw [jl_sk _ _ _ (by decide), jl_sk _ _ _ (by decide), hn2.1.1.2 1 rfl]; exact e1
    · rw [jl_sk _ _ _ (by decide), jl_ss]
    · rw [jl_ss]
end
