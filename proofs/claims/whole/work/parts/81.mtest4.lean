/-! ===== a question's tests, the reference's, whole ===== -/
section
variable {L d n : Nat} {t : Nat → Int} {b : Nat} {m : Bool} {D μ0 μ : qm_M} {o s : Nat} {S : Nat → Int} {V : qm_M → Prop}
theorem jm_T0s (hk : jd_tok n t) {F : Nat} (hT : jm_T0 L d V μ0 n t F) (hR : jm_T1 L d V μ0 n t F) (hR2 : jm_T2 L d V μ0 n t F) : jm_T0 L d V μ0 n t (F + 1) := fun o b m D s S μ ho hF hS10 h H1 H0 w2 => by
  have hn := hk.1
  have hb := h.2.2.1
  have hst := jx_stb (t := t) hb
  obtain ⟨hc, hsl, h5⟩ := jl_qtc h
  unfold jx_qe at H1 H0
  -- whatever is here but a square bracket
  have cont : ∀ (x : Int) μ1, jm_qt μ0 n t 0 b m D o s S 0 jd_z μ1 → ¬ jx_isM n t b 91 → qm_CI (qb_T L) (d + 7) 2408 [qm_P 13, qm_P 78] μ1 (fun r2 μ2 => (-2147483648 ≤ r2 ∧ r2 < 2147483648) ∧ ((r2 = 0 → (qm_CV (qb_T L) (d + 7) 2505 [qm_P 13] μ2 (fun μ3 => qm_CV (qb_T L) (d + 7) 2507 [qm_P 13] μ3 (fun μ4 => (-2147483648 ≤ μ4 13 5 ∧ μ4 13 5 < 2147483648) ∧ ((μ4 13 5 = 0 → (qm_CI (qb_T L) (d + 7) 2509 [qm_P 13] μ4 (fun r5 μ5 => (-2147483648 ≤ r5 ∧ r5 < 2147483648) ∧ ((r5 = 0 → (qm_W (qb_T L) (d + 8) 2508 105 [qm_P 13, qm_I 1, qm_I x] [] μ5 (fun v μ' => v = none ∧ V μ'))) ∧ (¬ (r5 = 0) → (qm_W (qb_T L) (d + 8) 2508 106 [qm_P 13, qm_I 1, qm_I x] [qm_I 1] μ5 (fun v μ' => v = none ∧ V μ'))))))) ∧ (¬ (μ4 13 5 = 0) → (qm_W (qb_T L) (d + 8) 2508 105 [qm_P 13, qm_I 1, qm_I x] [] μ4 (fun v μ' => v = none ∧ V μ')))))))) ∧ (¬ (r2 = 0) → (qm_CV (qb_T L) (d + 7) 2492 [qm_P 13, qm_I 12, qm_I (μ2 13 2)] μ2 (fun μ3 => qm_CV (qb_T L) (d + 7) 2410 [qm_P 13, qm_P 78] μ3 (fun μ4 => qm_W (qb_T L) (d + 8) 2508 2 [qm_P 13, qm_I 1, qm_I x] [] μ4 (fun v μ' => v = none ∧ V μ'))))))) := fun x μ1 h1 hM => by
    refine js_2408q (d := d + 6) (l' := qb_tx_1020) (by decide) rfl rfl hk h1 (fun z μ2 h2 a2 => ⟨by decide, fun q => absurd q (by decide), fun _ => ?_⟩) (fun z μ2 h2 a2 => ⟨by decide, fun _ => ?_, fun q => absurd rfl q⟩)
    · rw [jx_ifn (show ¬ jx_isW n t b m qb_tx_1019 from fun y => absurd (jx_isWu y z) (by decide)), jx_ifp z] at H1 H0
      have hw1 := jx_wlt hb z.1.1 z.1.2.1
      have hw2 := (jx_wes t hb).2.1
      have ev : jx_ps S s 12 s = 12 := jl_psn S s 12
      rw [a2]
      refine js_2492 (d := d + 6) hk h2 ho (by decide) (fun y μ3 h3 a3 => ?_) (fun y μ3 h3 a3 => ?_)
      · rw [if_neg (by omega)] at H1 H0
        refine js_2410q (d := d + 4) (l' := qb_tx_1020) (by decide) rfl rfl hk (Nat.le_refl _) h3 z fun μ4 h4 => ?_
        refine hT (o + 1) (jx_we n t b) true D (s + 1) (jx_ps S s 12) μ4 (by omega) (by omega) (fun i hi => ?_) h4 (fun σ hσ μ5 h5' => ?_) (fun e he => H0 e (congrArg (fun x => jx_bd x _) he)) _
        · by_cases w : i = s
          · rw [w, ev]; decide
          · rw [← jl_pso S s 12 i (by omega)]; exact hS10 i (by omega)
        have g := jl_qer F 0 (o + 1) (jx_we n t b, true, D) σ hw2 hσ
        have gn := g.1.2.1
        have hlc := jl_qlt hc (show b < jx_we n t b by omega) g.1
        exact jl_N1 hn h5' ev hlc fun μ6 h6 => H1 _ (congrArg (fun x => jx_bd x _) hσ) μ6 (jl_qtS h6 (jl_pso S s 12))
      · exact js_2410b (d := d + 4) (n1 := 3) rfl h3.2 (jl_tTb (jl_qbn h3) (H0 _ (if_pos y)) _)
    · refine js_2505 hk ho ?_ h2 (fun σ hσ μ3 h3 => ?_) (fun e he μ3 h3 => ?_)
      · by_cases y : s = 0
        · exact Or.inl y
        · have := hS10 (s - 1) (by omega)
          exact Or.inr (by omega)
      · have HN : jt_N L d V μ3 := by
          refine H1 σ ?_ μ3 h3
          unfold jx_fc at hσ
          by_cases y : jx_isW n t b m qb_tx_1019
          · rw [jx_ifp y] at hσ ⊢; exact hσ
          · rw [jx_ifn y] at hσ ⊢
            exact (jx_ifn z).trans ((jx_ifn hM).trans hσ)
        refine HN (d + 7) _ (by omega) fun μ4 e5 G => ?_
        rw [e5]
        exact ⟨by decide, fun _ => qc_I G (Nat.le_refl _) fun v μ5 hr => ⟨hr.1, fun q => hr.2.1 q x, fun q => hr.2.2 q x⟩, fun q => absurd rfl q⟩
      · have H0' : ∀ μ', jm_qb μ0 n t e μ' → V μ' := by
          refine H0 e ?_
          unfold jx_fc at he
          by_cases y : jx_isW n t b m qb_tx_1019
          · rw [jx_ifp y] at he ⊢; exact he
          · rw [jx_ifn y] at he ⊢
            exact (jx_ifn z).trans ((jx_ifn hM).trans he)
        have e5 := h3.2.2.2.1
        have ek := h3.2.2.2.2.1
        refine b2507_0 μ3 _ ?_
        rw [e5]
        refine ⟨by omega, fun y => by omega, fun _ => ⟨rfl, ?_⟩⟩
        exact ⟨by omega, fun y => by omega, fun _ => jl_t105b h3 H0'⟩
  refine b2508_2 μ _ _ _ ⟨by decide, fun q => absurd q (by decide), fun _ => ?_⟩
  rw [h5]
  refine ⟨by decide, fun _ => js_2407 hk hb h.2.1 (fun hlt μ1 f1 hp1 a1 => ?_) (fun hen μ1 f1 hp1 a1 => ?_), fun z => absurd rfl z⟩
  · have hbx := hk.2 _ hlt
    have h1 := jl_qtm h (jg_sub f1 rfl rfl) hp1 (Nat.le_refl _) hb
    refine ⟨by omega, fun q => ?_, fun q => cont _ μ1 h1 (fun y => q y.2)⟩
    have hM : jx_isM n t b 91 := ⟨hlt, q⟩
    have nW : ∀ l, ¬ jx_isW n t b m l := fun l z => jx_isWM z (by unfold jx_le; decide) hM
    rw [jx_ifn (nW qb_tx_1019), jx_ifn (nW qb_tx_1020), jx_ifp hM] at H1 H0
    have ev : jx_ps S s 25 s = 25 := jl_psn S s 25
    rw [a1]
    refine js_2492 (d := d + 6) hk h1 ho (by decide) (fun y μ3 h3 a3 => ?_) (fun y μ3 h3 a3 => ?_)
    · rw [if_neg (by omega)] at H1 H0
      have h4 := jl_qtM h3 (a3.trans a1) hlt (by omega)
      refine jl_ttest (s := s + 1) (S := jx_ps S s 25) hk hT hR hR2 (by omega) (by omega) (fun i hi => ?_) (Or.inr ?_) h4 (fun σ hσ g1 g2 na no l' pd' μ5 hp5 h5' => ?_) (fun e he => H0 e (congrArg (fun x => jx_bd x _) he)) _
      · by_cases w : i = s
        · rw [w, ev]; decide
        · rw [← jl_pso S s 25 i (by omega)]; exact hS10 i (by omega)
      · rw [show s + 1 - 1 = s by omega, ev]
      · exact jl_endS hk h5' ev hp5 na no (fun z μ6 h6 => H1 _ ((congrArg (fun x => jx_bd x _) hσ).trans (jx_ifp z)) μ6 (jl_qtS h6 (jl_pso S s 25))) (fun z μ6 h6 => H0 _ ((congrArg (fun x => jx_bd x _) hσ).trans (jx_ifn z)) μ6 h6)
    · exact jl_tTb (jl_qbn (jl_qnat h3 (a3.trans a1) hlt)) (H0 _ (if_pos y)) _
  · have h1 := jl_qtm h (jg_sub f1 rfl rfl) hp1 (Nat.le_refl _) hb
    exact ⟨by decide, fun q => absurd q (by decide), fun _ => cont _ μ1 h1 (fun y => by have := y.1; omega)⟩
theorem jm_TR (hk : jd_tok n t) : ∀ F, jm_T0 L d V μ0 n t F ∧ jm_T1 L d V μ0 n t F ∧ jm_T2 L d V μ0 n t F
  | 0 => ⟨fun o b m D s S μ ho hF => absurd hF (by omega), fun o b m D s S l pd μ ho hF => absurd hF (by omega), fun o b m D s S l pd μ ho hF => absurd hF (by omega)⟩
  | F + 1 =>
    have ih := jm_TR hk F
    ⟨jm_T0s hk ih.1 ih.2.1 ih.2.2, jm_T1s hk ih.1 ih.2.1, jm_T2s hk ih.1 ih.2.1 ih.2.2⟩
/-- a test, the reference's -/
theorem js_2508 {F : Nat} (hk : jd_tok n t) (ho : o ≤ 6) (hF : n - b < F) (h : jm_qt μ0 n t 0 b m D o 0 S 0 jd_z μ) (H1 : ∀ σ, jx_tst n t F o (b, m, D) = .inr σ → ∀ μ', jm_qt μ0 n t 0 σ.1 σ.2.1 σ.2.2 o 0 S 0 jd_z μ' → V μ') (H0 : ∀ e, jx_tst n t F o (b, m, D) = .inl e → ∀ μ', jm_qb μ0 n t e μ' → V μ') : qm_CV (qb_T L) (d + 8) 2508 [qm_P 13] μ V := by
  have ih := jm_TR (L := L) (d := d) (V := V) (μ0 := μ0) hk F
  exact b2508_0 μ _ (jl_ttest hk ih.1 ih.2.1 ih.2.2 ho hF (fun i hi => absurd hi (by omega)) (Or.inl rfl) h (fun σ hσ g1 g2 na no l' pd' μ3 hp3 h3 => jl_endT hk h3 hp3 na no fun μ4 h4 => H1 σ hσ μ4 h4) H0 none)
end
