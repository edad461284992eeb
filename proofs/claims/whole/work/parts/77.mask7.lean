/-! ===== a question's parts, the reference's: any ===== -/
theorem jl_bdi {A B : Type} (a : A) (f : A → Sum (Int × Int) B) : jx_bd (.inr a) f = f a := rfl
section
variable {L d n : Nat} {t : Nat → Int} {a b : Nat} {m : Bool} {D μ0 μ : qm_M} {o s : Nat} {S : Nat → Int} {V : qm_M → Prop} {x1 : Int}
theorem jm_Ps (hk : jd_tok n t) {F : Nat} (hP : jm_Pf L d x1 V μ0 n t F) (hR : jm_R1 L d x1 V μ0 n t F) (hR2 : jm_R2 L d x1 V μ0 n t F) : jm_Pf L d x1 V μ0 n t (F + 1) := fun a o b m D s S μ has ho hF h H1 H0 w2 w3 w4 w5 => by
  have hn := hk.1
  have hb := h.2.2.1
  have hst := jx_stb (t := t) hb
  obtain ⟨hc, hsl, h5⟩ := jl_qtc h
  unfold jx_qs at H1 H0
  have wlt : ∀ l, jx_isW n t b m l → b < jx_we n t b ∧ jx_we n t b ≤ n := fun l z => by
    have := jx_wlt hb z.1.1 z.1.2.1
    exact ⟨by omega, (jx_wes t hb).2.1⟩
  have nM : ∀ {l : List Nat}, jx_isW n t b m l → ¬ jx_isM n t b 40 := fun z => jx_isWM z (by unfold jx_le; decide)
  refine jl_Pscan hk h (fun hM r2 μ2 h2 a2 => ?_) (fun hW r1 r2 μ2 h2 a2 => ?_) (fun hno r1 r2 μ2 hr3 hw h2 a2 => ?_) (fun hM hW hC r1 r2 μ2 h2 a2 => ?_)
  -- a round bracket
  · have nW : ∀ l, ¬ jx_isW n t b m l := fun l z => nM z hM
    have nN : ¬ jx_isN n t b m := fun z => by have := z.2.1; rw [hM.2] at this; unfold jx_di at this; omega
    rw [jx_ifn nN, jx_ifn (nW qb_tx_1021), jx_ifn (nW qb_tx_1022), jx_ifn (nW qb_tx_1023), jx_ifn (show ¬ (jx_isW n t b m qb_tx_1024 ∨ jx_isW n t b m qb_tx_1025) from fun z => z.elim (nW _) (nW _)), jx_ifn (show ¬ (jx_isW n t b m qb_tx_1026 ∨ jx_isW n t b m qb_tx_1027 ∨ jx_isW n t b m qb_tx_1028 ∨ jx_isW n t b m qb_tx_1029) from fun z => z.elim (nW _) fun z => z.elim (nW _) fun z => z.elim (nW _) (nW _)), jx_ifp hM] at H1 H0
    have H1' := H1
    have H0' := H0
    clear H1 H0
    have hlt := hM.1
    refine js_2492 (d := d + 3) hk h2 ho (by decide) (fun y μ3 h3 a3 => ?_) (fun y μ3 h3 a3 => ?_)
    · rw [if_neg (by omega)] at H1' H0'
      have h4 := jl_qtM h3 (a3.trans a2) hlt (by omega)
      refine b2502_181 _ _ _ _ _ _ _ (jl_qsum (a := a) (s := s + 1) (S := jx_ps S s 20) hk hP hR hR2 (by omega) (by omega) (by omega) (Or.inr ?_) (Or.inr ?_) h4 (fun σ hσ g1 g2 g3 l' pd' μ5 hp5 h5' => ?_) (fun e he => H0' e (congrArg (fun x => jx_bd x _) he)) _ _ _ _)
      · rw [show s + 1 - 1 = s by omega, jl_psn]; decide
      · rw [show s + 1 - 1 = s by omega, jl_psn]; decide
      · refine jl_endB (D' := σ.2.2) hk h5' (by omega) (Or.inl ⟨jl_psn _ _ _, rfl⟩) hp5 g3 (fun z μ6 h6 => ?_) (fun z μ6 h6 => H0' _ ((congrArg (fun x => jx_bd x _) hσ).trans (jx_ifn z)) μ6 h6)
        exact H1' _ ((congrArg (fun x => jx_bd x _) hσ).trans (jx_ifp z)) μ6 (jl_qtS h6 (jl_pso S s 20))
    · have h4 := jl_qnat h3 (a3.trans a2) hlt
      exact b2502_181 _ _ _ _ _ _ _ (jl_P2b (Or.inr rfl) h4 (H0' _ (if_pos y)))
  -- a pair
  · have nN : ¬ jx_isN n t b m := by
      rcases hW with z | z
      · exact jx_isWN z
      · exact jx_isWN z
    have nU : ∀ l, l ≠ qb_tx_1024 → l ≠ qb_tx_1025 → ¬ jx_isW n t b m l := fun l l1 l2 z => by
      rcases hW with y | y
      · exact l1 (jx_isWu z y)
      · exact l2 (jx_isWu z y)
    rw [jx_ifn nN, jx_ifn (nU qb_tx_1021 (by decide) (by decide)), jx_ifn (nU qb_tx_1022 (by decide) (by decide)), jx_ifn (nU qb_tx_1023 (by decide) (by decide)), jx_ifp hW] at H1 H0
    have H1' := H1
    have H0' := H0
    clear H1 H0
    have hw : b < jx_we n t b ∧ jx_we n t b ≤ n := by
      rcases hW with z | z
      · exact wlt _ z
      · exact wlt _ z
    have hst2 := jx_stb (t := t) hw.2
    -- behind the word
    have go : ∀ (x v : Int) (k : Int) μ3, ((x = 0 ∧ v = 22 ∧ k = 14) ∨ (x = 1 ∧ v = 21 ∧ k = 13)) → jx_if (jx_isW n t b m qb_tx_1024) (13 : Int) 14 = k → jm_qt μ0 n t a (jx_we n t b) true D o s S 0 jd_z μ3 → qm_W (qb_T L) (d + 5) 2502 100 [qm_P 13, qm_I 1, qm_I r1, qm_I r2, qm_I x, w5] [] μ3 (fun v μ1 => v = none ∧ jq_V2 L d x1 V μ1) := fun x v k μ3 hx hk2 h3 => by
      refine b2502_100 μ3 _ _ _ _ _ _ ?_
      have no : ∀ μ4, ¬ jx_isM n t (jx_we n t b) 40 → jm_qt μ0 n t a (jx_we n t b) true D o s S 0 jd_z μ4 → qm_W (qb_T L) (d + 5) 2502 117 [qm_P 13, qm_I 1, qm_I r1, qm_I r2, qm_I x, w5] [qm_I (-1)] μ4 (fun v μ1 => v = none ∧ jq_V2 L d x1 V μ1) := fun μ4 z h4 => by
        refine b2502_117 μ4 _ _ _ _ _ _ _ ⟨by decide, fun _ => b2502_143 μ4 _ _ _ _ _ _ (js_2412 (by decide) hk h4.2.2.1 h4.2.1 (fun y => absurd y z) (fun _ μ5 f5 hb5 => b2502_181 _ _ _ _ _ _ _ (jl_P2b (Or.inr rfl) (jl_qtb h4 f5 hb5) (H0' _ (jx_ifn z))))), fun q => absurd rfl q⟩
      refine js_2407 hk h3.2.2.1 h3.2.1 (fun hlt μ4 f4 hp4 a4 => ?_) (fun hen μ4 f4 hp4 a4 => ?_)
      · have hbx := hk.2 _ hlt
        have h4 := jl_qtm h3 (jg_sub f4 rfl rfl) hp4 (Nat.le_refl _) h3.2.2.1
        refine ⟨by omega, fun z => ?_, fun z => no μ4 (fun y => z y.2) h4⟩
        have hM : jx_isM n t (jx_we n t b) 40 := ⟨hlt, z⟩
        rw [jx_ifp hM] at H1' H0'
        have h38 : ∀ v', v' = v → qm_W (qb_T L) (d + 5) 2502 138 [qm_P 13, qm_I 1, qm_I r1, qm_I r2, qm_I x, qm_I ((jx_st n t (jx_we n t b) : Nat) : Int)] [qm_I v', qm_P 13] μ4 (fun v μ1 => v = none ∧ jq_V2 L d x1 V μ1) := fun v' hv => by
          rw [hv]
          refine b2502_138 μ4 _ _ _ _ _ _ _ (js_2492 (d := d + 3) hk h4 ho (by omega) (fun y μ5 h5 a5 => ?_) (fun y μ5 h5 a5 => ?_))
          · rw [if_neg (by omega)] at H1' H0'
            refine b2502_143 μ5 _ _ _ _ _ _ (js_2412 (by decide) hk h5.2.2.1 h5.2.1 (fun _ μ6 f6 hp6 => ?_) (fun y2 => absurd hM y2))
            have h6 : jm_qt μ0 n t a (jx_st n t (jx_we n t b) + 1) false D (o + 1) (s + 1) (jx_ps S s v) 0 jd_z μ6 := jl_qtm h5 f6 hp6 (by omega) hlt
            have ev : jx_ps S s v s = v := jl_psn S s v
            refine b2502_181 _ _ _ _ _ _ _ (jl_qsum (a := a) (s := s + 1) (S := jx_ps S s v) hk hP hR hR2 (by omega) (by omega) (by omega) (Or.inr ?_) (Or.inr ?_) h6 (fun σ hσ g1 g2 g3 l' pd' μ7 hp7 h7 => ?_) (fun e he => H0' e (congrArg (fun x => jx_bd x _) he)) _ _ _ _)
            · rw [show s + 1 - 1 = s by omega, ev]; omega
            · rw [show s + 1 - 1 = s by omega, ev]; omega
            have gn := g2.2.1
            have hst3 := jx_stb (t := t) gn
            refine jl_endC hk h7 (by omega) (by rw [ev]; omega) hp7 g3 (fun z2 μ8 h8 => ?_) (fun z2 μ8 h8 => H0' _ ((congrArg (fun x => jx_bd x _) hσ).trans (jx_ifn z2)) μ8 h8)
            rw [show jx_bd (jx_bd (jx_qs n t F 0 (o + 1) (jx_st n t (jx_we n t b) + 1, false, D)) (jx_qs n t F 1 (o + 1))) (jx_qs n t F 2 (o + 1)) = .inr σ from hσ] at H1' H0'
            rw [jl_bdi, jx_ifp z2] at H1' H0'
            have H1'' := H1'
            have H0'' := H0'
            clear H1' H0'
            have ev2 : jx_ps (jx_ps S s v) s (jx_ps S s v s + 2) s = v + 2 := by rw [jl_psn, ev]
            refine jl_qsum (a := a) (s := s + 1) hk hP hR hR2 (by omega) (by omega) (by omega) (Or.inr ?_) (Or.inr ?_) h8 (fun σ2 hσ2 k1 k2 k3 l2 pd2 μ9 hp9 h9 => ?_) (fun e he => H0'' e (congrArg (fun x => jx_bd x _) he))
            · rw [show s + 1 - 1 = s by omega, ev2]; omega
            · rw [show s + 1 - 1 = s by omega, ev2]; omega
            refine jl_endB (D' := jx_qa σ2.2.2 k 0) hk h9 (by omega) (Or.inr ?_) hp9 k3 (fun z3 μ10 h10 => ?_) (fun z3 μ10 h10 => H0'' _ ((congrArg (fun x => jx_bd x _) hσ2).trans (jx_ifn z3)) μ10 h10)
            · rw [ev2]
              rcases hx with ⟨_, w1, w2⟩ | ⟨_, w1, w2⟩
              · subst w1; subst w2; exact Or.inr ⟨rfl, rfl⟩
              · subst w1; subst w2; exact Or.inl ⟨rfl, rfl⟩
            · refine H1'' (jx_st n t σ2.1 + 1, false, jx_qa σ2.2.2 k 0) ((congrArg (fun x => jx_bd x _) hσ2).trans ((jx_ifp z3).trans ?_)) μ10 (jl_qtS h10 fun i hi => ?_)
              · rw [hk2]
              · rw [← jl_pso _ s _ i hi, ← jl_pso S s v i hi]
          · refine b2502_143 μ5 _ _ _ _ _ _ (js_2412b h5.2 (b2502_181 _ _ _ _ _ _ _ (jl_P2b (Or.inr rfl) h5 (H0' _ (if_pos y)))))
        rw [a4]
        refine b2502_117 μ4 _ _ _ _ _ _ _ ⟨by omega, fun q => by omega, fun _ => ⟨by omega, fun q => h38 22 (by omega), fun q => h38 21 (by omega)⟩⟩
      · have h4 := jl_qtm h3 (jg_sub f4 rfl rfl) hp4 (Nat.le_refl _) h3.2.2.1
        exact ⟨by decide, fun q => absurd q (by decide), fun _ => no μ4 (fun y => by have := y.1; omega) h4⟩
    refine b2502_77 μ2 _ _ _ _ _ _ (js_2409q (d := d + 2) (l' := qb_tx_1024) (by decide) rfl rfl hk h2 (fun z μ3 h3 => ⟨by decide, fun q => absurd q (by decide), fun _ => go 1 21 13 μ3 (Or.inr ⟨rfl, rfl, rfl⟩) (jx_ifp z) h3⟩) (fun z μ3 h3 a3 => ⟨by decide, fun _ => ?_, fun q => absurd rfl q⟩))
    refine js_2410q (d := d + 1) (l' := qb_tx_1025) (by decide) rfl rfl hk (by omega) h3 (hW.resolve_left z) fun μ4 h4 => go 0 22 14 μ4 (Or.inl ⟨rfl, rfl, rfl⟩) (jx_ifn z) h4
  -- a part of a part
  · have hw' := hw
    have hkb := jl_w7b hw
    unfold jx_w7 at hw'
    have hC : jx_isW n t b m qb_tx_1026 ∨ jx_isW n t b m qb_tx_1027 ∨ jx_isW n t b m qb_tx_1028 ∨ jx_isW n t b m qb_tx_1029 := by
      rcases hw' with w | w | w | w | w | w | w | w
      · have := w.1; omega
      · have := w.1; omega
      · have := w.1; omega
      · have := w.1; omega
      · exact Or.inl w.2
      · exact Or.inr (Or.inl w.2)
      · exact Or.inr (Or.inr (Or.inl w.2))
      · exact Or.inr (Or.inr (Or.inr w.2))
    have hcode : jx_if (jx_isW n t b m qb_tx_1026) (4 : Int) (jx_if (jx_isW n t b m qb_tx_1027) 5 (jx_if (jx_isW n t b m qb_tx_1028) 6 7)) = r2 + 1 := by
      rcases hw' with w | w | w | w | ⟨w, y⟩ | ⟨w, y⟩ | ⟨w, y⟩ | ⟨w, y⟩
      · have := w.1; omega
      · have := w.1; omega
      · have := w.1; omega
      · have := w.1; omega
      · rw [jx_ifp y]; omega
      · rw [jx_ifn (fun z => absurd (jx_isWu z y) (by decide)), jx_ifp y]; omega
      · rw [jx_ifn (fun z => absurd (jx_isWu z y) (by decide)), jx_ifn (fun z => absurd (jx_isWu z y) (by decide)), jx_ifp y]; omega
      · rw [jx_ifn (fun z => absurd (jx_isWu z y) (by decide)), jx_ifn (fun z => absurd (jx_isWu z y) (by decide)), jx_ifn (fun z => absurd (jx_isWu z y) (by decide))]; omega
    have nN : ¬ jx_isN n t b m := by
      rcases hC with z | z | z | z
      all_goals exact jx_isWN z
    have nU : ∀ l, l ≠ qb_tx_1026 → l ≠ qb_tx_1027 → l ≠ qb_tx_1028 → l ≠ qb_tx_1029 → ¬ jx_isW n t b m l := fun l l1 l2 l3 l4 z => by
      rcases hC with y | y | y | y
      · exact l1 (jx_isWu z y)
      · exact l2 (jx_isWu z y)
      · exact l3 (jx_isWu z y)
      · exact l4 (jx_isWu z y)
    rw [jx_ifn nN, jx_ifn (nU qb_tx_1021 (by decide) (by decide) (by decide) (by decide)), jx_ifn (nU qb_tx_1022 (by decide) (by decide) (by decide) (by decide)), jx_ifn (nU qb_tx_1023 (by decide) (by decide) (by decide) (by decide)), jx_ifn hno, jx_ifp hC, hcode] at H1 H0
    have H1' := H1
    have H0' := H0
    clear H1 H0
    have hwb : b < jx_we n t b ∧ jx_we n t b ≤ n := by
      rcases hC with z | z | z | z
      all_goals exact wlt _ z
    refine js_2492 (d := d + 3) hk h2 ho (by omega) (fun y μ3 h3 a3 => ?_) (fun y μ3 h3 a3 => ?_)
    · rw [if_neg (by omega)] at H1' H0'
      refine js_2500 hk (Nat.le_refl _) h3 hw (by omega) fun μ4 h4 => b2502_181 _ _ _ _ _ _ _ ?_
      have ev : jx_ps S s (60 + r2 - 3) s = 60 + r2 - 3 := jl_psn _ _ _
      refine hP a (o + 1) (jx_we n t b) true D (s + 1) _ μ4 (by omega) (by omega) (by omega) h4 (fun σ hσ μ5 h5' => ?_) (fun e he => H0' e (congrArg (fun x => jx_bd x _) he)) _ _ _ _
      have g := jl_qsr F 0 (o + 1) (jx_we n t b, true, D) σ hwb.2 hσ
      have gn := g.1.2.1
      have hlc := jl_qlt hc hwb.1 g.1
      exact jl_E1 (x := r2 + 1) h5' (by omega) has (by rw [ev]; omega) hlc (by rw [ev]; unfold jx_rel; omega) fun μ6 h6 => H1' _ (congrArg (fun x => jx_bd x _) hσ) μ6 (jl_qtS h6 (jl_pso S s _))
    · exact js_2500b (by omega) h3.2 (b2502_181 _ _ _ _ _ _ _ (jl_P2b (Or.inr rfl) h3 (H0' _ (if_pos y))))
  -- any other
  · refine jl_P184 hk h2 (fun u1 u2 => H1 _ ((jx_ifp u1).trans (if_pos u2))) (fun k k0 k3 hw => ?_) (fun p hp => ?_)
    · have hw' := hw
      unfold jx_w7 at hw'
      rcases hw' with w | ⟨rfl, w⟩ | ⟨rfl, w⟩ | ⟨rfl, w⟩ | w | w | w | w
      · have := w.1; omega
      · exact H1 _ ((jx_ifn (jx_isWN w)).trans (jx_ifp w))
      · exact H1 _ ((jx_ifn (jx_isWN w)).trans ((jx_ifn (fun z => absurd (jx_isWu z w) (by decide))).trans (jx_ifp w)))
      · exact H1 _ ((jx_ifn (jx_isWN w)).trans ((jx_ifn (fun z => absurd (jx_isWu z w) (by decide))).trans ((jx_ifn (fun z => absurd (jx_isWu z w) (by decide))).trans (jx_ifp w))))
      · have := w.1; omega
      · have := w.1; omega
      · have := w.1; omega
      · have := w.1; omega
    · rcases hp with ⟨p1, p2, rfl⟩ | ⟨p1, p2, rfl⟩
      · exact H0 _ ((jx_ifn p1).trans ((jx_ifn (fun z => p2 (Or.inl z))).trans ((jx_ifn (fun z => p2 (Or.inr (Or.inl z)))).trans ((jx_ifn (fun z => p2 (Or.inr (Or.inr z)))).trans ((jx_ifn hW).trans ((jx_ifn hC).trans (jx_ifn hM)))))))
      · exact H0 _ ((jx_ifp p1).trans (if_neg p2))
theorem jm_PR (hk : jd_tok n t) : ∀ F, jm_Pf L d x1 V μ0 n t F ∧ jm_R1 L d x1 V μ0 n t F ∧ jm_R2 L d x1 V μ0 n t F
  | 0 => ⟨fun a o b m D s S μ has ho hF => absurd hF (by omega), fun a o b m D s S l pd μ has ho hF => absurd hF (by omega), fun a o b m D s S l pd μ has ho hF => absurd hF (by omega)⟩
  | F + 1 =>
    have ih := jm_PR hk F
    ⟨jm_Ps hk ih.1 ih.2.1 ih.2.2, jm_R1s hk ih.1 ih.2.1, jm_R2s hk ih.1 ih.2.1 ih.2.2⟩
/-- a sum, the reference's -/
theorem js_2504 {x F : Nat} (hk : jd_tok n t) (ho : o ≤ 6) (hF : n - b < F) (hS : s = 0 ∨ ¬ (1 ≤ S (s - 1) ∧ S (s - 1) ≤ 4)) (h : jm_qt μ0 n t x b m D o s S 0 jd_z μ) (H1 : ∀ σ, jx_sum n t F o (b, m, D) = .inr σ → ∀ μ', jm_qt μ0 n t x σ.1 σ.2.1 σ.2.2 o s S 0 jd_z μ' → V μ') (H0 : ∀ e, jx_sum n t F o (b, m, D) = .inl e → ∀ μ', jm_qn μ0 n t e μ' → V μ') : qm_CV (qb_T L) (d + 6) 2504 [qm_P 13] μ V := by
  have e69 := h.2.2.2.2.2.1
  have q1 := (jl_q67 h).1
  refine b2504_0 μ _ ?_
  rw [e69, q1]
  have h2 : jm_qt μ0 n t s b m D o s S 0 jd_z (qm_set μ 13 69 ((s : Nat) : Int)) := jl_q69 h
  refine b2504_15 _ _ _ _ ⟨by decide, fun q => absurd q (by decide), fun _ => ?_⟩
  have ih := jm_PR (L := L) (d := d) (x1 := ((x : Nat) : Int)) (V := V) (μ0 := μ0) hk F
  have hP := jl_qsum (x1 := ((x : Nat) : Int)) (V := V) hk ih.1 ih.2.1 ih.2.2 (Nat.le_refl s) ho hF hS (Or.inl rfl) h2 (fun σ hσ g1 g2 g3 l' pd' μ3 hp3 h3 => jl_endA hk h3 hp3 g3 fun μ4 h4 => H1 σ hσ μ4 h4) H0
  have e5 : (qm_set μ 13 69 ((s + 0 : Nat) : Int)) 13 5 = 0 := (jl_qtc h2).2.2
  rw [e5]
  exact ⟨by decide, fun _ => b2502_0 _ _ (hP none none none none), fun z => absurd rfl z⟩
end
