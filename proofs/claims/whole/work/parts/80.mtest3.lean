/-! ===== a question's facts, the reference's ===== -/
section
variable {L d n : Nat} {t : Nat → Int} {b : Nat} {m : Bool} {D μ0 μ : qm_M} {o s : Nat} {S : Nat → Int} {V : qm_M → Prop}
noncomputable def jx_fc (n : Nat) (t : Nat → Int) (o : Nat) (s : Nat × Bool × qm_M) : jx_R := jx_if (jx_isW n t s.1 s.2.1 qb_tx_1019) (.inr (jx_we n t s.1, true, jx_qa s.2.2 0 1)) (jx_cq n t o s)
theorem js_2505 (hk : jd_tok n t) (ho : o ≤ 6) (hS : s = 0 ∨ ¬ (1 ≤ S (s - 1) ∧ S (s - 1) ≤ 4)) (h : jm_qt μ0 n t 0 b m D o s S 0 jd_z μ) (H1 : ∀ σ, jx_fc n t o (b, m, D) = .inr σ → ∀ μ', jm_qt μ0 n t 0 σ.1 σ.2.1 σ.2.2 o s S 0 jd_z μ' → V μ') (H0 : ∀ e, jx_fc n t o (b, m, D) = .inl e → ∀ μ', jm_qb μ0 n t e μ' → V μ') : qm_CV (qb_T L) (d + 7) 2505 [qm_P 13] μ V := by
  have hn := hk.1
  have hb := h.2.2.1
  have hst := jx_stb (t := t) hb
  obtain ⟨⟨c0, c1, c2⟩, hsl, h5⟩ := jl_qtc h
  unfold jx_fc at H1 H0
  refine b2505_0 μ _ (js_2409q (d := d + 4) (l' := qb_tx_1019) (by decide) rfl rfl hk h (fun z μ1 h1 => ⟨by decide, fun q => absurd q (by decide), fun _ => ?_⟩) (fun z μ1 h1 a1 => ⟨by decide, fun _ => ?_, fun q => absurd rfl q⟩))
  · have hw1 := jx_wlt hb z.1.1 z.1.2.1
    have hw2 := (jx_wes t hb).2.1
    exact js_2491a (x := 0) (y := 1) h1 (by omega) (fun c hc => by omega) (by unfold jx_rel; omega) fun μ2 h2 _ => ⟨rfl, H1 _ (jx_ifp z) μ2 h2⟩
  rw [jx_ifn z] at H1 H0
  unfold jx_cq at H1 H0
  refine js_2504 (F := 2000) hk ho (by omega) hS h1 (fun σ hσ μ2 h2 => ?_) (fun e he μ2 h2 => ?_)
  · have g := jl_sumr hb hσ
    have gn := g.1.2.1
    have g2 : b < σ.1 := g.2
    have hst2 := jx_stb (t := t) gn
    obtain ⟨⟨e0, e1, e2⟩, _, h25⟩ := jl_qtc h2
    have F1 : ∀ r, (jx_if (jx_isM n t σ.1 60 ∨ jx_isM n t σ.1 62 ∨ jx_isM n t σ.1 61)
      (jx_bd (jx_sum n t 2000 o (jx_st n t σ.1 + 1, false, σ.2.2)) fun s2 => .inr (s2.1, s2.2.1, jx_qa s2.2.2 (jx_if (jx_isM n t σ.1 60) 15 (jx_if (jx_isM n t σ.1 62) 16 17)) 0))
      (.inl (1, ((jx_st n t σ.1 : Nat) : Int))) : jx_R) = r → jx_bd (jx_sum n t 2000 o (b, m, D)) (fun s1 => jx_if (jx_isM n t s1.1 60 ∨ jx_isM n t s1.1 62 ∨ jx_isM n t s1.1 61)
      (jx_bd (jx_sum n t 2000 o (jx_st n t s1.1 + 1, false, s1.2.2)) fun s2 => .inr (s2.1, s2.2.1, jx_qa s2.2.2 (jx_if (jx_isM n t s1.1 60) 15 (jx_if (jx_isM n t s1.1 62) 16 17)) 0))
      (.inl (1, ((jx_st n t s1.1 : Nat) : Int)))) = r := fun r hr => by rw [hσ]; exact hr
    rw [h25]
    refine ⟨by decide, fun _ => ?_, fun q => absurd rfl q⟩
    -- no sign
    have nop : ¬ (jx_isM n t σ.1 60 ∨ jx_isM n t σ.1 62 ∨ jx_isM n t σ.1 61) → ∀ μ3, jm_qt μ0 n t 0 σ.1 σ.2.1 σ.2.2 o s S 0 jd_z μ3 → μ3 13 2 = ((jx_st n t σ.1 : Nat) : Int) → qm_CV (qb_T L) (d + 6) 2404 [qm_P 13, qm_I 1, qm_I (μ3 13 2)] μ3 (fun μ4 => none = (none : qm_V) ∧ V μ4) := fun hno μ3 h3 a3 => by
      rw [a3]
      exact js_2404 h3.2.1 (by decide) gn fun μ4 f4 hb4 => ⟨rfl, H0 _ (F1 _ (jx_ifn hno)) μ4 (jl_qbn (jl_qtb h3 (jg_sub f4 rfl rfl) hb4))⟩
    -- a sign
    have go : ∀ (x k v : Int) μ3, (x = 60 ∧ k = 15 ∧ v = 7) ∨ (x = 62 ∧ k = 16 ∧ v = 8) ∨ (x = 61 ∧ k = 17 ∧ v = 9) → jx_isM n t σ.1 x → jm_qt μ0 n t 0 σ.1 σ.2.1 σ.2.2 o s S 0 jd_z μ3 → μ3 13 2 = ((jx_st n t σ.1 : Nat) : Int) → qm_W (qb_T L) (d + 7) 2505 63 [qm_P 13, qm_I x] [] μ3 (fun v μ' => v = none ∧ V μ') := fun x k v μ3 hx hM h3 a3 => by
      have hs : jx_isM n t σ.1 60 ∨ jx_isM n t σ.1 62 ∨ jx_isM n t σ.1 61 := by
        rcases hx with ⟨rfl, _⟩ | ⟨rfl, _⟩ | ⟨rfl, _⟩
        · exact Or.inl hM
        · exact Or.inr (Or.inl hM)
        · exact Or.inr (Or.inr hM)
      have hkk : jx_if (jx_isM n t σ.1 60) (15 : Int) (jx_if (jx_isM n t σ.1 62) 16 17) = k := by
        rcases hx with ⟨rfl, rfl, _⟩ | ⟨rfl, rfl, _⟩ | ⟨rfl, rfl, _⟩
        · exact jx_ifp hM
        · rw [jx_ifn (fun y => by have := y.2.symm.trans hM.2; omega)]; exact jx_ifp hM
        · rw [jx_ifn (fun y => by have := y.2.symm.trans hM.2; omega)]; exact jx_ifn (fun y => by have := y.2.symm.trans hM.2; omega)
      have H1' : ∀ s, jx_bd (jx_sum n t 2000 o (jx_st n t σ.1 + 1, false, σ.2.2)) (fun s2 => (.inr (s2.1, s2.2.1, jx_qa s2.2.2 k 0) : jx_R)) = .inr s → ∀ μ', jm_qt μ0 n t 0 s.1 s.2.1 s.2.2 o _ S 0 jd_z μ' → V μ' := fun s' e => H1 s' (F1 _ ((jx_ifp hs).trans (by rw [hkk]; exact e)))
      have H0' : ∀ s, jx_bd (jx_sum n t 2000 o (jx_st n t σ.1 + 1, false, σ.2.2)) (fun s2 => (.inr (s2.1, s2.2.1, jx_qa s2.2.2 k 0) : jx_R)) = .inl s → ∀ μ', jm_qb μ0 n t s μ' → V μ' := fun s' e => H0 s' (F1 _ ((jx_ifp hs).trans (by rw [hkk]; exact e)))
      clear H1 H0
      have hlt := hM.1
      have h4 := jl_qtM h3 a3 hlt (by omega)
      -- which code
      have pick : ∀ μ4, (∀ v', v' = v → qm_W (qb_T L) (d + 7) 2505 102 [qm_P 13, qm_I x] [qm_I v', qm_P 13] μ4 (fun v μ' => v = none ∧ V μ')) → (-2147483648 ≤ x ∧ x < 2147483648) ∧ ((x = 60 → (qm_W (qb_T L) (d + 7) 2505 102 [qm_P 13, qm_I x] [qm_I 7, qm_P 13] μ4 (fun v μ' => v = none ∧ V μ'))) ∧ (¬ (x = 60) → ((-2147483648 ≤ x ∧ x < 2147483648) ∧ ((x = 62 → (qm_W (qb_T L) (d + 7) 2505 102 [qm_P 13, qm_I x] [qm_I 8, qm_P 13] μ4 (fun v μ' => v = none ∧ V μ'))) ∧ (¬ (x = 62) → (qm_W (qb_T L) (d + 7) 2505 102 [qm_P 13, qm_I x] [qm_I 9, qm_P 13] μ4 (fun v μ' => v = none ∧ V μ'))))))) := fun μ4 K => ⟨by omega, fun q => K 7 (by omega), fun q => ⟨by omega, fun q2 => K 8 (by omega), fun q2 => K 9 (by omega)⟩⟩
      refine b2505_63 μ3 _ _ (js_2504 (F := 2000) hk ho (by omega) hS h4 (fun σ2 hσ2 μ4 h5' => pick μ4 fun v' hv' => ?_) (fun e he μ4 h5' => pick μ4 fun v' hv' => ?_))
      · have g3 := jl_sumr (s := (jx_st n t σ.1 + 1, false, σ.2.2)) hlt hσ2
        have g3n := g3.1.2.1
        have g3l : jx_st n t σ.1 + 1 < σ2.1 := g3.2
        have hlc := jl_qlt (b := σ.1) ⟨e0, e1, e2⟩ (show σ.1 < jx_st n t σ.1 + 1 by omega) g3.1
        refine b2505_102 μ4 _ _ _ (js_2491a (x := k) (y := 0) h5' (by omega) hlc (by unfold jx_rel; omega) fun μ5 h6 _ => ⟨rfl, H1' _ (congrArg (fun x => jx_bd x _) hσ2) μ5 h6⟩)
      · obtain ⟨⟨w1, w2⟩, w3⟩ := h5'.1
        refine b2505_102 μ4 _ _ _ (b2491_0 _ _ _ ⟨by omega, rfl, rfl, H0' e (congrArg (fun x => jx_bd x _) he) _ ?_⟩)
        have ff : jd_fm [65] [91] μ4 (qm_set (qm_set μ4 91 (μ4 13 65).toNat v') 13 65 (μ4 13 65 + 1)) := jg_f (jg_c (jg_refl _ _ _) rfl rfl) rfl
        exact ⟨jg_trans h5'.1.2 (jg_sub ff rfl rfl), jl_badf h5'.2 ff rfl rfl rfl rfl rfl⟩
    refine js_2407 hk gn h2.2.1 (fun hlt μ3 f3 hp3 a3 => ?_) (fun hen μ3 f3 hp3 a3 => ?_)
    · have hbx := hk.2 _ hlt
      have h3 := jl_qtm h2 (jg_sub f3 rfl rfl) hp3 (Nat.le_refl _) gn
      refine ⟨by omega, fun q => ?_, fun q => ⟨by omega, fun q2 => ?_, fun q2 => ⟨by omega, fun q3 => ?_, fun q3 => ?_⟩⟩⟩
      · rw [q]; exact go 60 15 7 μ3 (Or.inl ⟨rfl, rfl, rfl⟩) ⟨hlt, q⟩ h3 a3
      · rw [q2]; exact go 62 16 8 μ3 (Or.inr (Or.inl ⟨rfl, rfl, rfl⟩)) ⟨hlt, q2⟩ h3 a3
      · rw [q3]; exact go 61 17 9 μ3 (Or.inr (Or.inr ⟨rfl, rfl, rfl⟩)) ⟨hlt, q3⟩ h3 a3
      · exact nop (by rintro (y | y | y); exact q y.2; exact q2 y.2; exact q3 y.2) μ3 h3 a3
    · have h3 := jl_qtm h2 (jg_sub f3 rfl rfl) hp3 (Nat.le_refl _) gn
      have hno : ∀ x, ¬ jx_isM n t σ.1 x := fun x y => by have := y.1; omega
      exact ⟨by decide, fun q => absurd q (by decide), fun _ => ⟨by decide, fun q => absurd q (by decide), fun _ => ⟨by decide, fun q => absurd q (by decide), fun _ => nop (by rintro (y | y | y); exact hno _ y; exact hno _ y; exact hno _ y) μ3 h3 a3⟩⟩⟩
  · have e5 := h2.2.2.2.1
    have ek := h2.2.2.2.2.1
    rw [e5]
    exact ⟨by omega, fun z2 => by omega, fun _ => ⟨rfl, H0 e (congrArg (fun x => jx_bd x _) he) μ2 (jl_qbn h2)⟩⟩
end
