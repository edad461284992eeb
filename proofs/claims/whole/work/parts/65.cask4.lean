/-! ===== a question's products, the class's ===== -/
section
variable {L n : Nat} {t : Nat → Int} {μ0 : qm_M}
theorem jl_R2 (hk : jd_tok n t) {F : Nat} (hP : jc_P L n t μ0 F) (hR : jc_R1 L n t μ0 F) (hR2 : jc_R2 L n t μ0 F) : jc_R2 L n t μ0 (F + 1) := fun o b m D μ dd Q j w4 ho hd hF hc hj h H1 H0 => by
  have hn := hk.1
  obtain ⟨d, rfl⟩ : ∃ e, dd = e + 5 := ⟨dd - 5, by omega⟩
  obtain ⟨h1, h2, h3, h4, h5, h6, h7⟩ := id h
  obtain ⟨c, hc1, hc2⟩ := hc
  have hst := jx_stb (t := t) h6
  unfold jx_qs at H1 H0
  -- a sign is here
  have go : ∀ k : Int, (jx_isM n t b 43 ∨ jx_isM n t b 45) → jx_if (jx_isM n t b 43) (9 : Int) 10 = k → j < 1600 → qm_W (qb_T L) (d + 5) 1209 62 [qm_P 11, qm_I ((o : Nat) : Int), qm_I 1, qm_I ((j : Nat) : Int), w4] [qm_I k] μ (fun v μ' => ∃ r, v = some (.inl r) ∧ Q r μ') := fun k hs hk2 hj2 => by
    rw [jx_ifp hs] at H1 H0
    have hlt : jx_st n t b < n := by
      rcases hs with z | z
      · exact z.1
      · exact z.1
    have hnl : ¬ jx_le (t (jx_st n t b)) ∧ ¬ jx_di (t (jx_st n t b)) := by
      rcases hs with z | z <;> (have := z.2; unfold jx_le jx_di; omega)
    refine b1209_62 μ _ _ _ _ w4 _ (js_stepM h7 hk h6 h2 hlt hnl.1 hnl.2 fun μ1 f1 hx1 => ?_)
    have ha := jl_qts h f1 hx1 hlt
    refine jl_prod (o := o) (b := jx_st n t b + 1) (m := false) (D := D) (dd := d + 4) hP hR ho (by omega) (by omega) ⟨c, hc1, by omega⟩ ha (fun s hs2 μ2 h2' => ⟨by decide, fun q => absurd q (by decide), fun _ => ?_⟩) (fun e he μ2 h2' => ⟨by decide, fun _ => ?_, fun q => absurd rfl q⟩)
    · obtain ⟨s0, e0, e1⟩ := jl_bdr hs2
      have a0 := jl_qsr F 0 o (jx_st n t b + 1, false, D) s0 hlt e0
      have a1' := jl_qsr F 1 o s0 s a0.1.2.1 e1
      have a := jl_qokt a0.1 a1'.1
      obtain ⟨c', f1', f2'⟩ := jl_cleq a ⟨c, hc1, by show c ≤ jx_st n t b + 1; omega⟩
      have a1 : jx_st n t b + 1 < s.1 := Nat.lt_of_lt_of_le (a0.2 rfl) a1'.1.1
      have a2 := a.2.1
      rw [hs2] at H1 H0
      have eqk : jx_if (jx_isM n t (b, m, D).1 43) (9 : Int) 10 = k := hk2
      refine js_1202 h2' (by rw [f1']; exact ⟨by omega, by omega⟩) fun μ3 h3' => ⟨by decide, fun q => absurd q (by decide), fun _ => b1209_94 μ3 _ _ _ _ _ _ ?_⟩
      rw [jl_cs]
      refine hR2 o s.1 s.2.1 (jx_qa s.2.2 k 0) μ3 (d + 5) Q (j + 1) _ ho hd (by omega) ⟨c' + 1, by rw [jl_qac, f1']; rfl, ?_⟩ (by omega) h3' (fun s' hs' => H1 s' ?_) (fun e' he' => H0 e' ?_)
      · have := a.2.2 c hc1
        obtain ⟨c3, g1, g2, g3⟩ := this
        have : c3 = c' := by rw [f1'] at g1; omega
        have g4 : (jx_st n t b + 1, false, D).1 = jx_st n t b + 1 := rfl
        rw [g4] at g3
        omega
      · show jx_qs n t F 2 o (s.1, s.2.1, jx_qa s.2.2 (jx_if (jx_isM n t (b, m, D).1 43) 9 10) 0) = _
        rw [eqk]; exact hs'
      · show jx_qs n t F 2 o (s.1, s.2.1, jx_qa s.2.2 (jx_if (jx_isM n t (b, m, D).1 43) 9 10) 0) = _
        rw [eqk]; exact he'
    · refine b1209_93 μ2 _ _ _ _ _ (b1209_94 μ2 _ _ _ _ _ _ ?_)
      rw [jl_cs]
      exact jl_bad9 (by omega) (H0 e (by rw [he]; rfl) μ2 h2')
  have stop : ¬ (jx_isM n t b 43 ∨ jx_isM n t b 45) → ((1 : Int) = 0 ∨ (1 : Int) = 1) ∧ ∃ r, qm_I 1 = some (.inl r) ∧ Q r μ := fun z => ⟨Or.inr rfl, _, rfl, H1 (b, m, D) (jx_ifn z) μ h⟩
  refine b1209_8 μ _ _ _ _ w4 ⟨by omega, fun q => stop (fun z => ?_), fun q => ⟨by decide, fun q2 => absurd q2 (by decide), fun _ => ?_⟩⟩
  · rcases z with z | z
    · have := z.1; omega
    · have := z.1; omega
  · refine js_2008 (by decide) (by unfold jx_le jx_di; decide) hk h2 (fun z => ⟨by decide, fun q2 => absurd q2 (by decide), fun _ => ?_⟩) (fun z => ⟨by decide, fun _ => ?_, fun q2 => absurd rfl q2⟩)
    · exact b1209_43 μ _ _ _ _ w4 (js_2008 (by decide) (by unfold jx_le jx_di; decide) hk h2 (fun z => ⟨by decide, fun q2 => absurd q2 (by decide), fun _ => go 9 (Or.inl z) (jx_ifp z) (by omega)⟩) (fun z2 => absurd z z2))
    · refine js_2008 (by decide) (by unfold jx_le jx_di; decide) hk h2 (fun z2 => ⟨by decide, fun q2 => absurd q2 (by decide), fun _ => ?_⟩) (fun z2 => ⟨by decide, fun _ => stop (fun y => by rcases y with y | y; exact z y; exact z2 y), fun q2 => absurd rfl q2⟩)
      exact b1209_43 μ _ _ _ _ w4 (js_2008 (by decide) (by unfold jx_le jx_di; decide) hk h2 (fun z3 => absurd z3 z) (fun z3 => ⟨by decide, fun _ => go 10 (Or.inr z2) (jx_ifn z) (by omega), fun q2 => absurd rfl q2⟩))
end
