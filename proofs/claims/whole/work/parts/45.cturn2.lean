/-! ===== a turn, the class's, whole ===== -/
section
variable {L n : Nat} {t : Nat → Int} {μ0 : qm_M} {c0 c1 c2 : Nat}
theorem jl_tokdok {b : Nat} {D : qm_M} {P : Nat} {s : Nat × Bool × qm_M} (h : jx_tok n b D P s) (hP : P ≤ 128) (hD : jx_dok D c0 c1 c2) (hc : ∃ c : Nat, D 4 5 = (c : Int) ∧ c ≤ 60 + 128 * b) : jx_dok s.2.2 c0 c1 c2 ∧ jx_lv s.2.2 ∧ ∃ c : Nat, s.2.2 4 5 = (c : Int) ∧ c ≤ 60 + 128 * s.1 := by
  obtain ⟨a1, a2, a3, a4, a5⟩ := h
  obtain ⟨c, e1, e2⟩ := hc
  obtain ⟨c', f1, f2, f3⟩ := a5 c e1
  refine ⟨jl_doksm a3 hD, a4, c', f1, ?_⟩
  have : (s.1 - b) * P ≤ (s.1 - b) * 128 := Nat.mul_le_mul_left _ hP
  omega
theorem jl_p7 (o : Nat) : 2 ^ (7 - o) ≤ 128 := Nat.le_trans (Nat.pow_le_pow_right (n := 2) (by decide) (show 7 - o ≤ 7 by omega)) (by decide)
theorem js_1011 (hk : jd_tok n t) : ∀ F : Nat,
    (∀ (o b : Nat) (m : Bool) (D μ : qm_M) (dd : Nat) (Q : Int → qm_M → Prop), o ≤ 7 → 12 ≤ dd + o → 2 * (n - b) + 1 ≤ F → jx_dok D c0 c1 c2 → jx_lv D → (∃ c : Nat, D 4 5 = (c : Int) ∧ c ≤ 60 + 128 * b) → jc_at μ0 n t b m D μ → (∀ s, jx_turn n t F false o (b, m, D) = .inr s → ∀ μ', jc_at μ0 n t s.1 s.2.1 s.2.2 μ' → Q 1 μ') → (∀ e, jx_turn n t F false o (b, m, D) = .inl e → ∀ μ', jc_no μ0 e μ' → Q 0 μ') → qm_CI (qb_T L) dd 1011 [qm_P 5, qm_I ((o : Nat) : Int)] μ Q) ∧
    (∀ (o b : Nat) (m : Bool) (D μ : qm_M) (dd : Nat) (Q : Int → qm_M → Prop) (x3 : Int) (j : Nat), o < 7 → 12 ≤ dd + o → 2 * (n - b) + 2 ≤ F → jx_dok D c0 c1 c2 → jx_lv D → (∃ c : Nat, D 4 5 = (c : Int) ∧ c ≤ 60 + 128 * b) → jc_at μ0 n t b m D μ → 0 < j → j ≤ b → (∀ s, jx_turn n t F true o (b, m, D) = .inr s → ∀ μ', jc_at μ0 n t s.1 s.2.1 s.2.2 μ' → Q 1 μ') → (∀ e, jx_turn n t F true o (b, m, D) = .inl e → ∀ μ', jc_no μ0 e μ' → Q 0 μ') → qm_W (qb_T L) dd 1011 64 [qm_P 5, qm_I ((o : Nat) : Int), qm_I 0, qm_I x3, qm_I ((j : Nat) : Int)] [] μ (fun v μ' => ∃ r, v = some (.inl r) ∧ Q r μ'))
  | 0 => ⟨fun o b m D μ dd Q _ _ h => by omega, fun o b m D μ dd Q x3 j _ _ h => by omega⟩
  | F + 1 => by
    obtain ⟨ih1, ih2⟩ := js_1011 hk F
    have hn := hk.1
    refine ⟨fun o b m D μ dd Q ho hdd hF hD hl hc h H1 H0 => ?_, fun o b m D μ dd Q x3 j ho hdd hF hD hl hc h hj0 hj H1 H0 => ?_⟩
    · obtain ⟨d, rfl⟩ : ∃ e, dd = e + 5 := ⟨dd - 5, by omega⟩
      obtain ⟨h1, h2, h3, h4, h5, h6, h7⟩ := id h
      obtain ⟨c, hc1, hc2⟩ := hc
      have hst := jx_stb (t := t) h6
      unfold jx_turn at H1 H0
      have e45 : ∀ μ', jc_dr D μ' → μ' 4 5 = (c : Int) := fun μ' hd => by rw [hd 4 rfl]; exact hc1
      -- where there are too many open
      refine b1011_0 μ _ _ (js_2009 (l := qb_tx_1012) rfl (jx_lw12 qb_tx_1012 (by decide)) hk h6 h2 (fun z1 => ⟨by decide, fun q => absurd q (by decide), fun _ => ?_⟩) (fun z1 => ⟨by decide, fun _ => ?_, fun q => absurd rfl q⟩))
      · rw [jx_ifp z1] at H1 H0
        have hwe := (jx_wes t h6).2.1
        have hlt := jx_wlt h6 z1.1.1 z1.1.2.1
        refine b1011_31 μ _ _ _ ⟨by omega, fun q => ?_, fun q => js_2006 h3 h2 fun μ' f a1 a2 => ⟨Or.inl rfl, _, rfl, H0 _ ?_ μ' (jl_atn h f a1 a2)⟩⟩
        · rw [jx_ifn (by omega)] at H1 H0
          refine js_stepL h7 hk h6 h2 z1.1 fun μ1 f hx1 => ?_
          have ha := jl_ats h f hx1 hwe
          rw [e45 μ1 ha.2.2.2.2.1]
          refine b1011_64 μ1 _ _ _ _ _ ⟨by decide, fun q => absurd q (by decide), fun _ => ⟨by decide, fun _ => ?_, fun q => absurd rfl q⟩⟩
          refine b1011_88 μ1 _ _ _ _ _ ?_
          rw [jl_cs]
          refine ih1 (o + 1) (jx_we n t b) true D μ1 (d + 4) _ (by omega) (by omega) (by omega) hD hl ⟨c, hc1, by omega⟩ ha (fun s hs μ2 ha2 => ⟨by decide, fun q => absurd q (by decide), fun _ => ?_⟩) (fun e he μ2 hn2 => ⟨by decide, fun _ => ⟨_, rfl, H0 e ?_ μ2 hn2⟩, fun q => absurd rfl q⟩)
          · obtain ⟨a1, a2, a3, a4, a5⟩ := (jl_turnqr F).1 (o + 1) (jx_we n t b, true, D) s (by omega) hwe (by show 0 ≤ D 4 3; rw [hD.2.2.1]; omega) (by show 0 ≤ D 4 5; omega) hl hs
            obtain ⟨c', f1, f2, f3⟩ := a5 c hc1
            have f4 : (s.1 - jx_we n t b) * 2 ^ (7 - (o + 1)) ≤ (s.1 - jx_we n t b) * 128 := Nat.mul_le_mul_left _ (jl_p7 _)
            have f5 : s.1 ≤ n := a2
            refine b1011_64 μ2 _ _ _ _ _ ⟨by decide, fun q => absurd q (by decide), fun _ => ⟨by decide, fun q => absurd q (by decide), fun _ => ⟨by decide, fun q => absurd q (by decide), fun _ => ?_⟩⟩⟩
            refine b1011_106 μ2 _ _ _ _ _ ⟨by decide, fun q => absurd q (by decide), fun _ => ?_⟩
            refine js_809 ha2 f1 f2 (by
              have f3' : c' ≤ c + (s.1 - jx_we n t b) * 2 ^ (7 - (o + 1)) := f3
              omega) fun μ3 ha3 => ⟨_, rfl, H1 (s.1, s.2.1, jx_dup s.2.2 c) ?_ μ3 ha3⟩
            rw [hs]
            show Sum.inr (s.1, s.2.1, jx_dup s.2.2 (D 4 5).toNat) = _
            rw [hc1, Int.toNat_natCast]
          · rw [he]; rfl
        · rw [jx_ifp (by omega)]
      · rw [jx_ifn z1] at H1 H0
        refine js_2008 (by decide) (by unfold jx_le jx_di; decide) hk h2 (fun z2 => ⟨by decide, fun q => absurd q (by decide), fun _ => ?_⟩) (fun z2 => ⟨by decide, fun _ => ?_, fun q => absurd rfl q⟩)
        · rw [jx_ifp z2] at H1 H0
          refine b1011_31 μ _ _ _ ⟨by omega, fun q => ?_, fun q => js_2006 h3 h2 fun μ' f a1 a2 => ⟨Or.inl rfl, _, rfl, H0 _ ?_ μ' (jl_atn h f a1 a2)⟩⟩
          · rw [jx_ifn (by omega)] at H1 H0
            have hz := z2.2
            refine js_stepM h7 hk h6 h2 z2.1 (by rw [hz]; unfold jx_le; decide) (by rw [hz]; unfold jx_di; decide) fun μ1 f hx1 => ?_
            have hlt := z2.1
            have ha := jl_ats h f hx1 hlt
            rw [e45 μ1 ha.2.2.2.2.1]
            refine b1011_64 μ1 _ _ _ _ _ ⟨by decide, fun q => absurd q (by decide), fun _ => ⟨by decide, fun _ => ?_, fun q => absurd rfl q⟩⟩
            refine b1011_88 μ1 _ _ _ _ _ ?_
            rw [jl_cs]
            refine ih1 (o + 1) (jx_st n t b + 1) false D μ1 (d + 4) _ (by omega) (by omega) (by omega) hD hl ⟨c, hc1, by omega⟩ ha (fun s hs μ2 ha2 => ⟨by decide, fun q => absurd q (by decide), fun _ => ?_⟩) (fun e he μ2 hn2 => ⟨by decide, fun _ => ⟨_, rfl, H0 e ?_ μ2 hn2⟩, fun q => absurd rfl q⟩)
            · have tk := (jl_turnqr F).1 (o + 1) (jx_st n t b + 1, false, D) s (by omega) hlt (by show 0 ≤ D 4 3; rw [hD.2.2.1]; omega) (by show 0 ≤ D 4 5; omega) hl hs
              obtain ⟨g1, g2, g3⟩ := jl_tokdok tk (jl_p7 _) hD ⟨c, hc1, by show c ≤ 60 + 128 * (jx_st n t b + 1); omega⟩
              have a1 : jx_st n t b + 1 < s.1 := tk.1
              have a2 : s.1 ≤ n := tk.2.1
              rw [hs] at H1 H0
              exact ih2 o s.1 s.2.1 s.2.2 μ2 (d + 5) Q ((c : Nat) : Int) 1 (by omega) (by omega) (by omega) g1 g2 g3 ha2 (by decide) (by omega) H1 H0
            · rw [he]; rfl
          · rw [jx_ifp (by omega)]
        · rw [jx_ifn z2] at H1 H0
          exact js_1012 hk hD (by rw [hc1]; exact ⟨by omega, by omega⟩) h (fun s hs μ' ha => ⟨Or.inr rfl, _, rfl, H1 s hs μ' ha⟩) (fun e he μ' hn2 => ⟨Or.inl rfl, _, rfl, H0 e he μ' hn2⟩)
    · obtain ⟨d, rfl⟩ : ∃ e, dd = e + 5 := ⟨dd - 5, by omega⟩
      obtain ⟨h1, h2, h3, h4, h5, h6, h7⟩ := id h
      obtain ⟨c, hc1, hc2⟩ := hc
      have hst := jx_stb (t := t) h6
      unfold jx_turn at H1 H0
      have at106 : ¬ jx_bgn n t b m → qm_W (qb_T L) (d + 5) 1011 106 [qm_P 5, qm_I ((o : Nat) : Int), qm_I 0, qm_I x3, qm_I ((j : Nat) : Int)] [] μ (fun v μ' => ∃ r, v = some (.inl r) ∧ Q r μ') := fun z => by
        rw [jx_ifn z] at H1 H0
        refine b1011_106 μ _ _ _ _ _ ⟨by decide, fun _ => js_2015 (by decide) (by unfold jx_le jx_di; decide) h3 h7 hk h6 h2 (fun z2 μ' f hx => ⟨Or.inr rfl, _, rfl, H1 _ (jx_ifp z2) μ' (jl_ats h f hx z2.1)⟩) (fun z2 μ' f a1 a2 => ⟨Or.inl rfl, _, rfl, H0 _ (jx_ifn z2) μ' (jl_atn h f a1 a2)⟩), fun q => absurd rfl q⟩
      refine b1011_64 μ _ _ _ _ _ ⟨by omega, fun q => at106 fun z => ?_, fun q => ⟨by omega, fun q2 => absurd q2 (by omega), fun _ => ⟨by decide, fun _ => js_1010 hk h6 h2 (fun z => ⟨by decide, fun q3 => absurd q3 (by decide), fun _ => ?_⟩) (fun z => ⟨by decide, fun _ => at106 z, fun q3 => absurd rfl q3⟩), fun q3 => absurd rfl q3⟩⟩⟩
      · have : jx_st n t b < n := by
          unfold jx_bgn at z
          rcases z with z | z | z | z | z
          · exact z.1.1
          · exact z.1.1
          · exact z.1.1
          · exact z.1.1
          · exact z.1
        omega
      · rw [jx_ifp z] at H1 H0
        refine b1011_88 μ _ _ _ _ _ ?_
        rw [jl_cs]
        refine ih1 (o + 1) b m D μ (d + 4) _ (by omega) (by omega) (by omega) hD hl ⟨c, hc1, by omega⟩ h (fun s hs μ2 ha2 => ⟨by decide, fun q => absurd q (by decide), fun _ => ?_⟩) (fun e he μ2 hn2 => ⟨by decide, fun _ => ⟨_, rfl, H0 e ?_ μ2 hn2⟩, fun q => absurd rfl q⟩)
        · have tk := (jl_turnqr F).1 (o + 1) (b, m, D) s (by omega) h6 (by show 0 ≤ D 4 3; rw [hD.2.2.1]; omega) (by show 0 ≤ D 4 5; omega) hl hs
          obtain ⟨g1, g2, g3⟩ := jl_tokdok tk (jl_p7 _) hD ⟨c, hc1, hc2⟩
          have a1 : b < s.1 := tk.1
          have a2 : s.1 ≤ n := tk.2.1
          rw [hs] at H1 H0
          rw [jl_cs]
          exact ih2 o s.1 s.2.1 s.2.2 μ2 (d + 5) Q x3 (j + 1) ho (by omega) (by omega) g1 g2 g3 ha2 (by omega) (by omega) H1 H0
        · rw [he]; rfl
end
