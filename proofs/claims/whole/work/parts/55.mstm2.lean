/-! ===== cards and packs, the reference's ===== -/
section
variable {L d n : Nat} {t : Nat → Int} {b : Nat} {m : Bool} {D μ0 μ : qm_M} {Q : Int → qm_M → Prop} {V : qm_M → Prop} {c0 c1 c2 : Nat} {k p : Int}
theorem jm_bad76 {x1 x2 x5 y : Int} {e : Int × Int} (hx2 : 0 ≤ x2 ∧ x2 < 8) (G : ∀ μ', jm_no μ0 n t e μ' → V μ') : ∀ (j : Nat) (μ : qm_M), j ≤ 4 → jm_no μ0 n t e μ → qm_W (qb_T L) (d + 5) 2421 76 [qm_P 13, qm_I x1, qm_I x2, qm_L y, none, qm_I x5, qm_I (((5 - j : Nat)) : Int)] [] μ (fun v μ' => v = none ∧ V μ')
  | 0, μ, _, hn => by
    refine b2421_76 μ _ _ _ _ _ _ ⟨by omega, fun _ => ?_, fun q => absurd q (by omega)⟩
    rw [hn.2.1.2.2.1]
    have := hn.2.1.2.2.2.1
    exact ⟨by omega, fun z => absurd z (by omega), fun _ => ⟨rfl, G μ hn⟩⟩
  | j + 1, μ, hj, hn => by
    refine b2421_76 μ _ _ _ _ _ _ ⟨by omega, fun q => absurd q (by omega), fun _ => js_2419b (q := 0) (by decide) hn.2.2 hn.2.1 ⟨by omega, ?_⟩⟩
    rw [show (((5 - (j + 1) : Nat)) : Int) + 1 = (((5 - j : Nat)) : Int) by omega]
    exact jm_bad76 hx2 G j _ (by omega) (jl_no61 (by omega) hn)
theorem jm_bad55 {x1 x2 x5 y : Int} {e : Int × Int} (hx2 : 0 ≤ x2 ∧ x2 < 8) (hx5 : x5 = 0 ∨ x5 = 1) (G : ∀ μ', jm_no μ0 n t e μ' → V μ') (hn : jm_no μ0 n t e μ) : qm_W (qb_T L) (d + 5) 2421 55 [qm_P 13, qm_I x1, qm_I x2, qm_L y, none, qm_I x5, none] [] μ (fun v μ' => v = none ∧ V μ') := by
  refine b2421_55 μ _ _ _ _ _ ⟨by omega, fun _ => b2421_72 μ _ _ _ _ _ _ _ ⟨by omega, ?_⟩, fun _ => b2421_72 μ _ _ _ _ _ _ _ ⟨by omega, ?_⟩⟩
  · exact jm_bad76 hx2 G 4 _ (Nat.le_refl _) (jl_no61 (by omega) hn)
  · exact jm_bad76 hx2 G 4 _ (Nat.le_refl _) (jl_no61 (by omega) hn)
theorem js_2421 (hk : jd_tok n t) (hI : jx_inv D c0 c1 c2) (h : jm_at μ0 n t (jx_we n t b) true D c0 c1 c2 μ) (H1 : ∀ s, jx_crdq n t b D = .inr s → ∀ μ', jm_at μ0 n t s.1 s.2.1 s.2.2 c0 (c1 + 1) c2 μ' → V μ') (H0 : ∀ e, jx_crdq n t b D = .inl e → ∀ μ', jm_no μ0 n t e μ' → V μ') : qm_CV (qb_T L) (d + 5) 2421 [qm_P 13, qm_I ((jx_st n t b : Nat) : Int)] μ V := by
  have hcc := hI.1.2.2.2.1
  have d2 := hI.1.2.1
  unfold jx_crdq at H1 H0
  rw [d2] at H1 H0
  refine b2421_0 μ _ _ (js_2416 (q := 1) (room := 8) hcc (Or.inr (Or.inl ⟨rfl, rfl⟩)) (by decide) h (fun z => ⟨by decide, fun _ => ?_, fun q => absurd rfl q⟩) (fun z μ1 hn1 => ⟨by decide, fun q => absurd q (by decide), fun _ => ⟨rfl, H0 _ (if_pos (by omega)) μ1 hn1⟩⟩))
  rw [if_neg (by omega)] at H1 H0
  rw [h.2.2.2.1.1.2.1]
  have hc18 : 0 ≤ ((c1 : Nat) : Int) ∧ ((c1 : Nat) : Int) < 8 := by omega
  refine js_2418 hI.1 h.2.2.2.1 h.2.2.2.2.2.2.2 hk h.2.2.1 h.2.1 (fun r er y μ1 hnm f1 hp1 => ?_) (fun e ee v μ1 hv f1 hb1 => ?_)
  · rw [er] at H1 H0
    have hr := jl_newqr h.2.2.1 er
    have ha1 := jl_mats h f1 hp1 hr.2.1
    refine js_2410a (a := 49) (l := qb_tx_1003) hcc (by decide) rfl rfl hk ha1 (fun z3 μ2 f2 ha2 => ?_) (fun z3 μ2 hn2 => ?_)
    · have eqs : jx_if (jx_isW n t r.1 true qb_tx_1003) (jx_sidq n t (jx_we n t r.1) D r.2) (.inl (1, ((jx_st n t r.1 : Nat) : Int))) = jx_sidq n t (jx_we n t r.1) D r.2 := jx_ifp z3
      have H1' : ∀ s, jx_sidq n t (jx_we n t r.1) D r.2 = .inr s → ∀ μ', jm_at μ0 n t s.1 s.2.1 s.2.2 c0 (c1 + 1) c2 μ' → V μ' := fun s hs => H1 s (eqs.trans hs)
      have H0' : ∀ e, jx_sidq n t (jx_we n t r.1) D r.2 = .inl e → ∀ μ', jm_no μ0 n t e μ' → V μ' := fun e he => H0 e (eqs.trans he)
      clear H1 H0 eqs
      generalize jx_we n t r.1 = bb at *
      unfold jx_sidq at H1' H0'
      rw [d2, Int.toNat_natCast] at H1' H0'
      -- the four corners
      have cor : ∀ (x5 v : Int) (μ3 : qm_M), jx_if (jx_isW n t bb true qb_tx_1005) (1 : Int) 0 = v → (jx_isW n t bb true qb_tx_1004 ∨ jx_isW n t bb true qb_tx_1005) → jm_at μ0 n t (jx_we n t bb) true D c0 c1 c2 μ3 → qm_W (qb_T L) (d + 5) 2421 72 [qm_P 13, qm_I ((jx_st n t b : Nat) : Int), qm_I ((c1 : Nat) : Int), qm_L y, none, qm_I x5, none] [qm_I v, qm_I (5 * ((c1 : Nat) : Int)), qm_P 61] μ3 (fun v μ' => v = none ∧ V μ') := fun x5 v μ3 hv hs ha3 => by
        rw [jx_ifp hs, hv] at H1' H0'
        refine b2421_72 μ3 _ _ _ _ _ _ _ ⟨by omega, ?_⟩
        rw [show ((5 : Int) * (c1 : Int)).toNat = 5 * c1 by omega]
        refine jm_corners hk ⟨hcc.1, by omega, hcc.2.2⟩ hnm 4 (jx_we n t bb) (qm_set D 26 c1 v) _ (Nat.le_refl _) (jl_dokset (by decide) (by decide) (by decide) (by decide) hI.1) (jl_card61 (Or.inl ⟨rfl, rfl⟩) ⟨⟨0, rfl⟩, by omega⟩ ha3) (by rw [jl_ss, jl_ss]) (fun i hi => absurd hi (by omega)) (fun s hs2 μ4 ha4 => H1' (s.1, s.2.1, qm_set (qm_set s.2.2 24 c1 r.2) 4 2 ((c1 : Int) + 1)) (by rw [hs2]; rfl) μ4 ha4) (fun e he μ4 hn4 => H0' e (by rw [he]; rfl) μ4 hn4)
      have ex : jx_isW n t bb true qb_tx_1004 → ¬ jx_isW n t bb true qb_tx_1005 := fun z1 z2 => by
        have e1 := z1.2.2 0 (by decide)
        have e2 := z2.2.2 0 (by decide)
        rw [e1] at e2
        exact absurd e2 (by decide)
      refine js_2409a (a := 50) (l := qb_tx_1004) (by decide) rfl rfl hk ha2 (fun z4 μ3 f3 ha3 => ⟨by decide, fun z => absurd z (by decide), fun _ => ?_⟩) (fun z4 μ3 f3 ha3 a3 => ⟨by decide, fun _ => ?_, fun z => absurd rfl z⟩)
      · exact b2421_55 μ3 _ _ _ _ _ ⟨by decide, fun z => absurd z (by decide), fun _ => cor 1 0 μ3 (jx_ifn (ex z4)) (Or.inl z4) ha3⟩
      · refine js_2410a (a := 51) (l := qb_tx_1005) hcc (by decide) rfl rfl hk ha3 (fun z5 μ4 f4 ha4 => ?_) (fun z5 μ4 hn4 => ?_)
        · exact b2421_55 μ4 _ _ _ _ _ ⟨by decide, fun _ => cor 0 1 μ4 (jx_ifp z5) (Or.inr z5) ha4, fun z => absurd rfl z⟩
        · exact jm_bad55 hc18 (Or.inl rfl) (fun μ' hn' => H0' _ (jx_ifn (fun z => by rcases z with z | z; exact z4 z; exact z5 z)) μ' hn') hn4
    · exact js_2409b (a := 50) (n1 := qb_tx_1004.length) rfl hn2.2.1 ⟨by decide, fun _ => js_2410b (a := 51) (n1 := qb_tx_1005.length) rfl hn2.2.1 (jm_bad55 hc18 (Or.inl rfl) (fun μ' hn' => H0 _ (jx_ifn z3) μ' hn') hn2), fun z => absurd rfl z⟩
  · rw [ee] at H0
    have hn1 := jl_matn hcc h f1 hb1
    exact js_2410b (a := 49) (n1 := qb_tx_1003.length) rfl hn1.2.1 (js_2409b (a := 50) (n1 := qb_tx_1004.length) rfl hn1.2.1 ⟨by decide, fun _ => js_2410b (a := 51) (n1 := qb_tx_1005.length) rfl hn1.2.1 (jm_bad55 hc18 (Or.inl rfl) (fun μ' hn' => H0 _ rfl μ' hn') hn1), fun z => absurd rfl z⟩)
/-- a pack's cards may change while it is told -/
theorem jl_mat28 {v : Int} (h : jm_at μ0 n t b m D c0 c1 c2 μ) : jm_at μ0 n t b m (qm_set D 28 c2 v) c0 c1 c2 μ := by
  obtain ⟨h1, h2, h3, h4, h5, h6, h7, h8⟩ := id h
  have e : ∀ c, c ≠ 28 → qm_set D 28 c2 v c = D c := fun c hc1 => jl_sn _ _ _ hc1
  refine ⟨h1, h2, h3, ?_, ?_, ?_, ?_, h8⟩
  · unfold jm_dn at *; rw [e 23 (by decide), e 24 (by decide), e 25 (by decide)]; exact h4
  · unfold jm_dc at *; rw [e 26 (by decide), e 27 (by decide)]; exact ⟨h5.1, fun i hi => by rw [jl_sk _ _ _ (by omega)]; exact h5.2 i hi⟩
  · unfold jm_dl at *; rw [e 29 (by decide), e 30 (by decide), e 4 (by decide)]; exact h6
  · unfold jm_df at *; rw [e 4 (by decide), e 5 (by decide)]; exact h7
theorem jm_packs (hk : jd_tok n t) {x1 y x : Int} (hc2 : c2 < 6) (hnm : jx_nm x y) : ∀ (F b : Nat) (D μ : qm_M) (w6 : qm_V), jx_inw D c0 c1 c2 → n - b < F + 1 → jm_at μ0 n t b true D c0 c1 c2 μ → (∀ s, jx_bd (jx_pc n t b D) (fun s => jx_pks n t F s.1 s.2.2) = .inr s → ∀ μ', jm_at μ0 n t s.1 s.2.1 (qm_set (qm_set s.2.2 25 c2 x) 4 3 ((c2 : Int) + 1)) c0 c1 (c2 + 1) μ' → V μ') → (∀ e, (jx_bd (jx_pc n t b D) (fun s => jx_pks n t F s.1 s.2.2) = .inl e ∨ ∃ s, jx_bd (jx_pc n t b D) (fun s => jx_pks n t F s.1 s.2.2) = .inr s ∧ ¬ jx_isM n t s.1 59 ∧ e = (1, ((jx_st n t s.1 : Nat) : Int))) → ∀ μ', jm_no μ0 n t e μ' → V μ') → qm_W (qb_T L) (d + 5) 2422 27 [qm_P 13, qm_I x1, qm_I ((c2 : Nat) : Int), qm_L y, none, qm_I (D 28 c2), w6] [] μ (fun v μ' => v = none ∧ V μ')
  | F, b, D, μ, w6, hI, hF, h, H1, H0 => by
    have hn := hk.1
    have hcc := hI.1.2.2.2.1
    have i9 := hI.2.2.2.2.2.2.2.2.1 c2 hc2
    have d2 := hI.1.2.1
    have d3 := hI.1.2.2.1
    have h6 := h.2.2.1
    -- after a fault
    have bad61 : ∀ (x5 x6 : Int) (e : Int × Int) (μ' : qm_M), jm_no μ0 n t e μ' → V μ' → qm_W (qb_T L) (d + 5) 2422 61 [qm_P 13, qm_I x1, qm_I ((c2 : Nat) : Int), qm_L y, none, qm_I x5, qm_I x6] [] μ' (fun v μ' => v = none ∧ V μ') := fun x5 x6 e μ' hn' hV => by
      have e5 := hn'.2.1.2.2.1
      have e6 := hn'.2.1.2.2.2.1
      refine b2422_61 μ' _ _ _ _ _ _ ?_
      rw [e5]
      refine ⟨by omega, fun z => absurd z (by omega), fun _ => b2422_87 μ' _ _ _ _ _ _ ?_⟩
      rw [e5]
      exact ⟨by omega, fun z => absurd z (by omega), fun _ => ⟨rfl, hV⟩⟩
    have epc : jx_pc n t b D = jx_bd (jx_knq n t b true (D 24) c1) fun r => if D 28 c2 / ((2 ^ r.2.toNat : Nat) : Int) % 2 = 1 then .inl (3, ((jx_st n t b : Nat) : Int)) else .inr (r.1, true, qm_set D 28 c2 (D 28 c2 + ((2 ^ r.2.toNat : Nat) : Int))) := by
      unfold jx_pc; rw [d2, d3, Int.toNat_natCast, Int.toNat_natCast]
    refine b2422_27 μ _ _ _ _ _ w6 (js_2419a hcc (Or.inr (Or.inl ⟨rfl, rfl, rfl⟩)) hk h (fun r er μ1 f1 ha1 e21 => ?_) (fun e ee μ1 hn1 => ?_))
    · obtain ⟨r1, r2, r3, r4, _⟩ := jl_knqr h6 er
      have hr : r.2 = ((r.2.toNat : Nat) : Int) := by omega
      rw [er] at epc
      have e5 := ha1.2.1.2.2.2.2.1
      rw [e5, e21, qa_and1, hr, qa_shr ⟨by omega, by omega⟩ (by omega)]
      refine ⟨by decide, fun _ => ⟨by omega, fun z => ?_, fun z => ?_⟩, fun z => absurd rfl z⟩
      · have e' : jx_pc n t b D = .inl (3, ((jx_st n t b : Nat) : Int)) := epc.trans (if_pos z)
        rw [e'] at H0
        exact js_2404 ha1.2.1 (by decide) ha1.2.2.1 fun μ2 f2 hb2 => bad61 _ _ _ μ2 (jl_matn hcc ha1 (jg_sub f2 rfl rfl) hb2) (H0 _ (Or.inl rfl) μ2 (jl_matn hcc ha1 (jg_sub f2 rfl rfl) hb2))
      · have e' : jx_pc n t b D = .inr (r.1, true, qm_set D 28 c2 (D 28 c2 + ((2 ^ r.2.toNat : Nat) : Int))) := epc.trans (if_neg z)
        have hpr := jl_pcr hI h6 hc2 e'
        have hI2 := hpr.2.2.2.1
        rw [e'] at H1 H0
        have ha2 := jl_mat28 (v := D 28 c2 + ((2 ^ r.2.toNat : Nat) : Int)) ha1
        -- what stands behind the card
        have H1' : ∀ s, jx_pks n t F r.1 (qm_set D 28 c2 (D 28 c2 + ((2 ^ r.2.toNat : Nat) : Int))) = .inr s → _ := H1
        have H0' : ∀ e, (jx_pks n t F r.1 (qm_set D 28 c2 (D 28 c2 + ((2 ^ r.2.toNat : Nat) : Int))) = .inl e ∨ ∃ s, jx_pks n t F r.1 (qm_set D 28 c2 (D 28 c2 + ((2 ^ r.2.toNat : Nat) : Int))) = .inr s ∧ ¬ jx_isM n t s.1 59 ∧ e = (1, ((jx_st n t s.1 : Nat) : Int))) → ∀ μ', jm_no μ0 n t e μ' → V μ' := H0
        clear H1 H0
        have eset : qi_or (D 28 c2) (qi_shl 1 ((r.2.toNat : Nat) : Int)) = (qm_set D 28 c2 (D 28 c2 + ((2 ^ r.2.toNat : Nat) : Int))) 28 c2 := by
          rw [jl_ss]; exact jl_orb' i9 (by omega) z
        generalize qm_set D 28 c2 (D 28 c2 + ((2 ^ r.2.toNat : Nat) : Int)) = D2 at *
        obtain ⟨F, rfl⟩ : ∃ g, F = g + 1 := ⟨F - 1, by omega⟩
        unfold jx_pks at H1' H0'
        refine b2422_61 μ1 _ _ _ _ _ _ ?_
        rw [e5, eset]
        -- the pack ends
        have fin : ∀ (x6 : Int) (μ3 : qm_M), ¬ (jx_isL n t r.1 true ∧ ¬ jx_own n t r.1) → jm_at μ0 n t r.1 true D2 c0 c1 c2 μ3 → qm_W (qb_T L) (d + 5) 2422 87 [qm_P 13, qm_I x1, qm_I ((c2 : Nat) : Int), qm_L y, none, qm_I (D2 28 c2), qm_I x6] [] μ3 (fun v μ' => v = none ∧ V μ') := fun x6 μ3 hno ha3 => by
          rw [jx_ifn hno] at H1'
          obtain ⟨h1, h2, h3, h4, h5, h6, h7, h8⟩ := id ha3
          refine b2422_87 μ3 _ _ _ _ _ _ ?_
          rw [h2.2.2.2.2.1, h4.1.2.2, show ((16 : Int) + (c2 : Int)).toNat = 16 + c2 by omega, Int.toNat_natCast]
          refine ⟨by decide, fun _ => ⟨by omega, by omega, rfl, H1' _ rfl _ ?_⟩, fun z2 => absurd rfl z2⟩
          have ff : jd_fm [] [59, 60, 62] μ3 (qm_set (qm_set (qm_set μ3 60 (16 + c2) y) 62 c2 (D2 28 c2)) 59 2 ((c2 : Int) + 1)) := jg_c (jg_c (jg_c (jg_refl _ _ _) rfl rfl) rfl rfl) rfl rfl
          obtain ⟨g1, g2, g3, g4, g5⟩ := jl_two (D := D2) (a := 25) (k := c2) (f := 3) (x := x) (v := (c2 : Int) + 1) (by decide)
          refine ⟨jl_fru h1 ff rfl rfl (jl_ups (jl_ups (jl_ups (jl_upr _) ⟨by omega, by omega, by omega, by omega, by omega⟩) ⟨by omega, by omega, by omega, by omega, by omega⟩) ⟨by omega, by omega, by omega, by omega, by omega⟩), jl_posf h2 ff rfl rfl rfl rfl rfl rfl, h3, ?_, ?_, ?_, ?_, jm_cstf h8 ff rfl⟩
          · show jm_dn (qm_set (qm_set D2 25 c2 x) 4 3 ((c2 : Int) + 1)) _ _ _ _
            obtain ⟨⟨e0, e1, e2⟩, n0, n1, n2⟩ := h4
            unfold jm_dn
            rw [g1 23 (by decide) (by decide), g1 24 (by decide) (by decide), jl_ss, jl_sk _ _ _ (by decide), jl_sk _ _ _ (by decide), jl_sn (c := 62) (c' := 59) _ _ _ (by decide), jl_sn (c := 60) (c' := 59) _ _ _ (by decide), jl_sn (c := 59) (c' := 60) _ _ _ (by decide), jl_sn (c := 62) (c' := 60) _ _ _ (by decide)]
            refine ⟨⟨e0, e1, rfl⟩, fun i hi => ?_, fun i hi => ?_, fun i hi => ?_⟩
            · rw [jl_sk _ _ _ (by omega)]; exact n0 i hi
            · rw [jl_sk _ _ _ (by omega)]; exact n1 i hi
            · by_cases q2 : i = c2
              · subst q2; rw [g4, show 8 * 2 + i = 16 + i by omega, jl_ss]; exact hnm
              · rw [g5 i q2, jl_sk _ _ _ (by omega)]; exact n2 i (by omega)
          · show jm_dc (qm_set (qm_set D2 25 c2 x) 4 3 ((c2 : Int) + 1)) _ _ _
            unfold jm_dc
            rw [ff.1 61 rfl rfl, g1 26 (by decide) (by decide), g1 27 (by decide) (by decide), g1 28 (by decide) (by decide), jl_sn (c := 59) (c' := 62) _ _ _ (by decide)]
            refine ⟨h5.1, fun i hi => ?_⟩
            by_cases q2 : i = c2
            · subst q2; rw [jl_ss]
            · rw [jl_sk _ _ _ q2, jl_sn _ _ _ (by decide)]; exact h5.2 i (by omega)
          · show jm_dl (qm_set (qm_set D2 25 c2 x) 4 3 ((c2 : Int) + 1)) _
            unfold jm_dl at *
            rw [ff.1 64 rfl rfl, ff.1 65 rfl rfl, ff.2 29 rfl, g1 29 (by decide) (by decide), g1 30 (by decide) (by decide), g2 5 (by decide)]; exact h6
          · show jm_df (qm_set (qm_set D2 25 c2 x) 4 3 ((c2 : Int) + 1)) _
            unfold jm_df at *
            rw [ff.1 63 rfl rfl, ff.2 31 rfl, ff.2 32 rfl, g2 4 (by decide), g1 5 (by decide) (by decide), g2 0 (by decide)]; exact h7
        refine ⟨by decide, fun _ => js_2407a hk ha2 (fun hlt μ3 f3 ha3 a3 => ?_) (fun hen μ3 f3 ha3 a3 => ?_), fun z => absurd rfl z⟩
        · have hbx := hk.2 _ hlt
          refine js_2405 (by omega) (fun hle => ⟨by decide, fun q => absurd q (by decide), fun _ => ?_⟩) (fun hle => ⟨by decide, fun _ => fin _ μ3 (fun q => hle q.1.2.1) ha3, fun q => absurd rfl q⟩)
          by_cases hyes : jx_isL n t r.1 true ∧ ¬ jx_own n t r.1
          · rw [jx_ifp hyes] at H1' H0'
            exact jm_packs hk hc2 hnm F r.1 D2 μ3 _ hI2 (by omega) ha3 H1' H0'
          · rw [jx_ifn hyes] at H0'
            -- a word that is no name: a fault at it
            have eno : jx_knq n t r.1 true (D2 24) c1 = .inl (1, ((jx_st n t r.1 : Nat) : Int)) := by
              unfold jx_knq; rw [jx_nmq3 hyes]; rfl
            refine b2422_27 μ3 _ _ _ _ _ _ (js_2419a hcc (Or.inr (Or.inl ⟨rfl, rfl, rfl⟩)) hk ha3 (fun r' er' => by rw [eno] at er'; cases er') (fun e ee μ4 hn4 => ?_))
            rw [eno] at ee
            have := Sum.inl.inj ee
            subst this
            have e5' : μ4 13 5 = 1 := hn4.2.1.2.2.1
            rw [e5']
            refine ⟨by decide, fun z => absurd z (by decide), fun _ => bad61 _ _ _ μ4 hn4 (H0' _ (Or.inr ⟨_, rfl, fun z => ?_, rfl⟩) μ4 hn4)⟩
            have hz : t (jx_st n t r.1) = 59 := z.2
            unfold jx_le at hle; omega
        · exact js_2405 (by decide) (fun hle => by unfold jx_le at hle; omega) (fun hle => ⟨by decide, fun _ => fin _ μ3 (fun q => by have := q.1.1; omega) ha3, fun q => absurd rfl q⟩)
    · rw [ee] at epc
      have e' : jx_pc n t b D = .inl e := epc
      rw [e'] at H0
      have e5 := hn1.2.1.2.2.1
      have e6 := hn1.2.1.2.2.2.1
      rw [e5]
      exact ⟨by omega, fun z => absurd z (by omega), fun _ => bad61 _ _ e μ1 hn1 (H0 e (Or.inl rfl) μ1 hn1)⟩
  termination_by F => F
end
