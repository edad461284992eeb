/-! ===== a loom's text, the reference's, whole ===== -/
section
variable {L d n : Nat} {t : Nat → Int} {b : Nat} {m : Bool} {D μ0 μ : qm_M} {Q : Int → qm_M → Prop} {V : qm_M → Prop} {c0 c1 c2 : Nat} {k p : Int}
theorem js_2422 (hk : jd_tok n t) (hI : jx_inv D c0 c1 c2) (h : jm_at μ0 n t (jx_we n t b) true D c0 c1 c2 μ) (H1 : ∀ s, jx_pckq n t b D = .inr s → ∀ μ', jm_at μ0 n t s.1 s.2.1 s.2.2 c0 c1 (c2 + 1) μ' → V μ') (H0 : ∀ e, (jx_pckq n t b D = .inl e ∨ ∃ s, jx_pckq n t b D = .inr s ∧ ¬ jx_isM n t s.1 59 ∧ e = (1, ((jx_st n t s.1 : Nat) : Int))) → ∀ μ', jm_no μ0 n t e μ' → V μ') : qm_CV (qb_T L) (d + 5) 2422 [qm_P 13, qm_I ((jx_st n t b : Nat) : Int)] μ V := by
  have hn := hk.1
  have hcc := hI.1.2.2.2.1
  have d3 := hI.1.2.2.1
  unfold jx_pckq at H1 H0
  rw [d3, Int.toNat_natCast] at H1 H0
  refine b2422_0 μ _ _ (js_2416 (q := 2) (room := 6) hcc (Or.inr (Or.inr ⟨rfl, rfl⟩)) (by decide) h (fun z => ⟨by decide, fun _ => ?_, fun q => absurd rfl q⟩) (fun z μ1 hn1 => ⟨by decide, fun q => absurd q (by decide), fun _ => ⟨rfl, H0 _ (Or.inl (if_pos (by omega))) μ1 hn1⟩⟩))
  rw [if_neg (by omega)] at H1 H0
  rw [h.2.2.2.1.1.2.2]
  have hc26 : c2 < 6 := by omega
  have z0 : D 28 c2 = 0 := hI.2.2.2.2.2.2.2.2.2 c2 (Nat.le_refl _) hc26
  refine js_2418 hI.1 h.2.2.2.1 h.2.2.2.2.2.2.2 hk h.2.2.1 h.2.1 (fun r er y μ1 hnm f1 hp1 => ?_) (fun e ee v μ1 hv f1 hb1 => ?_)
  · have hr := jl_newqr h.2.2.1 er
    have ha1 := jl_mats h f1 hp1 hr.2.1
    rw [er] at H1 H0
    have key := jm_packs (d := d) (L := L) (μ0 := μ0) (V := V) (x1 := ((jx_st n t b : Nat) : Int)) hk hc26 hnm 2000 r.1 D μ1 none (jl_invw hI) (by omega) ha1 (fun s hs μ2 ha2 => ?_) (fun e he μ2 hn2 => ?_)
    · rw [z0] at key; exact key
    · refine H1 (s.1, s.2.1, qm_set (qm_set s.2.2 25 c2 r.2) 4 3 ((c2 : Int) + 1)) ?_ μ2 ha2
      cases e1 : jx_pc n t r.1 D with
      | inl z => rw [e1] at hs; cases hs
      | inr s1 =>
        rw [e1] at hs
        have hs' : jx_pks n t 2000 s1.1 s1.2.2 = .inr s := hs
        show jx_bd (jx_pc n t r.1 D) _ = _
        rw [e1]
        show jx_bd (jx_pks n t 2000 s1.1 s1.2.2) _ = _
        rw [hs']; rfl
    · refine H0 e ?_ μ2 hn2
      rcases he with he | ⟨s, hs, hs2, hs3⟩
      · left
        show jx_bd (jx_pc n t r.1 D) _ = _
        cases e1 : jx_pc n t r.1 D with
        | inl z =>
          rw [e1] at he
          have : z = e := Sum.inl.inj he
          rw [this]; rfl
        | inr s1 =>
          rw [e1] at he
          have he' : jx_pks n t 2000 s1.1 s1.2.2 = .inl e := he
          show jx_bd (jx_pks n t 2000 s1.1 s1.2.2) _ = _
          rw [he']; rfl
      · right
        refine ⟨(s.1, s.2.1, qm_set (qm_set s.2.2 25 c2 r.2) 4 3 ((c2 : Int) + 1)), ?_, hs2, hs3⟩
        cases e1 : jx_pc n t r.1 D with
        | inl z => rw [e1] at hs; cases hs
        | inr s1 =>
          rw [e1] at hs
          have hs' : jx_pks n t 2000 s1.1 s1.2.2 = .inr s := hs
          show jx_bd (jx_pc n t r.1 D) _ = _
          rw [e1]
          show jx_bd (jx_pks n t 2000 s1.1 s1.2.2) _ = _
          rw [hs']; rfl
  · rw [ee] at H0
    have hn1 := jl_matn hcc h f1 hb1
    have e5 := hn1.2.1.2.2.1
    have e6 := hn1.2.1.2.2.2.1
    refine b2422_27 μ1 _ _ _ _ _ _ (js_2419b (q := 1) (by decide) hn1.2.2 hn1.2.1 ?_)
    rw [e5]
    refine ⟨by omega, fun z => absurd z (by omega), fun _ => b2422_61 μ1 _ _ _ _ _ _ ?_⟩
    rw [e5]
    refine ⟨by omega, fun z => absurd z (by omega), fun _ => b2422_87 μ1 _ _ _ _ _ _ ?_⟩
    rw [e5]
    exact ⟨by omega, fun z => absurd z (by omega), fun _ => ⟨rfl, H0 _ (Or.inl rfl) μ1 hn1⟩⟩
theorem jl_no32 {e : Int × Int} {v : Int} (h : jm_no μ0 n t e μ) : jm_no μ0 n t e (qm_set μ 13 32 v) := by
  have ff : jd_fm [32] [] μ (qm_set μ 13 32 v) := jg_f (jg_refl _ _ _) rfl
  exact ⟨jl_frt h.1 ff rfl rfl rfl, jl_badf h.2.1 ff rfl rfl rfl rfl rfl, jl_rgf h.2.2 ff rfl rfl⟩
theorem js_2431 (hk : jd_tok n t) (hI : jx_inv D c0 c1 c2) (h : jm_at μ0 n t b m D c0 c1 c2 μ) (ha : μ 13 2 = ((jx_st n t b : Nat) : Int)) (H1 : D 4 0 < 70 → ∀ s, jx_bd (jx_stq n t b m D) (jx_semq n t) = .inr s → ∀ e0 e1 e2 μ', jx_inv s.2.2 e0 e1 e2 → jm_at μ0 n t s.1 s.2.1 s.2.2 e0 e1 e2 μ' → V μ') (H0 : D 4 0 < 70 → ∀ e, jx_bd (jx_stq n t b m D) (jx_semq n t) = .inl e → ∀ μ', jm_no μ0 n t e μ' → V μ') (Hf : 70 ≤ D 4 0 → ∀ μ', jm_no μ0 n t (5, ((jx_st n t b : Nat) : Int)) μ' → V μ') : qm_CV (qb_T L) (d + 8) 2431 [qm_P 13] μ V := by
  have hn := hk.1
  have h6 := h.2.2.1
  have hcc := hI.1.2.2.2.1
  have hj := hI.2.2.2.1
  have hst := jx_stb (t := t) h6
  have hwn := (jx_wes t h6).2.1
  refine b2431_0 μ _ ?_
  rw [h.2.2.2.2.2.2.1.2.2, ha]
  refine ⟨by omega, fun q => js_2404 h.2.1 (by decide) h6 fun μ1 f1 hb1 => ⟨rfl, Hf (by omega) μ1 (jl_matn hcc h (jg_sub f1 rfl rfl) hb1)⟩, fun q => ?_⟩
  have H1' := H1 (by omega)
  have H0' := H0 (by omega)
  clear H1 H0 Hf
  have good : ∀ (X : jx_R) (s : Nat × Bool × qm_M) (e0 e1 e2 : Nat) (μ' : qm_M), X = .inr s → (∀ s, jx_bd X (jx_semq n t) = .inr s → ∀ e0 e1 e2 μ', jx_inv s.2.2 e0 e1 e2 → jm_at μ0 n t s.1 s.2.1 s.2.2 e0 e1 e2 μ' → V μ') → (∀ e, jx_bd X (jx_semq n t) = .inl e → ∀ μ', jm_no μ0 n t e μ' → V μ') → jx_inv s.2.2 e0 e1 e2 → s.2.2 4 0 = D 4 0 → jm_at μ0 n t s.1 s.2.1 s.2.2 e0 e1 e2 μ' → qm_W (qb_T L) (d + 8) 2431 125 [qm_P 13, qm_I ((jx_st n t b : Nat) : Int)] [] μ' (fun v μ' => v = none ∧ V μ') := fun X s e0 e1 e2 μ' hX G1 G0 hi hs0 ha' => by
    rw [hX] at G1 G0
    refine b2431_125 μ' _ _ (js_2412a hi.1.2.2.2.1 (by decide) hk ha' (fun z μ2 f2 ha2 => ⟨rfl, ?_⟩) (fun z μ2 hn2 => ⟨rfl, G0 _ (jx_ifn z) _ (jl_no32 hn2)⟩))
    rw [ha2.2.2.2.2.2.2.1.2.2]
    exact G1 (jx_st n t s.1 + 1, false, qm_set s.2.2 4 0 (s.2.2 4 0 + 1)) (jx_ifp z) e0 e1 e2 _ (jl_inv4 hi (Or.inr ⟨rfl, by omega⟩)) (jl_matset (Or.inr ⟨rfl, rfl, rfl⟩) ha2)
  have bad : ∀ (X : jx_R) (e : Int × Int) (μ' : qm_M), jx_bd X (jx_semq n t) = .inl e → (∀ e, jx_bd X (jx_semq n t) = .inl e → ∀ μ', jm_no μ0 n t e μ' → V μ') → jm_no μ0 n t e μ' → qm_W (qb_T L) (d + 8) 2431 125 [qm_P 13, qm_I ((jx_st n t b : Nat) : Int)] [] μ' (fun v μ' => v = none ∧ V μ') := fun X e μ' hX G0 hn1 =>
    b2431_125 μ' _ _ (js_2412b hn1.2.1 ⟨rfl, G0 e hX _ (jl_no32 hn1)⟩)
  unfold jx_stq at H1' H0'
  refine js_2409a (a := 47) (l := qb_tx_1000) (by decide) rfl rfl hk h (fun z1 μ1 f1 ha1 => ⟨by decide, fun z => absurd z (by decide), fun _ => ?_⟩) (fun z1 μ1 f1 ha1 a1 => ⟨by decide, fun _ => ?_, fun z => absurd rfl z⟩)
  · rw [jx_ifp z1] at H1' H0'
    refine js_2420 hk hI ha1 (fun s hs μ2 ha2 => ?_) (fun e he μ2 hn2 => bad _ e μ2 (by rw [he]; rfl) H0' hn2)
    have hr := jl_colr hI hwn hs
    exact good _ s _ _ _ μ2 hs H1' H0' hr.2.2.2.1 hr.2.2.2.2 ha2
  rw [jx_ifn z1] at H1' H0'
  refine js_2409a (a := 48) (l := qb_tx_1002) (by decide) rfl rfl hk ha1 (fun z2 μ2 f2 ha2 => ⟨by decide, fun z => absurd z (by decide), fun _ => ?_⟩) (fun z2 μ2 f2 ha2 a2 => ⟨by decide, fun _ => ?_, fun z => absurd rfl z⟩)
  · rw [jx_ifp z2] at H1' H0'
    refine js_2421 hk hI ha2 (fun s hs μ2 ha2 => ?_) (fun e he μ2 hn2 => bad _ e μ2 (by rw [he]; rfl) H0' hn2)
    have hr := jl_crdr hI hwn hs
    exact good _ s _ _ _ μ2 hs H1' H0' hr.2.2.2.1 hr.2.2.2.2 ha2
  rw [jx_ifn z2] at H1' H0'
  refine js_2409a (a := 52) (l := qb_tx_1006) (by decide) rfl rfl hk ha2 (fun z3 μ3 f3 ha3 => ⟨by decide, fun z => absurd z (by decide), fun _ => ?_⟩) (fun z3 μ3 f3 ha3 a3 => ⟨by decide, fun _ => ?_, fun z => absurd rfl z⟩)
  · rw [jx_ifp z3] at H1' H0'
    refine js_2422 hk hI ha3 (fun s hs μ2 ha2 => ?_) (fun e he μ2 hn2 => bad _ e μ2 ?_ H0' hn2)
    · have hr := jl_pckr hI hwn hs
      exact good _ s _ _ _ μ2 hs H1' H0' hr.2.2.2.1 hr.2.2.2.2 ha2
    · rcases he with he | ⟨s, hs, hs2, hs3⟩
      · rw [he]; rfl
      · rw [hs, hs3]; exact jx_ifn hs2
  rw [jx_ifn z3] at H1' H0'
  refine js_2409a (a := 53) (l := qb_tx_1007) (by decide) rfl rfl hk ha3 (fun z4 μ4 f4 ha4 => ⟨by decide, fun z => absurd z (by decide), fun _ => ?_⟩) (fun z4 μ4 f4 ha4 a4 => ⟨by decide, fun _ => ?_, fun z => absurd rfl z⟩)
  · rw [jx_ifp z4] at H1' H0'
    have set63 : ∀ (b' : Nat) (m' : Bool) (v : Int) (μ5 : qm_M), jm_at μ0 n t b' m' D c0 c1 c2 μ5 → jm_at μ0 n t b' m' (qm_set D 4 4 v) c0 c1 c2 (qm_set μ5 63 0 v) := fun b' m' v μ5 ha5 => by
      obtain ⟨h1, h2, h3, h4, h5, h6, h7, h8⟩ := ha5
      have e : ∀ a, a ≠ 4 → qm_set D 4 4 v a = D a := fun a ha => jl_sn _ _ _ ha
      have ff : jd_fm [] [63] μ5 (qm_set μ5 63 0 v) := jg_c (jg_refl _ _ _) rfl rfl
      refine ⟨jl_fru h1 ff rfl rfl (jl_ups (jl_upr _) ⟨by omega, by omega, by omega, by omega, by omega⟩), jl_posf h2 ff rfl rfl rfl rfl rfl rfl, h3, ?_, ?_, ?_, ?_, jm_cstf h8 ff rfl⟩
      · unfold jm_dn at *
        rw [ff.1 59 rfl rfl, ff.1 60 rfl rfl, e 23 (by decide), e 24 (by decide), e 25 (by decide)]; exact h4
      · unfold jm_dc at *
        rw [ff.1 61 rfl rfl, ff.1 62 rfl rfl, e 26 (by decide), e 27 (by decide), e 28 (by decide)]; exact h5
      · unfold jm_dl at *
        rw [ff.1 64 rfl rfl, ff.1 65 rfl rfl, ff.2 29 rfl, e 29 (by decide), e 30 (by decide), jl_sk _ _ _ (by decide)]; exact h6
      · unfold jm_df at *
        rw [ff.2 31 rfl, ff.2 32 rfl, jl_ss, jl_ss, e 5 (by decide), jl_sk _ _ _ (by decide)]
        exact ⟨rfl, h7.2.1, h7.2.2⟩
    have no63 : ∀ (e : Int × Int) (v : Int) (μ5 : qm_M), jm_no μ0 n t e μ5 → jm_no μ0 n t e (qm_set μ5 63 0 v) := fun e v μ5 hn5 => by
      have ff : jd_fm [] [63] μ5 (qm_set μ5 63 0 v) := jg_c (jg_refl _ _ _) rfl rfl
      exact ⟨jl_fru hn5.1 ff rfl rfl (jl_ups (jl_upr _) ⟨by omega, by omega, by omega, by omega, by omega⟩), jl_badf hn5.2.1 ff rfl rfl rfl rfl rfl, jl_rgf hn5.2.2 ff rfl rfl⟩
    have g6 := ha4.2.2.1
    refine js_2413 (by decide) hk g6 ha4.2.1 (fun w1 w2 w3 μ5 f5 hp5 => ?_) (fun kf pf v μ5 f5 hv hb5 hw => ?_)
    · have e : jx_twsq n t (jx_we n t b) D = .inr (jx_de n t (jx_we n t b), true, qm_set D 4 4 (jd_n10 (fun i => t (jx_st n t (jx_we n t b) + i) - 48) (jx_de n t (jx_we n t b) - jx_st n t (jx_we n t b)))) := by
        unfold jx_twsq; rw [jx_ifp w1, if_pos w2, if_pos w3]
      have hr := jl_twsr hI hwn e
      exact good _ _ _ _ _ _ e H1' H0' hr.2.2.2.1 hr.2.2.2.2 (set63 _ _ _ μ5 (jl_mats ha4 (jg_sub f5 rfl rfl) hp5 (jx_des t g6).2.1))
    · have hn5 := jl_matn hcc ha4 (jg_sub f5 rfl rfl) hb5
      refine bad _ (kf, pf) _ ?_ H0' (no63 _ _ μ5 hn5)
      unfold jx_twsq
      rcases hw with ⟨w1, rfl, rfl⟩ | ⟨w1, w2, rfl, rfl⟩ | ⟨w1, w2, w3, rfl, rfl⟩
      · rw [jx_ifn w1]; rfl
      · rw [jx_ifp w1, if_neg w2]; rfl
      · rw [jx_ifp w1, if_pos w2, if_neg w3]; rfl
  rw [jx_ifn z4] at H1' H0'
  refine js_2410a (a := 54) (l := qb_tx_1008) hcc (by decide) rfl rfl hk ha4 (fun z5 μ5 f5 ha5 => ?_) (fun z5 μ5 hn5 => ?_)
  · rw [jx_ifp z5] at H1' H0'
    rw [ha5.2.1.2.2.2.2.1]
    unfold jx_wvq at H1' H0'
    refine ⟨by decide, fun _ => js_2430 hk hI ha5 (fun s hw hs μ6 ha6 => ?_) (fun e hw he μ6 hn6 => ?_) (fun hw μ6 hn6 => ?_), fun z => absurd rfl z⟩
    · rw [if_pos hw] at H1' H0'
      have hr := jl_tnsr hn 2000 (jx_we n t b, true, qm_set D 5 2 1) s (jl_inv5 hI) hwn hs
      refine good _ s _ _ _ μ6 hs H1' H0' hr.2.2.1 (hr.2.2.2.trans ?_) ha6
      show qm_set D 5 2 1 4 0 = D 4 0
      rw [jl_sn _ _ _ (by decide)]
    · rw [if_pos hw] at H1' H0'
      exact bad _ e μ6 (by rw [he]; rfl) H0' hn6
    · rw [if_neg hw] at H1' H0'
      exact bad _ _ μ6 rfl H0' hn6
  · rw [jx_ifn z5] at H1' H0'
    have e5 : μ5 13 5 = 1 := hn5.2.1.2.2.1
    rw [e5]
    exact ⟨by decide, fun z => absurd z (by decide), fun _ => bad _ _ μ5 rfl H0' hn5⟩
theorem jm_rloop (hk : jd_tok n t) {x1 : Int} : ∀ (F b : Nat) (m : Bool) (D μ : qm_M) (c0 c1 c2 : Nat), jx_inv D c0 c1 c2 → 71 ≤ (F : Int) + D 4 0 → jm_at μ0 n t b m D c0 c1 c2 μ → (∀ s, jx_txq n t F (b, m, D) = .inr s → ∀ e0 e1 e2 μ', jx_inv s.2.2 e0 e1 e2 → jm_at μ0 n t s.1 s.2.1 s.2.2 e0 e1 e2 μ' → qm_W (qb_T L) (d + 9) 2432 98 [qm_P 13, qm_I x1] [] μ' (fun v μ' => ∃ r, v = some (.inl r) ∧ Q r μ')) → (∀ e, jx_txq n t F (b, m, D) = .inl e → ∀ μ', jm_no μ0 n t e μ' → qm_W (qb_T L) (d + 9) 2432 98 [qm_P 13, qm_I x1] [] μ' (fun v μ' => ∃ r, v = some (.inl r) ∧ Q r μ')) → qm_W (qb_T L) (d + 9) 2432 76 [qm_P 13, qm_I x1] [] μ (fun v μ' => ∃ r, v = some (.inl r) ∧ Q r μ')
  | 0, b, m, D, μ, c0, c1, c2, hI, hF, _, _, _ => by
    have := hI.2.2.2.1
    omega
  | F + 1, b, m, D, μ, c0, c1, c2, hI, hF, h, H1, H0 => by
    have hn := hk.1
    unfold jx_txq at H1 H0
    refine b2432_76 μ _ _ ?_
    rw [h.2.1.2.2.2.2.1]
    refine ⟨by decide, fun _ => js_2407a hk h (fun hlt μ1 f1 ha1 a1 => ?_) (fun hen μ1 f1 ha1 a1 => ⟨by decide, fun _ => H1 _ (if_pos hen) c0 c1 c2 μ1 hI ha1, fun q => absurd rfl q⟩), fun q => absurd rfl q⟩
    have hbx := hk.2 _ hlt
    have hne : ¬ jx_st n t (b, m, D).1 = n := by show ¬ jx_st n t b = n; omega
    refine ⟨by omega, fun q => by omega, fun _ => js_2431 hk hI ha1 a1 (fun h70 s hs e0 e1 e2 μ2 hi2 ha2 => ?_) (fun h70 e he μ2 hn2 => ?_) (fun h70 μ2 hn2 => ?_)⟩
    · have eqs : ∀ x : jx_R, jx_txq n t F s = x → (if jx_st n t (b, m, D).1 = n then .inr (b, m, D) else if 70 ≤ (b, m, D).2.2 4 0 then .inl (5, ((jx_st n t (b, m, D).1 : Nat) : Int)) else jx_bd (jx_bd (jx_stq n t (b, m, D).1 (b, m, D).2.1 (b, m, D).2.2) (jx_semq n t)) (jx_txq n t F)) = x := fun x hx => (if_neg hne).trans ((if_neg (by show ¬ 70 ≤ D 4 0; omega)).trans (by show jx_bd (jx_bd (jx_stq n t b m D) (jx_semq n t)) (jx_txq n t F) = x; rw [hs]; exact hx))
      have hs0 : s.2.2 4 0 = D 4 0 + 1 := by
        cases e : jx_stq n t b m D with
        | inl z => rw [e] at hs; cases hs
        | inr s0 =>
          rw [e] at hs
          obtain ⟨a1, a2, ⟨f0, f1, f2, a3⟩, a4⟩ := jl_stqr hn hI ha1.2.2.1 e
          have := jl_semr a3 (by rw [a4]; exact h70) a2 (show jx_semq n t s0 = .inr s from hs)
          rw [this.2.2.2, a4]
      exact jm_rloop hk F s.1 s.2.1 s.2.2 μ2 e0 e1 e2 hi2 (by omega) ha2 (fun s' hs' => H1 s' (eqs _ hs')) (fun e' he' => H0 e' (eqs _ he'))
    · have e5 := hn2.2.1.2.2.1
      have e6 := hn2.2.1.2.2.2.1
      refine b2432_76 μ2 _ _ ?_
      rw [e5]
      refine ⟨by omega, fun z => absurd z (by omega), fun _ => H0 e ((if_neg hne).trans ((if_neg (by show ¬ 70 ≤ D 4 0; omega)).trans ?_)) μ2 hn2⟩
      show jx_bd (jx_bd (jx_stq n t b m D) (jx_semq n t)) (jx_txq n t F) = _
      rw [he]; rfl
    · have e5 : μ2 13 5 = 5 := hn2.2.1.2.2.1
      refine b2432_76 μ2 _ _ ?_
      rw [e5]
      exact ⟨by decide, fun z => absurd z (by decide), fun _ => H0 _ ((if_neg hne).trans (if_pos h70)) μ2 hn2⟩
end
