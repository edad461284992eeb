/-! ===== a loom's statements, the reference's ===== -/
section
variable {L d n : Nat} {t : Nat → Int} {b : Nat} {m : Bool} {D μ0 μ : qm_M} {Q : Int → qm_M → Prop} {V : qm_M → Prop} {c0 c1 c2 : Nat} {k p : Int}
theorem js_2416 {q c room : Nat} {pl : Nat} (hcc : c0 ≤ 6 ∧ c1 ≤ 8 ∧ c2 ≤ 6) (hq : (q = 0 ∧ c = c0) ∨ (q = 1 ∧ c = c1) ∨ (q = 2 ∧ c = c2)) (hr : room ≤ 8) (h : jm_at μ0 n t b m D c0 c1 c2 μ) (H0 : c ≠ room → Q 0 μ) (H1 : c = room → ∀ μ', jm_no μ0 n t (5, ((pl : Nat) : Int)) μ' → Q 1 μ') : qm_CI (qb_T L) (d + 1) 2416 [qm_P 13, qm_I ((q : Nat) : Int), qm_I ((room : Nat) : Int), qm_I ((pl : Nat) : Int)] μ Q := by
  have e59 : μ 59 q = (c : Int) := by
    obtain ⟨⟨e0, e1, e2⟩, _⟩ := h.2.2.2.1
    rcases hq with ⟨rfl, rfl⟩ | ⟨rfl, rfl⟩ | ⟨rfl, rfl⟩
    · exact e0
    · exact e1
    · exact e2
  have e5 := h.2.1.2.2.2.2.1
  refine b2416_0 μ _ _ _ _ ?_
  rw [e5, Int.toNat_natCast, e59]
  refine ⟨by decide, fun _ => ⟨by omega, by omega, by omega, fun z => js_2404 h.2.1 (by decide) h.2.2.1 fun μ1 f1 hb1 => b2416_23 μ1 _ _ _ _ ?_, fun z => b2416_23 μ _ _ _ _ ?_⟩, fun z => absurd rfl z⟩
  · rw [hb1.2.2.1]
    exact ⟨by decide, fun z => absurd z (by decide), fun _ => ⟨_, rfl, H1 (by omega) μ1 (jl_matn hcc h (jg_sub f1 rfl rfl) hb1)⟩⟩
  · rw [e5]
    exact ⟨by decide, fun _ => ⟨_, rfl, H0 (by omega)⟩, fun z => absurd rfl z⟩
theorem js_2420 (hk : jd_tok n t) (hI : jx_inv D c0 c1 c2) (h : jm_at μ0 n t (jx_we n t b) true D c0 c1 c2 μ) (H1 : ∀ s, jx_colq n t b D = .inr s → ∀ μ', jm_at μ0 n t s.1 s.2.1 s.2.2 (c0 + 1) c1 c2 μ' → V μ') (H0 : ∀ e, jx_colq n t b D = .inl e → ∀ μ', jm_no μ0 n t e μ' → V μ') : qm_CV (qb_T L) (d + 5) 2420 [qm_P 13, qm_I ((jx_st n t b : Nat) : Int)] μ V := by
  have hcc := hI.1.2.2.2.1
  have d1 := hI.1.1
  unfold jx_colq at H1 H0
  rw [d1, Int.toNat_natCast] at H1 H0
  refine b2420_0 μ _ _ (js_2416 (q := 0) (room := 6) hcc (Or.inl ⟨rfl, rfl⟩) (by decide) h (fun z => ⟨by decide, fun _ => ?_, fun q => absurd rfl q⟩) (fun z μ1 hn1 => ⟨by decide, fun q => absurd q (by decide), fun _ => ⟨rfl, H0 _ (if_pos (by omega)) μ1 hn1⟩⟩))
  rw [if_neg (by omega)] at H1 H0
  refine js_2418 hI.1 h.2.2.2.1 h.2.2.2.2.2.2.2 hk h.2.2.1 h.2.1 (fun r er y μ1 hnm f1 hp1 => ?_) (fun e ee v μ1 hv f1 hb1 => ?_)
  · rw [er] at H1
    have hr := jl_newqr h.2.2.1 er
    have ha1 := jl_mats h f1 hp1 hr.2.1
    obtain ⟨h1, h2, h3, h4, h5, h6, h7, h8⟩ := id ha1
    rw [h2.2.2.2.2.1, h4.1.1, Int.toNat_natCast]
    refine ⟨by decide, fun _ => ⟨by omega, rfl, H1 (r.1, true, qm_set (qm_set D 23 c0 r.2) 4 1 ((c0 : Int) + 1)) rfl _ ?_⟩, fun z2 => absurd rfl z2⟩
    have ff : jd_fm [] [59, 60] μ1 (qm_set (qm_set μ1 60 c0 y) 59 0 ((c0 : Int) + 1)) := jg_c (jg_c (jg_refl _ _ _) rfl rfl) rfl rfl
    obtain ⟨g1, g2, g3, g4, g5⟩ := jl_two (D := D) (a := 23) (k := c0) (f := 1) (x := r.2) (v := (c0 : Int) + 1) (by decide)
    refine ⟨jl_fru h1 ff rfl rfl (jl_ups (jl_ups (jl_upr _) ⟨by omega, by omega, by omega, by omega, by omega⟩) ⟨by omega, by omega, by omega, by omega, by omega⟩), jl_posf h2 ff rfl rfl rfl rfl rfl rfl, hr.2.1, ?_, ?_, ?_, ?_, jm_cstf h8 ff rfl⟩
    · show jm_dn (qm_set (qm_set D 23 c0 r.2) 4 1 ((c0 : Int) + 1)) _ _ _ _
      obtain ⟨⟨e0, e1, e2⟩, n0, n1, n2⟩ := h4
      unfold jm_dn
      rw [g1 24 (by decide) (by decide), g1 25 (by decide) (by decide), jl_ss, jl_sk _ _ _ (by decide), jl_sk _ _ _ (by decide), jl_sn (c := 60) (c' := 59) _ _ _ (by decide), jl_sn (c := 59) (c' := 60) _ _ _ (by decide)]
      refine ⟨⟨rfl, e1, e2⟩, fun i hi => ?_, fun i hi => ?_, fun i hi => ?_⟩
      · by_cases q2 : i = c0
        · subst q2; rw [g4, show 8 * 0 + i = i by omega, jl_ss]; exact hnm
        · rw [g5 i q2, jl_sk _ _ _ (by omega)]; exact n0 i (by omega)
      · rw [jl_sk _ _ _ (by omega)]; exact n1 i hi
      · rw [jl_sk _ _ _ (by omega)]; exact n2 i hi
    · show jm_dc (qm_set (qm_set D 23 c0 r.2) 4 1 ((c0 : Int) + 1)) _ _ _
      unfold jm_dc at *
      rw [ff.1 61 rfl rfl, ff.1 62 rfl rfl, g1 26 (by decide) (by decide), g1 27 (by decide) (by decide), g1 28 (by decide) (by decide)]; exact h5
    · show jm_dl (qm_set (qm_set D 23 c0 r.2) 4 1 ((c0 : Int) + 1)) _
      unfold jm_dl at *
      rw [ff.1 64 rfl rfl, ff.1 65 rfl rfl, ff.2 29 rfl, g1 29 (by decide) (by decide), g1 30 (by decide) (by decide), g2 5 (by decide)]; exact h6
    · show jm_df (qm_set (qm_set D 23 c0 r.2) 4 1 ((c0 : Int) + 1)) _
      unfold jm_df at *
      rw [ff.1 63 rfl rfl, ff.2 31 rfl, ff.2 32 rfl, g2 4 (by decide), g1 5 (by decide) (by decide), g2 0 (by decide)]; exact h7
  · rw [ee] at H0
    have e5 := hb1.2.2.1
    have e6 := hb1.2.2.2.1
    rw [e5]
    exact ⟨by omega, fun z2 => absurd z2 (by omega), fun _ => ⟨rfl, H0 e rfl μ1 (jl_matn hcc h f1 hb1)⟩⟩
/-- cards, while one is told -/
theorem jl_no61 {e : Int × Int} {j : Nat} {v : Int} (hj : j < 40) (h : jm_no μ0 n t e μ) : jm_no μ0 n t e (qm_set μ 61 j v) := by
  have ff : jd_fm [] [61] μ (qm_set μ 61 j v) := jg_c (jg_refl _ _ _) rfl rfl
  exact ⟨jl_fru h.1 ff rfl rfl (jl_ups (jl_upr _) ⟨by omega, by omega, by omega, by omega, by omega⟩), jl_badf h.2.1 ff rfl rfl rfl rfl rfl, jl_rgf h.2.2 ff rfl rfl⟩
theorem jl_card61 {a j : Nat} {k' : Nat} {v w : Int} (ha : (a = 26 ∧ j = c1) ∨ (a = 27 ∧ ∃ i, j = 4 * c1 + i)) (hk' : (∃ i, k' = 5 * c1 + i) ∧ k' < 40) (h : jm_at μ0 n t b m D c0 c1 c2 μ) : jm_at μ0 n t b m (qm_set D a j w) c0 c1 c2 (qm_set μ 61 k' v) := by
  obtain ⟨h1, h2, h3, h4, h5, h6, h7, h8⟩ := id h
  have ff : jd_fm [] [61] μ (qm_set μ 61 k' v) := jg_c (jg_refl _ _ _) rfl rfl
  have e : ∀ c, c ≠ 26 → c ≠ 27 → qm_set D a j w c = D c := fun c hc1 hc2 => jl_sn _ _ _ (by rcases ha with ⟨rfl, _⟩ | ⟨rfl, _⟩ <;> assumption)
  refine ⟨jl_fru h1 ff rfl rfl (jl_ups (jl_upr _) ⟨fun z => (by omega), fun z => (by omega), fun _ => hk'.2, fun z => (by omega), fun z => (by omega)⟩), jl_posf h2 ff rfl rfl rfl rfl rfl rfl, h3, ?_, ?_, ?_, ?_, jm_cstf h8 ff rfl⟩
  · unfold jm_dn at *; rw [ff.1 59 rfl rfl, ff.1 60 rfl rfl, e 23 (by decide) (by decide), e 24 (by decide) (by decide), e 25 (by decide) (by decide)]; exact h4
  · obtain ⟨k1, k2⟩ := h5
    obtain ⟨⟨i0, hi0⟩, hi40⟩ := hk'
    refine ⟨fun i hi => ⟨?_, fun k hk => ?_⟩, fun i hi => ?_⟩
    · rw [jl_sk _ _ _ (show 5 * i ≠ k' by omega), (k1 i hi).1]
      rcases ha with ⟨rfl, rfl⟩ | ⟨rfl, _⟩
      · rw [jl_sk _ _ _ (by omega)]
      · rw [jl_sn _ _ _ (by decide)]
    · rw [jl_sk _ _ _ (show 5 * i + 1 + k ≠ k' by omega), (k1 i hi).2 k hk]
      rcases ha with ⟨rfl, rfl⟩ | ⟨rfl, i2, hi2⟩
      · rw [jl_sn _ _ _ (by decide)]
      · rw [jl_sk _ _ _ (by omega)]
    · rw [ff.1 62 rfl rfl, e 28 (by decide) (by decide)]; exact k2 i hi
  · unfold jm_dl at *; rw [ff.1 64 rfl rfl, ff.1 65 rfl rfl, ff.2 29 rfl, e 29 (by decide) (by decide), e 30 (by decide) (by decide), e 4 (by decide) (by decide)]; exact h6
  · unfold jm_df at *; rw [ff.1 63 rfl rfl, ff.2 31 rfl, ff.2 32 rfl, e 4 (by decide) (by decide), e 5 (by decide) (by decide)]; exact h7
theorem jm_corners (hk : jd_tok n t) {x1 x5 y x : Int} (hcc : c0 ≤ 6 ∧ c1 < 8 ∧ c2 ≤ 6) (hnm : jx_nm x y) : ∀ (k b : Nat) (D μ : qm_M), k ≤ 4 → jx_dok D c0 c1 c2 → jm_at μ0 n t b true D c0 c1 c2 μ → μ 61 (5 * c1) = D 26 c1 → (∀ i, i < 4 - k → μ 61 (5 * c1 + 1 + i) = D 27 (4 * c1 + i)) → (∀ s, jx_cor n t k b D = .inr s → ∀ μ', jm_at μ0 n t s.1 s.2.1 (qm_set (qm_set s.2.2 24 c1 x) 4 2 ((c1 : Int) + 1)) c0 (c1 + 1) c2 μ' → V μ') → (∀ e, jx_cor n t k b D = .inl e → ∀ μ', jm_no μ0 n t e μ' → V μ') → qm_W (qb_T L) (d + 5) 2421 76 [qm_P 13, qm_I x1, qm_I ((c1 : Nat) : Int), qm_L y, none, qm_I x5, qm_I (((5 - k : Nat)) : Int)] [] μ (fun v μ' => v = none ∧ V μ')
  | 0, b, D, μ, _, hD, h, h26, h27, H1, H0 => by
    obtain ⟨h1, h2, h3, h4, h5, h6, h7, h8⟩ := id h
    refine b2421_76 μ _ _ _ _ _ _ ⟨by omega, fun _ => ?_, fun q => absurd q (by omega)⟩
    rw [h2.2.2.2.2.1, h4.1.2.1, show ((8 : Int) + (c1 : Int)).toNat = 8 + c1 by omega]
    refine ⟨by decide, fun _ => ⟨by omega, rfl, H1 _ rfl _ ?_⟩, fun z2 => absurd rfl z2⟩
    have ff : jd_fm [] [59, 60] μ (qm_set (qm_set μ 60 (8 + c1) y) 59 1 ((c1 : Int) + 1)) := jg_c (jg_c (jg_refl _ _ _) rfl rfl) rfl rfl
    obtain ⟨g1, g2, g3, g4, g5⟩ := jl_two (D := D) (a := 24) (k := c1) (f := 2) (x := x) (v := (c1 : Int) + 1) (by decide)
    refine ⟨jl_fru h1 ff rfl rfl (jl_ups (jl_ups (jl_upr _) ⟨by omega, by omega, by omega, by omega, by omega⟩) ⟨by omega, by omega, by omega, by omega, by omega⟩), jl_posf h2 ff rfl rfl rfl rfl rfl rfl, h3, ?_, ?_, ?_, ?_, jm_cstf h8 ff rfl⟩
    · show jm_dn (qm_set (qm_set D 24 c1 x) 4 2 ((c1 : Int) + 1)) _ _ _ _
      obtain ⟨⟨e0, e1, e2⟩, n0, n1, n2⟩ := h4
      unfold jm_dn
      rw [g1 23 (by decide) (by decide), g1 25 (by decide) (by decide), jl_ss, jl_sk _ _ _ (by decide), jl_sk _ _ _ (by decide), jl_sn (c := 60) (c' := 59) _ _ _ (by decide), jl_sn (c := 59) (c' := 60) _ _ _ (by decide)]
      refine ⟨⟨e0, rfl, e2⟩, fun i hi => ?_, fun i hi => ?_, fun i hi => ?_⟩
      · rw [jl_sk _ _ _ (by omega)]; exact n0 i hi
      · by_cases q2 : i = c1
        · subst q2; rw [g4, show 8 * 1 + i = 8 + i by omega, jl_ss]; exact hnm
        · rw [g5 i q2, jl_sk _ _ _ (by omega)]; exact n1 i (by omega)
      · rw [jl_sk _ _ _ (by omega)]; exact n2 i hi
    · show jm_dc (qm_set (qm_set D 24 c1 x) 4 2 ((c1 : Int) + 1)) _ _ _
      unfold jm_dc
      rw [ff.1 61 rfl rfl, ff.1 62 rfl rfl, g1 26 (by decide) (by decide), g1 27 (by decide) (by decide), g1 28 (by decide) (by decide)]
      refine ⟨fun i hi => ?_, h5.2⟩
      by_cases q2 : i = c1
      · subst q2; exact ⟨h26, fun k hk => h27 k (by omega)⟩
      · exact h5.1 i (by omega)
    · show jm_dl (qm_set (qm_set D 24 c1 x) 4 2 ((c1 : Int) + 1)) _
      unfold jm_dl at *
      rw [ff.1 64 rfl rfl, ff.1 65 rfl rfl, ff.2 29 rfl, g1 29 (by decide) (by decide), g1 30 (by decide) (by decide), g2 5 (by decide)]; exact h6
    · show jm_df (qm_set (qm_set D 24 c1 x) 4 2 ((c1 : Int) + 1)) _
      unfold jm_df at *
      rw [ff.1 63 rfl rfl, ff.2 31 rfl, ff.2 32 rfl, g2 4 (by decide), g1 5 (by decide) (by decide), g2 0 (by decide)]; exact h7
  | k + 1, b, D, μ, hk4, hD, h, h26, h27, H1, H0 => by
    have d1 := hD.1
    have d2 := hD.2.1
    unfold jx_cor at H1 H0
    rw [d1, d2, Int.toNat_natCast, Int.toNat_natCast] at H1 H0
    have e1 : (((5 - (k + 1) : Nat)) : Int) + 1 = (((5 - k : Nat)) : Int) := by omega
    have e2 : ((5 : Int) * (c1 : Int) + (((5 - (k + 1) : Nat)) : Int)).toNat = 5 * c1 + 1 + (3 - k) := by omega
    -- nothing more is told after a fault
    have bad : ∀ (j : Nat) (e : Int × Int) (μ' : qm_M), j ≤ 4 → jm_no μ0 n t e μ' → (∀ μ', jm_no μ0 n t e μ' → V μ') → qm_W (qb_T L) (d + 5) 2421 76 [qm_P 13, qm_I x1, qm_I ((c1 : Nat) : Int), qm_L y, none, qm_I x5, qm_I (((5 - j : Nat)) : Int)] [] μ' (fun v μ' => v = none ∧ V μ') := fun j => by
      induction j with
      | zero =>
        intro e μ' _ hn G
        refine b2421_76 μ' _ _ _ _ _ _ ⟨by omega, fun _ => ?_, fun q => absurd q (by omega)⟩
        rw [hn.2.1.2.2.1]
        have := hn.2.1.2.2.2.1
        exact ⟨by omega, fun z => absurd z (by omega), fun _ => ⟨rfl, G μ' hn⟩⟩
      | succ j ih =>
        intro e μ' hj hn G
        refine b2421_76 μ' _ _ _ _ _ _ ⟨by omega, fun q => absurd q (by omega), fun _ => js_2419b (q := 0) (by decide) hn.2.2 hn.2.1 ⟨by omega, ?_⟩⟩
        rw [show (((5 - (j + 1) : Nat)) : Int) + 1 = (((5 - j : Nat)) : Int) by omega]
        exact ih e _ (by omega) (jl_no61 (by omega) hn) G
    refine b2421_76 μ _ _ _ _ _ _ ⟨by omega, fun q => absurd q (by omega), fun _ => js_2419a ⟨hcc.1, by omega, hcc.2.2⟩ (Or.inl ⟨rfl, rfl, rfl⟩) hk h (fun r er μ1 f1 ha1 _ => ⟨by omega, ?_⟩) (fun e ee μ1 hn1 => ⟨by omega, ?_⟩)⟩
    · rw [er] at H1 H0
      rw [e1, e2]
      refine jm_corners hk hcc hnm k r.1 (qm_set D 27 (4 * c1 + (3 - k)) r.2) _ (by omega) (jl_dokset (by decide) (by decide) (by decide) (by decide) hD) (jl_card61 (Or.inr ⟨rfl, 3 - k, rfl⟩) ⟨⟨1 + (3 - k), by omega⟩, by omega⟩ ha1) ?_ (fun i hi => ?_) H1 H0
      · rw [jl_sk _ _ _ (by omega), jl_sn _ _ _ (by decide), f1.1 61 rfl rfl]; exact h26
      · by_cases q : i = 3 - k
        · subst q; rw [jl_ss, jl_ss]
        · rw [jl_sk _ _ _ (by omega), jl_sk _ _ _ (by omega), f1.1 61 rfl rfl]; exact h27 i (by omega)
    · rw [ee] at H0
      rw [e1]
      exact bad k e _ (by omega) (jl_no61 (by omega) hn1) (fun μ' hn => H0 e rfl μ' hn)
end
