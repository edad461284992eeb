/-! ===== a loom's statements, the class's ===== -/
theorem jl_orb : ∀ x : Nat, x < 256 → ∀ k : Nat, k < 8 → ¬ ((x : Int) / ((2 ^ k : Nat) : Int) % 2 = 1) → qi_or (x : Int) (qi_shl 1 (k : Int)) = (x : Int) + ((2 ^ k : Nat) : Int) := by decide +kernel
theorem jl_orb' {x : Int} {k : Nat} (hx : 0 ≤ x ∧ x < 256) (hk : k < 8) (h : ¬ (x / ((2 ^ k : Nat) : Int) % 2 = 1)) : qi_or x (qi_shl 1 (k : Int)) = x + ((2 ^ k : Nat) : Int) := by
  obtain ⟨y, rfl⟩ : ∃ y : Nat, x = (y : Int) := ⟨x.toNat, by omega⟩
  exact jl_orb y (by omega) k hk h
theorem jl_dokset {D : qm_M} {a k c0 c1 c2 : Nat} {z : Int} (h4 : (4 : Nat) ≠ a) (h23 : (23 : Nat) ≠ a) (h24 : (24 : Nat) ≠ a) (h25 : (25 : Nat) ≠ a) (h : jx_dok D c0 c1 c2) : jx_dok (qm_set D a k z) c0 c1 c2 := by
  unfold jx_dok at *
  rw [jl_sn _ _ _ h4, jl_sn _ _ _ h23, jl_sn _ _ _ h24, jl_sn _ _ _ h25]; exact h
section
variable {L d n : Nat} {t : Nat → Int} {b : Nat} {m : Bool} {D μ0 μ : qm_M} {Q : Int → qm_M → Prop} {c0 c1 c2 : Nat}
theorem jl_newx {b : Nat} {m : Bool} {r : Nat × Int} (hb : b ≤ n) (h : jx_newq n t b m D = .inr r) : 1 ≤ r.2 ∧ r.2 < 1073741824 := by
  obtain ⟨_, _, _, e4⟩ := jl_newqr hb h
  obtain ⟨y, hy⟩ := jl_newnm hb e4
  exact (jl_nmb hy).1
theorem js_1004 (hk : jd_tok n t) (hI : jx_inv D c0 c1 c2) (h : jc_at μ0 n t b m D μ) (hL : jx_isL n t b m) (H1 : ∀ s, jx_colq n t b D = .inr s → ∀ μ', jc_at μ0 n t s.1 s.2.1 s.2.2 μ' → Q 1 μ') (H0 : ∀ e, jx_colq n t b D = .inl e → ∀ μ', jc_no μ0 e μ' → Q 0 μ') : qm_CI (qb_T L) (d + 4) 1004 [qm_P 5] μ Q := by
  obtain ⟨h1, h2, h3, h4, h5, h6, h7⟩ := id h
  obtain ⟨d1, d2, d3, d4, d5, d6, d7⟩ := id hI.1
  have e41 : ∀ μ', jc_dr D μ' → μ' 4 1 = (c0 : Int) := fun μ' hd => by rw [hd 4 rfl]; exact d1
  unfold jx_colq at H1 H0
  rw [d1, Int.toNat_natCast] at H1 H0
  refine b1004_0 μ _ ?_
  rw [e41 μ h5]
  refine ⟨by omega, fun q => ?_, fun q => js_2006 h3 h2 fun μ' f a1 a2 => ⟨Or.inl rfl, _, rfl, H0 _ (if_pos (by omega)) μ' (jl_atn h f a1 a2)⟩⟩
  rw [if_neg (by omega)] at H1 H0
  have hwe := (jx_wes t h6).2.1
  refine js_stepL h7 hk h6 h2 hL fun μ1 f hx1 => ?_
  refine js_1002 hk hI.1 (jl_ats h f hx1 hwe) (fun r er μ2 ha2 => ?_) (fun e ee μ2 hn => ⟨by decide, fun _ => ⟨_, rfl, H0 e (by rw [ee]; rfl) μ2 hn⟩, fun q2 => absurd rfl q2⟩)
  have hx := jl_newx hwe er
  refine ⟨by omega, fun q2 => by omega, fun _ => ?_⟩
  rw [e41 μ2 ha2.2.2.2.2.1]
  refine js_402i (n := 6) c0 rfl (by decide) rfl (by omega) ⟨_, rfl, H1 _ (by rw [er]; rfl) _ ?_⟩
  rw [jl_sn _ _ _ (by decide), e41 μ2 ha2.2.2.2.2.1]
  exact jl_atset (jl_atset ha2 rfl) rfl
theorem jl_corners (hk : jd_tok n t) {x : Int} (hd : d = d) : ∀ (k b : Nat) (D μ : qm_M) (w4 : qm_V), k ≤ 4 → jx_dok D c0 c1 c2 → c1 < 8 → jc_at μ0 n t b true D μ → (∀ s, jx_cor n t k b D = .inr s → ∀ μ', jc_at μ0 n t s.1 s.2.1 s.2.2 μ' → μ' 4 2 = (c1 : Int) → ∀ μ2, jc_at μ0 n t s.1 s.2.1 (qm_set (qm_set s.2.2 24 c1 x) 4 2 ((c1 : Int) + 1)) μ2 → Q 1 μ2) → (∀ e, jx_cor n t k b D = .inl e → ∀ μ', jc_no μ0 e μ' → Q 0 μ') → qm_W (qb_T L) (d + 4) 1005 130 [qm_P 5, qm_I ((c1 : Nat) : Int), qm_I x, qm_I (((4 - k : Nat)) : Int), w4] [] μ (fun v μ' => ∃ r, v = some (.inl r) ∧ Q r μ')
  | 0, b, D, μ, w4, _, hD, hc, h, H1, H0 => by
    have e42 : μ 4 2 = (c1 : Int) := by rw [h.2.2.2.2.1 4 rfl]; exact hD.2.1
    refine b1005_130 μ _ _ _ _ w4 ⟨by omega, fun _ => ?_, fun q => absurd q (by omega)⟩
    refine js_402i (n := 8) c1 rfl (by decide) rfl hc ⟨_, rfl, H1 _ rfl μ h e42 _ ?_⟩
    rw [jl_sn _ _ _ (by decide), e42]
    exact jl_atset (jl_atset h rfl) rfl
  | k + 1, b, D, μ, w4, hk4, hD, hc, h, H1, H0 => by
    obtain ⟨d1, d2, d3, d4, d5, d6, d7⟩ := id hD
    have e41 : μ 4 1 = (c0 : Int) := by rw [h.2.2.2.2.1 4 rfl]; exact d1
    unfold jx_cor at H1 H0
    rw [d1, d2, Int.toNat_natCast, Int.toNat_natCast] at H1 H0
    refine b1005_130 μ _ _ _ _ w4 ⟨by omega, fun q => absurd q (by omega), fun _ => ?_⟩
    rw [e41]
    refine js_1003 (n0 := 6) rfl (by decide) ⟨d4.1, by omega⟩ rfl d5 hk h (fun r er μ2 ha2 => ?_) (fun e ee μ2 hn => ⟨by decide, fun _ => ⟨_, rfl, H0 e (by rw [ee]; rfl) μ2 hn⟩, fun q2 => absurd rfl q2⟩)
    obtain ⟨r1, r2, r3, r4, _⟩ := jl_knqr h.2.2.2.2.2.1 er
    refine ⟨by omega, fun q2 => by omega, fun _ => ?_⟩
    rw [er] at H1 H0
    refine js_402i (n := 32) (4 * c1 + (3 - k)) rfl (by decide) (by omega) (by omega) ?_
    rw [show (((4 - (k + 1) : Nat)) : Int) + 1 = (((4 - k : Nat)) : Int) by omega]
    exact jl_corners hk hd k r.1 _ _ _ (by omega) (jl_dokset (by decide) (by decide) (by decide) (by decide) hD) hc (jl_atset ha2 rfl) H1 H0
theorem js_1005 (hk : jd_tok n t) (hI : jx_inv D c0 c1 c2) (h : jc_at μ0 n t b m D μ) (hL : jx_isL n t b m) (H1 : ∀ s, jx_crdq n t b D = .inr s → ∀ μ', jc_at μ0 n t s.1 s.2.1 s.2.2 μ' → Q 1 μ') (H0 : ∀ e, jx_crdq n t b D = .inl e → ∀ μ', jc_no μ0 e μ' → Q 0 μ') : qm_CI (qb_T L) (d + 4) 1005 [qm_P 5] μ Q := by
  obtain ⟨h1, h2, h3, h4, h5, h6, h7⟩ := id h
  obtain ⟨d1, d2, d3, d4, d5, d6, d7⟩ := id hI.1
  have e42 : ∀ μ', jc_dr D μ' → μ' 4 2 = (c1 : Int) := fun μ' hd => by rw [hd 4 rfl]; exact d2
  unfold jx_crdq at H1 H0
  rw [d2] at H1 H0
  refine b1005_0 μ _ ?_
  rw [e42 μ h5]
  refine ⟨by omega, fun q => ?_, fun q => js_2006 h3 h2 fun μ' f a1 a2 => ⟨Or.inl rfl, _, rfl, H0 _ (if_pos (by omega)) μ' (jl_atn h f a1 a2)⟩⟩
  rw [if_neg (by omega)] at H1 H0
  have hwe := (jx_wes t h6).2.1
  refine js_stepL h7 hk h6 h2 hL fun μ1 f hx1 => ?_
  have ha1 := jl_ats h f hx1 hwe
  rw [e42 μ1 ha1.2.2.2.2.1]
  refine js_1002 hk hI.1 ha1 (fun r er μ2 ha2 => ?_) (fun e ee μ2 hn => ⟨by decide, fun _ => ⟨_, rfl, H0 e (by rw [ee]; rfl) μ2 hn⟩, fun q2 => absurd rfl q2⟩)
  have hx := jl_newx hwe er
  rw [er] at H1 H0
  refine ⟨by omega, fun q2 => by omega, fun _ => ?_⟩
  obtain ⟨h1', h2', h3', h4', h5', h6', h7'⟩ := id ha2
  refine js_2016 (l := qb_tx_1003) rfl (jx_lw12 qb_tx_1003 (by decide)) h3' h7' hk h6' h2' (fun z1 μ3 f3 hx3 => ⟨by decide, fun q2 => absurd q2 (by decide), fun _ => ?_⟩) (fun z1 μ3 f3 a1 a2 => ⟨by decide, fun _ => ⟨_, rfl, H0 _ (jx_ifn z1) μ3 (jl_atn ha2 f3 a1 a2)⟩, fun q2 => absurd rfl q2⟩)
  have hb3 := (jx_wes t h6').2.1
  have ha3 := jl_ats ha2 f3 hx3 hb3
  have eqs : jx_if (jx_isW n t r.1 true qb_tx_1003) (jx_sidq n t (jx_we n t r.1) D r.2) (.inl (1, ((jx_st n t r.1 : Nat) : Int))) = jx_sidq n t (jx_we n t r.1) D r.2 := jx_ifp z1
  have H1' : ∀ s, jx_sidq n t (jx_we n t r.1) D r.2 = .inr s → ∀ μ', jc_at μ0 n t s.1 s.2.1 s.2.2 μ' → Q 1 μ' := fun s hs => H1 s (eqs.trans hs)
  have H0' : ∀ e, jx_sidq n t (jx_we n t r.1) D r.2 = .inl e → ∀ μ', jc_no μ0 e μ' → Q 0 μ' := fun e he => H0 e (eqs.trans he)
  clear H1 H0 eqs
  generalize jx_we n t r.1 = bb at *
  unfold jx_sidq at H1' H0'
  rw [d2, Int.toNat_natCast] at H1' H0'
  obtain ⟨k1, k2, k3, k4, k5, k6, k7⟩ := id ha3
  -- a side is there
  have side : (jx_isW n t bb true qb_tx_1004 ∨ jx_isW n t bb true qb_tx_1005) → qm_W (qb_T L) (d + 4) 1005 93 [qm_P 5, qm_I ((c1 : Nat) : Int), qm_I r.2, none, none] [] μ3 (fun v μ' => ∃ r, v = some (.inl r) ∧ Q r μ') := fun hs => by
    rw [jx_ifp hs] at H1' H0'
    have hLb : jx_isL n t bb true := by
      rcases hs with q | q
      · exact q.1
      · exact q.1
    have fin : ∀ v : Int, jx_if (jx_isW n t bb true qb_tx_1005) (1 : Int) 0 = v → qm_W (qb_T L) (d + 4) 1005 118 [qm_P 5, qm_I ((c1 : Nat) : Int), qm_I r.2, none, none] [qm_I v, qm_I ((c1 : Nat) : Int), qm_P 26] μ3 (fun v μ' => ∃ r, v = some (.inl r) ∧ Q r μ') := fun v hv => by
      rw [hv] at H1' H0'
      refine b1005_118 μ3 _ _ _ _ _ (js_402i (n := 8) c1 rfl (by decide) rfl (by omega) ?_)
      have ha4 := jl_atset (a := 26) (k := c1) (z := v) ha3 rfl
      obtain ⟨g1, g2, g3, g4, g5, g6, g7⟩ := id ha4
      refine js_stepL g7 hk g6 g2 hLb fun μ5 f5 hx5 => ?_
      have ha5 := jl_ats ha4 f5 hx5 (jx_wes t g6).2.1
      refine jl_corners hk rfl 4 (jx_we n t bb) _ μ5 none (by decide) (jl_dokset (by decide) (by decide) (by decide) (by decide) hI.1) (by omega) ha5 (fun s hs2 μ6 ha6 _ μ7 ha7 => H1' (s.1, s.2.1, qm_set (qm_set s.2.2 24 c1 r.2) 4 2 ((c1 : Int) + 1)) (by rw [hs2]; rfl) μ7 ha7) (fun e he μ6 hn6 => H0' e (by rw [he]; rfl) μ6 hn6)
    refine b1005_93 μ3 _ _ _ (js_2009 (l := qb_tx_1005) rfl (jx_lw12 qb_tx_1005 (by decide)) hk k6 k2 (fun z => ⟨by decide, fun q2 => absurd q2 (by decide), fun _ => fin 1 (jx_ifp z)⟩) (fun z => ⟨by decide, fun _ => fin 0 (jx_ifn z), fun q2 => absurd rfl q2⟩))
  refine js_2009 (l := qb_tx_1004) rfl (jx_lw12 qb_tx_1004 (by decide)) hk k6 k2 (fun z => ⟨by decide, fun q2 => absurd q2 (by decide), fun _ => side (Or.inl z)⟩) (fun z4 => ⟨by decide, fun _ => ?_, fun q2 => absurd rfl q2⟩)
  refine js_2009 (l := qb_tx_1005) rfl (jx_lw12 qb_tx_1005 (by decide)) hk k6 k2 (fun z => ⟨by decide, fun q2 => absurd q2 (by decide), fun _ => side (Or.inr z)⟩) (fun z5 => ⟨by decide, fun _ => ?_, fun q2 => absurd rfl q2⟩)
  exact js_2006 k3 k2 fun μ' f a1 a2 => ⟨Or.inl rfl, _, rfl, H0' _ (jx_ifn (fun z => by rcases z with z | z; exact z4 z; exact z5 z)) μ' (jl_atn ha3 f a1 a2)⟩
theorem js_1007 (hk : jd_tok n t) (hI : jx_inw D c0 c1 c2) (hc2 : c2 < 6) (h : jc_at μ0 n t b true D μ) (H1 : ∀ s, jx_pc n t b D = .inr s → ∀ μ', jc_at μ0 n t s.1 s.2.1 s.2.2 μ' → Q 1 μ') (H0 : ∀ e, jx_pc n t b D = .inl e → ∀ μ', jc_no μ0 e μ' → Q 0 μ') : qm_CI (qb_T L) (d + 4) 1007 [qm_P 5, qm_I ((c2 : Nat) : Int)] μ Q := by
  obtain ⟨h1, h2, h3, h4, h5, h6, h7⟩ := id h
  obtain ⟨d1, d2, d3, d4, d5, d6, d7⟩ := id hI.1
  have i9 := hI.2.2.2.2.2.2.2.2.1
  unfold jx_pc at H1 H0
  rw [d2, d3, Int.toNat_natCast, Int.toNat_natCast] at H1 H0
  refine b1007_0 μ _ _ ?_
  rw [h5 4 rfl, d2]
  refine js_1003 (n0 := 8) rfl (by decide) ⟨d4.2.1, d4.2.1⟩ rfl d6 hk h (fun r er μ2 ha2 => ?_) (fun e ee μ2 hn => ⟨by decide, fun _ => ⟨_, rfl, H0 e (by rw [ee]; rfl) μ2 hn⟩, fun q2 => absurd rfl q2⟩)
  obtain ⟨r1, r2, r3, r4, _⟩ := jl_knqr h6 er
  rw [er] at H1 H0
  have e28 : μ2 28 c2 = D 28 c2 := by rw [ha2.2.2.2.2.1 28 rfl]
  have hr : r.2 = ((r.2.toNat : Nat) : Int) := by omega
  refine ⟨by omega, fun q2 => by omega, fun _ => ?_⟩
  rw [hr]
  refine js_806d hc2 (by omega) (by rw [e28]; exact i9 c2 hc2) (fun z => ?_) (fun z => ?_)
  · rw [e28] at z
    refine ⟨by decide, fun q2 => absurd q2 (by decide), fun _ => js_2005 ha2.2.2.1 fun μ' f a1 a2 => ⟨Or.inl rfl, _, rfl, H0 _ (if_pos z) μ' (jl_atn ha2 f a1 (by rw [a2]; exact h2.1))⟩⟩
  · rw [e28] at z
    refine ⟨by decide, fun _ => ?_, fun q2 => absurd rfl q2⟩
    refine b807_0 μ2 _ _ _ ⟨by omega, fun q2 => absurd q2 (by omega), fun _ => ⟨by omega, fun q2 => absurd q2 (by omega), fun _ => ?_⟩⟩
    refine js_401i (n := 6) c2 rfl (by decide) rfl hc2 (js_402i (n := 6) c2 rfl (by decide) rfl hc2 ⟨rfl, _, rfl, H1 _ (if_neg z) _ ?_⟩)
    rw [e28, jl_orb' (i9 c2 hc2) (by omega) z]
    exact jl_atset ha2 rfl
theorem jl_packs (hk : jd_tok n t) {x : Int} (hd : d = d) : ∀ (F b : Nat) (D μ : qm_M) (j : Nat), jx_inw D c0 c1 c2 → c2 < 6 → n - b < F → j ≤ b → jc_at μ0 n t b true D μ → (∀ s, jx_pks n t F b D = .inr s → ∀ μ2, jc_at μ0 n t s.1 s.2.1 (qm_set (qm_set s.2.2 25 c2 x) 4 3 ((c2 : Int) + 1)) μ2 → Q 1 μ2) → (∀ e, jx_pks n t F b D = .inl e → ∀ μ', jc_no μ0 e μ' → Q 0 μ') → qm_W (qb_T L) (d + 5) 1006 58 [qm_P 5, qm_I ((c2 : Nat) : Int), qm_I x, qm_I ((j : Nat) : Int)] [] μ (fun v μ' => ∃ r, v = some (.inl r) ∧ Q r μ')
  | 0, b, D, μ, j, _, _, hF, _, _, _, _ => absurd hF (by omega)
  | F + 1, b, D, μ, j, hI, hc2, hF, hj, h, H1, H0 => by
    have hn := hk.1
    obtain ⟨h1, h2, h3, h4, h5, h6, h7⟩ := id h
    have e43 : μ 4 3 = (c2 : Int) := by rw [h5 4 rfl]; exact hI.1.2.2.1
    unfold jx_pks at H1 H0
    have at91 : ¬ (jx_isL n t b true ∧ ¬ jx_own n t b) → qm_W (qb_T L) (d + 5) 1006 91 [qm_P 5, qm_I ((c2 : Nat) : Int), qm_I x, qm_I ((j : Nat) : Int)] [] μ (fun v μ' => ∃ r, v = some (.inl r) ∧ Q r μ') := fun z => by
      rw [jx_ifn z] at H1
      refine b1006_91 μ _ _ _ _ (js_402i (n := 6) c2 rfl (by decide) rfl hc2 ⟨_, rfl, H1 _ rfl _ ?_⟩)
      rw [jl_sn _ _ _ (by decide), e43]
      exact jl_atset (jl_atset h rfl) rfl
    refine b1006_58 μ _ _ _ _ ⟨by omega, fun q => at91 fun z => ?_, fun q => ?_⟩
    · have := z.1.1
      have := jx_stb (t := t) h6
      omega
    · refine js_2011 hk h6 h2 (fun y1 y2 => ⟨by decide, fun q => absurd q (by decide), fun _ => ?_⟩) (fun y => ⟨by decide, fun _ => at91 y, fun q => absurd rfl q⟩)
      rw [jx_ifp ⟨y1, y2⟩] at H1 H0
      refine js_1007 hk hI hc2 h (fun s hs μ2 ha2 => ?_) (fun e he μ2 hn2 => ⟨by decide, fun _ => ⟨_, rfl, H0 e (by rw [he]; rfl) μ2 hn2⟩, fun q2 => absurd rfl q2⟩)
      obtain ⟨a1, a2, a3, a4, a5⟩ := jl_pcr hI h6 hc2 hs
      rw [hs] at H1 H0
      rw [a3] at ha2
      refine ⟨by decide, fun q2 => absurd q2 (by decide), fun _ => ?_⟩
      rw [jl_cs]
      exact jl_packs hk hd F s.1 s.2.2 μ2 (j + 1) a4 hc2 (by omega) (by omega) ha2 H1 H0
theorem js_1006 (hk : jd_tok n t) (hI : jx_inv D c0 c1 c2) (h : jc_at μ0 n t b m D μ) (hL : jx_isL n t b m) (H1 : ∀ s, jx_pckq n t b D = .inr s → ∀ μ', jc_at μ0 n t s.1 s.2.1 s.2.2 μ' → Q 1 μ') (H0 : ∀ e, jx_pckq n t b D = .inl e → ∀ μ', jc_no μ0 e μ' → Q 0 μ') : qm_CI (qb_T L) (d + 5) 1006 [qm_P 5] μ Q := by
  have hn := hk.1
  obtain ⟨h1, h2, h3, h4, h5, h6, h7⟩ := id h
  obtain ⟨d1, d2, d3, d4, d5, d6, d7⟩ := id hI.1
  have e43 : ∀ μ', jc_dr D μ' → μ' 4 3 = (c2 : Int) := fun μ' hd => by rw [hd 4 rfl]; exact d3
  unfold jx_pckq at H1 H0
  rw [d3, Int.toNat_natCast] at H1 H0
  refine b1006_0 μ _ ?_
  rw [e43 μ h5]
  refine ⟨by omega, fun q => ?_, fun q => js_2006 h3 h2 fun μ' f a1 a2 => ⟨Or.inl rfl, _, rfl, H0 _ (if_pos (by omega)) μ' (jl_atn h f a1 a2)⟩⟩
  rw [if_neg (by omega)] at H1 H0
  have hwe := (jx_wes t h6).2.1
  refine js_stepL h7 hk h6 h2 hL fun μ1 f hx1 => ?_
  have ha1 := jl_ats h f hx1 hwe
  rw [e43 μ1 ha1.2.2.2.2.1]
  refine js_1002 hk hI.1 ha1 (fun r er μ2 ha2 => ?_) (fun e ee μ2 hn => ⟨by decide, fun _ => ⟨_, rfl, H0 e (by rw [ee]; rfl) μ2 hn⟩, fun q2 => absurd rfl q2⟩)
  have hx := jl_newx hwe er
  rw [er] at H1 H0
  refine ⟨by omega, fun q2 => by omega, fun _ => ?_⟩
  refine js_1007 hk (jl_invw hI) (by omega) ha2 (fun s hs μ3 ha3 => ?_) (fun e he μ3 hn3 => ⟨by decide, fun _ => ⟨_, rfl, H0 e (by show jx_bd (jx_pc n t r.1 D) _ = _; rw [he]; rfl) μ3 hn3⟩, fun q2 => absurd rfl q2⟩)
  obtain ⟨a1, a2, a3, a4, a5⟩ := jl_pcr (jl_invw hI) ha2.2.2.2.2.2.1 (by omega) hs
  rw [a3] at ha3
  refine ⟨by decide, fun q2 => absurd q2 (by decide), fun _ => ?_⟩
  refine jl_packs (j := 0) hk rfl 2000 s.1 s.2.2 μ3 a4 (by omega) (by omega) (by omega) ha3 (fun s2 hs2 μ4 ha4 => H1 (s2.1, s2.2.1, qm_set (qm_set s2.2.2 25 c2 r.2) 4 3 ((c2 : Int) + 1)) (by show jx_bd (jx_pc n t r.1 D) _ = _; rw [hs]; show jx_bd (jx_pks n t 2000 s.1 s.2.2) _ = _; rw [hs2]; rfl) μ4 ha4) (fun e he μ4 hn4 => H0 e (by show jx_bd (jx_pc n t r.1 D) _ = _; rw [hs]; show jx_bd (jx_pks n t 2000 s.1 s.2.2) _ = _; rw [he]; rfl) μ4 hn4)
end
