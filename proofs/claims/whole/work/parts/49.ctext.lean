/-! ===== a loom's text, the class's, whole ===== -/
section
variable {L d n : Nat} {t : Nat → Int} {b : Nat} {m : Bool} {D μ0 μ : qm_M} {Q : Int → qm_M → Prop} {c0 c1 c2 : Nat}
theorem js_1008 (hk : jd_tok n t) (h : jc_at μ0 n t b m D μ) (hL : jx_isL n t b m) (H1 : ∀ s, jx_twsq n t (jx_we n t b) D = .inr s → ∀ μ', jc_at μ0 n t s.1 s.2.1 s.2.2 μ' → Q 1 μ') (H0 : ∀ e, jx_twsq n t (jx_we n t b) D = .inl e → ∀ μ', jc_no μ0 e μ' → Q 0 μ') : qm_CI (qb_T L) (d + 4) 1008 [qm_P 5] μ Q := by
  obtain ⟨h1, h2, h3, h4, h5, h6, h7⟩ := id h
  have hwe := (jx_wes t h6).2.1
  refine b1008_0 μ _ (js_stepL h7 hk h6 h2 hL fun μ1 f hx1 => ?_)
  have ha1 := jl_ats h f hx1 hwe
  generalize jx_we n t b = bb at *
  obtain ⟨k1, k2, k3, k4, k5, k6, k7⟩ := id ha1
  unfold jx_twsq at H1 H0
  have hde := jx_des t k6
  refine js_2014 k3 hk k6 k2 (fun hN h4 => ⟨by decide, fun q => absurd q (by decide), fun _ => ?_⟩) (fun μ' f a1 a2 => ⟨by decide, fun _ => ⟨_, rfl, ?_⟩, fun q => absurd rfl q⟩)
  · rw [jx_ifp hN, if_pos h4] at H1 H0
    obtain ⟨e1, e2, e3, e4⟩ := jl_tokN k2 hN
    rw [Nat.min_eq_left h4] at e4
    rw [e4]
    have hdig : ∀ i, i < jx_de n t bb - jx_st n t bb → 0 ≤ t (jx_st n t bb + i) - 48 ∧ t (jx_st n t bb + i) - 48 ≤ 9 := fun i hi => by
      have := hde.2.2.1 (jx_st n t bb + i) (by omega) (by omega)
      unfold jx_di at this; omega
    have hv := jl_n10b (f := fun i => t (jx_st n t bb + i) - 48) (jx_de n t bb - jx_st n t bb) hdig h4
    have hv2 : jd_n10 (fun i => t (jx_st n t bb + i) - 48) (jx_de n t bb - jx_st n t bb) < 10000 := by
      refine Int.lt_of_lt_of_le hv.2 ?_
      (repeat' split) <;> omega
    have hv1 := hv.1
    generalize jd_n10 (fun i => t (jx_st n t bb + i) - 48) (jx_de n t bb - jx_st n t bb) = v at *
    have bad : ¬ (1 ≤ v ∧ v ≤ 40) → qm_W (qb_T L) (d + 4) 1008 42 [qm_P 5] [] μ1 (fun v μ' => ∃ r, v = some (.inl r) ∧ Q r μ') := fun z => by
      rw [if_neg z] at H0
      exact b1008_42 μ1 _ (js_2006 k3 k2 fun μ' f a1 a2 => ⟨Or.inl rfl, _, rfl, H0 _ rfl μ' (jl_atn ha1 f a1 a2)⟩)
    refine ⟨by omega, fun q => bad (by omega), fun q => ⟨by omega, fun q2 => ?_, fun q2 => bad (by omega)⟩⟩
    rw [if_pos (by omega)] at H1
    have ha2 := jl_atset (a := 4) (k := 4) (z := v) ha1 rfl
    obtain ⟨g1, g2, g3, g4, g5, g6, g7⟩ := id ha2
    exact js_stepN g7 hk g6 g2 hN fun μ3 f3 hx3 => ⟨_, rfl, H1 _ rfl μ3 (jl_ats ha2 f3 hx3 hde.2.1)⟩
  · rcases a2 with ⟨z1, z2⟩ | ⟨z1, z2, z3⟩
    · rw [jx_ifn z1] at H0
      exact H0 _ rfl μ' (jl_atn ha1 f a1 z2)
    · rw [jx_ifp z1, if_neg z2] at H0
      exact H0 _ rfl μ' (jl_atn ha1 f a1 z3)
theorem jl_wloop (hk : jd_tok n t) : ∀ (F b : Nat) (m : Bool) (D μ : qm_M) (j : Nat) (w2 : qm_V), jx_inv D c0 c1 c2 → n - b < F → j ≤ b → j < 1600 → jc_at μ0 n t b m D μ → (∀ s, jx_tns n t F (b, m, D) = .inr s → ∀ μ', jc_at μ0 n t s.1 s.2.1 s.2.2 μ' → Q 1 μ') → (∀ e, jx_tns n t F (b, m, D) = .inl e → ∀ μ', jc_no μ0 e μ' → Q 0 μ') → qm_W (qb_T L) (d + 13) 1009 48 [qm_P 5, qm_I ((j : Nat) : Int), w2] [] μ (fun v μ' => ∃ r, v = some (.inl r) ∧ Q r μ')
  | 0, b, m, D, μ, j, w2, _, hF, _, _, _, _, _ => absurd hF (by omega)
  | F + 1, b, m, D, μ, j, w2, hI, hF, hj, hj2, h, H1, H0 => by
    have hn := hk.1
    obtain ⟨h1, h2, h3, h4, h5, h6, h7⟩ := id h
    unfold jx_tns at H1 H0
    have hc : ∃ c : Nat, D 4 5 = (c : Int) ∧ c ≤ 60 + 128 * b := by
      obtain ⟨c, e1, e2⟩ := hI.2.2.1
      exact ⟨c, e1, by omega⟩
    refine b1009_48 μ _ _ w2 ?_
    refine (js_1011 hk 4000).1 0 b m D μ (d + 12) _ (by decide) (by omega) (by omega) hI.1 hI.2.1 hc h (fun s hs μ2 ha2 => ⟨by decide, fun q => absurd q (by decide), fun _ => ?_⟩) (fun e he μ2 hn2 => ⟨by decide, fun _ => ⟨_, rfl, H0 e (by rw [he]; rfl) μ2 hn2⟩, fun q => absurd rfl q⟩)
    obtain ⟨a1, a2, a3, a4, a5⟩ := jl_turn0 hn hI h6 hs
    have a1' : b < s.1 := a1
    rw [hs] at H1 H0
    have e45 : μ2 4 5 = s.2.2 4 5 := by rw [ha2.2.2.2.2.1 4 rfl]
    rw [e45, h2.1]
    refine ⟨a5, fun q => ?_, fun q => js_2005 ha2.2.2.1 fun μ' f b1 b2 => ⟨Or.inl rfl, _, rfl, H0 _ (if_pos (by omega)) μ' (jl_atn ha2 f b1 b2)⟩⟩
    have eqs : ∀ x : jx_R, jx_if (jx_bgn n t s.1 s.2.1) (jx_tns n t F s) (.inr s) = x → jx_bd (.inr s) (fun s1 : Nat × Bool × qm_M => if 60 < s1.2.2 4 5 then .inl (5, ((jx_st n t b : Nat) : Int)) else jx_if (jx_bgn n t s1.1 s1.2.1) (jx_tns n t F s1) (.inr s1)) = x := fun x hx => (if_neg (by omega)).trans hx
    have H1' := fun s' hs' => H1 s' (eqs _ hs')
    have H0' := fun e' he' => H0 e' (eqs _ he')
    clear H1 H0 eqs
    refine b1009_30 μ2 _ _ _ ⟨by omega, fun q2 => ?_, fun q2 => ⟨by omega, fun q3 => by omega, fun _ => js_1010 hk ha2.2.2.2.2.2.1 ha2.2.1 (fun z => ⟨by decide, fun q3 => absurd q3 (by decide), fun _ => ?_⟩) (fun z => ⟨by decide, fun _ => ⟨_, rfl, H1' s (jx_ifn z) μ2 ha2⟩, fun q3 => absurd rfl q3⟩)⟩⟩
    · have hnb : ¬ jx_bgn n t s.1 s.2.1 := fun z => by
        have hst := jx_stb (t := t) a2
        have : jx_st n t s.1 < n := by
          unfold jx_bgn at z
          rcases z with z | z | z | z | z
          · exact z.1.1
          · exact z.1.1
          · exact z.1.1
          · exact z.1.1
          · exact z.1
        omega
      exact ⟨_, rfl, H1' s (jx_ifn hnb) μ2 ha2⟩
    · rw [jx_ifp z] at H1' H0'
      rw [jl_cs]
      exact jl_wloop hk F s.1 s.2.1 s.2.2 μ2 (j + 1) _ (a3 (by omega)) (by omega) (by omega) (by omega) ha2 H1' H0'
theorem js_1009 (hk : jd_tok n t) (hI : jx_inv D c0 c1 c2) (h : jc_at μ0 n t b m D μ) (hL : jx_isL n t b m) (H1 : ∀ s, jx_wvq n t b D = .inr s → ∀ μ', jc_at μ0 n t s.1 s.2.1 s.2.2 μ' → Q 1 μ') (H0 : ∀ e, jx_wvq n t b D = .inl e → ∀ μ', jc_no μ0 e μ' → Q 0 μ') : qm_CI (qb_T L) (d + 13) 1009 [qm_P 5] μ Q := by
  have hn := hk.1
  obtain ⟨h1, h2, h3, h4, h5, h6, h7⟩ := id h
  have hw := hI.2.2.2.2.2.1
  have e46 : μ 5 2 = D 5 2 := by rw [h5 5 rfl]
  unfold jx_wvq at H1 H0
  refine b1009_0 μ _ ?_
  rw [e46]
  refine ⟨by omega, fun q => ?_, fun q => js_2006 h3 h2 fun μ' f a1 a2 => ⟨Or.inl rfl, _, rfl, H0 _ (if_neg q) μ' (jl_atn h f a1 a2)⟩⟩
  rw [if_pos q] at H1 H0
  have ha1 := jl_atset (a := 5) (k := 2) (z := 1) h rfl
  obtain ⟨g1, g2, g3, g4, g5, g6, g7⟩ := id ha1
  have hwe := (jx_wes t h6).2.1
  refine js_stepL g7 hk g6 g2 hL fun μ1 f hx1 => ?_
  refine b1009_30 μ1 _ _ _ ⟨by decide, fun q2 => absurd q2 (by decide), fun _ => ⟨by decide, fun _ => ?_, fun q2 => absurd rfl q2⟩⟩
  exact jl_wloop (j := 0) hk 2000 (jx_we n t b) true _ μ1 _ (jl_inv5 hI) (by omega) (by omega) (by decide) (jl_ats ha1 f hx1 hwe) H1 H0
theorem jl_rloop (hk : jd_tok n t) : ∀ (F b : Nat) (m : Bool) (D μ : qm_M) (j : Nat) (w2 : qm_V) (c0 c1 c2 : Nat), jx_inv D c0 c1 c2 → 71 ≤ F + j → D 4 0 = (j : Int) → jc_at μ0 n t b m D μ → (∀ s, jx_txq n t F (b, m, D) = .inr s → ∀ μ', jc_at μ0 n t s.1 s.2.1 s.2.2 μ' → Q 1 μ') → (∀ e, jx_txq n t F (b, m, D) = .inl e → ∀ μ', jc_no μ0 e μ' → Q 0 μ') → qm_W (qb_T L) (d + 14) 1001 21 [qm_P 5, qm_I ((j : Nat) : Int), w2] [] μ (fun v μ' => ∃ r, v = some (.inl r) ∧ Q r μ')
  | 0, b, m, D, μ, j, w2, c0, c1, c2, hI, hF, hD0, h, H1, H0 => by
    have := hI.2.2.2.1
    omega
  | F + 1, b, m, D, μ, j, w2, c0, c1, c2, hI, hF, hD0, h, H1, H0 => by
    have hn := hk.1
    obtain ⟨h1, h2, h3, h4, h5, h6, h7⟩ := id h
    have hj := hI.2.2.2.1
    unfold jx_txq at H1 H0
    have e40 : μ 4 0 = (j : Int) := by rw [h5 4 rfl]; exact hD0
    -- what stands behind a statement
    have semi : ∀ (s : Nat × Bool × qm_M) (μ1 : qm_M), (∀ s', jx_bd (jx_semq n t s) (jx_txq n t F) = .inr s' → ∀ μ', jc_at μ0 n t s'.1 s'.2.1 s'.2.2 μ' → Q 1 μ') → (∀ e, jx_bd (jx_semq n t s) (jx_txq n t F) = .inl e → ∀ μ', jc_no μ0 e μ' → Q 0 μ') → s.2.2 4 0 = (j : Int) → j < 70 → (∃ e0 e1 e2, jx_inv s.2.2 e0 e1 e2) → jc_at μ0 n t s.1 s.2.1 s.2.2 μ1 → qm_W (qb_T L) (d + 14) 1001 161 [qm_P 5, qm_I ((j : Nat) : Int), w2] [qm_I 1] μ1 (fun v μ' => ∃ r, v = some (.inl r) ∧ Q r μ') := fun s μ1 G1 G0 hs0 hj70 ⟨e0, e1, e2, hI1⟩ ha1 => by
      obtain ⟨k1, k2, k3, k4, k5, k6, k7⟩ := id ha1
      refine b1001_161 μ1 _ _ w2 _ ⟨by decide, fun q => absurd q (by decide), fun _ => ?_⟩
      refine js_2015 (by decide) (by unfold jx_le jx_di; decide) k3 k7 hk k6 k2 (fun z μ2 f hx => ⟨by decide, fun q => absurd q (by decide), fun _ => ?_⟩) (fun z μ2 f a1 a2 => ⟨by decide, fun _ => ⟨_, rfl, G0 _ ?_ μ2 (jl_atn ha1 f a1 a2)⟩, fun q => absurd rfl q⟩)
      · have hz : jx_st n t s.1 + 1 ≤ n := z.1
        have ha2 := jl_ats ha1 f hx hz
        have e40' : μ2 4 0 = s.2.2 4 0 := by rw [ha2.2.2.2.2.1 4 rfl]
        rw [e40', jl_cs]
        have eqs : jx_semq n t s = .inr (jx_st n t s.1 + 1, false, qm_set s.2.2 4 0 (s.2.2 4 0 + 1)) := by unfold jx_semq; rw [jx_ifp z]
        rw [eqs] at G1 G0
        refine jl_rloop hk F (jx_st n t s.1 + 1) false _ _ (j + 1) _ e0 e1 e2 (jl_inv4 hI1 (Or.inr ⟨rfl, by omega⟩)) (by omega) ?_ (jl_atset ha2 rfl) G1 G0
        rw [jl_ss, hs0]; rfl
      · unfold jx_semq; rw [jx_ifn z]; rfl
    refine b1001_21 μ _ _ w2 ⟨by omega, fun q => absurd q (by omega), fun _ => js_2007 h2 (fun z => ⟨by decide, fun q => absurd q (by decide), fun _ => ⟨_, rfl, H1 _ (if_pos z) μ h⟩⟩) (fun z => ⟨by decide, fun _ => ?_, fun q => absurd rfl q⟩)⟩
    have hz : ¬ jx_st n t (b, m, D).1 = n := z
    rw [e40]
    refine ⟨by omega, fun q => ?_, fun q => js_2006 h3 h2 fun μ' f a1 a2 => ⟨Or.inl rfl, _, rfl, H0 _ ((if_neg hz).trans (if_pos (by show 70 ≤ D 4 0; omega))) μ' (jl_atn h f a1 a2)⟩⟩
    have eqs : ∀ x : jx_R, jx_bd (jx_bd (jx_stq n t b m D) (jx_semq n t)) (jx_txq n t F) = x → (if jx_st n t (b, m, D).1 = n then .inr (b, m, D) else if 70 ≤ (b, m, D).2.2 4 0 then .inl (5, ((jx_st n t (b, m, D).1 : Nat) : Int)) else jx_bd (jx_bd (jx_stq n t (b, m, D).1 (b, m, D).2.1 (b, m, D).2.2) (jx_semq n t)) (jx_txq n t F)) = x := fun x hx => (if_neg hz).trans ((if_neg (by show ¬ 70 ≤ D 4 0; omega)).trans hx)
    have H1' := fun s' hs' => H1 s' (eqs _ hs')
    have H0' := fun e' he' => H0 e' (eqs _ he')
    clear H1 H0 eqs
    have sound : ∀ s, jx_stq n t b m D = .inr s → b < s.1 ∧ s.1 ≤ n ∧ (∃ e0 e1 e2, jx_inv s.2.2 e0 e1 e2) ∧ s.2.2 4 0 = D 4 0 := fun s hs => jl_stqr hn hI h6 hs
    unfold jx_stq at H1' H0' sound
    have good : ∀ (s : Nat × Bool × qm_M) (μ1 : qm_M) (X : jx_R), X = .inr s → (∀ s', jx_bd (jx_bd X (jx_semq n t)) (jx_txq n t F) = .inr s' → ∀ μ', jc_at μ0 n t s'.1 s'.2.1 s'.2.2 μ' → Q 1 μ') → (∀ e, jx_bd (jx_bd X (jx_semq n t)) (jx_txq n t F) = .inl e → ∀ μ', jc_no μ0 e μ' → Q 0 μ') → (∀ s, X = .inr s → b < s.1 ∧ s.1 ≤ n ∧ (∃ e0 e1 e2, jx_inv s.2.2 e0 e1 e2) ∧ s.2.2 4 0 = D 4 0) → jc_at μ0 n t s.1 s.2.1 s.2.2 μ1 → qm_W (qb_T L) (d + 14) 1001 161 [qm_P 5, qm_I ((j : Nat) : Int), w2] [qm_I 1] μ1 (fun v μ' => ∃ r, v = some (.inl r) ∧ Q r μ') := fun s μ1 X hX G1 G0 hS ha => by
      obtain ⟨s1, s2, s3, s4⟩ := hS s hX
      rw [hX] at G1 G0
      exact semi s μ1 G1 G0 (s4.trans hD0) (by omega) s3 ha
    have bad : ∀ (e : Int × Int) (μ1 : qm_M) (X : jx_R), X = .inl e → (∀ e, jx_bd (jx_bd X (jx_semq n t)) (jx_txq n t F) = .inl e → ∀ μ', jc_no μ0 e μ' → Q 0 μ') → jc_no μ0 e μ1 → qm_W (qb_T L) (d + 14) 1001 161 [qm_P 5, qm_I ((j : Nat) : Int), w2] [qm_I 0] μ1 (fun v μ' => ∃ r, v = some (.inl r) ∧ Q r μ') := fun e μ1 X hX G0 hn1 => by
      rw [hX] at G0
      exact b1001_161 μ1 _ _ w2 _ ⟨by decide, fun _ => ⟨_, rfl, G0 e rfl μ1 hn1⟩, fun q => absurd rfl q⟩
    refine js_2009 (l := qb_tx_1000) rfl (jx_lw12 qb_tx_1000 (by decide)) hk h6 h2 (fun z1 => ⟨by decide, fun q => absurd q (by decide), fun _ => ?_⟩) (fun z1 => ⟨by decide, fun _ => ?_, fun q => absurd rfl q⟩)
    · rw [jx_ifp z1] at H1' H0' sound
      exact js_1004 hk hI h z1.1 (fun s hs μ' ha => good s μ' _ hs H1' H0' sound ha) (fun e he μ' hn1 => bad e μ' _ he H0' hn1)
    rw [jx_ifn z1] at H1' H0' sound
    refine js_2009 (l := qb_tx_1002) rfl (jx_lw12 qb_tx_1002 (by decide)) hk h6 h2 (fun z2 => ⟨by decide, fun q => absurd q (by decide), fun _ => ?_⟩) (fun z2 => ⟨by decide, fun _ => ?_, fun q => absurd rfl q⟩)
    · rw [jx_ifp z2] at H1' H0' sound
      exact js_1005 hk hI h z2.1 (fun s hs μ' ha => good s μ' _ hs H1' H0' sound ha) (fun e he μ' hn1 => bad e μ' _ he H0' hn1)
    rw [jx_ifn z2] at H1' H0' sound
    refine js_2009 (l := qb_tx_1006) rfl (jx_lw12 qb_tx_1006 (by decide)) hk h6 h2 (fun z3 => ⟨by decide, fun q => absurd q (by decide), fun _ => ?_⟩) (fun z3 => ⟨by decide, fun _ => ?_, fun q => absurd rfl q⟩)
    · rw [jx_ifp z3] at H1' H0' sound
      exact js_1006 hk hI h z3.1 (fun s hs μ' ha => good s μ' _ hs H1' H0' sound ha) (fun e he μ' hn1 => bad e μ' _ he H0' hn1)
    rw [jx_ifn z3] at H1' H0' sound
    refine js_2009 (l := qb_tx_1007) rfl (jx_lw12 qb_tx_1007 (by decide)) hk h6 h2 (fun z4 => ⟨by decide, fun q => absurd q (by decide), fun _ => ?_⟩) (fun z4 => ⟨by decide, fun _ => ?_, fun q => absurd rfl q⟩)
    · rw [jx_ifp z4] at H1' H0' sound
      exact js_1008 hk h z4.1 (fun s hs μ' ha => good s μ' _ hs H1' H0' sound ha) (fun e he μ' hn1 => bad e μ' _ he H0' hn1)
    rw [jx_ifn z4] at H1' H0' sound
    refine js_2009 (l := qb_tx_1008) rfl (jx_lw12 qb_tx_1008 (by decide)) hk h6 h2 (fun z5 => ⟨by decide, fun q => absurd q (by decide), fun _ => ?_⟩) (fun z5 => ⟨by decide, fun _ => ?_, fun q => absurd rfl q⟩)
    · rw [jx_ifp z5] at H1' H0' sound
      exact js_1009 hk hI h z5.1 (fun s hs μ' ha => good s μ' _ hs H1' H0' sound ha) (fun e he μ' hn1 => bad e μ' _ he H0' hn1)
    rw [jx_ifn z5] at H1' H0' sound
    exact js_2006 h3 h2 fun μ' f a1 a2 => bad _ μ' _ rfl H0' (jl_atn h f a1 a2)
end
