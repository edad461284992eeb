/-! ===== a question asked, the reference's ===== -/
def jx_AF : List Nat := [1, 2, 3, 4, 5, 6, 7, 8, 65, 67, 68, 69, 71, 72, 73]
def jx_AC : List Nat := [91, 92, 93]
section
variable {L d n : Nat} {t : Nat → Int} {D μ0 μ : qm_M} {S : Nat → Int} {Q : Int → qm_M → Prop}
theorem js_2517 (hk : jd_tok n t) (h : jm_qt μ0 n t 0 0 false D 0 0 S 0 jd_z μ) (H1 : jx_qk n t ≠ -1 → ∀ μ', jm_qt μ0 n t 0 (jx_we n t 0) true D 0 0 S 0 jd_z μ' → Q (jx_qk n t) μ') (H0 : jx_qk n t = -1 → ∀ μ', jm_qn μ0 n t (1, ((jx_st n t 0 : Nat) : Int)) μ' → Q 5 μ') : qm_CI (qb_T L) (d + 4) 2517 [qm_P 13] μ Q := by
  unfold jx_qk at H1 H0
  have ok : ∀ (k : Int) μ', k ≠ 5 → (-1 ≤ k ∧ k ≤ 5) → Q k μ' → qm_W (qb_T L) (d + 4) 2517 76 [qm_P 13, none] [qm_I k] μ' (fun v μ' => ∃ r, v = some (.inl r) ∧ Q r μ') := fun k μ' hk5 hkb hq => b2517_76 μ' _ _ ⟨by omega, fun q => absurd q hk5, fun _ => ⟨_, rfl, hq⟩⟩
  refine b2517_0 μ _ (js_2409q (d := d + 1) (l' := qb_tx_1013) (by decide) rfl rfl hk h (fun z μ1 h1 => ⟨by decide, fun q => absurd q (by decide), fun _ => ok 0 μ1 (by decide) (by decide) ?_⟩) (fun z1 μ1 h1 a1 => ⟨by decide, fun _ => ?_, fun q => absurd rfl q⟩))
  · rw [jx_ifp z] at H1; exact H1 (by decide) μ1 h1
  rw [jx_ifn z1] at H1 H0
  refine js_2409q (d := d + 1) (l' := qb_tx_1014) (by decide) rfl rfl hk h1 (fun z μ2 h2 => ⟨by decide, fun q => absurd q (by decide), fun _ => ok 1 μ2 (by decide) (by decide) ?_⟩) (fun z2 μ2 h2 a2 => ⟨by decide, fun _ => ?_, fun q => absurd rfl q⟩)
  · rw [jx_ifp z] at H1; exact H1 (by decide) μ2 h2
  rw [jx_ifn z2] at H1 H0
  refine js_2409q (d := d + 1) (l' := qb_tx_1015) (by decide) rfl rfl hk h2 (fun z μ3 h3 => ⟨by decide, fun q => absurd q (by decide), fun _ => ok 2 μ3 (by decide) (by decide) ?_⟩) (fun z3 μ3 h3 a3 => ⟨by decide, fun _ => ?_, fun q => absurd rfl q⟩)
  · rw [jx_ifp z] at H1; exact H1 (by decide) μ3 h3
  rw [jx_ifn z3] at H1 H0
  refine js_2409q (d := d + 1) (l' := qb_tx_1016) (by decide) rfl rfl hk h3 (fun z μ4 h4 => ⟨by decide, fun q => absurd q (by decide), fun _ => ok 3 μ4 (by decide) (by decide) ?_⟩) (fun z4 μ4 h4 a4 => ⟨by decide, fun _ => ?_, fun q => absurd rfl q⟩)
  · rw [jx_ifp z] at H1; exact H1 (by decide) μ4 h4
  rw [jx_ifn z4] at H1 H0
  refine js_2409q (d := d + 1) (l' := qb_tx_1017) (by decide) rfl rfl hk h4 (fun z μ5 h5 => ⟨by decide, fun q => absurd q (by decide), fun _ => ok 4 μ5 (by decide) (by decide) ?_⟩) (fun z5 μ5 h5 a5 => ⟨by decide, fun _ => ?_, fun q => absurd rfl q⟩)
  · rw [jx_ifp z] at H1; exact H1 (by decide) μ5 h5
  rw [jx_ifn z5] at H1 H0
  refine b2517_76 μ5 _ _ ⟨by decide, fun _ => ?_, fun q => absurd rfl q⟩
  refine js_2410 (d := d) (a := 77) (l := qb_tx_1018) rfl (jx_lwT (77, qb_tx_1018) (by decide)).1 (h5.2.2.2.1 (77, qb_tx_1018) (by decide)) rfl hk h5.2.2.1 h5.2.1 (fun z μ6 f6 hp6 => ⟨_, rfl, ?_⟩) (fun z μ6 f6 hb6 => ⟨_, rfl, ?_⟩)
  · rw [jx_ifp z] at H1
    exact H1 (by decide) μ6 (jl_qtm h5 f6 hp6 (Nat.zero_le _) (jx_wes t h5.2.2.1).2.1)
  · rw [jx_ifn z] at H0
    exact H0 rfl μ6 (jl_qtb h5 f6 hb6)
end
section
variable {L d n : Nat} {t : Nat → Int} {nc nr : Nat} {lm : Int} {sd : Nat → Int} {th T : Nat → Nat → Int} {Q : Int → qm_M → Prop} {D μ : qm_M}
theorem js_2519 (hk : jd_tok n t) (hT : jm_tape n t μ) (hcst : jm_cst μ) (hO : jd_ok nc nr lm sd th T) (hM : jm_belt nc nr lm sd th T μ) (hD : D 11 5 = ((0 : Nat) : Int))
    (H1 : ∀ σ, jx_ask n t D = .inr σ → ∀ c : Nat, σ.2.2 11 5 = (c : Int) → ∀ μ', jd_fm jx_AF jx_AC μ μ' → μ' 13 1 = 0 → μ' 13 7 = 0 → μ' 13 8 = -1 → Q (je_ans (jx_qk n t) (je_val nc sd th T σ.2.2 c) nr) μ')
    (H0 : ∀ e, jx_ask n t D = .inl e → ∀ μ', jd_fm jx_AF jx_AC μ μ' → μ' 13 1 = 0 → μ' 13 7 = e.1 → μ' 13 8 = e.2 → Q (-1000000000000000) μ') : qm_CL (qb_T L) (d + 12) 2519 [qm_P 13] μ Q := by
  have hn := hk.1
  have hnr := hO.2.1
  unfold jx_ask at H1 H0
  have hst0 := jx_stb (t := t) (Nat.zero_le n)
  have hw2 := (jx_wes t (Nat.zero_le n)).2.1
  refine b2519_0 μ _ ?_
  rw [hT.1]
  -- as it begins
  have f0 : jd_fm [1, 2, 3, 4, 5, 6, 65, 67, 68, 69] [] μ (qm_set (qm_set (qm_set (qm_set (qm_set (qm_set (qm_set (qm_set (qm_set (qm_set μ 13 3 (n : Int)) 13 1 0) 13 2 0) 13 4 (-1)) 13 5 0) 13 6 (-1)) 13 65 0) 13 67 0) 13 68 0) 13 69 0) := jg_f (jg_f (jg_f (jg_f (jg_f (jg_f (jg_f (jg_f (jg_f (jg_f (jg_refl _ _ _) rfl) rfl) rfl) rfl) rfl) rfl) rfl) rfl) rfl) rfl
  have g3 : (qm_set (qm_set (qm_set (qm_set (qm_set (qm_set (qm_set (qm_set (qm_set (qm_set μ 13 3 (n : Int)) 13 1 0) 13 2 0) 13 4 (-1)) 13 5 0) 13 6 (-1)) 13 65 0) 13 67 0) 13 68 0) 13 69 0) 13 3 = (n : Int) := by
    rw [jl_sk _ _ _ (by decide), jl_sk _ _ _ (by decide), jl_sk _ _ _ (by decide), jl_sk _ _ _ (by decide), jl_sk _ _ _ (by decide), jl_sk _ _ _ (by decide), jl_sk _ _ _ (by decide), jl_sk _ _ _ (by decide), jl_sk _ _ _ (by decide), jl_ss]
  have g1 : (qm_set (qm_set (qm_set (qm_set (qm_set (qm_set (qm_set (qm_set (qm_set (qm_set μ 13 3 (n : Int)) 13 1 0) 13 2 0) 13 4 (-1)) 13 5 0) 13 6 (-1)) 13 65 0) 13 67 0) 13 68 0) 13 69 0) 13 1 = 0 := by
    rw [jl_sk _ _ _ (by decide), jl_sk _ _ _ (by decide), jl_sk _ _ _ (by decide), jl_sk _ _ _ (by decide), jl_sk _ _ _ (by decide), jl_sk _ _ _ (by decide), jl_sk _ _ _ (by decide), jl_sk _ _ _ (by decide), jl_ss]
  have g2 : (qm_set (qm_set (qm_set (qm_set (qm_set (qm_set (qm_set (qm_set (qm_set (qm_set μ 13 3 (n : Int)) 13 1 0) 13 2 0) 13 4 (-1)) 13 5 0) 13 6 (-1)) 13 65 0) 13 67 0) 13 68 0) 13 69 0) 13 2 = 0 := by
    rw [jl_sk _ _ _ (by decide), jl_sk _ _ _ (by decide), jl_sk _ _ _ (by decide), jl_sk _ _ _ (by decide), jl_sk _ _ _ (by decide), jl_sk _ _ _ (by decide), jl_sk _ _ _ (by decide), jl_ss]
  have g4 : (qm_set (qm_set (qm_set (qm_set (qm_set (qm_set (qm_set (qm_set (qm_set (qm_set μ 13 3 (n : Int)) 13 1 0) 13 2 0) 13 4 (-1)) 13 5 0) 13 6 (-1)) 13 65 0) 13 67 0) 13 68 0) 13 69 0) 13 4 = -1 := by
    rw [jl_sk _ _ _ (by decide), jl_sk _ _ _ (by decide), jl_sk _ _ _ (by decide), jl_sk _ _ _ (by decide), jl_sk _ _ _ (by decide), jl_sk _ _ _ (by decide), jl_ss]
  have g5 : (qm_set (qm_set (qm_set (qm_set (qm_set (qm_set (qm_set (qm_set (qm_set (qm_set μ 13 3 (n : Int)) 13 1 0) 13 2 0) 13 4 (-1)) 13 5 0) 13 6 (-1)) 13 65 0) 13 67 0) 13 68 0) 13 69 0) 13 5 = 0 := by
    rw [jl_sk _ _ _ (by decide), jl_sk _ _ _ (by decide), jl_sk _ _ _ (by decide), jl_sk _ _ _ (by decide), jl_sk _ _ _ (by decide), jl_ss]
  have g6 : (qm_set (qm_set (qm_set (qm_set (qm_set (qm_set (qm_set (qm_set (qm_set (qm_set μ 13 3 (n : Int)) 13 1 0) 13 2 0) 13 4 (-1)) 13 5 0) 13 6 (-1)) 13 65 0) 13 67 0) 13 68 0) 13 69 0) 13 6 = -1 := by
    rw [jl_sk _ _ _ (by decide), jl_sk _ _ _ (by decide), jl_sk _ _ _ (by decide), jl_sk _ _ _ (by decide), jl_ss]
  have g65 : (qm_set (qm_set (qm_set (qm_set (qm_set (qm_set (qm_set (qm_set (qm_set (qm_set μ 13 3 (n : Int)) 13 1 0) 13 2 0) 13 4 (-1)) 13 5 0) 13 6 (-1)) 13 65 0) 13 67 0) 13 68 0) 13 69 0) 13 65 = 0 := by
    rw [jl_sk _ _ _ (by decide), jl_sk _ _ _ (by decide), jl_sk _ _ _ (by decide), jl_ss]
  have g67 : (qm_set (qm_set (qm_set (qm_set (qm_set (qm_set (qm_set (qm_set (qm_set (qm_set μ 13 3 (n : Int)) 13 1 0) 13 2 0) 13 4 (-1)) 13 5 0) 13 6 (-1)) 13 65 0) 13 67 0) 13 68 0) 13 69 0) 13 67 = 0 := by
    rw [jl_sk _ _ _ (by decide), jl_sk _ _ _ (by decide), jl_ss]
  have g68 : (qm_set (qm_set (qm_set (qm_set (qm_set (qm_set (qm_set (qm_set (qm_set (qm_set μ 13 3 (n : Int)) 13 1 0) 13 2 0) 13 4 (-1)) 13 5 0) 13 6 (-1)) 13 65 0) 13 67 0) 13 68 0) 13 69 0) 13 68 = 0 := by
    rw [jl_sk _ _ _ (by decide), jl_ss]
  have g69 : (qm_set (qm_set (qm_set (qm_set (qm_set (qm_set (qm_set (qm_set (qm_set (qm_set μ 13 3 (n : Int)) 13 1 0) 13 2 0) 13 4 (-1)) 13 5 0) 13 6 (-1)) 13 65 0) 13 67 0) 13 68 0) 13 69 0) 13 69 = 0 := jl_ss _ _ _ _
  generalize (qm_set (qm_set (qm_set (qm_set (qm_set (qm_set (qm_set (qm_set (qm_set (qm_set μ 13 3 (n : Int)) 13 1 0) 13 2 0) 13 4 (-1)) 13 5 0) 13 6 (-1)) 13 65 0) 13 67 0) 13 68 0) 13 69 0) = μ1 at *
  have hq : jm_qt μ1 n t 0 0 false D 0 0 jd_z 0 jd_z μ1 := by
    refine ⟨jg_refl _ _ _, ⟨⟨0, g2, Nat.zero_le _, Nat.zero_le _⟩, g3, fun z => (by cases z), fun _ => ?_, g5, g6, fun i hi => ?_⟩, Nat.zero_le _, jm_cstf hcst f0 rfl, g68, g69, 0, ⟨g65, g67, hD, by decide, by decide⟩, fun i hi => absurd hi (by omega), fun i hi => absurd hi (by omega), fun i hi => absurd hi (by omega)⟩
    · rw [g4]; decide
    · rw [f0.1 46 rfl rfl]; exact hT.2 i hi
  -- a fault
  have bad : ∀ (x : Int) (e : Int × Int) μ2, jm_qb μ1 n t e μ2 → (∀ μ', jd_fm jx_AF jx_AC μ μ' → μ' 13 1 = 0 → μ' 13 7 = e.1 → μ' 13 8 = e.2 → Q (-1000000000000000) μ') → qm_W (qb_T L) (d + 12) 2519 112 [qm_P 13, qm_I x, none] [] μ2 (fun v μ' => ∃ r, v = some (.inr (.inl r)) ∧ Q r μ') := fun x e μ2 h2 G => by
    have e5 := h2.2.2.2.1
    have ek := h2.2.2.2.2.1
    have e6 := h2.2.2.2.2.2.1
    refine b2519_112 μ2 _ _ ?_
    rw [e5, e6]
    refine ⟨by omega, fun q => by omega, fun _ => ⟨_, rfl, G _ (jg_f (jg_f (jg_trans (jg_sub f0 rfl rfl) (jg_sub h2.1 rfl rfl)) rfl) rfl) ?_ ?_ ?_⟩⟩
    · rw [jl_sk _ _ _ (by decide), jl_sk _ _ _ (by decide), h2.1.2 1 rfl]; exact g1
    · rw [jl_sk _ _ _ (by decide), jl_ss]
    · rw [jl_ss]
  have bad88 : ∀ (x : Int) (e : Int × Int) μ2, jm_qb μ1 n t e μ2 → (∀ μ', jd_fm jx_AF jx_AC μ μ' → μ' 13 1 = 0 → μ' 13 7 = e.1 → μ' 13 8 = e.2 → Q (-1000000000000000) μ') → qm_W (qb_T L) (d + 12) 2519 88 [qm_P 13, qm_I x, none] [] μ2 (fun v μ' => ∃ r, v = some (.inr (.inl r)) ∧ Q r μ') := fun x e μ2 h2 G => by
    have e5 := h2.2.2.2.1
    have ek := h2.2.2.2.2.1
    refine b2519_88 μ2 _ _ ?_
    rw [e5]
    exact ⟨by omega, fun q => by omega, fun _ => bad x e μ2 h2 G⟩
  refine js_2517 (d := d + 7) hk hq (fun hne μ2 h2 => ?_) (fun he μ2 h2 => ?_)
  · rw [if_neg hne] at H1 H0
    have hk5 : 0 ≤ jx_qk n t ∧ jx_qk n t ≤ 5 := by
      revert hne
      unfold jx_qk
      by_cases q1 : jx_isW n t 0 false qb_tx_1013
      · rw [jx_ifp q1]; omega
      rw [jx_ifn q1]
      by_cases q2 : jx_isW n t 0 false qb_tx_1014
      · rw [jx_ifp q2]; omega
      rw [jx_ifn q2]
      by_cases q3 : jx_isW n t 0 false qb_tx_1015
      · rw [jx_ifp q3]; omega
      rw [jx_ifn q3]
      by_cases q4 : jx_isW n t 0 false qb_tx_1016
      · rw [jx_ifp q4]; omega
      rw [jx_ifn q4]
      by_cases q5 : jx_isW n t 0 false qb_tx_1017
      · rw [jx_ifp q5]; omega
      rw [jx_ifn q5]
      by_cases q6 : jx_isW n t 0 false qb_tx_1018
      · rw [jx_ifp q6]; omega
      rw [jx_ifn q6]; omega
    have hask : ∀ σ, jx_bd (if jx_qk n t ≤ 2 then jx_tst n t 2000 0 (jx_we n t 0, true, D) else jx_sum n t 2000 0 (jx_we n t 0, true, D)) (fun s => (if jx_st n t s.1 = n then .inr s else .inl (1, ((jx_st n t s.1 : Nat) : Int)) : jx_R)) = .inr σ → jx_ask n t D = .inr σ := fun σ h => by
      unfold jx_ask
      rw [if_neg hne]; exact h
    -- all is read
    have good : ∀ σ μ3, (if jx_qk n t ≤ 2 then jx_tst n t 2000 0 (jx_we n t 0, true, D) else jx_sum n t 2000 0 (jx_we n t 0, true, D)) = .inr σ → jm_qt μ1 n t 0 σ.1 σ.2.1 σ.2.2 0 0 jd_z 0 jd_z μ3 → qm_W (qb_T L) (d + 12) 2519 88 [qm_P 13, qm_I (jx_qk n t), none] [] μ3 (fun v μ' => ∃ r, v = some (.inr (.inl r)) ∧ Q r μ') := fun σ μ3 hσ h3 => by
      rw [hσ] at H1 H0 hask
      have gn := h3.2.2.1
      refine b2519_88 μ3 _ _ ?_
      rw [h3.2.1.2.2.2.2.1]
      refine ⟨by decide, fun _ => js_2407 hk gn h3.2.1 (fun hlt μ4 f4 hp4 a4 => ?_) (fun hen μ4 f4 hp4 a4 => ⟨by decide, fun _ => ?_, fun q => absurd rfl q⟩), fun q => absurd rfl q⟩
      · have hbx := hk.2 _ hlt
        refine ⟨by omega, fun q => by omega, fun _ => ?_⟩
        rw [a4]
        have h4 := jl_qtm h3 (jg_sub f4 rfl rfl) hp4 (Nat.le_refl _) gn
        exact js_2404 hp4 (by decide) gn fun μ5 f5 hb5 => bad _ (1, ((jx_st n t σ.1 : Nat) : Int)) μ5 (jl_qbn (jl_qtb h4 (jg_sub f5 rfl rfl) hb5)) (H0 _ (if_neg (by omega)))
      · have h4 := jl_qtm h3 (jg_sub f4 rfl rfl) hp4 (Nat.le_refl _) gn
        have hs := H1 σ (if_pos hen)
        have ha := hask σ (if_pos hen)
        obtain ⟨q1, q2, q3, q4, q5, q6, c, ⟨c1, c2, c3, c4, c5⟩, q8, q9, q10⟩ := h4
        have hc6 : c ≤ 1600 := by omega
        have hM1 : jm_belt nc nr lm sd th T μ1 := jm_evb hM f0 rfl rfl
        -- each row
        have hf : ∀ r, r < nr → je_run nc sd th T r σ.2.2 c 0 [] = some [je_val nc sd th T σ.2.2 c r] ∧ je_n (je_val nc sd th T σ.2.2 c r) ∧ (jx_qk n t ≤ 2 → je_b (je_val nc sd th T σ.2.2 c r)) := fun r hr => by
          obtain ⟨c', v, hc', _, hrun, hv, hvb⟩ := je_ask hn hO hr hD ha
          have : c' = c := by rw [c3] at hc'; omega
          subst this
          rw [je_vale hrun]
          exact ⟨hrun, hv, hvb⟩
        generalize hff : je_val nc sd th T σ.2.2 c = f at *
        -- the rows one behind the other
        have go : ∀ μ5, jd_fm [7, 8, 72, 73] [] μ4 μ5 → μ5 13 72 = je_ans (jx_qk n t) f 0 → μ5 13 73 = 1 → μ5 13 7 = 0 → μ5 13 8 = -1 → qm_W (qb_T L) (d + 12) 2519 162 [qm_P 13, qm_I (jx_qk n t), qm_I 0] [] μ5 (fun v μ' => ∃ r, v = some (.inr (.inl r)) ∧ Q r μ') := fun μ5 f5 e72 e73 e7 e8 => by
          have hF5 : jd_fm jx_AF jx_AC μ μ5 := jg_trans (jg_trans (jg_sub f0 rfl rfl) (jg_sub q1 rfl rfl)) (jg_sub f5 rfl rfl)
          have hM5 : jm_belt nc nr lm sd th T μ5 := jm_evb (jm_evb hM1 q1 rfl rfl) f5 rfl rfl
          have h65 : μ5 13 65 = (c : Int) := by rw [f5.2 65 rfl]; exact c1
          have h91 : μ5 91 = μ4 91 := f5.1 91 rfl rfl
          have e1 : μ5 13 1 = 0 := by rw [f5.2 1 rfl, q1.2 1 rfl]; exact g1
          refine jl_loop (S := fun i => ∀ μ6, jd_fm [71, 72, 73] [93] μ5 μ6 → μ6 13 72 = je_ans (jx_qk n t) f i → (μ6 13 73 = if i = 0 then 1 else 0) → qm_W (qb_T L) (d + 12) 2519 162 [qm_P 13, qm_I (jx_qk n t), qm_I ((i : Nat) : Int)] [] μ6 (fun v μ' => ∃ r, v = some (.inr (.inl r)) ∧ Q r μ')) nr (fun i hi ih μ6 f6 k72 k73 => ?_) (fun μ6 f6 k72 k73 => ?_) μ5 (jg_refl _ _ _) e72 (by rw [e73]; rfl)
          · have e37 : μ6 13 37 = (nr : Int) := by rw [f6.2 37 rfl]; exact hM5.2.1
            refine b2519_162 μ6 _ _ _ ?_
            rw [e37]
            refine ⟨by omega, by omega, fun z => by omega, fun _ => b2516_0 μ6 _ _ ?_⟩
            have nil : je_all [] := fun v hv => absurd hv (List.not_mem_nil)
            have hM6 : jm_belt nc nr lm sd th T (qm_set μ6 13 71 0) := jm_evb (jm_evb hM5 f6 rfl rfl) (fs := [71]) (l := []) (jg_f (jg_refl _ _ _) rfl) rfl rfl
            refine js_2516 (d := d + 5) (μ0 := qm_set μ6 13 71 0) (D := σ.2.2) hO hi hc6 hM6 (fun j hj => ?_) ?_ c 0 [] _ none (by omega) nil (hf i hi).1 (jg_refl _ _ _) (jl_ss _ _ _ _) trivial (by decide) fun μ7 f7 => ?_
            · rw [jl_sn _ _ _ (by decide), f6.1 91 rfl rfl, h91]; exact q8 j hj
            · rw [jl_sk _ _ _ (by decide), f6.2 65 rfl]; exact h65
            have f67 : jd_fm [71, 72, 73] [93] μ5 μ7 := jg_trans f6 (jg_trans (jg_f (jg_refl _ _ _) rfl) (jg_sub f7 rfl rfl))
            refine js_2518 (k := jx_qk n t) (f := f) (i := i) (by omega) ?_ ?_ hk5 (hf i hi).2.2 (fun j hj => (hf j (by omega)).2.1) fun μ8 f8 k82 k83 => ?_
            · rw [f7.2 72 rfl, jl_sk _ _ _ (by decide)]; exact k72
            · rw [f7.2 73 rfl, jl_sk _ _ _ (by decide)]; exact k73
            · rw [jl_cs]
              exact ih μ8 (jg_trans f67 (jg_sub f8 rfl rfl)) k82 (by rw [k83, if_neg (by omega)])
          · have e37 : μ6 13 37 = (nr : Int) := by rw [f6.2 37 rfl]; exact hM5.2.1
            refine b2519_162 μ6 _ _ _ ?_
            rw [e37]
            refine ⟨by omega, by omega, fun _ => ⟨_, rfl, ?_⟩, fun z => by omega⟩
            rw [k72]
            have HH := hs c c3 μ6 (jg_trans hF5 (jg_sub f6 rfl rfl)) (by rw [f6.2 1 rfl]; exact e1) (by rw [f6.2 7 rfl]; exact e7) (by rw [f6.2 8 rfl]; exact e8)
            rw [hff] at HH
            exact HH
        have b52 : ∀ s0 : Int, s0 = je_ans (jx_qk n t) f 0 → qm_W (qb_T L) (d + 12) 2519 152 [qm_P 13, qm_I (jx_qk n t), none] [qm_L s0, qm_P 13] (qm_set (qm_set μ4 13 7 0) 13 8 (-1)) (fun v μ' => ∃ r, v = some (.inr (.inl r)) ∧ Q r μ') := fun s0 e0 => by
          refine b2519_152 _ _ _ _ (go _ (jg_f (jg_f (jg_f (jg_f (jg_refl _ _ _) rfl) rfl) rfl) rfl) ?_ ?_ ?_ ?_)
          · rw [jl_sk _ _ _ (by decide), jl_ss]; exact e0
          · rw [jl_ss]
          · rw [jl_sk _ _ _ (by decide), jl_sk _ _ _ (by decide), jl_sk _ _ _ (by decide), jl_ss]
          · rw [jl_sk _ _ _ (by decide), jl_sk _ _ _ (by decide), jl_ss]
        refine b2519_112 μ4 _ _ ?_
        rw [q2.2.2.2.2.1, q2.2.2.2.2.2.1]
        refine ⟨by decide, fun _ => ⟨by omega, fun q => b52 0 ?_, fun q => b52 (-1) ?_⟩, fun q => absurd rfl q⟩
        · unfold je_ans
          rw [if_neg (by omega), if_neg (by omega)]
          split
          · rfl
          · split <;> rfl
        · unfold je_ans
          split
          · rfl
          · rw [if_pos (by omega)]; rfl
    rw [h2.2.1.2.2.2.2.1]
    refine ⟨by decide, fun _ => ⟨by omega, fun q => ?_, fun q => ?_⟩, fun q => absurd rfl q⟩
    · refine b2519_77 μ2 _ _ ?_
      rw [h2.2.1.2.2.2.2.1]
      refine ⟨by decide, fun _ => js_2504 (d := d + 5) (F := 2000) (x := 0) hk (by decide) (by omega) (Or.inl rfl) h2 (fun σ hσ μ3 h3 => good σ μ3 ((if_neg (by omega)).trans hσ) h3) (fun e he μ3 h3 => bad88 _ e μ3 (jl_qbn h3) (H0 e ?_)), fun q => absurd rfl q⟩
      rw [if_neg (by omega), he]; rfl
    · refine js_2508 (d := d + 3) (F := 2000) hk (by decide) (by omega) h2 (fun σ hσ μ3 h3 => good σ μ3 ((if_pos (by omega)).trans hσ) h3) (fun e he μ3 h3 => bad88 _ e μ3 h3 (H0 e ?_))
      rw [if_pos (by omega), he]; rfl
  · have e5 : μ2 13 5 = 1 := h2.2.2.2.1
    rw [e5]
    refine ⟨by decide, fun q => absurd q (by decide), fun _ => b2519_77 μ2 _ _ ?_⟩
    rw [e5]
    exact ⟨by decide, fun q => absurd q (by decide), fun _ => bad88 _ _ μ2 (jl_qbn h2) (H0 _ (if_pos he))⟩
end
