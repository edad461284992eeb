/-! ===== a question read, the class's ===== -/
noncomputable def jx_qk (n : Nat) (t : Nat → Int) : Int := jx_if (jx_isW n t 0 false qb_tx_1013) 0 (jx_if (jx_isW n t 0 false qb_tx_1014) 1 (jx_if (jx_isW n t 0 false qb_tx_1015) 2 (jx_if (jx_isW n t 0 false qb_tx_1016) 3 (jx_if (jx_isW n t 0 false qb_tx_1017) 4 (jx_if (jx_isW n t 0 false qb_tx_1018) 5 (-1))))))
noncomputable def jx_ask (n : Nat) (t : Nat → Int) (D : qm_M) : jx_R :=
  if jx_qk n t = -1 then .inl (1, ((jx_st n t 0 : Nat) : Int)) else
  jx_bd (if jx_qk n t ≤ 2 then jx_tst n t 2000 0 (jx_we n t 0, true, D) else jx_sum n t 2000 0 (jx_we n t 0, true, D)) fun s =>
    if jx_st n t s.1 = n then .inr s else .inl (1, ((jx_st n t s.1 : Nat) : Int))
/-- the draft of a question as it begins -/
def jx_q0 (μ : qm_M) (k : Int) : qm_M := qm_set (qm_set μ 11 5 0) 11 7 k
theorem jx_q05 (μ : qm_M) (k : Int) : jx_q0 μ k 11 5 = ((0 : Nat) : Int) := by unfold jx_q0; rw [jl_sk _ _ _ (by decide), jl_ss]; rfl
section
variable {L d n : Nat} {t : Nat → Int} {μ : qm_M} {Q : Int → qm_M → Prop}
theorem js_1201 (hk : jd_tok n t) (hT : jc_tape n t μ) (H1 : ∀ s, jx_ask n t (jx_q0 μ (jx_qk n t)) = .inr s → ∀ μ', jc_qt μ n t s.1 s.2.1 s.2.2 μ' → Q 1 μ') (H0 : ∀ e, jx_ask n t (jx_q0 μ (jx_qk n t)) = .inl e → ∀ μ', jc_qn μ e μ' → Q 0 μ') : qm_CI (qb_T L) (d + 60) 1201 [qm_P 11] μ Q := by
  have hn := hk.1
  unfold jx_ask at H1 H0
  have hst := jx_stb (t := t) (Nat.zero_le n)
  have f0 : jd_fr jx_QF μ (qm_set μ 11 5 0) := jf_set (jf_refl _ _) rfl
  refine b1201_0 μ _ (js_2001 (d := d + 57) (jl_tfr hT (f0 1 rfl) (f0 14 rfl)) hk fun μ1 f1 h6 h7 hx => ?_)
  have e11 : ∀ j, μ1 11 j = qm_set μ 11 5 0 11 j := fun j => by rw [f1 11 rfl]
  have F1 : jd_fr jx_QF μ μ1 := jf_trans f0 (jf_sub f1 rfl)
  have hT1 : jc_tape n t μ1 := jl_tfr hT (F1 1 rfl) (F1 14 rfl)
  -- what was asked
  have go : ∀ k : Int, jx_qk n t = k → (-1 ≤ k ∧ k ≤ 5) → (k ≠ -1 → jx_isL n t 0 false) → qm_W (qb_T L) (d + 60) 1201 110 [qm_P 11, none] [qm_I k, qm_P 11] μ1 (fun v μ' => ∃ r, v = some (.inl r) ∧ Q r μ') := fun k hk2 hkb hkl => by
    rw [hk2] at H1 H0
    have f2 : jd_fr jx_QF μ (qm_set μ1 11 7 k) := jf_set F1 rfl
    have hq : jc_qt μ n t 0 false (jx_q0 μ k) (qm_set μ1 11 7 k) := by
      refine ⟨f2, jl_tokc hx (jl_sn _ _ _ (by decide)), ?_, ?_, fun a ha => ?_, Nat.zero_le _, jl_tapc hT1 (jl_sn _ _ _ (by decide)) (jl_sn _ _ _ (by decide))⟩
      · rw [jl_sn _ _ _ (by decide)]; exact h6
      · rw [jl_sn _ _ _ (by decide)]; exact h7
      · have : a = 11 ∨ a = 42 ∨ a = 43 := by
          have := List.contains_iff_mem.mp ha
          simpa [jx_QC] using this
        unfold jx_q0
        rcases this with rfl | rfl | rfl
        · funext j
          by_cases q : j = 7
          · subst q; rw [jl_ss, jl_ss]
          · rw [jl_sk _ _ _ q, jl_sk _ _ _ q, e11]
        · rw [jl_sn _ _ _ (by decide), jl_sn _ _ _ (by decide), jl_sn _ _ _ (by decide), f1 42 rfl, jl_sn _ _ _ (by decide)]
        · rw [jl_sn _ _ _ (by decide), jl_sn _ _ _ (by decide), jl_sn _ _ _ (by decide), f1 43 rfl, jl_sn _ _ _ (by decide)]
    refine b1201_110 μ1 _ _ ⟨by omega, fun q => ?_, fun q => ?_⟩
    · rw [if_pos q] at H0
      exact js_2006 hq.2.2.1 hq.2.1 fun μ' f e1 e2 => ⟨Or.inl rfl, _, rfl, H0 _ rfl μ' (jl_qtn hq f e1 e2)⟩
    · rw [if_neg q] at H1 H0
      have hL := hkl q
      have hw2 := (jx_wes t (Nat.zero_le n)).2.1
      refine js_stepL hq.2.2.2.2.2.2 hk (Nat.zero_le _) hq.2.1 hL fun μ2 f3 hx2 => ?_
      have ha := jl_qts hq f3 hx2 hw2
      have e7 : μ2 11 7 = k := by rw [f3.1 11 rfl, jl_ss]
      rw [e7]
      have hc0 : ∃ c : Nat, jx_q0 μ k 11 5 = (c : Int) ∧ c ≤ jx_we n t 0 := ⟨0, jx_q05 μ k, Nat.zero_le _⟩
      -- behind it
      have fin : ∀ s, (∀ s', (if jx_st n t s.1 = n then .inr s else .inl (1, ((jx_st n t s.1 : Nat) : Int)) : jx_R) = .inr s' → ∀ μ', jc_qt μ n t s'.1 s'.2.1 s'.2.2 μ' → Q 1 μ') → (∀ e, (if jx_st n t s.1 = n then .inr s else .inl (1, ((jx_st n t s.1 : Nat) : Int)) : jx_R) = .inl e → ∀ μ', jc_qn μ e μ' → Q 0 μ') → ∀ μ3, jc_qt μ n t s.1 s.2.1 s.2.2 μ3 → qm_W (qb_T L) (d + 60) 1201 158 [qm_P 11, none] [qm_I 1] μ3 (fun v μ' => ∃ r, v = some (.inl r) ∧ Q r μ') := fun s G1 G0 μ3 h3 => by
        refine b1201_158 μ3 _ _ ⟨by decide, fun q => absurd q (by decide), fun _ => js_2007 h3.2.1 (fun z => ⟨by decide, fun q => absurd q (by decide), fun _ => b1201_184 μ3 _ _ ⟨_, rfl, G1 s (if_pos z) μ3 h3⟩⟩) (fun z => ⟨by decide, fun _ => ?_, fun q => absurd rfl q⟩)⟩
        exact js_2006 h3.2.2.1 h3.2.1 fun μ' f e1 e2 => ⟨by decide, fun _ => ⟨_, rfl, G0 _ (if_neg z) μ' (jl_qtn h3 f e1 e2)⟩, fun q => absurd rfl q⟩
      have nop : ∀ e, (∀ e', (.inl e : jx_R) = .inl e' → ∀ μ', jc_qn μ e' μ' → Q 0 μ') → ∀ μ3, jc_qn μ e μ3 → qm_W (qb_T L) (d + 60) 1201 158 [qm_P 11, none] [qm_I 0] μ3 (fun v μ' => ∃ r, v = some (.inl r) ∧ Q r μ') := fun e G0 μ3 h3 =>
        b1201_158 μ3 _ _ ⟨by decide, fun _ => ⟨_, rfl, G0 e rfl μ3 h3⟩, fun q => absurd rfl q⟩
      have i0 : (0 : Int) = ((0 : Nat) : Int) := rfl
      refine ⟨by omega, fun y => ?_, fun y => ?_⟩
      · rw [if_neg (by omega)] at H1 H0
        rw [i0]
        exact js_1209 (F := 2000) (dd := d + 59) hk (by decide) (by omega) (by omega) hc0 ha (fun s hs μ3 h3 => fin s (fun s' e => H1 s' ((congrArg (fun x => jx_bd x _) hs).trans e)) (fun s' e => H0 s' ((congrArg (fun x => jx_bd x _) hs).trans e)) μ3 h3) (fun e he μ3 h3 => nop e (fun e' e2 => H0 e' ((congrArg (fun x => jx_bd x _) he).trans e2)) μ3 h3)
      · rw [if_pos (by omega)] at H1 H0
        rw [i0]
        exact js_1205 (F := 2000) (dd := d + 59) hk (by decide) (by omega) (by omega) hc0 ha (fun s hs μ3 h3 => fin s (fun s' e => H1 s' ((congrArg (fun x => jx_bd x _) hs).trans e)) (fun s' e => H0 s' ((congrArg (fun x => jx_bd x _) hs).trans e)) μ3 h3) (fun e he μ3 h3 => nop e (fun e' e2 => H0 e' ((congrArg (fun x => jx_bd x _) he).trans e2)) μ3 h3)
  have z0 := Nat.zero_le n
  refine js_2009 (d := d + 58) (l := qb_tx_1013) rfl (jx_lw13 (72, qb_tx_1013) (by decide)) hk z0 hx (fun q1 => ⟨by decide, fun q => absurd q (by decide), fun _ => go 0 (jx_ifp q1) (by decide) (fun _ => q1.1)⟩) (fun q1 => ⟨by decide, fun _ => ?_, fun q => absurd rfl q⟩)
  refine js_2009 (d := d + 58) (l := qb_tx_1014) rfl (jx_lw13 (73, qb_tx_1014) (by decide)) hk z0 hx (fun q2 => ⟨by decide, fun q => absurd q (by decide), fun _ => go 1 ((jx_ifn q1).trans (jx_ifp q2)) (by decide) (fun _ => q2.1)⟩) (fun q2 => ⟨by decide, fun _ => ?_, fun q => absurd rfl q⟩)
  refine js_2009 (d := d + 58) (l := qb_tx_1015) rfl (jx_lw13 (74, qb_tx_1015) (by decide)) hk z0 hx (fun q3 => ⟨by decide, fun q => absurd q (by decide), fun _ => go 2 ((jx_ifn q1).trans ((jx_ifn q2).trans (jx_ifp q3))) (by decide) (fun _ => q3.1)⟩) (fun q3 => ⟨by decide, fun _ => ?_, fun q => absurd rfl q⟩)
  refine js_2009 (d := d + 58) (l := qb_tx_1016) rfl (jx_lw13 (75, qb_tx_1016) (by decide)) hk z0 hx (fun q4 => ⟨by decide, fun q => absurd q (by decide), fun _ => go 3 ((jx_ifn q1).trans ((jx_ifn q2).trans ((jx_ifn q3).trans (jx_ifp q4)))) (by decide) (fun _ => q4.1)⟩) (fun q4 => ⟨by decide, fun _ => ?_, fun q => absurd rfl q⟩)
  refine js_2009 (d := d + 58) (l := qb_tx_1017) rfl (jx_lw13 (76, qb_tx_1017) (by decide)) hk z0 hx (fun q5 => ⟨by decide, fun q => absurd q (by decide), fun _ => go 4 ((jx_ifn q1).trans ((jx_ifn q2).trans ((jx_ifn q3).trans ((jx_ifn q4).trans (jx_ifp q5))))) (by decide) (fun _ => q5.1)⟩) (fun q5 => ⟨by decide, fun _ => ?_, fun q => absurd rfl q⟩)
  refine js_2009 (d := d + 58) (l := qb_tx_1018) rfl (jx_lw13 (77, qb_tx_1018) (by decide)) hk z0 hx (fun q6 => ⟨by decide, fun q => absurd q (by decide), fun _ => go 5 ((jx_ifn q1).trans ((jx_ifn q2).trans ((jx_ifn q3).trans ((jx_ifn q4).trans ((jx_ifn q5).trans (jx_ifp q6)))))) (by decide) (fun _ => q6.1)⟩) (fun q6 => ⟨by decide, fun _ => go (-1) ((jx_ifn q1).trans ((jx_ifn q2).trans ((jx_ifn q3).trans ((jx_ifn q4).trans ((jx_ifn q5).trans (jx_ifn q6)))))) (by decide) (fun z => absurd rfl z), fun q => absurd rfl q⟩)
end
