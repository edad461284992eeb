/-! ===== a question's sums end, the reference's ===== -/
section
variable {L d n : Nat} {t : Nat → Int} {a b : Nat} {m : Bool} {D μ0 μ : qm_M} {o s : Nat} {S : Nat → Int} {l : Nat} {pd : Nat → Int} {V : qm_M → Prop} {x1 : Int}
def jx_no4 (n : Nat) (t : Nat → Int) (b : Nat) : Prop := ¬ (jx_isM n t b 42 ∨ jx_isM n t b 47) ∧ ¬ (jx_isM n t b 43 ∨ jx_isM n t b 45)
theorem jl_q1n : ∀ (F o : Nat) (s σ : Nat × Bool × qm_M), jx_qs n t F 1 o s = .inr σ → ¬ (jx_isM n t σ.1 42 ∨ jx_isM n t σ.1 47)
  | 0, _, _, _, h => by cases h
  | F + 1, o, s, σ, h => by
    unfold jx_qs at h
    by_cases q : jx_isM n t s.1 42 ∨ jx_isM n t s.1 47
    · rw [jx_ifp q] at h
      obtain ⟨s1, e1, e2⟩ := jl_bdr h
      exact jl_q1n F o _ σ e2
    · rw [jx_ifn q] at h
      have := (Sum.inr.inj h).symm
      subst this
      exact q
theorem jl_q2n : ∀ (F o : Nat) (s σ : Nat × Bool × qm_M), ¬ (jx_isM n t s.1 42 ∨ jx_isM n t s.1 47) → jx_qs n t F 2 o s = .inr σ → jx_no4 n t σ.1
  | 0, _, _, _, _, h => by cases h
  | F + 1, o, s, σ, h0, h => by
    unfold jx_qs at h
    by_cases q : jx_isM n t s.1 43 ∨ jx_isM n t s.1 45
    · rw [jx_ifp q] at h
      obtain ⟨s1, e1, e2⟩ := jl_bdr h
      obtain ⟨s0, e3, e4⟩ := jl_bdr e1
      exact jl_q2n F o (s1.1, s1.2.1, jx_qa s1.2.2 (jx_if (jx_isM n t s.1 43) 9 10) 0) σ (jl_q1n F o s0 s1 e4) e2
    · rw [jx_ifn q] at h
      have := (Sum.inr.inj h).symm
      subst this
      exact ⟨h0, q⟩
/-- a bracket's entry is taken away -/
theorem jl_qpop {B : Nat} (h : jm_qg μ0 n t B a b m D (o + 1) (s + 1) S 0 pd μ) : jm_qg μ0 n t B a b m D o s S 0 jd_z (qm_set (qm_set μ 13 67 (μ 13 67 - 1)) 13 68 (μ 13 68 - 1)) := by
  obtain ⟨h1, h2, h3, h4, h5, h6, k, ⟨k1, k2, k3, k4, k5⟩, h8, h9, h10⟩ := h
  have ff : jd_fm [67, 68] [] μ (qm_set (qm_set μ 13 67 (μ 13 67 - 1)) 13 68 (μ 13 68 - 1)) := jg_f (jg_f (jg_refl _ _ _) rfl) rfl
  refine ⟨jg_trans h1 (jg_sub ff rfl rfl), jl_posf h2 ff rfl rfl rfl rfl rfl rfl, h3, jm_cstf h4 ff rfl, ?_, ?_, k, ⟨?_, ?_, k3, k4, by omega⟩, ?_, fun i hi => ?_, fun j hj => absurd hj (by omega)⟩
  · rw [jl_ss, h5]; omega
  · rw [ff.2 69 rfl]; exact h6
  · rw [ff.2 65 rfl]; exact k1
  · rw [jl_sk _ _ _ (by decide), jl_ss, k2]; omega
  · rw [ff.1 91 rfl rfl]; exact h8
  · rw [ff.1 92 rfl rfl]; exact h9 i (by omega)
/-- a bracket closed -/
theorem jl_endB {D' : qm_M} (hk : jd_tok n t) (h : jm_qt μ0 n t a b m D (o + 1) (s + 1) S l pd μ) (has : a ≤ s) (hD : (S s = 20 ∧ D' = D) ∨ (S s = 23 ∧ D' = jx_qa D 13 0) ∨ (S s = 24 ∧ D' = jx_qa D 14 0)) (hpd : ∀ j, j < l → pd j < 20) (no : jx_no4 n t b) (H1 : jx_isM n t b 41 → ∀ μ', jm_qt μ0 n t a (jx_st n t b + 1) false D' o s S 0 jd_z μ' → jq_E L d x1 V μ') (H0 : ¬ jx_isM n t b 41 → ∀ μ', jm_qn μ0 n t (1, ((jx_st n t b : Nat) : Int)) μ' → V μ') : jq_G L d x1 V μ := by
  have hn := hk.1
  have hb := h.2.2.1
  have hst := jx_stb (t := t) hb
  obtain ⟨⟨c0, c1, c2⟩, hsl, h5⟩ := jl_qtc h
  have hSb : S s = 20 ∨ S s = 23 ∨ S s = 24 := by rcases hD with z | z | z <;> omega
  have hctx : jx_ctx a (s + 1) S := Or.inr ⟨by omega, by rw [show s + 1 - 1 = s by omega]; omega⟩
  unfold jq_G
  refine jl_Gl hk h (fun _ => ⟨hctx, hpd⟩) (fun hno μ1 h1 a1 => ?_) (fun hM v μ1 hv h1 a1 => ⟨fun _ => ?_, fun z => ?_⟩)
  · refine jl_G122 hk h1 (fun z => absurd z no.1) (fun z => absurd z no.2) (fun _ _ μ2 h2 a2 => ?_)
    have ev : ∀ v, ((s + 1 = a ∧ v = -1) ∨ (a < s + 1 ∧ v = S (s + 1 - 1))) → v = S s := fun v hv => by
      rcases hv with z | z
      · omega
      · rw [z.2, show s + 1 - 1 = s by omega]
    refine js_2496 h2 (by omega) hpd hctx fun v hv => ?_
    have e1 := ev v hv
    refine ⟨by omega, fun z => by omega, fun _ => js_2496 h2 (by omega) hpd hctx fun w hw => ?_⟩
    have e2 := ev w hw
    refine ⟨by omega, fun z => by omega, fun _ => js_2496 h2 (by omega) hpd hctx fun u hu => ?_⟩
    have e3 := ev u hu
    refine ⟨by omega, fun z => by omega, fun _ => ?_⟩
    rw [h2.2.1.2.2.2.2.1, a2]
    exact ⟨by decide, fun _ => js_2404 h2.2.1 (by decide) hb fun μ3 f3 hb3 => ⟨_, rfl, by decide, fun _ => jl_q48b (jl_qtb h2 (jg_sub f3 rfl rfl) hb3) (H0 hno), fun z => absurd rfl z⟩, fun z => absurd rfl z⟩
  · have hlt := hM.1
    refine b2503_43 μ1 _ (js_2497 (d := d + 2) (by omega) hctx l pd _ (jl_qtM h1 a1 hlt (by omega)) hpd fun μ2 h2 a2 => ?_)
    obtain ⟨q1, q2, q3⟩ := jl_q67 h2
    obtain ⟨_, _, _, _, _, _, k, _, h8, h9, h10⟩ := id h2
    have p := h9 s (by omega)
    have hp := jl_qpop h2
    have eq : ∀ {μ3 : qm_M}, jm_qg μ0 n t (jx_st n t b + 1) a (jx_st n t b + 1) false D' o s S 0 jd_z μ3 → qm_W (qb_T L) (d + 5) 2503 115 [qm_P 13, none] [] μ3 (fun v μ2 => ∃ r, v = some (.inl r) ∧ jq_R L d x1 V r μ2) := fun {μ3} h3 => b2503_115 μ3 _ (H1 hM μ3 h3 _ fun μ' _ g => g)
    rw [q1, show ((s + 1 + 0 : Nat) : Int) - 1 = ((s : Nat) : Int) by omega, Int.toNat_natCast, p.1]
    rw [q1, show ((s + 1 + 0 : Nat) : Int) - 1 = ((s : Nat) : Int) by omega] at hp
    refine ⟨by omega, by omega, fun z => ?_, fun z => ⟨by omega, by omega, fun z2 => ?_, fun z2 => ?_⟩⟩
    · rcases hD with ⟨w, rfl⟩ | ⟨w, _⟩ | ⟨w, _⟩
      · exact eq hp
      · omega
      · omega
    · rcases hD with ⟨w, _⟩ | ⟨w, rfl⟩ | ⟨w, _⟩
      · omega
      · exact b2503_112 _ _ _ (js_2491a (x := 13) (y := 0) hp (by omega) (fun c hc => by omega) (by unfold jx_rel; omega) fun μ3 h3 _ => eq h3)
      · omega
    · rcases hD with ⟨w, _⟩ | ⟨w, _⟩ | ⟨w, rfl⟩
      · omega
      · omega
      · exact b2503_112 _ _ _ (js_2491a (x := 14) (y := 0) hp (by omega) (fun c hc => by omega) (by unfold jx_rel; omega) fun μ3 h3 _ => eq h3)
  · refine absurd ?_ z
    rcases hv with y | y
    · omega
    · rw [y.2, show s + 1 - 1 = s by omega]; exact hSb
/-- a pair's first sum has ended -/
theorem jl_endC (hk : jd_tok n t) (h : jm_qt μ0 n t a b m D o (s + 1) S l pd μ) (has : a ≤ s) (hS : S s = 21 ∨ S s = 22) (hpd : ∀ j, j < l → pd j < 20) (no : jx_no4 n t b) (H1 : jx_isM n t b 44 → ∀ μ', jm_qt μ0 n t a (jx_st n t b + 1) false D o (s + 1) (jx_ps S s (S s + 2)) 0 jd_z μ' → jq_P L d x1 V μ') (H0 : ¬ jx_isM n t b 44 → ∀ μ', jm_qn μ0 n t (1, ((jx_st n t b : Nat) : Int)) μ' → V μ') : jq_G L d x1 V μ := by
  have hn := hk.1
  have hb := h.2.2.1
  have hst := jx_stb (t := t) hb
  obtain ⟨⟨c0, c1, c2⟩, hsl, h5⟩ := jl_qtc h
  have hctx : jx_ctx a (s + 1) S := Or.inr ⟨by omega, by rw [show s + 1 - 1 = s by omega]; omega⟩
  have ev : ∀ v, ((s + 1 = a ∧ v = -1) ∨ (a < s + 1 ∧ v = S (s + 1 - 1))) → v = S s := fun v hv => by
    rcases hv with z | z
    · omega
    · rw [z.2, show s + 1 - 1 = s by omega]
  unfold jq_G
  have main : ∀ μ1, jm_qt μ0 n t a b m D o (s + 1) S l pd μ1 → qm_W (qb_T L) (d + 5) 2503 122 [qm_P 13, none] [] μ1 (fun v μ2 => ∃ r, v = some (.inl r) ∧ jq_R L d x1 V r μ2) := fun μ1 h1 => by
    refine jl_G122 hk h1 (fun z => absurd z no.1) (fun z => absurd z no.2) (fun _ _ μ2 h2 a2 => ?_)
    have fin : qm_W (qb_T L) (d + 5) 2503 326 [qm_P 13, none] [] μ2 (fun v μ2 => ∃ r, v = some (.inl r) ∧ jq_R L d x1 V r μ2) := by
      refine b2503_326 μ2 _ (js_2412 (by decide) hk hb h2.2.1 (fun z μ3 f3 hp3 => ?_) (fun z μ3 f3 hb3 => ?_))
      · have h3 : jm_qt μ0 n t a (jx_st n t b + 1) false D o (s + 1) S l pd μ3 := jl_qtm h2 f3 hp3 (by omega) z.1
        have hlt := z.1
        rw [hp3.2.2.2.2.1]
        refine ⟨by decide, fun _ => js_2497 (d := d + 2) (by omega) hctx l pd _ h3 hpd fun μ4 h4 a4 => ?_, fun z => absurd rfl z⟩
        obtain ⟨q1, q2, q3⟩ := jl_q67 h4
        obtain ⟨g1, g2, g3, g4, g5, g6, k, ⟨k1, k2, k3, k4, k5⟩, h8, h9, h10⟩ := id h4
        have p := h9 s (by omega)
        rw [q1, show ((s + 1 + 0 : Nat) : Int) - 1 = ((s : Nat) : Int) by omega, Int.toNat_natCast, p.1]
        have ff : jd_fm [] [92] μ4 (qm_set μ4 92 s (S s + 2)) := jg_c (jg_refl _ _ _) rfl rfl
        have hg : jm_qg μ0 n t (jx_st n t b + 1) a (jx_st n t b + 1) false D o (s + 1) (jx_ps S s (S s + 2)) 0 jd_z (qm_set μ4 92 s (S s + 2)) := by
          refine ⟨jg_trans g1 (jg_sub ff rfl rfl), jl_posf g2 ff rfl rfl rfl rfl rfl rfl, g3, jm_cstf g4 ff rfl, ?_, ?_, k, ⟨?_, ?_, k3, k4, k5⟩, ?_, fun i hi => ?_, fun j hj => absurd hj (by omega)⟩
          · rw [ff.2 68 rfl]; exact g5
          · rw [ff.2 69 rfl]; exact g6
          · rw [ff.2 65 rfl]; exact k1
          · rw [ff.2 67 rfl]; exact k2
          · rw [ff.1 91 rfl rfl]; exact h8
          · by_cases q : i = s
            · subst q; rw [jl_ss, jl_psn]; omega
            · rw [jl_sk _ _ _ q, ← jl_pso S s (S s + 2) i (by omega)]; exact h9 i hi
        exact ⟨by omega, by omega, _, rfl, by decide, fun z => absurd z (by decide), fun _ => jl_more (jl_qtc hg).2.2 (H1 z _ hg)⟩
      · have e5 : μ3 13 5 = 1 := hb3.2.2.1
        rw [e5]
        exact ⟨by decide, fun z => absurd z (by decide), fun _ => ⟨_, rfl, by decide, fun _ => jl_q48b (jl_qtb h2 f3 hb3) (H0 z), fun z => absurd rfl z⟩⟩
    refine js_2496 h2 (by omega) hpd hctx fun v hv => ?_
    have e1 := ev v hv
    refine ⟨by omega, fun z => fin, fun y1 => js_2496 h2 (by omega) hpd hctx fun w hw => ?_⟩
    have e2 := ev w hw
    exact ⟨by omega, fun z => fin, fun y2 => by omega⟩
  refine jl_Gl hk h (fun _ => ⟨hctx, hpd⟩) (fun hno μ1 h1 a1 => main μ1 h1) (fun hM v μ1 hv h1 a1 => ⟨fun z => ?_, fun z => main μ1 h1⟩)
  have := ev v hv
  omega
/-- a sum that stands by itself has ended -/
theorem jl_endA {x : Nat} (hk : jd_tok n t) (h : jm_qt μ0 n t s b m D o s S l pd μ) (hpd : ∀ j, j < l → pd j < 20) (no : jx_no4 n t b) (H : ∀ μ', jm_qt μ0 n t x b m D o s S 0 jd_z μ' → V μ') : jq_G L d ((x : Nat) : Int) V μ := by
  have hn := hk.1
  have hb := h.2.2.1
  have hctx : jx_ctx s s S := Or.inl rfl
  have ev : ∀ v, ((s = s ∧ v = -1) ∨ (s < s ∧ v = S (s - 1))) → v = -1 := fun v hv => by omega
  unfold jq_G
  have main : ∀ μ1, jm_qt μ0 n t s b m D o s S l pd μ1 → qm_W (qb_T L) (d + 5) 2503 122 [qm_P 13, none] [] μ1 (fun v μ2 => ∃ r, v = some (.inl r) ∧ jq_R L d ((x : Nat) : Int) V r μ2) := fun μ1 h1 => by
    refine jl_G122 hk h1 (fun z => absurd z no.1) (fun z => absurd z no.2) (fun _ _ μ2 h2 a2 => ?_)
    refine js_2496 h2 (by omega) hpd hctx fun v hv => ?_
    have e1 := ev v hv
    refine ⟨by omega, fun z => by omega, fun _ => js_2496 h2 (by omega) hpd hctx fun w hw => ?_⟩
    have e2 := ev w hw
    refine ⟨by omega, fun z => by omega, fun _ => js_2496 h2 (by omega) hpd hctx fun u hu => ?_⟩
    have e3 := ev u hu
    exact ⟨by omega, fun _ => ⟨_, rfl, by decide, fun _ => jl_q48 (a := s) (by omega) rfl h2 H, fun z => absurd rfl z⟩, fun z => absurd e3 z⟩
  refine jl_Gl hk h (fun _ => ⟨hctx, hpd⟩) (fun hno μ1 h1 a1 => main μ1 h1) (fun hM v μ1 hv h1 a1 => ⟨fun z => ?_, fun z => main μ1 h1⟩)
  have := ev v hv
  omega
/-- a sum, up to its end -/
theorem jl_qsum {F : Nat} (hk : jd_tok n t) (hP : jm_Pf L d x1 V μ0 n t F) (hR : jm_R1 L d x1 V μ0 n t F) (hR2 : jm_R2 L d x1 V μ0 n t F) (has : a ≤ s) (ho : o ≤ 6) (hF : n - b < F) (hS : s = 0 ∨ ¬ (1 ≤ S (s - 1) ∧ S (s - 1) ≤ 4)) (hS2 : s = a ∨ S (s - 1) < 60) (h : jm_qt μ0 n t a b m D o s S 0 jd_z μ) (H1 : ∀ σ, jx_sum n t F o (b, m, D) = .inr σ → b < σ.1 → jx_qok n b D σ → jx_no4 n t σ.1 → ∀ (l' : Nat) (pd' : Nat → Int) μ', (∀ j, j < l' → pd' j < 20) → jm_qt μ0 n t a σ.1 σ.2.1 σ.2.2 o s S l' pd' μ' → jq_G L d x1 V μ') (H0 : ∀ e, jx_sum n t F o (b, m, D) = .inl e → ∀ μ', jm_qn μ0 n t e μ' → V μ') : jq_P L d x1 V μ := by
  have hn := hk.1
  have hb := h.2.2.1
  unfold jx_sum at H1 H0
  refine hP a o b m D s S μ has ho hF h (fun σ hσ μ1 h1 => ?_) (fun e he => H0 e (congrArg (fun x => jx_bd (jx_bd x _) _) he))
  have g := jl_qsr F 0 o (b, m, D) σ hb hσ
  have gn := g.1.2.1
  have g2 : b < σ.1 := g.2 rfl
  refine jl_E0 h1 (by omega) has hS2 (hR a o σ.1 σ.2.1 σ.2.2 s S 0 jd_z μ1 has ho (by omega) (by omega) (fun j hj => absurd hj (by omega)) h1 (fun σ1 hσ1 l1 pd1 μ2 hp1 h2 => ?_) (fun e he => H0 e (congrArg (fun x => jx_bd x _) ((congrArg (fun x => jx_bd x _) hσ).trans he))))
  have k1 := jl_qsr F 1 o σ σ1 gn hσ1
  have gn1 := k1.1.2.1
  have g3 := k1.1.1
  have hbd : jx_bd (jx_qs n t F 0 o (b, m, D)) (jx_qs n t F 1 o) = .inr σ1 := (congrArg (fun x => jx_bd x _) hσ).trans hσ1
  refine hR2 a o σ1.1 σ1.2.1 σ1.2.2 s S l1 pd1 μ2 has ho (by omega) hS (fun j hj => by have := hp1 j hj; omega) h2 (fun σ2 hσ2 l2 pd2 μ3 hp2 h3 => ?_) (fun e he => H0 e ((congrArg (fun x => jx_bd x _) hbd).trans he))
  have k2 := jl_qsr F 2 o σ1 σ2 gn1 hσ2
  have g4 := k2.1.1
  exact H1 σ2 ((congrArg (fun x => jx_bd x _) hbd).trans hσ2) (by omega) (jl_qokt (jl_qokt g.1 k1.1) k2.1) (jl_q2n F o σ1 σ2 (jl_q1n F o σ σ1 hσ1) hσ2) l2 pd2 μ3 (fun j hj => by have := hp2 j hj; omega) h3
end
