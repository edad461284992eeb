/-! ===== a question's products and sums, the reference's ===== -/
def jm_Pf (L d : Nat) (x1 : Int) (V : qm_M → Prop) (μ0 : qm_M) (n : Nat) (t : Nat → Int) (F : Nat) : Prop := ∀ (a o b : Nat) (m : Bool) (D : qm_M) (s : Nat) (S : Nat → Int) (μ : qm_M), a ≤ s → o ≤ 6 → n - b < F → jm_qt μ0 n t a b m D o s S 0 jd_z μ → (∀ σ, jx_qs n t F 0 o (b, m, D) = .inr σ → ∀ μ', jm_qt μ0 n t a σ.1 σ.2.1 σ.2.2 o s S 0 jd_z μ' → jq_E L d x1 V μ') → (∀ e, jx_qs n t F 0 o (b, m, D) = .inl e → ∀ μ', jm_qn μ0 n t e μ' → V μ') → jq_P L d x1 V μ
def jm_R1 (L d : Nat) (x1 : Int) (V : qm_M → Prop) (μ0 : qm_M) (n : Nat) (t : Nat → Int) (F : Nat) : Prop := ∀ (a o b : Nat) (m : Bool) (D : qm_M) (s : Nat) (S : Nat → Int) (l : Nat) (pd : Nat → Int) (μ : qm_M), a ≤ s → o ≤ 6 → n - b < F → (s = 0 ∨ ¬ (3 ≤ S (s - 1) ∧ S (s - 1) ≤ 4)) → (∀ j, j < l → 3 ≤ pd j ∧ pd j ≤ 4) → jm_qt μ0 n t a b m D o s S l pd μ → (∀ σ, jx_qs n t F 1 o (b, m, D) = .inr σ → ∀ (l' : Nat) (pd' : Nat → Int) μ', (∀ j, j < l' → 3 ≤ pd' j ∧ pd' j ≤ 4) → jm_qt μ0 n t a σ.1 σ.2.1 σ.2.2 o s S l' pd' μ' → jq_G L d x1 V μ') → (∀ e, jx_qs n t F 1 o (b, m, D) = .inl e → ∀ μ', jm_qn μ0 n t e μ' → V μ') → jq_G L d x1 V μ
def jm_R2 (L d : Nat) (x1 : Int) (V : qm_M → Prop) (μ0 : qm_M) (n : Nat) (t : Nat → Int) (F : Nat) : Prop := ∀ (a o b : Nat) (m : Bool) (D : qm_M) (s : Nat) (S : Nat → Int) (l : Nat) (pd : Nat → Int) (μ : qm_M), a ≤ s → o ≤ 6 → n - b < F → (s = 0 ∨ ¬ (1 ≤ S (s - 1) ∧ S (s - 1) ≤ 4)) → (∀ j, j < l → 1 ≤ pd j ∧ pd j ≤ 4) → jm_qt μ0 n t a b m D o s S l pd μ → (∀ σ, jx_qs n t F 2 o (b, m, D) = .inr σ → ∀ (l' : Nat) (pd' : Nat → Int) μ', (∀ j, j < l' → 1 ≤ pd' j ∧ pd' j ≤ 4) → jm_qt μ0 n t a σ.1 σ.2.1 σ.2.2 o s S l' pd' μ' → jq_G L d x1 V μ') → (∀ e, jx_qs n t F 2 o (b, m, D) = .inl e → ∀ μ', jm_qn μ0 n t e μ' → V μ') → jq_G L d x1 V μ
section
variable {L d n : Nat} {t : Nat → Int} {a b : Nat} {m : Bool} {D μ0 μ : qm_M} {o s : Nat} {S : Nat → Int} {l : Nat} {pd : Nat → Int} {V : qm_M → Prop} {x1 : Int}
theorem jl_qtc {B : Nat} (h : jm_qg μ0 n t B a b m D o s S l pd μ) : (∃ c : Nat, D 11 5 = (c : Int) ∧ c ≤ B) ∧ s + l ≤ B ∧ μ 13 5 = 0 := by
  obtain ⟨h1, h2, h3, h4, h5, h6, k, ⟨k1, k2, k3, k4, k5⟩, h8, h9, h10⟩ := h
  exact ⟨⟨k + l, k3, k4⟩, k5, h2.2.2.2.2.1⟩
/-- not more steps than bytes behind a sign -/
theorem jl_qlt {b' : Nat} {σ : Nat × Bool × qm_M} (hc : ∃ c : Nat, D 11 5 = (c : Int) ∧ c ≤ b) (hb : b < b') (h : jx_qok n b' D σ) : ∀ c : Nat, σ.2.2 11 5 = (c : Int) → c < σ.1 := fun c e => by
  obtain ⟨c0, e0, e1⟩ := hc
  obtain ⟨c', f1, f2, f3⟩ := h.2.2 c0 e0
  have := h.1
  rw [f1] at e
  omega
theorem jm_R1s (hk : jd_tok n t) {F : Nat} (hP : jm_Pf L d x1 V μ0 n t F) (hR : jm_R1 L d x1 V μ0 n t F) : jm_R1 L d x1 V μ0 n t (F + 1) := fun a o b m D s S l pd μ has ho hF hS hpd h H1 H0 => by
  have hn := hk.1
  have hb := h.2.2.1
  have hst := jx_stb (t := t) hb
  obtain ⟨hc, hsl, h5⟩ := jl_qtc h
  unfold jx_qs at H1 H0
  by_cases q : jx_isM n t b 42 ∨ jx_isM n t b 47
  · rw [jx_ifp q] at H1 H0
    have no : ∀ c : Int, c ≠ 42 → c ≠ 47 → ¬ jx_isM n t b c := fun c c1 c2 z => by
      rcases q with y | y <;> (have := y.2.symm.trans z.2; omega)
    have hlt : jx_st n t b < n := by
      rcases q with z | z
      · exact z.1
      · exact z.1
    unfold jq_G
    refine jl_Gl hk h (fun z => absurd z (no 41 (by decide) (by decide))) (fun _ μ1 h1 a1 => jl_G122 hk h1 (fun _ μ2 h2 a2 => ?_) (fun z => by rcases z with z | z; exact absurd z (no 43 (by decide) (by decide)); exact absurd z (no 45 (by decide) (by decide))) (fun z => absurd q z)) (fun z => absurd z (no 41 (by decide) (by decide)))
    have go : ∀ op : Int, (op = 3 ∨ op = 4) → jx_rel (jx_if (jx_isM n t b 42) 11 12) 0 op → qm_W (qb_T L) (d + 5) 2503 162 [qm_P 13, qm_I op] [] μ2 (fun v μ2 => ∃ r, v = some (.inl r) ∧ jq_R L d x1 V r μ2) := fun op hop hrel => by
      refine jl_G162 (by omega) (by omega) hS (by omega) l pd μ2 h2 hpd fun μ3 h3 => ⟨_, rfl, by decide, fun z => absurd z (by decide), fun _ => jl_more (jl_qtc h3).2.2 ?_⟩
      refine hP a o (jx_st n t b + 1) false D (s + 1) (jx_ps S s op) μ3 (by omega) ho (by omega) h3 (fun σ hσ μ4 h4 => ?_) (fun e he => H0 e (congrArg (fun x => jx_bd x _) he))
      have g := jl_qsr F 0 o (jx_st n t b + 1, false, D) σ hlt hσ
      have gn := g.1.2.1
      have g2 : jx_st n t b + 1 < σ.1 := g.2 rfl
      have hlc := jl_qlt hc (show b < jx_st n t b + 1 by omega) g.1
      have e1 : jx_ps S s op s = op := jl_psn S s op
      refine jl_E0 h4 (by omega) (by omega) (Or.inr ?_) ?_
      · rw [show s + 1 - 1 = s by omega, e1]; omega
      · have h4' := jl_qtS (S' := S) (jl_qop (x := jx_if (jx_isM n t b 42) 11 12) (y := 0) h4 (by omega) hlc (by rw [e1]; exact hrel)) (jl_pso S s op)
        refine hR a o σ.1 σ.2.1 _ s S (0 + 1) _ μ4 has ho (by omega) hS (fun j hj => ?_) h4' (fun σ' h' => H1 σ' ((congrArg (fun x => jx_bd x _) hσ).trans h')) (fun e' h' => H0 e' ((congrArg (fun x => jx_bd x _) hσ).trans h'))
        show 3 ≤ (if j < 0 then jd_z j else jx_ps S s op s) ∧ (if j < 0 then jd_z j else jx_ps S s op s) ≤ 4
        rw [if_neg (by omega), e1]
        omega
    have ht : μ2 46 (jx_st n t b) = t (jx_st n t b) := h2.2.1.2.2.2.2.2.2 _ hlt
    have hbx := hk.2 _ hlt
    refine b2503_140 μ2 _ ?_
    rw [a2, show ((jx_st n t b + 1 : Nat) : Int) - 1 = ((jx_st n t b : Nat) : Int) by omega, Int.toNat_natCast, ht]
    refine ⟨by omega, by omega, fun z => b2503_161 μ2 _ _ (go 3 (Or.inl rfl) ?_), fun z => b2503_161 μ2 _ _ (go 4 (Or.inr rfl) ?_)⟩
    · rw [jx_ifp ⟨hlt, z⟩]; unfold jx_rel; omega
    · rw [jx_ifn (fun y => z y.2)]; unfold jx_rel; omega
  · exact H1 (b, m, D) (jx_ifn q) l pd μ hpd h
theorem jm_R2s (hk : jd_tok n t) {F : Nat} (hP : jm_Pf L d x1 V μ0 n t F) (hR : jm_R1 L d x1 V μ0 n t F) (hR2 : jm_R2 L d x1 V μ0 n t F) : jm_R2 L d x1 V μ0 n t (F + 1) := fun a o b m D s S l pd μ has ho hF hS hpd h H1 H0 => by
  have hn := hk.1
  have hb := h.2.2.1
  have hst := jx_stb (t := t) hb
  obtain ⟨hc, hsl, h5⟩ := jl_qtc h
  unfold jx_qs at H1 H0
  by_cases q : jx_isM n t b 43 ∨ jx_isM n t b 45
  · rw [jx_ifp q] at H1 H0
    have no : ∀ c : Int, c ≠ 43 → c ≠ 45 → ¬ jx_isM n t b c := fun c c1 c2 z => by
      rcases q with y | y <;> (have := y.2.symm.trans z.2; omega)
    have hlt : jx_st n t b < n := by
      rcases q with z | z
      · exact z.1
      · exact z.1
    unfold jq_G
    refine jl_Gl hk h (fun z => absurd z (no 41 (by decide) (by decide))) (fun _ μ1 h1 a1 => jl_G122 hk h1 (fun z => by rcases z with z | z; exact absurd z (no 42 (by decide) (by decide)); exact absurd z (no 47 (by decide) (by decide))) (fun _ μ2 h2 a2 => ?_) (fun _ z => absurd q z)) (fun z => absurd z (no 41 (by decide) (by decide)))
    have go : ∀ op : Int, (op = 1 ∨ op = 2) → jx_rel (jx_if (jx_isM n t b 43) 9 10) 0 op → qm_W (qb_T L) (d + 5) 2503 247 [qm_P 13, qm_I op] [] μ2 (fun v μ2 => ∃ r, v = some (.inl r) ∧ jq_R L d x1 V r μ2) := fun op hop hrel => by
      refine jl_G247 (by omega) (by omega) hS (by omega) l pd μ2 h2 hpd fun μ3 h3 => ⟨_, rfl, by decide, fun z => absurd z (by decide), fun _ => jl_more (jl_qtc h3).2.2 ?_⟩
      have e1 : jx_ps S s op s = op := jl_psn S s op
      refine hP a o (jx_st n t b + 1) false D (s + 1) (jx_ps S s op) μ3 (by omega) ho (by omega) h3 (fun σ hσ μ4 h4 => ?_) (fun e he => H0 e (congrArg (fun x => jx_bd (jx_bd x _) _) he))
      have g := jl_qsr F 0 o (jx_st n t b + 1, false, D) σ hlt hσ
      have gn := g.1.2.1
      have g2 : jx_st n t b + 1 < σ.1 := g.2 rfl
      refine jl_E0 h4 (by omega) (by omega) (Or.inr ?_) ?_
      · rw [show s + 1 - 1 = s by omega, e1]; omega
      refine hR a o σ.1 σ.2.1 σ.2.2 (s + 1) (jx_ps S s op) 0 jd_z μ4 (by omega) ho (by omega) (Or.inr ?_) (fun j hj => absurd hj (by omega)) h4 (fun σ1 hσ1 l' pd' μ5 hpd' h5' => ?_) (fun e' h' => H0 e' (congrArg (fun x => jx_bd x _) ((congrArg (fun x => jx_bd x _) hσ).trans h')))
      · rw [show s + 1 - 1 = s by omega, e1]; omega
      have k1 := jl_qsr F 1 o σ σ1 gn hσ1
      have gk := jl_qokt g.1 k1.1
      have gn1 := k1.1.2.1
      have g3 := k1.1.1
      have hlc := jl_qlt hc (show b < jx_st n t b + 1 by omega) gk
      have h4' := jl_qtS (S' := S) (jl_qop (x := jx_if (jx_isM n t b 43) 9 10) (y := 0) h5' (by omega) hlc (by rw [e1]; exact hrel)) (jl_pso S s op)
      have hbd : jx_bd (jx_qs n t F 0 o (jx_st n t b + 1, false, D)) (jx_qs n t F 1 o) = .inr σ1 := (congrArg (fun x => jx_bd x _) hσ).trans hσ1
      refine hR2 a o σ1.1 σ1.2.1 _ s S (l' + 1) _ μ5 has ho (by omega) hS (fun j hj => ?_) h4' (fun σ' h' => H1 σ' ((congrArg (fun x => jx_bd x _) hbd).trans h')) (fun e' h' => H0 e' ((congrArg (fun x => jx_bd x _) hbd).trans h'))
      show 1 ≤ (if j < l' then pd' j else jx_ps S s op s) ∧ (if j < l' then pd' j else jx_ps S s op s) ≤ 4
      by_cases y : j < l'
      · rw [if_pos y]; have := hpd' j y; omega
      · rw [if_neg y, e1]; omega
    have ht : μ2 46 (jx_st n t b) = t (jx_st n t b) := h2.2.1.2.2.2.2.2.2 _ hlt
    have hbx := hk.2 _ hlt
    refine b2503_225 μ2 _ ?_
    rw [a2, show ((jx_st n t b + 1 : Nat) : Int) - 1 = ((jx_st n t b : Nat) : Int) by omega, Int.toNat_natCast, ht]
    refine ⟨by omega, by omega, fun z => b2503_246 μ2 _ _ (go 1 (Or.inl rfl) ?_), fun z => b2503_246 μ2 _ _ (go 2 (Or.inr rfl) ?_)⟩
    · rw [jx_ifp ⟨hlt, z⟩]; unfold jx_rel; omega
    · rw [jx_ifn (fun y => z y.2)]; unfold jx_rel; omega
  · exact H1 (b, m, D) (jx_ifn q) l pd μ hpd h
end
