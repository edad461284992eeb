/-! ===== a question's tests, the reference's ===== -/
def jm_T0 (L d : Nat) (V : qm_M → Prop) (μ0 : qm_M) (n : Nat) (t : Nat → Int) (F : Nat) : Prop := ∀ (o b : Nat) (m : Bool) (D : qm_M) (s : Nat) (S : Nat → Int) (μ : qm_M), o ≤ 6 → n - b < F → (∀ i, i < s → 10 ≤ S i) → jm_qt μ0 n t 0 b m D o s S 0 jd_z μ → (∀ σ, jx_qe n t F 0 o (b, m, D) = .inr σ → ∀ μ', jm_qt μ0 n t 0 σ.1 σ.2.1 σ.2.2 o s S 0 jd_z μ' → jt_N L d V μ') → (∀ e, jx_qe n t F 0 o (b, m, D) = .inl e → ∀ μ', jm_qb μ0 n t e μ' → V μ') → jt_T L d V μ
def jm_T1 (L d : Nat) (V : qm_M → Prop) (μ0 : qm_M) (n : Nat) (t : Nat → Int) (F : Nat) : Prop := ∀ (o b : Nat) (m : Bool) (D : qm_M) (s : Nat) (S : Nat → Int) (l : Nat) (pd : Nat → Int) (μ : qm_M), o ≤ 6 → n - b < F → (∀ i, i < s → 10 ≤ S i) → (s = 0 ∨ S (s - 1) ≠ 10) → (∀ j, j < l → pd j = 10) → jm_qt μ0 n t 0 b m D o s S l pd μ → (∀ σ, jx_qe n t F 1 o (b, m, D) = .inr σ → ∀ (l' : Nat) (pd' : Nat → Int) μ', (∀ j, j < l' → pd' j = 10) → jm_qt μ0 n t 0 σ.1 σ.2.1 σ.2.2 o s S l' pd' μ' → jt_G L d V μ') → (∀ e, jx_qe n t F 1 o (b, m, D) = .inl e → ∀ μ', jm_qb μ0 n t e μ' → V μ') → jt_G L d V μ
def jm_T2 (L d : Nat) (V : qm_M → Prop) (μ0 : qm_M) (n : Nat) (t : Nat → Int) (F : Nat) : Prop := ∀ (o b : Nat) (m : Bool) (D : qm_M) (s : Nat) (S : Nat → Int) (l : Nat) (pd : Nat → Int) (μ : qm_M), o ≤ 6 → n - b < F → (∀ i, i < s → 10 ≤ S i) → (s = 0 ∨ (S (s - 1) ≠ 10 ∧ S (s - 1) ≠ 11)) → (∀ j, j < l → pd j = 10 ∨ pd j = 11) → jm_qt μ0 n t 0 b m D o s S l pd μ → ¬ jx_isW n t b m qb_tx_1030 → (∀ σ, jx_qe n t F 2 o (b, m, D) = .inr σ → ∀ (l' : Nat) (pd' : Nat → Int) μ', (∀ j, j < l' → pd' j = 10 ∨ pd' j = 11) → jm_qt μ0 n t 0 σ.1 σ.2.1 σ.2.2 o s S l' pd' μ' → jt_G L d V μ') → (∀ e, jx_qe n t F 2 o (b, m, D) = .inl e → ∀ μ', jm_qb μ0 n t e μ' → V μ') → jt_G L d V μ
section
variable {L d n : Nat} {t : Nat → Int} {b : Nat} {m : Bool} {D μ0 μ : qm_M} {o s : Nat} {S : Nat → Int} {l : Nat} {pd : Nat → Int} {V : qm_M → Prop}
theorem jl_t1n : ∀ (F o : Nat) (s σ : Nat × Bool × qm_M), jx_qe n t F 1 o s = .inr σ → ¬ jx_isW n t σ.1 σ.2.1 qb_tx_1030
  | 0, _, _, _, h => by cases h
  | F + 1, o, s, σ, h => by
    unfold jx_qe at h
    by_cases q : jx_isW n t s.1 s.2.1 qb_tx_1030
    · rw [jx_ifp q] at h
      obtain ⟨s1, e1, e2⟩ := jl_bdr h
      exact jl_t1n F o _ σ e2
    · rw [jx_ifn q] at h
      have := (Sum.inr.inj h).symm
      subst this
      exact q
theorem jl_t2n : ∀ (F o : Nat) (s σ : Nat × Bool × qm_M), ¬ jx_isW n t s.1 s.2.1 qb_tx_1030 → jx_qe n t F 2 o s = .inr σ → ¬ jx_isW n t σ.1 σ.2.1 qb_tx_1030 ∧ ¬ jx_isW n t σ.1 σ.2.1 qb_tx_1031
  | 0, _, _, _, _, h => by cases h
  | F + 1, o, s, σ, h0, h => by
    unfold jx_qe at h
    by_cases q : jx_isW n t s.1 s.2.1 qb_tx_1031
    · rw [jx_ifp q] at h
      obtain ⟨s1, e1, e2⟩ := jl_bdr h
      obtain ⟨s0, e3, e4⟩ := jl_bdr e1
      exact jl_t2n F o (s1.1, s1.2.1, jx_qa s1.2.2 19 0) σ (jl_t1n F o s0 s1 e4) e2
    · rw [jx_ifn q] at h
      have := (Sum.inr.inj h).symm
      subst this
      exact ⟨h0, q⟩
theorem jl_qbn {e : Int × Int} (h : jm_qn μ0 n t e μ) : jm_qb μ0 n t e μ := ⟨h.1.2, h.2⟩
/-- words that join are not here -/
theorem jl_t76 {R : qm_V → qm_M → Prop} (hk : jd_tok n t) (h : jm_qt μ0 n t 0 b m D o s S l pd μ) (hpd : ∀ j, j < l → pd j < 20)
    (Ha : jx_isW n t b m qb_tx_1030 → ∀ μ', jm_qt μ0 n t 0 (jx_we n t b) true D o s S l pd μ' → qm_W (qb_T L) (d + 7) 2509 87 [qm_P 13] [] μ' R)
    (Ho : ¬ jx_isW n t b m qb_tx_1030 → jx_isW n t b m qb_tx_1031 → ∀ μ', jm_qt μ0 n t 0 (jx_we n t b) true D o s S l pd μ' → qm_W (qb_T L) (d + 7) 2509 137 [qm_P 13] [] μ' R)
    (H1 : ¬ jx_isW n t b m qb_tx_1030 → ¬ jx_isW n t b m qb_tx_1031 → (∃ i, i < s ∧ S i = 25) → ∀ μ', jm_qb μ0 n t (1, ((jx_st n t b : Nat) : Int)) μ' → R (qm_I 0) μ')
    (H0 : ¬ jx_isW n t b m qb_tx_1030 → ¬ jx_isW n t b m qb_tx_1031 → (∀ i, i < s → S i ≠ 25) → ∀ μ', jm_qt μ0 n t 0 b m D o s S l pd μ' → R (qm_I 0) μ') : qm_W (qb_T L) (d + 7) 2509 76 [qm_P 13] [] μ R := by
  have hn := hk.1
  have hb := h.2.2.1
  refine b2509_76 μ _ (js_2409q (d := d + 4) (l' := qb_tx_1030) (by decide) rfl rfl hk h (fun z μ1 h1 => ⟨by decide, fun q => absurd q (by decide), fun _ => Ha z μ1 h1⟩) (fun z1 μ1 h1 a1 => ⟨by decide, fun _ => ?_, fun q => absurd rfl q⟩))
  refine js_2409q (d := d + 4) (l' := qb_tx_1031) (by decide) rfl rfl hk h1 (fun z μ2 h2 => ⟨by decide, fun q => absurd q (by decide), fun _ => Ho z1 z μ2 h2⟩) (fun z2 μ2 h2 a2 => ⟨by decide, fun _ => ?_, fun q => absurd rfl q⟩)
  rw [h2.2.1.2.2.2.2.1]
  refine ⟨by decide, fun _ => js_2506 (by omega) h2 hpd (fun y => ⟨by decide, fun q => absurd q (by decide), fun _ => ?_⟩) (fun y => ⟨by decide, fun _ => H0 z1 z2 y μ2 h2, fun q => absurd rfl q⟩), fun z => absurd rfl z⟩
  rw [a2]
  exact js_2404 h2.2.1 (by decide) hb fun μ3 f3 hb3 => H1 z1 z2 y μ3 (jl_qbn (jl_qtb h2 (jg_sub f3 rfl rfl) hb3))
/-- what stands behind a fact -/
theorem jl_t0 {R : qm_V → qm_M → Prop} (hk : jd_tok n t) (h : jm_qt μ0 n t 0 b m D o s S l pd μ) (hpd : ∀ j, j < l → pd j < 20)
    (H1 : jx_isM n t b 93 → (∃ i, i < s ∧ S i = 25) → ∀ μ', jm_qt μ0 n t 0 (jx_st n t b + 1) false D o s S l pd μ' → qm_W (qb_T L) (d + 7) 2509 33 [qm_P 13] [] μ' R)
    (H0 : ¬ (jx_isM n t b 93 ∧ ∃ i, i < s ∧ S i = 25) → ∀ μ', jm_qt μ0 n t 0 b m D o s S l pd μ' → qm_W (qb_T L) (d + 7) 2509 76 [qm_P 13] [] μ' R) : qm_W (qb_T L) (d + 7) 2509 0 [qm_P 13] [] μ R := by
  have hn := hk.1
  have hb := h.2.2.1
  have hst := jx_stb (t := t) hb
  refine b2509_0 μ _ ?_
  rw [h.2.1.2.2.2.2.1]
  refine ⟨by decide, fun _ => js_2407 hk hb h.2.1 (fun hlt μ1 f1 hp1 a1 => ?_) (fun hen μ1 f1 hp1 a1 => ⟨by decide, fun q => absurd q (by decide), fun _ => H0 (fun z => by have := z.1.1; omega) μ1 (jl_qtm h (jg_sub f1 rfl rfl) hp1 (Nat.le_refl _) hb)⟩), fun z => absurd rfl z⟩
  have hbx := hk.2 _ hlt
  have h1 := jl_qtm h (jg_sub f1 rfl rfl) hp1 (Nat.le_refl _) hb
  refine ⟨by omega, fun q => ?_, fun q => H0 (fun z => q z.1.2) μ1 h1⟩
  exact js_2506 (by omega) h1 hpd (fun y => ⟨by decide, fun q => absurd q (by decide), fun _ => H1 ⟨hlt, q⟩ y _ (jl_qtM h1 a1 hlt (by omega))⟩) (fun y => ⟨by decide, fun _ => H0 (fun z => by obtain ⟨i, i1, i2⟩ := z.2; exact y i i1 i2) μ1 h1, fun q => absurd rfl q⟩)
theorem jm_T1s (hk : jd_tok n t) {F : Nat} (hT : jm_T0 L d V μ0 n t F) (hR : jm_T1 L d V μ0 n t F) : jm_T1 L d V μ0 n t (F + 1) := fun o b m D s S l pd μ ho hF hS10 hS hpd h H1 H0 => by
  have hn := hk.1
  have hb := h.2.2.1
  have hst := jx_stb (t := t) hb
  obtain ⟨hc, hsl, h5⟩ := jl_qtc h
  unfold jx_qe at H1 H0
  by_cases q : jx_isW n t b m qb_tx_1030
  · rw [jx_ifp q] at H1 H0
    have hw1 := jx_wlt hb q.1.1 q.1.2.1
    have hw2 := (jx_wes t hb).2.1
    refine jl_t0 hk h (fun j hj => by rw [hpd j hj]; decide) (fun z _ => absurd z (jx_isWM q (by unfold jx_le; decide))) (fun _ μ1 h1 => jl_t76 hk h1 (fun j hj => by rw [hpd j hj]; decide) (fun _ μ2 h2 => ?_) (fun z => absurd q z) (fun z => absurd q z) (fun z => absurd q z))
    have ev : jx_ps S s 10 s = 10 := jl_psn S s 10
    refine jl_t87 hn (by omega) hS l pd μ2 h2 hpd fun μ3 h3 => ⟨_, rfl, by decide, fun z => absurd z (by decide), fun _ c => b2508_106 μ3 _ _ _ _ (hT o (jx_we n t b) true D (s + 1) (jx_ps S s 10) μ3 ho (by omega) (fun i hi => ?_) h3 (fun σ hσ μ4 h4 => ?_) (fun e he => H0 e (congrArg (fun x => jx_bd x _) he)) _)⟩
    · by_cases y : i = s
      · rw [y, ev]; decide
      · rw [← jl_pso S s 10 i (by omega)]; exact hS10 i (by omega)
    have g := jl_qer F 0 o (jx_we n t b, true, D) σ hw2 hσ
    have gn := g.1.2.1
    have g2 : jx_we n t b < σ.1 := g.2 rfl
    have hlc := jl_qlt hc (show b < jx_we n t b by omega) g.1
    refine jl_N0 hn h4 (Or.inr (by rw [show s + 1 - 1 = s by omega, ev]; decide)) ?_
    have h4' := jl_qtS (S' := S) (jl_qop (x := 18) (y := 0) h4 (by omega) hlc (by rw [ev]; unfold jx_rel; omega)) (jl_pso S s 10)
    refine hR o σ.1 σ.2.1 _ s S (0 + 1) _ μ4 ho (by omega) hS10 hS (fun j hj => ?_) h4' (fun σ' h' => H1 σ' ((congrArg (fun x => jx_bd x _) hσ).trans h')) (fun e' h' => H0 e' ((congrArg (fun x => jx_bd x _) hσ).trans h'))
    show (if j < 0 then jd_z j else jx_ps S s 10 s) = 10
    rw [if_neg (by omega), ev]
  · exact H1 (b, m, D) (jx_ifn q) l pd μ hpd h
theorem jm_T2s (hk : jd_tok n t) {F : Nat} (hT : jm_T0 L d V μ0 n t F) (hR : jm_T1 L d V μ0 n t F) (hR2 : jm_T2 L d V μ0 n t F) : jm_T2 L d V μ0 n t (F + 1) := fun o b m D s S l pd μ ho hF hS10 hS hpd h hna H1 H0 => by
  have hn := hk.1
  have hb := h.2.2.1
  have hst := jx_stb (t := t) hb
  obtain ⟨hc, hsl, h5⟩ := jl_qtc h
  have hpd20 : ∀ j, j < l → pd j < 20 := fun j hj => by have := hpd j hj; omega
  unfold jx_qe at H1 H0
  by_cases q : jx_isW n t b m qb_tx_1031
  · rw [jx_ifp q] at H1 H0
    have hw1 := jx_wlt hb q.1.1 q.1.2.1
    have hw2 := (jx_wes t hb).2.1
    refine jl_t0 hk h hpd20 (fun z _ => absurd z (jx_isWM q (by unfold jx_le; decide))) (fun _ μ1 h1 => jl_t76 hk h1 hpd20 (fun z => absurd z hna) (fun _ _ μ2 h2 => ?_) (fun _ z => absurd q z) (fun _ z => absurd q z))
    have ev : jx_ps S s 11 s = 11 := jl_psn S s 11
    refine jl_t137 hn (by omega) hS l pd μ2 h2 hpd fun μ3 h3 => ⟨_, rfl, by decide, fun z => absurd z (by decide), fun _ c => b2508_106 μ3 _ _ _ _ (hT o (jx_we n t b) true D (s + 1) (jx_ps S s 11) μ3 ho (by omega) (fun i hi => ?_) h3 (fun σ hσ μ4 h4 => ?_) (fun e he => H0 e (congrArg (fun x => jx_bd (jx_bd x _) _) he)) _)⟩
    · by_cases y : i = s
      · rw [y, ev]; decide
      · rw [← jl_pso S s 11 i (by omega)]; exact hS10 i (by omega)
    have g := jl_qer F 0 o (jx_we n t b, true, D) σ hw2 hσ
    have gn := g.1.2.1
    have g2 : jx_we n t b < σ.1 := g.2 rfl
    refine jl_N0 hn h4 (Or.inr (by rw [show s + 1 - 1 = s by omega, ev]; decide)) ?_
    refine hR o σ.1 σ.2.1 σ.2.2 (s + 1) (jx_ps S s 11) 0 jd_z μ4 ho (by omega) (fun i hi => ?_) (Or.inr (by rw [show s + 1 - 1 = s by omega, ev]; decide)) (fun j hj => absurd hj (by omega)) h4 (fun σ1 hσ1 l' pd' μ5 hpd' h5' => ?_) (fun e' h' => H0 e' (congrArg (fun x => jx_bd x _) ((congrArg (fun x => jx_bd x _) hσ).trans h')))
    · by_cases y : i = s
      · rw [y, ev]; decide
      · rw [← jl_pso S s 11 i (by omega)]; exact hS10 i (by omega)
    have k1 := jl_qer F 1 o σ σ1 gn hσ1
    have gk := jl_qokt g.1 k1.1
    have gn1 := k1.1.2.1
    have g3 := k1.1.1
    have hlc := jl_qlt hc (show b < jx_we n t b by omega) gk
    have h4' := jl_qtS (S' := S) (jl_qop (x := 19) (y := 0) h5' (by omega) hlc (by rw [ev]; unfold jx_rel; omega)) (jl_pso S s 11)
    have hbd : jx_bd (jx_qe n t F 0 o (jx_we n t b, true, D)) (jx_qe n t F 1 o) = .inr σ1 := (congrArg (fun x => jx_bd x _) hσ).trans hσ1
    refine hR2 o σ1.1 σ1.2.1 _ s S (l' + 1) _ μ5 ho (by omega) hS10 hS (fun j hj => ?_) h4' (jl_t1n F o σ σ1 hσ1) (fun σ' h' => H1 σ' ((congrArg (fun x => jx_bd x _) hbd).trans h')) (fun e' h' => H0 e' ((congrArg (fun x => jx_bd x _) hbd).trans h'))
    show (if j < l' then pd' j else jx_ps S s 11 s) = 10 ∨ (if j < l' then pd' j else jx_ps S s 11 s) = 11
    by_cases y : j < l'
    · rw [if_pos y]; exact Or.inl (hpd' j y)
    · rw [if_neg y, ev]; exact Or.inr rfl
  · exact H1 (b, m, D) (jx_ifn q) l pd μ hpd h
/-- a square bracket closed -/
theorem jl_endS (hk : jd_tok n t) (h : jm_qt μ0 n t 0 b m D (o + 1) (s + 1) S l pd μ) (hS : S s = 25) (hpd : ∀ j, j < l → pd j < 20) (na : ¬ jx_isW n t b m qb_tx_1030) (no : ¬ jx_isW n t b m qb_tx_1031) (H1 : jx_isM n t b 93 → ∀ μ', jm_qt μ0 n t 0 (jx_st n t b + 1) false D o s S 0 jd_z μ' → jt_N L d V μ') (H0 : ¬ jx_isM n t b 93 → ∀ μ', jm_qb μ0 n t (1, ((jx_st n t b : Nat) : Int)) μ' → V μ') : jt_G L d V μ := by
  have hn := hk.1
  have hex : ∃ i, i < s + 1 ∧ S i = 25 := ⟨s, by omega, hS⟩
  refine jl_t0 hk h hpd (fun hM _ μ1 h1 => ?_) (fun hM μ1 h1 => ?_)
  · exact jl_t33 hn hS l pd μ1 h1 hpd fun μ2 h2 => H1 hM μ2 h2 (d + 6) _ (by omega) fun μ3 _ g => g
  · exact jl_t76 hk h1 hpd (fun z => absurd z na) (fun _ z => absurd z no) (fun _ _ _ μ2 h2 => ⟨_, rfl, by decide, fun _ c => jl_t105b h2 (H0 fun z => hM ⟨z, hex⟩), fun z => absurd rfl z⟩) (fun _ _ z => absurd hS (z s (by omega)))
/-- the test that stands by itself has ended -/
theorem jl_endT (hk : jd_tok n t) (h : jm_qt μ0 n t 0 b m D o 0 S l pd μ) (hpd : ∀ j, j < l → pd j < 20) (na : ¬ jx_isW n t b m qb_tx_1030) (no : ¬ jx_isW n t b m qb_tx_1031) (H : ∀ μ', jm_qt μ0 n t 0 b m D o 0 S 0 jd_z μ' → V μ') : jt_G L d V μ := by
  have hn := hk.1
  refine jl_t0 hk h hpd (fun _ hex => ?_) (fun _ μ1 h1 => ?_)
  · obtain ⟨i, i1, _⟩ := hex; omega
  · exact jl_t76 hk h1 hpd (fun z => absurd z na) (fun _ z => absurd z no) (fun _ _ hex => by obtain ⟨i, i1, _⟩ := hex; omega) (fun _ _ _ μ2 h2 => ⟨_, rfl, by decide, fun _ c => jl_t105 hn h2 H, fun z => absurd rfl z⟩)
/-- a test, up to its end -/
theorem jl_ttest {F : Nat} (hk : jd_tok n t) (hT : jm_T0 L d V μ0 n t F) (hR : jm_T1 L d V μ0 n t F) (hR2 : jm_T2 L d V μ0 n t F) (ho : o ≤ 6) (hF : n - b < F) (hS10 : ∀ i, i < s → 10 ≤ S i) (hS : s = 0 ∨ S (s - 1) = 25) (h : jm_qt μ0 n t 0 b m D o s S 0 jd_z μ) (H1 : ∀ σ, jx_tst n t F o (b, m, D) = .inr σ → b < σ.1 → jx_qok n b D σ → ¬ jx_isW n t σ.1 σ.2.1 qb_tx_1030 → ¬ jx_isW n t σ.1 σ.2.1 qb_tx_1031 → ∀ (l' : Nat) (pd' : Nat → Int) μ', (∀ j, j < l' → pd' j < 20) → jm_qt μ0 n t 0 σ.1 σ.2.1 σ.2.2 o s S l' pd' μ' → jt_G L d V μ') (H0 : ∀ e, jx_tst n t F o (b, m, D) = .inl e → ∀ μ', jm_qb μ0 n t e μ' → V μ') : jt_T L d V μ := by
  have hn := hk.1
  have hb := h.2.2.1
  unfold jx_tst at H1 H0
  refine hT o b m D s S μ ho hF hS10 h (fun σ hσ μ1 h1 => ?_) (fun e he => H0 e (congrArg (fun x => jx_bd (jx_bd x _) _) he))
  have g := jl_qer F 0 o (b, m, D) σ hb hσ
  have gn := g.1.2.1
  have g2 : b < σ.1 := g.2 rfl
  refine jl_N0 hn h1 (by rcases hS with z | z; exact Or.inl z; exact Or.inr (by rw [z]; decide)) (hR o σ.1 σ.2.1 σ.2.2 s S 0 jd_z μ1 ho (by omega) hS10 (by rcases hS with z | z; exact Or.inl z; exact Or.inr (by rw [z]; decide)) (fun j hj => absurd hj (by omega)) h1 (fun σ1 hσ1 l1 pd1 μ2 hp1 h2 => ?_) (fun e he => H0 e (congrArg (fun x => jx_bd x _) ((congrArg (fun x => jx_bd x _) hσ).trans he))))
  have k1 := jl_qer F 1 o σ σ1 gn hσ1
  have gn1 := k1.1.2.1
  have g3 := k1.1.1
  have na := jl_t1n F o σ σ1 hσ1
  have hbd : jx_bd (jx_qe n t F 0 o (b, m, D)) (jx_qe n t F 1 o) = .inr σ1 := (congrArg (fun x => jx_bd x _) hσ).trans hσ1
  refine hR2 o σ1.1 σ1.2.1 σ1.2.2 s S l1 pd1 μ2 ho (by omega) hS10 (by rcases hS with z | z; exact Or.inl z; exact Or.inr (by rw [z]; decide)) (fun j hj => Or.inl (hp1 j hj)) h2 na (fun σ2 hσ2 l2 pd2 μ3 hp2 h3 => ?_) (fun e he => H0 e ((congrArg (fun x => jx_bd x _) hbd).trans he))
  have k2 := jl_qer F 2 o σ1 σ2 gn1 hσ2
  have g4 := k2.1.1
  have n2 := jl_t2n F o σ1 σ2 na hσ2
  exact H1 σ2 ((congrArg (fun x => jx_bd x _) hbd).trans hσ2) (by omega) (jl_qokt (jl_qokt g.1 k1.1) k2.1) n2.1 n2.2 l2 pd2 μ3 (fun j hj => by have := hp2 j hj; omega) h3
end
