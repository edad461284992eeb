/-! ===== a question's tests, the class's ===== -/
section
variable {L n : Nat} {t : Nat → Int} {μ0 : qm_M}
def jc_T0 (L n : Nat) (t : Nat → Int) (μ0 : qm_M) (F : Nat) : Prop := ∀ (o b : Nat) (m : Bool) (D μ : qm_M) (dd : Nat) (Q : Int → qm_M → Prop), o ≤ 6 → 36 ≤ dd + 4 * o → n - b < F → (∃ c : Nat, D 11 5 = (c : Int) ∧ c ≤ b) → jc_qt μ0 n t b m D μ → (∀ s, jx_qe n t F 0 o (b, m, D) = .inr s → ∀ μ', jc_qt μ0 n t s.1 s.2.1 s.2.2 μ' → Q 1 μ') → (∀ e, jx_qe n t F 0 o (b, m, D) = .inl e → ∀ μ', jc_qn μ0 e μ' → Q 0 μ') → qm_CI (qb_T L) dd 1207 [qm_P 11, qm_I ((o : Nat) : Int)] μ Q
def jc_T1 (L n : Nat) (t : Nat → Int) (μ0 : qm_M) (F : Nat) : Prop := ∀ (o b : Nat) (m : Bool) (D μ : qm_M) (dd : Nat) (Q : Int → qm_M → Prop) (j : Nat), o ≤ 6 → 37 ≤ dd + 4 * o → n - b < F → (∃ c : Nat, D 11 5 = (c : Int) ∧ c ≤ b) → j ≤ b → jc_qt μ0 n t b m D μ → (∀ s, jx_qe n t F 1 o (b, m, D) = .inr s → ∀ μ', jc_qt μ0 n t s.1 s.2.1 s.2.2 μ' → Q 1 μ') → (∀ e, jx_qe n t F 1 o (b, m, D) = .inl e → ∀ μ', jc_qn μ0 e μ' → Q 0 μ') → qm_W (qb_T L) dd 1206 8 [qm_P 11, qm_I ((o : Nat) : Int), qm_I 1, qm_I ((j : Nat) : Int)] [] μ (fun v μ' => ∃ r, v = some (.inl r) ∧ Q r μ')
def jc_T2 (L n : Nat) (t : Nat → Int) (μ0 : qm_M) (F : Nat) : Prop := ∀ (o b : Nat) (m : Bool) (D μ : qm_M) (dd : Nat) (Q : Int → qm_M → Prop) (j : Nat), o ≤ 6 → 38 ≤ dd + 4 * o → n - b < F → (∃ c : Nat, D 11 5 = (c : Int) ∧ c ≤ b) → j ≤ b → jc_qt μ0 n t b m D μ → (∀ s, jx_qe n t F 2 o (b, m, D) = .inr s → ∀ μ', jc_qt μ0 n t s.1 s.2.1 s.2.2 μ' → Q 1 μ') → (∀ e, jx_qe n t F 2 o (b, m, D) = .inl e → ∀ μ', jc_qn μ0 e μ' → Q 0 μ') → qm_W (qb_T L) dd 1205 8 [qm_P 11, qm_I ((o : Nat) : Int), qm_I 1, qm_I ((j : Nat) : Int)] [] μ (fun v μ' => ∃ r, v = some (.inl r) ∧ Q r μ')
theorem jl_bad6 {d : Nat} {o j : Int} {μ : qm_M} {Q : Int → qm_M → Prop} (hj : 0 ≤ j ∧ j < 5000) (H : Q 0 μ) : qm_W (qb_T L) (d + 1) 1206 8 [qm_P 11, qm_I o, qm_I 0, qm_I j] [] μ (fun v μ' => ∃ r, v = some (.inl r) ∧ Q r μ') :=
  b1206_8 μ _ _ _ _ ⟨by omega, fun _ => ⟨Or.inl rfl, _, rfl, H⟩, fun _ => ⟨by decide, fun _ => ⟨Or.inl rfl, _, rfl, H⟩, fun q => absurd rfl q⟩⟩
theorem jl_bad5 {d : Nat} {o j : Int} {μ : qm_M} {Q : Int → qm_M → Prop} (hj : 0 ≤ j ∧ j < 5000) (H : Q 0 μ) : qm_W (qb_T L) (d + 1) 1205 8 [qm_P 11, qm_I o, qm_I 0, qm_I j] [] μ (fun v μ' => ∃ r, v = some (.inl r) ∧ Q r μ') :=
  b1205_8 μ _ _ _ _ ⟨by omega, fun _ => ⟨Or.inl rfl, _, rfl, H⟩, fun _ => ⟨by decide, fun _ => ⟨Or.inl rfl, _, rfl, H⟩, fun q => absurd rfl q⟩⟩
/-- facts joined by and -/
theorem jl_bothq {F : Nat} (hP : jc_T0 L n t μ0 F) (hR : jc_T1 L n t μ0 F) {o b : Nat} {m : Bool} {D μ : qm_M} {dd : Nat} {Q : Int → qm_M → Prop} (ho : o ≤ 6) (hd : 37 ≤ dd + 4 * o) (hF : n - b < F) (hc : ∃ c : Nat, D 11 5 = (c : Int) ∧ c ≤ b) (h : jc_qt μ0 n t b m D μ) (H1 : ∀ s, jx_bd (jx_qe n t F 0 o (b, m, D)) (jx_qe n t F 1 o) = .inr s → ∀ μ', jc_qt μ0 n t s.1 s.2.1 s.2.2 μ' → Q 1 μ') (H0 : ∀ e, jx_bd (jx_qe n t F 0 o (b, m, D)) (jx_qe n t F 1 o) = .inl e → ∀ μ', jc_qn μ0 e μ' → Q 0 μ') : qm_CI (qb_T L) dd 1206 [qm_P 11, qm_I ((o : Nat) : Int)] μ Q := by
  obtain ⟨d, rfl⟩ : ∃ e, dd = e + 1 := ⟨dd - 1, by omega⟩
  refine b1206_0 μ _ _ (hP o b m D μ d _ ho (by omega) hF hc h (fun s hs μ1 h1 => ?_) (fun e he μ1 h1 => jl_bad6 (j := 0) (by decide) (H0 e (by rw [he]; rfl) μ1 h1)))
  have a := (jl_qer F 0 o (b, m, D) s h.2.2.2.2.2.1 hs)
  have a1 : b < s.1 := a.2 rfl
  rw [hs] at H1 H0
  exact hR o s.1 s.2.1 s.2.2 μ1 (d + 1) Q 0 ho hd (by have := a.1.2.1; omega) (jl_cleq a.1 hc) (Nat.zero_le _) h1 H1 H0
/-- a test -/
theorem jl_test {F : Nat} (hP : jc_T0 L n t μ0 F) (hR : jc_T1 L n t μ0 F) (hR2 : jc_T2 L n t μ0 F) {o b : Nat} {m : Bool} {D μ : qm_M} {dd : Nat} {Q : Int → qm_M → Prop} (ho : o ≤ 6) (hd : 38 ≤ dd + 4 * o) (hF : n - b < F) (hc : ∃ c : Nat, D 11 5 = (c : Int) ∧ c ≤ b) (h : jc_qt μ0 n t b m D μ) (H1 : ∀ s, jx_tst n t F o (b, m, D) = .inr s → ∀ μ', jc_qt μ0 n t s.1 s.2.1 s.2.2 μ' → Q 1 μ') (H0 : ∀ e, jx_tst n t F o (b, m, D) = .inl e → ∀ μ', jc_qn μ0 e μ' → Q 0 μ') : qm_CI (qb_T L) dd 1205 [qm_P 11, qm_I ((o : Nat) : Int)] μ Q := by
  obtain ⟨d, rfl⟩ : ∃ e, dd = e + 1 := ⟨dd - 1, by omega⟩
  unfold jx_tst at H1 H0
  refine b1205_0 μ _ _ (jl_bothq (dd := d) hP hR ho (by omega) hF hc h (fun s hs μ1 h1 => ?_) (fun e he μ1 h1 => jl_bad5 (j := 0) (by decide) (H0 e (by rw [he]; rfl) μ1 h1)))
  obtain ⟨s0, e0, e1⟩ := jl_bdr hs
  have a := (jl_qer F 0 o (b, m, D) s0 h.2.2.2.2.2.1 e0)
  have a1 := (jl_qer F 1 o s0 s a.1.2.1 e1)
  have a2 : b < s0.1 := a.2 rfl
  have a3 := a1.1.1
  rw [hs] at H1 H0
  exact hR2 o s.1 s.2.1 s.2.2 μ1 (d + 1) Q 0 ho hd (by have := a1.1.2.1; omega) (jl_cleq (jl_qokt a.1 a1.1) hc) (Nat.zero_le _) h1 H1 H0
theorem jl_T1 (hk : jd_tok n t) {F : Nat} (hP : jc_T0 L n t μ0 F) (hR : jc_T1 L n t μ0 F) : jc_T1 L n t μ0 (F + 1) := fun o b m D μ dd Q j ho hd hF hc hj h H1 H0 => by
  have hn := hk.1
  obtain ⟨d, rfl⟩ : ∃ e, dd = e + 5 := ⟨dd - 5, by omega⟩
  obtain ⟨h1, h2, h3, h4, h5, h6, h7⟩ := id h
  obtain ⟨c, hc1, hc2⟩ := hc
  have hst := jx_stb (t := t) h6
  unfold jx_qe at H1 H0
  have stop : ¬ jx_isW n t b m qb_tx_1030 → ((1 : Int) = 0 ∨ (1 : Int) = 1) ∧ ∃ r, qm_I 1 = some (.inl r) ∧ Q r μ := fun z => ⟨Or.inr rfl, _, rfl, H1 (b, m, D) (jx_ifn z) μ h⟩
  refine b1206_8 μ _ _ _ _ ⟨by omega, fun q => stop (fun z => ?_), fun q => ⟨by decide, fun q2 => absurd q2 (by decide), fun _ => ?_⟩⟩
  · have := z.1.1; omega
  · refine js_2009 (l := qb_tx_1030) rfl (jx_lw13 (79, qb_tx_1030) (by decide)) hk h6 h2 (fun z => ⟨by decide, fun q2 => absurd q2 (by decide), fun _ => ?_⟩) (fun z => ⟨by decide, fun _ => stop z, fun q2 => absurd rfl q2⟩)
    rw [jx_ifp z] at H1 H0
    have hw1 := jx_wlt h6 z.1.1 z.1.2.1
    have hw2 := (jx_wes t h6).2.1
    refine js_stepL h7 hk h6 h2 z.1 fun μ1 f1 hx1 => ?_
    have ha := jl_qts h f1 hx1 hw2
    refine hP o (jx_we n t b) true D μ1 (d + 4) _ ho (by omega) (by omega) ⟨c, hc1, by omega⟩ ha (fun s hs2 μ2 h2' => ⟨by decide, fun q => absurd q (by decide), fun _ => ?_⟩) (fun e he μ2 h2' => ⟨by decide, fun _ => ?_, fun q => absurd rfl q⟩)
    · have a := jl_qer F 0 o (jx_we n t b, true, D) s hw2 hs2
      obtain ⟨c', f1', f2'⟩ := jl_cleq a.1 ⟨c, hc1, by show c ≤ jx_we n t b; omega⟩
      have a1 : jx_we n t b < s.1 := a.2 rfl
      have a2 := a.1.2.1
      rw [hs2] at H1 H0
      refine js_1202 h2' (by rw [f1']; exact ⟨by omega, by omega⟩) fun μ3 h3' => ⟨by decide, fun q => absurd q (by decide), fun _ => b1206_61 μ3 _ _ _ _ _ ?_⟩
      rw [jl_cs]
      refine hR o s.1 s.2.1 (jx_qa s.2.2 18 0) μ3 (d + 5) Q (j + 1) ho hd (by omega) ⟨c' + 1, by rw [jl_qac, f1']; rfl, ?_⟩ (by omega) h3' (fun s' hs' => H1 s' hs') (fun e' he' => H0 e' he')
      obtain ⟨c3, g1, g2, g3⟩ := a.1.2.2 c hc1
      have : c3 = c' := by rw [f1'] at g1; omega
      have g4 : (jx_we n t b, true, D).1 = jx_we n t b := rfl
      rw [g4] at g3
      omega
    · refine b1206_60 μ2 _ _ _ _ (b1206_61 μ2 _ _ _ _ _ ?_)
      rw [jl_cs]
      exact jl_bad6 (by omega) (H0 e (by rw [he]; rfl) μ2 h2')
theorem jl_T2 (hk : jd_tok n t) {F : Nat} (hP : jc_T0 L n t μ0 F) (hR : jc_T1 L n t μ0 F) (hR2 : jc_T2 L n t μ0 F) : jc_T2 L n t μ0 (F + 1) := fun o b m D μ dd Q j ho hd hF hc hj h H1 H0 => by
  have hn := hk.1
  obtain ⟨d, rfl⟩ : ∃ e, dd = e + 5 := ⟨dd - 5, by omega⟩
  obtain ⟨h1, h2, h3, h4, h5, h6, h7⟩ := id h
  obtain ⟨c, hc1, hc2⟩ := hc
  have hst := jx_stb (t := t) h6
  unfold jx_qe at H1 H0
  have stop : ¬ jx_isW n t b m qb_tx_1031 → ((1 : Int) = 0 ∨ (1 : Int) = 1) ∧ ∃ r, qm_I 1 = some (.inl r) ∧ Q r μ := fun z => ⟨Or.inr rfl, _, rfl, H1 (b, m, D) (jx_ifn z) μ h⟩
  refine b1205_8 μ _ _ _ _ ⟨by omega, fun q => stop (fun z => ?_), fun q => ⟨by decide, fun q2 => absurd q2 (by decide), fun _ => ?_⟩⟩
  · have := z.1.1; omega
  · refine js_2009 (l := qb_tx_1031) rfl (jx_lw13 (80, qb_tx_1031) (by decide)) hk h6 h2 (fun z => ⟨by decide, fun q2 => absurd q2 (by decide), fun _ => ?_⟩) (fun z => ⟨by decide, fun _ => stop z, fun q2 => absurd rfl q2⟩)
    rw [jx_ifp z] at H1 H0
    have hw1 := jx_wlt h6 z.1.1 z.1.2.1
    have hw2 := (jx_wes t h6).2.1
    refine js_stepL h7 hk h6 h2 z.1 fun μ1 f1 hx1 => ?_
    have ha := jl_qts h f1 hx1 hw2
    refine jl_bothq (o := o) (b := jx_we n t b) (m := true) (D := D) (dd := d + 4) hP hR ho (by omega) (by omega) ⟨c, hc1, by omega⟩ ha (fun s hs2 μ2 h2' => ⟨by decide, fun q => absurd q (by decide), fun _ => ?_⟩) (fun e he μ2 h2' => ⟨by decide, fun _ => ?_, fun q => absurd rfl q⟩)
    · obtain ⟨s0, e0, e1⟩ := jl_bdr hs2
      have a0 := jl_qer F 0 o (jx_we n t b, true, D) s0 hw2 e0
      have a1' := jl_qer F 1 o s0 s a0.1.2.1 e1
      have a := jl_qokt a0.1 a1'.1
      obtain ⟨c', f1', f2'⟩ := jl_cleq a ⟨c, hc1, by show c ≤ jx_we n t b; omega⟩
      have a1 : jx_we n t b < s.1 := Nat.lt_of_lt_of_le (a0.2 rfl) a1'.1.1
      have a2 := a.2.1
      rw [hs2] at H1 H0
      refine js_1202 h2' (by rw [f1']; exact ⟨by omega, by omega⟩) fun μ3 h3' => ⟨by decide, fun q => absurd q (by decide), fun _ => b1205_61 μ3 _ _ _ _ _ ?_⟩
      rw [jl_cs]
      refine hR2 o s.1 s.2.1 (jx_qa s.2.2 19 0) μ3 (d + 5) Q (j + 1) ho hd (by omega) ⟨c' + 1, by rw [jl_qac, f1']; rfl, ?_⟩ (by omega) h3' (fun s' hs' => H1 s' hs') (fun e' he' => H0 e' he')
      obtain ⟨c3, g1, g2, g3⟩ := a.2.2 c hc1
      have : c3 = c' := by rw [f1'] at g1; omega
      have g4 : (jx_we n t b, true, D).1 = jx_we n t b := rfl
      rw [g4] at g3
      omega
    · refine b1205_60 μ2 _ _ _ _ (b1205_61 μ2 _ _ _ _ _ ?_)
      rw [jl_cs]
      exact jl_bad5 (by omega) (H0 e (by rw [he]; rfl) μ2 h2')
/-- two sums compared -/
theorem js_1208 (hk : jd_tok n t) {o b : Nat} {m : Bool} {D μ : qm_M} {dd : Nat} {Q : Int → qm_M → Prop} (ho : o ≤ 6) (hd : 35 ≤ dd + 4 * o) (hc : ∃ c : Nat, D 11 5 = (c : Int) ∧ c ≤ b) (h : jc_qt μ0 n t b m D μ) (H1 : ∀ s, jx_cq n t o (b, m, D) = .inr s → ∀ μ', jc_qt μ0 n t s.1 s.2.1 s.2.2 μ' → Q 1 μ') (H0 : ∀ e, jx_cq n t o (b, m, D) = .inl e → ∀ μ', jc_qn μ0 e μ' → Q 0 μ') : qm_CI (qb_T L) dd 1208 [qm_P 11, qm_I ((o : Nat) : Int)] μ Q := by
  have hn := hk.1
  obtain ⟨d, rfl⟩ : ∃ e, dd = e + 5 := ⟨dd - 5, by omega⟩
  unfold jx_cq at H1 H0
  refine b1208_0 μ _ _ (js_1209 (F := 2000) (dd := d + 4) hk ho (by omega) (by omega) hc h (fun s1 hs1 μ1 h1 => ⟨by decide, fun q => absurd q (by decide), fun _ => ?_⟩) (fun e he μ1 h1 => ⟨by decide, fun _ => ⟨_, rfl, H0 e (by rw [he]; rfl) μ1 h1⟩, fun q => absurd rfl q⟩))
  rw [hs1] at H1 H0
  obtain ⟨g1, g2, g3⟩ := jl_sumq (s := (b, m, D)) h.2.2.2.2.2.1 hc hs1
  obtain ⟨c1, gc1, gc2⟩ := g1
  obtain ⟨a1, a2, a3, a4, a5, a6, a7⟩ := id h1
  have hst := jx_stb (t := t) a6
  have go : ∀ k : Int, k ≠ -1 → (-2147483648 ≤ k ∧ k < 2147483648) → (jx_isM n t s1.1 60 ∨ jx_isM n t s1.1 62 ∨ jx_isM n t s1.1 61) → jx_if (jx_isM n t s1.1 60) (15 : Int) (jx_if (jx_isM n t s1.1 62) 16 17) = k → qm_W (qb_T L) (d + 5) 1208 62 [qm_P 11, qm_I ((o : Nat) : Int), none] [qm_I k] μ1 (fun v μ' => ∃ r, v = some (.inl r) ∧ Q r μ') := fun k hk1 hkr hs hk2 => by
    have H1' : ∀ s, jx_bd (jx_sum n t 2000 o (jx_st n t s1.1 + 1, false, s1.2.2)) (fun s2 => (.inr (s2.1, s2.2.1, jx_qa s2.2.2 k 0) : jx_R)) = .inr s → ∀ μ', jc_qt μ0 n t s.1 s.2.1 s.2.2 μ' → Q 1 μ' := fun s e => H1 s ((jx_ifp hs).trans (by rw [hk2]; exact e))
    have H0' : ∀ s, jx_bd (jx_sum n t 2000 o (jx_st n t s1.1 + 1, false, s1.2.2)) (fun s2 => (.inr (s2.1, s2.2.1, jx_qa s2.2.2 k 0) : jx_R)) = .inl s → ∀ μ', jc_qn μ0 s μ' → Q 0 μ' := fun s e => H0 s ((jx_ifp hs).trans (by rw [hk2]; exact e))
    clear H1 H0
    have hlt : jx_st n t s1.1 < n := by
      rcases hs with z | z | z
      · exact z.1
      · exact z.1
      · exact z.1
    have hnl : ¬ jx_le (t (jx_st n t s1.1)) ∧ ¬ jx_di (t (jx_st n t s1.1)) := by
      rcases hs with z | z | z <;> (have := z.2; unfold jx_le jx_di; omega)
    refine b1208_62 μ1 _ _ _ ⟨hkr, fun q => absurd q hk1, fun _ => js_stepM a7 hk a6 a2 hlt hnl.1 hnl.2 fun μ2 f2 hx2 => ?_⟩
    have ha := jl_qts h1 f2 hx2 hlt
    refine js_1209 (F := 2000) (dd := d + 4) hk ho (by omega) (by omega) ⟨c1, gc1, by omega⟩ ha (fun s2 hs2 μ3 h3 => ⟨by decide, fun q => absurd q (by decide), fun _ => ?_⟩) (fun e he μ3 h3 => ⟨by decide, fun _ => ⟨_, rfl, H0' e (by rw [he]; rfl) μ3 h3⟩, fun q => absurd rfl q⟩)
    rw [hs2] at H1'
    obtain ⟨k1, k2, k3⟩ := jl_sumq (s := (jx_st n t s1.1 + 1, false, s1.2.2)) hlt ⟨c1, gc1, by show c1 ≤ jx_st n t s1.1 + 1; omega⟩ hs2
    obtain ⟨c2, gc3, gc4⟩ := k1
    exact js_1202 h3 (by rw [gc3]; exact ⟨by omega, by omega⟩) fun μ4 h4 => ⟨by decide, fun q => absurd q (by decide), fun _ => ⟨_, rfl, H1' (s2.1, s2.2.1, jx_qa s2.2.2 k 0) rfl μ4 h4⟩⟩
  refine js_2008 (by decide) (by unfold jx_le jx_di; decide) hk a2 (fun z => ⟨by decide, fun q => absurd q (by decide), fun _ => go 15 (by decide) (by decide) (Or.inl z) (jx_ifp z)⟩) (fun z => ⟨by decide, fun _ => ?_, fun q => absurd rfl q⟩)
  refine js_2008 (by decide) (by unfold jx_le jx_di; decide) hk a2 (fun z2 => ⟨by decide, fun q => absurd q (by decide), fun _ => go 16 (by decide) (by decide) (Or.inr (Or.inl z2)) ((jx_ifn z).trans (jx_ifp z2))⟩) (fun z2 => ⟨by decide, fun _ => ?_, fun q => absurd rfl q⟩)
  refine js_2008 (by decide) (by unfold jx_le jx_di; decide) hk a2 (fun z3 => ⟨by decide, fun q => absurd q (by decide), fun _ => go 17 (by decide) (by decide) (Or.inr (Or.inr z3)) ((jx_ifn z).trans (jx_ifn z2))⟩) (fun z3 => ⟨by decide, fun _ => ?_, fun q => absurd rfl q⟩)
  refine b1208_62 μ1 _ _ _ ⟨by decide, fun _ => js_2006 a3 a2 fun μ' f e1 e2 => ⟨Or.inl rfl, _, rfl, H0 _ (jx_ifn (by rintro (y | y | y); exact z y; exact z2 y; exact z3 y)) μ' (jl_qtn h1 f e1 e2)⟩, fun q => absurd rfl q⟩
theorem jl_T0 (hk : jd_tok n t) {F : Nat} (hP : jc_T0 L n t μ0 F) (hR : jc_T1 L n t μ0 F) (hR2 : jc_T2 L n t μ0 F) : jc_T0 L n t μ0 (F + 1) := fun o b m D μ dd Q ho hd hF hc h H1 H0 => by
  have hn := hk.1
  obtain ⟨d, rfl⟩ : ∃ e, dd = e + 5 := ⟨dd - 5, by omega⟩
  obtain ⟨h1, h2, h3, h4, h5, h6, h7⟩ := id h
  have hc0 := hc
  obtain ⟨c, hc1, hc2⟩ := hc
  have hst := jx_stb (t := t) h6
  have hcr : qm_r32 (D 11 5) := by rw [hc1]; exact ⟨by omega, by omega⟩
  unfold jx_qe at H1 H0
  refine b1207_0 μ _ _ (js_2009 (l := qb_tx_1019) rfl (jx_lw13 (81, qb_tx_1019) (by decide)) hk h6 h2 (fun q1 => ⟨by decide, fun q => absurd q (by decide), fun _ => ?_⟩) (fun q1 => ⟨by decide, fun _ => ?_, fun q => absurd rfl q⟩))
  · rw [jx_ifp q1] at H1
    exact js_1203 h hcr (fun V HV => js_stepL h7 hk h6 h2 q1.1 HV) (jx_wes t h6).2.1 fun μ' h' => ⟨Or.inr rfl, _, rfl, H1 _ rfl μ' h'⟩
  rw [jx_ifn q1] at H1 H0
  refine js_2009 (l := qb_tx_1020) rfl (jx_lw13 (78, qb_tx_1020) (by decide)) hk h6 h2 (fun q2 => ⟨by decide, fun q => absurd q (by decide), fun _ => ?_⟩) (fun q2 => ⟨by decide, fun _ => ?_, fun q => absurd rfl q⟩)
  · rw [jx_ifp q2] at H1 H0
    have hw : b < jx_we n t b ∧ jx_we n t b ≤ n := by
      have := jx_wlt h6 q2.1.1 q2.1.2.1
      exact ⟨by omega, (jx_wes t h6).2.1⟩
    refine b1207_51 μ _ _ _ (js_1204 (by omega) h (fun y => ⟨by decide, fun q => absurd q (by decide), fun _ => ?_⟩) (fun y μ' h' => ⟨by decide, fun _ => ⟨_, rfl, H0 _ (if_pos y) μ' h'⟩, fun q => absurd rfl q⟩))
    rw [if_neg (by omega)] at H1 H0
    refine js_stepL h7 hk h6 h2 q2.1 fun μ1 f1 hx1 => ⟨by decide, fun q => absurd q (by decide), fun _ => ?_⟩
    have ha := jl_qts h f1 hx1 hw.2
    rw [jl_cs]
    refine hP (o + 1) (jx_we n t b) true D μ1 (d + 4) _ (by omega) (by omega) (by omega) ⟨c, hc1, by omega⟩ ha (fun s hs2 μ2 h2' => ⟨by decide, fun q => absurd q (by decide), fun _ => ?_⟩) (fun e he μ2 h2' => ⟨by decide, fun _ => ⟨_, rfl, H0 e (congrArg (fun x => jx_bd x _) he) μ2 h2'⟩, fun q => absurd rfl q⟩)
    have a := jl_qer F 0 (o + 1) (jx_we n t b, true, D) s hw.2 hs2
    obtain ⟨c', f1', f2'⟩ := jl_cleq a.1 ⟨c, hc1, by show c ≤ jx_we n t b; omega⟩
    have a2 := a.1.2.1
    exact js_1202 h2' (by rw [f1']; exact ⟨by omega, by omega⟩) fun μ3 h3' => ⟨by decide, fun q => absurd q (by decide), fun _ => ⟨_, rfl, H1 (s.1, s.2.1, jx_qa s.2.2 8 0) (congrArg (fun x => jx_bd x _) hs2) μ3 h3'⟩⟩
  rw [jx_ifn q2] at H1 H0
  refine js_2008 (by decide) (by unfold jx_le jx_di; decide) hk h2 (fun z => ⟨by decide, fun q => absurd q (by decide), fun _ => ?_⟩) (fun z => ⟨by decide, fun _ => ?_, fun q => absurd rfl q⟩)
  · rw [jx_ifp z] at H1 H0
    have hl6 := z.1
    refine b1207_51 μ _ _ _ (js_1204 (by omega) h (fun y => ⟨by decide, fun q => absurd q (by decide), fun _ => ?_⟩) (fun y μ' h' => ⟨by decide, fun _ => ⟨_, rfl, H0 _ (if_pos y) μ' h'⟩, fun q => absurd rfl q⟩))
    rw [if_neg (by omega)] at H1 H0
    have hnl : ¬ jx_le (t (jx_st n t b)) ∧ ¬ jx_di (t (jx_st n t b)) := by have := z.2; unfold jx_le jx_di; omega
    refine js_stepM h7 hk h6 h2 z.1 hnl.1 hnl.2 fun μ1 f1 hx1 => ⟨by decide, fun _ => ?_, fun q => absurd rfl q⟩
    have ha := jl_qts h f1 hx1 z.1
    rw [jl_cs]
    refine jl_test (F := F) (dd := d + 4) (o := o + 1) hP hR hR2 (by omega) (by omega) (by omega) ⟨c, hc1, by omega⟩ ha (fun s1 hs1 μ2 h2' => ⟨by decide, fun q => absurd q (by decide), fun _ => ?_⟩) (fun e he μ2 h2' => ⟨by decide, fun _ => ⟨_, rfl, H0 e (congrArg (fun x => jx_bd x _) he) μ2 h2'⟩, fun q => absurd rfl q⟩)
    exact js_2015 (by decide) (by unfold jx_le jx_di; decide) h2'.2.2.1 h2'.2.2.2.2.2.2 hk h2'.2.2.2.2.2.1 h2'.2.1 (fun w μ3 f3 x3 => ⟨by decide, fun q => absurd q (by decide), fun _ => ⟨_, rfl, H1 _ ((congrArg (fun x => jx_bd x _) hs1).trans (jx_ifp w)) μ3 (jl_qts h2' f3 x3 w.1)⟩⟩) (fun w μ3 f3 e1 e2 => ⟨by decide, fun _ => ⟨_, rfl, H0 _ ((congrArg (fun x => jx_bd x _) hs1).trans (jx_ifn w)) μ3 (jl_qtn h2' f3 e1 e2)⟩, fun q => absurd rfl q⟩)
  · rw [jx_ifn z] at H1 H0
    exact js_1208 (dd := d + 4) hk ho (by omega) hc0 h (fun s hs μ1 h1 => ⟨Or.inr rfl, _, rfl, H1 s hs μ1 h1⟩) (fun e he μ1 h1 => ⟨Or.inl rfl, _, rfl, H0 e he μ1 h1⟩)
theorem jl_TR (hk : jd_tok n t) : ∀ F, jc_T0 L n t μ0 F ∧ jc_T1 L n t μ0 F ∧ jc_T2 L n t μ0 F
  | 0 => ⟨fun o b m D μ dd Q ho hd hF => absurd hF (by omega), fun o b m D μ dd Q j ho hd hF => absurd hF (by omega), fun o b m D μ dd Q j ho hd hF => absurd hF (by omega)⟩
  | F + 1 =>
    have ih := jl_TR hk F
    ⟨jl_T0 hk ih.1 ih.2.1 ih.2.2, jl_T1 hk ih.1 ih.2.1, jl_T2 hk ih.1 ih.2.1 ih.2.2⟩
/-- a test, the class's -/
theorem js_1205 (hk : jd_tok n t) {F o b : Nat} {m : Bool} {D μ : qm_M} {dd : Nat} {Q : Int → qm_M → Prop} (ho : o ≤ 6) (hd : 38 ≤ dd + 4 * o) (hF : n - b < F) (hc : ∃ c : Nat, D 11 5 = (c : Int) ∧ c ≤ b) (h : jc_qt μ0 n t b m D μ) (H1 : ∀ s, jx_tst n t F o (b, m, D) = .inr s → ∀ μ', jc_qt μ0 n t s.1 s.2.1 s.2.2 μ' → Q 1 μ') (H0 : ∀ e, jx_tst n t F o (b, m, D) = .inl e → ∀ μ', jc_qn μ0 e μ' → Q 0 μ') : qm_CI (qb_T L) dd 1205 [qm_P 11, qm_I ((o : Nat) : Int)] μ Q :=
  jl_test (jl_TR hk F).1 (jl_TR hk F).2.1 (jl_TR hk F).2.2 ho hd hF hc h H1 H0
end
