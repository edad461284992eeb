/-! ===== a question's sums, the class's, whole ===== -/
theorem jx_lw13 : ∀ e ∈ jx_TW, jx_lw e.2 := fun e he => (jx_lwT e he).1
section
variable {L n : Nat} {t : Nat → Int} {μ0 : qm_M}
/-- what the class's reader of a mode does with fuel F -/
def jc_P (L n : Nat) (t : Nat → Int) (μ0 : qm_M) (F : Nat) : Prop := ∀ (o b : Nat) (m : Bool) (D μ : qm_M) (dd : Nat) (Q : Int → qm_M → Prop), o ≤ 6 → 32 ≤ dd + 4 * o → n - b < F → (∃ c : Nat, D 11 5 = (c : Int) ∧ c ≤ b) → jc_qt μ0 n t b m D μ → (∀ s, jx_qs n t F 0 o (b, m, D) = .inr s → ∀ μ', jc_qt μ0 n t s.1 s.2.1 s.2.2 μ' → Q 1 μ') → (∀ e, jx_qs n t F 0 o (b, m, D) = .inl e → ∀ μ', jc_qn μ0 e μ' → Q 0 μ') → qm_CI (qb_T L) dd 1211 [qm_P 11, qm_I ((o : Nat) : Int)] μ Q
def jc_R1 (L n : Nat) (t : Nat → Int) (μ0 : qm_M) (F : Nat) : Prop := ∀ (o b : Nat) (m : Bool) (D μ : qm_M) (dd : Nat) (Q : Int → qm_M → Prop) (j : Nat) (w4 : qm_V), o ≤ 6 → 33 ≤ dd + 4 * o → n - b < F → (∃ c : Nat, D 11 5 = (c : Int) ∧ c ≤ b) → j ≤ b → jc_qt μ0 n t b m D μ → (∀ s, jx_qs n t F 1 o (b, m, D) = .inr s → ∀ μ', jc_qt μ0 n t s.1 s.2.1 s.2.2 μ' → Q 1 μ') → (∀ e, jx_qs n t F 1 o (b, m, D) = .inl e → ∀ μ', jc_qn μ0 e μ' → Q 0 μ') → qm_W (qb_T L) dd 1210 8 [qm_P 11, qm_I ((o : Nat) : Int), qm_I 1, qm_I ((j : Nat) : Int), w4] [] μ (fun v μ' => ∃ r, v = some (.inl r) ∧ Q r μ')
def jc_R2 (L n : Nat) (t : Nat → Int) (μ0 : qm_M) (F : Nat) : Prop := ∀ (o b : Nat) (m : Bool) (D μ : qm_M) (dd : Nat) (Q : Int → qm_M → Prop) (j : Nat) (w4 : qm_V), o ≤ 6 → 34 ≤ dd + 4 * o → n - b < F → (∃ c : Nat, D 11 5 = (c : Int) ∧ c ≤ b) → j ≤ b → jc_qt μ0 n t b m D μ → (∀ s, jx_qs n t F 2 o (b, m, D) = .inr s → ∀ μ', jc_qt μ0 n t s.1 s.2.1 s.2.2 μ' → Q 1 μ') → (∀ e, jx_qs n t F 2 o (b, m, D) = .inl e → ∀ μ', jc_qn μ0 e μ' → Q 0 μ') → qm_W (qb_T L) dd 1209 8 [qm_P 11, qm_I ((o : Nat) : Int), qm_I 1, qm_I ((j : Nat) : Int), w4] [] μ (fun v μ' => ∃ r, v = some (.inl r) ∧ Q r μ')
theorem jl_cleq {b : Nat} {D : qm_M} {s : Nat × Bool × qm_M} (h : jx_qok n b D s) (hc : ∃ c : Nat, D 11 5 = (c : Int) ∧ c ≤ b) : ∃ c : Nat, s.2.2 11 5 = (c : Int) ∧ c ≤ s.1 := by
  obtain ⟨c, e1, e2⟩ := hc
  obtain ⟨c', f1, f2, f3⟩ := h.2.2 c e1
  have := h.1
  exact ⟨c', f1, by omega⟩
theorem jl_bad10 {d : Nat} {o j : Int} {w4 : qm_V} {μ : qm_M} {Q : Int → qm_M → Prop} (hj : 0 ≤ j ∧ j < 5000) (H : Q 0 μ) : qm_W (qb_T L) (d + 1) 1210 8 [qm_P 11, qm_I o, qm_I 0, qm_I j, w4] [] μ (fun v μ' => ∃ r, v = some (.inl r) ∧ Q r μ') :=
  b1210_8 μ _ _ _ _ w4 ⟨by omega, fun _ => ⟨Or.inl rfl, _, rfl, H⟩, fun _ => ⟨by decide, fun _ => ⟨Or.inl rfl, _, rfl, H⟩, fun q => absurd rfl q⟩⟩
theorem jl_bad9 {d : Nat} {o j : Int} {w4 : qm_V} {μ : qm_M} {Q : Int → qm_M → Prop} (hj : 0 ≤ j ∧ j < 5000) (H : Q 0 μ) : qm_W (qb_T L) (d + 1) 1209 8 [qm_P 11, qm_I o, qm_I 0, qm_I j, w4] [] μ (fun v μ' => ∃ r, v = some (.inl r) ∧ Q r μ') :=
  b1209_8 μ _ _ _ _ w4 ⟨by omega, fun _ => ⟨Or.inl rfl, _, rfl, H⟩, fun _ => ⟨by decide, fun _ => ⟨Or.inl rfl, _, rfl, H⟩, fun q => absurd rfl q⟩⟩
/-- a product -/
theorem jl_prod {F : Nat} (hP : jc_P L n t μ0 F) (hR : jc_R1 L n t μ0 F) {o b : Nat} {m : Bool} {D μ : qm_M} {dd : Nat} {Q : Int → qm_M → Prop} (ho : o ≤ 6) (hd : 33 ≤ dd + 4 * o) (hF : n - b < F) (hc : ∃ c : Nat, D 11 5 = (c : Int) ∧ c ≤ b) (h : jc_qt μ0 n t b m D μ) (H1 : ∀ s, jx_bd (jx_qs n t F 0 o (b, m, D)) (jx_qs n t F 1 o) = .inr s → ∀ μ', jc_qt μ0 n t s.1 s.2.1 s.2.2 μ' → Q 1 μ') (H0 : ∀ e, jx_bd (jx_qs n t F 0 o (b, m, D)) (jx_qs n t F 1 o) = .inl e → ∀ μ', jc_qn μ0 e μ' → Q 0 μ') : qm_CI (qb_T L) dd 1210 [qm_P 11, qm_I ((o : Nat) : Int)] μ Q := by
  obtain ⟨d, rfl⟩ : ∃ e, dd = e + 1 := ⟨dd - 1, by omega⟩
  refine b1210_0 μ _ _ (hP o b m D μ d _ ho (by omega) hF hc h (fun s hs μ1 h1 => ?_) (fun e he μ1 h1 => jl_bad10 (j := 0) (by decide) (H0 e (by rw [he]; rfl) μ1 h1)))
  have a := (jl_qsr F 0 o (b, m, D) s h.2.2.2.2.2.1 hs)
  have a1 : b < s.1 := a.2 rfl
  rw [hs] at H1 H0
  exact hR o s.1 s.2.1 s.2.2 μ1 (d + 1) Q 0 none ho hd (by have := a.1.2.1; omega) (jl_cleq a.1 hc) (Nat.zero_le _) h1 H1 H0
/-- a sum -/
theorem jl_sum {F : Nat} (hP : jc_P L n t μ0 F) (hR : jc_R1 L n t μ0 F) (hR2 : jc_R2 L n t μ0 F) {o b : Nat} {m : Bool} {D μ : qm_M} {dd : Nat} {Q : Int → qm_M → Prop} (ho : o ≤ 6) (hd : 34 ≤ dd + 4 * o) (hF : n - b < F) (hc : ∃ c : Nat, D 11 5 = (c : Int) ∧ c ≤ b) (h : jc_qt μ0 n t b m D μ) (H1 : ∀ s, jx_bd (jx_bd (jx_qs n t F 0 o (b, m, D)) (jx_qs n t F 1 o)) (jx_qs n t F 2 o) = .inr s → ∀ μ', jc_qt μ0 n t s.1 s.2.1 s.2.2 μ' → Q 1 μ') (H0 : ∀ e, jx_bd (jx_bd (jx_qs n t F 0 o (b, m, D)) (jx_qs n t F 1 o)) (jx_qs n t F 2 o) = .inl e → ∀ μ', jc_qn μ0 e μ' → Q 0 μ') : qm_CI (qb_T L) dd 1209 [qm_P 11, qm_I ((o : Nat) : Int)] μ Q := by
  obtain ⟨d, rfl⟩ : ∃ e, dd = e + 1 := ⟨dd - 1, by omega⟩
  refine b1209_0 μ _ _ (jl_prod (dd := d) hP hR ho (by omega) hF hc h (fun s hs μ1 h1 => ?_) (fun e he μ1 h1 => jl_bad9 (j := 0) (by decide) (H0 e (by rw [he]; rfl) μ1 h1)))
  obtain ⟨s0, e0, e1⟩ := jl_bdr hs
  have a := (jl_qsr F 0 o (b, m, D) s0 h.2.2.2.2.2.1 e0)
  have a1 := (jl_qsr F 1 o s0 s a.1.2.1 e1)
  have a2 : b < s0.1 := a.2 rfl
  have a3 := a1.1.1
  rw [hs] at H1 H0
  exact hR2 o s.1 s.2.1 s.2.2 μ1 (d + 1) Q 0 none ho hd (by have := a1.1.2.1; omega) (jl_cleq (jl_qokt a.1 a1.1) hc) (Nat.zero_le _) h1 H1 H0
end
