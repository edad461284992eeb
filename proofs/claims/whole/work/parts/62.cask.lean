/-! ===== a question's sums, the class's ===== -/
def jx_QC : List Nat := [11, 42, 43]
def jx_QF : List Nat := [2, 11, 42, 43]
def jc_dq (D μ : qm_M) : Prop := ∀ a, jx_QC.contains a = true → μ a = D a
def jc_qt (μ0 : qm_M) (n : Nat) (t : Nat → Int) (b : Nat) (m : Bool) (D μ : qm_M) : Prop := jd_fr jx_QF μ0 μ ∧ jc_tok n t b m μ ∧ μ 2 6 = 0 ∧ μ 2 7 = -1 ∧ jc_dq D μ ∧ b ≤ n ∧ jc_tape n t μ
def jc_qn (μ0 : qm_M) (e : Int × Int) (μ : qm_M) : Prop := jd_fr jx_QF μ0 μ ∧ μ 2 6 = e.1 ∧ μ 2 7 = e.2
section
variable {L d n : Nat} {t : Nat → Int} {b : Nat} {m : Bool} {D μ0 μ : qm_M} {Q : Int → qm_M → Prop}
theorem jl_qset {a k : Nat} {z : Int} (h : jc_qt μ0 n t b m D μ) (ha : jx_QC.contains a = true) : jc_qt μ0 n t b m (qm_set D a k z) (qm_set μ a k z) := by
  obtain ⟨h1, h2, h3, h4, h5, h6, h7⟩ := h
  have e : ∀ c, jx_QC.contains c = false → (qm_set μ a k z) c = μ c := fun c hc => jl_sn _ _ _ (fun q => by rw [q, ha] at hc; cases hc)
  have hD : jx_QF.contains a = true := by
    have : a ∈ jx_QC := List.contains_iff_mem.mp ha
    exact List.contains_iff_mem.mpr (List.mem_cons_of_mem _ this)
  refine ⟨jf_set h1 hD, jl_tokc h2 (e 2 rfl), ?_, ?_, fun c hc => ?_, h6, jl_tapc h7 (e 1 rfl) (e 14 rfl)⟩
  · rw [e 2 rfl]; exact h3
  · rw [e 2 rfl]; exact h4
  · funext k'
    unfold qm_set
    rw [h5 c hc]
theorem jl_qput {a n0 : Nat} {i z : Int} (h : jc_qt μ0 n t b m D μ) (ha : jx_QC.contains a = true) : jc_qt μ0 n t b m (jd_put D a n0 i z) (jd_put μ a n0 i z) := by
  unfold jd_put
  split
  · exact jl_qset h ha
  · exact h
theorem jl_qts {μ' : qm_M} {b' : Nat} {m' : Bool} (h : jc_qt μ0 n t b m D μ) (hf : jd_f2 μ μ') (hx : jc_tok n t b' m' μ') (hb : b' ≤ n) : jc_qt μ0 n t b' m' D μ' := by
  obtain ⟨h1, h2, h3, h4, h5, h6, h7⟩ := h
  obtain ⟨f1, f2, f3⟩ := hf
  refine ⟨jf_trans h1 (jf_sub f1 rfl), hx, f2.trans h3, f3.trans h4, fun a ha => ?_, hb, jl_tapc h7 (f1 1 rfl) (f1 14 rfl)⟩
  rw [f1 a ?_]
  · exact h5 a ha
  · cases q : [2].contains a with
    | false => rfl
    | true =>
      have : a = 2 := by simpa using q
      rw [this] at ha; exact absurd ha (by decide)
theorem jl_qtn {μ' : qm_M} {k p : Int} (h : jc_qt μ0 n t b m D μ) (hf : jd_fr [2] μ μ') (h6 : μ' 2 6 = k) (h7 : μ' 2 7 = p) : jc_qn μ0 (k, p) μ' :=
  ⟨jf_trans h.1 (jf_sub hf rfl), h6, h7⟩
theorem js_1202 {k x : Int} (h : jc_qt μ0 n t b m D μ) (hc : qm_r32 (D 11 5)) (H : ∀ μ', jc_qt μ0 n t b m (jx_qa D k x) μ' → Q 1 μ') : qm_CI (qb_T L) (d + 1) 1202 [qm_P 11, qm_I k, qm_I x] μ Q := by
  have hd := h.2.2.2.2.1
  have e : ∀ j, μ 11 j = D 11 j := fun j => by rw [hd 11 rfl]
  refine b1202_0 μ _ _ _ ?_
  rw [e]
  refine js_402 (n := 1600) rfl (by decide) hc ?_
  rw [jl_putn (c := 42) (c' := 11) (by decide), e]
  refine js_402 (n := 1600) rfl (by decide) hc ⟨_, rfl, H _ ?_⟩
  rw [jl_putn (c := 43) (c' := 11) (by decide), jl_putn (c := 42) (c' := 11) (by decide), e]
  exact jl_qset (jl_qput (jl_qput h rfl) rfl) rfl
theorem js_1203 {k x : Int} {b' : Nat} {m' : Bool} (h : jc_qt μ0 n t b m D μ) (hc : qm_r32 (D 11 5)) (hs : ∀ V : qm_M → Prop, (∀ μ', jd_f2 μ μ' → jc_tok n t b' m' μ' → V μ') → qm_CV (qb_T L) (d + 1) 2002 [qm_P 2] μ V) (hb : b' ≤ n) (H : ∀ μ', jc_qt μ0 n t b' m' (jx_qa D k x) μ' → Q 1 μ') : qm_CI (qb_T L) (d + 2) 1203 [qm_P 11, qm_I k, qm_I x] μ Q :=
  b1203_0 μ _ _ _ (hs _ fun μ1 f1 hx => js_1202 (jl_qts h f1 hx hb) hc fun μ2 h2 => ⟨Or.inr rfl, _, rfl, H μ2 h2⟩)
theorem js_1204 {o : Nat} (ho : o < 1000) (h : jc_qt μ0 n t b m D μ) (H1 : o < 6 → Q 1 μ) (H0 : 6 ≤ o → ∀ μ', jc_qn μ0 (4, ((jx_st n t b : Nat) : Int)) μ' → Q 0 μ') : qm_CI (qb_T L) (d + 1) 1204 [qm_P 11, qm_I ((o : Nat) : Int)] μ Q :=
  b1204_0 μ _ _ ⟨by omega, fun q => b1204_17 μ _ _ ⟨_, rfl, H1 (by omega)⟩, fun q => js_2006 h.2.2.1 h.2.1 fun μ' f a1 a2 => ⟨by decide, fun _ => ⟨_, rfl, H0 (by omega) μ' (jl_qtn h f a1 a2)⟩, fun q2 => absurd rfl q2⟩⟩
end
