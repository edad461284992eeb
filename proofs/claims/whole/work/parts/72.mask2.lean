/-! ===== where the reference goes on in a sum ===== -/
def jq_R (L d : Nat) (x1 : Int) (V : qm_M → Prop) (r : Int) (μ2 : qm_M) : Prop := (-2147483648 ≤ r ∧ r < 2147483648) ∧ ((r = 0 → qm_W (qb_T L) (d + 6) 2504 48 [qm_P 13, qm_I x1, qm_I 1] [] μ2 (fun v μ' => v = none ∧ V μ')) ∧ (¬ (r = 0) → qm_W (qb_T L) (d + 6) 2504 49 [qm_P 13, qm_I x1, qm_I 1] [qm_I 1] μ2 (fun v μ' => v = none ∧ V μ')))
/-- behind a part -/
def jq_G (L d : Nat) (x1 : Int) (V : qm_M → Prop) (μ : qm_M) : Prop := qm_W (qb_T L) (d + 5) 2503 0 [qm_P 13, none] [] μ (fun v μ2 => ∃ r, v = some (.inl r) ∧ jq_R L d x1 V r μ2)
def jq_V2 (L d : Nat) (x1 : Int) (V : qm_M → Prop) (μ1 : qm_M) : Prop := (-2147483648 ≤ μ1 13 5 ∧ μ1 13 5 < 2147483648) ∧ ((μ1 13 5 = 0 → qm_CI (qb_T L) (d + 5) 2503 [qm_P 13] μ1 (jq_R L d x1 V)) ∧ (¬ (μ1 13 5 = 0) → qm_W (qb_T L) (d + 6) 2504 48 [qm_P 13, qm_I x1, qm_I 1] [] μ1 (fun v μ' => v = none ∧ V μ')))
/-- a part has ended -/
def jq_E (L d : Nat) (x1 : Int) (V : qm_M → Prop) (μ : qm_M) : Prop := ∀ V2 : qm_M → Prop, (∀ μ', μ' 13 5 = 0 → jq_G L d x1 V μ' → V2 μ') → qm_CV (qb_T L) (d + 4) 2501 [qm_P 13] μ V2
/-- a part begins -/
def jq_P (L d : Nat) (x1 : Int) (V : qm_M → Prop) (μ : qm_M) : Prop := ∀ w2 w3 w4 w5, qm_W (qb_T L) (d + 5) 2502 2 [qm_P 13, qm_I 1, w2, w3, w4, w5] [] μ (fun v μ1 => v = none ∧ jq_V2 L d x1 V μ1)
section
variable {L d n : Nat} {t : Nat → Int} {B a b : Nat} {m : Bool} {D μ0 μ : qm_M} {o s : Nat} {S : Nat → Int} {l : Nat} {pd : Nat → Int} {V : qm_M → Prop} {x1 : Int} {e : Int × Int}
theorem jl_q68 (h : jm_qg μ0 n t B a b m D (o + 1) s S l pd μ) : jm_qg μ0 n t B a b m D o s S l pd (qm_set μ 13 68 (μ 13 68 - 1)) := by
  obtain ⟨h1, h2, h3, h4, h5, h6, h7⟩ := h
  have ff : jd_fm [68] [] μ (qm_set μ 13 68 (μ 13 68 - 1)) := jg_f (jg_refl _ _ _) rfl
  refine ⟨jg_trans h1 (jg_sub ff rfl rfl), jl_posf h2 ff rfl rfl rfl rfl rfl rfl, h3, jm_cstf h4 ff rfl, ?_, by rw [ff.2 69 rfl]; exact h6, jl_qcf h7 ff rfl rfl rfl rfl (Nat.le_refl _)⟩
  rw [jl_ss, h5]; omega
theorem jl_q69 {a' : Nat} (h : jm_qg μ0 n t B a b m D o s S l pd μ) : jm_qg μ0 n t B a' b m D o s S l pd (qm_set μ 13 69 (a' : Int)) := by
  obtain ⟨h1, h2, h3, h4, h5, h6, h7⟩ := h
  have ff : jd_fm [69] [] μ (qm_set μ 13 69 (a' : Int)) := jg_f (jg_refl _ _ _) rfl
  exact ⟨jg_trans h1 (jg_sub ff rfl rfl), jl_posf h2 ff rfl rfl rfl rfl rfl rfl, h3, jm_cstf h4 ff rfl, by rw [ff.2 68 rfl]; exact h5, jl_ss _ _ _ _, jl_qcf h7 ff rfl rfl rfl rfl (Nat.le_refl _)⟩
theorem jl_qnf {k : Nat} {z : Int} (h : jm_qn μ0 n t e μ) (hk : k = 69 ∨ k = 68) : jm_qn μ0 n t e (qm_set μ 13 k z) := by
  rcases hk with rfl | rfl
  · have ff : jd_fm [69] [] μ (qm_set μ 13 69 z) := jg_f (jg_refl _ _ _) rfl
    exact ⟨⟨by rw [ff.2 65 rfl]; exact h.1.1, jg_trans h.1.2 (jg_sub ff rfl rfl)⟩, jl_badf h.2 ff rfl rfl rfl rfl rfl⟩
  · have ff : jd_fm [68] [] μ (qm_set μ 13 68 z) := jg_f (jg_refl _ _ _) rfl
    exact ⟨⟨by rw [ff.2 65 rfl]; exact h.1.1, jg_trans h.1.2 (jg_sub ff rfl rfl)⟩, jl_badf h.2 ff rfl rfl rfl rfl rfl⟩
/-- after a fault -/
theorem jl_q48b (h : jm_qn μ0 n t e μ) (H : ∀ μ', jm_qn μ0 n t e μ' → V μ') : qm_W (qb_T L) (d + 6) 2504 48 [qm_P 13, qm_I x1, qm_I 1] [] μ (fun v μ' => v = none ∧ V μ') := by
  have e5 := h.2.2.2.1
  have ek := h.2.2.2.2.1
  refine b2504_48 μ _ _ _ (b2504_49 μ _ _ _ _ (b2504_15 μ _ _ _ ⟨by decide, fun _ => b2504_53 μ _ _ _ ?_, fun q => absurd rfl q⟩))
  rw [e5]
  exact ⟨by omega, fun z => by omega, fun _ => ⟨rfl, H _ (jl_qnf h (Or.inl rfl))⟩⟩
theorem jl_qV2b (h : jm_qn μ0 n t e μ) (H : ∀ μ', jm_qn μ0 n t e μ' → V μ') : jq_V2 L d x1 V μ := by
  have e5 := h.2.2.2.1
  have ek := h.2.2.2.2.1
  unfold jq_V2
  rw [e5]
  exact ⟨by omega, fun z => by omega, fun _ => jl_q48b h H⟩
theorem jl_qV2 (h5 : μ 13 5 = 0) (H : jq_G L d x1 V μ) : jq_V2 L d x1 V μ := by
  unfold jq_V2
  rw [h5]
  exact ⟨by decide, fun _ => H, fun z => absurd rfl z⟩
/-- another part is asked -/
theorem jl_more (h5 : μ 13 5 = 0) (H : jq_P L d x1 V μ) : qm_W (qb_T L) (d + 6) 2504 49 [qm_P 13, qm_I x1, qm_I 1] [qm_I 1] μ (fun v μ' => v = none ∧ V μ') := by
  refine b2504_49 μ _ _ _ _ (b2504_15 μ _ _ _ ⟨by decide, fun q => absurd q (by decide), fun _ => ?_⟩)
  rw [h5]
  exact ⟨by decide, fun _ => b2502_0 μ _ (H none none none none), fun z => absurd rfl z⟩
/-- a sum has ended: what waits is told -/
theorem jl_qend {x : Nat} (hB : B ≤ 1600) (has : s = a) : ∀ (l : Nat) (pd : Nat → Int) (μ : qm_M), jm_qg μ0 n t B a b m D o s S l pd μ → (∀ μ', jm_qg μ0 n t B x b m D o s S 0 jd_z μ' → V μ') → qm_W (qb_T L) (d + 6) 2504 53 [qm_P 13, qm_I ((x : Nat) : Int), qm_I 0] [] μ (fun v μ' => v = none ∧ V μ')
  | 0, pd, μ, h, H => by
    refine b2504_53 μ _ _ _ ?_
    rw [h.2.1.2.2.2.2.1, h.2.2.2.2.2.1, (jl_q67 h).1]
    have := (jl_q67 h).2.1
    exact ⟨by decide, fun _ => ⟨by omega, by omega, fun _ => ⟨rfl, H _ (jl_q69 (jl_qt0 h))⟩, fun z => by omega⟩, fun z => absurd rfl z⟩
  | l + 1, pd, μ, h, H => by
    refine b2504_53 μ _ _ _ ?_
    rw [h.2.1.2.2.2.2.1, h.2.2.2.2.2.1, (jl_q67 h).1]
    have := (jl_q67 h).2.1
    refine ⟨by decide, fun _ => ⟨by omega, by omega, fun z => by omega, fun _ => js_2494 (d := d + 4) h hB fun μ1 h1 _ => jl_qend hB has l _ μ1 h1 H⟩, fun z => absurd rfl z⟩
theorem jl_q48 {x : Nat} (hB : B ≤ 1600) (has : s = a) (h : jm_qg μ0 n t B a b m D o s S l pd μ) (H : ∀ μ', jm_qg μ0 n t B x b m D o s S 0 jd_z μ' → V μ') : qm_W (qb_T L) (d + 6) 2504 48 [qm_P 13, qm_I ((x : Nat) : Int), qm_I 1] [] μ (fun v μ' => v = none ∧ V μ') :=
  b2504_48 μ _ _ _ (b2504_49 μ _ _ _ _ (b2504_15 μ _ _ _ ⟨by decide, fun _ => jl_qend hB has l pd μ h H, fun q => absurd rfl q⟩))
theorem jl_E0 (h : jm_qg μ0 n t B a b m D o s S 0 pd μ) (hB : B ≤ 1600) (has : a ≤ s) (hS : s = a ∨ S (s - 1) < 60) (H : jq_G L d x1 V μ) : jq_E L d x1 V μ := fun V2 K => by
  have e5 := h.2.1.2.2.2.2.1
  obtain ⟨q1, q2, q3⟩ := jl_q67 h
  refine b2501_0 μ _ ?_
  rw [e5, h.2.2.2.2.2.1, q1]
  refine ⟨by decide, fun _ => ⟨by omega, by omega, fun _ => ⟨rfl, K μ e5 H⟩, fun z => ?_⟩, fun z => absurd rfl z⟩
  obtain ⟨_, _, _, _, _, _, k, _, h8, h9, h10⟩ := id h
  have p := h9 (s - 1) (by omega)
  rw [show (((s + 0 : Nat) : Int) - 1).toNat = s - 1 by omega, p.1]
  refine ⟨by omega, by omega, fun _ => ⟨rfl, K μ e5 H⟩, fun z2 => ?_⟩
  rcases hS with w | w <;> omega
theorem jl_E1 {x : Int} (h : jm_qg μ0 n t B a b m D (o + 1) (s + 1) S 0 pd μ) (hB : B ≤ 1600) (has : a ≤ s) (hS : 60 ≤ S s) (hc : ∀ c : Nat, D 11 5 = (c : Int) → c < B) (hr : jx_rel x 0 (S s)) (H : ∀ μ', jm_qg μ0 n t B a b m (jx_qa D x 0) o s S 0 jd_z μ' → jq_E L d x1 V μ') : jq_E L d x1 V μ := fun V2 K => by
  have e5 := h.2.1.2.2.2.2.1
  obtain ⟨q1, q2, q3⟩ := jl_q67 h
  obtain ⟨_, _, _, _, _, _, k, _, h8, h9, h10⟩ := id h
  have p := h9 s (by omega)
  refine b2501_0 μ _ ?_
  rw [e5, h.2.2.2.2.2.1, q1, show (((s + 1 + 0 : Nat) : Int) - 1).toNat = s by omega, p.1]
  refine ⟨by decide, fun _ => ⟨by omega, by omega, fun z => by omega, fun z => ⟨by omega, by omega, fun z2 => by omega, fun _ => ?_⟩⟩, fun z => absurd rfl z⟩
  exact js_2494s (d := d + 2) (jl_q68 h) hB hc hr fun μ1 h1 _ => H μ1 h1 V2 K
/-- what stands here: a round bracket's end, or not -/
theorem jl_Gl {R : qm_V → qm_M → Prop} (hk : jd_tok n t) (h : jm_qt μ0 n t a b m D o s S l pd μ) (hc : jx_isM n t b 41 → jx_ctx a s S ∧ ∀ j, j < l → pd j < 20)
    (H0 : ¬ jx_isM n t b 41 → ∀ μ', jm_qt μ0 n t a b m D o s S l pd μ' → μ' 13 2 = ((jx_st n t b : Nat) : Int) → qm_W (qb_T L) (d + 5) 2503 122 [qm_P 13, none] [] μ' R)
    (H1 : jx_isM n t b 41 → ∀ v μ', ((s = a ∧ v = -1) ∨ (a < s ∧ v = S (s - 1))) → jm_qt μ0 n t a b m D o s S l pd μ' → μ' 13 2 = ((jx_st n t b : Nat) : Int) → ((v = 20 ∨ v = 23 ∨ v = 24) → qm_W (qb_T L) (d + 5) 2503 43 [qm_P 13, none] [] μ' R) ∧ (¬ (v = 20 ∨ v = 23 ∨ v = 24) → qm_W (qb_T L) (d + 5) 2503 122 [qm_P 13, none] [] μ' R)) : qm_W (qb_T L) (d + 5) 2503 0 [qm_P 13, none] [] μ R := by
  have hn := hk.1
  have hb := h.2.2.1
  refine b2503_0 μ _ ?_
  rw [h.2.1.2.2.2.2.1]
  refine ⟨by decide, fun _ => js_2407 hk hb h.2.1 (fun hlt μ1 f1 hp1 a1 => ?_) (fun hen μ1 f1 hp1 a1 => ⟨by decide, fun q => absurd q (by decide), fun _ => H0 (fun z => by have := z.1; omega) μ1 (jl_qtm h (jg_sub f1 rfl rfl) hp1 (Nat.le_refl _) hb) a1⟩), fun z => absurd rfl z⟩
  have hbx := hk.2 _ hlt
  have h1 := jl_qtm h (jg_sub f1 rfl rfl) hp1 (Nat.le_refl _) hb
  refine ⟨by omega, fun q => ?_, fun q => H0 (fun z => q z.2) μ1 h1 a1⟩
  have hM : jx_isM n t b 41 := ⟨hlt, q⟩
  obtain ⟨c1, c2⟩ := hc hM
  have hv : ∀ v, ((s = a ∧ v = -1) ∨ (a < s ∧ v = S (s - 1))) → -1 ≤ v ∧ v < 100 := fun v hv => by
    rcases hv with z | z
    · omega
    · rcases c1 with w | w <;> omega
  refine js_2496 h1 (by omega) c2 c1 fun v hv1 => ⟨by have := hv v hv1; omega, fun q2 => (H1 hM v μ1 hv1 h1 a1).1 (Or.inl q2), fun q2 => ?_⟩
  refine js_2496 h1 (by omega) c2 c1 fun w hw1 => ?_
  have e1 : w = v := by rcases hv1 with z | z <;> rcases hw1 with y | y <;> omega
  subst e1
  refine ⟨by have := hv w hv1; omega, fun q3 => (H1 hM w μ1 hv1 h1 a1).1 (Or.inr (Or.inl q3)), fun q3 => ?_⟩
  refine js_2496 h1 (by omega) c2 c1 fun u hu1 => ?_
  have e2 : u = w := by rcases hv1 with z | z <;> rcases hu1 with y | y <;> omega
  subst e2
  exact ⟨by have := hv u hv1; omega, fun q4 => (H1 hM u μ1 hv1 h1 a1).1 (Or.inr (Or.inr q4)), fun q4 => (H1 hM u μ1 hv1 h1 a1).2 (by rintro (y | y | y); exact q2 y; exact q3 y; exact q4 y)⟩
/-- signs of a sum -/
theorem jl_G122 {R : qm_V → qm_M → Prop} (hk : jd_tok n t) (h : jm_qt μ0 n t a b m D o s S l pd μ)
    (Hm : (jx_isM n t b 42 ∨ jx_isM n t b 47) → ∀ μ', jm_qt μ0 n t a (jx_st n t b + 1) false D o s S l pd μ' → μ' 13 2 = ((jx_st n t b + 1 : Nat) : Int) → qm_W (qb_T L) (d + 5) 2503 140 [qm_P 13, none] [] μ' R)
    (Hs : (jx_isM n t b 43 ∨ jx_isM n t b 45) → ∀ μ', jm_qt μ0 n t a (jx_st n t b + 1) false D o s S l pd μ' → μ' 13 2 = ((jx_st n t b + 1 : Nat) : Int) → qm_W (qb_T L) (d + 5) 2503 225 [qm_P 13, none] [] μ' R)
    (Hn : ¬ (jx_isM n t b 42 ∨ jx_isM n t b 47) → ¬ (jx_isM n t b 43 ∨ jx_isM n t b 45) → ∀ μ', jm_qt μ0 n t a b m D o s S l pd μ' → μ' 13 2 = ((jx_st n t b : Nat) : Int) → qm_CI (qb_T L) (d + 4) 2496 [qm_P 13] μ' (fun r5 μ5 => (-2147483648 ≤ r5 ∧ r5 < 2147483648) ∧ ((r5 = 21 → (qm_W (qb_T L) (d + 5) 2503 326 [qm_P 13, none] [] μ5 R)) ∧ (¬ (r5 = 21) → (qm_CI (qb_T L) (d + 4) 2496 [qm_P 13] μ5 (fun r6 μ6 => (-2147483648 ≤ r6 ∧ r6 < 2147483648) ∧ ((r6 = 22 → (qm_W (qb_T L) (d + 5) 2503 326 [qm_P 13, none] [] μ6 R)) ∧ (¬ (r6 = 22) → (qm_CI (qb_T L) (d + 4) 2496 [qm_P 13] μ6 (fun r7 μ7 => (-2147483648 ≤ r7 ∧ r7 < 2147483648) ∧ ((r7 = (-1) → (R (qm_I 0) μ7)) ∧ (¬ (r7 = (-1)) → ((-2147483648 ≤ μ7 13 5 ∧ μ7 13 5 < 2147483648) ∧ ((μ7 13 5 = 0 → (qm_CV (qb_T L) (d + 4) 2404 [qm_P 13, qm_I 1, qm_I (μ7 13 2)] μ7 (fun μ8 => R (qm_I 0) μ8))) ∧ (¬ (μ7 13 5 = 0) → (R (qm_I 0) μ7)))))))))))))))) : qm_W (qb_T L) (d + 5) 2503 122 [qm_P 13, none] [] μ R := by
  have hn := hk.1
  have hb := h.2.2.1
  have hst := jx_stb (t := t) hb
  have ok : ∀ {c : Int} μ', jx_isM n t b c → jd_fm [2, 4] [] μ μ' → jm_pos n t (jx_st n t b + 1) false μ' → jm_qt μ0 n t a (jx_st n t b + 1) false D o s S l pd μ' := fun μ' z f hp => jl_qtm h f hp (by omega) z.1
  refine b2503_122 μ _ (js_2411 (by decide) hk hb h.2.1 (fun z μ1 f1 hp1 a1 => ⟨by decide, fun q => absurd q (by decide), fun _ => Hm (Or.inl z) μ1 (ok μ1 z f1 hp1) a1⟩) (fun z1 μ1 f1 hp1 a1 => ⟨by decide, fun _ => ?_, fun q => absurd rfl q⟩))
  refine js_2411 (by decide) hk hb hp1 (fun z μ2 f2 hp2 a2 => ⟨by decide, fun q => absurd q (by decide), fun _ => Hm (Or.inr z) μ2 (ok μ2 z (jg_trans f1 f2) hp2) a2⟩) (fun z2 μ2 f2 hp2 a2 => ⟨by decide, fun _ => ?_, fun q => absurd rfl q⟩)
  refine js_2411 (by decide) hk hb hp2 (fun z μ3 f3 hp3 a3 => ⟨by decide, fun q => absurd q (by decide), fun _ => Hs (Or.inl z) μ3 (ok μ3 z (jg_trans f1 (jg_trans f2 f3)) hp3) a3⟩) (fun z3 μ3 f3 hp3 a3 => ⟨by decide, fun _ => ?_, fun q => absurd rfl q⟩)
  refine js_2411 (by decide) hk hb hp3 (fun z μ4 f4 hp4 a4 => ⟨by decide, fun q => absurd q (by decide), fun _ => Hs (Or.inr z) μ4 (ok μ4 z (jg_trans f1 (jg_trans f2 (jg_trans f3 f4))) hp4) a4⟩) (fun z4 μ4 f4 hp4 a4 => ⟨by decide, fun _ => ?_, fun q => absurd rfl q⟩)
  exact Hn (by rintro (z | z); exact z1 z; exact z2 z) (by rintro (z | z); exact z3 z; exact z4 z) μ4 (jl_qtm h (jg_trans f1 (jg_trans f2 (jg_trans f3 f4))) hp4 (Nat.le_refl _) hb) a4
/-- products that wait are told -/
theorem jl_G162 {R : qm_V → qm_M → Prop} {op : Int} (hB : b ≤ 1600) (hs : s < b) (ht : s = 0 ∨ ¬ (3 ≤ S (s - 1) ∧ S (s - 1) ≤ 4)) (hop : 1 ≤ op ∧ op ≤ 63) : ∀ (l : Nat) (pd : Nat → Int) (μ : qm_M), jm_qt μ0 n t a b m D o s S l pd μ → (∀ j, j < l → 3 ≤ pd j ∧ pd j ≤ 4) → (∀ μ', jm_qt μ0 n t a b m D o (s + 1) (jx_ps S s op) 0 jd_z μ' → R (qm_I 1) μ') → qm_W (qb_T L) (d + 5) 2503 162 [qm_P 13, qm_I op] [] μ R
  | 0, pd, μ, h, _, H => by
    obtain ⟨q1, q2, q3⟩ := jl_q67 h
    obtain ⟨_, _, _, _, _, _, k, _, h8, h9, h10⟩ := id h
    have no : ∀ x : Int, 3 ≤ x → x ≤ 4 → ∀ w', s + 0 = w' + 1 → μ 92 w' = x → False := fun x hx1 hx2 w' e1 e2 => by
      have p := h9 w' (by omega)
      rcases ht with z | z
      · omega
      · rw [show s - 1 = w' by omega] at z
        exact z (by omega)
    refine b2503_162 μ _ _ (js_2493 q1 (by omega) q3 (by decide) (fun w' e1 e2 => (no 3 (by decide) (by decide) w' e1 e2).elim) (fun _ => ⟨by decide, fun _ => ?_, fun q => absurd rfl q⟩))
    refine js_2493 q1 (by omega) q3 (by decide) (fun w' e1 e2 => (no 4 (by decide) (by decide) w' e1 e2).elim) (fun _ => ⟨by decide, fun _ => ?_, fun q => absurd rfl q⟩)
    rw [q1, Int.toNat_natCast]
    exact ⟨by omega, H _ (jl_qpush h hs hop)⟩
  | l + 1, pd, μ, h, hpd, H => by
    obtain ⟨q1, q2, q3⟩ := jl_q67 h
    have p0 := hpd 0 (by omega)
    obtain ⟨_, _, _, _, _, _, k, _, h8, h9, h10⟩ := id h
    have p := (h10 0 (by omega)).1
    have e : s + (l + 1) = (s + (l + 1 - 1 - 0)) + 1 := by omega
    have nx : qm_W (qb_T L) (d + 5) 2503 178 [qm_P 13, qm_I op] [] μ R := b2503_178 μ _ _ (js_2494 (d := d + 3) h hB fun μ1 h1 _ => jl_G162 hB hs ht hop l _ μ1 h1 (fun j hj => hpd (j + 1) (by omega)) H)
    refine b2503_162 μ _ _ (js_2493 q1 (by omega) q3 (by decide) (fun w' e1 e2 => ⟨by decide, fun q => absurd q (by decide), fun _ => nx⟩) (fun z => ⟨by decide, fun _ => ?_, fun q => absurd rfl q⟩))
    refine js_2493 q1 (by omega) q3 (by decide) (fun w' e1 e2 => ⟨by decide, fun q => absurd q (by decide), fun _ => nx⟩) (fun z2 => ?_)
    have := z _ e
    have := z2 _ e
    omega
/-- sums that wait are told -/
theorem jl_G247 {R : qm_V → qm_M → Prop} {op : Int} (hB : b ≤ 1600) (hs : s < b) (ht : s = 0 ∨ ¬ (1 ≤ S (s - 1) ∧ S (s - 1) ≤ 4)) (hop : 1 ≤ op ∧ op ≤ 63) : ∀ (l : Nat) (pd : Nat → Int) (μ : qm_M), jm_qt μ0 n t a b m D o s S l pd μ → (∀ j, j < l → 1 ≤ pd j ∧ pd j ≤ 4) → (∀ μ', jm_qt μ0 n t a b m D o (s + 1) (jx_ps S s op) 0 jd_z μ' → R (qm_I 1) μ') → qm_W (qb_T L) (d + 5) 2503 247 [qm_P 13, qm_I op] [] μ R
  | 0, pd, μ, h, _, H => by
    obtain ⟨q1, q2, q3⟩ := jl_q67 h
    obtain ⟨_, _, _, _, _, _, k, _, h8, h9, h10⟩ := id h
    have no : ∀ x : Int, 1 ≤ x → x ≤ 4 → ∀ w', s + 0 = w' + 1 → μ 92 w' = x → False := fun x hx1 hx2 w' e1 e2 => by
      have p := h9 w' (by omega)
      rcases ht with z | z
      · omega
      · rw [show s - 1 = w' by omega] at z
        exact z (by omega)
    refine b2503_247 μ _ _ (js_2493 q1 (by omega) q3 (by decide) (fun w' e1 e2 => (no 3 (by decide) (by decide) w' e1 e2).elim) (fun _ => ⟨by decide, fun _ => ?_, fun q => absurd rfl q⟩))
    refine js_2493 q1 (by omega) q3 (by decide) (fun w' e1 e2 => (no 4 (by decide) (by decide) w' e1 e2).elim) (fun _ => ⟨by decide, fun _ => ?_, fun q => absurd rfl q⟩)
    refine js_2493 q1 (by omega) q3 (by decide) (fun w' e1 e2 => (no 1 (by decide) (by decide) w' e1 e2).elim) (fun _ => ⟨by decide, fun _ => ?_, fun q => absurd rfl q⟩)
    refine js_2493 q1 (by omega) q3 (by decide) (fun w' e1 e2 => (no 2 (by decide) (by decide) w' e1 e2).elim) (fun _ => ⟨by decide, fun _ => ?_, fun q => absurd rfl q⟩)
    rw [q1, Int.toNat_natCast]
    exact ⟨by omega, H _ (jl_qpush h hs hop)⟩
  | l + 1, pd, μ, h, hpd, H => by
    obtain ⟨q1, q2, q3⟩ := jl_q67 h
    have p0 := hpd 0 (by omega)
    obtain ⟨_, _, _, _, _, _, k, _, h8, h9, h10⟩ := id h
    have p := (h10 0 (by omega)).1
    have e : s + (l + 1) = (s + (l + 1 - 1 - 0)) + 1 := by omega
    have nx : qm_W (qb_T L) (d + 5) 2503 279 [qm_P 13, qm_I op] [] μ R := b2503_279 μ _ _ (js_2494 (d := d + 3) h hB fun μ1 h1 _ => jl_G247 hB hs ht hop l _ μ1 h1 (fun j hj => hpd (j + 1) (by omega)) H)
    refine b2503_247 μ _ _ (js_2493 q1 (by omega) q3 (by decide) (fun w' e1 e2 => ⟨by decide, fun q => absurd q (by decide), fun _ => nx⟩) (fun z => ⟨by decide, fun _ => ?_, fun q => absurd rfl q⟩))
    refine js_2493 q1 (by omega) q3 (by decide) (fun w' e1 e2 => ⟨by decide, fun q => absurd q (by decide), fun _ => nx⟩) (fun z2 => ⟨by decide, fun _ => ?_, fun q => absurd rfl q⟩)
    refine js_2493 q1 (by omega) q3 (by decide) (fun w' e1 e2 => ⟨by decide, fun q => absurd q (by decide), fun _ => nx⟩) (fun z3 => ⟨by decide, fun _ => ?_, fun q => absurd rfl q⟩)
    refine js_2493 q1 (by omega) q3 (by decide) (fun w' e1 e2 => ⟨by decide, fun q => absurd q (by decide), fun _ => nx⟩) (fun z4 => ?_)
    have := z _ e
    have := z2 _ e
    have := z3 _ e
    have := z4 _ e
    omega
end
