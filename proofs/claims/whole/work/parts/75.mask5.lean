/-! ===== words of a question, the reference's ===== -/
section
variable {L d n : Nat} {t : Nat → Int} {B a b : Nat} {m : Bool} {D μ0 μ : qm_M} {o s : Nat} {S : Nat → Int} {l : Nat} {pd : Nat → Int} {V : qm_M → Prop} {x1 : Int} {Q : Int → qm_M → Prop} {e : Int × Int}
theorem jx_isWu {l l' : List Nat} (h : jx_isW n t b m l) (h' : jx_isW n t b m l') : l = l' := by
  have e : l.length = l'.length := by have := h.2.1; have := h'.2.1; omega
  refine List.ext_getElem e fun i h1 h2 => ?_
  have e1 := h.2.2 i h1
  have e2 := h'.2.2 i h2
  rw [List.getD_eq_getElem?_getD, List.getElem?_eq_getElem h1] at e1
  rw [List.getD_eq_getElem?_getD, List.getElem?_eq_getElem h2] at e2
  have e3 := e1.symm.trans e2
  simp only [Option.getD_some] at e3
  omega
theorem jx_isWM {l : List Nat} {c : Int} (h : jx_isW n t b m l) (hc : ¬ jx_le c) : ¬ jx_isM n t b c := fun z => hc (by rw [← z.2]; exact h.1.2.1)
theorem jx_isWN {l : List Nat} (h : jx_isW n t b m l) : ¬ jx_isN n t b m := fun z => by
  have h1 := h.1.2.1
  have h2 := z.2.1
  unfold jx_le at h1
  unfold jx_di at h2
  omega
theorem js_2408q {w : Nat} {l' : List Nat} (he : (w, l') ∈ jx_TW) (hs : qm_sh (qb_T L) w = some (.inr (3, l'.length))) (ha : Nat.beq w 13 = false) (hk : jd_tok n t) (h : jm_qt μ0 n t a b m D o s S l pd μ) (H1 : jx_isW n t b m l' → ∀ μ', jm_qt μ0 n t a b m D o s S l pd μ' → μ' 13 2 = ((jx_st n t b : Nat) : Int) → Q 1 μ') (H0 : ¬ jx_isW n t b m l' → ∀ μ', jm_qt μ0 n t a b m D o s S l pd μ' → μ' 13 2 = ((jx_st n t b : Nat) : Int) → Q 0 μ') : qm_CI (qb_T L) (d + 1) 2408 [qm_P 13, qm_P w] μ Q :=
  js_2408 hs (jx_lwT (w, l') he).1 (h.2.2.2.1 (w, l') he) ha hk h.2.2.1 h.2.1 (fun y μ' f hp a2 => H1 y μ' (jl_qtm h (jg_sub f rfl rfl) hp (Nat.le_refl _) h.2.2.1) a2) (fun y μ' f hp a2 => H0 y μ' (jl_qtm h (jg_sub f rfl rfl) hp (Nat.le_refl _) h.2.2.1) a2)
theorem js_2409q {w : Nat} {l' : List Nat} (he : (w, l') ∈ jx_TW) (hs : qm_sh (qb_T L) w = some (.inr (3, l'.length))) (ha : Nat.beq w 13 = false) (hk : jd_tok n t) (h : jm_qt μ0 n t a b m D o s S l pd μ) (H1 : jx_isW n t b m l' → ∀ μ', jm_qt μ0 n t a (jx_we n t b) true D o s S l pd μ' → Q 1 μ') (H0 : ¬ jx_isW n t b m l' → ∀ μ', jm_qt μ0 n t a b m D o s S l pd μ' → μ' 13 2 = ((jx_st n t b : Nat) : Int) → Q 0 μ') : qm_CI (qb_T L) (d + 2) 2409 [qm_P 13, qm_P w] μ Q :=
  js_2409 hs (jx_lwT (w, l') he).1 (h.2.2.2.1 (w, l') he) ha hk h.2.2.1 h.2.1 (fun y μ' f hp => H1 y μ' (jl_qtm h f hp (by have := jx_wlt h.2.2.1 y.1.1 y.1.2.1; have := jx_stb (t := t) h.2.2.1; omega) (jx_wes t h.2.2.1).2.1)) (fun y μ' f hp a2 => H0 y μ' (jl_qtm h f hp (Nat.le_refl _) h.2.2.1) a2)
/-- a word that is here is passed -/
theorem js_2410q {w : Nat} {l' : List Nat} (he : (w, l') ∈ jx_TW) (hs : qm_sh (qb_T L) w = some (.inr (3, l'.length))) (ha : Nat.beq w 13 = false) (hk : jd_tok n t) (hB : B ≤ b + 1) (h : jm_qg μ0 n t B a b m D o s S l pd μ) (hW : jx_isW n t b m l') (H1 : ∀ μ', jm_qt μ0 n t a (jx_we n t b) true D o s S l pd μ' → V μ') : qm_CV (qb_T L) (d + 3) 2410 [qm_P 13, qm_P w] μ V :=
  js_2410 hs (jx_lwT (w, l') he).1 (h.2.2.2.1 (w, l') he) ha hk h.2.2.1 h.2.1 (fun y μ' f hp => H1 μ' (jl_qtm h f hp (by have := jx_wlt h.2.2.1 y.1.1 y.1.2.1; have := jx_stb (t := t) h.2.2.1; omega) (jx_wes t h.2.2.1).2.1)) (fun y => absurd hW y)
/-- which word of seven is here -/
def jx_w7 (n : Nat) (t : Nat → Int) (b : Nat) (m : Bool) (k : Int) : Prop := (k = -1 ∧ ¬ jx_isW n t b m qb_tx_1021 ∧ ¬ jx_isW n t b m qb_tx_1022 ∧ ¬ jx_isW n t b m qb_tx_1023 ∧ ¬ jx_isW n t b m qb_tx_1026 ∧ ¬ jx_isW n t b m qb_tx_1027 ∧ ¬ jx_isW n t b m qb_tx_1028 ∧ ¬ jx_isW n t b m qb_tx_1029) ∨ (k = 0 ∧ jx_isW n t b m qb_tx_1021) ∨ (k = 1 ∧ jx_isW n t b m qb_tx_1022) ∨ (k = 2 ∧ jx_isW n t b m qb_tx_1023) ∨ (k = 3 ∧ jx_isW n t b m qb_tx_1026) ∨ (k = 4 ∧ jx_isW n t b m qb_tx_1027) ∨ (k = 5 ∧ jx_isW n t b m qb_tx_1028) ∨ (k = 6 ∧ jx_isW n t b m qb_tx_1029)
theorem jl_w7b {k : Int} (h : jx_w7 n t b m k) : -1 ≤ k ∧ k ≤ 6 := by
  rcases h with h | h | h | h | h | h | h | h <;> (have := h.1; omega)
theorem js_2498 (hk : jd_tok n t) (h : jm_qt μ0 n t a b m D o s S l pd μ) (H : ∀ k μ', jx_w7 n t b m k → jm_qt μ0 n t a b m D o s S l pd μ' → μ' 13 2 = ((jx_st n t b : Nat) : Int) → Q k μ') : qm_CI (qb_T L) (d + 2) 2498 [qm_P 13] μ Q := by
  unfold jx_w7 at H
  refine b2498_0 μ _ (js_2408q (l' := qb_tx_1021) (by decide) rfl rfl hk h (fun z1 μ1 h1 a1 => ⟨by decide, fun q => absurd q (by decide), fun _ => ⟨_, rfl, H 0 μ1 (Or.inr (Or.inl ⟨rfl, z1⟩)) h1 a1⟩⟩) (fun z1 μ1 h1 a1 => ⟨by decide, fun _ => ?_, fun q => absurd rfl q⟩))
  refine js_2408q (l' := qb_tx_1022) (by decide) rfl rfl hk h1 (fun z2 μ2 h2 a2 => ⟨by decide, fun q => absurd q (by decide), fun _ => ⟨_, rfl, H 1 μ2 (Or.inr (Or.inr (Or.inl ⟨rfl, z2⟩))) h2 a2⟩⟩) (fun z2 μ2 h2 a2 => ⟨by decide, fun _ => ?_, fun q => absurd rfl q⟩)
  refine js_2408q (l' := qb_tx_1023) (by decide) rfl rfl hk h2 (fun z3 μ3 h3 a3 => ⟨by decide, fun q => absurd q (by decide), fun _ => ⟨_, rfl, H 2 μ3 (Or.inr (Or.inr (Or.inr (Or.inl ⟨rfl, z3⟩)))) h3 a3⟩⟩) (fun z3 μ3 h3 a3 => ⟨by decide, fun _ => ?_, fun q => absurd rfl q⟩)
  refine js_2408q (l' := qb_tx_1026) (by decide) rfl rfl hk h3 (fun z4 μ4 h4 a4 => ⟨by decide, fun q => absurd q (by decide), fun _ => ⟨_, rfl, H 3 μ4 (Or.inr (Or.inr (Or.inr (Or.inr (Or.inl ⟨rfl, z4⟩))))) h4 a4⟩⟩) (fun z4 μ4 h4 a4 => ⟨by decide, fun _ => ?_, fun q => absurd rfl q⟩)
  refine js_2408q (l' := qb_tx_1027) (by decide) rfl rfl hk h4 (fun z5 μ5 h5 a5 => ⟨by decide, fun q => absurd q (by decide), fun _ => ⟨_, rfl, H 4 μ5 (Or.inr (Or.inr (Or.inr (Or.inr (Or.inr (Or.inl ⟨rfl, z5⟩)))))) h5 a5⟩⟩) (fun z5 μ5 h5 a5 => ⟨by decide, fun _ => ?_, fun q => absurd rfl q⟩)
  refine js_2408q (l' := qb_tx_1028) (by decide) rfl rfl hk h5 (fun z6 μ6 h6 a6 => ⟨by decide, fun q => absurd q (by decide), fun _ => ⟨_, rfl, H 5 μ6 (Or.inr (Or.inr (Or.inr (Or.inr (Or.inr (Or.inr (Or.inl ⟨rfl, z6⟩))))))) h6 a6⟩⟩) (fun z6 μ6 h6 a6 => ⟨by decide, fun _ => ?_, fun q => absurd rfl q⟩)
  refine js_2408q (l' := qb_tx_1029) (by decide) rfl rfl hk h6 (fun z7 μ7 h7 a7 => ⟨by decide, fun q => absurd q (by decide), fun _ => ⟨_, rfl, H 6 μ7 (Or.inr (Or.inr (Or.inr (Or.inr (Or.inr (Or.inr (Or.inr ⟨rfl, z7⟩))))))) h7 a7⟩⟩) (fun z7 μ7 h7 a7 => ⟨by decide, fun _ => ⟨_, rfl, H (-1) μ7 (Or.inl ⟨rfl, z1, z2, z3, z4, z5, z6, z7⟩) h7 a7⟩, fun q => absurd rfl q⟩)
theorem js_2499 {a1 a2 : Int} (ha1 : qm_r32 a1) (ha2 : qm_r32 a2) (hk : jd_tok n t) (h : jm_qt μ0 n t a b m D o s S l pd μ) (H : ∀ k μ', jx_w7 n t b m k → jm_qt μ0 n t a b m D o s S l pd μ' → μ' 13 2 = ((jx_st n t b : Nat) : Int) → Q (if a1 ≤ k ∧ k < a2 then k else -1) μ') : qm_CI (qb_T L) (d + 3) 2499 [qm_P 13, qm_I a1, qm_I a2] μ Q := by
  refine b2499_0 μ _ _ _ (js_2498 hk h fun k μ' hw h' aa => ?_)
  have hb := jl_w7b hw
  have HH := H k μ' hw h' aa
  refine ⟨by omega, ha1, fun q => ⟨_, rfl, ?_⟩, fun q => ⟨by omega, ha2, fun q2 => ⟨_, rfl, ?_⟩, fun q2 => ⟨_, rfl, ?_⟩⟩⟩
  · rw [if_neg (by omega)] at HH; exact HH
  · rw [if_neg (by omega)] at HH; exact HH
  · rw [if_pos (by omega)] at HH; exact HH
theorem js_2500 {k : Int} (hk : jd_tok n t) (hB : B ≤ b + 1) (h : jm_qg μ0 n t B a b m D o s S l pd μ) (hw : jx_w7 n t b m k) (h0 : 0 ≤ k) (H1 : ∀ μ', jm_qt μ0 n t a (jx_we n t b) true D o s S l pd μ' → V μ') : qm_CV (qb_T L) (d + 4) 2500 [qm_P 13, qm_I k] μ V := by
  have hkb := jl_w7b hw
  unfold jx_w7 at hw
  refine b2500_0 μ _ _ ⟨by omega, fun q => ?_, fun q => ?_, fun q => ?_, fun q => ?_, fun q => ?_, fun q => ?_, fun q => ?_⟩
  · refine js_2410q (l' := qb_tx_1021) (by decide) rfl rfl hk hB h ?_ fun μ' h' => ⟨rfl, H1 μ' h'⟩
    rcases hw with z | z | z | z | z | z | z | z
    all_goals first | exact z.2 | (have := z.1; omega)
  · refine js_2410q (l' := qb_tx_1022) (by decide) rfl rfl hk hB h ?_ fun μ' h' => ⟨rfl, H1 μ' h'⟩
    rcases hw with z | z | z | z | z | z | z | z
    all_goals first | exact z.2 | (have := z.1; omega)
  · refine js_2410q (l' := qb_tx_1023) (by decide) rfl rfl hk hB h ?_ fun μ' h' => ⟨rfl, H1 μ' h'⟩
    rcases hw with z | z | z | z | z | z | z | z
    all_goals first | exact z.2 | (have := z.1; omega)
  · refine js_2410q (l' := qb_tx_1026) (by decide) rfl rfl hk hB h ?_ fun μ' h' => ⟨rfl, H1 μ' h'⟩
    rcases hw with z | z | z | z | z | z | z | z
    all_goals first | exact z.2 | (have := z.1; omega)
  · refine js_2410q (l' := qb_tx_1027) (by decide) rfl rfl hk hB h ?_ fun μ' h' => ⟨rfl, H1 μ' h'⟩
    rcases hw with z | z | z | z | z | z | z | z
    all_goals first | exact z.2 | (have := z.1; omega)
  · refine js_2410q (l' := qb_tx_1028) (by decide) rfl rfl hk hB h ?_ fun μ' h' => ⟨rfl, H1 μ' h'⟩
    rcases hw with z | z | z | z | z | z | z | z
    all_goals first | exact z.2 | (have := z.1; omega)
  · refine js_2410q (l' := qb_tx_1029) (by decide) rfl rfl hk hB h ?_ fun μ' h' => ⟨rfl, H1 μ' h'⟩
    rcases hw with z | z | z | z | z | z | z | z
    all_goals first | exact z.2 | (have := z.1; omega)
theorem js_2500b {k k1 p1 : Int} (hkr : qm_r32 k) (h : jm_bad n t k1 p1 μ) (H : V μ) : qm_CV (qb_T L) (d + 4) 2500 [qm_P 13, qm_I k] μ V :=
  b2500_0 μ _ _ ⟨hkr, fun q => js_2410b (n1 := 3) rfl h ⟨rfl, H⟩, fun q => js_2410b (n1 := 4) rfl h ⟨rfl, H⟩, fun q => js_2410b (n1 := 5) rfl h ⟨rfl, H⟩, fun q => js_2410b (n1 := 5) rfl h ⟨rfl, H⟩, fun q => js_2410b (n1 := 6) rfl h ⟨rfl, H⟩, fun q => js_2410b (n1 := 5) rfl h ⟨rfl, H⟩, fun q => js_2410b (n1 := 5) rfl h ⟨rfl, H⟩⟩
theorem jl_P2b {x : Int} {w2 w3 w4 w5 : qm_V} (hx : x = 0 ∨ x = 1) (h : jm_qn μ0 n t e μ) (H : ∀ μ', jm_qn μ0 n t e μ' → V μ') : qm_W (qb_T L) (d + 5) 2502 2 [qm_P 13, qm_I x, w2, w3, w4, w5] [] μ (fun v μ1 => v = none ∧ jq_V2 L d x1 V μ1) := by
  have e5 := h.2.2.2.1
  have ek := h.2.2.2.2.1
  have fin : qm_W (qb_T L) (d + 5) 2502 184 [qm_P 13, qm_I x, w2, w3, w4, w5] [] μ (fun v μ1 => v = none ∧ jq_V2 L d x1 V μ1) := by
    refine b2502_184 μ _ _ _ _ _ _ ?_
    rw [e5]
    exact ⟨by omega, fun z => by omega, fun _ => ⟨rfl, jl_qV2b h H⟩⟩
  refine b2502_2 μ _ _ _ _ _ _ ⟨by omega, fun _ => fin, fun _ => ?_⟩
  rw [e5]
  exact ⟨by omega, fun z => by omega, fun _ => fin⟩
theorem jl_qnat {p : Nat} (h : jm_qn μ0 n t e μ) (h2 : μ 13 2 = (p : Int)) (hp : p < n) : jm_qn μ0 n t e (qm_set μ 13 2 (μ 13 2 + 1)) := by
  have ff : jd_fm [2] [] μ (qm_set μ 13 2 (μ 13 2 + 1)) := jg_f (jg_refl _ _ _) rfl
  obtain ⟨h1, ⟨g1, g2, g3, g4, g5, g6⟩⟩ := h
  refine ⟨⟨by rw [ff.2 65 rfl]; exact h1.1, jg_trans h1.2 (jg_sub ff rfl rfl)⟩, ⟨p + 1, by rw [jl_ss, h2]; rfl, by omega⟩, ?_, ?_, g4, ?_, ?_⟩
  · rw [ff.2 3 rfl]; exact g2
  · rw [ff.2 5 rfl]; exact g3
  · rw [ff.2 6 rfl]; exact g5
  · rw [ff.1 46 rfl rfl]; exact g6
end
