/-! ===== turns of a text, the reference's ===== -/
def jm_stk (o : Nat) (stk : Nat → Int) (μ : qm_M) : Prop := μ 13 34 = (o : Int) ∧ ∀ i, i < o → μ 66 i = stk i
section
variable {L d n : Nat} {t : Nat → Int} {b : Nat} {m : Bool} {D μ0 μ : qm_M} {Q : Int → qm_M → Prop} {V : qm_M → Prop} {c0 c1 c2 : Nat} {k p : Int}
theorem jl_stkf {fs l : List Nat} {μ' : qm_M} {o : Nat} {stk : Nat → Int} (h : jm_stk o stk μ) (hf : jd_fm fs l μ μ') (h1 : fs.contains 34 = false) (h2 : l.contains 66 = false) : jm_stk o stk μ' := by
  unfold jm_stk; rw [hf.2 34 h1, hf.1 66 rfl h2]; exact h
theorem js_2409a {a : Nat} {l : List Nat} (he : (a, l) ∈ jx_TW) (hs : qm_sh (qb_T L) a = some (.inr (3, l.length))) (ha : Nat.beq a 13 = false) (hk : jd_tok n t) (h : jm_at μ0 n t b m D c0 c1 c2 μ) (H1 : jx_isW n t b m l → ∀ μ', jd_fm [2, 4] [] μ μ' → jm_at μ0 n t (jx_we n t b) true D c0 c1 c2 μ' → Q 1 μ') (H0 : ¬ jx_isW n t b m l → ∀ μ', jd_fm [2, 4] [] μ μ' → jm_at μ0 n t b m D c0 c1 c2 μ' → μ' 13 2 = ((jx_st n t b : Nat) : Int) → Q 0 μ') : qm_CI (qb_T L) (d + 2) 2409 [qm_P 13, qm_P a] μ Q :=
  js_2409 hs (jx_lwT (a, l) he).1 (h.2.2.2.2.2.2.2 (a, l) he) ha hk h.2.2.1 h.2.1 (fun y μ' f hp => H1 y μ' f (jl_mats h (jg_sub f rfl rfl) hp (jx_wes t h.2.2.1).2.1)) (fun y μ' f hp a2 => H0 y μ' f (jl_mats h (jg_sub f rfl rfl) hp h.2.2.1) a2)
theorem js_2410a {a : Nat} {l : List Nat} (hc : c0 ≤ 6 ∧ c1 ≤ 8 ∧ c2 ≤ 6) (he : (a, l) ∈ jx_TW) (hs : qm_sh (qb_T L) a = some (.inr (3, l.length))) (ha : Nat.beq a 13 = false) (hk : jd_tok n t) (h : jm_at μ0 n t b m D c0 c1 c2 μ) (H1 : jx_isW n t b m l → ∀ μ', jd_fm [2, 4] [] μ μ' → jm_at μ0 n t (jx_we n t b) true D c0 c1 c2 μ' → V μ') (H0 : ¬ jx_isW n t b m l → ∀ μ', jm_no μ0 n t (1, ((jx_st n t b : Nat) : Int)) μ' → V μ') : qm_CV (qb_T L) (d + 3) 2410 [qm_P 13, qm_P a] μ V :=
  js_2410 hs (jx_lwT (a, l) he).1 (h.2.2.2.2.2.2.2 (a, l) he) ha hk h.2.2.1 h.2.1 (fun y μ' f hp => H1 y μ' f (jl_mats h (jg_sub f rfl rfl) hp (jx_wes t h.2.2.1).2.1)) (fun y μ' f hb => H0 y μ' (jl_matn hc h (jg_sub f rfl rfl) hb))
theorem js_2412a {c : Int} (hcc : c0 ≤ 6 ∧ c1 ≤ 8 ∧ c2 ≤ 6) (hc : 0 ≤ c ∧ c < 1000) (hk : jd_tok n t) (h : jm_at μ0 n t b m D c0 c1 c2 μ) (H1 : jx_isM n t b c → ∀ μ', jd_fm [2, 4] [] μ μ' → jm_at μ0 n t (jx_st n t b + 1) false D c0 c1 c2 μ' → V μ') (H0 : ¬ jx_isM n t b c → ∀ μ', jm_no μ0 n t (1, ((jx_st n t b : Nat) : Int)) μ' → V μ') : qm_CV (qb_T L) (d + 2) 2412 [qm_P 13, qm_I c] μ V :=
  js_2412 hc hk h.2.2.1 h.2.1 (fun y μ' f hp => H1 y μ' f (jl_mats h (jg_sub f rfl rfl) hp y.1)) (fun y μ' f hb => H0 y μ' (jl_matn hcc h (jg_sub f rfl rfl) hb))
theorem js_2419a {q : Nat} {N : Nat → Int} {c : Nat} (hcc : c0 ≤ 6 ∧ c1 ≤ 8 ∧ c2 ≤ 6) (hq : (q = 0 ∧ N = D 23 ∧ c = c0) ∨ (q = 1 ∧ N = D 24 ∧ c = c1) ∨ (q = 2 ∧ N = D 25 ∧ c = c2)) (hk : jd_tok n t) (h : jm_at μ0 n t b m D c0 c1 c2 μ) (H1 : ∀ r, jx_knq n t b m N c = .inr r → ∀ μ', jd_fm [2, 4, 21] [] μ μ' → jm_at μ0 n t r.1 true D c0 c1 c2 μ' → μ' 13 21 = ((jx_st n t b : Nat) : Int) → Q r.2 μ') (H0 : ∀ e, jx_knq n t b m N c = .inl e → ∀ μ', jm_no μ0 n t e μ' → Q 0 μ') : qm_CI (qb_T L) (d + 4) 2419 [qm_P 13, qm_I ((q : Nat) : Int)] μ Q := by
  obtain ⟨h1, h2, h3, h4, h5, h6, h7, h8⟩ := id h
  obtain ⟨⟨e0, e1, e2⟩, n0, n1, n2⟩ := id h4
  have go : ∀ (q : Nat) (N : Nat → Int) (c : Nat), q < 3 → c ≤ 8 → μ 59 q = (c : Int) → (∀ i, i < c → jx_nm (N i) (μ 60 (8 * q + i))) → (∀ r, jx_knq n t b m N c = .inr r → ∀ μ', jd_fm [2, 4, 21] [] μ μ' → jm_at μ0 n t r.1 true D c0 c1 c2 μ' → μ' 13 21 = ((jx_st n t b : Nat) : Int) → Q r.2 μ') → (∀ e, jx_knq n t b m N c = .inl e → ∀ μ', jm_no μ0 n t e μ' → Q 0 μ') → qm_CI (qb_T L) (d + 4) 2419 [qm_P 13, qm_I ((q : Nat) : Int)] μ Q := fun q N c hq hc h59 hN G1 G0 =>
    js_2419 hq hc h59 hN h8 hk h3 h2 (fun r er μ' f hp a => G1 r er μ' f (jl_mats h f hp (jl_knqr h3 er).2.1) a) (fun e ee μ' f hb => G0 e ee μ' (jl_matn hcc h f hb))
  rcases hq with ⟨rfl, rfl, rfl⟩ | ⟨rfl, rfl, rfl⟩ | ⟨rfl, rfl, rfl⟩
  · exact go 0 _ _ (by decide) (by omega) e0 n0 H1 H0
  · exact go 1 _ _ (by decide) (by omega) e1 n1 H1 H0
  · exact go 2 _ _ (by decide) (by omega) e2 n2 H1 H0
theorem jl_dnsm {D' : qm_M} (h : jx_sm D D') : (jm_dn D c0 c1 c2 μ → jm_dn D' c0 c1 c2 μ) ∧ (jm_dc D c1 c2 μ → jm_dc D' c1 c2 μ) ∧ (jm_df D μ → jm_df D' μ) := by
  have e : ∀ a, a ≠ 29 → a ≠ 30 → a ≠ 4 → D' a = D a := fun a h1 h2 h3 => funext fun k => h a h1 h2 k (fun z => h3 z.1)
  refine ⟨fun g => ?_, fun g => ?_, fun g => ?_⟩
  · unfold jm_dn at *; rw [e 23 (by decide) (by decide) (by decide), e 24 (by decide) (by decide) (by decide), e 25 (by decide) (by decide) (by decide)]; exact g
  · unfold jm_dc at *; rw [e 26 (by decide) (by decide) (by decide), e 27 (by decide) (by decide) (by decide), e 28 (by decide) (by decide) (by decide)]; exact g
  · unfold jm_df at *; rw [h 4 (by decide) (by decide) 4 (fun z => absurd z.2 (by decide)), h 5 (by decide) (by decide) 2 (fun z => absurd z.1 (by decide)), h 4 (by decide) (by decide) 0 (fun z => absurd z.2 (by decide))]; exact g
/-- letters may change -/
theorem jl_matl {D' μ' : qm_M} (h : jm_at μ0 n t b m D c0 c1 c2 μ) (hs : jx_sm D D') (hf : jd_fm [29, 34] [64, 65, 66] μ μ') (hl : jm_dl D' μ') : jm_at μ0 n t b m D' c0 c1 c2 μ' := by
  obtain ⟨h1, h2, h3, h4, h5, h6, h7, h8⟩ := h
  refine ⟨jl_frt h1 hf rfl rfl rfl, jl_posf h2 hf rfl rfl rfl rfl rfl rfl, h3, (jl_dnsm (c0 := c0) (c1 := c1) (c2 := c2) hs).1 ?_, (jl_dnsm (c0 := c0) (c1 := c1) (c2 := c2) hs).2.1 ?_, hl, (jl_dnsm (c0 := c0) (c1 := c1) (c2 := c2) hs).2.2 ?_, jm_cstf h8 hf rfl⟩
  · unfold jm_dn at *; rw [hf.1 59 rfl rfl, hf.1 60 rfl rfl]; exact h4
  · unfold jm_dc at *; rw [hf.1 61 rfl rfl, hf.1 62 rfl rfl]; exact h5
  · unfold jm_df at *; rw [hf.1 63 rfl rfl, hf.2 31 rfl, hf.2 32 rfl]; exact h7
theorem js_2424 {how w : Int} {c : Nat} (h29 : μ 13 29 = (c : Int)) (hc : c ≤ 1000000) (H : ∀ μ', jd_fm [29] [64, 65] μ μ' → μ' 13 29 = ((c + 1 : Nat) : Int) → (∀ j : Nat, j ≠ c → μ' 64 j = μ 64 j ∧ μ' 65 j = μ 65 j) → (c < 60 → μ' 64 c = how ∧ μ' 65 c = w) → V μ') : qm_CV (qb_T L) d 2424 [qm_P 13, qm_I how, qm_I w] μ V := by
  refine b2424_0 μ _ _ _ ?_
  rw [h29, Int.toNat_natCast]
  refine ⟨by omega, fun q => ?_, fun q => ⟨by omega, by omega, ?_⟩⟩
  · refine b2424_29 μ _ _ _ ?_
    rw [h29]
    refine ⟨rfl, H _ (jg_f (jg_refl _ _ _) rfl) (jl_ss _ _ _ _) (fun j hj => ⟨?_, ?_⟩) (fun z => by omega)⟩
    · rw [jl_sn _ _ _ (by decide)]
    · rw [jl_sn _ _ _ (by decide)]
  · refine b2424_29 _ _ _ _ ?_
    rw [jl_sn (c := 65) (c' := 13) _ _ _ (by decide), jl_sn (c := 64) (c' := 13) _ _ _ (by decide), h29]
    refine ⟨rfl, H _ (jg_f (jg_c (jg_c (jg_refl _ _ _) rfl rfl) rfl rfl) rfl) (jl_ss _ _ _ _) (fun j hj => ⟨?_, ?_⟩) (fun z => ⟨?_, ?_⟩)⟩
    · rw [jl_sn _ _ _ (by decide), jl_sn _ _ _ (by decide), jl_sk _ _ _ hj]
    · rw [jl_sn _ _ _ (by decide), jl_sk _ _ _ hj, jl_sn _ _ _ (by decide)]
    · rw [jl_sn _ _ _ (by decide), jl_sn _ _ _ (by decide), jl_ss]
    · rw [jl_sn _ _ _ (by decide), jl_ss]
theorem js_2424a {how w : Int} {c o : Nat} {stk : Nat → Int} (h : jm_at μ0 n t b m D c0 c1 c2 μ) (ho : jm_stk o stk μ) (hcD : D 4 5 = (c : Int)) (hc : c ≤ 1000000) (H : ∀ μ', jm_at μ0 n t b m (jx_add D how w) c0 c1 c2 μ' → jm_stk o stk μ' → V μ') : qm_CV (qb_T L) d 2424 [qm_P 13, qm_I how, qm_I w] μ V := by
  have hl := h.2.2.2.2.2.1
  refine js_2424 (hl.1.trans hcD) hc fun μ' f e1 e2 e3 => H μ' (jl_matl h (jl_addsm D how w) (jg_sub f rfl rfl) ⟨?_, fun j hj hj2 => ?_⟩) (jl_stkf ho f rfl rfl)
  · rw [e1, jl_addc, hcD]; rfl
  · rw [jl_addc, hcD] at hj2
    have a1 : jx_add D how w 29 j = if (0 ≤ D 4 5 ∧ D 4 5 < ((60 : Nat) : Int)) ∧ D 4 5 = (j : Int) then how else D 29 j := by
      unfold jx_add
      rw [jl_sn _ _ _ (by decide), jl_putn (by decide), jl_puts]
    have a2 : jx_add D how w 30 j = if (0 ≤ D 4 5 ∧ D 4 5 < ((60 : Nat) : Int)) ∧ D 4 5 = (j : Int) then w else D 30 j := by
      unfold jx_add
      rw [jl_sn _ _ _ (by decide), jl_puts, jl_putn (by decide)]
    rw [a1, a2, hcD]
    by_cases q : j = c
    · subst q
      rw [if_pos (by omega), if_pos (by omega)]
      exact e3 hj
    · rw [if_neg (by omega), if_neg (by omega), (e2 j q).1, (e2 j q).2]
      exact hl.2 j hj (by omega)
/-- a turn told twice has ended -/
theorem jl_pop {c f o : Nat} {stk : Nat → Int} {Q : qm_V → qm_M → Prop} (h : jm_at μ0 n t b m D c0 c1 c2 μ) (ho : jm_stk (o + 1) stk μ) (ho7 : o < 7) (hf : stk o = (f : Int)) (hcD : D 4 5 = (c : Int)) (hc : c ≤ 500000) (hfc : f ≤ c) (H : ∀ μ', jm_at μ0 n t b m (jx_dup D f) c0 c1 c2 μ' → jm_stk o stk μ' → ∀ w1 w2 w3, qm_W (qb_T L) (d + 1) 2425 0 [qm_P 13, w1, w2, w3] [] μ' Q) : ∀ w1 w2 w3, qm_W (qb_T L) (d + 1) 2425 0 [qm_P 13, w1, w2, w3] [] μ Q := fun w1 w2 w3 => by
  have hl := h.2.2.2.2.2.1
  have e34 : μ 13 34 - 1 = (o : Int) := by rw [ho.1]; omega
  have e66 : μ 66 o = (f : Int) := by rw [ho.2 o (by omega)]; exact hf
  refine b2425_0 μ _ _ _ _ ?_
  rw [e34, Int.toNat_natCast, e66, ho.1, hl.1, hcD]
  refine ⟨by omega, fun q => absurd q (by omega), fun _ => ⟨by omega, by omega, fun q => absurd q (by omega), fun _ => ⟨by omega, ?_⟩⟩⟩
  have ed : ∀ (a : Nat), a = 29 ∨ a = 30 → ∀ j : Nat, j < 60 → j < 2 * c - f → jx_dup D f a j = if c ≤ j then D a (f + (j - c)) else D a j := fun a ha j hj hj2 => by
    unfold jx_dup
    rw [hcD, Int.toNat_natCast]
    by_cases q : c ≤ j
    · rw [if_pos ⟨ha, q, hj, by omega⟩, if_pos q]
    · rw [if_neg (fun z => q z.2.1), if_neg q, if_neg (fun z => by rcases ha with q2 | q2 <;> omega)]
  have fin : ∀ (x3 : Int) (i : Nat) (μ' : qm_M), jd_fm [29, 34] [64, 65] μ μ' → μ' 13 34 = (o : Int) → (c - f ≤ i ∨ 60 ≤ c + i) → (∀ j : Nat, j < 60 → j < c + i → j < 2 * c - f → μ' 64 j = jx_dup D f 29 j ∧ μ' 65 j = jx_dup D f 30 j) → qm_W (qb_T L) (d + 1) 2425 85 [qm_P 13, qm_I ((f : Nat) : Int), qm_I ((c : Nat) : Int), qm_I x3] [] μ' Q := fun x3 i μ' ff g1 g2 g3 => by
    refine b2425_85 μ' _ _ _ _ ?_
    have ff2 : jd_fm [29, 34] [64, 65] μ (qm_set μ' 13 29 (2 * (c : Int) - (f : Int))) := jg_f ff rfl
    refine H _ (jl_matl h (jl_dupsm D f) (jg_sub ff2 rfl rfl) ⟨?_, fun j hj hj2 => ?_⟩) ⟨?_, fun i hi => ?_⟩ _ _ _
    · rw [jl_ss, jl_dupc, hcD]
    · rw [jl_dupc, hcD] at hj2
      rw [jl_sn _ _ _ (by decide), jl_sn _ _ _ (by decide)]
      exact g3 j hj (by omega) (by omega)
    · rw [jl_sk _ _ _ (by decide)]; exact g1
    · rw [ff2.1 66 rfl rfl]; exact ho.2 i (by omega)
  refine jl_loop (S := fun i => ∀ μ', jd_fm [29, 34] [64, 65] μ μ' → μ' 13 34 = (o : Int) → μ' 13 29 = ((c + i : Nat) : Int) → (∀ j : Nat, j < 60 → j < c + i → j < 2 * c - f → μ' 64 j = jx_dup D f 29 j ∧ μ' 65 j = jx_dup D f 30 j) → qm_W (qb_T L) (d + 1) 2425 49 [qm_P 13, qm_I ((f : Nat) : Int), qm_I ((c : Nat) : Int), qm_I (((f + i : Nat)) : Int)] [] μ' Q) (min (c - f) (60 - c)) (fun i hi ih μ' ff g1 g2 g3 => ?_) (fun μ' ff g1 g2 g3 => ?_) _ (jg_f (jg_refl _ _ _) rfl) (jl_ss _ _ _ _) (by rw [jl_sk _ _ _ (by decide)]; exact hl.1.trans hcD) (fun j hj hj2 hj3 => ?_)
  · have e1 := ed 29 (Or.inl rfl) (f + i) (by omega) (by omega)
    have e2 := ed 30 (Or.inr rfl) (f + i) (by omega) (by omega)
    have e3 := g3 (f + i) (by omega) (by omega) (by omega)
    rw [if_neg (by omega)] at e1 e2
    rw [e1, e2] at e3
    refine b2425_49 μ' _ _ _ _ ?_
    rw [g2, Int.toNat_natCast]
    refine ⟨by omega, by omega, fun q => absurd q (by omega), fun _ => ⟨by omega, fun q => absurd q (by omega), fun _ => ⟨by omega, by omega, ?_⟩⟩⟩
    refine js_2424 g2 (by omega) fun μ2 f2 h1 h2 h3 => ?_
    rw [show (((f + i : Nat)) : Int) + 1 = (((f + (i + 1) : Nat)) : Int) by omega]
    refine ih μ2 (jg_trans ff (jg_sub f2 rfl rfl)) (by rw [f2.2 34 rfl]; exact g1) (by rw [h1]; rfl) fun j hj hj2 hj3 => ?_
    by_cases q : j = c + i
    · subst q
      rw [ed 29 (Or.inl rfl) _ hj hj3, ed 30 (Or.inr rfl) _ hj hj3, if_pos (by omega), if_pos (by omega), show f + (c + i - c) = f + i by omega, ← e3.1, ← e3.2]
      exact h3 (by omega)
    · rw [(h2 j q).1, (h2 j q).2]; exact g3 j hj (by omega) hj3
  · refine b2425_49 μ' _ _ _ _ ?_
    rw [g2]
    exact ⟨by omega, by omega, fun q => fin _ _ μ' ff g1 (Or.inl (by omega)) g3, fun q => ⟨by omega, fun q2 => fin _ _ μ' ff g1 (Or.inr (by omega)) g3, fun q2 => absurd q2 (by omega)⟩⟩
  · rw [jl_sn _ _ _ (by decide), jl_sn _ _ _ (by decide), ed 29 (Or.inl rfl) j hj hj3, ed 30 (Or.inr rfl) j hj hj3, if_neg (by omega), if_neg (by omega)]
    exact hl.2 j hj (by omega)
end
