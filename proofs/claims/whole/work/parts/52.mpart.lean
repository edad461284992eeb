/-! ===== a part of a turn, the reference's ===== -/
section
variable {L d n : Nat} {t : Nat → Int} {b : Nat} {m : Bool} {D μ0 μ : qm_M} {Q : Int → qm_M → Prop} {V : qm_M → Prop} {c0 c1 c2 : Nat} {k p : Int}
theorem js_2407a (hk : jd_tok n t) (h : jm_at μ0 n t b m D c0 c1 c2 μ) (Hn : jx_st n t b < n → ∀ μ', jd_fm [2] [] μ μ' → jm_at μ0 n t b m D c0 c1 c2 μ' → μ' 13 2 = ((jx_st n t b : Nat) : Int) → Q (t (jx_st n t b)) μ') (He : jx_st n t b = n → ∀ μ', jd_fm [2] [] μ μ' → jm_at μ0 n t b m D c0 c1 c2 μ' → μ' 13 2 = ((jx_st n t b : Nat) : Int) → Q (-1) μ') : qm_CI (qb_T L) d 2407 [qm_P 13] μ Q :=
  js_2407 hk h.2.2.1 h.2.1 (fun y μ' f hp a => Hn y μ' f (jl_mats h (jg_sub f rfl rfl) hp h.2.2.1) a) (fun y μ' f hp a => He y μ' f (jl_mats h (jg_sub f rfl rfl) hp h.2.2.1) a)
theorem js_2426 (hnt : jx_st n t b < n → jx_le (t (jx_st n t b)) → ¬ jx_tn n t b m) (hk : jd_tok n t) (h : jm_at μ0 n t b m D c0 c1 c2 μ) (H1 : jx_isL n t b m → ¬ jx_own n t b → ∀ μ', jd_fm [2] [] μ μ' → jm_at μ0 n t b m D c0 c1 c2 μ' → Q 1 μ') (H0 : ¬ (jx_isL n t b m ∧ ¬ jx_own n t b) → ∀ μ', jd_fm [2] [] μ μ' → jm_at μ0 n t b m D c0 c1 c2 μ' → Q 0 μ') : qm_CI (qb_T L) (d + 3) 2426 [qm_P 13] μ Q := by
  refine b2426_0 μ _ ?_
  rw [h.2.1.2.2.2.2.1]
  refine ⟨by decide, fun _ => js_2407a hk h (fun hlt μ1 f1 h1 a1 => ?_) (fun hen μ1 f1 h1 a1 => ?_), fun q => absurd rfl q⟩
  · have hbx := hk.2 _ hlt
    refine js_2405 (by omega) (fun hle => ⟨by decide, fun q => absurd q (by decide), fun _ => ?_⟩) (fun hle => ⟨by decide, fun _ => ⟨_, rfl, H0 (fun z => hle z.1.2.1) μ1 f1 h1⟩, fun q => absurd rfl q⟩)
    have hL : jx_isL n t b m := ⟨hlt, hle, hnt hlt hle⟩
    refine js_2414 h1.2.2.2.2.2.2.2 hk h1.2.2.1 h1.2.1 (fun ho μ2 f2 hp2 a2 => ⟨by decide, fun q => absurd q (by decide), fun _ => ⟨_, rfl, H0 (fun z => z.2 (jl_own.mp ho).2) μ2 (jg_trans f1 f2) (jl_mats h1 (jg_sub f2 rfl rfl) hp2 h1.2.2.1)⟩⟩) (fun hno μ2 f2 hp2 a2 => ⟨by decide, fun _ => ⟨_, rfl, H1 hL (fun z => hno (jl_own.mpr ⟨hL, z⟩)) μ2 (jg_trans f1 f2) (jl_mats h1 (jg_sub f2 rfl rfl) hp2 h1.2.2.1)⟩, fun q => absurd rfl q⟩)
  · exact js_2405 (by decide) (fun hle => by unfold jx_le at hle; omega) (fun hle => ⟨by decide, fun _ => ⟨_, rfl, H0 (fun z => by have := z.1.1; omega) μ1 f1 h1⟩, fun q => absurd rfl q⟩)
theorem js_2423 {from_ : Int} {o : Nat} {stk : Nat → Int} {pl : Nat} (hc : c0 ≤ 6 ∧ c1 ≤ 8 ∧ c2 ≤ 6) (ho7 : o ≤ 7) (h : jm_at μ0 n t b m D c0 c1 c2 μ) (ho : jm_stk o stk μ) (H1 : o < 7 → ∀ μ', jm_at μ0 n t b m D c0 c1 c2 μ' → jm_stk (o + 1) (fun i => if i = o then from_ else stk i) μ' → V μ') (H0 : 7 ≤ o → ∀ μ', jm_no μ0 n t (4, ((pl : Nat) : Int)) μ' → V μ') : qm_CV (qb_T L) (d + 1) 2423 [qm_P 13, qm_I from_, qm_I ((pl : Nat) : Int)] μ V := by
  refine b2423_0 μ _ _ _ ?_
  rw [h.2.1.2.2.2.2.1, ho.1, Int.toNat_natCast]
  refine ⟨by decide, fun _ => ⟨by omega, fun q => js_2404 h.2.1 (by decide) h.2.2.1 fun μ2 f2 hb2 => ⟨rfl, H0 (by omega) μ2 (jl_matn hc h (jg_sub f2 rfl rfl) hb2)⟩, fun q => ⟨by omega, rfl, H1 (by omega) _ ?_ ?_⟩⟩, fun q => absurd rfl q⟩
  · have ff : jd_fm [34] [66] μ (qm_set (qm_set μ 66 o from_) 13 34 ((o : Int) + 1)) := jg_f (jg_c (jg_refl _ _ _) rfl rfl) rfl
    refine jl_matl h (jx_smr D) (jg_sub ff rfl rfl) ?_
    have hl := h.2.2.2.2.2.1
    unfold jm_dl at *
    rw [ff.1 64 rfl rfl, ff.1 65 rfl rfl, ff.2 29 rfl]
    exact hl
  · refine ⟨by rw [jl_ss]; rfl, fun i hi => ?_⟩
    rw [jl_sn _ _ _ (by decide)]
    by_cases q2 : i = o
    · subst q2; rw [jl_ss]; exact (if_pos rfl).symm
    · rw [jl_sk _ _ _ q2]
      show _ = if i = o then from_ else stk i
      rw [if_neg q2]; exact ho.2 i (by omega)
/-- behind a word no letter stands -/
theorem jl_nt {b : Nat} (hb : b ≤ n) : jx_st n t (jx_we n t b) < n → jx_le (t (jx_st n t (jx_we n t b))) → ¬ jx_tn n t (jx_we n t b) true := fun h1 h2 h3 => by
  have hw := jx_wes t hb
  have e := h3.2
  rw [e] at h1 h2
  exact hw.2.2.2 h1 h2
theorem js_2427 {o : Nat} {stk : Nat → Int} {c : Nat} (hD : jx_dok D c0 c1 c2) (hcD : D 4 5 = (c : Int)) (hcb : c ≤ 1000000) (ho7 : o ≤ 7) (hk : jd_tok n t) (h : jm_at μ0 n t b m D c0 c1 c2 μ) (ho : jm_stk o stk μ)
    (Ht : jx_isW n t b m qb_tx_1012 → o < 7 → ∀ μ', jm_at μ0 n t (jx_we n t b) true D c0 c1 c2 μ' → jm_stk (o + 1) (fun i => if i = o then (c : Int) else stk i) μ' → Q 0 μ')
    (Hf : jx_isW n t b m qb_tx_1012 ∨ (¬ jx_isW n t b m qb_tx_1012 ∧ jx_isM n t b 91) → 7 ≤ o → ∀ μ', jm_no μ0 n t (4, ((jx_st n t b : Nat) : Int)) μ' → Q 0 μ')
    (Hb : ¬ jx_isW n t b m qb_tx_1012 → jx_isM n t b 91 → o < 7 → ∀ μ', jm_at μ0 n t (jx_st n t b + 1) false D c0 c1 c2 μ' → jm_stk (o + 1) (fun i => if i = o then -1 else stk i) μ' → Q 0 μ')
    (Hl : ¬ jx_isW n t b m qb_tx_1012 → ¬ jx_isM n t b 91 → ∀ s, jx_ltq n t b m D = .inr s → ∀ μ', jm_at μ0 n t s.1 s.2.1 s.2.2 c0 c1 c2 μ' → jm_stk o stk μ' → Q 1 μ')
    (Hl0 : ¬ jx_isW n t b m qb_tx_1012 → ¬ jx_isM n t b 91 → ∀ e, jx_ltq n t b m D = .inl e → ∀ μ', jm_no μ0 n t e μ' → Q 0 μ') : qm_CI (qb_T L) (d + 5) 2427 [qm_P 13] μ Q := by
  have hcc := hD.2.2.2.1
  have d3 := hD.2.2.1
  -- the letters
  have b141 : ∀ (x1 x2 x3 x4 : Int) (e : Int × Int) (μ' : qm_M), jm_no μ0 n t e μ' → Q 0 μ' → qm_W (qb_T L) (d + 5) 2427 141 [qm_P 13, qm_I x1, qm_I x2, qm_I x3, qm_I x4] [] μ' (fun v μ' => ∃ r, v = some (.inl r) ∧ Q r μ') := fun x1 x2 x3 x4 e μ' hn hQ => by
    refine b2427_141 μ' _ _ _ _ _ ?_
    have e5 := hn.2.1.2.2.1
    have e6 := hn.2.1.2.2.2.1
    rw [e5]
    exact ⟨by omega, fun z => absurd z (by omega), fun _ => ⟨_, rfl, hQ⟩⟩
  have b125 : ∀ (x1 x2 x3 s0 : Int) (e : Int × Int) (μ' : qm_M), jm_no μ0 n t e μ' → Q 0 μ' → qm_W (qb_T L) (d + 5) 2427 125 [qm_P 13, qm_I x1, qm_I x2, qm_I x3, none] [qm_I s0] μ' (fun v μ' => ∃ r, v = some (.inl r) ∧ Q r μ') := fun x1 x2 x3 s0 e μ' hn hQ => by
    refine b2427_125 μ' _ _ _ _ _ ?_
    have e5 := hn.2.1.2.2.1
    have e6 := hn.2.1.2.2.2.1
    rw [e5]
    exact ⟨by omega, fun z => absurd z (by omega), fun _ => b141 _ _ _ _ e μ' hn hQ⟩
  have g125 : ∀ (x1 x2 how w : Int) (b1 : Nat) (μ' : qm_M), ¬ jx_isW n t b m qb_tx_1012 → ¬ jx_isM n t b 91 → jm_at μ0 n t b1 true D c0 c1 c2 μ' → jm_stk o stk μ' → jx_ltq n t b m D = .inr (b1, true, jx_add D how w) → qm_W (qb_T L) (d + 5) 2427 125 [qm_P 13, qm_I x1, qm_I x2, qm_I how, none] [qm_I w] μ' (fun v μ' => ∃ r, v = some (.inl r) ∧ Q r μ') := fun x1 x2 how w b1 μ' y1 y2 ha hs hq => by
    refine b2427_125 μ' _ _ _ _ _ ?_
    rw [ha.2.1.2.2.2.2.1]
    refine ⟨by decide, fun _ => js_2424a ha hs hcD hcb fun μ2 ha2 hs2 => b2427_141 μ2 _ _ _ _ _ ?_, fun z => absurd rfl z⟩
    rw [ha2.2.1.2.2.2.2.1]
    exact ⟨by decide, fun _ => ⟨_, rfl, Hl y1 y2 _ hq μ2 ha2 hs2⟩, fun z => absurd rfl z⟩
  have g116 : ∀ (x1 x2 how : Int) (b1 : Nat) (μ' : qm_M), ¬ jx_isW n t b m qb_tx_1012 → ¬ jx_isM n t b 91 → jm_at μ0 n t b1 true D c0 c1 c2 μ' → jm_stk o stk μ' → jx_ltq n t b m D = jx_pkq n t b1 true D how → qm_W (qb_T L) (d + 5) 2427 116 [qm_P 13, qm_I x1, qm_I x2, qm_I how, none] [] μ' (fun v μ' => ∃ r, v = some (.inl r) ∧ Q r μ') := fun x1 x2 how b1 μ' y1 y2 ha hs hq => by
    unfold jx_pkq at hq
    rw [d3, Int.toNat_natCast] at hq
    refine b2427_116 μ' _ _ _ _ (js_2419a hcc (Or.inr (Or.inr ⟨rfl, rfl, rfl⟩)) hk ha (fun r er μ2 f2 ha2 _ => ?_) (fun e ee μ2 hn2 => ?_))
    · rw [er] at hq
      exact g125 x1 x2 how r.2 r.1 μ2 y1 y2 ha2 (jl_stkf hs f2 rfl rfl) hq
    · rw [ee] at hq
      exact b125 _ _ _ _ e μ2 hn2 (Hl0 y1 y2 e hq μ2 hn2)
  have g104 : ∀ (x1 x2 how : Int) (μ' : qm_M), ¬ jx_isW n t b m qb_tx_1012 → ¬ jx_isM n t b 91 → jm_at μ0 n t (jx_we n t b) true D c0 c1 c2 μ' → jm_stk o stk μ' → (how = 0 ∨ how = 1) → ((jx_isL n t (jx_we n t b) true ∧ ¬ jx_own n t (jx_we n t b)) → jx_ltq n t b m D = jx_pkq n t (jx_we n t b) true D how) → (¬ (jx_isL n t (jx_we n t b) true ∧ ¬ jx_own n t (jx_we n t b)) → jx_ltq n t b m D = .inr (jx_we n t b, true, jx_add D how (-1))) → qm_W (qb_T L) (d + 5) 2427 90 [qm_P 13, qm_I x1, qm_I x2, none, none] [qm_I how] μ' (fun v μ' => ∃ r, v = some (.inl r) ∧ Q r μ') := fun x1 x2 how μ' y1 y2 ha hs hh q1 q2 => by
    refine b2427_90 μ' _ _ _ _ ⟨by omega, fun z => by omega, fun _ => ?_⟩
    refine b2427_104 μ' _ _ _ _ ⟨by omega, fun z => by omega, fun _ => ?_⟩
    refine js_2426 (jl_nt h.2.2.1) hk ha (fun z1 z2 μ2 f2 ha2 => ⟨by decide, fun z => absurd z (by decide), fun _ => ?_⟩) (fun z1 μ2 f2 ha2 => ⟨by decide, fun _ => ?_, fun z => absurd rfl z⟩)
    · exact g116 x1 x2 how _ μ2 y1 y2 ha2 (jl_stkf hs f2 rfl rfl) (q1 ⟨z1, z2⟩)
    · exact g125 x1 x2 how _ _ μ2 y1 y2 ha2 (jl_stkf hs f2 rfl rfl) (q2 z1)
  have w59 : ∀ (x1 x2 : Int) (μ' : qm_M), ¬ jx_isW n t b m qb_tx_1012 → ¬ jx_isM n t b 91 → jm_at μ0 n t b m D c0 c1 c2 μ' → jm_stk o stk μ' → qm_W (qb_T L) (d + 5) 2427 59 [qm_P 13, qm_I x1, qm_I x2, none, none] [] μ' (fun v μ' => ∃ r, v = some (.inl r) ∧ Q r μ') := fun x1 x2 μ' y1 y2 ha hs => by
    have ex1 : jx_isW n t b m qb_tx_1009 → ¬ jx_isW n t b m qb_tx_1011 := fun z1 z2 => by
      have e1 := z1.2.1
      have e2 := z2.2.1
      have l1 : qb_tx_1009.length = 2 := rfl
      have l2 : qb_tx_1011.length = 5 := rfl
      omega
    have ex2 : jx_isW n t b m qb_tx_1010 → ¬ jx_isW n t b m qb_tx_1011 := fun z1 z2 => by
      have e1 := z1.2.1
      have e2 := z2.2.1
      have l1 : qb_tx_1010.length = 4 := rfl
      have l2 : qb_tx_1011.length = 5 := rfl
      omega
    refine b2427_59 μ' _ _ _ (js_2409a (a := 55) (l := qb_tx_1009) (by decide) rfl rfl hk ha (fun z1 μ2 f2 ha2 => ⟨by decide, fun z => absurd z (by decide), fun _ => ?_⟩) (fun z1 μ2 f2 ha2 a2 => ⟨by decide, fun _ => ?_, fun z => absurd rfl z⟩))
    · refine g104 x1 x2 0 μ2 y1 y2 ha2 (jl_stkf hs f2 rfl rfl) (Or.inl rfl) (fun q => ?_) (fun q => ?_)
      · unfold jx_ltq; rw [jx_ifn (ex1 z1), jx_ifp (Or.inl z1), jx_ifp q, jx_ifp z1]
      · unfold jx_ltq; rw [jx_ifn (ex1 z1), jx_ifp (Or.inl z1), jx_ifn q, jx_ifp z1]
    · have hs2 := jl_stkf hs f2 rfl rfl
      refine js_2409a (a := 56) (l := qb_tx_1010) (by decide) rfl rfl hk ha2 (fun z2 μ3 f3 ha3 => ⟨by decide, fun z => absurd z (by decide), fun _ => ?_⟩) (fun z2 μ3 f3 ha3 a3 => ⟨by decide, fun _ => ?_, fun z => absurd rfl z⟩)
      · refine g104 x1 x2 1 μ3 y1 y2 ha3 (jl_stkf hs2 f3 rfl rfl) (Or.inr rfl) (fun q => ?_) (fun q => ?_)
        · unfold jx_ltq; rw [jx_ifn (ex2 z2), jx_ifp (Or.inr z2), jx_ifp q, jx_ifn z1]
        · unfold jx_ltq; rw [jx_ifn (ex2 z2), jx_ifp (Or.inr z2), jx_ifn q, jx_ifn z1]
      · have hs3 := jl_stkf hs2 f3 rfl rfl
        refine b2427_90 μ3 _ _ _ _ ⟨by decide, fun _ => ?_, fun z => absurd rfl z⟩
        refine js_2410a (a := 57) (l := qb_tx_1011) hcc (by decide) rfl rfl hk ha3 (fun z3 μ4 f4 ha4 => ?_) (fun z3 μ4 hn4 => ?_)
        · refine b2427_104 μ4 _ _ _ _ ⟨by decide, fun _ => ?_, fun z => absurd rfl z⟩
          exact g116 x1 x2 2 _ μ4 y1 y2 ha4 (jl_stkf hs3 f4 rfl rfl) (by unfold jx_ltq; rw [jx_ifp z3])
        · refine b2427_104 μ4 _ _ _ _ ⟨by decide, fun _ => ?_, fun z => absurd rfl z⟩
          refine b2427_116 μ4 _ _ _ _ (js_2419b (q := 2) (by decide) hn4.2.2 hn4.2.1 (b125 _ _ _ _ _ μ4 hn4 (Hl0 y1 y2 _ ?_ μ4 hn4)))
          unfold jx_ltq; rw [jx_ifn z3, jx_ifn (fun z => by rcases z with z | z; exact z1 z; exact z2 z)]
  -- what stands here
  have main : ∀ (x1 : Int) (μ1 : qm_M), qm_r32 x1 → (x1 = 91 ↔ jx_isM n t b 91) → jd_fm [2] [] μ μ1 → jm_at μ0 n t b m D c0 c1 c2 μ1 → μ1 13 2 = ((jx_st n t b : Nat) : Int) → qm_CI (qb_T L) (d + 4) 2409 [qm_P 13, qm_P 58] μ1 (fun r2 μ2 => (-2147483648 ≤ r2 ∧ r2 < 2147483648) ∧ ((r2 = 0 → ((-2147483648 ≤ μ2 13 5 ∧ μ2 13 5 < 2147483648) ∧ ((μ2 13 5 = 0 → ((-2147483648 ≤ x1 ∧ x1 < 2147483648) ∧ ((x1 = 91 → (qm_CV (qb_T L) (d + 4) 2412 [qm_P 13, qm_I 91] μ2 (fun μ3 => qm_CV (qb_T L) (d + 4) 2423 [qm_P 13, qm_I (-1), qm_I (μ1 13 2)] μ3 (fun μ4 => ∃ r, qm_I 0 = some (.inl r) ∧ Q r μ4)))) ∧ (¬ (x1 = 91) → (qm_W (qb_T L) (d + 4 + 1) 2427 59 [qm_P 13, qm_I x1, qm_I (μ1 13 2), none, none] [] μ2 (fun v μ' => ∃ r, v = some (.inl r) ∧ Q r μ')))))) ∧ (¬ (μ2 13 5 = 0) → (qm_W (qb_T L) (d + 4 + 1) 2427 59 [qm_P 13, qm_I x1, qm_I (μ1 13 2), none, none] [] μ2 (fun v μ' => ∃ r, v = some (.inl r) ∧ Q r μ')))))) ∧ (¬ (r2 = 0) → (qm_CV (qb_T L) (d + 4) 2423 [qm_P 13, qm_I (μ2 13 29), qm_I (μ1 13 2)] μ2 (fun μ3 => ∃ r, qm_I 0 = some (.inl r) ∧ Q r μ3))))) := fun x1 μ1 hx1 hx91 f1 ha1 a1 => by
    have hs1 := jl_stkf ho f1 rfl rfl
    rw [a1]
    refine js_2409a (a := 58) (l := qb_tx_1012) (by decide) rfl rfl hk ha1 (fun z1 μ2 f2 ha2 => ⟨by decide, fun z => absurd z (by decide), fun _ => ?_⟩) (fun z1 μ2 f2 ha2 a2 => ⟨by decide, fun _ => ?_, fun z => absurd rfl z⟩)
    · rw [ha2.2.2.2.2.2.1.1, hcD]
      exact js_2423 hcc ho7 ha2 (jl_stkf hs1 f2 rfl rfl) (fun y μ3 ha3 hs3 => ⟨_, rfl, Ht z1 y μ3 ha3 hs3⟩) (fun y μ3 hn3 => ⟨_, rfl, Hf (Or.inl z1) y μ3 hn3⟩)
    · have hs2 := jl_stkf hs1 f2 rfl rfl
      rw [ha2.2.1.2.2.2.2.1]
      refine ⟨by decide, fun _ => ⟨hx1, fun q => ?_, fun q => w59 _ _ μ2 z1 (fun z => q (hx91.mpr z)) ha2 hs2⟩, fun z => absurd rfl z⟩
      have hM := hx91.mp q
      refine js_2412a hcc (by decide) hk ha2 (fun z2 μ3 f3 ha3 => ?_) (fun z2 => absurd hM z2)
      exact js_2423 hcc ho7 ha3 (jl_stkf hs2 f3 rfl rfl) (fun y μ4 ha4 hs4 => ⟨_, rfl, Hb z1 hM y μ4 ha4 hs4⟩) (fun y μ4 hn4 => ⟨_, rfl, Hf (Or.inr ⟨z1, hM⟩) y μ4 hn4⟩)
  refine b2427_0 μ _ (js_2407a hk h (fun hlt μ1 f1 ha1 a1 => ?_) (fun hen μ1 f1 ha1 a1 => ?_))
  · have hbx := hk.2 _ hlt
    exact main _ μ1 ⟨by omega, by omega⟩ ⟨fun z => ⟨hlt, z⟩, fun z => z.2⟩ f1 ha1 a1
  · exact main _ μ1 (by decide) ⟨fun z => absurd z (by decide), fun z => by have := z.1; omega⟩ f1 ha1 a1
end
