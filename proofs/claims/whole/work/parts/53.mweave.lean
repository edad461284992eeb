/-! ===== turns, the reference's, whole ===== -/
section
variable {L d n : Nat} {t : Nat → Int} {b : Nat} {m : Bool} {D μ0 μ : qm_M} {Q : Int → qm_M → Prop} {c0 c1 c2 : Nat} {k p : Int}
theorem jl_nbt {F o : Nat} {s : Nat × Bool × qm_M} (hF : 0 < F) (h : ¬ jx_bgn n t s.1 s.2.1) : jx_turn n t F false o s = .inl (1, ((jx_st n t s.1 : Nat) : Int)) := by
  obtain ⟨F, rfl⟩ : ∃ e, F = e + 1 := ⟨F - 1, by omega⟩
  unfold jx_bgn at h
  unfold jx_turn jx_ltq
  rw [jx_ifn (fun z => h (Or.inr (Or.inr (Or.inr (Or.inl z))))), jx_ifn (fun z => h (Or.inr (Or.inr (Or.inr (Or.inr z))))), jx_ifn (fun z => h (Or.inr (Or.inr (Or.inl z)))), jx_ifn (fun z => by
    rcases z with z | z
    · exact h (Or.inl z)
    · exact h (Or.inr (Or.inl z)))]
theorem jl_nb93 (h : jx_isM n t b 93) : ¬ jx_bgn n t b m := fun z => by
  have hL : ∀ l, ¬ jx_isW n t b m l := fun l hl => by
    have h1 := hl.1.2.1
    rw [h.2] at h1
    unfold jx_le at h1; omega
  unfold jx_bgn at z
  rcases z with z | z | z | z | z
  · exact hL _ z
  · exact hL _ z
  · exact hL _ z
  · exact hL _ z
  · have := z.2; rw [h.2] at this; omega
theorem jm_turn (hk : jd_tok n t) {x1 x2 : Int} {V : qm_V → qm_M → Prop} (hcc : c0 ≤ 6 ∧ c1 ≤ 8 ∧ c2 ≤ 6) : ∀ F : Nat,
    (∀ (o b : Nat) (m : Bool) (D μ : qm_M) (stk : Nat → Int), o ≤ 7 → 2 * (n - b) + 1 ≤ F → jx_dok D c0 c1 c2 → jx_lv D → (∃ c : Nat, D 4 5 = (c : Int) ∧ c ≤ 60 + 128 * b) → jm_at μ0 n t b m D c0 c1 c2 μ → jm_stk o stk μ → (∀ s, jx_turn n t F false o (b, m, D) = .inr s → ∀ μ', jm_at μ0 n t s.1 s.2.1 s.2.2 c0 c1 c2 μ' → jm_stk o stk μ' → ∀ w1 w2 w3, qm_W (qb_T L) (d + 5) 2425 0 [qm_P 13, w1, w2, w3] [] μ' (fun v μ' => v = none ∧ qm_W (qb_T L) (d + 6) 2429 42 [qm_P 13, qm_I x1, qm_I x2, qm_I 1] [] μ' V)) → (∀ e, jx_turn n t F false o (b, m, D) = .inl e → ∀ μ', jm_no μ0 n t e μ' → qm_W (qb_T L) (d + 6) 2429 17 [qm_P 13, qm_I x1, qm_I x2, qm_I 1] [] μ' V) → qm_W (qb_T L) (d + 6) 2429 17 [qm_P 13, qm_I x1, qm_I x2, qm_I 1] [] μ V) ∧
    (∀ (o b : Nat) (m : Bool) (D μ : qm_M) (stk stk' : Nat → Int), o < 7 → 2 * (n - b) + 2 ≤ F → jx_dok D c0 c1 c2 → jx_lv D → (∃ c : Nat, D 4 5 = (c : Int) ∧ c ≤ 60 + 128 * b) → jm_at μ0 n t b m D c0 c1 c2 μ → jm_stk (o + 1) stk' μ → stk' o = -1 → (∀ i, i < o → stk' i = stk i) → (∀ s, jx_turn n t F true o (b, m, D) = .inr s → ∀ μ', jm_at μ0 n t s.1 s.2.1 s.2.2 c0 c1 c2 μ' → jm_stk o stk μ' → ∀ w1 w2 w3, qm_W (qb_T L) (d + 5) 2425 0 [qm_P 13, w1, w2, w3] [] μ' (fun v μ' => v = none ∧ qm_W (qb_T L) (d + 6) 2429 42 [qm_P 13, qm_I x1, qm_I x2, qm_I 1] [] μ' V)) → (∀ e, jx_turn n t F true o (b, m, D) = .inl e → ∀ μ', jm_no μ0 n t e μ' → qm_W (qb_T L) (d + 6) 2429 17 [qm_P 13, qm_I x1, qm_I x2, qm_I 1] [] μ' V) → ∀ w1 w2 w3, qm_W (qb_T L) (d + 5) 2425 0 [qm_P 13, w1, w2, w3] [] μ (fun v μ' => v = none ∧ qm_W (qb_T L) (d + 6) 2429 42 [qm_P 13, qm_I x1, qm_I x2, qm_I 1] [] μ' V))
  | 0 => ⟨fun o b m D μ stk _ h => by omega, fun o b m D μ stk stk' _ h => by omega⟩
  | F + 1 => by
    obtain ⟨ih1, ih2⟩ := jm_turn hk (x1 := x1) (x2 := x2) (V := V) hcc F
    have hn := hk.1
    refine ⟨fun o b m D μ stk ho hF hD hl hc h hs H1 H0 => ?_, fun o b m D μ stk stk' ho hF hD hl hc h hs hsn hse H1 H0 w1 w2 w3 => ?_⟩
    · obtain ⟨c, hc1, hc2⟩ := hc
      have h6 := h.2.2.1
      have hst := jx_stb (t := t) h6
      have hwn := (jx_wes t h6).2.1
      unfold jx_turn at H1 H0
      refine b2429_17 μ _ _ _ _ ?_
      rw [h.2.1.2.2.2.2.1]
      refine ⟨by decide, fun _ => ⟨by decide, fun z => absurd z (by decide), fun _ => ?_⟩, fun z => absurd rfl z⟩
      refine js_2427 (c := c) hD hc1 (by omega) ho hk h hs (fun z1 y μ1 ha1 hs1 => ⟨by decide, fun _ => ?_, fun z => absurd rfl z⟩) (fun z1 y μ1 hn1 => ⟨by decide, fun _ => H0 _ ?_ μ1 hn1, fun z => absurd rfl z⟩) (fun z1 z2 y μ1 ha1 hs1 => ⟨by decide, fun _ => ?_, fun z => absurd rfl z⟩) (fun z1 z2 s hq μ1 ha1 hs1 => ⟨by decide, fun z => absurd z (by decide), fun _ => H1 s ?_ μ1 ha1 hs1 _ _ _⟩) (fun z1 z2 e he μ1 hn1 => ⟨by decide, fun _ => H0 e ?_ μ1 hn1, fun z => absurd rfl z⟩)
      · rw [jx_ifp z1, jx_ifn (by omega)] at H1 H0
        have hlt := jx_wlt h6 z1.1.1 z1.1.2.1
        refine ih1 (o + 1) (jx_we n t b) true D μ1 _ (by omega) (by omega) hD hl ⟨c, hc1, by omega⟩ ha1 hs1 (fun s hq μ2 ha2 hs2 => ?_) (fun e he μ2 hn2 => H0 e (by rw [he]; rfl) μ2 hn2)
        obtain ⟨a1, a2, a3, a4, a5⟩ := (jl_turnqr F).1 (o + 1) (jx_we n t b, true, D) s (by omega) hwn (by show 0 ≤ D 4 3; rw [hD.2.2.1]; omega) (by show 0 ≤ D 4 5; omega) hl hq
        obtain ⟨c', f1, f2, f3⟩ := a5 c hc1
        have f4 : (s.1 - jx_we n t b) * 2 ^ (7 - (o + 1)) ≤ (s.1 - jx_we n t b) * 128 := Nat.mul_le_mul_left _ (jl_p7 _)
        have f5 : s.1 ≤ n := a2
        have f3' : c' ≤ c + (s.1 - jx_we n t b) * 2 ^ (7 - (o + 1)) := f3
        refine jl_pop (f := c) ha2 hs2 (by omega) (if_pos rfl) f1 (by omega) f2 fun μ3 ha3 hs3 => ?_
        refine H1 (s.1, s.2.1, jx_dup s.2.2 c) ?_ μ3 ha3 ⟨hs3.1, fun i hi => (hs3.2 i hi).trans (if_neg (by omega))⟩
        rw [hq]
        show Sum.inr (s.1, s.2.1, jx_dup s.2.2 (D 4 5).toNat) = _
        rw [hc1, Int.toNat_natCast]
      · rcases z1 with z1 | ⟨z1, z2⟩
        · rw [jx_ifp z1, jx_ifp (by omega)]
        · rw [jx_ifn z1, jx_ifp z2, jx_ifp (by omega)]
      · rw [jx_ifn z1, jx_ifp z2, jx_ifn (by omega)] at H1 H0
        have hlt := z2.1
        refine ih1 (o + 1) (jx_st n t b + 1) false D μ1 _ (by omega) (by omega) hD hl ⟨c, hc1, by omega⟩ ha1 hs1 (fun s hq μ2 ha2 hs2 => ?_) (fun e he μ2 hn2 => H0 e (by rw [he]; rfl) μ2 hn2)
        have tk := (jl_turnqr F).1 (o + 1) (jx_st n t b + 1, false, D) s (by omega) hlt (by show 0 ≤ D 4 3; rw [hD.2.2.1]; omega) (by show 0 ≤ D 4 5; omega) hl hq
        obtain ⟨g1, g2, g3⟩ := jl_tokdok tk (jl_p7 _) hD ⟨c, hc1, by show c ≤ 60 + 128 * (jx_st n t b + 1); omega⟩
        have a1 : jx_st n t b + 1 < s.1 := tk.1
        have a2 : s.1 ≤ n := tk.2.1
        rw [hq] at H1 H0
        exact ih2 o s.1 s.2.1 s.2.2 μ2 stk _ (by omega) (by omega) g1 g2 g3 ha2 hs2 (if_pos rfl) (fun i hi => if_neg (by omega)) H1 H0
      · rw [jx_ifn z1, jx_ifn z2]; exact hq
      · rw [jx_ifn z1, jx_ifn z2]; exact he
    · obtain ⟨c, hc1, hc2⟩ := hc
      have h6 := h.2.2.1
      have hst := jx_stb (t := t) h6
      unfold jx_turn at H1 H0
      have e34 : μ 13 34 - 1 = (o : Int) := by rw [hs.1]; omega
      have e66 : μ 66 o = -1 := by rw [hs.2 o (by omega)]; exact hsn
      refine b2425_0 μ _ _ _ _ ?_
      rw [e34, Int.toNat_natCast, e66, hs.1]
      refine ⟨by omega, fun q => absurd q (by omega), fun _ => ⟨by omega, by decide, fun _ => ⟨rfl, ?_⟩, fun q => absurd rfl q⟩⟩
      refine b2429_42 μ _ _ _ _ ?_
      rw [hs.1]
      -- no bracket here: on
      have more : ∀ μ1 : qm_M, ¬ jx_isM n t b 93 → jd_fm [2] [] μ μ1 → jm_at μ0 n t b m D c0 c1 c2 μ1 → qm_W (qb_T L) (d + 6) 2429 81 [qm_P 13, qm_I x1, qm_I x2, qm_I 1] [] μ1 V := fun μ1 z f1 ha1 => by
        have hs1 := jl_stkf hs f1 rfl rfl
        refine b2429_81 μ1 _ _ _ _ ?_
        rw [hs1.1]
        refine ⟨by omega, fun q => absurd q (by omega), fun _ => b2429_93 μ1 _ _ _ _ _ ?_⟩
        by_cases q : jx_bgn n t b m
        · rw [jx_ifp q] at H1 H0
          refine ih1 (o + 1) b m D μ1 stk' (by omega) (by omega) hD hl ⟨c, hc1, hc2⟩ ha1 hs1 (fun s hq μ2 ha2 hs2 => ?_) (fun e he μ2 hn2 => H0 e (by rw [he]; rfl) μ2 hn2)
          have tk := (jl_turnqr F).1 (o + 1) (b, m, D) s (by omega) h6 (by show 0 ≤ D 4 3; rw [hD.2.2.1]; omega) (by show 0 ≤ D 4 5; omega) hl hq
          obtain ⟨g1, g2, g3⟩ := jl_tokdok tk (jl_p7 _) hD ⟨c, hc1, hc2⟩
          have a1 : b < s.1 := tk.1
          have a2 : s.1 ≤ n := tk.2.1
          rw [hq] at H1 H0
          exact ih2 o s.1 s.2.1 s.2.2 μ2 stk stk' ho (by omega) g1 g2 g3 ha2 hs2 hsn hse H1 H0
        · rw [jx_ifn q, jx_ifn z] at H0
          have e := jl_nbt (F := F) (o := o + 1) (s := (b, m, D)) (by omega) q
          refine ih1 (o + 1) b m D μ1 stk' (by omega) (by omega) hD hl ⟨c, hc1, hc2⟩ ha1 hs1 (fun s hq => by rw [e] at hq; cases hq) (fun e2 he μ2 hn2 => ?_)
          rw [e] at he
          have := Sum.inl.inj he
          subst this
          exact H0 _ rfl μ2 hn2
      refine ⟨by omega, fun q => absurd q (by omega), fun _ => js_2407a hk h (fun hlt μ1 f1 ha1 a1 => ?_) (fun hen μ1 f1 ha1 a1 => ⟨by decide, fun q => absurd q (by decide), fun _ => more μ1 (fun z => by have := z.1; omega) f1 ha1⟩)⟩
      have hbx := hk.2 _ hlt
      refine ⟨by omega, fun q => ?_, fun q => more μ1 (fun z => q z.2) f1 ha1⟩
      have hM : jx_isM n t b 93 := ⟨hlt, q⟩
      refine js_2412a hcc (by decide) hk ha1 (fun z2 μ3 f3 ha3 => ?_) (fun z2 => absurd hM z2)
      have hs3 := jl_stkf (jl_stkf hs f1 rfl rfl) f3 rfl rfl
      have e34' : μ3 13 34 - 1 = (o : Int) := by rw [hs3.1]; omega
      rw [e34']
      have ff : jd_fm [34] [] μ3 (qm_set μ3 13 34 (o : Int)) := jg_f (jg_refl _ _ _) rfl
      refine H1 (jx_st n t b + 1, false, D) ((jx_ifn (jl_nb93 hM)).trans (jx_ifp hM)) _ ?_ ⟨jl_ss _ _ _ _, fun i hi => ?_⟩ _ _ _
      · refine jl_matl ha3 (jx_smr D) (jg_sub ff rfl rfl) ?_
        have hl3 := ha3.2.2.2.2.2.1
        unfold jm_dl at *
        rw [ff.1 64 rfl rfl, ff.1 65 rfl rfl, ff.2 29 rfl]
        exact hl3
      · rw [ff.1 66 rfl rfl, hs3.2 i (by omega)]; exact hse i hi
theorem js_2429 (hk : jd_tok n t) (hI : jx_inv D c0 c1 c2) (h : jm_at μ0 n t b m D c0 c1 c2 μ) {V : qm_M → Prop} (H1 : ∀ s, jx_turn n t 4000 false 0 (b, m, D) = .inr s → ¬ 60 < s.2.2 4 5 → ∀ μ', jm_at μ0 n t s.1 s.2.1 s.2.2 c0 c1 c2 μ' → V μ') (Hf : ∀ s, jx_turn n t 4000 false 0 (b, m, D) = .inr s → 60 < s.2.2 4 5 → ∀ μ', jm_no μ0 n t (5, ((jx_st n t b : Nat) : Int)) μ' → V μ') (H0 : ∀ e, jx_turn n t 4000 false 0 (b, m, D) = .inl e → ∀ μ', jm_no μ0 n t e μ' → V μ') : qm_CV (qb_T L) (d + 6) 2429 [qm_P 13] μ V := by
  have hn := hk.1
  have h6 := h.2.2.1
  have hcc := hI.1.2.2.2.1
  obtain ⟨c, hc1, hc2⟩ := hI.2.2.1
  have main : ∀ (x1 : Int) (μ1 : qm_M), jd_fm [2] [] μ μ1 → jm_at μ0 n t b m D c0 c1 c2 μ1 → qm_W (qb_T L) (d + 6) 2429 17 [qm_P 13, qm_I x1, qm_I ((jx_st n t b : Nat) : Int), qm_I 1] [] (qm_set μ1 13 34 0) (fun v μ' => v = none ∧ V μ') := fun x1 μ1 f1 ha1 => by
    have ff : jd_fm [34] [] μ1 (qm_set μ1 13 34 0) := jg_f (jg_refl _ _ _) rfl
    have ha2 : jm_at μ0 n t b m D c0 c1 c2 (qm_set μ1 13 34 0) := by
      refine jl_matl ha1 (jx_smr D) (jg_sub ff rfl rfl) ?_
      have hl3 := ha1.2.2.2.2.2.1
      unfold jm_dl at *
      rw [ff.1 64 rfl rfl, ff.1 65 rfl rfl, ff.2 29 rfl]
      exact hl3
    refine (jm_turn (d := d) (L := L) hk (x1 := x1) (x2 := ((jx_st n t b : Nat) : Int)) hcc 4000).1 0 b m D _ (fun _ => 0) (by decide) (by omega) hI.1 hI.2.1 ⟨c, hc1, by omega⟩ ha2 ⟨jl_ss _ _ _ _, fun i hi => absurd hi (by omega)⟩ (fun s hq μ2 ha3 hs3 w1 w2 w3 => ?_) (fun e he μ2 hn2 => ?_)
    · refine b2425_0 μ2 _ _ _ _ ?_
      rw [hs3.1]
      refine ⟨by decide, fun _ => ⟨rfl, b2429_42 μ2 _ _ _ _ ?_⟩, fun z => absurd (by decide) z⟩
      rw [hs3.1]
      refine ⟨by decide, fun _ => b2429_81 μ2 _ _ _ _ ?_, fun z => absurd (by decide) z⟩
      rw [hs3.1]
      refine ⟨by decide, fun _ => b2429_93 μ2 _ _ _ _ _ (b2429_17 μ2 _ _ _ _ ?_), fun z => absurd (by decide) z⟩
      have e5 := ha3.2.1.2.2.2.2.1
      rw [e5]
      refine ⟨by decide, fun _ => ⟨by decide, fun _ => b2429_97 μ2 _ _ _ _ ?_, fun z => absurd rfl z⟩, fun z => absurd rfl z⟩
      rw [e5, ha3.2.2.2.2.2.1.1]
      have tk := jl_turn0 (s := (b, m, D)) hn hI h6 hq
      exact ⟨by decide, fun _ => ⟨tk.2.2.2.2, fun z => ⟨rfl, H1 s hq (by omega) μ2 ha3⟩, fun z => js_2404 ha3.2.1 (by decide) ha3.2.2.1 fun μ4 f4 hb4 => ⟨rfl, Hf s hq (by omega) μ4 (jl_matn hcc ha3 (jg_sub f4 rfl rfl) hb4)⟩⟩, fun z => absurd rfl z⟩
    · have e5 := hn2.2.1.2.2.1
      have e6 := hn2.2.1.2.2.2.1
      refine b2429_17 μ2 _ _ _ _ ?_
      rw [e5]
      refine ⟨by omega, fun z => absurd z (by omega), fun _ => b2429_97 μ2 _ _ _ _ ?_⟩
      rw [e5]
      exact ⟨by omega, fun z => absurd z (by omega), fun _ => ⟨rfl, H0 e he μ2 hn2⟩⟩
  refine b2429_0 μ _ (js_2407a hk h (fun hlt μ1 f1 ha1 a1 => ?_) (fun hen μ1 f1 ha1 a1 => ?_))
  · rw [a1]; exact main _ μ1 f1 ha1
  · rw [a1]; exact main _ μ1 f1 ha1
theorem js_2408a {a : Nat} {l : List Nat} (he : (a, l) ∈ jx_TW) (hs : qm_sh (qb_T L) a = some (.inr (3, l.length))) (ha : Nat.beq a 13 = false) (hk : jd_tok n t) (h : jm_at μ0 n t b m D c0 c1 c2 μ) (H1 : jx_isW n t b m l → ∀ μ', jd_fm [2] [] μ μ' → jm_at μ0 n t b m D c0 c1 c2 μ' → Q 1 μ') (H0 : ¬ jx_isW n t b m l → ∀ μ', jd_fm [2] [] μ μ' → jm_at μ0 n t b m D c0 c1 c2 μ' → Q 0 μ') : qm_CI (qb_T L) (d + 1) 2408 [qm_P 13, qm_P a] μ Q :=
  js_2408 hs (jx_lwT (a, l) he).1 (h.2.2.2.2.2.2.2 (a, l) he) ha hk h.2.2.1 h.2.1 (fun y μ' f hp _ => H1 y μ' f (jl_mats h (jg_sub f rfl rfl) hp h.2.2.1)) (fun y μ' f hp _ => H0 y μ' f (jl_mats h (jg_sub f rfl rfl) hp h.2.2.1))
theorem js_2428 (hk : jd_tok n t) (h : jm_at μ0 n t b m D c0 c1 c2 μ) (H1 : jx_bgn n t b m → ∀ μ', jm_at μ0 n t b m D c0 c1 c2 μ' → Q 1 μ') (H0 : ¬ jx_bgn n t b m → ∀ μ', jm_at μ0 n t b m D c0 c1 c2 μ' → Q 0 μ') : qm_CI (qb_T L) (d + 2) 2428 [qm_P 13] μ Q := by
  unfold jx_bgn at *
  have y62 : ∀ (x1 : Int) (μ' : qm_M), (jx_isW n t b m qb_tx_1009 ∨ jx_isW n t b m qb_tx_1010 ∨ jx_isW n t b m qb_tx_1011 ∨ jx_isW n t b m qb_tx_1012 ∨ jx_isM n t b 91) → jm_at μ0 n t b m D c0 c1 c2 μ' → qm_W (qb_T L) (d + 2) 2428 62 [qm_P 13, qm_I x1] [] μ' (fun v μ' => ∃ r, v = some (.inl r) ∧ Q r μ') := fun x1 μ' z ha => b2428_62 μ' _ _ ⟨_, rfl, H1 z μ' ha⟩
  have main : ∀ (x1 : Int) (μ1 : qm_M), qm_r32 x1 → (x1 = 91 ↔ jx_isM n t b 91) → jm_at μ0 n t b m D c0 c1 c2 μ1 → (-2147483648 ≤ μ1 13 5 ∧ μ1 13 5 < 2147483648) ∧ ((μ1 13 5 = 0 → ((-2147483648 ≤ x1 ∧ x1 < 2147483648) ∧ ((x1 = 91 → (qm_W (qb_T L) (d + 1 + 1) 2428 62 [qm_P 13, qm_I x1] [] μ1 (fun v μ' => ∃ r, v = some (.inl r) ∧ Q r μ'))) ∧ (¬ (x1 = 91) → (qm_CI (qb_T L) (d + 1) 2408 [qm_P 13, qm_P 58] μ1 (fun r2 μ2 => (-2147483648 ≤ r2 ∧ r2 < 2147483648) ∧ ((r2 = 0 → (qm_CI (qb_T L) (d + 1) 2408 [qm_P 13, qm_P 55] μ2 (fun r3 μ3 => (-2147483648 ≤ r3 ∧ r3 < 2147483648) ∧ ((r3 = 0 → (qm_CI (qb_T L) (d + 1) 2408 [qm_P 13, qm_P 56] μ3 (fun r4 μ4 => (-2147483648 ≤ r4 ∧ r4 < 2147483648) ∧ ((r4 = 0 → (qm_CI (qb_T L) (d + 1) 2408 [qm_P 13, qm_P 57] μ4 (fun r5 μ5 => (-2147483648 ≤ r5 ∧ r5 < 2147483648) ∧ ((r5 = 0 → (∃ r, qm_I 0 = some (.inl r) ∧ Q r μ5)) ∧ (¬ (r5 = 0) → (qm_W (qb_T L) (d + 1 + 1) 2428 62 [qm_P 13, qm_I x1] [] μ5 (fun v μ' => ∃ r, v = some (.inl r) ∧ Q r μ'))))))) ∧ (¬ (r4 = 0) → (qm_W (qb_T L) (d + 1 + 1) 2428 62 [qm_P 13, qm_I x1] [] μ4 (fun v μ' => ∃ r, v = some (.inl r) ∧ Q r μ'))))))) ∧ (¬ (r3 = 0) → (qm_W (qb_T L) (d + 1 + 1) 2428 62 [qm_P 13, qm_I x1] [] μ3 (fun v μ' => ∃ r, v = some (.inl r) ∧ Q r μ'))))))) ∧ (¬ (r2 = 0) → (qm_W (qb_T L) (d + 1 + 1) 2428 62 [qm_P 13, qm_I x1] [] μ2 (fun v μ' => ∃ r, v = some (.inl r) ∧ Q r μ')))))))))) ∧ (¬ (μ1 13 5 = 0) → (∃ r, qm_I 0 = some (.inl r) ∧ Q r μ1))) := fun x1 μ1 hx1 hx91 ha1 => by
    rw [ha1.2.1.2.2.2.2.1]
    refine ⟨by decide, fun _ => ⟨hx1, fun z => y62 _ μ1 (Or.inr (Or.inr (Or.inr (Or.inr (hx91.mp z))))) ha1, fun z5 => ?_⟩, fun z => absurd rfl z⟩
    refine js_2408a (a := 58) (l := qb_tx_1012) (by decide) rfl rfl hk ha1 (fun z1 μ2 f2 ha2 => ⟨by decide, fun z => absurd z (by decide), fun _ => y62 _ μ2 (Or.inr (Or.inr (Or.inr (Or.inl z1)))) ha2⟩) (fun z1 μ2 f2 ha2 => ⟨by decide, fun _ => ?_, fun z => absurd rfl z⟩)
    refine js_2408a (a := 55) (l := qb_tx_1009) (by decide) rfl rfl hk ha2 (fun z2 μ3 f3 ha3 => ⟨by decide, fun z => absurd z (by decide), fun _ => y62 _ μ3 (Or.inl z2) ha3⟩) (fun z2 μ3 f3 ha3 => ⟨by decide, fun _ => ?_, fun z => absurd rfl z⟩)
    refine js_2408a (a := 56) (l := qb_tx_1010) (by decide) rfl rfl hk ha3 (fun z3 μ4 f4 ha4 => ⟨by decide, fun z => absurd z (by decide), fun _ => y62 _ μ4 (Or.inr (Or.inl z3)) ha4⟩) (fun z3 μ4 f4 ha4 => ⟨by decide, fun _ => ?_, fun z => absurd rfl z⟩)
    refine js_2408a (a := 57) (l := qb_tx_1011) (by decide) rfl rfl hk ha4 (fun z4 μ5 f5 ha5 => ⟨by decide, fun z => absurd z (by decide), fun _ => y62 _ μ5 (Or.inr (Or.inr (Or.inl z4))) ha5⟩) (fun z4 μ5 f5 ha5 => ⟨by decide, fun _ => ⟨_, rfl, H0 (fun z => ?_) μ5 ha5⟩, fun z => absurd rfl z⟩)
    rcases z with z | z | z | z | z
    · exact z2 z
    · exact z3 z
    · exact z4 z
    · exact z1 z
    · exact z5 (hx91.mpr z)
  refine b2428_0 μ _ (js_2407a hk h (fun hlt μ1 f1 ha1 a1 => ?_) (fun hen μ1 f1 ha1 a1 => ?_))
  · have hbx := hk.2 _ hlt
    exact main _ μ1 ⟨by omega, by omega⟩ ⟨fun z => ⟨hlt, z⟩, fun z => z.2⟩ ha1
  · exact main _ μ1 (by decide) ⟨fun z => absurd z (by decide), fun z => by have := z.1; omega⟩ ha1
theorem jl_nof {e : Int × Int} {μ' : qm_M} (h : jm_no μ0 n t e μ) (hf : jd_fm [2] [] μ μ') (hb : jm_bad n t e.1 e.2 μ') : jm_no μ0 n t e μ' :=
  ⟨jl_frt h.1 hf rfl rfl rfl, hb, jl_rgf h.2.2 hf rfl rfl⟩
theorem js_2428b {e : Int × Int} (hk : jd_tok n t) (h : jm_no μ0 n t e μ) (H : ∀ μ', jm_no μ0 n t e μ' → Q 0 μ') : qm_CI (qb_T L) (d + 2) 2428 [qm_P 13] μ Q := by
  refine b2428_0 μ _ (js_2407b hk h.2.1 fun v μ1 hv f1 hb1 => ?_)
  have e5 := hb1.2.2.1
  have e6 := hb1.2.2.2.1
  rw [e5]
  exact ⟨by omega, fun z => absurd z (by omega), fun _ => ⟨_, rfl, H μ1 (jl_nof h f1 hb1)⟩⟩
theorem jm_wloop (hk : jd_tok n t) {x1 : Int} {V : qm_M → Prop} : ∀ (F b : Nat) (m : Bool) (D μ : qm_M), jx_inv D c0 c1 c2 → n - b < F → jm_at μ0 n t b m D c0 c1 c2 μ → (∀ s, jx_tns n t F (b, m, D) = .inr s → ∀ μ', jm_at μ0 n t s.1 s.2.1 s.2.2 c0 c1 c2 μ' → V μ') → (∀ e, jx_tns n t F (b, m, D) = .inl e → ∀ μ', jm_no μ0 n t e μ' → V μ') → qm_W (qb_T L) (d + 7) 2430 26 [qm_P 13, qm_I x1] [] μ (fun v μ' => v = none ∧ V μ')
  | 0, b, m, D, μ, _, hF, _, _, _ => absurd hF (by omega)
  | F + 1, b, m, D, μ, hI, hF, h, H1, H0 => by
    have hn := hk.1
    have h6 := h.2.2.1
    unfold jx_tns at H1 H0
    refine b2430_26 μ _ _ (js_2429 hk hI h (fun s hs hc μ2 ha2 => ?_) (fun s hs hc μ2 hn2 => ?_) (fun e he μ2 hn2 => ?_))
    · obtain ⟨a1, a2, a3, a4, a5⟩ := jl_turn0 (s := (b, m, D)) hn hI h6 hs
      have a1' : b < s.1 := a1
      rw [hs] at H1 H0
      have eqs : ∀ x : jx_R, jx_if (jx_bgn n t s.1 s.2.1) (jx_tns n t F s) (.inr s) = x → jx_bd (.inr s) (fun s1 : Nat × Bool × qm_M => if 60 < s1.2.2 4 5 then .inl (5, ((jx_st n t b : Nat) : Int)) else jx_if (jx_bgn n t s1.1 s1.2.1) (jx_tns n t F s1) (.inr s1)) = x := fun x hx => (if_neg hc).trans hx
      have H1' := fun s' hs' => H1 s' (eqs _ hs')
      have H0' := fun e' he' => H0 e' (eqs _ he')
      clear H1 H0 eqs
      refine js_2428 hk ha2 (fun z μ3 ha3 => ⟨by decide, fun q => absurd q (by decide), fun _ => ?_⟩) (fun z μ3 ha3 => ⟨by decide, fun _ => ⟨rfl, H1' s (jx_ifn z) μ3 ha3⟩, fun q => absurd rfl q⟩)
      rw [jx_ifp z] at H1' H0'
      exact jm_wloop hk F s.1 s.2.1 s.2.2 μ3 (a3 hc) (by omega) ha3 H1' H0'
    · refine js_2428b hk hn2 fun μ3 hn3 => ⟨by decide, fun _ => ⟨rfl, H0 _ ?_ μ3 hn3⟩, fun q => absurd rfl q⟩
      rw [hs]
      exact if_pos hc
    · refine js_2428b hk hn2 fun μ3 hn3 => ⟨by decide, fun _ => ⟨rfl, H0 _ ?_ μ3 hn3⟩, fun q => absurd rfl q⟩
      rw [he]; rfl
/-- one of the draft's numbers is written on both sides -/
theorem jl_matset {v : Int} {a k f : Nat} (hkf : (a = 5 ∧ k = 2 ∧ f = 31) ∨ (a = 4 ∧ k = 0 ∧ f = 32)) (h : jm_at μ0 n t b m D c0 c1 c2 μ) : jm_at μ0 n t b m (qm_set D a k v) c0 c1 c2 (qm_set μ 13 f v) := by
  obtain ⟨h1, h2, h3, h4, h5, h6, h7, h8⟩ := h
  have e : ∀ c, 20 < c → qm_set D a k v c = D c := fun c hc => jl_sn _ _ _ (by omega)
  have e45 : qm_set D a k v 4 5 = D 4 5 := by
    rcases hkf with ⟨rfl, rfl, _⟩ | ⟨rfl, rfl, _⟩
    · rw [jl_sn _ _ _ (by decide)]
    · rw [jl_sk _ _ _ (by decide)]
  have ff : jd_fm [31, 32] [] μ (qm_set μ 13 f v) := jg_f (jg_refl _ _ _) (by rcases hkf with ⟨_, _, rfl⟩ | ⟨_, _, rfl⟩ <;> rfl)
  refine ⟨jl_frt h1 ff rfl rfl rfl, jl_posf h2 ff rfl rfl rfl rfl rfl rfl, h3, ?_, ?_, ?_, ?_, jm_cstf h8 ff rfl⟩
  · unfold jm_dn at *
    rw [ff.1 59 rfl rfl, ff.1 60 rfl rfl, e 23 (by decide), e 24 (by decide), e 25 (by decide)]; exact h4
  · unfold jm_dc at *
    rw [ff.1 61 rfl rfl, ff.1 62 rfl rfl, e 26 (by decide), e 27 (by decide), e 28 (by decide)]; exact h5
  · unfold jm_dl at *
    rw [ff.1 64 rfl rfl, ff.1 65 rfl rfl, ff.2 29 rfl, e 29 (by decide), e 30 (by decide), e45]; exact h6
  · unfold jm_df at *
    rcases hkf with ⟨rfl, rfl, rfl⟩ | ⟨rfl, rfl, rfl⟩
    · rw [ff.1 63 rfl rfl, jl_ss, jl_ss, jl_sn (c := 5) (c' := 4) _ _ _ (by decide), jl_sk _ _ _ (by decide)]
      exact ⟨h7.1, rfl, h7.2.2⟩
    · rw [ff.1 63 rfl rfl, jl_ss, jl_ss, jl_sn (c := 4) (c' := 5) _ _ _ (by decide), jl_sk _ _ _ (by decide), jl_sk _ _ _ (by decide)]
      exact ⟨h7.1, h7.2.1, rfl⟩
theorem js_2430 {pl : Nat} (hk : jd_tok n t) (hI : jx_inv D c0 c1 c2) (h : jm_at μ0 n t b m D c0 c1 c2 μ) {V : qm_M → Prop} (H1 : ∀ s, D 5 2 = 0 → jx_tns n t 2000 (b, m, qm_set D 5 2 1) = .inr s → ∀ μ', jm_at μ0 n t s.1 s.2.1 s.2.2 c0 c1 c2 μ' → V μ') (H0 : ∀ e, D 5 2 = 0 → jx_tns n t 2000 (b, m, qm_set D 5 2 1) = .inl e → ∀ μ', jm_no μ0 n t e μ' → V μ') (Hf : ¬ D 5 2 = 0 → ∀ μ', jm_no μ0 n t (5, ((pl : Nat) : Int)) μ' → V μ') : qm_CV (qb_T L) (d + 7) 2430 [qm_P 13, qm_I ((pl : Nat) : Int)] μ V := by
  have hn := hk.1
  have h6 := h.2.2.1
  have hcc := hI.1.2.2.2.1
  have hw := hI.2.2.2.2.2.1
  refine b2430_0 μ _ _ ?_
  rw [h.2.2.2.2.2.2.1.2.1]
  refine ⟨by omega, fun q => b2430_13 μ _ _ ?_, fun q => js_2404 h.2.1 (by decide) h6 fun μ1 f1 hb1 => b2430_13 μ1 _ _ ?_⟩
  · rw [h.2.1.2.2.2.2.1]
    refine ⟨by decide, fun _ => ?_, fun z => absurd rfl z⟩
    exact jm_wloop hk 2000 b m _ _ (jl_inv5 hI) (by omega) (jl_matset (Or.inl ⟨rfl, rfl, rfl⟩) h) (fun s hs => H1 s q hs) (fun e he => H0 e q he)
  · rw [hb1.2.2.1]
    exact ⟨by decide, fun z => absurd z (by decide), fun _ => ⟨rfl, Hf q μ1 (jl_matn hcc h (jg_sub f1 rfl rfl) hb1)⟩⟩
end
