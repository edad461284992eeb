/-! ===== a loom's text, the reference's: names ===== -/
def jx_MF : List Nat := [2, 4, 5, 6, 21, 29, 31, 32, 34]
def jx_MC : List Nat := [59, 60, 61, 62, 63, 64, 65, 66]
def jm_dn (D : qm_M) (c0 c1 c2 : Nat) (μ : qm_M) : Prop := (μ 59 0 = (c0 : Int) ∧ μ 59 1 = (c1 : Int) ∧ μ 59 2 = (c2 : Int)) ∧ (∀ i, i < c0 → jx_nm (D 23 i) (μ 60 (8 * 0 + i))) ∧ (∀ i, i < c1 → jx_nm (D 24 i) (μ 60 (8 * 1 + i))) ∧ ∀ i, i < c2 → jx_nm (D 25 i) (μ 60 (8 * 2 + i))
def jm_dc (D : qm_M) (c1 c2 : Nat) (μ : qm_M) : Prop := (∀ i, i < c1 → μ 61 (5 * i) = D 26 i ∧ ∀ k, k < 4 → μ 61 (5 * i + 1 + k) = D 27 (4 * i + k)) ∧ ∀ i, i < c2 → μ 62 i = D 28 i
def jm_dl (D : qm_M) (μ : qm_M) : Prop := μ 13 29 = D 4 5 ∧ ∀ j : Nat, j < 60 → (j : Int) < D 4 5 → μ 64 j = D 29 j ∧ μ 65 j = D 30 j
def jm_df (D : qm_M) (μ : qm_M) : Prop := μ 63 0 = D 4 4 ∧ μ 13 31 = D 5 2 ∧ μ 13 32 = D 4 0
/-- what is told stays -/
def jm_up (μ0 μ : qm_M) : Prop := (∀ k, 3 ≤ k → μ 59 k = μ0 59 k) ∧ (∀ k, 24 ≤ k → μ 60 k = μ0 60 k) ∧ (∀ k, 40 ≤ k → μ 61 k = μ0 61 k) ∧ (∀ k, 6 ≤ k → μ 62 k = μ0 62 k) ∧ ∀ k, 1 ≤ k → μ 63 k = μ0 63 k
def jm_fr (μ0 μ : qm_M) : Prop := jd_fm jx_MF jx_MC μ0 μ ∧ jm_up μ0 μ
theorem jl_frt {fs l : List Nat} {μ0 μ μ' : qm_M} (h : jm_fr μ0 μ) (hf : jd_fm fs l μ μ') (h1 : fs.all (fun x => jx_MF.contains x) = true) (h2 : l.all (fun x => jx_MC.contains x) = true) (h3 : (l.contains 59 || l.contains 60 || l.contains 61 || l.contains 62 || l.contains 63) = false) : jm_fr μ0 μ' := by
  rw [Bool.or_eq_false_iff, Bool.or_eq_false_iff, Bool.or_eq_false_iff, Bool.or_eq_false_iff] at h3
  obtain ⟨⟨⟨⟨a, b⟩, c⟩, d⟩, e⟩ := h3
  refine ⟨jg_trans h.1 (jg_sub hf h1 h2), ?_⟩
  unfold jm_up
  rw [hf.1 59 rfl a, hf.1 60 rfl b, hf.1 61 rfl c, hf.1 62 rfl d, hf.1 63 rfl e]
  exact h.2
theorem jl_fru {fs l : List Nat} {μ0 μ μ' : qm_M} (h : jm_fr μ0 μ) (hf : jd_fm fs l μ μ') (h1 : fs.all (fun x => jx_MF.contains x) = true) (h2 : l.all (fun x => jx_MC.contains x) = true) (h3 : jm_up μ μ') : jm_fr μ0 μ' :=
  ⟨jg_trans h.1 (jg_sub hf h1 h2), fun k hk => (h3.1 k hk).trans (h.2.1 k hk), fun k hk => (h3.2.1 k hk).trans (h.2.2.1 k hk), fun k hk => (h3.2.2.1 k hk).trans (h.2.2.2.1 k hk), fun k hk => (h3.2.2.2.1 k hk).trans (h.2.2.2.2.1 k hk), fun k hk => (h3.2.2.2.2 k hk).trans (h.2.2.2.2.2 k hk)⟩
theorem jl_upr (μ : qm_M) : jm_up μ μ := ⟨fun _ _ => rfl, fun _ _ => rfl, fun _ _ => rfl, fun _ _ => rfl, fun _ _ => rfl⟩
theorem jl_ups {μ0 μ : qm_M} {a k : Nat} {v : Int} (h : jm_up μ0 μ) (hk : (a = 59 → k < 3) ∧ (a = 60 → k < 24) ∧ (a = 61 → k < 40) ∧ (a = 62 → k < 6) ∧ (a = 63 → k < 1)) : jm_up μ0 (qm_set μ a k v) := by
  have g : ∀ c k', (c = a → k' ≠ k) → qm_set μ a k v c k' = μ c k' := fun c k' hc => by
    by_cases q : c = a
    · subst q; exact jl_sk _ _ _ (hc rfl)
    · rw [jl_sn _ _ _ q]
  obtain ⟨h1, h2, h3, h4, h5⟩ := h
  refine ⟨fun j hj => (g _ _ fun z => ?_).trans (h1 j hj), fun j hj => (g _ _ fun z => ?_).trans (h2 j hj), fun j hj => (g _ _ fun z => ?_).trans (h3 j hj), fun j hj => (g _ _ fun z => ?_).trans (h4 j hj), fun j hj => (g _ _ fun z => ?_).trans (h5 j hj)⟩
  · have := hk.1 z.symm; omega
  · have := hk.2.1 z.symm; omega
  · have := hk.2.2.1 z.symm; omega
  · have := hk.2.2.2.1 z.symm; omega
  · have := hk.2.2.2.2 z.symm; omega
def jm_at (μ0 : qm_M) (n : Nat) (t : Nat → Int) (b : Nat) (m : Bool) (D : qm_M) (c0 c1 c2 : Nat) (μ : qm_M) : Prop := jm_fr μ0 μ ∧ jm_pos n t b m μ ∧ b ≤ n ∧ jm_dn D c0 c1 c2 μ ∧ jm_dc D c1 c2 μ ∧ jm_dl D μ ∧ jm_df D μ ∧ jm_cst μ
def jm_rg (μ : qm_M) : Prop := ∀ q, q < 3 → ∃ c : Nat, c ≤ 8 ∧ μ 59 q = (c : Int) ∧ ∀ i, i < c → qm_r64 (μ 60 (8 * q + i))
def jm_no (μ0 : qm_M) (n : Nat) (t : Nat → Int) (e : Int × Int) (μ : qm_M) : Prop := jm_fr μ0 μ ∧ jm_bad n t e.1 e.2 μ ∧ jm_rg μ
section
variable {L d n : Nat} {t : Nat → Int} {b : Nat} {m : Bool} {D μ0 μ : qm_M} {Q : Int → qm_M → Prop} {V : qm_M → Prop} {c0 c1 c2 : Nat} {k p : Int}
theorem jl_nmr {x y : Int} (h : jx_nm x y) : qm_r64 y := by have := (jl_nmb h).2; unfold qm_r64; omega
theorem jl_dnrg (hc : c0 ≤ 6 ∧ c1 ≤ 8 ∧ c2 ≤ 6) (h : jm_dn D c0 c1 c2 μ) : jm_rg μ := fun q hq => by
  obtain ⟨⟨e0, e1, e2⟩, n0, n1, n2⟩ := h
  have : q = 0 ∨ q = 1 ∨ q = 2 := by omega
  rcases this with rfl | rfl | rfl
  · exact ⟨c0, by omega, e0, fun i hi => jl_nmr (n0 i hi)⟩
  · exact ⟨c1, by omega, e1, fun i hi => jl_nmr (n1 i hi)⟩
  · exact ⟨c2, by omega, e2, fun i hi => jl_nmr (n2 i hi)⟩
theorem jl_rgf {fs l : List Nat} {μ' : qm_M} (h : jm_rg μ) (hf : jd_fm fs l μ μ') (h1 : l.contains 59 = false) (h2 : l.contains 60 = false) : jm_rg μ' := by
  unfold jm_rg; rw [hf.1 59 rfl h1, hf.1 60 rfl h2]; exact h
theorem jl_mats {μ' : qm_M} {b' : Nat} {m' : Bool} (h : jm_at μ0 n t b m D c0 c1 c2 μ) (hf : jd_fm [2, 4, 21] [] μ μ') (hp : jm_pos n t b' m' μ') (hb : b' ≤ n) : jm_at μ0 n t b' m' D c0 c1 c2 μ' := by
  obtain ⟨h1, h2, h3, h4, h5, h6, h7, h8⟩ := h
  refine ⟨jl_frt h1 hf rfl rfl rfl, hp, hb, ?_, ?_, ?_, ?_, jm_cstf h8 hf rfl⟩
  · unfold jm_dn at *; rw [hf.1 59 rfl rfl, hf.1 60 rfl rfl]; exact h4
  · unfold jm_dc at *; rw [hf.1 61 rfl rfl, hf.1 62 rfl rfl]; exact h5
  · unfold jm_dl at *; rw [hf.1 64 rfl rfl, hf.1 65 rfl rfl, hf.2 29 rfl]; exact h6
  · unfold jm_df at *; rw [hf.1 63 rfl rfl, hf.2 31 rfl, hf.2 32 rfl]; exact h7
theorem jl_matn {μ' : qm_M} (hc : c0 ≤ 6 ∧ c1 ≤ 8 ∧ c2 ≤ 6) (h : jm_at μ0 n t b m D c0 c1 c2 μ) (hf : jd_fm [2, 4, 5, 6, 21] [] μ μ') (hp : jm_bad n t k p μ') : jm_no μ0 n t (k, p) μ' :=
  ⟨jl_frt h.1 hf rfl rfl rfl, hp, jl_rgf (jl_dnrg hc h.2.2.2.1) hf rfl rfl⟩
theorem jl_plr {N : Nat → Int} {x : Int} {c : Nat} (hc : c ≤ 100) : -1 ≤ jd_pl N x c ∧ jd_pl N x c < 100 := by
  rcases jl_plb (N := N) (x := x) c with e | ⟨k, k1, k2, _⟩
  · rw [e]; decide
  · rw [k2]; omega
theorem js_2419 {q : Nat} {N : Nat → Int} {c : Nat} (hq : q < 3) (hc : c ≤ 8) (h59 : μ 59 q = (c : Int)) (hN : ∀ i, i < c → jx_nm (N i) (μ 60 (8 * q + i))) (hcst : jm_cst μ) (hk : jd_tok n t) (hb : b ≤ n) (h : jm_pos n t b m μ) (H1 : ∀ r, jx_knq n t b m N c = .inr r → ∀ μ', jd_fm [2, 4, 21] [] μ μ' → jm_pos n t r.1 true μ' → μ' 13 21 = ((jx_st n t b : Nat) : Int) → Q r.2 μ') (H0 : ∀ e, jx_knq n t b m N c = .inl e → ∀ μ', jd_fm [2, 4, 5, 6, 21] [] μ μ' → jm_bad n t e.1 e.2 μ' → Q 0 μ') : qm_CI (qb_T L) (d + 4) 2419 [qm_P 13, qm_I ((q : Nat) : Int)] μ Q := by
  unfold jx_knq at H1 H0
  refine b2419_0 μ _ _ (js_2415 hcst hk hb h (fun a1 a2 a3 μ1 f1 hp1 e21 => ?_) (fun pf μ1 f1 hb1 hpf => ?_))
  · rw [jx_nmq1 a1 a2 a3] at H1 H0
    have hnm := jx_nmk (t := t) hb a1 a3
    have e59 : μ1 59 q = (c : Int) := by rw [f1.1 59 rfl rfl]; exact h59
    have e60 : μ1 60 = μ 60 := f1.1 60 rfl rfl
    have heq : jd_pl N (jd_n5 (fun i => t (jx_st n t b + i) - 96) (jx_we n t b - jx_st n t b)) c = jd_pl (fun i => μ1 60 (8 * q + i)) (jd_n27 (fun i => t (jx_st n t b + i) - 96) (jx_we n t b - jx_st n t b)) c := jl_ple c fun i hi => by rw [e60]; exact jl_nme (hN i hi) hnm
    refine js_2417 (by omega) hc e59 (fun i hi => by rw [e60]; exact jl_nmr (hN i hi)) (jl_nmr hnm) ?_
    rw [← heq]
    have hplr := jl_plr (N := N) (x := jd_n5 (fun i => t (jx_st n t b + i) - 96) (jx_we n t b - jx_st n t b)) (c := c) (by omega)
    have e5 := hp1.2.2.2.2.1
    rw [e5]
    refine ⟨by decide, fun _ => ⟨by omega, fun z => ?_, fun z => ?_⟩, fun z => absurd rfl z⟩
    · rw [e21]
      refine js_2404 hp1 (by decide) (jx_wes t hb).2.1 fun μ2 f2 hb2 => b2419_35 μ2 _ _ _ _ ?_
      rw [hb2.2.2.1]
      exact ⟨by decide, fun z2 => absurd z2 (by decide), fun _ => ⟨_, rfl, H0 _ (if_pos z) μ2 (jg_trans (jg_sub f1 rfl rfl) (jg_sub f2 rfl rfl)) hb2⟩⟩
    · refine b2419_35 μ1 _ _ _ _ ?_
      rw [e5]
      exact ⟨by decide, fun _ => ⟨_, rfl, H1 (jx_we n t b, _) (if_neg z) μ1 f1 hp1 e21⟩, fun z2 => absurd rfl z2⟩
  · have hnq : jx_nmq n t b m = .inl (1, pf) := by
      rcases hpf with ⟨z1, z2⟩ | ⟨z1, z2, z3, z4⟩
      · rw [jx_nmq3 z1, z2]
      · rw [jx_nmq2 z1 z2 z3, z4]
    rw [hnq] at H1 H0
    have e59 : μ1 59 q = (c : Int) := by rw [f1.1 59 rfl rfl]; exact h59
    have e60 : μ1 60 = μ 60 := f1.1 60 rfl rfl
    refine js_2417 (by omega) hc e59 (fun i hi => by rw [e60]; exact jl_nmr (hN i hi)) (by decide) ?_
    have e5 := hb1.2.2.1
    rw [e5]
    refine ⟨by decide, fun z => absurd z (by decide), fun _ => b2419_35 μ1 _ _ _ _ ?_⟩
    rw [e5]
    exact ⟨by decide, fun z2 => absurd z2 (by decide), fun _ => ⟨_, rfl, H0 _ rfl μ1 f1 hb1⟩⟩
theorem js_2419b {q : Nat} (hq : q < 3) (hr : jm_rg μ) (h : jm_bad n t k p μ) (H : Q 0 μ) : qm_CI (qb_T L) (d + 4) 2419 [qm_P 13, qm_I ((q : Nat) : Int)] μ Q := by
  obtain ⟨c, hc, h59, h60⟩ := hr q hq
  have e5 := h.2.2.1
  have hk := h.2.2.2.1
  refine b2419_0 μ _ _ (js_2415b h (js_2417 (by omega) hc h59 h60 (by decide) ?_))
  rw [e5]
  refine ⟨by omega, fun z => absurd z (by omega), fun _ => b2419_35 μ _ _ _ _ ?_⟩
  rw [e5]
  exact ⟨by omega, fun z2 => absurd z2 (by omega), fun _ => ⟨_, rfl, H⟩⟩
theorem js_2418 (hD : jx_dok D c0 c1 c2) (hn : jm_dn D c0 c1 c2 μ) (hcst : jm_cst μ) (hk : jd_tok n t) (hb : b ≤ n) (h : jm_pos n t b m μ) (H1 : ∀ r, jx_newq n t b m D = .inr r → ∀ y μ', jx_nm r.2 y → jd_fm [2, 4, 21] [] μ μ' → jm_pos n t r.1 true μ' → Q y μ') (H0 : ∀ e, jx_newq n t b m D = .inl e → ∀ v μ', qm_r64 v → jd_fm [2, 4, 5, 6, 21] [] μ μ' → jm_bad n t e.1 e.2 μ' → Q v μ') : qm_CL (qb_T L) (d + 4) 2418 [qm_P 13] μ Q := by
  obtain ⟨d1, d2, d3, d4, d5, d6, d7⟩ := hD
  obtain ⟨⟨e0, e1, e2⟩, n0, n1, n2⟩ := hn
  unfold jx_newq at H1 H0
  rw [d1, d2, d3, Int.toNat_natCast, Int.toNat_natCast, Int.toNat_natCast] at H1 H0
  have i0 : (0 : Int) + 1 = 1 := rfl
  have i1 : (1 : Int) + 1 = 2 := rfl
  have i2 : (2 : Int) + 1 = 3 := rfl
  have fin : ∀ (v : Int) (μ' : qm_M), Q v μ' → qm_W (qb_T L) (d + 4) 2418 7 [qm_P 13, qm_L v, none, qm_I 3] [] μ' (fun v μ' => ∃ r, v = some (.inr (.inl r)) ∧ Q r μ') := fun v μ' hQ => b2418_7 μ' _ _ _ ⟨by decide, fun _ => ⟨_, rfl, hQ⟩, fun z => absurd z (by decide)⟩
  have bad2 : ∀ (v k p : Int) (μ' : qm_M), jm_bad n t k p μ' → Q v μ' → qm_W (qb_T L) (d + 4) 2418 38 [qm_P 13, qm_L v, none, qm_I 2] [] μ' (fun v μ' => ∃ r, v = some (.inr (.inl r)) ∧ Q r μ') := fun v k p μ' hb hQ => by
    refine b2418_38 μ' _ _ _ ?_
    rw [i2]; exact fin v μ' hQ
  have bad1 : ∀ (v k p : Int) (μ' : qm_M), jm_bad n t k p μ' → Q v μ' → qm_W (qb_T L) (d + 4) 2418 38 [qm_P 13, qm_L v, none, qm_I 1] [] μ' (fun v μ' => ∃ r, v = some (.inr (.inl r)) ∧ Q r μ') := fun v k p μ' hb hQ => by
    refine b2418_38 μ' _ _ _ ?_
    rw [i1]
    refine b2418_7 μ' _ _ _ ⟨by decide, fun z => absurd z (by decide), fun _ => ?_⟩
    rw [hb.2.2.1]
    have := hb.2.2.2.1
    exact ⟨by omega, fun z => absurd z (by omega), fun _ => bad2 v k p μ' hb hQ⟩
  have bad0 : ∀ (v k p : Int) (μ' : qm_M), jm_bad n t k p μ' → Q v μ' → qm_W (qb_T L) (d + 4) 2418 38 [qm_P 13, qm_L v, none, qm_I 0] [] μ' (fun v μ' => ∃ r, v = some (.inr (.inl r)) ∧ Q r μ') := fun v k p μ' hb hQ => by
    refine b2418_38 μ' _ _ _ ?_
    rw [i0]
    refine b2418_7 μ' _ _ _ ⟨by decide, fun z => absurd z (by decide), fun _ => ?_⟩
    rw [hb.2.2.1]
    have := hb.2.2.2.1
    exact ⟨by omega, fun z => absurd z (by omega), fun _ => bad1 v k p μ' hb hQ⟩
  refine b2418_0 μ _ (js_2415 hcst hk hb h (fun a1 a2 a3 μ1 f1 hp1 e21 => ?_) (fun pf μ1 f1 hb1 hpf => ?_))
  · rw [jx_nmq1 a1 a2 a3] at H1 H0
    have hnm := jx_nmk (t := t) hb a1 a3
    have hwn := (jx_wes t hb).2.1
    have e5 := hp1.2.2.2.2.1
    have f59 : μ1 59 = μ 59 := f1.1 59 rfl rfl
    have f60 : μ1 60 = μ 60 := f1.1 60 rfl rfl
    have heq : ∀ (q : Nat) (N : Nat → Int) (c : Nat), (∀ i, i < c → jx_nm (N i) (μ 60 (8 * q + i))) → jd_pl (fun i => μ1 60 (8 * q + i)) (jd_n27 (fun i => t (jx_st n t b + i) - 96) (jx_we n t b - jx_st n t b)) c = jd_pl N (jd_n5 (fun i => t (jx_st n t b + i) - 96) (jx_we n t b - jx_st n t b)) c := fun q N c hN => (jl_ple c fun i hi => by rw [f60]; exact jl_nme (hN i hi) hnm).symm
    -- a kind asked
    have ask : ∀ (q : Nat) (N : Nat → Int) (c : Nat), q < 3 → c ≤ 8 → μ 59 q = (c : Int) → (∀ i, i < c → jx_nm (N i) (μ 60 (8 * q + i))) → (jd_pl N (jd_n5 (fun i => t (jx_st n t b + i) - 96) (jx_we n t b - jx_st n t b)) c = -1 → qm_W (qb_T L) (d + 4) 2418 38 [qm_P 13, qm_L (jd_n27 (fun i => t (jx_st n t b + i) - 96) (jx_we n t b - jx_st n t b)), none, qm_I ((q : Nat) : Int)] [] μ1 (fun v μ' => ∃ r, v = some (.inr (.inl r)) ∧ Q r μ')) → (¬ jd_pl N (jd_n5 (fun i => t (jx_st n t b + i) - 96) (jx_we n t b - jx_st n t b)) c = -1 → ∀ μ2, jd_fm [2, 4, 5, 6, 21] [] μ μ2 → jm_bad n t 3 ((jx_st n t b : Nat) : Int) μ2 → qm_W (qb_T L) (d + 4) 2418 38 [qm_P 13, qm_L (jd_n27 (fun i => t (jx_st n t b + i) - 96) (jx_we n t b - jx_st n t b)), none, qm_I ((q : Nat) : Int)] [] μ2 (fun v μ' => ∃ r, v = some (.inr (.inl r)) ∧ Q r μ')) → qm_W (qb_T L) (d + 4) 2418 7 [qm_P 13, qm_L (jd_n27 (fun i => t (jx_st n t b + i) - 96) (jx_we n t b - jx_st n t b)), none, qm_I ((q : Nat) : Int)] [] μ1 (fun v μ' => ∃ r, v = some (.inr (.inl r)) ∧ Q r μ') := fun q N c hq hc h59 hN G1 G0 => by
      refine b2418_7 μ1 _ _ _ ⟨by omega, fun z => absurd z (by omega), fun _ => ?_⟩
      rw [e5]
      refine ⟨by decide, fun _ => js_2417 (by omega) hc (by rw [f59]; exact h59) (fun i hi => by rw [f60]; exact jl_nmr (hN i hi)) (jl_nmr hnm) ?_, fun z => absurd rfl z⟩
      rw [heq q N c hN, e21]
      have hplr := jl_plr (N := N) (x := jd_n5 (fun i => t (jx_st n t b + i) - 96) (jx_we n t b - jx_st n t b)) (c := c) (by omega)
      exact ⟨by omega, fun z => G1 z, fun z => js_2404 hp1 (by decide) hwn fun μ2 f2 hb2 => G0 z μ2 (jg_trans (jg_sub f1 rfl rfl) (jg_sub f2 rfl rfl)) hb2⟩
    refine ask 0 (D 23) c0 (by decide) (by omega) e0 n0 (fun z0 => ?_) (fun z0 μ2 f2 hb2 => bad0 _ _ _ μ2 hb2 (H0 (3, _) (if_neg fun z => z0 z.1) _ μ2 (jl_nmr hnm) f2 hb2))
    refine b2418_38 μ1 _ _ _ ?_
    refine ask 1 (D 24) c1 (by decide) (by omega) e1 n1 (fun z1 => ?_) (fun z1 μ2 f2 hb2 => bad1 _ _ _ μ2 hb2 (H0 (3, _) (if_neg fun z => z1 z.2.1) _ μ2 (jl_nmr hnm) f2 hb2))
    refine b2418_38 μ1 _ _ _ ?_
    refine ask 2 (D 25) c2 (by decide) (by omega) e2 n2 (fun z2 => ?_) (fun z2 μ2 f2 hb2 => bad2 _ _ _ μ2 hb2 (H0 (3, _) (if_neg fun z => z2 z.2.2) _ μ2 (jl_nmr hnm) f2 hb2))
    refine b2418_38 μ1 _ _ _ ?_
    exact fin _ μ1 (H1 (jx_we n t b, _) (if_pos ⟨z0, z1, z2⟩) _ μ1 hnm f1 hp1)
  · have hnq : jx_nmq n t b m = .inl (1, pf) := by
      rcases hpf with ⟨z1, z2⟩ | ⟨z1, z2, z3, z4⟩
      · rw [jx_nmq3 z1, z2]
      · rw [jx_nmq2 z1 z2 z3, z4]
    rw [hnq] at H1 H0
    refine b2418_7 μ1 _ _ _ ⟨by decide, fun z => absurd z (by decide), fun _ => ?_⟩
    rw [hb1.2.2.1]
    exact ⟨by decide, fun z => absurd z (by decide), fun _ => bad0 _ _ _ μ1 hb1 (H0 (1, pf) rfl _ μ1 (by decide) f1 hb1)⟩
theorem js_2418b (h : jm_bad n t k p μ) (H : Q 0 μ) : qm_CL (qb_T L) (d + 4) 2418 [qm_P 13] μ Q := by
  have e5 := h.2.2.1
  have hk := h.2.2.2.1
  have step : ∀ x : Int, 0 ≤ x → x < 3 → qm_W (qb_T L) (d + 4) 2418 7 [qm_P 13, qm_L 0, none, qm_I (x + 1)] [] μ (fun v μ' => ∃ r, v = some (.inr (.inl r)) ∧ Q r μ') → qm_W (qb_T L) (d + 4) 2418 7 [qm_P 13, qm_L 0, none, qm_I x] [] μ (fun v μ' => ∃ r, v = some (.inr (.inl r)) ∧ Q r μ') := fun x h1 h2 hw => by
    refine b2418_7 μ _ _ _ ⟨by omega, fun z => absurd z (by omega), fun _ => ?_⟩
    rw [e5]
    exact ⟨by omega, fun z => absurd z (by omega), fun _ => b2418_38 μ _ _ _ hw⟩
  refine b2418_0 μ _ (js_2415b h (step 0 (by decide) (by decide) (step 1 (by decide) (by decide) (step 2 (by decide) (by decide) (b2418_7 μ _ _ _ ⟨by decide, fun _ => ⟨_, rfl, H⟩, fun z => absurd z (by decide)⟩)))))
end
