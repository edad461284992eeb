/-! ===== text, the class's, whole ===== -/
def jx_e0 (μ : qm_M) : qm_M := qm_set (jd_clr (qm_set (qm_set (qm_set (qm_set (qm_set (qm_set μ 4 0 0) 4 1 0) 4 2 0) 4 3 0) 4 4 40) 4 5 0) 28 6) 5 2 0
theorem jl_clro {μ : qm_M} {a n c : Nat} (h : c ≠ a) : jd_clr μ a n c = μ c := by funext k; unfold jd_clr; rw [if_neg (fun z => h z.1)]
theorem jl_clrr {μ : qm_M} {a n k : Nat} (h : k < n) : jd_clr μ a n a k = 0 := by unfold jd_clr; rw [if_pos ⟨rfl, h⟩]
theorem jl_e0f (μ : qm_M) : jx_e0 μ 4 0 = 0 ∧ jx_e0 μ 4 1 = 0 ∧ jx_e0 μ 4 2 = 0 ∧ jx_e0 μ 4 3 = 0 ∧ jx_e0 μ 4 4 = 40 ∧ jx_e0 μ 4 5 = 0 ∧ jx_e0 μ 5 2 = 0 := by
  unfold jx_e0
  rw [jl_ss, jl_sn (c := 5) (c' := 4) _ _ _ (by decide), jl_clro (by decide)]
  refine ⟨?_, ?_, ?_, ?_, ?_, ?_, rfl⟩
  · rw [jl_sk _ _ _ (by decide), jl_sk _ _ _ (by decide), jl_sk _ _ _ (by decide), jl_sk _ _ _ (by decide), jl_sk _ _ _ (by decide), jl_ss]
  · rw [jl_sk _ _ _ (by decide), jl_sk _ _ _ (by decide), jl_sk _ _ _ (by decide), jl_sk _ _ _ (by decide), jl_ss]
  · rw [jl_sk _ _ _ (by decide), jl_sk _ _ _ (by decide), jl_sk _ _ _ (by decide), jl_ss]
  · rw [jl_sk _ _ _ (by decide), jl_sk _ _ _ (by decide), jl_ss]
  · rw [jl_sk _ _ _ (by decide), jl_ss]
  · rw [jl_ss]
theorem jl_inv0 (μ : qm_M) : jx_inv (jx_e0 μ) 0 0 0 := by
  obtain ⟨a0, a1, a2, a3, a4, a5, a6⟩ := jl_e0f μ
  have e28 : ∀ p, p < 6 → jx_e0 μ 28 p = 0 := fun p hp => by unfold jx_e0; rw [jl_sn _ _ _ (by decide)]; exact jl_clrr hp
  refine ⟨⟨a1, a2, a3, by decide, fun i hi => absurd hi (by omega), fun i hi => absurd hi (by omega), fun i hi => absurd hi (by omega)⟩, fun j hj hj2 => ?_, ⟨0, a5, by decide⟩, by omega, by omega, Or.inl a6, fun i hi => absurd hi (by omega), fun i k hi => absurd hi (by omega), fun p hp => by rw [e28 p hp]; decide, fun p _ hp => e28 p hp⟩
  rw [a5] at hj2; omega
theorem jl_txr {n : Nat} {t : Nat → Int} (hn : n ≤ 1600) : ∀ (F : Nat) (s s' : Nat × Bool × qm_M) (c0 c1 c2 : Nat), jx_inv s.2.2 c0 c1 c2 → s.1 ≤ n → jx_txq n t F s = .inr s' → ∃ e0 e1 e2, jx_inv s'.2.2 e0 e1 e2
  | 0, s, s', _, _, _, _, _, h => by cases h
  | F + 1, s, s', c0, c1, c2, hI, hb, h => by
    unfold jx_txq at h
    split at h
    · have := (Sum.inr.inj h).symm
      subst this
      exact ⟨_, _, _, hI⟩
    · split at h
      · cases h
      · rename_i h70
        cases e : jx_stq n t s.1 s.2.1 s.2.2 with
        | inl z => rw [e] at h; cases h
        | inr s0 =>
          rw [e] at h
          obtain ⟨a1, a2, ⟨f0, f1, f2, a3⟩, a4⟩ := jl_stqr hn hI hb e
          have h2 : jx_bd (jx_semq n t s0) (jx_txq n t F) = .inr s' := h
          cases e2 : jx_semq n t s0 with
          | inl z => rw [e2] at h2; cases h2
          | inr s1 =>
            rw [e2] at h2
            obtain ⟨b1, b2, b3, b4⟩ := jl_semr a3 (by rw [a4]; omega) a2 e2
            exact jl_txr hn F s1 s' _ _ _ b3 b2 h2
section
variable {L d n : Nat} {t : Nat → Int} {μ : qm_M} {Q : Int → qm_M → Prop}
theorem js_1001 (hk : jd_tok n t) (hT : jc_tape n t μ) (H1 : ∀ s, jx_txq n t 72 (0, false, jx_e0 μ) = .inr s → ∀ μ', jc_at μ n t s.1 s.2.1 s.2.2 μ' → Q 1 μ') (H0 : ∀ e, jx_txq n t 72 (0, false, jx_e0 μ) = .inl e → ∀ μ', jc_no μ e μ' → Q 0 μ') : qm_CI (qb_T L) (d + 14) 1001 [qm_P 5] μ Q := by
  refine b1001_0 μ _ (b801_0 μ _ (js_404 (n := 6) rfl (by decide) ⟨rfl, ?_⟩))
  have fr : jd_fr jx_DC μ (jx_e0 μ) := fun c hc => by
    unfold jx_e0
    rw [jl_sn _ _ _ (fun z => by rw [z] at hc; exact absurd hc (by decide)), jl_clro (fun z => by rw [z] at hc; exact absurd hc (by decide))]
    have h4 : c ≠ 4 := fun z => by rw [z] at hc; exact absurd hc (by decide)
    rw [jl_sn _ _ _ h4, jl_sn _ _ _ h4, jl_sn _ _ _ h4, jl_sn _ _ _ h4, jl_sn _ _ _ h4, jl_sn _ _ _ h4]
  show qm_CV (qb_T L) (d + 13) 2001 [qm_P 2] (jx_e0 μ) _
  refine js_2001 (jl_tapc hT (fr 1 rfl) (fr 14 rfl)) hk fun μ1 f1 h6 h7 hx => ?_
  have hat : jc_at μ n t 0 false (jx_e0 μ) μ1 := by
    refine ⟨fun c hc => ?_, hx, h6, h7, fun a ha => ?_, Nat.zero_le _, jl_tapc hT ((f1 1 rfl).trans (fr 1 rfl)) ((f1 14 rfl).trans (fr 14 rfl))⟩
    · rw [f1 c (jl_has (l := [2]) (l' := jx_DF) rfl hc)]; exact fr c (jl_has (l := jx_DC) (l' := jx_DF) rfl hc)
    · refine f1 a ?_
      cases q : [2].contains a with
      | false => rfl
      | true =>
        have : a = 2 := by simpa using q
        rw [this] at ha; exact absurd ha (by decide)
  exact jl_rloop (j := 0) hk 72 0 false (jx_e0 μ) μ1 none 0 0 0 (jl_inv0 μ) (by decide) (jl_e0f μ).1 hat H1 H0
def jx_T (D : qm_M) : Nat → Nat → Int := fun r => jd_u (D 28) (D 29 r) (D 30 r)
def jx_th (D : qm_M) : Nat → Nat → Int := fun c k => D 27 (4 * c + k)
theorem jl_ok0 {D : qm_M} {c0 c1 c2 : Nat} (hI : jx_inv D c0 c1 c2) : jd_ok c1 0 (D 4 4) (D 26) (jx_th D) (jx_T D) := by
  obtain ⟨⟨d1, d2, d3, d4, d5, d6, d7⟩, i2, i3, i4, i5, i6, i7, i8, i9, i10⟩ := hI
  refine ⟨d4.2.1, by decide, i5, i7, fun c k hc hk => ?_, fun r c hr => absurd hr (by omega), fun r c hr hc => ?_⟩
  · have := i8 c k hc hk
    unfold jx_th; omega
  · have : r = 0 := by omega
    subst this
    show -_ ≤ (0 : Int) ∧ (0 : Int) ≤ _
    omega
theorem js_2203 (hk : jd_tok n t) (hT : jc_tape n t μ) (H1 : ∀ s c0 c1 c2, jx_txq n t 72 (0, false, jx_e0 μ) = .inr s → jx_inv s.2.2 c0 c1 c2 → ∀ nr sp μ', jd_wst c1 (s.2.2 4 4) (jx_T s.2.2) (s.2.2 4 5).toNat nr sp → jd_ok c1 nr (s.2.2 4 4) (s.2.2 26) (jx_th s.2.2) (jx_T s.2.2) → jd_fr [0, 1, 2, 3, 4, 5, 6, 7, 8, 9, 15, 16, 17, 18, 19, 20, 21, 22, 23, 24, 25, 26, 27, 28, 29, 30, 31, 32, 33, 34] μ μ' → jc_belt c1 nr (s.2.2 4 4) (s.2.2 26) (jx_th s.2.2) (jx_T s.2.2) μ' → jc_told s.2.2 μ' → μ' 1 1 = 0 → μ' 0 12 = sp → μ' 7 3 = 0 → μ' 8 0 = 0 → μ' 9 0 = 0 → μ' 2 6 = 0 → μ' 2 7 = -1 → Q (s.2.2 4 0) μ') (H0 : ∀ e, jx_txq n t 72 (0, false, jx_e0 μ) = .inl e → ∀ μ', jd_fr [1, 2, 4, 5, 23, 24, 25, 26, 27, 28, 29, 30] μ μ' → μ' 1 1 = 0 → μ' 2 6 = e.1 → μ' 2 7 = e.2 → Q (-1) μ') : qm_CI (qb_T L) (d + 15) 2203 [qm_P 0] μ Q := by
  have hn := hk.1
  refine b2203_0 μ _ (js_1001 hk hT (fun s hs μ1 ha1 => ⟨by decide, fun q => absurd q (by decide), fun _ => ?_⟩) (fun e he μ1 hn1 => ⟨by decide, fun _ => ⟨_, rfl, H0 e he _ (jf_set (jf_sub hn1.1 rfl) rfl) (jl_ss _ _ _ _) ?_ ?_⟩, fun q => absurd rfl q⟩))
  · obtain ⟨c0, c1, c2, hI⟩ := jl_txr hn 72 (0, false, jx_e0 μ) s 0 0 0 (jl_inv0 μ) (Nat.zero_le _) hs
    obtain ⟨⟨d1, d2, d3, d4, d5, d6, d7⟩, i2, ⟨c, i3, i3b⟩, i4, i5, i6, i7, i8, i9, i10⟩ := id hI
    obtain ⟨h1, h2, h3, h4, h5, h6, h7⟩ := id ha1
    have hd : jc_dr s.2.2 (qm_set μ1 1 1 0) := fun a ha => by
      rw [jl_sn _ _ _ (fun z => by rw [z] at ha; exact absurd ha (by decide))]; exact h5 a ha
    refine js_802 hd fun μ2 f2 ht => ?_
    obtain ⟨t0, t1, t2, t3, t4, t5, t6, t7, t8⟩ := id ht
    have ei : (s.2.2 4 5).toNat = c := by rw [i3, Int.toNat_natCast]
    refine js_201 (nc := c1) (lt := c) (lm := s.2.2 4 4) (np := (c2 : Int)) (sd := s.2.2 26) (th := jx_th s.2.2) (T := jx_T s.2.2) (pk := s.2.2 28) (h := s.2.2 29) (w := s.2.2 30) ((t0 2 (by decide)).trans d2) (t0 4 (by decide)) ((t0 5 (by decide)).trans i3) i3b (jl_ok0 hI) (fun c hc => t4 c (by omega)) (fun c k hc hk => t5 _ (by omega)) (by omega) (fun p hp => i9 p (by omega)) (fun p hp => t6 p (by omega)) (fun i hi => ⟨t7 i (by omega), ?_⟩) (fun i hi => ⟨t8 i (by omega), ?_⟩) (fun r => rfl) (fun nr sp μ3 hw hO f3 hB => ⟨_, rfl, ?_⟩)
    · have := i2 i (by omega) (by rw [i3]; omega)
      unfold qm_r32; omega
    · have := i2 i (by omega) (by rw [i3]; omega)
      rw [d3] at this; exact this.2.1
    · have ft : jd_fr [6, 31, 32, 33, 34] μ2 μ3 := f3
      have e30 : μ3 3 0 = s.2.2 4 0 := by rw [f3 3 rfl]; exact t0 0 (by decide)
      have fall : jd_fr [0, 1, 2, 3, 4, 5, 6, 7, 8, 9, 15, 16, 17, 18, 19, 20, 21, 22, 23, 24, 25, 26, 27, 28, 29, 30, 31, 32, 33, 34] μ μ3 := jf_trans (jf_set (jf_sub h1 rfl) rfl) (jf_trans (jf_sub f2 rfl) (jf_sub f3 rfl))
      have e2 : ∀ k, μ3 2 k = μ1 2 k := fun k => by rw [f3 2 rfl, f2 2 rfl, jl_sn _ _ _ (by decide)]
      rw [e30]
      have g : ∀ c, c ≠ 0 → c ≠ 7 → c ≠ 8 → c ≠ 9 → (qm_set (qm_set (qm_set (qm_set μ3 0 12 sp) 7 3 0) 8 0 0) 9 0 0) c = μ3 c := fun c a b e f => by
        rw [jl_sn _ _ _ f, jl_sn _ _ _ e, jl_sn _ _ _ b, jl_sn _ _ _ a]
      refine H1 s c0 c1 c2 hs hI nr sp _ (by rw [ei]; exact hw) hO (jf_set (jf_set (jf_set (jf_set fall rfl) rfl) rfl) rfl) ?_ ?_ ?_ ?_ ?_ ?_ ?_ ?_ ?_
      · unfold jc_belt at *
        rw [g 6 (by decide) (by decide) (by decide) (by decide), g 31 (by decide) (by decide) (by decide) (by decide), g 32 (by decide) (by decide) (by decide) (by decide), g 33 (by decide) (by decide) (by decide) (by decide), g 34 (by decide) (by decide) (by decide) (by decide)]
        exact hB
      · unfold jc_told at *
        rw [g 3 (by decide) (by decide) (by decide) (by decide), g 15 (by decide) (by decide) (by decide) (by decide), g 16 (by decide) (by decide) (by decide) (by decide), g 17 (by decide) (by decide) (by decide) (by decide), g 18 (by decide) (by decide) (by decide) (by decide), g 19 (by decide) (by decide) (by decide) (by decide), g 20 (by decide) (by decide) (by decide) (by decide), g 21 (by decide) (by decide) (by decide) (by decide), g 22 (by decide) (by decide) (by decide) (by decide)]
        rw [f3 3 rfl, f3 15 rfl, f3 16 rfl, f3 17 rfl, f3 18 rfl, f3 19 rfl, f3 20 rfl, f3 21 rfl, f3 22 rfl]
        exact ht
      · rw [g 1 (by decide) (by decide) (by decide) (by decide), f3 1 rfl, f2 1 rfl, jl_ss]
      · rw [jl_sn _ _ _ (by decide), jl_sn _ _ _ (by decide), jl_sn _ _ _ (by decide), jl_ss]
      · rw [jl_sn _ _ _ (by decide), jl_sn _ _ _ (by decide), jl_ss]
      · rw [jl_sn _ _ _ (by decide), jl_ss]
      · rw [jl_ss]
      · rw [g 2 (by decide) (by decide) (by decide) (by decide), e2]; exact h3
      · rw [g 2 (by decide) (by decide) (by decide) (by decide), e2]; exact h4
  · rw [jl_sn _ _ _ (by decide)]; exact hn1.2.1
  · rw [jl_sn _ _ _ (by decide)]; exact hn1.2.2
end
