/-! ===== the reference's acts ===== -/
section
variable {L d nc ct : Nat} {lm : Int} {b : jd_B} {st : Nat → jd_B} {μ : qm_M} {Q : Int → qm_M → Prop} {V : qm_M → Prop} {np nco lt sp s0 s1 cti : Int} {pk u : Nat → Int}
theorem js_2462 (hM : jm_bb nc lm (st 0) μ) (hO : jd_okb nc lm (st 0)) (hA : jm_acts nc ct st μ) (hct : ct ≤ 20) (H : ∀ μ', jd_fm [39, 40] [68] μ μ' → (∀ b', jm_acts nc (jd_ct ct) (jd_cons b' st) μ') → V μ') : qm_CV (qb_T L) d 2462 [qm_P 13] μ V := by
  have h1 := hO.1
  have h2 := hO.2.1
  obtain ⟨c1, nw, c2, c3, c4⟩ := hA
  obtain ⟨e1, e2, e3, e4, e5, e6⟩ := hM
  obtain ⟨w, hw, hw2⟩ : ∃ w, w = (nw + 1) % 20 ∧ w < 20 := ⟨_, rfl, Nat.mod_lt _ (by decide)⟩
  refine b2462_0 μ _ ?_
  rw [c3, qa_rem (by omega) (by omega) (by decide) (by decide), show ((nw : Int) + 1) % 20 = (w : Int) by omega, show (521 * (w : Int)).toNat = 521 * w by omega, show (521 : Int) * (w : Int) = ((521 * w : Nat) : Int) by omega]
  refine ⟨by omega, ?_⟩
  have hkey : ∀ μ', jd_fm [39, 40] [68] μ μ' → μ' 13 40 = (w : Int) → (∀ q, (q < 521 * w ∨ 521 * w + 521 ≤ q) → μ' 68 q = μ 68 q) → μ' 68 (521 * w) = ((st 0).1 : Int) → (∀ k, k < 480 → μ' 68 (521 * w + 1 + k) = μ 67 k) → (∀ k, k < 40 → μ' 68 (521 * w + 481 + k) = μ 61 (40 + k)) → μ' 13 39 = ((jd_ct ct : Nat) : Int) → V μ' := by
    intro μ' hf g1 g2 g3 g4 g5 g6
    refine H μ' hf fun b' => ⟨g6, w, hw2, g1, fun i hi => ?_⟩
    cases i with
    | zero =>
      rw [show (w + 20 - 0) % 20 = w by omega]
      refine ⟨h2, g3, fun r c hr hc => ?_, fun c hc => ?_, fun c k hc hk => ?_⟩
      · have hr2 : r < (st 0).1 := hr
        rw [g4 _ (by omega)]; exact e6 r c hr hc
      · rw [g5 _ (by omega)]; exact e4 c hc
      · rw [g5 _ (by omega), show 40 + (5 * c + 1 + k) = 41 + 5 * c + k by omega]; exact e5 c k hc hk
    | succ i =>
      have hi3 : i < ct ∧ i < 19 := by unfold jd_ct at hi; split at hi <;> omega
      have hs := c4 i hi3.1
      obtain ⟨s, hs0⟩ : ∃ s, s = (nw + 20 - i) % 20 := ⟨_, rfl⟩
      rw [← hs0] at hs
      have hsw : (w + 20 - (i + 1)) % 20 = s := by omega
      have hne : s ≠ w := by omega
      rw [hsw]
      obtain ⟨t0, t1, t2, t3, t4⟩ := hs
      have hg : ∀ q, 521 * s ≤ q → q < 521 * s + 521 → μ' 68 q = μ 68 q := fun q ha hb => g2 q (by omega)
      exact ⟨t0, by rw [hg _ (by omega) (by omega)]; exact t1, fun r c hr hc => by rw [hg _ (by omega) (by have : r < (st (i + 1)).1 := hr; omega)]; exact t2 r c hr hc, fun c hc => by rw [hg _ (by omega) (by omega)]; exact t3 c hc, fun c k hc hk => by rw [hg _ (by omega) (by omega)]; exact t4 c k hc hk⟩
  have f0 : jd_fm [39, 40] [68] μ (qm_set (qm_set μ 13 40 (w : Int)) 68 (521 * w) (μ 13 37)) := jg_c (jg_f (jg_refl _ _ _) rfl) rfl rfl
  refine jl_loop (S := fun i => ∀ μ', jd_fm [39, 40] [68] μ μ' → μ' 13 40 = (w : Int) → μ' 13 39 = (ct : Int) → (∀ q, (q < 521 * w ∨ 521 * w + 521 ≤ q) → μ' 68 q = μ 68 q) → μ' 68 (521 * w) = ((st 0).1 : Int) → (∀ k, k < i → μ' 68 (521 * w + 1 + k) = μ 67 k) → qm_W (qb_T L) d 2462 34 [qm_P 13, qm_I ((521 * w : Nat) : Int), qm_I ((i : Nat) : Int)] [] μ' (fun v μ' => v = none ∧ V μ')) 480 (fun i hi ih μ' hf g1 g6 g2 g3 g4 => ?_) (fun μ' hf g1 g6 g2 g3 g4 => ?_) _ f0 ?_ ?_ (fun q hq => ?_) ?_ (fun k hk => absurd hk (by omega))
  · refine b2462_34 μ' _ _ _ ⟨by omega, fun z => absurd z (by omega), fun _ => ⟨by omega, by omega, ?_⟩⟩
    rw [show (((521 * w : Nat) : Int) + 1 + (i : Int)).toNat = 521 * w + 1 + i by omega, Int.toNat_natCast, hf.1 67 rfl rfl]
    refine ih _ (jg_c hf rfl rfl) (by rw [jl_sn _ _ _ (by decide)]; exact g1) (by rw [jl_sn _ _ _ (by decide)]; exact g6) (fun q hq => by rw [jl_sk _ _ _ (by omega)]; exact g2 q hq) (by rw [jl_sk _ _ _ (by omega)]; exact g3) fun k hk => ?_
    by_cases hki : k = i
    · rw [hki, jl_ss]
    · rw [jl_sk _ _ _ (by omega)]; exact g4 k (by omega)
  · refine b2462_34 μ' _ _ _ ⟨by decide, fun _ => ?_, fun z => absurd (by decide) z⟩
    refine jl_loop (S := fun i => ∀ μ', jd_fm [39, 40] [68] μ μ' → μ' 13 40 = (w : Int) → μ' 13 39 = (ct : Int) → (∀ q, (q < 521 * w ∨ 521 * w + 521 ≤ q) → μ' 68 q = μ 68 q) → μ' 68 (521 * w) = ((st 0).1 : Int) → (∀ k, k < 480 → μ' 68 (521 * w + 1 + k) = μ 67 k) → (∀ k, k < i → μ' 68 (521 * w + 481 + k) = μ 61 (40 + k)) → qm_W (qb_T L) d 2462 65 [qm_P 13, qm_I ((521 * w : Nat) : Int), qm_I ((i : Nat) : Int)] [] μ' (fun v μ' => v = none ∧ V μ')) 40 (fun i hi ih μ' hf g1 g6 g2 g3 g4 g5 => ?_) (fun μ' hf g1 g6 g2 g3 g4 g5 => ?_) μ' hf g1 g6 g2 g3 g4 (fun k hk => absurd hk (by omega))
    · refine b2462_65 μ' _ _ _ ⟨by omega, fun z => absurd z (by omega), fun _ => ⟨by omega, by omega, ?_⟩⟩
      rw [show (((521 * w : Nat) : Int) + 481 + (i : Int)).toNat = 521 * w + 481 + i by omega, show (40 + (i : Int)).toNat = 40 + i by omega, hf.1 61 rfl rfl]
      refine ih _ (jg_c hf rfl rfl) (by rw [jl_sn _ _ _ (by decide)]; exact g1) (by rw [jl_sn _ _ _ (by decide)]; exact g6) (fun q hq => by rw [jl_sk _ _ _ (by omega)]; exact g2 q hq) (by rw [jl_sk _ _ _ (by omega)]; exact g3) (fun k hk => by rw [jl_sk _ _ _ (by omega)]; exact g4 k hk) fun k hk => ?_
      by_cases hki : k = i
      · rw [hki, jl_ss]
      · rw [jl_sk _ _ _ (by omega)]; exact g5 k (by omega)
    · refine b2462_65 μ' _ _ _ ?_
      rw [g6]
      refine ⟨by decide, fun _ => ⟨by omega, fun z => ⟨rfl, hkey _ hf g1 g2 g3 g4 g5 ?_⟩, fun z => ⟨rfl, hkey _ (jg_f hf rfl) (by rw [jl_sk _ _ _ (by decide)]; exact g1) (by rw [jl_sn _ _ _ (by decide)]; exact g2) (by rw [jl_sn _ _ _ (by decide)]; exact g3) (by rw [jl_sn _ _ _ (by decide)]; exact g4) (by rw [jl_sn _ _ _ (by decide)]; exact g5) ?_⟩⟩, fun z => absurd (by decide) z⟩
      · rw [g6]; unfold jd_ct; rw [if_neg (by omega)]; omega
      · rw [jl_ss]; unfold jd_ct; rw [if_pos (by omega)]; rfl
  · rw [jl_sn _ _ _ (by decide), jl_ss]
  · rw [jl_sn _ _ _ (by decide), jl_sk _ _ _ (by decide)]; exact c1
  · rw [jl_sk _ _ _ (by omega), jl_sn _ _ _ (by decide)]
  · rw [jl_ss]; exact e2
theorem js_2463 (hM : jm_bb nc lm (st 0) μ) (hO : jd_okb nc lm (st 0)) (hA : jm_acts nc ct st μ) (hct : ct ≤ 20) (H1 : 0 < ct → ∀ μ', jd_fm [37, 39, 40] [61, 67] μ μ' → jm_bb nc lm (st 1) μ' → jm_acts nc (ct - 1) (fun i => st (i + 1)) μ' → (∀ k, k < 40 → μ' 61 k = μ 61 k) → Q 1 μ') (H0 : ct = 0 → Q 0 μ) : qm_CI (qb_T L) d 2463 [qm_P 13] μ Q := by
  have h1 := hO.1
  obtain ⟨c1, nw, c2, c3, c4⟩ := hA
  obtain ⟨e1, e2, e3, e4, e5, e6⟩ := hM
  refine b2463_0 μ _ ?_
  rw [c1, c3, show (521 * (nw : Int)).toNat = 521 * nw by omega, show (521 : Int) * (nw : Int) = ((521 * nw : Nat) : Int) by omega]
  refine ⟨by omega, fun z => ⟨_, rfl, H0 (by omega)⟩, fun z => ⟨by omega, ?_⟩⟩
  have hs := c4 0 (by omega)
  rw [show (nw + 20 - 0) % 20 = nw by omega] at hs
  obtain ⟨t0, t1, t2, t3, t4⟩ := hs
  have f0 : jd_fm [37, 39, 40] [61, 67] μ (qm_set μ 13 37 (μ 68 (521 * nw))) := jg_f (jg_refl _ _ _) rfl
  refine jl_loop (S := fun i => ∀ μ', jd_fm [37, 39, 40] [61, 67] μ μ' → μ' 13 37 = ((st 1).1 : Int) → μ' 13 39 = (ct : Int) → μ' 13 40 = (nw : Int) → μ' 61 = μ 61 → (∀ k, k < i → μ' 67 k = μ 68 (521 * nw + 1 + k)) → qm_W (qb_T L) d 2463 30 [qm_P 13, qm_I ((521 * nw : Nat) : Int), qm_I ((i : Nat) : Int)] [] μ' (fun v μ' => ∃ r, v = some (.inl r) ∧ Q r μ')) 480 (fun i hi ih μ' hf g1 g2 g3 g4 g5 => ?_) (fun μ' hf g1 g2 g3 g4 g5 => ?_) _ f0 (by rw [jl_ss]; exact t1) (by rw [jl_sk _ _ _ (by decide)]; exact c1) (by rw [jl_sk _ _ _ (by decide)]; exact c3) (jl_sn _ _ _ (by decide)) (fun k hk => absurd hk (by omega))
  · refine b2463_30 μ' _ _ _ ⟨by omega, fun z => absurd z (by omega), fun _ => ⟨by omega, by omega, ?_⟩⟩
    rw [show (((521 * nw : Nat) : Int) + 1 + (i : Int)).toNat = 521 * nw + 1 + i by omega, Int.toNat_natCast, hf.1 68 rfl rfl]
    refine ih _ (jg_c hf rfl rfl) (by rw [jl_sn _ _ _ (by decide)]; exact g1) (by rw [jl_sn _ _ _ (by decide)]; exact g2) (by rw [jl_sn _ _ _ (by decide)]; exact g3) (by rw [jl_sn _ _ _ (by decide)]; exact g4) fun k hk => ?_
    by_cases hki : k = i
    · rw [hki, jl_ss]
    · rw [jl_sk _ _ _ (by omega)]; exact g5 k (by omega)
  · refine b2463_30 μ' _ _ _ ⟨by decide, fun _ => ?_, fun z => absurd (by decide) z⟩
    refine jl_loop (S := fun i => ∀ μ', jd_fm [37, 39, 40] [61, 67] μ μ' → μ' 13 37 = ((st 1).1 : Int) → μ' 13 39 = (ct : Int) → μ' 13 40 = (nw : Int) → (∀ k, k < 40 → μ' 61 k = μ 61 k) → (∀ k, k < i → μ' 61 (40 + k) = μ 68 (521 * nw + 481 + k)) → (∀ k, k < 480 → μ' 67 k = μ 68 (521 * nw + 1 + k)) → qm_W (qb_T L) d 2463 61 [qm_P 13, qm_I ((521 * nw : Nat) : Int), qm_I ((i : Nat) : Int)] [] μ' (fun v μ' => ∃ r, v = some (.inl r) ∧ Q r μ')) 40 (fun i hi ih μ' hf g1 g2 g3 g4 g6 g5 => ?_) (fun μ' hf g1 g2 g3 g4 g6 g5 => ?_) μ' hf g1 g2 g3 (fun k _ => by rw [g4]) (fun k hk => absurd hk (by omega)) g5
    · refine b2463_61 μ' _ _ _ ⟨by omega, fun z => absurd z (by omega), fun _ => ⟨by omega, by omega, ?_⟩⟩
      rw [show (((521 * nw : Nat) : Int) + 481 + (i : Int)).toNat = 521 * nw + 481 + i by omega, show (40 + (i : Int)).toNat = 40 + i by omega, hf.1 68 rfl rfl]
      refine ih _ (jg_c hf rfl rfl) (by rw [jl_sn _ _ _ (by decide)]; exact g1) (by rw [jl_sn _ _ _ (by decide)]; exact g2) (by rw [jl_sn _ _ _ (by decide)]; exact g3) (fun k hk => by rw [jl_sk _ _ _ (by omega)]; exact g4 k hk) (fun k hk => ?_) (by rw [jl_sn _ _ _ (by decide)]; exact g5)
      by_cases hki : k = i
      · rw [hki, jl_ss]
      · rw [jl_sk _ _ _ (by omega)]; exact g6 k (by omega)
    · refine b2463_61 μ' _ _ _ ?_
      rw [g2, g3, qa_rem (by omega) (by omega) (by decide) (by decide)]
      refine ⟨by decide, fun _ => ⟨_, rfl, ?_⟩, fun z => absurd (by decide) z⟩
      have ff := jg_f (k := 39) (z := (ct : Int) - 1) (jg_f (k := 40) (z := ((nw : Int) + 20 - 1) % 20) hf rfl) rfl
      refine H1 (by omega) _ ff ⟨?_, ?_, ?_, ?_, ?_, ?_⟩ ⟨?_, (nw + 20 - 1) % 20, ?_, ?_, fun i hi => ?_⟩ (fun k hk => ?_)
      · rw [ff.1 59 rfl rfl]; exact e1
      · rw [jl_sk _ _ _ (by decide), jl_sk _ _ _ (by decide)]; exact g1
      · rw [ff.1 63 rfl rfl]; exact e3
      · intro c hc
        rw [jl_sn _ _ _ (by decide), jl_sn _ _ _ (by decide), g6 _ (by omega)]; exact t3 c hc
      · intro c k hc hk
        rw [jl_sn _ _ _ (by decide), jl_sn _ _ _ (by decide), show 41 + 5 * c + k = 40 + (5 * c + 1 + k) by omega, g6 _ (by omega)]; exact t4 c k hc hk
      · intro r c hr hc
        have hr2 : r < (st 1).1 := hr
        have t0' : (st 1).1 ≤ 60 := t0
        rw [jl_sn _ _ _ (by decide), jl_sn _ _ _ (by decide), g5 _ (by omega)]; exact t2 r c hr hc
      · rw [jl_ss]; omega
      · exact Nat.mod_lt _ (by decide)
      · rw [jl_sk _ _ _ (by decide), jl_ss]; omega
      · have hs := c4 (i + 1) (by omega)
        obtain ⟨s, hs0⟩ : ∃ s, s = (nw + 20 - (i + 1)) % 20 := ⟨_, rfl⟩
        rw [← hs0] at hs
        rw [show ((nw + 20 - 1) % 20 + 20 - i) % 20 = s by omega]
        unfold jm_snap at hs ⊢
        rw [ff.1 68 rfl rfl]; exact hs
      · rw [jl_sn _ _ _ (by decide), jl_sn _ _ _ (by decide)]; exact g4 k hk
theorem js_2465 (hM : jm_bb nc lm (st 0) μ) (hO : jd_okb nc lm (st 0)) (hA : jm_acts nc ct st μ) (hct : ct ≤ 20) (H1 : 0 < (st 0).1 → ∀ μ', jd_fm [37, 39, 40] [68] μ μ' → jm_bb nc lm (jd_bu (st 0)) μ' → jm_acts nc (jd_ct ct) (jd_cons (jd_bu (st 0)) st) μ' → Q 1 μ') (H0 : (st 0).1 = 0 → Q 0 μ) : qm_CI (qb_T L) (d + 1) 2465 [qm_P 13] μ Q := by
  have h2 := hO.2.1
  have e2 : μ 13 37 = ((st 0).1 : Int) := hM.2.1
  refine b2465_0 μ _ ?_
  rw [e2]
  refine ⟨by omega, fun z => ⟨_, rfl, H0 (by omega)⟩, fun z => js_2462 hM hO hA hct fun μ1 f1 ha => ⟨_, rfl, ?_⟩⟩
  rw [f1.2 37 rfl, e2]
  have ff := jg_f (k := 37) (z := ((st 0).1 : Int) - 1) (jg_sub (fs' := [37, 39, 40]) (l' := [68]) f1 rfl rfl) rfl
  refine H1 (by omega) _ ff ?_ ?_
  · obtain ⟨e1, e2, e3, e4, e5, e6⟩ := hM
    refine ⟨by rw [ff.1 59 rfl rfl]; exact e1, ?_, by rw [ff.1 63 rfl rfl]; exact e3, by rw [ff.1 61 rfl rfl]; exact e4, by rw [ff.1 61 rfl rfl]; exact e5, by rw [ff.1 67 rfl rfl]; exact fun r c hr hc => e6 r c (Nat.lt_of_lt_of_le hr (Nat.sub_le _ _)) hc⟩
    rw [jl_ss]; show ((st 0).1 : Int) - 1 = (((st 0).1 - 1 : Nat) : Int); omega
  · have ha' := ha (jd_bu (st 0))
    unfold jm_acts jm_snap at ha' ⊢
    rw [jl_sk _ _ _ (by decide), jl_sk _ _ _ (by decide), jl_sn _ _ _ (by decide)]; exact ha'
theorem js_2467 {a : Int} (hM : jm_bb nc lm (st 0) μ) (hO : jd_okb nc lm (st 0)) (hA : jm_acts nc ct st μ) (hct : ct ≤ 20) (ha : qm_r32 a) (H1 : ∀ c : Nat, a = (c : Int) → c < nc → ∀ μ', jd_fm [37, 39, 40] [61, 68] μ μ' → jm_bb nc lm (jd_bz (st 0) c) μ' → jm_acts nc (jd_ct ct) (jd_cons (jd_bz (st 0) c) st) μ' → (∀ k, k < 40 → μ' 61 k = μ 61 k) → Q 1 μ') (H0 : (a < 0 ∨ (nc : Int) ≤ a) → Q 0 μ) : qm_CI (qb_T L) (d + 2) 2467 [qm_P 13, qm_I a] μ Q := by
  have h1 := hO.1
  refine b2467_0 μ _ _ (js_2438 hM hO ha (fun c hac hc => ⟨by decide, fun q => absurd q (by decide), fun _ => ?_⟩) (fun h0 => ⟨by decide, fun _ => ⟨_, rfl, H0 h0⟩, fun q => absurd rfl q⟩))
  subst hac
  refine js_2462 hM hO hA hct fun μ1 f1 ha => ⟨by omega, by omega, _, rfl, ?_⟩
  obtain ⟨e1, e2, e3, e4, e5, e6⟩ := hM
  have hsd := hO.2.2.2.1 c hc
  have ex : qi_xor ((st 0).2.1 c) 1 = 1 - (st 0).2.1 c := by
    rcases hsd with z | z <;> rw [z] <;> decide
  rw [show (40 + 5 * (c : Int)).toNat = 40 + 5 * c by omega, f1.1 61 rfl rfl, e4 c hc, ex]
  have ff := jg_c (c := 61) (k := 40 + 5 * c) (z := 1 - (st 0).2.1 c) (jg_sub (fs' := [37, 39, 40]) (l' := [61, 68]) f1 rfl rfl) rfl rfl
  refine H1 c rfl hc _ ff ⟨by rw [ff.1 59 rfl rfl]; exact e1, by rw [jl_sn _ _ _ (by decide), f1.2 37 rfl]; exact e2, by rw [ff.1 63 rfl rfl]; exact e3, fun c' hc' => ?_, fun c' k hc' hk => ?_, by rw [ff.1 67 rfl rfl]; exact e6⟩ ?_ (fun k hk => by rw [jl_sk _ _ _ (by omega), f1.1 61 rfl rfl])
  · show qm_set μ1 61 (40 + 5 * c) (1 - (st 0).2.1 c) 61 (40 + 5 * c') = if c' = c then 1 - (st 0).2.1 c else (st 0).2.1 c'
    split
    · rename_i h; rw [h, jl_ss]
    · rename_i h; rw [jl_sk _ _ _ (by omega), f1.1 61 rfl rfl]; exact e4 c' hc'
  · rw [jl_sk _ _ _ (by omega), f1.1 61 rfl rfl]; exact e5 c' k hc' hk
  · have ha' := ha (jd_bz (st 0) c)
    unfold jm_acts jm_snap at ha' ⊢
    rw [jl_sn (c' := 13) _ _ _ (by decide), jl_sn (c' := 68) _ _ _ (by decide)]; exact ha'
theorem js_2466 {a : Int} (hM : jm_bb nc lm (st 0) μ) (hO : jd_okb nc lm (st 0)) (hA : jm_acts nc ct st μ) (hct : ct ≤ 20) (ha : qm_r32 a) (H1 : ∀ c : Nat, a = (c : Int) → c < nc → ∀ μ', jd_fm [37, 39, 40] [61, 68] μ μ' → jm_bb nc lm (jd_bs (st 0) c 1) μ' → jm_acts nc (jd_ct ct) (jd_cons (jd_bs (st 0) c 1) st) μ' → (∀ k, k < 40 → μ' 61 k = μ 61 k) → Q 1 μ') (H0 : (a < 0 ∨ (nc : Int) ≤ a) → Q 0 μ) : qm_CI (qb_T L) (d + 2) 2466 [qm_P 13, qm_I a] μ Q := by
  have h1 := hO.1
  refine b2466_0 μ _ _ (js_2438 hM hO ha (fun c hac hc => ⟨by decide, fun q => absurd q (by decide), fun _ => ?_⟩) (fun h0 => ⟨by decide, fun _ => ⟨_, rfl, H0 h0⟩, fun q => absurd rfl q⟩))
  subst hac
  refine js_2462 hM hO hA hct fun μ1 f1 ha => ⟨by omega, ?_⟩
  obtain ⟨e1, e2, e3, e4, e5, e6⟩ := hM
  have g5 : ∀ c k, c < nc → k < 4 → μ1 61 (41 + 5 * c + k) = (st 0).2.2.1 c k := by rw [f1.1 61 rfl rfl]; exact e5
  rw [show (41 + 5 * (c : Int)).toNat = 41 + 5 * c + 0 by omega, g5 c 0 hc (by omega), show 41 + 5 * (c : Int) = ((41 + 5 * c : Nat) : Int) by omega]
  have step : ∀ (i : Nat) (μ2 : qm_M), i < 3 → qm_W (qb_T L) (d + 2) 2466 31 [qm_P 13, qm_I (c : Int), qm_I ((41 + 5 * c : Nat) : Int), qm_I ((st 0).2.2.1 c 0), qm_I ((i + 1 : Nat) : Int)] [] (qm_set μ2 61 (41 + 5 * c + i) (μ2 61 (41 + 5 * c + i + 1))) (fun v μ' => ∃ r, v = some (.inl r) ∧ Q r μ') → qm_W (qb_T L) (d + 2) 2466 31 [qm_P 13, qm_I (c : Int), qm_I ((41 + 5 * c : Nat) : Int), qm_I ((st 0).2.2.1 c 0), qm_I ((i : Nat) : Int)] [] μ2 (fun v μ' => ∃ r, v = some (.inl r) ∧ Q r μ') := by
    intro i μ2 hi K
    refine b2466_31 μ2 _ _ _ _ _ ⟨by omega, fun z => absurd z (by omega), fun _ => ⟨by omega, by omega, ?_⟩⟩
    rw [show (((41 + 5 * c : Nat) : Int) + (i : Int) + 1).toNat = 41 + 5 * c + i + 1 by omega, show (((41 + 5 * c : Nat) : Int) + (i : Int)).toNat = 41 + 5 * c + i by omega]
    exact K
  refine step 0 μ1 (by omega) (step 1 _ (by omega) (step 2 _ (by omega) ?_))
  refine b2466_31 _ _ _ _ _ _ ⟨by decide, fun _ => ⟨by omega, _, rfl, ?_⟩, fun z => absurd (by decide) z⟩
  rw [show (((41 + 5 * c : Nat) : Int) + 3).toNat = 41 + 5 * c + 3 by omega]
  have ff1 := jg_sub (fs' := [37, 39, 40]) (l' := [61, 68]) f1 rfl rfl
  generalize hμ3 : qm_set (qm_set (qm_set μ1 61 (41 + 5 * c + 0) (μ1 61 (41 + 5 * c + 0 + 1))) 61 (41 + 5 * c + 1) (qm_set μ1 61 (41 + 5 * c + 0) (μ1 61 (41 + 5 * c + 0 + 1)) 61 (41 + 5 * c + 1 + 1))) 61 (41 + 5 * c + 2) (qm_set (qm_set μ1 61 (41 + 5 * c + 0) (μ1 61 (41 + 5 * c + 0 + 1))) 61 (41 + 5 * c + 1) (qm_set μ1 61 (41 + 5 * c + 0) (μ1 61 (41 + 5 * c + 0 + 1)) 61 (41 + 5 * c + 1 + 1)) 61 (41 + 5 * c + 2 + 1)) = μ3
  have ff3 : jd_fm [37, 39, 40] [61, 68] μ μ3 := by rw [← hμ3]; exact jg_c (jg_c (jg_c ff1 rfl rfl) rfl rfl) rfl rfl
  have q68 : μ3 68 = μ1 68 := by rw [← hμ3, jl_sn _ _ _ (by decide), jl_sn _ _ _ (by decide), jl_sn _ _ _ (by decide)]
  have q13 : μ3 13 = μ1 13 := by rw [← hμ3, jl_sn _ _ _ (by decide), jl_sn _ _ _ (by decide), jl_sn _ _ _ (by decide)]
  have q0 : μ3 61 (41 + 5 * c + 0) = (st 0).2.2.1 c 1 := by
    rw [← hμ3, jl_sk _ _ _ (by omega), jl_sk _ _ _ (by omega), jl_ss]; exact g5 c 1 hc (by omega)
  have q1 : μ3 61 (41 + 5 * c + 1) = (st 0).2.2.1 c 2 := by
    rw [← hμ3, jl_sk _ _ _ (by omega), jl_ss, jl_sk _ _ _ (by omega)]; exact g5 c 2 hc (by omega)
  have q2 : μ3 61 (41 + 5 * c + 2) = (st 0).2.2.1 c 3 := by
    rw [← hμ3, jl_ss, jl_sk _ _ _ (by omega), jl_sk _ _ _ (by omega)]; exact g5 c 3 hc (by omega)
  have qo : ∀ k, (k < 41 + 5 * c ∨ 41 + 5 * c + 3 ≤ k) → μ3 61 k = μ 61 k := by
    intro k hk
    rw [← hμ3, jl_sk _ _ _ (by omega), jl_sk _ _ _ (by omega), jl_sk _ _ _ (by omega), f1.1 61 rfl rfl]
  have ff := jg_c (c := 61) (k := 41 + 5 * c + 3) (z := (st 0).2.2.1 c 0) ff3 rfl rfl
  refine H1 c rfl hc _ ff ⟨by rw [ff.1 59 rfl rfl]; exact e1, by rw [jl_sn _ _ _ (by decide), q13, f1.2 37 rfl]; exact e2, by rw [ff.1 63 rfl rfl]; exact e3, fun c' hc' => ?_, fun c' k hc' hk => ?_, by rw [ff.1 67 rfl rfl]; exact e6⟩ ?_ (fun k hk => by rw [jl_sk _ _ _ (by omega), qo _ (by omega)])
  · rw [jl_sk _ _ _ (by omega), qo _ (by omega)]; exact e4 c' hc'
  · show qm_set μ3 61 (41 + 5 * c + 3) ((st 0).2.2.1 c 0) 61 (41 + 5 * c' + k) = if c' = c then (st 0).2.2.1 c ((k + 1) % 4) else (st 0).2.2.1 c' k
    split
    · rename_i h
      rw [h]
      have h4 : k = 0 ∨ k = 1 ∨ k = 2 ∨ k = 3 := by omega
      rcases h4 with z | z | z | z
      · rw [z, jl_sk _ _ _ (by omega)]; exact q0
      · rw [z, jl_sk _ _ _ (by omega)]; exact q1
      · rw [z, jl_sk _ _ _ (by omega)]; exact q2
      · rw [z, jl_ss]
    · rename_i h; rw [jl_sk _ _ _ (by omega), qo _ (by omega)]; exact e5 c' k hc' hk
  · have ha' := ha (jd_bs (st 0) c 1)
    unfold jm_acts jm_snap at ha' ⊢
    rw [jl_sn (c' := 13) _ _ _ (by decide), jl_sn (c' := 68) _ _ _ (by decide), q68, q13]; exact ha'
theorem js_2439 {p : Int} (h1 : μ 59 5 = np) (h2 : 0 ≤ np ∧ np ≤ 6) (hp : qm_r32 p) (H1 : 0 ≤ p ∧ p < np → Q 1 μ) (H0 : ¬ (0 ≤ p ∧ p < np) → Q 0 μ) : qm_CI (qb_T L) (d + 1) 2439 [qm_P 13, qm_I p] μ Q := by
  refine b2439_0 μ _ _ ⟨hp, b2437_0 μ _ ⟨_, rfl, ?_⟩⟩
  rw [h1]
  exact ⟨by omega, js_2401 hp (by omega) (fun k h2 h3 => ⟨by omega, _, rfl, H1 (by omega)⟩) (fun h => ⟨by omega, _, rfl, H0 (by omega)⟩)⟩
theorem js_2464 {how p : Int} (hM : jm_bb nc lm (st 0) μ) (hO : jd_okb nc lm (st 0)) (hA : jm_acts nc ct st μ) (hct : ct ≤ 20) (hN : jm_num nco np lt sp cti s0 s1 μ) (hK : jd_nok nco np lt sp cti s0 s1) (hP : jd_pok np pk) (hPm : ∀ p : Nat, (p : Int) < np → μ 62 (6 + p) = pk p) (hh : qm_r32 how) (hp : qm_r32 p) (H1 : jd_tg np how p → nc ≠ 0 → (st 0).1 < 60 → jd_can nc (st 0).1 lm (st 0).2.2.2 (jd_u pk how p) → ∀ μ', jd_fm [37, 39, 40] [67, 68] μ μ' → jm_bb nc lm (jd_bt (st 0) (jd_u pk how p)) μ' → jm_acts nc (jd_ct ct) (jd_cons (jd_bt (st 0) (jd_u pk how p)) st) μ' → Q (((st 0).1 + 1 : Nat) : Int) μ') (H0 : ¬ (jd_tg np how p ∧ nc ≠ 0 ∧ (st 0).1 < 60 ∧ jd_can nc (st 0).1 lm (st 0).2.2.2 (jd_u pk how p)) → Q (-1) μ) : qm_CI (qb_T L) (d + 3) 2464 [qm_P 13, qm_I how, qm_I p] μ Q := by
  have h1 := hO.1
  have h2 := hO.2.1
  have h3 := hK.2.1
  have g0 : ¬ jd_tg np how p → qm_W (qb_T L) (d + 3) 2464 40 [qm_P 13, qm_I how, qm_I p, none] [qm_I 0] μ (fun v μ' => ∃ r, v = some (.inl r) ∧ Q r μ') := fun z =>
    b2464_40 μ _ _ _ _ ⟨by decide, fun _ => ⟨_, rfl, H0 fun y => z y.1⟩, fun q => absurd rfl q⟩
  have g1 : jd_tg np how p → qm_W (qb_T L) (d + 3) 2464 40 [qm_P 13, qm_I how, qm_I p, none] [qm_I 1] μ (fun v μ' => ∃ r, v = some (.inl r) ∧ Q r μ') := by
    intro hT
    refine b2464_40 μ _ _ _ _ ⟨by decide, fun q => absurd q (by decide), fun _ => js_2436 hM ⟨by omega, fun z => ⟨_, rfl, H0 fun y => y.2.1 (by omega)⟩, fun z => ?_⟩⟩
    have e2 : μ 13 37 = ((st 0).1 : Int) := hM.2.1
    rw [e2]
    refine ⟨by omega, fun z2 => ⟨_, rfl, H0 fun y => by have := y.2.2.1; omega⟩, fun z2 => ?_⟩
    refine js_2444 hM hO h3.2 hP hPm hh hT.2.1 (fun hc => ⟨by decide, fun q => absurd q (by decide), fun _ => ?_⟩) (fun hc => ⟨by decide, fun _ => ⟨_, rfl, H0 fun y => hc y.2.2.2⟩, fun q => absurd rfl q⟩)
    refine js_2462 hM hO hA hct fun μ1 f1 ha => ?_
    have hM1 : jm_bb nc lm (st 0) μ1 := jl_mbf hM (by rw [f1.1 59 rfl rfl]) (f1.2 37 rfl) (by rw [f1.1 63 rfl rfl]) (fun k _ => by rw [f1.1 61 rfl rfl]) (f1.1 67 rfl rfl)
    refine js_2445 hM1 hO (by omega) h3.2 hP (by rw [f1.1 62 rfl rfl]; exact hPm) hh hT.2.1 fun μ2 f2 hM2 => ⟨_, rfl, ?_⟩
    rw [hM2.2.1]
    refine H1 hT (by omega) (by omega) hc μ2 (jg_trans (jg_sub f1 rfl rfl) (jg_sub f2 rfl rfl)) hM2 ?_
    have ha' := ha (jd_bt (st 0) (jd_u pk how p))
    unfold jm_acts jm_snap at ha' ⊢
    rw [f2.2 39 rfl, f2.2 40 rfl, f2.1 68 rfl rfl]; exact ha'
  refine b2464_0 μ _ _ _ ⟨hp, fun z => ⟨hh, ?_⟩, fun z => ⟨hh, ?_⟩⟩
  · refine js_2401 hh (by omega) (fun k y1 y2 => g1 ⟨by omega, by omega, by omega⟩) (fun y => g0 fun x => ?_)
    have x1 := x.1
    have x2 := x.2.2
    omega
  · refine js_2401 hh (by omega) (fun k y1 y2 => ⟨by decide, fun q => absurd q (by decide), fun _ => ?_⟩) (fun y => ⟨by decide, fun _ => b2464_39 μ _ _ _ (g0 fun x => ?_), fun q => absurd rfl q⟩)
    · refine js_2439 hN.2.1 h3 hp (fun y => ⟨by decide, fun q => absurd q (by decide), fun _ => g1 ⟨by omega, by omega, by omega⟩⟩) (fun y => ⟨by decide, fun _ => b2464_39 μ _ _ _ (g0 fun x => ?_), fun q => absurd rfl q⟩)
      have x1 := x.2.1
      omega
    · have x1 := x.1
      omega
end
