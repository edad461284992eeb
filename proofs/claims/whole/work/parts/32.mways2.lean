/-! ===== the reference's ways told: barred, both, sure ===== -/
section
variable {L d nc nr s s1 : Nat} {lm : Int} {sd : Nat → Int} {th T sf sb : Nat → Nat → Int} {μ : qm_M} {Q : Int → qm_M → Prop} {V : qm_M → Prop} {nco bo br bt : Int}
theorem js_2476 {c n : Nat} (h : jm_w nc nr lm sd th T s s1 sf sb μ) (hk : jd_w0 nc nr lm sd th T s s1 sf sb nco) (hc : c < nc) (hn : n ≤ s) (H1 : ∀ μ', jd_fm [43] [] μ μ' → jd_hws lm th sf sb 0 (-1) 0 c 4 n → Q 1 μ') (H0 : ∀ μ', jd_fm [43] [] μ μ' → ¬ jd_hws lm th sf sb 0 (-1) 0 c 4 n → Q 0 μ') : qm_CI (qb_T L) (d + 2) 2476 [qm_P 13, qm_I (c : Int), qm_I (n : Int)] μ Q := by
  have hs := hk.2.1.1
  have hp12 := jl_p12 (s := n) (by omega)
  have hp0 := jl_p0 n
  refine b2476_0 μ _ _ _ ?_
  refine jl_loop (S := fun K => ∀ μ' x, jd_fm [43] [] μ μ' → ¬ jd_hws lm th sf sb 0 (-1) 0 c K n → qm_W (qb_T L) (d + 2) 2476 2 [qm_P 13, qm_I (c : Int), qm_I (n : Int), qm_I ((K : Nat) : Int), x] [] μ' (fun v μ' => ∃ r, v = some (.inl r) ∧ Q r μ')) 4 (fun K hK ih μ' x hf hno => ?_) (fun μ' x hf hno => ?_) μ none (jg_refl _ _ _) (fun ⟨k, w, a, _⟩ => absurd a (by omega))
  · refine b2476_2 μ' _ _ _ _ _ ⟨by omega, fun y => absurd y (by omega), fun _ => ?_⟩
    refine jl_loop (S := fun W => ∀ μ', jd_fm [43] [] μ μ' → (∀ w, w < W → ¬ jd_way (jd_P lm th sf sb 0 (-1) 0 c K) n w) → qm_W (qb_T L) (d + 2) 2476 10 [qm_P 13, qm_I (c : Int), qm_I (n : Int), qm_I ((K : Nat) : Int), qm_I ((W : Nat) : Int)] [] μ' (fun v μ' => ∃ r, v = some (.inl r) ∧ Q r μ')) (2 ^ n) (fun W hW ih2 μ' hf hw => ?_) (fun μ' hf hw => ?_) μ' hf (fun w hw => absurd hw (by omega))
    · refine b2476_10 μ' _ _ _ _ _ ?_
      rw [qa_shl1 (by omega)]
      refine ⟨by omega, by omega, fun y => absurd y (by omega), fun _ => js_2470 (jl_mwf h (jg_sub hf rfl rfl)) hk (fun y => absurd rfl y) (Or.inl rfl) hc hK hn (by omega) (fun μ2 hf2 hway _ => ⟨by decide, fun y => absurd y (by decide), fun _ => ⟨_, rfl, H1 μ2 (jg_trans hf hf2) ⟨K, W, hK, hW, hway⟩⟩⟩) (fun μ2 hf2 hway => ⟨by decide, fun _ => ih2 μ2 (jg_trans hf hf2) fun w hw2 => ?_, fun y => absurd rfl y⟩)⟩
      by_cases q : w = W
      · rw [q]; exact hway
      · exact hw w (by omega)
    · refine b2476_10 μ' _ _ _ _ _ ?_
      rw [qa_shl1 (by omega)]
      refine ⟨by omega, by omega, fun _ => ih μ' _ hf ?_, fun y => absurd (Int.le_refl _) y⟩
      rintro ⟨k, w, a1, a2, a3⟩
      by_cases q : k = K
      · rw [q] at a3; exact hw w a2 a3
      · exact hno ⟨k, w, by omega, a2, a3⟩
  · exact b2476_2 μ' _ _ _ _ _ ⟨by decide, fun _ => ⟨_, rfl, H0 μ' hf hno⟩, fun y => absurd (by decide) y⟩
theorem js_2477 {wh : Int} (h : jm_w nc nr lm sd th T s s1 sf sb μ) (hk : jd_w0 nc nr lm sd th T s s1 sf sb nco) (hwh : qm_r32 wh) (H : ∀ v μ', jd_fm [43] [] μ μ' → jd_brd nc lm th sf sb s wh v → Q v μ') : qm_CI (qb_T L) (d + 3) 2477 [qm_P 13, qm_I wh] μ Q := by
  have hs := hk.2.1.1
  have hnc := hk.1.1
  have hs1 : μ 69 0 = (s : Int) := h.2.1.1
  have no : (s = 0 ∨ wh < 0 ∨ 1 < wh) → ∃ r, qm_I (-1) = some (.inl r) ∧ Q r μ := fun z => ⟨_, rfl, H _ μ (jg_refl _ _ _) (Or.inl ⟨z, rfl⟩)⟩
  refine b2477_0 μ _ _ ?_
  rw [hs1]
  refine ⟨by omega, fun z => no (by omega), fun z => ⟨hwh, js_2401 hwh (by decide) (fun q hq hq2 => ⟨by decide, fun y => absurd y (by decide), fun _ => ?_⟩) (fun h0 => ⟨by decide, fun _ => no (by omega), fun q => absurd rfl q⟩)⟩⟩
  refine jl_loop (S := fun i => ∀ μ', jd_fm [43] [] μ μ' → (∀ c, c < i → jd_hws lm th sf sb 0 (-1) 0 c 4 s) → qm_W (qb_T L) (d + 3) 2477 23 [qm_P 13, qm_I wh, qm_I ((i : Nat) : Int), none] [] μ' (fun v μ' => ∃ r, v = some (.inl r) ∧ Q r μ')) nc (fun i hi ih μ' hf hp => ?_) (fun μ' hf hp => ?_) μ (jg_refl _ _ _) (fun c hc => absurd hc (by omega))
  · have h' := jl_mwf h (jg_sub hf rfl rfl)
    have hs1' : μ' 69 0 = (s : Int) := h'.2.1.1
    refine b2477_23 μ' _ _ _ (js_2436 h'.1 ⟨by omega, by omega, fun y => absurd y (by omega), fun _ => ?_⟩)
    rw [hs1']
    refine js_2476 h' hk hi (Nat.le_refl _) (fun μ2 f2 hy => ⟨by decide, fun y => absurd y (by decide), fun _ => ih μ2 (jg_trans hf f2) fun c hc => ?_⟩) (fun μ2 f2 hy => ⟨by decide, fun _ => ?_, fun y => absurd rfl y⟩)
    · by_cases q : c = i
      · rw [q]; exact hy
      · exact hp c (by omega)
    · have hfb : jd_fb nc lm th sf sb s (i : Int) := Or.inr ⟨i, rfl, hi, hy, hp⟩
      have h0 : jd_hws lm th sf sb 0 (-1) 0 i 4 0 := ⟨0, 0, by decide, by decide, fun r hr => absurd hr (by omega)⟩
      refine jl_from (S := fun n => ∀ μ', jd_fm [43] [] μ μ' → jd_hws lm th sf sb 0 (-1) 0 i 4 (n - 1) → qm_W (qb_T L) (d + 3) 2477 50 [qm_P 13, qm_I wh, qm_I ((i : Nat) : Int), qm_I ((n : Nat) : Int)] [] μ' (fun v μ' => ∃ r, v = some (.inl r) ∧ Q r μ')) 1 s (fun n hn1 hn2 ih2 μ3 f3 hw => ?_) (fun μ3 f3 hw => ?_) μ2 (jg_trans hf f2) h0
      · refine b2477_50 μ3 _ _ _ _ (js_2476 (jl_mwf h (jg_sub f3 rfl rfl)) hk hi (by omega) (fun μ4 f4 hy4 => ⟨by decide, fun y => absurd y (by decide), fun _ => ih2 μ4 (jg_trans f3 f4) hy4⟩) (fun μ4 f4 hy4 => ⟨by decide, fun _ => ⟨hwh, fun y => ⟨_, rfl, H _ μ4 (jg_trans f3 f4) (Or.inr (Or.inl ⟨by omega, y, hfb⟩))⟩, fun y => ⟨_, rfl, H _ μ4 (jg_trans f3 f4) (Or.inr (Or.inr ⟨by omega, by omega, Or.inr ⟨i, hfb, n - 1, by omega, hw, ?_⟩⟩))⟩⟩, fun y => absurd rfl y⟩))
        rw [show n - 1 + 1 = n by omega]; exact hy4
      · exfalso
        rw [show 1 + s - 1 = s by omega] at hw
        exact hy hw
  · have h' := jl_mwf h (jg_sub hf rfl rfl)
    refine b2477_23 μ' _ _ _ (js_2436 h'.1 ⟨by omega, by omega, fun _ => ⟨_, rfl, H _ μ' hf ?_⟩, fun y => absurd (Int.le_refl _) y⟩)
    by_cases q : wh = 0
    · exact Or.inr (Or.inl ⟨by omega, q, Or.inl ⟨rfl, hp⟩⟩)
    · exact Or.inr (Or.inr ⟨by omega, by omega, Or.inl ⟨rfl, Or.inl ⟨rfl, hp⟩⟩⟩)
theorem js_2481 {a co : Int} (h : jm_w nc nr lm sd th T s s1 sf sb μ) (hk : jd_w0 nc nr lm sd th T s s1 sf sb nco) (ha : qm_r32 a) (hco : qm_r32 co) (H : ∀ v μ', jd_fm [43] [] μ μ' → jd_both nc lm th sf sb s s1 a co v → Q v μ') : qm_CI (qb_T L) (d + 2) 2481 [qm_P 13, qm_I a, qm_I co] μ Q := by
  have hs := hk.2.1.1
  have hss := hk.2.2.1.1
  have hp12 := jl_p12 hs
  have hp0 := jl_p0 s
  have no : ((a < 0 ∨ (nc : Int) ≤ a) ∨ co < -1 ∨ 3 < co ∨ s = 0 ∨ s ≠ s1) → ∃ r, qm_I (-1) = some (.inl r) ∧ Q r μ := fun z => ⟨_, rfl, H _ μ (jg_refl _ _ _) (Or.inl ⟨z, rfl⟩)⟩
  refine b2481_0 μ _ _ _ (js_2438 h.1 hk.1 ha (fun c hac hc => ⟨by decide, fun q => absurd q (by decide), fun _ => ?_⟩) (fun h0 => ⟨by decide, fun _ => no (Or.inl h0), fun q => absurd rfl q⟩))
  subst hac
  refine js_2472 hco (fun hcr => ⟨by decide, fun q => absurd q (by decide), fun _ => ?_⟩) (fun h0 => ⟨by decide, fun _ => no (by omega), fun q => absurd rfl q⟩)
  have hs1 : μ 69 0 = (s : Int) := h.2.1.1
  have hs2 : μ 69 1 = (s1 : Int) := h.2.2.1
  rw [hs1, hs2]
  refine ⟨by omega, fun z => no (by omega), fun z => ⟨by omega, by omega, fun z2 => ?_, fun z2 => no (by omega)⟩⟩
  obtain rfl : s = s1 := by omega
  obtain ⟨f, l, hfl, hl4, hmn, hf0, hl0⟩ := jl_fl hcr
  refine js_2473 hco hf0 ?_
  have hsf := jl_sumf (g := fun k => jd_sum (fun w => jd_cl (jd_way (jd_P lm th sf sb 1 (-1) 0 c k) s w)) (2 ^ s)) hmn hl4 hfl
  refine jl_from (S := fun K => ∀ μ' x, jd_fm [43] [] μ μ' → qm_W (qb_T L) (d + 2) 2481 50 [qm_P 13, qm_I (c : Int), qm_I co, qm_I (jd_sum (fun k => jd_cl (jd_mn co k) * jd_sum (fun w => jd_cl (jd_way (jd_P lm th sf sb 1 (-1) 0 c k) s w)) (2 ^ s)) K), qm_I ((K : Nat) : Int), x] [] μ' (fun v μ' => ∃ r, v = some (.inl r) ∧ Q r μ')) f (l + 1 - f) (fun K hK1 hK2 ih μ' x hfm => ?_) (fun μ' x hfm => ?_) μ none (jg_refl _ _ _) |> fun t => by rw [hsf.1] at t; exact t
  · have hmK : jd_mn co K := (hmn K (by omega)).mpr (by omega)
    refine b2481_50 μ' _ _ _ _ _ _ (js_2474 hco hl0 ⟨by omega, by omega, fun y => absurd y (by omega), fun _ => ?_⟩)
    have e1 : jd_sum (fun k => jd_cl (jd_mn co k) * jd_sum (fun w => jd_cl (jd_way (jd_P lm th sf sb 1 (-1) 0 c k) s w)) (2 ^ s)) (K + 1) = jd_sum (fun k => jd_cl (jd_mn co k) * jd_sum (fun w => jd_cl (jd_way (jd_P lm th sf sb 1 (-1) 0 c k) s w)) (2 ^ s)) K + jd_sum (fun w => jd_cl (jd_way (jd_P lm th sf sb 1 (-1) 0 c K) s w)) (2 ^ s) := by
      show _ + jd_cl (jd_mn co K) * _ = _
      rw [jl_cl1 hmK, Int.one_mul]
    generalize jd_sum (fun k => jd_cl (jd_mn co k) * jd_sum (fun w => jd_cl (jd_way (jd_P lm th sf sb 1 (-1) 0 c k) s w)) (2 ^ s)) K = nK at e1 ⊢
    rw [e1] at ih
    have key : qm_W (qb_T L) (d + 2) 2481 62 [qm_P 13, qm_I (c : Int), qm_I co, qm_I (nK + jd_sum (fun w => jd_cl (jd_way (jd_P lm th sf sb 1 (-1) 0 c K) s w)) 0), qm_I ((K : Nat) : Int), qm_I ((0 : Nat) : Int)] [] μ' (fun v μ' => ∃ r, v = some (.inl r) ∧ Q r μ') := by
      refine jl_loop (S := fun W => ∀ μ', jd_fm [43] [] μ μ' → qm_W (qb_T L) (d + 2) 2481 62 [qm_P 13, qm_I (c : Int), qm_I co, qm_I (nK + jd_sum (fun w => jd_cl (jd_way (jd_P lm th sf sb 1 (-1) 0 c K) s w)) W), qm_I ((K : Nat) : Int), qm_I ((W : Nat) : Int)] [] μ' (fun v μ' => ∃ r, v = some (.inl r) ∧ Q r μ')) (2 ^ s) (fun W hW ih2 μ' hfm => ?_) (fun μ' hfm => ?_) μ' hfm
      · have h' := jl_mwf h (jg_sub hfm rfl rfl)
        have hs1' : μ' 69 0 = (s : Int) := h'.2.1.1
        have e2 : jd_sum (fun w => jd_cl (jd_way (jd_P lm th sf sb 1 (-1) 0 c K) s w)) (W + 1) = jd_sum (fun w => jd_cl (jd_way (jd_P lm th sf sb 1 (-1) 0 c K) s w)) W + jd_cl (jd_way (jd_P lm th sf sb 1 (-1) 0 c K) s W) := rfl
        rw [e2, ← Int.add_assoc] at ih2
        refine b2481_62 μ' _ _ _ _ _ _ ?_
        rw [hs1', qa_shl1 (by omega)]
        refine ⟨by omega, by omega, fun y => absurd y (by omega), fun _ => js_2470 h' hk (fun _ => rfl) (Or.inr rfl) hc (by omega) (Nat.le_refl _) (by omega) (fun μ2 hf2 hway _ => ⟨by decide, fun y => absurd y (by decide), fun _ => b2481_97 μ2 _ _ _ _ _ _ ?_⟩) (fun μ2 hf2 hway => ⟨by decide, fun _ => b2481_97 μ2 _ _ _ _ _ _ ?_, fun y => absurd rfl y⟩)⟩
        · rw [jl_cl1 hway] at ih2; exact ih2 μ2 (jg_trans hfm hf2)
        · rw [jl_cl0 hway, Int.add_zero] at ih2; exact ih2 μ2 (jg_trans hfm hf2)
      · have h' := jl_mwf h (jg_sub hfm rfl rfl)
        have hs1' : μ' 69 0 = (s : Int) := h'.2.1.1
        refine b2481_62 μ' _ _ _ _ _ _ ?_
        rw [hs1', qa_shl1 (by omega)]
        exact ⟨by omega, by omega, fun _ => ih μ' _ hfm, fun y => absurd (Int.le_refl _) y⟩
    rw [show jd_sum (fun w => jd_cl (jd_way (jd_P lm th sf sb 1 (-1) 0 c K) s w)) 0 = 0 from rfl, Int.add_zero] at key
    exact key
  · rw [show f + (l + 1 - f) = l + 1 by omega, hsf.2]
    exact b2481_50 μ' _ _ _ _ _ _ (js_2474 hco hl0 ⟨by omega, by omega, fun _ => ⟨_, rfl, H _ μ' hfm (Or.inr ⟨c, rfl, hc, hcr, by omega, rfl, rfl⟩)⟩, fun y => absurd y (by omega)⟩)
theorem js_2490 {a r : Int} (h : jm_w nc nr lm sd th T s s1 sf sb μ) (hk : jd_w0 nc nr lm sd th T s s1 sf sb nco) (ha : qm_r32 a) (hr : qm_r32 r) (H : ∀ v μ', jd_fm [43] [] μ μ' → jd_sur nc lm th sf sb s a r v → Q v μ') : qm_CI (qb_T L) (d + 2) 2490 [qm_P 13, qm_I a, qm_I r] μ Q := by
  have hs := hk.2.1.1
  have hp12 := jl_p12 hs
  have hp0 := jl_p0 s
  have no : ((a < 0 ∨ (nc : Int) ≤ a) ∨ r < 0 ∨ (s : Int) ≤ r) → ∃ x, qm_I (-1) = some (.inl x) ∧ Q x μ := fun z => ⟨_, rfl, H _ μ (jg_refl _ _ _) (Or.inl ⟨z, rfl⟩)⟩
  refine b2490_0 μ _ _ _ (js_2438 h.1 hk.1 ha (fun c hac hc => ⟨by decide, fun q => absurd q (by decide), fun _ => ?_⟩) (fun h0 => ⟨by decide, fun _ => no (Or.inl h0), fun q => absurd rfl q⟩))
  subst hac
  have hs1 : μ 69 0 = (s : Int) := h.2.1.1
  rw [hs1]
  refine ⟨hr, by omega, js_2401 hr (by omega) (fun q hq hq2 => ⟨by decide, fun y => absurd y (by decide), fun _ => ?_⟩) (fun h0 => ⟨by decide, fun _ => no (by omega), fun q => absurd rfl q⟩)⟩
  subst hq
  have hqs : q < s := by omega
  refine jl_loop (S := fun K => ∀ o b μ' x, jd_fm [43] [] μ μ' → (o = 0 ∨ o = 1) → (b = 0 ∨ b = 1) → (o = 1 ↔ ∃ k w, k < K ∧ w < 2 ^ s ∧ jd_way (jd_P lm th sf sb 0 (-1) 0 c k) s w ∧ jd_bit w q = 0) → (b = 1 ↔ ∃ k w, k < K ∧ w < 2 ^ s ∧ jd_way (jd_P lm th sf sb 0 (-1) 0 c k) s w ∧ jd_bit w q = 1) → qm_W (qb_T L) (d + 2) 2490 36 [qm_P 13, qm_I (c : Int), qm_I (q : Int), qm_I o, qm_I b, qm_I ((K : Nat) : Int), x] [] μ' (fun v μ' => ∃ r, v = some (.inl r) ∧ Q r μ')) 4 (fun K hK ih o b μ' x hf ho hb ho2 hb2 => ?_) (fun o b μ' x hf ho hb ho2 hb2 => ?_) 0 0 μ none (jg_refl _ _ _) (Or.inl rfl) (Or.inl rfl) ⟨fun y => absurd y (by decide), fun ⟨k, _, y, _⟩ => absurd y (by omega)⟩ ⟨fun y => absurd y (by decide), fun ⟨k, _, y, _⟩ => absurd y (by omega)⟩
  · refine b2490_36 μ' _ _ _ _ _ _ _ ⟨by omega, fun y => absurd y (by omega), fun _ => ?_⟩
    refine jl_loop (S := fun W => ∀ o b μ', jd_fm [43] [] μ μ' → (o = 0 ∨ o = 1) → (b = 0 ∨ b = 1) → (o = 1 ↔ ∃ k w, ((k < K ∧ w < 2 ^ s) ∨ (k = K ∧ w < W)) ∧ jd_way (jd_P lm th sf sb 0 (-1) 0 c k) s w ∧ jd_bit w q = 0) → (b = 1 ↔ ∃ k w, ((k < K ∧ w < 2 ^ s) ∨ (k = K ∧ w < W)) ∧ jd_way (jd_P lm th sf sb 0 (-1) 0 c k) s w ∧ jd_bit w q = 1) → qm_W (qb_T L) (d + 2) 2490 45 [qm_P 13, qm_I (c : Int), qm_I (q : Int), qm_I o, qm_I b, qm_I ((K : Nat) : Int), qm_I ((W : Nat) : Int)] [] μ' (fun v μ' => ∃ r, v = some (.inl r) ∧ Q r μ')) (2 ^ s) (fun W hW ih2 o b μ' hf ho hb ho2 hb2 => ?_) (fun o b μ' hf ho hb ho2 hb2 => ?_) o b μ' hf ho hb (ho2.trans ⟨fun ⟨k, w, y1, y2, y3⟩ => ⟨k, w, Or.inl ⟨y1, y2⟩, y3⟩, fun ⟨k, w, y1, y3⟩ => y1.elim (fun y => ⟨k, w, y.1, y.2, y3⟩) (fun y => absurd y.2 (by omega))⟩) (hb2.trans ⟨fun ⟨k, w, y1, y2, y3⟩ => ⟨k, w, Or.inl ⟨y1, y2⟩, y3⟩, fun ⟨k, w, y1, y3⟩ => y1.elim (fun y => ⟨k, w, y.1, y.2, y3⟩) (fun y => absurd y.2 (by omega))⟩)
    · have h' := jl_mwf h (jg_sub hf rfl rfl)
      have hs1' : μ' 69 0 = (s : Int) := h'.2.1.1
      have up : ∀ B : Nat, (∃ k w, ((k < K ∧ w < 2 ^ s) ∨ (k = K ∧ w < W)) ∧ jd_way (jd_P lm th sf sb 0 (-1) 0 c k) s w ∧ jd_bit w q = B) → ∃ k w, ((k < K ∧ w < 2 ^ s) ∨ (k = K ∧ w < W + 1)) ∧ jd_way (jd_P lm th sf sb 0 (-1) 0 c k) s w ∧ jd_bit w q = B := fun B ⟨k, w, y1, y2⟩ => ⟨k, w, y1.elim Or.inl (fun y => Or.inr ⟨y.1, by omega⟩), y2⟩
      have dn : ∀ B : Nat, ¬ (jd_way (jd_P lm th sf sb 0 (-1) 0 c K) s W ∧ jd_bit W q = B) → (∃ k w, ((k < K ∧ w < 2 ^ s) ∨ (k = K ∧ w < W + 1)) ∧ jd_way (jd_P lm th sf sb 0 (-1) 0 c k) s w ∧ jd_bit w q = B) → ∃ k w, ((k < K ∧ w < 2 ^ s) ∨ (k = K ∧ w < W)) ∧ jd_way (jd_P lm th sf sb 0 (-1) 0 c k) s w ∧ jd_bit w q = B := fun B hno ⟨k, w, y1, y2⟩ => by
        rcases y1 with y | y
        · exact ⟨k, w, Or.inl y, y2⟩
        · by_cases z : w = W
          · rw [y.1, z] at y2; exact absurd y2 hno
          · exact ⟨k, w, Or.inr ⟨y.1, by omega⟩, y2⟩
      have hbt := jl_bit2 W q
      refine b2490_45 μ' _ _ _ _ _ _ _ ?_
      rw [hs1', qa_shl1 (by omega)]
      refine ⟨by omega, by omega, fun y => absurd y (by omega), fun _ => js_2470 h' hk (fun y => absurd rfl y) (Or.inl rfl) hc hK (Nat.le_refl _) (by omega) (fun μ2 hf2 hway _ => ⟨by decide, fun y => absurd y (by decide), fun _ => ?_⟩) (fun μ2 hf2 hway => ⟨by decide, fun _ => b2490_98 μ2 _ _ _ _ _ _ _ (ih2 o b μ2 (jg_trans hf hf2) ho hb (ho2.trans ⟨up 0, dn 0 fun y => hway y.1⟩) (hb2.trans ⟨up 1, dn 1 fun y => hway y.1⟩)), fun y => absurd rfl y⟩)⟩
      rw [qa_bit (by omega) (by omega)]
      refine ⟨by omega, fun y => b2490_98 μ2 _ _ _ _ _ _ _ (ih2 o 1 μ2 (jg_trans hf hf2) ho (Or.inr rfl) (ho2.trans ⟨up 0, dn 0 fun z => by omega⟩) ⟨fun _ => ⟨K, W, Or.inr ⟨rfl, by omega⟩, hway, by omega⟩, fun _ => rfl⟩), fun y => b2490_98 μ2 _ _ _ _ _ _ _ (ih2 1 b μ2 (jg_trans hf hf2) (Or.inr rfl) hb ⟨fun _ => ⟨K, W, Or.inr ⟨rfl, by omega⟩, hway, by omega⟩, fun _ => rfl⟩ (hb2.trans ⟨up 1, dn 1 fun z => by omega⟩))⟩
    · have h' := jl_mwf h (jg_sub hf rfl rfl)
      have hs1' : μ' 69 0 = (s : Int) := h'.2.1.1
      have cv : ∀ B : Nat, (∃ k w, ((k < K ∧ w < 2 ^ s) ∨ (k = K ∧ w < 2 ^ s)) ∧ jd_way (jd_P lm th sf sb 0 (-1) 0 c k) s w ∧ jd_bit w q = B) ↔ ∃ k w, k < K + 1 ∧ w < 2 ^ s ∧ jd_way (jd_P lm th sf sb 0 (-1) 0 c k) s w ∧ jd_bit w q = B := fun B => by
        constructor
        · rintro ⟨k, w, y1, y2⟩
          rcases y1 with y | y
          · exact ⟨k, w, by omega, y.2, y2⟩
          · exact ⟨k, w, by omega, y.2, y2⟩
        · rintro ⟨k, w, y1, y2, y3⟩
          by_cases z : k = K
          · exact ⟨k, w, Or.inr ⟨z, y2⟩, y3⟩
          · exact ⟨k, w, Or.inl ⟨by omega, y2⟩, y3⟩
      refine b2490_45 μ' _ _ _ _ _ _ _ ?_
      rw [hs1', qa_shl1 (by omega)]
      exact ⟨by omega, by omega, fun _ => ih o b μ' _ hf ho hb (ho2.trans (cv 0)) (hb2.trans (cv 1)), fun y => absurd (Int.le_refl _) y⟩
  · have out : ∀ v, ((¬ jd_onb lm th sf sb c s q 0 ∧ ¬ jd_onb lm th sf sb c s q 1 ∧ v = -1) ∨ (jd_onb lm th sf sb c s q 0 ∧ ¬ jd_onb lm th sf sb c s q 1 ∧ v = 1) ∨ (¬ jd_onb lm th sf sb c s q 0 ∧ jd_onb lm th sf sb c s q 1 ∧ v = 2) ∨ (jd_onb lm th sf sb c s q 0 ∧ jd_onb lm th sf sb c s q 1 ∧ v = 0)) → ∃ r, qm_I v = some (.inl r) ∧ Q r μ' := fun v hv => ⟨_, rfl, H v μ' hf (Or.inr ⟨c, q, rfl, hc, rfl, hqs, hv⟩)⟩
    have ho3 : o = 1 ↔ jd_onb lm th sf sb c s q 0 := ho2
    have hb3 : b = 1 ↔ jd_onb lm th sf sb c s q 1 := hb2
    clear ho2 hb2
    have fin : ¬ (o = 0 ∧ b = 0) → qm_W (qb_T L) (d + 2) 2490 123 [qm_P 13, qm_I (c : Int), qm_I (q : Int), qm_I o, qm_I b, qm_I ((4 : Nat) : Int), x] [] μ' (fun v μ' => ∃ r, v = some (.inl r) ∧ Q r μ') := by
      intro hn
      refine b2490_123 μ' _ _ _ _ _ _ _ ⟨by omega, fun y => out 1 (Or.inr (Or.inl ⟨ho3.mp (by omega), fun z => by have := hb3.mpr z; omega, rfl⟩)), fun y => ⟨by omega, fun y2 => out 2 (Or.inr (Or.inr (Or.inl ⟨fun z => by have := ho3.mpr z; omega, hb3.mp (by omega), rfl⟩))), fun y2 => out 0 (Or.inr (Or.inr (Or.inr ⟨ho3.mp (by omega), hb3.mp (by omega), rfl⟩)))⟩⟩
    refine b2490_36 μ' _ _ _ _ _ _ _ ⟨by decide, fun _ => ⟨by omega, fun y => ⟨by omega, fun y2 => out (-1) (Or.inl ⟨fun z => by have := ho3.mpr z; omega, fun z => by have := hb3.mpr z; omega, rfl⟩), fun y2 => fin (by omega)⟩, fun y => fin (by omega)⟩, fun y => absurd (by decide) y⟩
end
