/-! ===== turned apart ===== -/
section
variable {L d nc nr s s1 : Nat} {lm : Int} {sd : Nat → Int} {th T sf sb : Nat → Nat → Int} {μ : qm_M} {Q : Int → qm_M → Prop} {V : qm_M → Prop} {nco bo br bt : Int}
theorem jl_tbc {n t : Nat} (h : t < 2 ^ n) : ∀ m : Nat, m ≤ n → jd_tb (jd_cp n t) m = -(jd_tb t m)
  | 0, _ => rfl
  | m + 1, hm => by
    have ih := jl_tbc h m (by omega)
    have e1 : jd_tb (jd_cp n t) (m + 1) = jd_tb (jd_cp n t) m + jd_dr (jd_bit (jd_cp n t) m) := rfl
    have e2 : jd_tb t (m + 1) = jd_tb t m + jd_dr (jd_bit t m) := rfl
    have h1 := jl_cpt h (show m < n by omega)
    have h2 := jl_bit2 t m
    rw [e1, e2, ih, h1]
    unfold jd_dr
    by_cases q : jd_bit t m = 1
    · rw [q]; simp; omega
    · rw [show jd_bit t m = 0 by omega]; simp; omega
theorem js_1819 {c k t : Nat} (hw : jc_w0 nc nr lm sd th T s s1 sf sb μ) (hk : jd_w0 nc nr lm sd th T s s1 sf sb nco) (hs6 : s ≤ 6) (hc : c < nc) (hk4 : k < 4) (ht : t < 2 ^ s) (H1 : jd_way (jd_P lm th sf sb 0 (-1) 0 c k) s (jd_cp s t) → Q 1 μ) (H0 : ¬ jd_way (jd_P lm th sf sb 0 (-1) 0 c k) s (jd_cp s t) → Q 0 μ) : qm_CI (qb_T L) (d + 3) 1819 [qm_P 10, qm_I (c : Int), qm_I (k : Int), qm_I (t : Int)] μ Q := by
  obtain ⟨w1, k1⟩ := jl_w0 hw hk
  have h64 : 2 ^ s ≤ 2 ^ 6 := Nat.pow_le_pow_right (by decide) hs6
  refine b1819_0 μ _ _ _ _ ?_
  refine jl_loop (S := fun i => (∀ r, r < i → jd_P lm th sf sb 0 (-1) 0 c k r (jd_bit (jd_cp s t) r) (jd_tb (jd_cp s t) (r + 1))) → qm_W (qb_T L) (d + 3) 1819 6 [qm_P 10, qm_I (c : Int), qm_I (k : Int), qm_I (t : Int), qm_I (jd_tb (jd_cp s t) i), qm_I ((i : Nat) : Int)] [] μ (fun v μ' => ∃ r, v = some (.inl r) ∧ Q r μ')) s (fun i hi ih hp => ?_) (fun hp => ?_) (fun r hr => absurd hr (by omega))
  · have htb := jl_tb_b (jd_cp s t) (i + 1)
    have hb2 := jl_bit2 t i
    have hcb := jl_cpt ht hi
    have go : ∀ z : Int, z = jd_dr (jd_bit (jd_cp s t) i) → qm_W (qb_T L) (d + 3) 1819 35 [qm_P 10, qm_I (c : Int), qm_I (k : Int), qm_I (t : Int), qm_I (jd_tb (jd_cp s t) i), qm_I ((i : Nat) : Int)] [qm_I z, qm_I (jd_tb (jd_cp s t) i)] μ (fun v μ' => ∃ r, v = some (.inl r) ∧ Q r μ') := by
      intro z hz
      have e : jd_tb (jd_cp s t) i + z = jd_tb (jd_cp s t) (i + 1) := by rw [hz]; rfl
      refine b1819_35 μ _ _ _ _ _ _ _ _ ?_
      rw [e]
      refine js_1801 hw.1 hk.1 (by omega) (fun y1 => ⟨by decide, fun q => absurd q (by decide), fun _ => js_1803 w1 k1 hi hc rfl (fun y2 => ⟨by decide, fun q => absurd q (by decide), fun _ => ih fun r hr => ?_⟩) (fun y2 => ⟨by decide, fun _ => ⟨_, rfl, H0 fun q => y2 ⟨(q i hi).2.1, (q i hi).2.2.1⟩⟩, fun q => absurd rfl q⟩)⟩) (fun y1 => ⟨by decide, fun _ => ⟨_, rfl, H0 fun q => y1 (q i hi).1⟩, fun q => absurd rfl q⟩)
      by_cases q : r = i
      · rw [q]; exact ⟨y1, y2.1, y2.2, fun y => by omega⟩
      · exact hp r (by omega)
    refine b1819_6 μ _ _ _ _ _ _ ?_
    rw [hw.2.1.1, qa_bit (by omega) (by omega)]
    refine ⟨by omega, by omega, fun q => absurd q (by omega), fun _ => ⟨by omega, fun q => go _ ?_, fun q => go _ ?_⟩⟩
    · unfold jd_dr; rw [if_neg (by omega)]
    · unfold jd_dr; rw [if_pos (by omega)]
  · refine b1819_6 μ _ _ _ _ _ _ ?_
    rw [hw.2.1.1]
    exact ⟨by omega, by omega, fun _ => ⟨_, rfl, H1 hp⟩, fun q => absurd (Int.le_refl _) q⟩
/-- the class's patterns: a bit a row of turns, 1 on -/
def jd_pat (lm : Int) (th sf sb : Nat → Nat → Int) (s c : Nat) (x : Int) : Prop := ∀ t, t < 64 → (jd_lb x t = true ↔ t < 2 ^ s ∧ jd_W lm th sf sb s c (jd_cp s t))
theorem js_1818 {c : Nat} {m : Int} (hw : jc_w0 nc nr lm sd th T s s1 sf sb μ) (hk : jd_w0 nc nr lm sd th T s s1 sf sb nco) (hs6 : s ≤ 6) (hc : c < nc) (hm : m = ((2 ^ s : Nat) : Int)) (H : ∀ x, jd_pat lm th sf sb s c x → Q x μ) : qm_CL (qb_T L) (d + 4) 1818 [qm_P 10, qm_I (c : Int), qm_I m] μ Q := by
  subst hm
  have h64 : 2 ^ s ≤ 2 ^ 6 := Nat.pow_le_pow_right (by decide) hs6
  have hp0 := jl_p0 s
  refine b1818_0 μ _ _ _ ?_
  refine jl_loop (S := fun i => ∀ x w, (∀ t, t < 64 → (jd_lb x t = true ↔ t < i ∧ jd_W lm th sf sb s c (jd_cp s t))) → qm_W (qb_T L) (d + 4) 1818 5 [qm_P 10, qm_I (c : Int), qm_I ((2 ^ s : Nat) : Int), qm_L x, none, qm_I ((i : Nat) : Int), w] [] μ (fun v μ' => ∃ r, v = some (.inr (.inl r)) ∧ Q r μ')) (2 ^ s) (fun i hi ih x w hx => ?_) (fun x w hx => ?_) 0 none (fun t ht => ⟨fun q => (by rw [jl_l0] at q; cases q), fun q => absurd q.1 (by omega)⟩)
  · refine b1818_5 μ _ _ _ _ _ _ ⟨by omega, by omega, fun q => absurd q (by omega), fun _ => ?_⟩
    refine jl_loop (S := fun k => ∀ x, (∀ t, t < 64 → (jd_lb x t = true ↔ (t < i ∧ jd_W lm th sf sb s c (jd_cp s t)) ∨ (t = i ∧ ∃ k', k' < k ∧ jd_way (jd_P lm th sf sb 0 (-1) 0 c k') s (jd_cp s i)))) → qm_W (qb_T L) (d + 4) 1818 14 [qm_P 10, qm_I (c : Int), qm_I ((2 ^ s : Nat) : Int), qm_L x, none, qm_I ((i : Nat) : Int), qm_I ((k : Nat) : Int)] [] μ (fun v μ' => ∃ r, v = some (.inr (.inl r)) ∧ Q r μ')) 4 (fun k hk4 ih2 x hx => ?_) (fun x hx => ?_) x (fun t ht => (hx t ht).trans ⟨Or.inl, fun q => q.elim id (fun z => by obtain ⟨_, k', h, _⟩ := z; exact absurd h (by omega))⟩)
    · refine b1818_14 μ _ _ _ _ _ _ ⟨by omega, fun q => absurd q (by omega), fun _ => js_1819 hw hk hs6 hc hk4 hi (fun hy => ⟨by decide, fun q => absurd q (by decide), fun _ => b1818_39 μ _ _ _ _ _ _ (ih2 _ fun t ht => ?_)⟩) (fun hy => ⟨by decide, fun _ => b1818_39 μ _ _ _ _ _ _ (ih2 _ fun t ht => ?_), fun q => absurd rfl q⟩)⟩
      · rw [jl_lor, jl_lshl (by omega) ht, Bool.or_eq_true, decide_eq_true_iff, hx t ht]
        constructor
        · rintro ((q | q) | q)
          · exact Or.inl q
          · obtain ⟨q1, k', q2, q3⟩ := q
            exact Or.inr ⟨q1, k', by omega, q3⟩
          · exact Or.inr ⟨q, k, by omega, hy⟩
        · rintro (q | ⟨q1, k', q2, q3⟩)
          · exact Or.inl (Or.inl q)
          · exact Or.inr q1
      · rw [hx t ht]
        constructor
        · rintro (q | ⟨q1, k', q2, q3⟩)
          · exact Or.inl q
          · exact Or.inr ⟨q1, k', by omega, q3⟩
        · rintro (q | ⟨q1, k', q2, q3⟩)
          · exact Or.inl q
          · refine Or.inr ⟨q1, k', ?_, q3⟩
            by_cases z : k' = k
            · rw [z] at q3; exact absurd q3 hy
            · omega
    · refine b1818_14 μ _ _ _ _ _ _ ⟨by decide, fun _ => ih x _ fun t ht => ?_, fun q => absurd (by decide) q⟩
      rw [hx t ht]
      constructor
      · rintro (q | ⟨q1, q2⟩)
        · exact ⟨by omega, q.2⟩
        · rw [q1]; exact ⟨by omega, q2⟩
      · rintro ⟨q1, q2⟩
        by_cases z : t = i
        · refine Or.inr ⟨z, ?_⟩
          rw [z] at q2; exact q2
        · exact Or.inl ⟨by omega, q2⟩
  · exact b1818_5 μ _ _ _ _ _ _ ⟨by omega, by omega, fun _ => ⟨_, rfl, H x hx⟩, fun q => absurd (Int.le_refl _) q⟩
theorem js_1817 {c : Nat} (hc : c < 8) (H : Q (μ 41 c) μ) : qm_CL (qb_T L) d 1817 [qm_P 10, qm_I (c : Int)] μ Q := by
  refine b1817_0 μ _ _ ⟨by omega, fun q => absurd q (by omega), fun _ => ⟨by omega, fun q => absurd q (by omega), fun _ => ⟨by omega, _, rfl, ?_⟩⟩⟩
  rw [Int.toNat_natCast]; exact H
/-- what is seen of one card, of all cards -/
theorem js_1820 {m : Nat} {am mm : Int} (hw : jc_w0 nc nr lm sd th T s s1 sf sb μ) (hk : jd_w0 nc nr lm sd th T s s1 sf sb nco) (hs6 : s ≤ 6) (hnc0 : 0 < nc) (hm : m < 2 ^ s) (ham : am = qi_xor (m : Int) (-1)) (hmm : mm = ((2 ^ s : Nat) : Int)) (hp : ∀ c, c < nc → jd_pat lm th sf sb s c (μ 41 c)) (H1 : jd_AG nc s (jd_W lm th sf sb s) m → Q 1 μ) (H0 : ¬ jd_AG nc s (jd_W lm th sf sb s) m → Q 0 μ) : qm_CI (qb_T L) (d + 1) 1820 [qm_P 10, qm_I am, qm_I mm] μ Q := by
  subst ham hmm
  have hnc := hk.1.1
  have h64 : 2 ^ s ≤ 2 ^ 6 := Nat.pow_le_pow_right (by decide) hs6
  have hp0 := jl_p0 s
  refine b1820_0 μ _ _ _ ?_
  -- seen of a card
  have hsee : ∀ c p, (∃ t, t < 2 ^ s ∧ jd_W lm th sf sb s c (jd_cp s t) ∧ t &&& (63 - m) = p) ↔ (∃ t, t < 2 ^ s ∧ jd_W lm th sf sb s c (jd_cp s t) ∧ t &&& (63 - m) = p) := fun _ _ => Iff.rfl
  refine jl_loop (S := fun i => ∀ x w6 w8, qm_r64 x → (∀ p, p < 64 → (jd_lb x p = true ↔ ∀ c, c < i → ∃ t, t < 2 ^ s ∧ jd_W lm th sf sb s c (jd_cp s t) ∧ t &&& (63 - m) = p)) → qm_W (qb_T L) (d + 1) 1820 7 [qm_P 10, qm_I (qi_xor (m : Int) (-1)), qm_I ((2 ^ s : Nat) : Int), qm_L x, none, qm_I ((i : Nat) : Int), w6, none, w8] [] μ (fun v μ' => ∃ r, v = some (.inl r) ∧ Q r μ')) nc (fun i hi ih x w6 w8 hr hx => ?_) (fun x w6 w8 hr hx => ?_) (-1) none none (by decide) (fun p hp => ⟨fun _ c hc => absurd hc (by omega), fun _ => jl_lm1 hp⟩)
  · refine b1820_7 μ _ _ _ _ _ _ _ ?_
    rw [hw.1.1]
    refine ⟨by omega, by omega, fun q => absurd q (by omega), fun _ => ?_⟩
    have key : qm_W (qb_T L) (d + 1) 1820 25 [qm_P 10, qm_I (qi_xor (m : Int) (-1)), qm_I ((2 ^ s : Nat) : Int), qm_L x, none, qm_I ((i : Nat) : Int), qm_L 0, none, qm_I ((0 : Nat) : Int)] [] μ (fun v μ' => ∃ r, v = some (.inl r) ∧ Q r μ') := by
      refine jl_loop (S := fun j => ∀ y, (∀ p, p < 64 → (jd_lb y p = true ↔ ∃ t, t < j ∧ jd_W lm th sf sb s i (jd_cp s t) ∧ t &&& (63 - m) = p)) → qm_W (qb_T L) (d + 1) 1820 25 [qm_P 10, qm_I (qi_xor (m : Int) (-1)), qm_I ((2 ^ s : Nat) : Int), qm_L x, none, qm_I ((i : Nat) : Int), qm_L y, none, qm_I ((j : Nat) : Int)] [] μ (fun v μ' => ∃ r, v = some (.inl r) ∧ Q r μ')) (2 ^ s) (fun j hj ih2 y hy => ?_) (fun y hy => ?_) 0 (fun p hp => ⟨fun q => (by rw [jl_l0] at q; cases q), fun ⟨t, ht, _⟩ => absurd ht (by omega)⟩)
      · refine b1820_25 μ _ _ _ _ _ _ _ ⟨by omega, by omega, fun q => absurd q (by omega), fun _ => js_1817 (by omega) ?_⟩
        rw [jl_lshr _ (show j < 64 by omega), jl_xm m (by omega) j (by omega)]
        have hpj := hp i hi j (by omega)
        have hle : j &&& (63 - m) ≤ j := Nat.and_le_left
        refine ⟨by split <;> decide, fun q => b1820_58 μ _ _ _ _ _ _ _ (ih2 _ fun p hp2 => ?_), fun q => b1820_58 μ _ _ _ _ _ _ _ (ih2 _ fun p hp2 => ?_)⟩
        · have q' : jd_lb (μ 41 i) j = true := by
            cases z : jd_lb (μ 41 i) j with
            | true => rfl
            | false => rw [z] at q; exact absurd q (by decide)
          have hWj := (hpj.mp q').2
          rw [jl_lor, jl_lshl (by omega) hp2, Bool.or_eq_true, decide_eq_true_iff, hy p hp2]
          constructor
          · rintro (⟨t, z1, z2⟩ | z)
            · exact ⟨t, by omega, z2⟩
            · exact ⟨j, by omega, hWj, z.symm⟩
          · rintro ⟨t, z1, z2, z3⟩
            by_cases z : t = j
            · rw [z] at z3; exact Or.inr z3.symm
            · exact Or.inl ⟨t, by omega, z2, z3⟩
        · have q' : ¬ jd_W lm th sf sb s i (jd_cp s j) := fun z => by
            have := hpj.mpr ⟨by omega, z⟩
            rw [this] at q; exact q rfl
          rw [hy p hp2]
          constructor
          · rintro ⟨t, z1, z2⟩
            exact ⟨t, by omega, z2⟩
          · rintro ⟨t, z1, z2, z3⟩
            by_cases z : t = j
            · rw [z] at z2; exact absurd z2 q'
            · exact ⟨t, by omega, z2, z3⟩
      · refine b1820_25 μ _ _ _ _ _ _ _ ⟨by omega, by omega, fun _ => ih _ _ _ (jl_lr_and _ _) fun p hp2 => ?_, fun q => absurd (Int.le_refl _) q⟩
        rw [jl_land, Bool.and_eq_true, hx p hp2, hy p hp2]
        constructor
        · rintro ⟨z1, z2⟩ c hc
          by_cases z : c = i
          · rw [z]; exact z2
          · exact z1 c (by omega)
        · intro z
          exact ⟨fun c hc => z c (by omega), z i (by omega)⟩
    exact key
  · refine b1820_7 μ _ _ _ _ _ _ _ ?_
    rw [hw.1.1]
    have hAG : (∃ p, p < 64 ∧ jd_lb x p = true) ↔ jd_AG nc s (jd_W lm th sf sb s) m := by
      constructor
      · rintro ⟨p, hp1, hp2⟩
        have h1 := (hx p hp1).mp hp2
        obtain ⟨t0, a1, a2, a3⟩ := h1 0 hnc0
        refine ⟨jd_cp s t0, jl_cpl t0, fun c hc => ?_⟩
        obtain ⟨t, b1, b2, b3⟩ := h1 c hc
        refine ⟨jd_cp s t, jl_cpl t, b2, fun r hr h0 => ?_⟩
        have := (jl_ande b1 a1 (by omega) hs6).mp (by rw [b3, a3]) r hr h0
        rw [jl_cpt b1 hr, jl_cpt a1 hr, this]
      · rintro ⟨k0, a1, a2⟩
        have hle : jd_cp s k0 &&& (63 - m) ≤ jd_cp s k0 := Nat.and_le_left
        have hcl := jl_cpl (n := s) k0
        refine ⟨jd_cp s k0 &&& (63 - m), by omega, (hx _ (by omega)).mpr fun c hc => ?_⟩
        obtain ⟨k, b1, b2, b3⟩ := a2 c hc
        refine ⟨jd_cp s k, jl_cpl k, by rw [jl_cpc b1]; exact b2, (jl_ande (jl_cpl k) hcl (by omega) hs6).mpr fun r hr h0 => ?_⟩
        rw [jl_cpt b1 hr, jl_cpt a1 hr, b3 r hr h0]
    refine ⟨by omega, by omega, fun _ => ⟨hr, fun q => ⟨_, rfl, H0 fun z => ?_⟩, fun q => ⟨_, rfl, H1 (hAG.mp ?_)⟩⟩, fun q => absurd (Int.le_refl _) q⟩
    · obtain ⟨p, z1, z2⟩ := hAG.mpr z
      rw [(jl_lz hr).mp q p z1] at z2; cases z2
    · refine Classical.byContradiction fun z => q ((jl_lz hr).mpr fun p hp2 => ?_)
      cases y : jd_lb x p with
      | false => rfl
      | true => exact absurd ⟨p, hp2, y⟩ z
theorem js_1815 (hw : jc_w0 nc nr lm sd th T s s1 sf sb μ) (hk : jd_w0 nc nr lm sd th T s s1 sf sb nco) (hs6 : s ≤ 6) (hnc0 : 0 < nc) (H : ∀ v μ', jd_fr [41] μ μ' → jd_apv nc s (jd_W lm th sf sb s) v → Q v μ') : qm_CI (qb_T L) (d + 5) 1815 [qm_P 10] μ Q := by
  have hnc := hk.1.1
  have h64 : 2 ^ s ≤ 2 ^ 6 := Nat.pow_le_pow_right (by decide) hs6
  have hp0 := jl_p0 s
  refine b1815_0 μ _ ?_
  rw [hw.2.1.1, qa_min, show min (s : Int) 6 = (s : Int) by omega, qa_shl1 (by omega)]
  refine ⟨by omega, ?_⟩
  refine jl_loop (S := fun i => ∀ μ', jd_fr [41] μ μ' → (∀ c, c < i → jd_pat lm th sf sb s c (μ' 41 c)) → qm_W (qb_T L) (d + 5) 1815 17 [qm_P 10, qm_I ((2 ^ s : Nat) : Int), qm_I ((i : Nat) : Int), none] [] μ' (fun v μ' => ∃ r, v = some (.inl r) ∧ Q r μ')) nc (fun i hi ih μ' hf hp => ?_) (fun μ' hf hp => ?_) μ (jf_refl _ _) (fun c hc => absurd hc (by omega))
  · have hw' := jl_w0f hw (jf_sub hf rfl)
    refine b1815_17 μ' _ _ _ ?_
    rw [hw'.1.1]
    refine ⟨by omega, by omega, fun q => absurd q (by omega), fun _ => js_1818 hw' hk hs6 hi rfl fun x hx => b1816_0 μ' _ _ _ ⟨by omega, fun q => absurd q (by omega), fun _ => ⟨by omega, fun q => absurd q (by omega), fun _ => ⟨by omega, rfl, ?_⟩⟩⟩⟩
    rw [Int.toNat_natCast]
    refine ih _ (jf_set hf rfl) fun c hc => ?_
    by_cases q : c = i
    · rw [q, jl_ss]; exact hx
    · rw [jl_sk _ _ _ q]; exact hp c (by omega)
  · have hw' := jl_w0f hw (jf_sub hf rfl)
    refine b1815_17 μ' _ _ _ ?_
    rw [hw'.1.1, hw'.2.1.1]
    refine ⟨by omega, by omega, fun _ => ?_, fun q => absurd (Int.le_refl _) q⟩
    refine jl_loop (S := fun m => ∀ v : Int, (0 ≤ v ∧ v ≤ s) → (v = s ∨ ∃ m', m' < 2 ^ s ∧ jd_AG nc s (jd_W lm th sf sb s) m' ∧ ((jd_pn m' s : Nat) : Int) = v) → (∀ m', m' < m → jd_AG nc s (jd_W lm th sf sb s) m' → v ≤ ((jd_pn m' s : Nat) : Int)) → qm_W (qb_T L) (d + 5) 1815 55 [qm_P 10, qm_I ((2 ^ s : Nat) : Int), qm_I v, qm_I ((m : Nat) : Int)] [] μ' (fun v μ' => ∃ r, v = some (.inl r) ∧ Q r μ')) (2 ^ s) (fun m hm ih2 v hv h1 h2 => ?_) (fun v hv h1 h2 => ?_) (s : Int) (by omega) (Or.inl rfl) (fun m' hm' => absurd hm' (by omega))
    · have hpn : jd_pn m 6 = jd_pn m s := by
        have := jl_pn_hi (w := m) (n := s) hm (6 - s)
        rw [show s + (6 - s) = 6 by omega] at this; exact this
      have hpb := jl_pn_b m s
      refine b1815_55 μ' _ _ _ _ ⟨by omega, by omega, fun q => absurd q (by omega), fun _ => js_2601 (by omega) ?_⟩
      rw [hpn]
      refine ⟨by omega, by omega, fun q => b1815_84 μ' _ _ _ _ (ih2 v hv h1 fun m' hm' hA => ?_), fun q => js_1820 hw' hk hs6 hnc0 hm rfl rfl hp (fun hA => ⟨by decide, fun z => absurd z (by decide), fun _ => js_2601 (by omega) ?_⟩) (fun hA => ⟨by decide, fun _ => b1815_84 μ' _ _ _ _ (ih2 v hv h1 fun m' hm' hA' => ?_), fun z => absurd rfl z⟩)⟩
      · by_cases z : m' = m
        · rw [z]; exact q
        · exact h2 m' (by omega) hA
      · rw [hpn]
        refine b1815_84 μ' _ _ _ _ (ih2 _ (by omega) (Or.inr ⟨m, hm, hA, rfl⟩) fun m' hm' hA' => ?_)
        by_cases z : m' = m
        · rw [z]; exact Int.le_refl _
        · have := h2 m' (by omega) hA'; omega
      · by_cases z : m' = m
        · rw [z] at hA'; exact absurd hA' hA
        · exact h2 m' (by omega) hA'
    · exact b1815_55 μ' _ _ _ _ ⟨by omega, by omega, fun _ => ⟨_, rfl, H v μ' hf ⟨hv.2, h1, h2⟩⟩, fun q => absurd (Int.le_refl _) q⟩
theorem js_2219 (hw : jc_w0 nc nr lm sd th T s s1 sf sb μ) (hk : jd_w0 nc nr lm sd th T s s1 sf sb nco) (hs0 : 0 < s → 0 < nc) (H : ∀ v μ', qm_r32 v → jd_fr [39, 40, 41] μ μ' → jd_apt nc lm th sf sb s v → Q v μ') : qm_CI (qb_T L) (d + 7) 2219 [qm_P 0] μ Q := by
  have hs := hk.2.1.1
  refine b2219_0 μ _ ?_
  rw [hw.2.1.1]
  refine ⟨by omega, fun y => ⟨_, rfl, H _ μ (by decide) (jf_refl _ _) (Or.inl ⟨Or.inl (by omega), rfl⟩)⟩, fun y => ⟨by omega, fun y2 => ⟨_, rfl, H _ μ (by decide) (jf_refl _ _) (Or.inl ⟨Or.inr (Or.inl (by omega)), rfl⟩)⟩, fun y2 => ?_⟩⟩
  refine js_1811 hw hk fun v μ' hv hf hb => ⟨by omega, fun y3 => ?_, fun y3 => ⟨_, rfl, H _ μ' (by decide) (jf_sub hf rfl) (Or.inl ⟨Or.inr (Or.inr fun z => y3 (jl_fb hb z)), rfl⟩)⟩⟩
  refine js_1815 (jl_w0f hw (jf_sub hf rfl)) hk (by omega) (hs0 (by omega)) fun x μ2 f2 hx => ⟨_, rfl, H x μ2 ?_ (jf_trans (jf_sub hf rfl) (jf_sub f2 rfl)) (Or.inr ⟨by omega, by omega, y3 ▸ hb, hx⟩)⟩
  have h1 := hx.1
  have h2 := hx.2.1
  rcases h2 with z | ⟨m, _, _, z⟩ <;> omega
/-! the reference's -/
theorem js_2478 {c g b : Nat} (h : jm_w nc nr lm sd th T s s1 sf sb μ) (hs6 : s ≤ 6) (hc : c < 8) (hg : g < 64) (hb : b < 64) (hp : ∀ k, k < 2 ^ s → (μ 71 (64 * c + k) = 0 ∨ μ 71 (64 * c + k) = 1) ∧ (μ 71 (64 * c + k) = 1 ↔ jd_W lm th sf sb s c k)) (H1 : (∃ k, k < 2 ^ s ∧ jd_W lm th sf sb s c k ∧ k &&& g = b) → Q 1 μ) (H0 : ¬ (∃ k, k < 2 ^ s ∧ jd_W lm th sf sb s c k ∧ k &&& g = b) → Q 0 μ) : qm_CI (qb_T L) d 2478 [qm_P 13, qm_I (c : Int), qm_I (g : Int), qm_I (b : Int)] μ Q := by
  have h64 : 2 ^ s ≤ 2 ^ 6 := Nat.pow_le_pow_right (by decide) hs6
  have hp0 := jl_p0 s
  have hs1 : μ 69 0 = (s : Int) := h.2.1.1
  refine b2478_0 μ _ _ _ _ ?_
  refine jl_loop (S := fun j => (∀ k, k < j → ¬ (jd_W lm th sf sb s c k ∧ k &&& g = b)) → qm_W (qb_T L) d 2478 3 [qm_P 13, qm_I (c : Int), qm_I (g : Int), qm_I (b : Int), qm_I ((j : Nat) : Int)] [] μ (fun v μ' => ∃ r, v = some (.inl r) ∧ Q r μ')) (2 ^ s) (fun j hj ih hn => ?_) (fun hn => ?_) (fun k hk => absurd hk (by omega))
  · have hpj := hp j hj
    have hle : j &&& g ≤ j := Nat.and_le_left
    refine b2478_3 μ _ _ _ _ _ ?_
    rw [hs1, qa_shl1 (by omega), show (64 * (c : Int) + (j : Int)).toNat = 64 * c + j by omega, qa_and_nat (by omega) (by omega)]
    refine ⟨by omega, by omega, fun q => absurd q (by omega), fun _ => ⟨by omega, by omega, fun q => b2478_41 μ _ _ _ _ _ (ih fun k hk z => ?_), fun q => ⟨by omega, by omega, fun q2 => ⟨_, rfl, H1 ⟨j, hj, hpj.2.mp (by omega), by omega⟩⟩, fun q2 => b2478_41 μ _ _ _ _ _ (ih fun k hk z => ?_)⟩⟩⟩
    · by_cases y : k = j
      · rw [y] at z; have := hpj.2.mpr z.1; omega
      · exact hn k (by omega) z
    · by_cases y : k = j
      · rw [y] at z; exact q2 (by omega)
      · exact hn k (by omega) z
  · refine b2478_3 μ _ _ _ _ _ ?_
    rw [hs1, qa_shl1 (by omega)]
    exact ⟨by omega, by omega, fun _ => ⟨_, rfl, H0 fun ⟨k, z1, z2⟩ => hn k z1 z2⟩, fun q => absurd (Int.le_refl _) q⟩
theorem js_2479 {g b : Nat} (h : jm_w nc nr lm sd th T s s1 sf sb μ) (hk : jd_w0 nc nr lm sd th T s s1 sf sb nco) (hs6 : s ≤ 6) (hg : g < 64) (hb : b < 64) (hp : ∀ c, c < nc → ∀ k, k < 2 ^ s → (μ 71 (64 * c + k) = 0 ∨ μ 71 (64 * c + k) = 1) ∧ (μ 71 (64 * c + k) = 1 ↔ jd_W lm th sf sb s c k)) (H1 : (∀ c, c < nc → ∃ k, k < 2 ^ s ∧ jd_W lm th sf sb s c k ∧ k &&& g = b) → Q 1 μ) (H0 : ¬ (∀ c, c < nc → ∃ k, k < 2 ^ s ∧ jd_W lm th sf sb s c k ∧ k &&& g = b) → Q 0 μ) : qm_CI (qb_T L) (d + 1) 2479 [qm_P 13, qm_I (g : Int), qm_I (b : Int)] μ Q := by
  have hnc := hk.1.1
  refine b2479_0 μ _ _ _ ?_
  refine jl_loop (S := fun i => (∀ c, c < i → ∃ k, k < 2 ^ s ∧ jd_W lm th sf sb s c k ∧ k &&& g = b) → qm_W (qb_T L) (d + 1) 2479 2 [qm_P 13, qm_I (g : Int), qm_I (b : Int), qm_I ((i : Nat) : Int)] [] μ (fun v μ' => ∃ r, v = some (.inl r) ∧ Q r μ')) nc (fun i hi ih hq => ?_) (fun hq => ?_) (fun c hc => absurd hc (by omega))
  · refine b2479_2 μ _ _ _ _ (js_2436 h.1 ⟨by omega, by omega, fun q => absurd q (by omega), fun _ => js_2478 h hs6 (by omega) hg hb (hp i hi) (fun hy => ⟨by decide, fun q => absurd q (by decide), fun _ => ih fun c hc => ?_⟩) (fun hy => ⟨by decide, fun _ => ⟨_, rfl, H0 fun z => hy (z i hi)⟩, fun q => absurd rfl q⟩)⟩)
    by_cases z : c = i
    · rw [z]; exact hy
    · exact hq c (by omega)
  · exact b2479_2 μ _ _ _ _ (js_2436 h.1 ⟨by omega, by omega, fun _ => ⟨_, rfl, H1 hq⟩, fun q => absurd (Int.le_refl _) q⟩)
theorem jl_AGm {W : Nat → Nat → Prop} {m : Nat} (hs6 : s ≤ 6) (hm : m < 2 ^ s) : jd_AG nc s W m ↔ ∃ b, b < 2 ^ s ∧ b &&& jd_cp s m = b ∧ ∀ c, c < nc → ∃ k, k < 2 ^ s ∧ W c k ∧ k &&& jd_cp s m = b := by
  have h64 : 2 ^ s ≤ 2 ^ 6 := Nat.pow_le_pow_right (by decide) hs6
  -- below 2^s the two complements cut alike
  have hcut : ∀ a, a < 2 ^ s → a &&& jd_cp s m = a &&& (63 - m) := fun a ha => by
    refine Nat.eq_of_testBit_eq fun r => ?_
    rw [Nat.testBit_and, Nat.testBit_and]
    by_cases hr : r < s
    · have e1 : (jd_cp s m).testBit r = !m.testBit r := by
        unfold jd_cp
        rw [Nat.testBit_two_pow_sub_succ hm, decide_eq_true hr, Bool.true_and]
      have e2 : (63 - m).testBit r = !m.testBit r := by
        have := Nat.testBit_two_pow_sub_succ (n := 6) (show m < 2 ^ 6 by omega) r
        rw [decide_eq_true (show r < 6 by omega), Bool.true_and] at this
        rw [← this]; congr 1; omega
      rw [e1, e2]
    · have e1 : a.testBit r = false := by
        cases q : a.testBit r with
        | false => rfl
        | true => have := jl_btt.mp q; rw [jl_bit_0 ha (by omega)] at this; omega
      rw [e1, Bool.false_and, Bool.false_and]
  constructor
  · rintro ⟨k0, a1, a2⟩
    have hle : k0 &&& jd_cp s m ≤ k0 := Nat.and_le_left
    refine ⟨k0 &&& jd_cp s m, by omega, by rw [Nat.and_assoc, Nat.and_self], fun c hc => ?_⟩
    obtain ⟨k, b1, b2, b3⟩ := a2 c hc
    refine ⟨k, b1, b2, ?_⟩
    rw [hcut k b1, hcut k0 a1]
    exact (jl_ande b1 a1 (by omega) hs6).mpr b3
  · rintro ⟨b, a1, a2, a3⟩
    refine ⟨b, a1, fun c hc => ?_⟩
    obtain ⟨k, b1, b2, b3⟩ := a3 c hc
    refine ⟨k, b1, b2, (jl_ande b1 a1 (by omega) hs6).mp ?_⟩
    rw [← hcut k b1, ← hcut b a1, b3, a2]
theorem js_2480 (h : jm_w nc nr lm sd th T s s1 sf sb μ) (hk : jd_w0 nc nr lm sd th T s s1 sf sb nco) (H : ∀ v μ', jd_fm [43] [71] μ μ' → jd_apt nc lm th sf sb s v → Q v μ') : qm_CI (qb_T L) (d + 4) 2480 [qm_P 13] μ Q := by
  have hs := hk.2.1.1
  have hnc := hk.1.1
  have hs1 : μ 69 0 = (s : Int) := h.2.1.1
  refine b2480_0 μ _ ?_
  rw [hs1]
  refine ⟨by omega, fun y => ⟨_, rfl, H _ μ (jg_refl _ _ _) (Or.inl ⟨Or.inl (by omega), rfl⟩)⟩, fun y => ⟨by omega, fun y2 => ⟨_, rfl, H _ μ (jg_refl _ _ _) (Or.inl ⟨Or.inr (Or.inl (by omega)), rfl⟩)⟩, fun y2 => ?_⟩⟩
  have hs6 : s ≤ 6 := by omega
  have h64 : 2 ^ s ≤ 2 ^ 6 := Nat.pow_le_pow_right (by decide) hs6
  have hp0 := jl_p0 s
  refine js_2477 h hk (by decide) fun v μ1 hf1 hb => ?_
  have hb' : jd_fb nc lm th sf sb s v := by
    rcases hb with ⟨a, _⟩ | ⟨_, _, a⟩ | ⟨_, a, _⟩
    · omega
    · exact a
    · omega
  have hvr : qm_r32 v := by
    rcases hb' with ⟨a, _⟩ | ⟨c, a, b, _⟩ <;> omega
  refine ⟨hvr, fun y3 => ?_, fun y3 => ⟨_, rfl, H _ μ1 (jg_sub hf1 rfl rfl) (Or.inl ⟨Or.inr (Or.inr fun z => y3 (jl_fb hb' z)), rfl⟩)⟩⟩
  have hfb : jd_fb nc lm th sf sb s (-1) := y3 ▸ hb'
  refine jl_loop (S := fun i => ∀ μ' w3 w4 w5, jd_fm [43] [71] μ μ' → (∀ c, c < i → ∀ k, k < 2 ^ s → (μ' 71 (64 * c + k) = 0 ∨ μ' 71 (64 * c + k) = 1) ∧ (μ' 71 (64 * c + k) = 1 ↔ jd_W lm th sf sb s c k)) → qm_W (qb_T L) (d + 4) 2480 30 [qm_P 13, qm_I (s : Int), qm_I ((i : Nat) : Int), w3, w4, w5] [] μ' (fun v μ' => ∃ r, v = some (.inl r) ∧ Q r μ')) nc (fun i hi ih μ' w3 w4 w5 hf hp => ?_) (fun μ' w3 w4 w5 hf hp => ?_) μ1 none none none (jg_sub hf1 rfl rfl) (fun c hc => absurd hc (by omega))
  · have h' := jl_mwf h hf
    refine b2480_30 μ' _ _ _ _ _ _ (js_2436 h'.1 ⟨by omega, by omega, fun q => absurd q (by omega), fun _ => ?_⟩)
    refine jl_loop (S := fun j => ∀ μ' w4 w5, jd_fm [43] [71] μ μ' → (∀ c, c < i → ∀ k, k < 2 ^ s → (μ' 71 (64 * c + k) = 0 ∨ μ' 71 (64 * c + k) = 1) ∧ (μ' 71 (64 * c + k) = 1 ↔ jd_W lm th sf sb s c k)) → (∀ k, k < j → (μ' 71 (64 * i + k) = 0 ∨ μ' 71 (64 * i + k) = 1) ∧ (μ' 71 (64 * i + k) = 1 ↔ jd_W lm th sf sb s i k)) → qm_W (qb_T L) (d + 4) 2480 40 [qm_P 13, qm_I (s : Int), qm_I ((i : Nat) : Int), qm_I ((j : Nat) : Int), w4, w5] [] μ' (fun v μ' => ∃ r, v = some (.inl r) ∧ Q r μ')) (2 ^ s) (fun j hj ih2 μ' w4 w5 hf hp hpj => ?_) (fun μ' w4 w5 hf hp hpj => ?_) μ' w4 w5 hf hp (fun k hk => absurd hk (by omega))
    · refine b2480_40 μ' _ _ _ _ _ _ ?_
      rw [qa_shl1 (by omega)]
      refine ⟨by omega, by omega, fun q => absurd q (by omega), fun _ => ?_⟩
      refine jl_loop (S := fun k => ∀ x μ', (x = 0 ∨ x = 1) → (x = 1 ↔ ∃ k', k' < k ∧ jd_way (jd_P lm th sf sb 0 (-1) 0 i k') s j) → jd_fm [43] [71] μ μ' → (∀ c, c < i → ∀ k, k < 2 ^ s → (μ' 71 (64 * c + k) = 0 ∨ μ' 71 (64 * c + k) = 1) ∧ (μ' 71 (64 * c + k) = 1 ↔ jd_W lm th sf sb s c k)) → (∀ k, k < j → (μ' 71 (64 * i + k) = 0 ∨ μ' 71 (64 * i + k) = 1) ∧ (μ' 71 (64 * i + k) = 1 ↔ jd_W lm th sf sb s i k)) → qm_W (qb_T L) (d + 4) 2480 53 [qm_P 13, qm_I (s : Int), qm_I ((i : Nat) : Int), qm_I ((j : Nat) : Int), qm_I x, qm_I ((k : Nat) : Int)] [] μ' (fun v μ' => ∃ r, v = some (.inl r) ∧ Q r μ')) 4 (fun k hk4 ih3 x μ' hx hx2 hf hp hpj => ?_) (fun x μ' hx hx2 hf hp hpj => ?_) 0 μ' (Or.inl rfl) ⟨fun q => absurd q (by decide), fun ⟨k', z, _⟩ => absurd z (by omega)⟩ hf hp hpj
      · have h' := jl_mwf h hf
        refine b2480_53 μ' _ _ _ _ _ _ ⟨by omega, fun q => absurd q (by omega), fun _ => ⟨by omega, fun q => ?_, fun q => ?_⟩⟩
        · refine js_2470 h' hk (fun z => absurd rfl z) (Or.inl rfl) hi hk4 (Nat.le_refl _) (by omega) (fun μ2 hf2 hway _ => ⟨by decide, fun z => absurd z (by decide), fun _ => b2480_77 μ2 _ _ _ _ _ _ (b2480_82 μ2 _ _ _ _ _ _ _ (ih3 1 μ2 (Or.inr rfl) ⟨fun _ => ⟨k, by omega, hway⟩, fun _ => rfl⟩ (jg_trans hf (jg_sub hf2 rfl rfl)) ?_ ?_))⟩) (fun μ2 hf2 hway => ⟨by decide, fun _ => b2480_82 μ2 _ _ _ _ _ _ _ (ih3 0 μ2 (Or.inl rfl) ⟨fun z => absurd z (by decide), fun ⟨k', z1, z2⟩ => ?_⟩ (jg_trans hf (jg_sub hf2 rfl rfl)) ?_ ?_), fun z => absurd rfl z⟩)
          · rw [hf2.1 71 rfl rfl]; exact hp
          · rw [hf2.1 71 rfl rfl]; exact hpj
          · by_cases z : k' = k
            · rw [z] at z2; exact absurd z2 hway
            · have := hx2.mpr ⟨k', by omega, z2⟩; omega
          · rw [hf2.1 71 rfl rfl]; exact hp
          · rw [hf2.1 71 rfl rfl]; exact hpj
        · refine b2480_77 μ' _ _ _ _ _ _ (b2480_82 μ' _ _ _ _ _ _ _ (ih3 1 μ' (Or.inr rfl) ⟨fun _ => ?_, fun _ => rfl⟩ hf hp hpj))
          obtain ⟨k', z1, z2⟩ := hx2.mp (by omega)
          exact ⟨k', by omega, z2⟩
      · refine b2480_53 μ' _ _ _ _ _ _ ⟨by decide, fun _ => ⟨hx, by omega, ?_⟩, fun q => absurd (by decide) q⟩
        rw [show (64 * (i : Int) + (j : Int)).toNat = 64 * i + j by omega]
        refine ih2 _ _ _ (jg_c hf rfl rfl) (fun c hc k hk2 => by rw [jl_sk _ _ _ (by omega)]; exact hp c hc k hk2) fun k hk2 => ?_
        by_cases z : k = j
        · rw [z, jl_ss]; exact ⟨hx, hx2⟩
        · rw [jl_sk _ _ _ (by omega)]; exact hpj k (by omega)
    · refine b2480_40 μ' _ _ _ _ _ _ ?_
      rw [qa_shl1 (by omega)]
      refine ⟨by omega, by omega, fun _ => ih μ' _ _ _ hf fun c hc => ?_, fun q => absurd (Int.le_refl _) q⟩
      by_cases z : c = i
      · rw [z]; exact hpj
      · exact hp c (by omega)
  · have h' := jl_mwf h hf
    refine b2480_30 μ' _ _ _ _ _ _ (js_2436 h'.1 ⟨by omega, by omega, fun _ => ?_, fun q => absurd (Int.le_refl _) q⟩)
    have hcl := fun m => jl_cpl (n := s) m
    refine jl_loop (S := fun g => ∀ (v : Int) w4, (0 ≤ v ∧ v ≤ s) → (v = s ∨ ∃ m', m' < 2 ^ s ∧ jd_AG nc s (jd_W lm th sf sb s) m' ∧ ((jd_pn m' s : Nat) : Int) = v) → (∀ g', g' < g → jd_AG nc s (jd_W lm th sf sb s) (jd_cp s g') → v ≤ ((jd_pn (jd_cp s g') s : Nat) : Int)) → qm_W (qb_T L) (d + 4) 2480 119 [qm_P 13, qm_I (s : Int), qm_I v, qm_I ((g : Nat) : Int), w4, w5] [] μ' (fun v μ' => ∃ r, v = some (.inl r) ∧ Q r μ')) (2 ^ s) (fun g hg ih2 v w4 hv h1 h2 => ?_) (fun v w4 hv h1 h2 => ?_) (s : Int) w4 (by omega) (Or.inl rfl) (fun m' hm' => absurd hm' (by omega))
    · refine b2480_119 μ' _ _ _ _ _ _ ?_
      rw [qa_shl1 (by omega)]
      refine ⟨by omega, by omega, fun q => absurd q (by omega), fun _ => ?_⟩
      have hpn : jd_pn g 12 = jd_pn g s := by
        have := jl_pn_hi (w := g) (n := s) hg (12 - s)
        rw [show s + (12 - s) = 12 by omega] at this; exact this
      have hpb := jl_pn_b g s
      have hpc := jl_pnc hg s (Nat.le_refl _)
      have hAGg := jl_AGm (nc := nc) (W := jd_W lm th sf sb s) hs6 (hcl g)
      rw [jl_cpc hg] at hAGg
      refine jl_loop (S := fun b => ∀ (v : Int), (0 ≤ v ∧ v ≤ s) → (v = s ∨ ∃ m', m' < 2 ^ s ∧ jd_AG nc s (jd_W lm th sf sb s) m' ∧ ((jd_pn m' s : Nat) : Int) = v) → (∀ g', g' < g → jd_AG nc s (jd_W lm th sf sb s) (jd_cp s g') → v ≤ ((jd_pn (jd_cp s g') s : Nat) : Int)) → (∀ b', b' < b → (b' &&& g = b' ∧ ∀ c, c < nc → ∃ k, k < 2 ^ s ∧ jd_W lm th sf sb s c k ∧ k &&& g = b') → v ≤ ((jd_pn (jd_cp s g) s : Nat) : Int)) → qm_W (qb_T L) (d + 4) 2480 129 [qm_P 13, qm_I (s : Int), qm_I v, qm_I ((g : Nat) : Int), qm_I ((b : Nat) : Int), w5] [] μ' (fun v μ' => ∃ r, v = some (.inl r) ∧ Q r μ')) (2 ^ s) (fun b hb ih3 v hv h1 h2 h3 => ?_) (fun v hv h1 h2 h3 => ?_) v hv h1 h2 (fun b' hb' => absurd hb' (by omega))
      · have hle : b &&& g ≤ b := Nat.and_le_left
        have nx : ∀ (v' : Int), (0 ≤ v' ∧ v' ≤ s) → (v' = s ∨ ∃ m', m' < 2 ^ s ∧ jd_AG nc s (jd_W lm th sf sb s) m' ∧ ((jd_pn m' s : Nat) : Int) = v') → v' ≤ v → ((b &&& g = b ∧ ∀ c, c < nc → ∃ k, k < 2 ^ s ∧ jd_W lm th sf sb s c k ∧ k &&& g = b) → v' ≤ ((jd_pn (jd_cp s g) s : Nat) : Int)) → qm_W (qb_T L) (d + 4) 2480 173 [qm_P 13, qm_I (s : Int), qm_I v', qm_I ((g : Nat) : Int), qm_I ((b : Nat) : Int), w5] [] μ' (fun v μ' => ∃ r, v = some (.inl r) ∧ Q r μ') := fun v' hv' h1' hle' h3' => b2480_173 μ' _ _ _ _ _ _ (ih3 v' hv' h1' (fun g' z1 z2 => by have := h2 g' z1 z2; omega) fun b' z1 z2 => by
          by_cases z : b' = b
          · rw [z] at z2; exact h3' z2
          · have := h3 b' (by omega) z2; omega)
        refine b2480_129 μ' _ _ _ _ _ _ ?_
        rw [qa_shl1 (by omega), qa_and_nat (by omega) (by omega)]
        refine ⟨by omega, by omega, fun q => absurd q (by omega), fun _ => ⟨by omega, by omega, fun q => js_2471 (by omega) ?_, fun q => nx v hv h1 (Int.le_refl _) fun z => absurd (by omega) q⟩⟩
        rw [hpn]
        refine ⟨by omega, by omega, fun q2 => nx v hv h1 (Int.le_refl _) fun _ => by omega, fun q2 => js_2479 h' hk hs6 (by omega) (by omega) hp (fun hy => ⟨by decide, fun z => absurd z (by decide), fun _ => js_2471 (by omega) ?_⟩) (fun hy => ⟨by decide, fun _ => nx v hv h1 (Int.le_refl _) fun z => absurd z.2 hy, fun z => absurd rfl z⟩)⟩
        rw [hpn]
        refine nx _ (by omega) (Or.inr ⟨jd_cp s g, hcl g, hAGg.mpr ⟨b, hb, by omega, hy⟩, by omega⟩) (by omega) fun _ => by omega
      · refine b2480_129 μ' _ _ _ _ _ _ ?_
        rw [qa_shl1 (by omega)]
        refine ⟨by omega, by omega, fun _ => ih2 v _ hv h1 fun g' z1 z2 => ?_, fun q => absurd (Int.le_refl _) q⟩
        by_cases z : g' = g
        · rw [z] at z2 ⊢
          obtain ⟨b, b1, b2⟩ := hAGg.mp z2
          exact h3 b b1 b2
        · exact h2 g' (by omega) z2
    · refine b2480_119 μ' _ _ _ _ _ _ ?_
      rw [qa_shl1 (by omega)]
      refine ⟨by omega, by omega, fun _ => ⟨_, rfl, H v μ' hf (Or.inr ⟨by omega, hs6, hfb, hv.2, h1, fun m hm hA => ?_⟩)⟩, fun q => absurd (Int.le_refl _) q⟩
      have := h2 (jd_cp s m) (hcl m)
      rw [jl_cpc hm] at this
      exact this hA
end
