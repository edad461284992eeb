/-! ===== the class's ways ===== -/
def jd_P (lm : Int) (th sf sb : Nat → Nat → Int) (bo br bt : Int) (c k : Nat) : Nat → Nat → Int → Prop := fun r b t => (-lm ≤ t ∧ t ≤ lm) ∧ jd_fit (sf r c) (th c (jd_c4 ((k : Int) + t))) ∧ (¬ bo = 0 → jd_fit (sb r c) (th c (jd_c4 ((k : Int) + t + 2)))) ∧ (((r : Nat) : Int) = br → bt = (if b = 1 then 2 else 1))
def jc_w (nc nr : Nat) (lm : Int) (sd : Nat → Int) (th T : Nat → Nat → Int) (s : Nat) (sf sb : Nat → Nat → Int) (bo br bt : Int) (μ : qm_M) : Prop := jc_belt nc nr lm sd th T μ ∧ jc_st 8 37 nc s sf μ ∧ (¬ bo = 0 → jc_st 9 38 nc s sb μ) ∧ μ 10 6 = br ∧ μ 10 7 = bt
def jd_wk (nc nr : Nat) (lm : Int) (sd : Nat → Int) (th T : Nat → Nat → Int) (s : Nat) (sf sb : Nat → Nat → Int) (bo br bt nco : Int) : Prop := jd_ok nc nr lm sd th T ∧ jd_sok nc s nco sf ∧ (¬ bo = 0 → jd_sok nc s nco sb) ∧ nco ≤ 6 ∧ (bo = 0 ∨ bo = 1) ∧ qm_r32 br ∧ (qm_r32 bt)
section
variable {L d nc nr s : Nat} {lm : Int} {sd : Nat → Int} {th T sf sb : Nat → Nat → Int} {μ : qm_M} {Q : Int → qm_M → Prop} {V : qm_M → Prop} {nco bo br bt : Int}
theorem jl_wf {μ' : qm_M} (h : jc_w nc nr lm sd th T s sf sb bo br bt μ) (hf : jd_fr [39, 40, 41] μ μ') : jc_w nc nr lm sd th T s sf sb bo br bt μ' := by
  unfold jc_w jc_belt jc_st at *
  rw [hf 6 rfl, hf 31 rfl, hf 32 rfl, hf 33 rfl, hf 34 rfl, hf 8 rfl, hf 9 rfl, hf 10 rfl, hf 37 rfl, hf 38 rfl]
  exact h
theorem js_1801 {t : Int} (hB : jc_belt nc nr lm sd th T μ) (hO : jd_ok nc nr lm sd th T) (ht : qm_r32 t) (H1 : -lm ≤ t ∧ t ≤ lm → Q 1 μ) (H0 : ¬ (-lm ≤ t ∧ t ≤ lm) → Q 0 μ) : qm_CI (qb_T L) d 1801 [qm_P 10, qm_I t] μ Q := by
  have h3 := hO.2.2.1
  refine b1801_0 μ _ _ ?_
  rw [hB.2.2.1]
  exact ⟨ht, by omega, fun z => ⟨_, rfl, H0 (by omega)⟩, fun z => ⟨ht, by omega, fun z2 => ⟨_, rfl, H0 (by omega)⟩, fun z2 => ⟨_, rfl, H1 (by omega)⟩⟩⟩
theorem js_1802 {r : Nat} {tu : Int} (hw : jc_w nc nr lm sd th T s sf sb bo br bt μ) (hk : jd_wk nc nr lm sd th T s sf sb bo br bt nco) (hr : r < 100) (ht : qm_r32 tu) (H1 : ((r : Int) = br → bt = tu) → Q 1 μ) (H0 : ¬ ((r : Int) = br → bt = tu) → Q 0 μ) : qm_CI (qb_T L) d 1802 [qm_P 10, qm_I (r : Int), qm_I tu] μ Q := by
  obtain ⟨_, _, _, w4, w5⟩ := hw
  obtain ⟨_, _, _, _, _, k6, k7⟩ := hk
  refine b1802_0 μ _ _ _ ?_
  rw [w4, w5]
  exact ⟨by omega, k6, fun z => ⟨ht, k7, fun z2 => b1802_16 μ _ _ _ ⟨_, rfl, H1 (fun _ => z2.symm)⟩, fun z2 => ⟨_, rfl, H0 (fun y => z2 (y z).symm)⟩⟩, fun z => b1802_16 μ _ _ _ ⟨_, rfl, H1 (fun y => absurd y z)⟩⟩
theorem js_1803 {r c k : Nat} {x t : Int} (hw : jc_w nc nr lm sd th T s sf sb bo br bt μ) (hk : jd_wk nc nr lm sd th T s sf sb bo br bt nco) (hr : r < s) (hc : c < nc) (hx : x = (k : Int) + t) (H1 : jd_fit (sf r c) (th c (jd_c4 ((k : Int) + t))) ∧ (¬ bo = 0 → jd_fit (sb r c) (th c (jd_c4 ((k : Int) + t + 2)))) → Q 1 μ) (H0 : ¬ (jd_fit (sf r c) (th c (jd_c4 ((k : Int) + t))) ∧ (¬ bo = 0 → jd_fit (sb r c) (th c (jd_c4 ((k : Int) + t + 2))))) → Q 0 μ) : qm_CI (qb_T L) (d + 2) 1803 [qm_P 10, qm_I (r : Int), qm_I (c : Int), qm_I x, qm_I bo] μ Q := by
  subst hx
  obtain ⟨w1, w2, w3, _, _⟩ := hw
  obtain ⟨k1, k2, k3, k4, k5, _, _⟩ := hk
  have hb := fun x => k1.2.2.2.2.1 c _ hc (jl_c4 x)
  have hb1 := hb ((k : Int) + t)
  have hb2 := hb ((k : Int) + t + 2)
  refine b1803_0 μ _ _ _ _ _ (js_210 w1 k1 hc (js_1403_8 w2 k2 k4 k1.1 hr hc (by omega) (fun hf => ⟨by decide, fun q => absurd q (by decide), fun _ => ⟨by omega, fun z => b1803_49 μ _ _ _ _ _ ⟨_, rfl, H1 ⟨hf, fun y => absurd z y⟩⟩, fun z => ?_⟩⟩) (fun hf => ⟨by decide, fun _ => ⟨_, rfl, H0 fun y => hf y.1⟩, fun q => absurd rfl q⟩)))
  exact js_210 w1 k1 hc (js_1403_9 (w3 z) (k3 z) k4 k1.1 hr hc (by omega) (fun hf2 => ⟨by decide, fun q => absurd q (by decide), fun _ => b1803_49 μ _ _ _ _ _ ⟨_, rfl, H1 ⟨hf, fun _ => hf2⟩⟩⟩) (fun hf2 => ⟨by decide, fun _ => ⟨_, rfl, H0 fun y => hf2 (y.2 z)⟩, fun q => absurd rfl q⟩))
theorem jl_at39 {P : Nat → Nat → Int → Prop} {r : Nat} {x : Int} (hr : r ≤ 12) (h : ∀ j, j < 27 → μ 39 j = jd_dp P r ((j : Int) - 13)) : jd_at μ 39 27 (13 + x) = jd_dp P r x := by
  unfold jd_at
  by_cases q : 0 ≤ 13 + x ∧ 13 + x < ((27 : Nat) : Int)
  · rw [if_pos q, h _ (by omega)]; congr 1; omega
  · rw [if_neg q, jl_dps (by omega)]
theorem js_1805 {r c k : Nat} (hw : jc_w nc nr lm sd th T s sf sb bo br bt μ) (hk : jd_wk nc nr lm sd th T s sf sb bo br bt nco) (hr : r < s) (hc : c < nc) (hk4 : k < 4) (hn : ∀ j, j < 27 → μ 39 j = jd_dp (jd_P lm th sf sb bo br bt c k) r ((j : Int) - 13)) (H : ∀ a μ', (a = 0 ∨ a = 1) → (a = 1 ↔ ∃ t, 0 < jd_dp (jd_P lm th sf sb bo br bt c k) (r + 1) t) → jd_fr [39, 40] μ μ' → (∀ j, j < 27 → μ' 39 j = jd_dp (jd_P lm th sf sb bo br bt c k) (r + 1) ((j : Int) - 13)) → Q a μ') : qm_CI (qb_T L) (d + 3) 1805 [qm_P 10, qm_I (r : Int), qm_I (c : Int), qm_I (k : Int), qm_I bo] μ Q := by
  have hs := hk.2.1.1
  have hpow : ((2 ^ r : Nat) : Int) ≤ 4096 := by
    have : 2 ^ r ≤ 2 ^ 12 := Nat.pow_le_pow_right (by decide) (by omega)
    omega
  have hpow2 : ((2 ^ (r + 1) : Nat) : Int) ≤ 4096 := by
    have : 2 ^ (r + 1) ≤ 2 ^ 12 := Nat.pow_le_pow_right (by decide) (by omega)
    omega
  generalize hP : jd_P lm th sf sb bo br bt c k = P at *
  have hPd : ∀ b t, P r b t ↔ (-lm ≤ t ∧ t ≤ lm) ∧ jd_fit (sf r c) (th c (jd_c4 ((k : Int) + t))) ∧ (¬ bo = 0 → jd_fit (sb r c) (th c (jd_c4 ((k : Int) + t + 2)))) ∧ (((r : Nat) : Int) = br → bt = (if b = 1 then 2 else 1)) := fun b t => by rw [← hP]; exact Iff.rfl
  refine b1805_0 μ _ _ _ _ _ ?_
  refine jl_loop (S := fun i => ∀ a μ' w, (a = 0 ∨ a = 1) → (a = 1 ↔ ∃ j, j < i ∧ 0 < jd_dp P (r + 1) ((j : Int) - 13)) → jd_fr [40] μ μ' → (∀ j, j < i → μ' 40 j = jd_dp P (r + 1) ((j : Int) - 13)) → qm_W (qb_T L) (d + 3) 1805 7 [qm_P 10, qm_I (r : Int), qm_I (c : Int), qm_I (k : Int), qm_I bo, qm_I a, qm_I (((i : Nat) : Int) - 13), w] [] μ' (fun v μ' => ∃ r, v = some (.inl r) ∧ Q r μ')) 27 (fun i hi ih a μ' w ha ha2 hf hj => ?_) (fun a μ' w ha ha2 hf hj => ?_) 0 μ none (Or.inl rfl) ⟨fun q => absurd q (by decide), fun ⟨j, hj, _⟩ => absurd hj (by omega)⟩ (jf_refl _ _) (fun j hj => absurd hj (by omega))
  · have hw' := jl_wf hw (jf_sub hf rfl)
    have hn' : ∀ j, j < 27 → μ' 39 j = jd_dp P r ((j : Int) - 13) := by rw [hf 39 rfl]; exact hn
    have e : jd_dp P (r + 1) ((i : Int) - 13) = jd_cl (P r 0 ((i : Int) - 13)) * jd_dp P r ((i : Int) - 13 - 1) + jd_cl (P r 1 ((i : Int) - 13)) * jd_dp P r ((i : Int) - 13 + 1) := rfl
    have b1 := jl_dpb P r ((i : Int) - 13 - 1)
    have b2 := jl_dpb P r ((i : Int) - 13 + 1)
    have b3 := jl_dpb P (r + 1) ((i : Int) - 13)
    -- behind the sum
    have fin : ∀ z, z = jd_dp P (r + 1) ((i : Int) - 13) → qm_W (qb_T L) (d + 3) 1805 105 [qm_P 10, qm_I (r : Int), qm_I (c : Int), qm_I (k : Int), qm_I bo, qm_I a, qm_I (((i : Nat) : Int) - 13), qm_I z] [] μ' (fun v μ' => ∃ r, v = some (.inl r) ∧ Q r μ') := by
      intro z hz
      have hb : ∀ j, j < i + 1 → (qm_set μ' 40 i z) 40 j = jd_dp P (r + 1) ((j : Int) - 13) := fun j hj2 => by
        by_cases q : j = i
        · rw [q, jl_ss, hz]
        · rw [jl_sk _ _ _ q]; exact hj j (by omega)
      have hcs : ((i : Int) - 13 + 1) = ((i + 1 : Nat) : Int) - 13 := by omega
      have nx : ∀ a', (a' = 0 ∨ a' = 1) → (a' = 1 ↔ ∃ j, j < i + 1 ∧ 0 < jd_dp P (r + 1) ((j : Int) - 13)) → qm_W (qb_T L) (d + 3) 1805 134 [qm_P 10, qm_I (r : Int), qm_I (c : Int), qm_I (k : Int), qm_I bo, qm_I a, qm_I (((i : Nat) : Int) - 13), qm_I z] [qm_I a'] (qm_set μ' 40 i z) (fun v μ' => ∃ r, v = some (.inl r) ∧ Q r μ') := by
        intro a' h1 h2
        refine b1805_134 _ _ _ _ _ _ _ _ _ _ ?_
        rw [hcs]
        exact ih a' _ _ h1 h2 (jf_set hf rfl) hb
      refine b1805_105 μ' _ _ _ _ _ _ _ _ (js_402i i rfl (by decide) (by omega) (by omega) ⟨by omega, fun z1 => ⟨by omega, fun z2 => nx 0 (Or.inl rfl) ⟨fun q => absurd q (by decide), fun ⟨j, hj1, hj2⟩ => ?_⟩, fun z2 => b1805_129 _ _ _ _ _ _ _ _ _ (nx 1 (Or.inr rfl) ⟨fun _ => ⟨i, by omega, by omega⟩, fun _ => rfl⟩)⟩, fun z1 => b1805_129 _ _ _ _ _ _ _ _ _ (nx 1 (Or.inr rfl) ⟨fun _ => ?_, fun _ => rfl⟩)⟩)
      · by_cases q : j = i
        · rw [q] at hj2; omega
        · have := ha2.mpr ⟨j, by omega, hj2⟩; omega
      · obtain ⟨j, hj1, hj2⟩ := ha2.mp (by omega)
        exact ⟨j, by omega, hj2⟩
    -- the second summand
    have snd : ∀ z, ((-lm ≤ (i : Int) - 13 ∧ (i : Int) - 13 ≤ lm) ∧ jd_fit (sf r c) (th c (jd_c4 ((k : Int) + ((i : Int) - 13)))) ∧ (¬ bo = 0 → jd_fit (sb r c) (th c (jd_c4 ((k : Int) + ((i : Int) - 13) + 2))))) → z = jd_cl (P r 0 ((i : Int) - 13)) * jd_dp P r ((i : Int) - 13 - 1) → qm_W (qb_T L) (d + 3) 1805 70 [qm_P 10, qm_I (r : Int), qm_I (c : Int), qm_I (k : Int), qm_I bo, qm_I a, qm_I (((i : Nat) : Int) - 13), qm_I 0] [qm_I z, qm_I 0] μ' (fun v μ' => ∃ r, v = some (.inl r) ∧ Q r μ') := by
      intro z hs2 hz
      refine b1805_70 μ' _ _ _ _ _ _ _ _ _ _ (js_1802 hw' hk (by omega) (by decide) (fun hb => ⟨by decide, fun q => absurd q (by decide), fun _ => js_401 rfl (by decide) (by omega) ?_⟩) (fun hb => ⟨by decide, fun _ => ?_, fun q => absurd rfl q⟩))
      · rw [Int.add_assoc, jl_at39 (by omega) hn']
        refine b1805_102 μ' _ _ _ _ _ _ _ _ _ _ (fin _ ?_)
        rw [e, jl_cl1 (p := P r 1 ((i : Int) - 13)) ((hPd _ _).mpr ⟨hs2.1, hs2.2.1, hs2.2.2, fun y => by rw [if_pos rfl]; exact hb y⟩), Int.one_mul, hz]
        omega
      · refine b1805_102 μ' _ _ _ _ _ _ _ _ _ _ (fin _ ?_)
        rw [e, jl_cl0 (p := P r 1 ((i : Int) - 13)) (fun y => hb (by have := ((hPd _ _).mp y).2.2.2; rw [if_pos rfl] at this; exact this)), Int.zero_mul, hz]
        omega
    refine b1805_7 μ' _ _ _ _ _ _ _ _ ⟨by omega, fun z => absurd z (by omega), fun _ => js_1801 hw'.1 hk.1 (by omega) (fun h1 => ⟨by decide, fun q => absurd q (by decide), fun _ => js_1803 hw' hk hr hc rfl (fun h2 => ⟨by decide, fun q => absurd q (by decide), fun _ => js_1802 hw' hk (by omega) (by decide) (fun hb => ⟨by decide, fun q => absurd q (by decide), fun _ => js_401 rfl (by decide) (by omega) ?_⟩) (fun hb => ⟨by decide, fun _ => ?_, fun q => absurd rfl q⟩)⟩) (fun h2 => ⟨by decide, fun _ => fin 0 ?_, fun q => absurd rfl q⟩)⟩) (fun h1 => ⟨by decide, fun _ => fin 0 ?_, fun q => absurd rfl q⟩)⟩
    · rw [show 13 + ((i : Int) - 13) - 1 = 13 + ((i : Int) - 13 - 1) by omega, jl_at39 (by omega) hn']
      refine snd _ ⟨h1, h2⟩ ?_
      rw [jl_cl1 (p := P r 0 ((i : Int) - 13)) ((hPd _ _).mpr ⟨h1, h2.1, h2.2, fun y => by rw [if_neg (by decide)]; exact hb y⟩), Int.one_mul]
    · refine snd _ ⟨h1, h2⟩ ?_
      rw [jl_cl0 (p := P r 0 ((i : Int) - 13)) (fun y => hb (by have := ((hPd _ _).mp y).2.2.2; rw [if_neg (by decide)] at this; exact this)), Int.zero_mul]
    · rw [e, jl_cl0 (p := P r 0 ((i : Int) - 13)) (fun y => h2 ⟨((hPd _ _).mp y).2.1, ((hPd _ _).mp y).2.2.1⟩), jl_cl0 (p := P r 1 ((i : Int) - 13)) (fun y => h2 ⟨((hPd _ _).mp y).2.1, ((hPd _ _).mp y).2.2.1⟩), Int.zero_mul, Int.zero_mul]; rfl
    · rw [e, jl_cl0 (p := P r 0 ((i : Int) - 13)) (fun y => h1 ((hPd _ _).mp y).1), jl_cl0 (p := P r 1 ((i : Int) - 13)) (fun y => h1 ((hPd _ _).mp y).1), Int.zero_mul, Int.zero_mul]; rfl
  · refine b1805_7 μ' _ _ _ _ _ _ _ _ ⟨by decide, fun _ => js_403 rfl rfl (by decide) (by decide) ⟨ha, _, rfl, ?_⟩, fun z => absurd (by decide) z⟩
    refine H a _ ha ⟨fun q => ?_, fun ⟨t, ht⟩ => ?_⟩ (fun c' hc' => ?_) (fun j hj2 => ?_)
    · obtain ⟨j, _, h2⟩ := ha2.mp q
      exact ⟨_, h2⟩
    · by_cases q : t < -(((r + 1 : Nat)) : Int) ∨ (((r + 1 : Nat)) : Int) < t
      · rw [jl_dps q] at ht; omega
      · refine ha2.mpr ⟨(t + 13).toNat, by omega, ?_⟩
        rw [show (((t + 13).toNat : Nat) : Int) - 13 = t by omega]; exact ht
    · funext k'
      have h39 : c' ≠ 39 := fun q => by rw [q] at hc'; cases hc'
      have h40 : [40].contains c' = false := by
        cases hq : [40].contains c' with
        | false => rfl
        | true =>
          have := List.contains_iff_mem.mp hq
          rw [List.mem_singleton] at this
          rw [this] at hc'; cases hc'
      show (if c' = 39 ∧ k' < 27 then μ' 40 k' else μ' c' k') = μ c' k'
      rw [if_neg (fun q => h39 q.1), hf c' h40]
    · show (if 39 = 39 ∧ j < 27 then μ' 40 j else μ' 39 j) = _
      rw [if_pos ⟨rfl, hj2⟩]; exact hj j hj2
/-- how many first rows have ways -/
def jd_cv (P : Nat → Nat → Int → Prop) (s v : Nat) : Prop := v ≤ s ∧ (∃ t, 0 < jd_dp P v t) ∧ (v < s → ¬ ∃ t, 0 < jd_dp P (v + 1) t)
theorem jl_cvs {P : Nat → Nat → Int → Prop} {s v : Nat} (h : jd_cv P s v) : v = s ↔ ∃ t, 0 < jd_dp P s t := by
  constructor
  · rintro rfl; exact h.2.1
  · intro q
    by_cases hv : v = s
    · exact hv
    · exfalso
      refine h.2.2 (by have := h.1; omega) (jl_dpmm (s - (v + 1)) ?_)
      have := h.1
      rw [show v + 1 + (s - (v + 1)) = s by omega]; exact q
theorem js_1804 {c k : Nat} (hw : jc_w nc nr lm sd th T s sf sb bo br bt μ) (hk : jd_wk nc nr lm sd th T s sf sb bo br bt nco) (hc : c < nc) (hk4 : k < 4) (H : ∀ (v : Nat) μ', jd_fr [39, 40] μ μ' → jd_cv (jd_P lm th sf sb bo br bt c k) s v → (v = s → ∀ j, j < 27 → μ' 39 j = jd_dp (jd_P lm th sf sb bo br bt c k) s ((j : Int) - 13)) → Q (v : Int) μ') : qm_CI (qb_T L) (d + 4) 1804 [qm_P 10, qm_I (c : Int), qm_I (k : Int), qm_I bo] μ Q := by
  have hs := hk.2.1.1
  refine b1804_0 μ _ _ _ _ (js_404 (n := 27) rfl (by decide) (js_402i 13 rfl (by decide) rfl (by decide) ?_))
  have f0 : jd_fr [39, 40] μ (qm_set (jd_clr μ 39 27) 39 13 1) := by
    refine jf_set (fun c' hc' => ?_) rfl
    funext k'
    have h39 : c' ≠ 39 := fun q => by rw [q] at hc'; cases hc'
    show (if c' = 39 ∧ k' < 27 then 0 else μ c' k') = μ c' k'
    rw [if_neg (fun q => h39 q.1)]
  refine jl_loop (S := fun i => ∀ μ', jd_fr [39, 40] μ μ' → (∃ t, 0 < jd_dp (jd_P lm th sf sb bo br bt c k) i t) → (∀ j, j < 27 → μ' 39 j = jd_dp (jd_P lm th sf sb bo br bt c k) i ((j : Int) - 13)) → qm_W (qb_T L) (d + 4) 1804 20 [qm_P 10, qm_I (c : Int), qm_I (k : Int), qm_I bo, qm_I ((i : Nat) : Int)] [] μ' (fun v μ' => ∃ r, v = some (.inl r) ∧ Q r μ')) s (fun i hi ih μ' hf he hn => ?_) (fun μ' hf he hn => ?_) _ f0 ⟨0, by show (0 : Int) < if (0 : Int) = 0 then 1 else 0; decide⟩ (fun j hj => ?_)
  · have hw' := jl_wf hw (jf_sub hf rfl)
    refine b1804_20 μ' _ _ _ _ _ ?_
    rw [hw'.2.1.1]
    refine ⟨by omega, by omega, fun z => absurd z (by omega), fun _ => js_1805 hw' hk hi hc hk4 hn fun a μ2 ha ha2 hf2 hn2 => ⟨by omega, fun z => ⟨_, rfl, H i μ2 (jf_trans hf hf2) ⟨by omega, he, fun _ y => ?_⟩ (fun q => absurd q (by omega))⟩, fun z => ih μ2 (jf_trans hf hf2) (ha2.mp (by omega)) hn2⟩⟩
    have := ha2.mpr y; omega
  · have hw' := jl_wf hw (jf_sub hf rfl)
    refine b1804_20 μ' _ _ _ _ _ ?_
    rw [hw'.2.1.1]
    exact ⟨by omega, by omega, fun _ => ⟨_, rfl, H s μ' hf ⟨Nat.le_refl _, he, fun q => absurd q (Nat.lt_irrefl _)⟩ (fun _ => hn)⟩, fun z => absurd (Int.le_refl _) z⟩
  · show _ = if ((j : Int) - 13) = 0 then 1 else 0
    by_cases q : j = 13
    · rw [q, jl_ss]; rfl
    · rw [jl_sk _ _ _ q, if_neg (by omega)]
      show (if 39 = 39 ∧ j < 27 then 0 else μ 39 j) = 0
      rw [if_pos ⟨rfl, hj⟩]
def jd_mn (co : Int) (k : Nat) : Prop := co = -1 ∨ co = (k : Int)
theorem js_1806 {co : Int} {k : Nat} (h : qm_r32 co) (hk : k < 4) (H1 : jd_mn co k → Q 1 μ) (H0 : ¬ jd_mn co k → Q 0 μ) : qm_CI (qb_T L) d 1806 [qm_I co, qm_I (k : Int)] μ Q := by
  unfold jd_mn at *
  refine b1806_0 μ _ _ _ ⟨h, fun z => b1806_10 μ _ _ _ ⟨_, rfl, H1 (Or.inl z)⟩, fun z => ⟨h, by omega, fun z2 => b1806_10 μ _ _ _ ⟨_, rfl, H1 (Or.inr z2)⟩, fun z2 => ⟨_, rfl, H0 (by omega)⟩⟩⟩
/-- the ways of the corners that are meant -/
noncomputable def jd_num (lm : Int) (th sf sb : Nat → Nat → Int) (bo br bt : Int) (c s : Nat) (co : Int) : Int := jd_sum (fun k => jd_cl (jd_mn co k) * jd_sum (fun w => jd_cl (jd_way (jd_P lm th sf sb bo br bt c k) s w)) (2 ^ s)) 4
theorem js_1807 {c : Nat} {co : Int} (hw : jc_w nc nr lm sd th T s sf sb bo br bt μ) (hk : jd_wk nc nr lm sd th T s sf sb bo br bt nco) (hc : c < nc) (hco : qm_r32 co) (H : ∀ μ', jd_fr [39, 40] μ μ' → Q (jd_num lm th sf sb bo br bt c s co) μ') : qm_CI (qb_T L) (d + 5) 1807 [qm_P 10, qm_I (c : Int), qm_I co, qm_I bo] μ Q := by
  have hs := hk.2.1.1
  refine b1807_0 μ _ _ _ _ ?_
  refine jl_loop (S := fun i => ∀ μ' w, jd_fr [39, 40] μ μ' → qm_W (qb_T L) (d + 5) 1807 6 [qm_P 10, qm_I (c : Int), qm_I co, qm_I bo, qm_I (jd_sum (fun k => jd_cl (jd_mn co k) * jd_sum (fun w => jd_cl (jd_way (jd_P lm th sf sb bo br bt c k) s w)) (2 ^ s)) i), qm_I ((i : Nat) : Int), w] [] μ' (fun v μ' => ∃ r, v = some (.inl r) ∧ Q r μ')) 4 (fun i hi ih μ' w hf => ?_) (fun μ' w hf => ?_) μ none (jf_refl _ _)
  · have e : jd_sum (fun k => jd_cl (jd_mn co k) * jd_sum (fun w => jd_cl (jd_way (jd_P lm th sf sb bo br bt c k) s w)) (2 ^ s)) (i + 1) = jd_sum (fun k => jd_cl (jd_mn co k) * jd_sum (fun w => jd_cl (jd_way (jd_P lm th sf sb bo br bt c k) s w)) (2 ^ s)) i + jd_cl (jd_mn co i) * jd_sum (fun w => jd_cl (jd_way (jd_P lm th sf sb bo br bt c i) s w)) (2 ^ s) := rfl
    generalize jd_sum (fun k => jd_cl (jd_mn co k) * jd_sum (fun w => jd_cl (jd_way (jd_P lm th sf sb bo br bt c k) s w)) (2 ^ s)) i = z at e ⊢
    rw [e] at ih
    refine b1807_6 μ' _ _ _ _ _ _ _ ⟨by omega, fun q => absurd q (by omega), fun _ => js_1806 hco hi (fun hm => ⟨by decide, fun q => absurd q (by decide), fun _ => js_1804 (jl_wf hw (jf_sub hf rfl)) hk hc hi fun v μ2 hf2 hcv hn => ?_⟩) (fun hm => ⟨by decide, fun _ => b1807_84 μ' _ _ _ _ _ _ _ ?_, fun q => absurd rfl q⟩)⟩
    · have hw2 := jl_wf hw (jf_sub (jf_trans hf hf2) rfl)
      have hv := hcv.1
      rw [hw2.2.1.1]
      rw [jl_cl1 hm, Int.one_mul] at ih
      refine ⟨by omega, by omega, fun q => ?_, fun q => b1807_84 μ2 _ _ _ _ _ _ _ ?_⟩
      · have hn2 := hn (by omega)
        rw [← jl_dpt] at ih
        have key : qm_W (qb_T L) (d + 5) 1807 49 [qm_P 10, qm_I (c : Int), qm_I co, qm_I bo, qm_I (z + jd_sum (fun j => jd_dp (jd_P lm th sf sb bo br bt c i) s ((j : Int) - s)) 0), qm_I (i : Int), qm_I (((0 : Nat) : Int) - s)] [] μ2 (fun v μ' => ∃ r, v = some (.inl r) ∧ Q r μ') := by
          refine jl_loop (S := fun m => qm_W (qb_T L) (d + 5) 1807 49 [qm_P 10, qm_I (c : Int), qm_I co, qm_I bo, qm_I (z + jd_sum (fun j => jd_dp (jd_P lm th sf sb bo br bt c i) s ((j : Int) - s)) m), qm_I (i : Int), qm_I (((m : Nat) : Int) - s)] [] μ2 (fun v μ' => ∃ r, v = some (.inl r) ∧ Q r μ')) (2 * s + 1) (fun m hm2 ih2 => ?_) ?_
          · refine b1807_49 μ2 _ _ _ _ _ _ _ ?_
            rw [hw2.2.1.1]
            refine ⟨by omega, by omega, fun q => absurd q (by omega), fun _ => js_401 rfl (by decide) (by omega) ?_⟩
            rw [jl_at39 hs hn2, show (m : Int) - s + 1 = ((m + 1 : Nat) : Int) - s by omega, Int.add_assoc]
            exact ih2
          · refine b1807_49 μ2 _ _ _ _ _ _ _ ?_
            rw [hw2.2.1.1]
            exact ⟨by omega, by omega, fun _ => b1807_84 μ2 _ _ _ _ _ _ _ (ih μ2 _ (jf_trans hf hf2)), fun q => absurd q (by omega)⟩
        rw [show jd_sum (fun j => jd_dp (jd_P lm th sf sb bo br bt c i) s ((j : Int) - s)) 0 = 0 from rfl, Int.add_zero, show ((0 : Nat) : Int) - s = -(s : Int) by omega] at key
        exact key
      · have h0 : jd_sum (fun w => jd_cl (jd_way (jd_P lm th sf sb bo br bt c i) s w)) (2 ^ s) = 0 := by
          refine jl_sum_0 _ _ fun w hw3 => jl_cl0 fun y => q ?_
          have := (jl_cvs hcv).mpr ((jl_hw _ _).mpr ⟨w, hw3, y⟩)
          omega
        rw [h0, Int.add_zero] at ih
        exact ih μ2 _ (jf_trans hf hf2)
    · rw [jl_cl0 hm, Int.zero_mul, Int.add_zero] at ih
      exact ih μ' _ hf
  · exact b1807_6 μ' _ _ _ _ _ _ _ ⟨by decide, fun _ => ⟨_, rfl, H μ' hf⟩, fun q => absurd (by decide) q⟩
/-- the fewest turns back; -1 without ways -/
def jd_few (lm : Int) (th sf sb : Nat → Nat → Int) (bo br bt : Int) (c s : Nat) (co : Int) (m : Nat) (v : Int) : Prop := (v = -1 ∧ ∀ k w, k < m → jd_mn co k → w < 2 ^ s → ¬ jd_way (jd_P lm th sf sb bo br bt c k) s w) ∨ (0 ≤ v ∧ (∃ k w, k < m ∧ jd_mn co k ∧ w < 2 ^ s ∧ jd_way (jd_P lm th sf sb bo br bt c k) s w ∧ ((jd_pn w s : Nat) : Int) = v) ∧ ∀ k w, k < m → jd_mn co k → w < 2 ^ s → jd_way (jd_P lm th sf sb bo br bt c k) s w → v ≤ ((jd_pn w s : Nat) : Int))
theorem jl_few {lm : Int} {th sf sb : Nat → Nat → Int} {bo br bt : Int} {c s : Nat} {co : Int} {m : Nat} {v v' : Int} (h1 : jd_few lm th sf sb bo br bt c s co m v) (h2 : jd_few lm th sf sb bo br bt c s co m v') : v = v' := by
  rcases h1 with ⟨a, b⟩ | ⟨a, ⟨k, w, b1, b2, b3, b4, b5⟩, e⟩ <;> rcases h2 with ⟨a2, b2'⟩ | ⟨a2, ⟨k', w', c1, c2, c3, c4, c5⟩, e'⟩
  · omega
  · exact absurd c4 (b k' w' c1 c2 c3)
  · exact absurd b4 (b2' k w b1 b2 b3)
  · have := e k' w' c1 c2 c3 c4
    have := e' k w b1 b2 b3 b4
    omega
theorem js_1808 {c : Nat} {co : Int} (hw : jc_w nc nr lm sd th T s sf sb 0 br bt μ) (hk : jd_wk nc nr lm sd th T s sf sb 0 br bt nco) (hc : c < nc) (hco : qm_r32 co) (H : ∀ v μ', qm_r32 v → jd_fr [39, 40] μ μ' → jd_few lm th sf sb 0 br bt c s co 4 v → Q v μ') : qm_CI (qb_T L) (d + 5) 1808 [qm_P 10, qm_I (c : Int), qm_I co] μ Q := by
  have hs := hk.2.1.1
  refine b1808_0 μ _ _ _ ?_
  refine jl_loop (S := fun i => ∀ v μ' w, -1 ≤ v ∧ v ≤ 12 → jd_fr [39, 40] μ μ' → jd_few lm th sf sb 0 br bt c s co i v → qm_W (qb_T L) (d + 5) 1808 5 [qm_P 10, qm_I (c : Int), qm_I co, qm_I v, qm_I ((i : Nat) : Int), w] [] μ' (fun v μ' => ∃ r, v = some (.inl r) ∧ Q r μ')) 4 (fun i hi ih v μ' w hv hf hw1 => ?_) (fun v μ' w hv hf hw1 => ?_) (-1) μ none (by decide) (jf_refl _ _) (Or.inl ⟨rfl, fun k w hk => absurd hk (by omega)⟩)
  · have skip : (∀ w, jd_mn co i → w < 2 ^ s → ¬ jd_way (jd_P lm th sf sb 0 br bt c i) s w) → jd_few lm th sf sb 0 br bt c s co (i + 1) v := by
      intro hno
      rcases hw1 with ⟨a, b⟩ | ⟨a, ⟨k, w, b1, b2, b3, b4, b5⟩, e⟩
      · refine Or.inl ⟨a, fun k w h1 h2 h3 => ?_⟩
        by_cases q : k = i
        · rw [q] at h2 ⊢; exact hno w h2 h3
        · exact b k w (by omega) h2 h3
      · refine Or.inr ⟨a, ⟨k, w, by omega, b2, b3, b4, b5⟩, fun k w h1 h2 h3 h4 => ?_⟩
        by_cases q : k = i
        · rw [q] at h2 h4; exact absurd h4 (hno w h2 h3)
        · exact e k w (by omega) h2 h3 h4
    refine b1808_5 μ' _ _ _ _ _ _ ⟨by omega, fun q => absurd q (by omega), fun _ => js_1806 hco hi (fun hm => ⟨by decide, fun q => absurd q (by decide), fun _ => js_1804 (jl_wf hw (jf_sub hf rfl)) hk hc hi fun x μ2 hf2 hcv hn => ?_⟩) (fun hm => ⟨by decide, fun _ => b1808_104 μ' _ _ _ _ _ _ (ih v μ' _ hv hf (skip fun w h1 => absurd h1 hm)), fun q => absurd rfl q⟩)⟩
    have hw2 := jl_wf hw (jf_sub (jf_trans hf hf2) rfl)
    have hx := hcv.1
    rw [hw2.2.1.1]
    refine ⟨by omega, by omega, fun q => ?_, fun q => b1808_104 μ2 _ _ _ _ _ _ (ih v μ2 _ hv (jf_trans hf hf2) (skip fun w _ h2 h3 => q ?_))⟩
    · have hn2 := hn (by omega)
      -- by numbers of turns back
      refine jl_loop (S := fun m => ∀ v', -1 ≤ v' ∧ v' ≤ 12 → ((v' = -1 ∧ (∀ k w, k < i → jd_mn co k → w < 2 ^ s → ¬ jd_way (jd_P lm th sf sb 0 br bt c k) s w) ∧ ∀ w, w < 2 ^ s → jd_way (jd_P lm th sf sb 0 br bt c i) s w → m ≤ jd_pn w s) ∨ (0 ≤ v' ∧ (∃ k w, k < i + 1 ∧ jd_mn co k ∧ w < 2 ^ s ∧ jd_way (jd_P lm th sf sb 0 br bt c k) s w ∧ ((jd_pn w s : Nat) : Int) = v') ∧ (∀ k w, k < i → jd_mn co k → w < 2 ^ s → jd_way (jd_P lm th sf sb 0 br bt c k) s w → v' ≤ ((jd_pn w s : Nat) : Int)) ∧ ∀ w, w < 2 ^ s → jd_way (jd_P lm th sf sb 0 br bt c i) s w → jd_pn w s < m → v' ≤ ((jd_pn w s : Nat) : Int))) → qm_W (qb_T L) (d + 5) 1808 44 [qm_P 10, qm_I (c : Int), qm_I co, qm_I v', qm_I ((i : Nat) : Int), qm_I ((m : Nat) : Int)] [] μ2 (fun v μ' => ∃ r, v = some (.inl r) ∧ Q r μ')) (s + 1) (fun m hm2 ih2 v' hv' hS => ?_) (fun v' hv' hS => ?_) v hv ?_
      · refine b1808_44 μ2 _ _ _ _ _ _ ?_
        rw [hw2.2.1.1]
        refine ⟨by omega, by omega, fun q => absurd q (by omega), fun _ => js_401 rfl (by decide) (by omega) ?_⟩
        rw [show 13 + (s : Int) - 2 * (m : Int) = 13 + ((s : Int) - 2 * m) by omega, jl_at39 hs hn2]
        have hd := jl_dpw (jd_P lm th sf sb 0 br bt c i) s ((s : Int) - 2 * m)
        have hdb := jl_dpb (jd_P lm th sf sb 0 br bt c i) s ((s : Int) - 2 * m)
        have hpow : ((2 ^ s : Nat) : Int) ≤ 4096 := by
          have : 2 ^ s ≤ 2 ^ 12 := Nat.pow_le_pow_right (by decide) hs
          omega
        refine ⟨by omega, fun z => b1808_98 μ2 _ _ _ _ _ _ (ih2 v' hv' ?_), fun z => ?_⟩
        · have hno : ∀ w, w < 2 ^ s → jd_way (jd_P lm th sf sb 0 br bt c i) s w → jd_pn w s ≠ m := fun w h1 h2 h3 => by
            have := hd.mpr ⟨w, h1, h2, by rw [jl_tb_p, h3]⟩
            omega
          rcases hS with ⟨a1, a2, a3⟩ | ⟨a1, a2, a3, a4⟩
          · exact Or.inl ⟨a1, a2, fun w h1 h2 => by have := a3 w h1 h2; have := hno w h1 h2; omega⟩
          · exact Or.inr ⟨a1, a2, a3, fun w h1 h2 h3 => a4 w h1 h2 (by have := hno w h1 h2; omega)⟩
        · obtain ⟨w0, g1, g2, g3⟩ := hd.mp (by omega)
          have g4 : jd_pn w0 s = m := by have := jl_tb_p w0 s; omega
          have go : ∀ v2, -1 ≤ v2 ∧ v2 ≤ 12 → ((v' = -1 ∧ v2 = (m : Int)) ∨ (v' ≠ -1 ∧ v2 = min v' (m : Int))) → qm_W (qb_T L) (d + 5) 1808 97 [qm_P 10, qm_I (c : Int), qm_I co, qm_I v', qm_I ((i : Nat) : Int), qm_I ((m : Nat) : Int)] [qm_I v2] μ2 (fun v μ' => ∃ r, v = some (.inl r) ∧ Q r μ') := by
            intro v2 hv2 h2
            refine b1808_97 μ2 _ _ _ _ _ _ _ (b1808_98 μ2 _ _ _ _ _ _ (ih2 v2 hv2 ?_))
            rcases hS with ⟨a1, a2, a3⟩ | ⟨a1, ⟨k, w, b1, b2, b3, b4, b5⟩, a3, a4⟩
            · refine Or.inr ⟨by omega, ⟨i, w0, by omega, hm, g1, g2, by omega⟩, fun k w h3 h4 h5 h6 => absurd h6 (a2 k w h3 h4 h5), fun w h3 h4 h5 => ?_⟩
              have := a3 w h3 h4; omega
            · refine Or.inr ⟨by omega, ?_, fun k w h3 h4 h5 h6 => by have := a3 k w h3 h4 h5 h6; omega, fun w h3 h4 h5 => ?_⟩
              · by_cases q : v' ≤ (m : Int)
                · exact ⟨k, w, b1, b2, b3, b4, by omega⟩
                · exact ⟨i, w0, by omega, hm, g1, g2, by omega⟩
              · by_cases q : jd_pn w s < m
                · have := a4 w h3 h4 q; omega
                · omega
          refine ⟨by omega, fun z2 => go _ (by omega) (Or.inl ⟨z2, rfl⟩), fun z2 => ⟨by omega, by omega, ?_⟩⟩
          rw [qa_min]
          exact go _ (by omega) (Or.inr ⟨z2, rfl⟩)
      · refine b1808_44 μ2 _ _ _ _ _ _ ?_
        rw [hw2.2.1.1]
        refine ⟨by omega, by omega, fun _ => b1808_104 μ2 _ _ _ _ _ _ (ih v' μ2 _ hv' (jf_trans hf hf2) ?_), fun q => absurd q (by omega)⟩
        rcases hS with ⟨a1, a2, a3⟩ | ⟨a1, a2, a3, a4⟩
        · refine Or.inl ⟨a1, fun k w h1 h2 h3 h4 => ?_⟩
          by_cases q : k = i
          · rw [q] at h4
            have := a3 w h3 h4
            have := jl_pn_b w s
            omega
          · exact a2 k w (by omega) h2 h3 h4
        · refine Or.inr ⟨a1, a2, fun k w h1 h2 h3 h4 => ?_⟩
          by_cases q : k = i
          · rw [q] at h4
            have := jl_pn_b w s
            exact a4 w h3 h4 (by omega)
          · exact a3 k w (by omega) h2 h3 h4
      · rcases hw1 with ⟨a, b⟩ | ⟨a, ⟨k, w, b1, b2, b3, b4, b5⟩, e⟩
        · exact Or.inl ⟨a, b, fun _ _ _ => Nat.zero_le _⟩
        · exact Or.inr ⟨a, ⟨k, w, by omega, b2, b3, b4, b5⟩, e, fun w h1 h2 h3 => absurd h3 (by omega)⟩
    · have := (jl_cvs hcv).mpr ((jl_hw _ _).mpr ⟨w, h2, h3⟩)
      omega
  · exact b1808_5 μ' _ _ _ _ _ _ ⟨by decide, fun _ => ⟨_, rfl, H v μ' (by omega) hf hw1⟩, fun q => absurd (by decide) q⟩
def jd_evn (lm : Int) (th sf sb : Nat → Nat → Int) (bo br bt : Int) (c s : Nat) (co : Int) (m : Nat) : Prop := ∃ k w, k < m ∧ jd_mn co k ∧ w < 2 ^ s ∧ jd_way (jd_P lm th sf sb bo br bt c k) s w ∧ jd_tb w s = 0
theorem js_1809 {c : Nat} {co : Int} (hw : jc_w nc nr lm sd th T s sf sb 0 br bt μ) (hk : jd_wk nc nr lm sd th T s sf sb 0 br bt nco) (hc : c < nc) (hco : qm_r32 co) (H1 : ∀ μ', jd_fr [39, 40] μ μ' → jd_evn lm th sf sb 0 br bt c s co 4 → Q 1 μ') (H0 : ∀ μ', jd_fr [39, 40] μ μ' → ¬ jd_evn lm th sf sb 0 br bt c s co 4 → Q 0 μ') : qm_CI (qb_T L) (d + 5) 1809 [qm_P 10, qm_I (c : Int), qm_I co] μ Q := by
  have hs := hk.2.1.1
  refine b1809_0 μ _ _ _ ?_
  refine jl_loop (S := fun i => ∀ μ', jd_fr [39, 40] μ μ' → ¬ jd_evn lm th sf sb 0 br bt c s co i → qm_W (qb_T L) (d + 5) 1809 2 [qm_P 10, qm_I (c : Int), qm_I co, qm_I ((i : Nat) : Int)] [] μ' (fun v μ' => ∃ r, v = some (.inl r) ∧ Q r μ')) 4 (fun i hi ih μ' hf hno => ?_) (fun μ' hf hno => ?_) μ (jf_refl _ _) (fun ⟨k, _, h, _⟩ => absurd h (by omega))
  · have ext : (∀ w, jd_mn co i → w < 2 ^ s → jd_way (jd_P lm th sf sb 0 br bt c i) s w → ¬ jd_tb w s = 0) → ¬ jd_evn lm th sf sb 0 br bt c s co (i + 1) := by
      rintro hno2 ⟨k, w, h1, h2, h3, h4, h5⟩
      by_cases q : k = i
      · rw [q] at h2 h4; exact hno2 w h2 h3 h4 h5
      · exact hno ⟨k, w, by omega, h2, h3, h4, h5⟩
    refine b1809_2 μ' _ _ _ _ ⟨by omega, fun q => absurd q (by omega), fun _ => js_1806 hco hi (fun hm => ⟨by decide, fun q => absurd q (by decide), fun _ => js_1804 (jl_wf hw (jf_sub hf rfl)) hk hc hi fun x μ2 hf2 hcv hn => ?_⟩) (fun hm => ⟨by decide, fun _ => b1809_46 μ' _ _ _ _ (ih μ' hf (ext fun w h1 => absurd h1 hm)), fun q => absurd rfl q⟩)⟩
    have hw2 := jl_wf hw (jf_sub (jf_trans hf hf2) rfl)
    have hx := hcv.1
    rw [hw2.2.1.1]
    refine ⟨by omega, by omega, fun q => js_401i 13 rfl (by decide) rfl (by decide) ?_, fun q => b1809_46 μ2 _ _ _ _ (ih μ2 (jf_trans hf hf2) (ext fun w _ h2 h3 => absurd ?_ q))⟩
    · have hn2 := hn (by omega) 13 (by decide)
      rw [hn2, show ((13 : Nat) : Int) - 13 = 0 from rfl]
      have hd := jl_dpw (jd_P lm th sf sb 0 br bt c i) s 0
      have hdb := jl_dpb (jd_P lm th sf sb 0 br bt c i) s 0
      have hpow : ((2 ^ s : Nat) : Int) ≤ 4096 := by
        have : 2 ^ s ≤ 2 ^ 12 := Nat.pow_le_pow_right (by decide) hs
        omega
      refine ⟨by omega, fun z => b1809_46 μ2 _ _ _ _ (ih μ2 (jf_trans hf hf2) (ext fun w _ h2 h3 h4 => ?_)), fun z => ⟨_, rfl, H1 μ2 (jf_trans hf hf2) ?_⟩⟩
      · have := hd.mpr ⟨w, h2, h3, h4⟩; omega
      · obtain ⟨w, g1, g2, g3⟩ := hd.mp (by omega)
        exact ⟨i, w, by omega, hm, g1, g2, g3⟩
    · have := (jl_cvs hcv).mpr ((jl_hw _ _).mpr ⟨w, h2, h3⟩)
      omega
  · exact b1809_2 μ' _ _ _ _ ⟨by decide, fun _ => ⟨_, rfl, H0 μ' hf hno⟩, fun q => absurd (by decide) q⟩
/-- some corner has ways by n rows -/
def jd_hws (lm : Int) (th sf sb : Nat → Nat → Int) (bo br bt : Int) (c m n : Nat) : Prop := ∃ k w, k < m ∧ w < 2 ^ n ∧ jd_way (jd_P lm th sf sb bo br bt c k) n w
/-- -1, or the first row that can not be -/
def jd_bar (lm : Int) (th sf sb : Nat → Nat → Int) (br bt : Int) (c s : Nat) (v : Int) : Prop := (v = -1 ∧ jd_hws lm th sf sb 0 br bt c 4 s) ∨ (∃ n : Nat, v = (n : Int) ∧ n < s ∧ jd_hws lm th sf sb 0 br bt c 4 n ∧ ¬ jd_hws lm th sf sb 0 br bt c 4 (n + 1))
theorem jl_hwsm {lm : Int} {th sf sb : Nat → Nat → Int} {bo br bt : Int} {c m n : Nat} (p : Nat) (h : jd_hws lm th sf sb bo br bt c m (n + p)) : jd_hws lm th sf sb bo br bt c m n := by
  obtain ⟨k, w, h1, h2, h3⟩ := h
  obtain ⟨w', h4, h5⟩ := (jl_hw _ _).mp (jl_dpmm p ((jl_hw _ _).mpr ⟨w, h2, h3⟩))
  exact ⟨k, w', h1, h4, h5⟩
theorem jl_bar {lm : Int} {th sf sb : Nat → Nat → Int} {br bt : Int} {c s : Nat} {v v' : Int} (h1 : jd_bar lm th sf sb br bt c s v) (h2 : jd_bar lm th sf sb br bt c s v') : v = v' := by
  rcases h1 with ⟨a, b⟩ | ⟨n, a, b, e, g⟩ <;> rcases h2 with ⟨a2, b2⟩ | ⟨n2, a2, b2, e2, g2⟩
  · omega
  · exact absurd (jl_hwsm (s - (n2 + 1)) (by rw [show n2 + 1 + (s - (n2 + 1)) = s by omega]; exact b)) g2
  · exact absurd (jl_hwsm (s - (n + 1)) (by rw [show n + 1 + (s - (n + 1)) = s by omega]; exact b2)) g
  · rcases Nat.lt_trichotomy n n2 with q | q | q
    · exact absurd (jl_hwsm (n2 - (n + 1)) (by rw [show n + 1 + (n2 - (n + 1)) = n2 by omega]; exact e2)) g
    · omega
    · exact absurd (jl_hwsm (n - (n2 + 1)) (by rw [show n2 + 1 + (n - (n2 + 1)) = n by omega]; exact e)) g2
theorem js_1810 {c : Nat} (hw : jc_w nc nr lm sd th T s sf sb 0 br bt μ) (hk : jd_wk nc nr lm sd th T s sf sb 0 br bt nco) (hc : c < nc) (H : ∀ v μ', -1 ≤ v ∧ v ≤ 12 → jd_fr [39, 40] μ μ' → jd_bar lm th sf sb br bt c s v → Q v μ') : qm_CI (qb_T L) (d + 5) 1810 [qm_P 10, qm_I (c : Int)] μ Q := by
  have hs := hk.2.1.1
  refine b1810_0 μ _ _ ?_
  refine jl_loop (S := fun i => ∀ (v : Nat) μ', v ≤ s → jd_fr [39, 40] μ μ' → ((i = 0 ∧ v = 0) ∨ jd_hws lm th sf sb 0 br bt c i v) → (v < s → ¬ jd_hws lm th sf sb 0 br bt c i (v + 1)) → qm_W (qb_T L) (d + 5) 1810 4 [qm_P 10, qm_I (c : Int), qm_I (v : Int), qm_I ((i : Nat) : Int)] [] μ' (fun v μ' => ∃ r, v = some (.inl r) ∧ Q r μ')) 4 (fun i hi ih v μ' hv hf h1 h2 => ?_) (fun v μ' hv hf h1 h2 => ?_) 0 μ (Nat.zero_le _) (jf_refl _ _) (Or.inl ⟨rfl, rfl⟩) (fun _ ⟨k, _, h, _⟩ => absurd h (by omega))
  · refine b1810_4 μ' _ _ _ _ ⟨by omega, fun q => absurd q (by omega), fun _ => js_1804 (jl_wf hw (jf_sub hf rfl)) hk hc hi fun x μ2 hf2 hcv hn => ⟨by omega, by have := hcv.1; omega, ?_⟩⟩
    have hx := hcv.1
    rw [qa_max, show max (v : Int) (x : Int) = ((max v x : Nat) : Int) by omega]
    obtain ⟨w0, g1, g2⟩ := (jl_hw _ _).mp hcv.2.1
    refine ih (max v x) μ2 (by omega) (jf_trans hf hf2) (Or.inr ?_) (fun q => ?_)
    · by_cases q : v ≤ x
      · rw [show max v x = x by omega]; exact ⟨i, w0, by omega, g1, g2⟩
      · rw [show max v x = v by omega]
        rcases h1 with ⟨a, b⟩ | ⟨k, w, h3, h4, h5⟩
        · omega
        · exact ⟨k, w, by omega, h4, h5⟩
    · rintro ⟨k, w, h3, h4, h5⟩
      by_cases q2 : k = i
      · rw [q2] at h5
        refine hcv.2.2 (by omega) (jl_dpmm (max v x + 1 - (x + 1)) ?_)
        rw [show x + 1 + (max v x + 1 - (x + 1)) = max v x + 1 by omega]
        exact (jl_hw _ _).mpr ⟨w, h4, h5⟩
      · refine h2 (by omega) (jl_hwsm (max v x + 1 - (v + 1)) ?_)
        rw [show v + 1 + (max v x + 1 - (v + 1)) = max v x + 1 by omega]
        exact ⟨k, w, by omega, h4, h5⟩
  · have hw2 := jl_wf hw (jf_sub hf rfl)
    have h1' : jd_hws lm th sf sb 0 br bt c 4 v := by
      rcases h1 with ⟨a, b⟩ | a
      · omega
      · exact a
    refine b1810_4 μ' _ _ _ _ ⟨by decide, fun _ => ?_, fun q => absurd (by decide) q⟩
    rw [hw2.2.1.1]
    refine ⟨by omega, by omega, fun q => ⟨_, rfl, H _ μ' (by omega) hf (Or.inl ⟨rfl, ?_⟩)⟩, fun q => ⟨_, rfl, H _ μ' (by omega) hf (Or.inr ⟨v, rfl, by omega, h1', h2 (by omega)⟩)⟩⟩
    rw [show s = v by omega]; exact h1'
/-- the first card that is barred; -1 -/
def jd_fb (nc : Nat) (lm : Int) (th sf sb : Nat → Nat → Int) (s : Nat) (v : Int) : Prop := (v = -1 ∧ ∀ c, c < nc → jd_hws lm th sf sb 0 (-1) 0 c 4 s) ∨ (∃ c : Nat, v = (c : Int) ∧ c < nc ∧ ¬ jd_hws lm th sf sb 0 (-1) 0 c 4 s ∧ ∀ c', c' < c → jd_hws lm th sf sb 0 (-1) 0 c' 4 s)
end
