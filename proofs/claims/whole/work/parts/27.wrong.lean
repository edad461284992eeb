/-! ===== a wrong turn, mending ===== -/
def jd_fit (v x : Int) : Prop := v = 0 ∨ v = x + 1
def jd_rr (nc : Nat) (th T : Nat → Nat → Int) (sf : Nat → Nat → Int) (r : Nat) : Prop := ∀ c, c < nc → jd_fit (sf r c) (jd_cell th T r c 0)
/-- how many first rows look as told -/
def jd_md (nc nr s : Nat) (th T : Nat → Nat → Int) (sf : Nat → Nat → Int) (v : Nat) : Prop := v ≤ nr ∧ v ≤ s ∧ (∀ r, r < v → jd_rr nc th T sf r) ∧ (v = nr ∨ v = s ∨ ¬ jd_rr nc th T sf v)
theorem jl_md {nc nr s : Nat} {th T sf : Nat → Nat → Int} {v w : Nat} (h1 : jd_md nc nr s th T sf v) (h2 : jd_md nc nr s th T sf w) : v = w := by
  obtain ⟨a1, a2, a3, a4⟩ := h1
  obtain ⟨b1, b2, b3, b4⟩ := h2
  rcases Nat.lt_trichotomy v w with q | q | q
  · rcases a4 with z | z | z
    · omega
    · omega
    · exact absurd (b3 v q) z
  · exact q
  · rcases b4 with z | z | z
    · omega
    · omega
    · exact absurd (a3 w q) z
/-- a card's column with a row turned the other way -/
def jd_ot (s : Nat) (th T sf : Nat → Nat → Int) (c k : Nat) : Prop := ∀ r, r < s → jd_fit (sf r c) (jd_cell th T r c (if r < k then 0 else 2))
def jd_cf (s : Nat) (th T sf : Nat → Nat → Int) (c : Nat) : Prop := ∀ r, r < s → jd_fit (sf r c) (jd_cell th T r c 0)
def jd_wr (nc s : Nat) (th T sf : Nat → Nat → Int) (c k : Nat) : Prop := (∀ c', c' < nc → c' ≠ c → jd_cf s th T sf c') ∧ ¬ T k c = 0 ∧ jd_ot s th T sf c k
noncomputable def jd_sk (W : Nat → Prop) (val : Nat → Int) (k : Int) : Nat → Nat → Int → Int
  | 0, _, f => if k = -1 then f else -1
  | n + 1, j, f => @ite _ (W j) (Classical.propDecidable _) (if f = k then val j else jd_sk W val k n (j + 1) (f + 1)) (jd_sk W val k n (j + 1) f)
theorem jl_sk1 {W : Nat → Prop} {val : Nat → Int} {k : Int} {n j : Nat} {f : Int} (h : W j) : jd_sk W val k (n + 1) j f = if f = k then val j else jd_sk W val k n (j + 1) (f + 1) := by
  show @ite _ (W j) (Classical.propDecidable _) _ _ = _
  rw [if_pos h]
theorem jl_sk0 {W : Nat → Prop} {val : Nat → Int} {k : Int} {n j : Nat} {f : Int} (h : ¬ W j) : jd_sk W val k (n + 1) j f = jd_sk W val k n (j + 1) f := by
  show @ite _ (W j) (Classical.propDecidable _) _ _ = _
  rw [if_neg h]
theorem jl_sks {W : Nat → Prop} {val : Nat → Int} {k : Int} {n : Nat} {f : Int} : ∀ (m j : Nat), (∀ i, i < m → ¬ W (j + i)) → jd_sk W val k (m + n) j f = jd_sk W val k n (j + m) f
  | 0, j, _ => by rw [Nat.zero_add]; rfl
  | m + 1, j, h => by
    rw [show m + 1 + n = (m + n) + 1 by omega, jl_sk0 (show ¬ W j from h 0 (by omega)), jl_sks m (j + 1) (fun i hi => by rw [show j + 1 + i = j + (i + 1) by omega]; exact h (i + 1) (by omega)), show j + 1 + m = j + (m + 1) by omega]
theorem jl_skb {W : Nat → Prop} {val : Nat → Int} {k b : Int} (hb : ∀ j, -1 ≤ val j ∧ val j ≤ b) (hb0 : 0 ≤ b) : ∀ (n j : Nat) (f : Int), 0 ≤ f → -1 ≤ jd_sk W val k n j f ∧ jd_sk W val k n j f ≤ b + f + n
  | 0, j, f, hf => by
    show -1 ≤ (if k = -1 then f else -1) ∧ (if k = -1 then f else -1) ≤ b + f + ((0 : Nat) : Int)
    split <;> omega
  | n + 1, j, f, hf => by
    have h1 := jl_skb (W := W) (k := k) hb hb0 n (j + 1) f hf
    have h2 := jl_skb (W := W) (k := k) hb hb0 n (j + 1) (f + 1) (by omega)
    have h3 := hb j
    by_cases h : W j
    · rw [jl_sk1 h]
      split <;> omega
    · rw [jl_sk0 h]; omega
noncomputable def jd_wrv (nc nr s : Nat) (th T sf : Nat → Nat → Int) (k : Int) : Int := if s = 0 ∨ nr < s ∨ k < -1 then -1 else jd_sk (fun j => jd_wr nc s th T sf (j / s) (j % s)) (fun j => 100 * ((j / s : Nat) : Int) + ((j % s : Nat) : Int)) k (s * nc) 0 0
section
variable {L d nc nr s : Nat} {lm : Int} {sd : Nat → Int} {th T sf : Nat → Nat → Int} {μ : qm_M} {Q : Int → qm_M → Prop} {nco : Int}
theorem js_1403_8 {r c : Nat} {x : Int} (hS : jc_st 8 37 nc s sf μ) (hK : jd_sok nc s nco sf) (hco : nco ≤ 6) (hnc : nc ≤ 8) (hr : r < s) (hc : c < nc) (hx : qm_r32 x) (H1 : jd_fit (sf r c) x → Q 1 μ) (H0 : ¬ jd_fit (sf r c) x → Q 0 μ) : qm_CI (qb_T L) (d + 1) 1403 [qm_P 8, qm_I (r : Int), qm_I (c : Int), qm_I x] μ Q := by
  have h1 := hK.1
  have h2 := hK.2 r c hr hc
  refine b1403_8_0 μ _ _ _ _ (js_401i (8 * r + c) rfl (by decide) (by omega) (by omega) ?_)
  rw [hS.2 r c hr hc]
  unfold jd_fit at H1 H0
  refine ⟨by omega, fun z => b1403_8_28 μ _ _ _ _ _ ⟨_, rfl, H1 (Or.inl z)⟩, fun z => ⟨by omega, hx, fun z2 => b1403_8_28 μ _ _ _ _ _ ⟨_, rfl, H1 (Or.inr (by omega))⟩, fun z2 => ⟨_, rfl, H0 (by omega)⟩⟩⟩
theorem js_1403_9 {r c : Nat} {x : Int} (hS : jc_st 9 38 nc s sf μ) (hK : jd_sok nc s nco sf) (hco : nco ≤ 6) (hnc : nc ≤ 8) (hr : r < s) (hc : c < nc) (hx : qm_r32 x) (H1 : jd_fit (sf r c) x → Q 1 μ) (H0 : ¬ jd_fit (sf r c) x → Q 0 μ) : qm_CI (qb_T L) (d + 1) 1403 [qm_P 9, qm_I (r : Int), qm_I (c : Int), qm_I x] μ Q := by
  have h1 := hK.1
  have h2 := hK.2 r c hr hc
  refine b1403_9_0 μ _ _ _ _ (js_401i (8 * r + c) rfl (by decide) (by omega) (by omega) ?_)
  rw [hS.2 r c hr hc]
  unfold jd_fit at H1 H0
  refine ⟨by omega, fun z => b1403_9_28 μ _ _ _ _ _ ⟨_, rfl, H1 (Or.inl z)⟩, fun z => ⟨by omega, hx, fun z2 => b1403_9_28 μ _ _ _ _ _ ⟨_, rfl, H1 (Or.inr (by omega))⟩, fun z2 => ⟨_, rfl, H0 (by omega)⟩⟩⟩
theorem js_1402 {r c : Nat} (hS : jc_st 8 37 nc s sf μ) (hK : jd_sok nc s nco sf) (hco : nco ≤ 6) (hnc : nc ≤ 8) (hr : r < s) (hc : c < nc) (H1 : ¬ sf r c = 0 → Q 1 μ) (H0 : sf r c = 0 → Q 0 μ) : qm_CI (qb_T L) (d + 1) 1402 [qm_P 8, qm_I (r : Int), qm_I (c : Int)] μ Q := by
  have h1 := hK.1
  have h2 := hK.2 r c hr hc
  refine b1402_0 μ _ _ _ (js_401i (8 * r + c) rfl (by decide) (by omega) (by omega) ?_)
  rw [hS.2 r c hr hc]
  exact ⟨by omega, fun z => ⟨_, rfl, H0 z⟩, fun z => ⟨_, rfl, H1 z⟩⟩
theorem js_2469 {b r c : Nat} {y x : Int} (hS : jm_st b nc s sf μ) (hK : jd_sok nc s nco sf) (hco : nco ≤ 6) (hnc : nc ≤ 8) (hb : b < 2) (hy : y = (b : Int)) (hr : r < s) (hc : c < nc) (hx : 0 ≤ x ∧ x < 100) (H1 : jd_fit (sf r c) x → Q 1 μ) (H0 : ¬ jd_fit (sf r c) x → Q 0 μ) : qm_CI (qb_T L) d 2469 [qm_P 13, qm_I y, qm_I (r : Int), qm_I (c : Int), qm_I x] μ Q := by
  subst hy
  have h1 := hK.1
  have h2 := hK.2 r c hr hc
  refine b2469_0 μ _ _ _ _ _ ?_
  rw [show (96 * (b : Int) + 8 * (r : Int) + (c : Int)).toNat = 96 * b + 8 * r + c by omega, hS.2 r c hr hc]
  unfold jd_fit at H1 H0
  refine ⟨by omega, by omega, fun z => b2469_32 μ _ _ _ _ _ _ ⟨_, rfl, H1 (Or.inl z)⟩, fun z => ⟨by omega, by omega, fun z2 => b2469_32 μ _ _ _ _ _ _ ⟨_, rfl, H1 (Or.inr z2)⟩, fun z2 => ⟨_, rfl, H0 (by omega)⟩⟩⟩
theorem js_1404 (hB : jc_belt nc nr lm sd th T μ) (hO : jd_ok nc nr lm sd th T) (hS : jc_st 8 37 nc s sf μ) (hK : jd_sok nc s nco sf) (hco : nco ≤ 6) (H : ∀ v : Nat, jd_md nc nr s th T sf v → Q (v : Int) μ) : qm_CI (qb_T L) (d + 3) 1404 [qm_P 8, qm_P 6] μ Q := by
  have h1 := hO.1
  have h2 := hO.2.1
  have h3 := hK.1
  refine b1404_0 μ _ ?_
  have fin : ∀ (w : qm_V) (v : Nat), v ≤ nr → v ≤ s → (v = nr ∨ v = s) → (∀ r, r < v → jd_rr nc th T sf r) → qm_W (qb_T L) (d + 3) 1404 57 [qm_P 8, qm_P 6, qm_I (v : Int), w] [] μ (fun v μ' => ∃ r, v = some (.inl r) ∧ Q r μ') := by
    intro w v a1 a2 a3 a4
    refine b1404_57 μ _ _ _ ?_
    rw [hS.1, hB.2.1, qa_min, show min (s : Int) (nr : Int) = (v : Int) by omega]
    refine ⟨by omega, by omega, _, rfl, H v ⟨a1, a2, a4, ?_⟩⟩
    rcases a3 with z | z
    · exact Or.inl z
    · exact Or.inr (Or.inl z)
  refine jl_loop (S := fun i => ∀ w, (∀ r, r < i → jd_rr nc th T sf r) → qm_W (qb_T L) (d + 3) 1404 2 [qm_P 8, qm_P 6, qm_I ((i : Nat) : Int), w] [] μ (fun v μ' => ∃ r, v = some (.inl r) ∧ Q r μ')) (min nr s) (fun i hi ih w hp => ?_) (fun w hp => ?_) none (fun r hr => absurd hr (by omega))
  · refine b1404_2 μ _ _ _ ?_
    rw [hS.1, hB.2.1]
    refine ⟨by omega, by omega, fun z => absurd z (by omega), fun _ => ⟨by omega, by omega, fun z => absurd z (by omega), fun _ => ?_⟩⟩
    refine jl_loop (S := fun c => (∀ c', c' < c → jd_fit (sf i c') (jd_cell th T i c' 0)) → qm_W (qb_T L) (d + 3) 1404 20 [qm_P 8, qm_P 6, qm_I ((i : Nat) : Int), qm_I ((c : Nat) : Int)] [] μ (fun v μ' => ∃ r, v = some (.inl r) ∧ Q r μ')) nc (fun c hc ih2 hq => ?_) (fun hq => ?_) (fun c' hc' => absurd hc' (by omega))
    · refine b1404_20 μ _ _ _ ?_
      rw [hB.1]
      have hcb := jl_cellb (r := i) (b := 0) hO hc
      refine ⟨by omega, by omega, fun z => absurd z (by omega), fun _ => js_216 hB hO (by omega) hc (js_1403_8 hS hK hco h1 (by omega) hc (by omega) (fun hf => ⟨by decide, fun q => absurd q (by decide), fun _ => ih2 fun c' hc' => ?_⟩) (fun hf => ⟨by decide, fun _ => ⟨_, rfl, H i ⟨by omega, by omega, hp, Or.inr (Or.inr fun z => hf (z c hc))⟩⟩, fun q => absurd rfl q⟩))⟩
      by_cases hcc : c' = c
      · rw [hcc]; exact hf
      · exact hq c' (by omega)
    · refine b1404_20 μ _ _ _ ?_
      rw [hB.1]
      refine ⟨by omega, by omega, fun _ => ih _ fun r hr => ?_, fun z => absurd (Int.le_refl _) z⟩
      by_cases hri : r = i
      · rw [hri]; exact hq
      · exact hp r (by omega)
  · refine b1404_2 μ _ _ _ ?_
    rw [hS.1, hB.2.1]
    refine ⟨by omega, by omega, fun z => fin w _ (by omega) (by omega) (by omega) hp, fun z => ⟨by omega, by omega, fun z => fin w _ (by omega) (by omega) (by omega) hp, fun z => absurd z (by omega)⟩⟩
theorem js_2488 {r : Nat} (hM : jm_belt nc nr lm sd th T μ) (hO : jd_ok nc nr lm sd th T) (hS : jm_st 0 nc s sf μ) (hK : jd_sok nc s nco sf) (hco : nco ≤ 6) (hr : r < nr) (hr2 : r < s) (H1 : jd_rr nc th T sf r → Q 1 μ) (H0 : ¬ jd_rr nc th T sf r → Q 0 μ) : qm_CI (qb_T L) (d + 3) 2488 [qm_P 13, qm_I (r : Int)] μ Q := by
  have h1 := hO.1
  have h2 := hO.2.1
  refine b2488_0 μ _ _ ?_
  refine jl_loop (S := fun c => (∀ c', c' < c → jd_fit (sf r c') (jd_cell th T r c' 0)) → qm_W (qb_T L) (d + 3) 2488 2 [qm_P 13, qm_I ((r : Nat) : Int), qm_I ((c : Nat) : Int)] [] μ (fun v μ' => ∃ r, v = some (.inl r) ∧ Q r μ')) nc (fun c hc ih2 hq => ?_) (fun hq => ?_) (fun c' hc' => absurd hc' (by omega))
  · have hcb := jl_cellb (r := r) (b := 0) hO hc
    refine b2488_2 μ _ _ _ (js_2436 hM ⟨by omega, by omega, fun z => absurd z (by omega), fun _ => js_2448 hM hO hr hc (by decide) ?_⟩)
    have e : (2 : Int) * jd_is (¬ (0 : Int) = 0) = 0 := rfl
    rw [e]
    refine js_2469 hS hK hco h1 (by decide) rfl hr2 hc (by omega) (fun hf => ⟨by decide, fun q => absurd q (by decide), fun _ => ih2 fun c' hc' => ?_⟩) (fun hf => ⟨by decide, fun _ => ⟨_, rfl, H0 fun z => hf (z c hc)⟩, fun q => absurd rfl q⟩)
    by_cases hcc : c' = c
    · rw [hcc]; exact hf
    · exact hq c' (by omega)
  · exact b2488_2 μ _ _ _ (js_2436 hM ⟨by omega, by omega, fun _ => ⟨_, rfl, H1 hq⟩, fun z => absurd (Int.le_refl _) z⟩)
def jd_mend (nr s v : Nat) : Int := if s = 0 then -1 else (nr : Int) - v
theorem js_2223 (hB : jc_belt nc nr lm sd th T μ) (hO : jd_ok nc nr lm sd th T) (hS : jc_st 8 37 nc s sf μ) (hK : jd_sok nc s nco sf) (hco : nco ≤ 6) (H : ∀ v : Nat, jd_md nc nr s th T sf v → Q (jd_mend nr s v) μ) : qm_CI (qb_T L) (d + 4) 2223 [qm_P 0] μ Q := by
  have h3 := hK.1
  have hv : ∃ v : Nat, jd_md nc nr s th T sf v := by
    have hx := js_1404 (L := 0) (d := 0) (Q := fun _ _ => ∃ v : Nat, jd_md nc nr s th T sf v) hB hO hS hK hco (fun v h1 => ⟨v, h1⟩)
    obtain ⟨_, _, _, _, _, _, h⟩ := hx
    exact h
  refine b2223_0 μ _ ?_
  rw [hS.1]
  unfold jd_mend at H
  refine ⟨by omega, fun z => ⟨_, rfl, ?_⟩, fun z => js_1404 hB hO hS hK hco fun v hv => ⟨_, rfl, ?_⟩⟩
  · obtain ⟨v, hv⟩ := hv
    have H2 := H v hv
    rw [if_pos (by omega)] at H2; exact H2
  · have H2 := H v hv
    rw [if_neg (by omega)] at H2
    rw [hB.2.1]; exact H2
theorem js_2489 (hM : jm_belt nc nr lm sd th T μ) (hO : jd_ok nc nr lm sd th T) (hS : jm_st 0 nc s sf μ) (hK : jd_sok nc s nco sf) (hco : nco ≤ 6) (hv : ∃ v : Nat, jd_md nc nr s th T sf v) (H : ∀ v : Nat, jd_md nc nr s th T sf v → Q (jd_mend nr s v) μ) : qm_CI (qb_T L) (d + 4) 2489 [qm_P 13] μ Q := by
  have h2 := hO.2.1
  have h3 := hK.1
  refine b2489_0 μ _ ?_
  have hS1 : μ 69 0 = (s : Int) := hS.1
  rw [hS1]
  unfold jd_mend at H
  refine ⟨by omega, fun z => ⟨_, rfl, ?_⟩, fun z => ?_⟩
  · obtain ⟨v, hv⟩ := hv
    have H2 := H v hv
    rw [if_pos (by omega)] at H2; exact H2
  have fin : ∀ v : Nat, jd_md nc nr s th T sf v → Q ((nr : Int) - v) μ := fun v hv => by
    have H2 := H v hv
    rw [if_neg (by omega)] at H2; exact H2
  refine jl_loop (S := fun i => (∀ r, r < i → jd_rr nc th T sf r) → qm_W (qb_T L) (d + 4) 2489 13 [qm_P 13, qm_I ((i : Nat) : Int)] [] μ (fun v μ' => ∃ r, v = some (.inl r) ∧ Q r μ')) (min nr s) (fun i hi ih hp => ?_) (fun hp => ?_) (fun r hr => absurd hr (by omega))
  · refine b2489_13 μ _ _ ?_
    rw [hM.2.1, hS1]
    refine ⟨by omega, by omega, fun z => absurd z (by omega), fun _ => ⟨by omega, by omega, fun z => absurd z (by omega), fun _ => js_2488 hM hO hS hK hco (by omega) (by omega) (fun hf => ⟨by decide, fun q => absurd q (by decide), fun _ => ih fun r hr => ?_⟩) (fun hf => ⟨by decide, fun _ => ⟨_, rfl, by rw [hM.2.1]; exact fin i ⟨by omega, by omega, hp, Or.inr (Or.inr hf)⟩⟩, fun q => absurd rfl q⟩)⟩⟩
    by_cases hri : r = i
    · rw [hri]; exact hf
    · exact hp r (by omega)
  · refine b2489_13 μ _ _ ?_
    rw [hM.2.1, hS1]
    refine ⟨by omega, by omega, fun z => ⟨_, rfl, fin _ ⟨by omega, by omega, hp, Or.inl (by omega)⟩⟩, fun z => ⟨by omega, by omega, fun z => ⟨_, rfl, fin _ ⟨by omega, by omega, hp, Or.inr (Or.inl (by omega))⟩⟩, fun z => absurd z (by omega)⟩⟩
theorem js_1405 {c : Nat} (hB : jc_belt nc nr lm sd th T μ) (hO : jd_ok nc nr lm sd th T) (hS : jc_st 8 37 nc s sf μ) (hK : jd_sok nc s nco sf) (hco : nco ≤ 6) (hsr : s ≤ nr) (hc : c < nc) (H1 : jd_cf s th T sf c → Q 1 μ) (H0 : ¬ jd_cf s th T sf c → Q 0 μ) : qm_CI (qb_T L) (d + 3) 1405 [qm_P 8, qm_P 6, qm_I (c : Int)] μ Q := by
  have h1 := hO.1
  have h3 := hK.1
  refine b1405_0 μ _ _ ?_
  refine jl_loop (S := fun i => (∀ r, r < i → jd_fit (sf r c) (jd_cell th T r c 0)) → qm_W (qb_T L) (d + 3) 1405 2 [qm_P 8, qm_P 6, qm_I (c : Int), qm_I ((i : Nat) : Int)] [] μ (fun v μ' => ∃ r, v = some (.inl r) ∧ Q r μ')) s (fun i hi ih hp => ?_) (fun hp => ?_) (fun r hr => absurd hr (by omega))
  · have hcb := jl_cellb (r := i) (b := 0) hO hc
    refine b1405_2 μ _ _ _ ?_
    rw [hS.1]
    refine ⟨by omega, by omega, fun z => absurd z (by omega), fun _ => js_216 hB hO (by omega) hc (js_1403_8 hS hK hco h1 hi hc (by omega) (fun hf => ⟨by decide, fun q => absurd q (by decide), fun _ => ih fun r hr => ?_⟩) (fun hf => ⟨by decide, fun _ => ⟨_, rfl, H0 fun z => hf (z i hi)⟩, fun q => absurd rfl q⟩))⟩
    by_cases hri : r = i
    · rw [hri]; exact hf
    · exact hp r (by omega)
  · refine b1405_2 μ _ _ _ ?_
    rw [hS.1]
    exact ⟨by omega, by omega, fun _ => ⟨_, rfl, H1 hp⟩, fun z => absurd (Int.le_refl _) z⟩
theorem js_1406 {c : Nat} (hB : jc_belt nc nr lm sd th T μ) (hO : jd_ok nc nr lm sd th T) (hS : jc_st 8 37 nc s sf μ) (hK : jd_sok nc s nco sf) (hco : nco ≤ 6) (hsr : s ≤ nr) (hc : c < nc) (H1 : (∀ c', c' < nc → c' ≠ c → jd_cf s th T sf c') → Q 1 μ) (H0 : ¬ (∀ c', c' < nc → c' ≠ c → jd_cf s th T sf c') → Q 0 μ) : qm_CI (qb_T L) (d + 4) 1406 [qm_P 8, qm_P 6, qm_I (c : Int)] μ Q := by
  have h1 := hO.1
  refine b1406_0 μ _ _ ?_
  refine jl_loop (S := fun i => (∀ c', c' < i → c' ≠ c → jd_cf s th T sf c') → qm_W (qb_T L) (d + 4) 1406 2 [qm_P 8, qm_P 6, qm_I (c : Int), qm_I ((i : Nat) : Int)] [] μ (fun v μ' => ∃ r, v = some (.inl r) ∧ Q r μ')) nc (fun i hi ih hp => ?_) (fun hp => ?_) (fun r hr => absurd hr (by omega))
  · refine b1406_2 μ _ _ _ ?_
    rw [hB.1]
    refine ⟨by omega, by omega, fun z => absurd z (by omega), fun _ => ⟨by omega, by omega, fun z => b1406_26 μ _ _ _ (ih fun c' a1 a2 => hp c' (by omega) a2), fun z => ?_⟩⟩
    refine js_1405 hB hO hS hK hco hsr hi (fun hf => ⟨by decide, fun q => absurd q (by decide), fun _ => b1406_26 μ _ _ _ (ih fun c' a1 a2 => ?_)⟩) (fun hf => ⟨by decide, fun _ => ⟨_, rfl, H0 fun y => hf (y i hi (by omega))⟩, fun q => absurd rfl q⟩)
    by_cases hri : c' = i
    · rw [hri]; exact hf
    · exact hp c' (by omega) a2
  · refine b1406_2 μ _ _ _ ?_
    rw [hB.1]
    exact ⟨by omega, by omega, fun _ => ⟨_, rfl, H1 hp⟩, fun z => absurd (Int.le_refl _) z⟩
theorem js_1407 {c k : Nat} (hB : jc_belt nc nr lm sd th T μ) (hO : jd_ok nc nr lm sd th T) (hS : jc_st 8 37 nc s sf μ) (hK : jd_sok nc s nco sf) (hco : nco ≤ 6) (hsr : s ≤ nr) (hc : c < nc) (hk : k < s) (H1 : ¬ T k c = 0 → jd_ot s th T sf c k → Q 1 μ) (H0 : ¬ (¬ T k c = 0 ∧ jd_ot s th T sf c k) → Q 0 μ) : qm_CI (qb_T L) (d + 3) 1407 [qm_P 8, qm_P 6, qm_I (c : Int), qm_I (k : Int)] μ Q := by
  have h1 := hO.1
  have h3 := hK.1
  refine b1407_0 μ _ _ _ (js_214 hB hO (by omega) hc ?_)
  have ht := hO.2.2.2.2.2.1 k c (by omega) hc
  refine ⟨by omega, fun z => ⟨_, rfl, H0 fun y => y.1 z⟩, fun hT => ?_⟩
  refine jl_loop (S := fun i => ∀ w, (∀ r, r < i → jd_fit (sf r c) (jd_cell th T r c (if r < k then 0 else 2))) → qm_W (qb_T L) (d + 3) 1407 14 [qm_P 8, qm_P 6, qm_I (c : Int), qm_I (k : Int), qm_I ((i : Nat) : Int), w] [] μ (fun v μ' => ∃ r, v = some (.inl r) ∧ Q r μ')) s (fun i hi ih w hp => ?_) (fun w hp => ?_) none (fun r hr => absurd hr (by omega))
  · have go : ∀ v, v = jd_cell th T i c (if i < k then 0 else 2) → qm_W (qb_T L) (d + 3) 1407 46 [qm_P 8, qm_P 6, qm_I (c : Int), qm_I (k : Int), qm_I ((i : Nat) : Int), w] [qm_I v] μ (fun v μ' => ∃ r, v = some (.inl r) ∧ Q r μ') := by
      intro v hv
      have hcb := jl_cellb (r := i) (b := if i < k then 0 else 2) hO hc
      rw [← hv] at hcb
      refine b1407_46 μ _ _ _ _ _ _ (js_1403_8 hS hK hco h1 hi hc (by omega) (fun hf => ⟨by decide, fun q => absurd q (by decide), fun _ => ih _ fun r hr => ?_⟩) (fun hf => ⟨by decide, fun _ => ⟨_, rfl, H0 fun z => hf (by rw [hv]; exact z.2 i hi)⟩, fun q => absurd rfl q⟩))
      by_cases hri : r = i
      · rw [hri, ← hv]; exact hf
      · exact hp r (by omega)
    refine b1407_14 μ _ _ _ _ _ ?_
    rw [hS.1]
    refine ⟨by omega, by omega, fun z => absurd z (by omega), fun _ => ⟨by omega, by omega, fun z => js_217 hB hO (by omega) hc (go _ ?_), fun z => js_216 hB hO (by omega) hc (go _ ?_)⟩⟩
    · rw [if_neg (by omega)]
    · rw [if_pos (by omega)]
  · refine b1407_14 μ _ _ _ _ _ ?_
    rw [hS.1]
    exact ⟨by omega, by omega, fun _ => ⟨_, rfl, H1 hT hp⟩, fun z => absurd (Int.le_refl _) z⟩
theorem jr_wrong {k : Int} (hs : s ≤ 12) (hnc : nc ≤ 8) : qm_r32 (jd_wrv nc nr s th T sf k) := by
  unfold jd_wrv
  split
  · omega
  rename_i h
  have h1 : s * nc ≤ 12 * 8 := Nat.mul_le_mul hs hnc
  have h2 : ∀ j, -1 ≤ 100 * ((min (j / s) 8 : Nat) : Int) + ((j % s : Nat) : Int) ∧ 100 * ((min (j / s) 8 : Nat) : Int) + ((j % s : Nat) : Int) ≤ 1000 := fun j => by
    have := Nat.mod_lt j (show 0 < s by omega)
    have hq : (0 : Int) ≤ ((j / s : Nat) : Int) := Int.natCast_nonneg _
    omega
  have h3 : ∀ (W : Nat → Prop) (n j : Nat) (f : Int), j + n ≤ s * nc → jd_sk W (fun j => 100 * ((j / s : Nat) : Int) + ((j % s : Nat) : Int)) k n j f = jd_sk W (fun j => 100 * ((min (j / s) 8 : Nat) : Int) + ((j % s : Nat) : Int)) k n j f := by
    intro W n
    induction n with
    | zero => intro j f _; rfl
    | succ n ih =>
      intro j f hj
      have e : min (j / s) 8 = j / s := by
        have : j / s < nc := Nat.div_lt_of_lt_mul (by omega)
        omega
      by_cases hW : W j
      · rw [jl_sk1 hW, jl_sk1 hW, ih _ _ (by omega), e]
      · rw [jl_sk0 hW, jl_sk0 hW, ih _ _ (by omega)]
  rw [h3 _ _ _ _ (by omega)]
  have h4 := jl_skb (W := fun j => jd_wr nc s th T sf (j / s) (j % s)) (k := k) h2 (by decide) (s * nc) 0 0 (by decide)
  omega
theorem jl_dm {r c : Nat} (hr : r < s) : (s * c + r) / s = c ∧ (s * c + r) % s = r := jl_rc hr
theorem js_2222 {k : Int} (hB : jc_belt nc nr lm sd th T μ) (hO : jd_ok nc nr lm sd th T) (hS : jc_st 8 37 nc s sf μ) (hK : jd_sok nc s nco sf) (hco : nco ≤ 6) (hk : qm_r32 k) (H : Q (jd_wrv nc nr s th T sf k) μ) : qm_CI (qb_T L) (d + 5) 2222 [qm_P 0, qm_I k] μ Q := by
  have h1 := hO.1
  have h2 := hO.2.1
  have h3 := hK.1
  refine b2222_0 μ _ _ ?_
  rw [hS.1, hB.2.1]
  unfold jd_wrv at H
  have no : (s = 0 ∨ nr < s ∨ k < -1) → ∃ r, qm_I (-1) = some (.inl r) ∧ Q r μ := fun z => ⟨_, rfl, by rw [if_pos z] at H; exact H⟩
  refine ⟨hk, fun z => no (by omega), fun hk1 => ⟨by omega, fun z => no (by omega), fun hs0 => ⟨by omega, by omega, fun hsr => ?_, fun z => no (by omega)⟩⟩⟩
  rw [if_neg (by omega)] at H
  generalize hW : (fun j => jd_wr nc s th T sf (j / s) (j % s)) = W at H
  generalize hv : (fun j => 100 * ((j / s : Nat) : Int) + ((j % s : Nat) : Int)) = val at H
  have hWj : ∀ j, W j ↔ jd_wr nc s th T sf (j / s) (j % s) := fun j => by rw [← hW]
  have hvj : ∀ j, val j = 100 * ((j / s : Nat) : Int) + ((j % s : Nat) : Int) := fun j => by rw [← hv]
  refine jl_loop (S := fun c => ∀ f w, 0 ≤ f → f ≤ ((s * c : Nat) : Int) → Q (jd_sk W val k (s * (nc - c)) (s * c) f) μ → qm_W (qb_T L) (d + 5) 2222 38 [qm_P 0, qm_I k, qm_I f, qm_I ((c : Nat) : Int), w] [] μ (fun v μ' => ∃ r, v = some (.inl r) ∧ Q r μ')) nc (fun c hc ih f w hf hf2 hq => ?_) (fun f w hf hf2 hq => ?_) 0 none (by decide) (by omega) H
  · have hsc : s * (c + 1) = s * c + s := by rw [Nat.mul_add, Nat.mul_one]
    have hsc2 : s * (nc - c) = s + s * (nc - (c + 1)) := by
      rw [show nc - c = 1 + (nc - (c + 1)) by omega, Nat.mul_add, Nat.mul_one]
    have hb : s * c ≤ 12 * 8 := Nat.mul_le_mul h3 (by omega)
    refine b2222_38 μ _ _ _ _ _ ?_
    rw [hB.1]
    refine ⟨by omega, by omega, fun z => absurd z (by omega), fun _ => js_1406 hB hO hS hK hco (by omega) hc (fun ho => ⟨by decide, fun q => absurd q (by decide), fun _ => ?_⟩) (fun ho => ⟨by decide, fun _ => b2222_124 μ _ _ _ _ _ ?_, fun q => absurd rfl q⟩)⟩
    · refine jl_loop (S := fun r => ∀ f, 0 ≤ f → f ≤ ((s * c + r : Nat) : Int) → Q (jd_sk W val k ((s - r) + s * (nc - (c + 1))) (s * c + r) f) μ → qm_W (qb_T L) (d + 5) 2222 70 [qm_P 0, qm_I k, qm_I f, qm_I ((c : Nat) : Int), qm_I ((r : Nat) : Int)] [] μ (fun v μ' => ∃ r, v = some (.inl r) ∧ Q r μ')) s (fun r hr ih2 f hf hf2 hq => ?_) (fun f hf hf2 hq => ?_) f hf (by omega) (by rw [Nat.sub_zero, ← hsc2]; exact hq)
      · refine b2222_70 μ _ _ _ _ _ ?_
        rw [hS.1]
        rw [show s - r + s * (nc - (c + 1)) = (s - (r + 1) + s * (nc - (c + 1))) + 1 by omega] at hq
        have hdm := jl_dm (c := c) hr
        refine ⟨by omega, by omega, fun z => absurd z (by omega), fun _ => js_1407 hB hO hS hK hco (by omega) hc hr (fun a1 a2 => ⟨by decide, fun q => absurd q (by decide), fun _ => ⟨by omega, hk, fun z => ?_, fun z => b2222_118 μ _ _ _ _ _ ?_⟩⟩) (fun a1 => ⟨by decide, fun _ => b2222_118 μ _ _ _ _ _ ?_, fun q => absurd rfl q⟩)⟩
        · rw [jl_sk1 ((hWj _).mpr (by rw [hdm.1, hdm.2]; exact ⟨ho, a1, a2⟩)), if_pos z, hvj, hdm.1, hdm.2] at hq
          exact ⟨_, rfl, hq⟩
        · rw [jl_sk1 ((hWj _).mpr (by rw [hdm.1, hdm.2]; exact ⟨ho, a1, a2⟩)), if_neg z] at hq
          exact ih2 _ (by omega) (by omega) hq
        · rw [jl_sk0 (fun y => a1 (by rw [hWj, hdm.1, hdm.2] at y; exact y.2))] at hq
          exact ih2 _ hf (by omega) hq
      · refine b2222_70 μ _ _ _ _ _ ?_
        rw [hS.1]
        rw [Nat.sub_self, Nat.zero_add, ← hsc] at hq
        exact ⟨by omega, by omega, fun _ => b2222_124 μ _ _ _ _ _ (ih f _ hf (by omega) hq), fun z => absurd (Int.le_refl _) z⟩
    · rw [hsc2, jl_sks s (s * c) (fun i hi y => ho (by rw [hWj, (jl_dm hi).1] at y; exact y.1)), ← hsc] at hq
      exact ih f _ hf (by omega) hq
  · refine b2222_38 μ _ _ _ _ _ ?_
    rw [hB.1]
    rw [Nat.sub_self, Nat.mul_zero] at hq
    have hq2 : Q (if k = -1 then f else -1) μ := hq
    refine ⟨by omega, by omega, fun _ => ⟨hk, fun z => ⟨_, rfl, ?_⟩, fun z => ⟨_, rfl, ?_⟩⟩, fun z => absurd (Int.le_refl _) z⟩
    · rw [if_pos z] at hq2; exact hq2
    · rw [if_neg z] at hq2; exact hq2
/-! the reference's -/
theorem js_2485 {c : Nat} {k : Int} (hM : jm_belt nc nr lm sd th T μ) (hO : jd_ok nc nr lm sd th T) (hS : jm_st 0 nc s sf μ) (hK : jd_sok nc s nco sf) (hco : nco ≤ 6) (hsr : s ≤ nr) (hc : c < nc) (hk : -1 ≤ k ∧ k < 100) (hT : ∀ k' : Nat, k = (k' : Int) → k' < s ∧ ¬ T k' c = 0) (H1 : (∀ r, r < s → jd_fit (sf r c) (jd_cell th T r c (if k < 0 ∨ (r : Int) < k then 0 else 2))) → Q 1 μ) (H0 : ¬ (∀ r, r < s → jd_fit (sf r c) (jd_cell th T r c (if k < 0 ∨ (r : Int) < k then 0 else 2))) → Q 0 μ) : qm_CI (qb_T L) (d + 1) 2485 [qm_P 13, qm_I (c : Int), qm_I k] μ Q := by
  have h1 := hO.1
  have h2 := hO.2.1
  have h3 := hK.1
  have hS1 : μ 69 0 = (s : Int) := hS.1
  refine b2485_0 μ _ _ _ ?_
  refine jl_loop (S := fun i => ∀ tw w, tw = jd_tw (fun r => T r c) i - (if k < 0 ∨ (i : Int) ≤ k then 0 else 2 * jd_mv (T k.toNat c)) → (∀ r, r < i → jd_fit (sf r c) (jd_cell th T r c (if k < 0 ∨ (r : Int) < k then 0 else 2))) → qm_W (qb_T L) (d + 1) 2485 5 [qm_P 13, qm_I (c : Int), qm_I k, qm_I tw, qm_I ((i : Nat) : Int), w] [] μ (fun v μ' => ∃ r, v = some (.inl r) ∧ Q r μ')) s (fun i hi ih tw w htw hp => ?_) (fun tw w htw hp => ?_) 0 none (by rw [if_pos (by omega)]; rfl) (fun r hr => absurd hr (by omega))
  · have ht := hO.2.2.2.2.2.1 i c (by omega) hc
    have hb := jl_twb (fun r => T r c) i
    have hmi := jl_mv (T i c)
    have hmk := jl_mv (T k.toNat c)
    have e1 : jd_tw (fun r => T r c) (i + 1) = jd_tw (fun r => T r c) i + jd_mv (T i c) := rfl
    refine b2485_5 μ _ _ _ _ _ _ ?_
    rw [hS1, show ((8 * (i : Int)) + (c : Int)).toNat = 8 * i + c by omega, hM.2.2.2.2.2 i c (by omega) hc]
    have go : ∀ dv, tw + dv = jd_tw (fun r => T r c) (i + 1) - (if k < 0 ∨ ((i + 1 : Nat) : Int) ≤ k then 0 else 2 * jd_mv (T k.toNat c)) → qm_W (qb_T L) (d + 1) 2485 48 [qm_P 13, qm_I (c : Int), qm_I k, qm_I tw, qm_I ((i : Nat) : Int), qm_I (jd_mv (T i c))] [qm_I dv, qm_I tw] μ (fun v μ' => ∃ r, v = some (.inl r) ∧ Q r μ') := by
      intro dv hdv
      have hr : -100 ≤ tw + dv ∧ tw + dv ≤ 100 := by rw [hdv]; split <;> omega
      refine b2485_48 μ _ _ _ _ _ _ _ _ (js_2446 (by omega) (js_2447 hM hO hc (by omega) ?_))
      have hcell : th c (jd_c4 ((tw + dv) % 4)) = jd_cell th T i c (if k < 0 ∨ (i : Int) < k then 0 else 2) := by
        unfold jd_cell
        refine congrArg (th c) (jl_c4e ?_)
        rw [hdv]
        by_cases hki : k < 0 ∨ ((i + 1 : Nat) : Int) ≤ k
        · rw [if_pos hki, if_pos (by omega)]; omega
        · rw [if_neg hki, if_neg (by omega)]
          have hne := hT k.toNat (by omega)
          have hb3 := hO.2.2.2.2.2.1 k.toNat c (by omega) hc
          have hm : jd_mv (T k.toNat c) = 1 ∨ jd_mv (T k.toNat c) = -1 := by
            unfold jd_mv
            split
            · omega
            · split <;> omega
          omega
      rw [hcell]
      have hcb := jl_cellb (r := i) (b := if k < 0 ∨ (i : Int) < k then 0 else 2) hO hc
      refine js_2469 hS hK hco h1 (by decide) rfl hi hc (by omega) (fun hf => ⟨by decide, fun q => absurd q (by decide), fun _ => ih _ _ hdv fun r hr => ?_⟩) (fun hf => ⟨by decide, fun _ => ⟨_, rfl, H0 fun z => hf (z i hi)⟩, fun q => absurd rfl q⟩)
      by_cases hri : r = i
      · rw [hri]; exact hf
      · exact hp r (by omega)
    refine ⟨by omega, by omega, fun z => absurd z (by omega), fun _ => ⟨by omega, js_2440 (by omega) ⟨by omega, by omega, fun z => go _ ?_, fun z => go _ ?_⟩⟩⟩
    · rw [htw, e1, if_pos (by omega), if_neg (by omega), show k.toNat = i by omega]; omega
    · rw [htw, e1]
      by_cases hki : k < 0 ∨ ((i + 1 : Nat) : Int) ≤ k
      · rw [if_pos (by omega), if_pos hki]; omega
      · rw [if_neg (by omega), if_neg hki]; omega
  · refine b2485_5 μ _ _ _ _ _ _ ?_
    rw [hS1]
    exact ⟨by omega, by omega, fun _ => ⟨_, rfl, H1 hp⟩, fun z => absurd (Int.le_refl _) z⟩
theorem js_2486 {c k : Nat} (hM : jm_belt nc nr lm sd th T μ) (hO : jd_ok nc nr lm sd th T) (hS : jm_st 0 nc s sf μ) (hK : jd_sok nc s nco sf) (hco : nco ≤ 6) (hsr : s ≤ nr) (hc : c < nc) (hk : k < s) (H1 : jd_wr nc s th T sf c k → Q 1 μ) (H0 : ¬ jd_wr nc s th T sf c k → Q 0 μ) : qm_CI (qb_T L) (d + 2) 2486 [qm_P 13, qm_I (c : Int), qm_I (k : Int)] μ Q := by
  have h1 := hO.1
  have h2 := hO.2.1
  have h3 := hK.1
  have ht := hO.2.2.2.2.2.1 k c (by omega) hc
  refine b2486_0 μ _ _ _ ?_
  rw [show ((8 * (k : Int)) + (c : Int)).toNat = 8 * k + c by omega, hM.2.2.2.2.2 k c (by omega) hc]
  have e : ∀ r : Nat, (if (k : Int) < 0 ∨ (r : Int) < (k : Int) then (0 : Int) else 2) = if r < k then 0 else 2 := fun r => by
    by_cases h : r < k
    · rw [if_pos h, if_pos (by omega)]
    · rw [if_neg h, if_neg (by omega)]
  refine ⟨by omega, by omega, fun z => ⟨_, rfl, H0 fun y => y.2.1 z⟩, fun hT => ?_⟩
  refine js_2485 hM hO hS hK hco hsr hc (by omega) (fun k' hk' => by obtain rfl : k = k' := by omega
                                                                     exact ⟨hk, hT⟩) (fun ho => ⟨by decide, fun q => absurd q (by decide), fun _ => ?_⟩) (fun ho => ⟨by decide, fun _ => ⟨_, rfl, H0 fun y => ho fun r hr => by rw [e]; exact y.2.2 r hr⟩, fun q => absurd rfl q⟩)
  refine jl_loop (S := fun i => (∀ c', c' < i → c' ≠ c → jd_cf s th T sf c') → qm_W (qb_T L) (d + 2) 2486 27 [qm_P 13, qm_I (c : Int), qm_I (k : Int), qm_I ((i : Nat) : Int)] [] μ (fun v μ' => ∃ r, v = some (.inl r) ∧ Q r μ')) nc (fun i hi ih hp => ?_) (fun hp => ?_) (fun r hr => absurd hr (by omega))
  · refine b2486_27 μ _ _ _ _ (js_2436 hM ⟨by omega, by omega, fun z => absurd z (by omega), fun _ => ⟨by omega, by omega, fun z => b2486_51 μ _ _ _ _ (ih fun c' a1 a2 => hp c' (by omega) a2), fun z => ?_⟩⟩)
    have e2 : ∀ r : Nat, (if (-1 : Int) < 0 ∨ (r : Int) < -1 then (0 : Int) else 2) = 0 := fun r => if_pos (Or.inl (by decide))
    refine js_2485 hM hO hS hK hco hsr hi (by omega) (fun k' hk' => by omega) (fun hf => ⟨by decide, fun q => absurd q (by decide), fun _ => b2486_51 μ _ _ _ _ (ih fun c' a1 a2 => ?_)⟩) (fun hf => ⟨by decide, fun _ => ⟨_, rfl, H0 fun y => hf fun r hr => by rw [e2]; exact y.1 i hi (by omega) r hr⟩, fun q => absurd rfl q⟩)
    by_cases hri : c' = i
    · rw [hri]
      intro r hr
      have := hf r hr
      rw [e2] at this; exact this
    · exact hp c' (by omega) a2
  · exact b2486_27 μ _ _ _ _ (js_2436 hM ⟨by omega, by omega, fun _ => ⟨_, rfl, H1 ⟨hp, hT, fun r hr => by rw [← e]; exact ho r hr⟩⟩, fun z => absurd (Int.le_refl _) z⟩)
theorem js_2487 {k : Int} (hM : jm_belt nc nr lm sd th T μ) (hO : jd_ok nc nr lm sd th T) (hS : jm_st 0 nc s sf μ) (hK : jd_sok nc s nco sf) (hco : nco ≤ 6) (hk : qm_r32 k) (H : Q (jd_wrv nc nr s th T sf k) μ) : qm_CI (qb_T L) (d + 3) 2487 [qm_P 13, qm_I k] μ Q := by
  have h1 := hO.1
  have h2 := hO.2.1
  have h3 := hK.1
  have hS1 : μ 69 0 = (s : Int) := hS.1
  refine b2487_0 μ _ _ ?_
  rw [hS1, hM.2.1]
  have no : (s = 0 ∨ nr < s) → ∃ r, qm_I (-1) = some (.inl r) ∧ Q r μ := fun z => ⟨_, rfl, by unfold jd_wrv at H; rw [if_pos (by omega)] at H; exact H⟩
  refine ⟨by omega, fun z => no (by omega), fun hs0 => ⟨by omega, by omega, fun hsr => ?_, fun z => no (by omega)⟩⟩
  have hneg : ∀ (W : Nat → Prop) (val : Nat → Int) (n j : Nat) (f : Int), k < -1 → 0 ≤ f → jd_sk W val k n j f = -1 := by
    intro W val n
    induction n with
    | zero => intro j f a1 a2; show (if k = -1 then f else -1) = -1; rw [if_neg (by omega)]
    | succ n ih =>
      intro j f a1 a2
      by_cases hW : W j
      · rw [jl_sk1 hW, if_neg (by omega)]; exact ih _ _ a1 (by omega)
      · rw [jl_sk0 hW]; exact ih _ _ a1 a2
  have H' : Q (jd_sk (fun j => jd_wr nc s th T sf (j / s) (j % s)) (fun j => 100 * ((j / s : Nat) : Int) + ((j % s : Nat) : Int)) k (s * nc) 0 0) μ := by
    unfold jd_wrv at H
    by_cases hk1 : k < -1
    · rw [if_pos (by omega)] at H
      rw [hneg _ _ _ _ _ hk1 (by decide)]; exact H
    · rw [if_neg (by omega)] at H; exact H
  generalize hW : (fun j => jd_wr nc s th T sf (j / s) (j % s)) = W at H'
  generalize hv : (fun j => 100 * ((j / s : Nat) : Int) + ((j % s : Nat) : Int)) = val at H'
  have hWj : ∀ j, W j ↔ jd_wr nc s th T sf (j / s) (j % s) := fun j => by rw [← hW]
  have hvj : ∀ j, val j = 100 * ((j / s : Nat) : Int) + ((j % s : Nat) : Int) := fun j => by rw [← hv]
  refine jl_loop (S := fun c => ∀ f w, 0 ≤ f → f ≤ ((s * c : Nat) : Int) → Q (jd_sk W val k (s * (nc - c)) (s * c) f) μ → qm_W (qb_T L) (d + 3) 2487 28 [qm_P 13, qm_I k, qm_I f, qm_I ((c : Nat) : Int), w] [] μ (fun v μ' => ∃ r, v = some (.inl r) ∧ Q r μ')) nc (fun c hc ih f w hf hf2 hq => ?_) (fun f w hf hf2 hq => ?_) 0 none (by decide) (by omega) H'
  · have hsc : s * (c + 1) = s * c + s := by rw [Nat.mul_add, Nat.mul_one]
    have hsc2 : s * (nc - c) = s + s * (nc - (c + 1)) := by
      rw [show nc - c = 1 + (nc - (c + 1)) by omega, Nat.mul_add, Nat.mul_one]
    have hb : s * c ≤ 12 * 8 := Nat.mul_le_mul h3 (by omega)
    refine b2487_28 μ _ _ _ _ _ (js_2436 hM ⟨by omega, by omega, fun z => absurd z (by omega), fun _ => ?_⟩)
    refine jl_loop (S := fun r => ∀ f, 0 ≤ f → f ≤ ((s * c + r : Nat) : Int) → Q (jd_sk W val k ((s - r) + s * (nc - (c + 1))) (s * c + r) f) μ → qm_W (qb_T L) (d + 3) 2487 39 [qm_P 13, qm_I k, qm_I f, qm_I ((c : Nat) : Int), qm_I ((r : Nat) : Int)] [] μ (fun v μ' => ∃ r, v = some (.inl r) ∧ Q r μ')) s (fun r hr ih2 f hf hf2 hq => ?_) (fun f hf hf2 hq => ?_) f hf (by omega) (by rw [Nat.sub_zero, ← hsc2]; exact hq)
    · refine b2487_39 μ _ _ _ _ _ ?_
      rw [hS1]
      rw [show s - r + s * (nc - (c + 1)) = (s - (r + 1) + s * (nc - (c + 1))) + 1 by omega] at hq
      have hdm := jl_dm (c := c) hr
      refine ⟨by omega, by omega, fun z => absurd z (by omega), fun _ => js_2486 hM hO hS hK hco (by omega) hc hr (fun a1 => ⟨by decide, fun q => absurd q (by decide), fun _ => ⟨by omega, hk, fun z => ?_, fun z => b2487_79 μ _ _ _ _ _ ?_⟩⟩) (fun a1 => ⟨by decide, fun _ => b2487_79 μ _ _ _ _ _ ?_, fun q => absurd rfl q⟩)⟩
      · rw [jl_sk1 ((hWj _).mpr (by rw [hdm.1, hdm.2]; exact a1)), if_pos z, hvj, hdm.1, hdm.2] at hq
        exact ⟨_, rfl, hq⟩
      · rw [jl_sk1 ((hWj _).mpr (by rw [hdm.1, hdm.2]; exact a1)), if_neg z] at hq
        exact ih2 _ (by omega) (by omega) hq
      · rw [jl_sk0 (fun y => a1 (by rw [hWj, hdm.1, hdm.2] at y; exact y))] at hq
        exact ih2 _ hf (by omega) hq
    · refine b2487_39 μ _ _ _ _ _ ?_
      rw [hS1]
      rw [Nat.sub_self, Nat.zero_add, ← hsc] at hq
      exact ⟨by omega, by omega, fun _ => ih f _ hf (by omega) hq, fun z => absurd (Int.le_refl _) z⟩
  · rw [Nat.sub_self, Nat.mul_zero] at hq
    have hq2 : Q (if k = -1 then f else -1) μ := hq
    refine b2487_28 μ _ _ _ _ _ (js_2436 hM ⟨by omega, by omega, fun _ => ⟨hk, fun z => ⟨_, rfl, ?_⟩, fun z => ⟨_, rfl, ?_⟩⟩, fun z => absurd (Int.le_refl _) z⟩)
    · rw [if_pos z] at hq2; exact hq2
    · rw [if_neg z] at hq2; exact hq2
end
