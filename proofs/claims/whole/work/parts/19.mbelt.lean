/-! ===== the reference's belt, read ===== -/
section
variable {L d nc nr : Nat} {lm : Int} {sd : Nat → Int} {th T : Nat → Nat → Int} {μ : qm_M} {Q : Int → qm_M → Prop}
theorem jl_tm4 (x : Int) : (x.tmod 4 + 4) % 4 = x % 4 := by
  have h := Int.tmod_eq_emod (a := x) (b := 4)
  rw [h]
  split
  · omega
  · omega
theorem jl_tm4b (x : Int) : -4 < x.tmod 4 ∧ x.tmod 4 < 4 := by
  have h := Int.tmod_eq_emod (a := x) (b := 4)
  rw [h]
  split
  · omega
  · omega
theorem js_219 {b x : Int} (hB : jc_belt nc nr lm sd th T μ) (hO : jd_ok nc nr lm sd th T) (hx : qm_r32 x) (hb : b = 0 ∨ b = 1) (H : Q (jd_sum (fun r => jd_sum (fun c => jd_is (jd_cell th T r c (2 * b) = x)) nc) nr) μ) : qm_CI (qb_T L) (d + 3) 219 [qm_P 6, qm_I x, qm_I b] μ Q := by
  refine b219_0 μ _ _ _ ?_
  have h1 := hO.1
  have h3 := hO.2.1
  have key : ∀ w, qm_W (qb_T L) (d + 3) 219 5 [qm_P 6, qm_I x, qm_I b, qm_I (jd_sum (fun r => jd_sum (fun c => jd_is (jd_cell th T r c (2 * b) = x)) nc) 0), qm_I ((0 : Nat) : Int), w] [] μ (fun v μ' => ∃ r, v = some (.inl r) ∧ Q r μ') := by
    refine jl_loop (S := fun i => ∀ w, qm_W (qb_T L) (d + 3) 219 5 [qm_P 6, qm_I x, qm_I b, qm_I (jd_sum (fun r => jd_sum (fun c => jd_is (jd_cell th T r c (2 * b) = x)) nc) i), qm_I ((i : Nat) : Int), w] [] μ _) nr (fun r hr ih w => ?_) (fun w => ?_)
    · refine b219_5 μ _ _ _ _ _ _ ?_
      rw [hB.2.1]
      refine ⟨by omega, by omega, fun h => absurd h (by omega), fun _ => ?_⟩
      have key2 : qm_W (qb_T L) (d + 3) 219 17 [qm_P 6, qm_I x, qm_I b, qm_I (jd_sum (fun r => jd_sum (fun c => jd_is (jd_cell th T r c (2 * b) = x)) nc) r + jd_sum (fun c => jd_is (jd_cell th T r c (2 * b) = x)) 0), qm_I ((r : Nat) : Int), qm_I ((0 : Nat) : Int)] [] μ (fun v μ' => ∃ r, v = some (.inl r) ∧ Q r μ') := by
        refine jl_loop (S := fun i => qm_W (qb_T L) (d + 3) 219 17 [qm_P 6, qm_I x, qm_I b, qm_I (jd_sum (fun r => jd_sum (fun c => jd_is (jd_cell th T r c (2 * b) = x)) nc) r + jd_sum (fun c => jd_is (jd_cell th T r c (2 * b) = x)) i), qm_I ((r : Nat) : Int), qm_I ((i : Nat) : Int)] [] μ _) nc (fun c hc ih2 => ?_) ?_
        · refine b219_17 μ _ _ _ _ _ _ ?_
          rw [hB.1]
          have h9 : ∀ v : Int, v = jd_cell th T r c (2 * b) → qm_W (qb_T L) (d + 3) 219 49 [qm_P 6, qm_I x, qm_I b, qm_I (jd_sum (fun r => jd_sum (fun c => jd_is (jd_cell th T r c (2 * b) = x)) nc) r + jd_sum (fun c => jd_is (jd_cell th T r c (2 * b) = x)) c), qm_I ((r : Nat) : Int), qm_I ((c : Nat) : Int)] [qm_I v] μ (fun v μ' => ∃ r, v = some (.inl r) ∧ Q r μ') := by
            intro v hv
            have h10 : 0 ≤ v ∧ v < 6 := by rw [hv]; exact hO.2.2.2.2.1 c _ hc (jl_c4 _)
            have e : jd_sum (fun c => jd_is (jd_cell th T r c (2 * b) = x)) (c + 1) = jd_sum (fun c => jd_is (jd_cell th T r c (2 * b) = x)) c + jd_is (jd_cell th T r c (2 * b) = x) := rfl
            rw [e, ← hv, ← Int.add_assoc] at ih2
            refine b219_49 μ _ _ _ _ _ _ _ ⟨by omega, hx, fun h => b219_56 μ _ _ _ _ _ _ ?_, fun h => b219_56 μ _ _ _ _ _ _ ?_⟩
            · unfold jd_is at ih2 ⊢; rw [if_pos h] at ih2; exact ih2
            · unfold jd_is at ih2 ⊢; rw [if_neg h, Int.add_zero] at ih2; exact ih2
          refine ⟨by omega, by omega, fun h => absurd h (by omega), fun _ => ⟨by omega, fun h => ?_, fun h => ?_⟩⟩
          · subst h
            exact js_216 hB hO hr hc (h9 _ rfl)
          · obtain rfl : b = 1 := by omega
            exact js_217 hB hO hr hc (h9 _ rfl)
        · refine b219_17 μ _ _ _ _ _ _ ?_
          rw [hB.1]
          exact ⟨by omega, by omega, fun _ => ih _, fun h => absurd (Int.le_refl _) h⟩
      rw [show jd_sum (fun c => jd_is (jd_cell th T r c (2 * b) = x)) 0 = 0 from rfl, Int.add_zero] at key2
      exact key2
    · refine b219_5 μ _ _ _ _ _ _ ?_
      rw [hB.2.1]
      exact ⟨by omega, by omega, fun _ => ⟨_, rfl, H⟩, fun h => absurd (Int.le_refl _) h⟩
  exact key none
theorem js_2401 {a b : Int} (ha : qm_r32 a) (hb : qm_r32 b) (H1 : ∀ k : Nat, a = (k : Int) → a ≤ b → Q 1 μ) (H0 : (a < 0 ∨ b < a) → Q 0 μ) : qm_CI (qb_T L) d 2401 [qm_L a, qm_L 0, qm_L b] μ Q := by
  refine b2401_0 μ _ _ _ _ ?_
  (repeat' (first | refine ⟨_, rfl, ?_⟩ | apply And.intro | intro _)) <;> (try omega)
  · exact H0 (by omega)
  · exact H0 (by omega)
  · exact H1 a.toNat (by omega) (by omega)
theorem js_2436 (hM : jm_belt nc nr lm sd th T μ) (H : Q (nc : Int) μ) : qm_CI (qb_T L) d 2436 [qm_P 13] μ Q := by
  refine b2436_0 μ _ ⟨_, rfl, ?_⟩
  rw [hM.1]; exact H
theorem js_2438 {a : Int} (hM : jm_belt nc nr lm sd th T μ) (hO : jd_ok nc nr lm sd th T) (ha : qm_r32 a) (H1 : ∀ c : Nat, a = (c : Int) → c < nc → Q 1 μ) (H0 : (a < 0 ∨ (nc : Int) ≤ a) → Q 0 μ) : qm_CI (qb_T L) (d + 1) 2438 [qm_P 13, qm_I a] μ Q := by
  refine b2438_0 μ _ _ ⟨ha, ?_⟩
  have h1 := hO.1
  refine js_2436 hM ⟨by omega, ?_⟩
  refine js_2401 ha (by omega) (fun k h2 h3 => ⟨by omega, _, rfl, H1 k h2 (by omega)⟩) (fun h => ⟨by omega, _, rfl, H0 (by omega)⟩)
theorem js_2440 {t : Int} (ht : qm_r32 t) (H : Q (jd_mv t) μ) : qm_CI (qb_T L) d 2440 [qm_I t] μ Q := by
  refine b2440_0 μ _ _ ?_
  unfold jd_mv at H
  (repeat' (first | refine ⟨_, rfl, ?_⟩ | apply And.intro | intro _)) <;> (try omega)
  · rw [if_pos ‹_›] at H; exact H
  · rw [if_neg ‹_›, if_pos ‹_›] at H; exact H
  · rw [if_neg ‹_›, if_neg ‹_›] at H; exact H
theorem js_2442 {c m : Nat} {x : Int} (hM : jm_belt nc nr lm sd th T μ) (hO : jd_ok nc nr lm sd th T) (hc : c < nc) (hx : x = (m : Int)) (hm : m ≤ nr) (H : Q (jd_tw (fun i => T i c) m) μ) : qm_CI (qb_T L) (d + 1) 2442 [qm_P 13, qm_I (c : Int), qm_I x] μ Q := by
  subst hx
  refine b2442_0 μ _ _ _ ?_
  have h1 := hO.1
  have h3 := hO.2.1
  refine jl_loop (S := fun i => qm_W (qb_T L) (d + 1) 2442 5 [qm_P 13, qm_I (c : Int), qm_I (m : Int), qm_I (jd_tw (fun i => T i c) i), qm_I ((i : Nat) : Int)] [] μ _) m (fun i hi ih => ?_) ?_
  · refine b2442_5 μ _ _ _ _ _ ⟨by omega, by omega, fun h => absurd h (by omega), fun _ => ⟨by omega, ?_⟩⟩
    rw [show ((8 * (i : Int)) + (c : Int)).toNat = 8 * i + c by omega, hM.2.2.2.2.2 i c (by omega) hc]
    have h2 := hO.2.2.2.2.2.1 i c (by omega) hc
    exact js_2440 (by omega) ih
  · exact b2442_5 μ _ _ _ _ _ ⟨by omega, by omega, fun _ => ⟨_, rfl, H⟩, fun h => absurd (Int.le_refl _) h⟩
theorem js_2443 {a : Int} (ha : qm_r32 a) (H : Q (jd_abs a) μ) : qm_CI (qb_T L) d 2443 [qm_I a] μ Q := by
  refine b2443_0 μ _ _ ?_
  unfold jd_abs at H
  (repeat' (first | refine ⟨_, rfl, ?_⟩ | apply And.intro | intro _)) <;> (try omega)
  · rw [if_neg (by omega)] at H; exact H
  · rw [if_pos (by omega)] at H; exact H
theorem js_2446 {a : Int} (ha : qm_r32 a) (H : Q (a % 4) μ) : qm_CI (qb_T L) d 2446 [qm_I a] μ Q := by
  refine b2446_0 μ _ _ ⟨_, rfl, ?_⟩
  have h := jl_tm4b a
  rw [qa_tmod ha (by decide) (by decide) (by decide), qa_rem (by omega) (by omega) (by decide) (by decide), jl_tm4]
  exact H
theorem js_2447 {c : Nat} {x : Int} (hM : jm_belt nc nr lm sd th T μ) (hO : jd_ok nc nr lm sd th T) (hc : c < nc) (hx : 0 ≤ x ∧ x < 1000000) (H : Q (th c (jd_c4 x)) μ) : qm_CI (qb_T L) d 2447 [qm_P 13, qm_I (c : Int), qm_I x] μ Q := by
  refine b2447_0 μ _ _ _ ?_
  have h1 := hO.1
  have h2 := jl_c4 x
  have h3 := jl_c4i x
  rw [qa_rem hx.1 (by omega) (by decide) (by decide), ← h3]
  refine ⟨by omega, _, rfl, ?_⟩
  rw [show (40 + 5 * (c : Int) + 1 + ((jd_c4 x : Nat) : Int)).toNat = 41 + 5 * c + jd_c4 x by omega, hM.2.2.2.2.1 c _ hc h2]
  exact H
theorem js_2448 {r c : Nat} {b : Int} (hM : jm_belt nc nr lm sd th T μ) (hO : jd_ok nc nr lm sd th T) (hr : r < nr) (hc : c < nc) (hb : qm_r32 b) (H : Q (jd_cell th T r c (2 * jd_is (¬ b = 0))) μ) : qm_CI (qb_T L) (d + 2) 2448 [qm_P 13, qm_I (r : Int), qm_I (c : Int), qm_I b] μ Q := by
  refine b2448_0 μ _ _ _ _ ?_
  have h3 := hO.2.1
  have h4 := jl_twb (fun i => T i c) (r + 1)
  refine js_2442 hM hO hc (m := r + 1) rfl (by omega) (js_2446 (by omega) ?_)
  unfold jd_is jd_cell at H
  refine ⟨hb, fun h => b2448_22 μ _ _ _ _ _ _ _ ?_, fun h => b2448_22 μ _ _ _ _ _ _ _ ?_⟩
  · refine js_2447 hM hO hc (by omega) ⟨_, rfl, ?_⟩
    rw [if_neg (by omega)] at H
    rw [jl_c4e (show (jd_tw (fun i => T i c) (r + 1) % 4 + 0) % 4 = (jd_tw (fun i => T i c) (r + 1) + 2 * 0) % 4 by omega)]
    exact H
  · refine js_2447 hM hO hc (by omega) ⟨_, rfl, ?_⟩
    rw [if_pos (by omega)] at H
    rw [jl_c4e (show (jd_tw (fun i => T i c) (r + 1) % 4 + 2) % 4 = (jd_tw (fun i => T i c) (r + 1) + 2 * 1) % 4 by omega)]
    exact H
theorem js_2449 {r c : Nat} (hM : jm_belt nc nr lm sd th T μ) (hO : jd_ok nc nr lm sd th T) (hr : r < nr) (hc : c < nc) (H : Q (jd_sl (T r c) (sd c)) μ) : qm_CI (qb_T L) d 2449 [qm_P 13, qm_I (r : Int), qm_I (c : Int)] μ Q := by
  refine b2449_0 μ _ _ _ ?_
  have h1 := hO.1
  have h3 := hO.2.1
  have h4 := hO.2.2.2.2.2.1 r c hr hc
  have h5 := hO.2.2.2.1 c hc
  rw [show ((8 * (r : Int)) + (c : Int)).toNat = 8 * r + c by omega, hM.2.2.2.2.2 r c hr hc]
  unfold jd_sl at H
  have hs : ∀ s0 : Int, (s0 = 1 ↔ T r c = 1) → (s0 = 0 ∨ s0 = 1) → ¬ T r c = 0 → qm_W (qb_T L) d 2449 28 [qm_P 13, qm_I (r : Int), qm_I (c : Int), qm_I (T r c)] [qm_I s0] μ (fun v μ' => ∃ r, v = some (.inl r) ∧ Q r μ') := by
    intro s0 h6 h7 h8
    refine b2449_28 μ _ _ _ _ _ ⟨by omega, ?_⟩
    rw [show (40 + 5 * (c : Int)).toNat = 40 + 5 * c by omega, hM.2.2.2.1 c hc]
    rw [if_neg h8] at H
    refine ⟨by omega, fun h => b2449_47 μ _ _ _ _ _ _ ⟨by omega, by omega, fun h9 => ⟨_, rfl, ?_⟩, fun h9 => ⟨_, rfl, ?_⟩⟩, fun h => b2449_47 μ _ _ _ _ _ _ ⟨by omega, by omega, fun h9 => ⟨_, rfl, ?_⟩, fun h9 => ⟨_, rfl, ?_⟩⟩⟩
    · rw [if_pos (by omega)] at H; exact H
    · rw [if_neg (by omega)] at H; exact H
    · rw [if_pos (by omega)] at H; exact H
    · rw [if_neg (by omega)] at H; exact H
  refine ⟨by omega, by omega, fun h => ⟨_, rfl, ?_⟩, fun h => ⟨by omega, fun h6 => hs 1 (by omega) (by omega) h, fun h6 => hs 0 (by omega) (by omega) h⟩⟩
  rw [if_pos h] at H; exact H
theorem js_2450 (hM : jm_belt nc nr lm sd th T μ) (hO : jd_ok nc nr lm sd th T) (H : Q (jd_sum (fun c => jd_abs (jd_tw (fun i => T i c) nr)) nc) μ) : qm_CI (qb_T L) (d + 2) 2450 [qm_P 13] μ Q := by
  refine b2450_0 μ _ ?_
  have h1 := hO.1
  have h3 := hO.2.1
  refine jl_loop (S := fun i => qm_W (qb_T L) (d + 2) 2450 4 [qm_P 13, qm_I (jd_sum (fun c => jd_abs (jd_tw (fun i => T i c) nr)) i), qm_I ((i : Nat) : Int)] [] μ _) nc (fun i hi ih => ?_) ?_
  · refine b2450_4 μ _ _ _ (js_2436 hM ⟨by omega, by omega, fun h => absurd h (by omega), fun _ => ?_⟩)
    have h2 := jl_twb (fun r => T r i) nr
    exact js_2442 hM hO hi hM.2.1 (Nat.le_refl _) (js_2443 (by omega) ih)
  · exact b2450_4 μ _ _ _ (js_2436 hM ⟨by omega, by omega, fun _ => ⟨_, rfl, H⟩, fun h => absurd (Int.le_refl _) h⟩)
theorem js_2451 {r q : Nat} (hM : jm_belt nc nr lm sd th T μ) (hO : jd_ok nc nr lm sd th T) (hr : r < nr) (hq : q < nr) (H1 : (∀ c, c < nc → T r c = T q c) → Q 1 μ) (H0 : ¬ (∀ c, c < nc → T r c = T q c) → Q 0 μ) : qm_CI (qb_T L) (d + 1) 2451 [qm_P 13, qm_I (r : Int), qm_I (q : Int)] μ Q := by
  refine b2451_0 μ _ _ _ ?_
  have h1 := hO.1
  have h3 := hO.2.1
  refine jl_loop (S := fun i => (∀ c, c < i → T r c = T q c) → qm_W (qb_T L) (d + 1) 2451 2 [qm_P 13, qm_I (r : Int), qm_I (q : Int), qm_I ((i : Nat) : Int)] [] μ _) nc (fun c hc ih hp => ?_) (fun hp => ?_) (fun c h => absurd h (by omega))
  · refine b2451_2 μ _ _ _ _ (js_2436 hM ⟨by omega, by omega, fun h => absurd h (by omega), fun _ => ⟨by omega, by omega, ?_⟩⟩)
    rw [show ((8 * (r : Int)) + (c : Int)).toNat = 8 * r + c by omega, show ((8 * (q : Int)) + (c : Int)).toNat = 8 * q + c by omega, hM.2.2.2.2.2 r c hr hc, hM.2.2.2.2.2 q c hq hc]
    have h4 := hO.2.2.2.2.2.1 r c hr hc
    have h5 := hO.2.2.2.2.2.1 q c hq hc
    refine ⟨by omega, by omega, fun h => ih fun c' h6 => ?_, fun h => ⟨_, rfl, H0 fun hh => h (hh c hc)⟩⟩
    by_cases h7 : c' = c
    · rw [h7]; exact h
    · exact hp c' (by omega)
  · exact b2451_2 μ _ _ _ _ (js_2436 hM ⟨by omega, by omega, fun _ => ⟨_, rfl, H1 hp⟩, fun h => absurd (Int.le_refl _) h⟩)
theorem js_2452 {n : Nat} (hM : jm_belt nc nr lm sd th T μ) (hO : jd_ok nc nr lm sd th T) (hn : 0 < n) (hn2 : n ≤ nr) (H1 : jd_rhy nc nr T n → Q 1 μ) (H0 : ¬ jd_rhy nc nr T n → Q 0 μ) : qm_CI (qb_T L) (d + 2) 2452 [qm_P 13, qm_I (n : Int)] μ Q := by
  have h1 := hO.1
  have h3 := hO.2.1
  refine b2452_0 μ _ _ ⟨by omega, by omega, ?_⟩
  rw [hM.2.1, qa_rem (by omega) (by omega) (by omega) (by omega)]
  have hm0 := Int.emod_nonneg (nr : Int) (show (n : Int) ≠ 0 by omega)
  have hm1 := Int.emod_lt_of_pos (nr : Int) (show (0 : Int) < (n : Int) by omega)
  refine ⟨by omega, fun h => ?_, fun h => ⟨_, rfl, H0 fun q => h (by have := q.1; omega)⟩⟩
  obtain ⟨k, hk⟩ : ∃ k, nr = n + k := ⟨nr - n, by omega⟩
  refine jl_from (S := fun i => (∀ r, n ≤ r → r < i → ∀ c, c < nc → T r c = T (r - n) c) → qm_W (qb_T L) (d + 2) 2452 13 [qm_P 13, qm_I (n : Int), qm_I ((i : Nat) : Int)] [] μ _) n k (fun i h5 h6 ih hp => ?_) (fun hp => ?_) (fun r h5 h6 => absurd h5 (by omega))
  · refine b2452_13 μ _ _ _ ?_
    rw [hM.2.1]
    refine ⟨by omega, by omega, fun h => absurd h (by omega), fun _ => ?_⟩
    rw [show (i : Int) - (n : Int) = ((i - n : Nat) : Int) by omega]
    refine js_2451 hM hO (by omega) (by omega) (fun hh => ?_) (fun hh => ?_)
    · refine ⟨by decide, fun q => absurd q (by decide), fun _ => ih fun r h9 h10 c hc => ?_⟩
      by_cases hr : r = i
      · rw [hr]; exact hh c hc
      · exact hp r h9 (by omega) c hc
    · exact ⟨by decide, fun _ => ⟨_, rfl, H0 fun q => hh fun c hc => q.2 i h5 (by omega) c hc⟩, fun q => absurd rfl q⟩
  · refine b2452_13 μ _ _ _ ?_
    rw [hM.2.1]
    exact ⟨by omega, by omega, fun _ => ⟨_, rfl, H1 ⟨by omega, fun r h5 h6 => hp r h5 (by omega)⟩⟩, fun h => absurd h (by omega)⟩
theorem js_2453 (hM : jm_belt nc nr lm sd th T μ) (hO : jd_ok nc nr lm sd th T) (H : ∀ v : Nat, v ≤ 60 → jd_rh nc nr T v → Q (v : Int) μ) : qm_CI (qb_T L) (d + 3) 2453 [qm_P 13] μ Q := by
  have h1 := hO.1
  have h3 := hO.2.1
  refine b2453_0 μ _ ?_
  rw [hM.2.1]
  refine ⟨by omega, fun h => ⟨_, rfl, H 0 (by omega) (Or.inl ⟨by omega, rfl⟩)⟩, fun h => ?_⟩
  obtain ⟨k, hk⟩ : ∃ k, nr = 1 + k := ⟨nr - 1, by omega⟩
  have hlast : jd_rhy nc nr T nr := ⟨Nat.mod_self nr, fun r h5 h6 => absurd h5 (by omega)⟩
  have hst : ∀ i : Nat, 1 ≤ i → i ≤ nr → (∀ w, 0 < w → w < i → ¬ jd_rhy nc nr T w) → (¬ jd_rhy nc nr T i → qm_W (qb_T L) (d + 3) 2453 11 [qm_P 13, qm_I ((i + 1 : Nat) : Int)] [] μ (fun v μ' => ∃ r, v = some (.inl r) ∧ Q r μ')) → qm_W (qb_T L) (d + 3) 2453 11 [qm_P 13, qm_I ((i : Nat) : Int)] [] μ (fun v μ' => ∃ r, v = some (.inl r) ∧ Q r μ') := by
    intro i h5 h6 hp hn
    refine b2453_11 μ _ _ ?_
    refine js_2452 hM hO (by omega) (by omega) (fun hh => ?_) (fun hh => ?_)
    · exact ⟨by decide, fun q => absurd q (by decide), fun _ => ⟨_, rfl, H i (by omega) (Or.inr ⟨by omega, by omega, hh, hp⟩)⟩⟩
    · exact ⟨by decide, fun _ => hn hh, fun q => absurd rfl q⟩
  refine jl_from (S := fun i => (∀ w, 0 < w → w < i → ¬ jd_rhy nc nr T w) → qm_W (qb_T L) (d + 3) 2453 11 [qm_P 13, qm_I ((i : Nat) : Int)] [] μ _) 1 k (fun i h5 h6 ih hp => ?_) (fun hp => ?_) (fun w h5 h6 => absurd h5 (by omega))
  · refine hst i h5 (by omega) hp fun hq => ih fun w h7 h8 => ?_
    by_cases hw : w = i
    · rw [hw]; exact hq
    · exact hp w h7 (by omega)
  · exact hst _ (by omega) (by omega) hp fun hq => absurd (hk ▸ hlast) hq
theorem js_2454 (hM : jm_belt nc nr lm sd th T μ) (hO : jd_ok nc nr lm sd th T) (H : Q (jd_jn (fun c => jd_tw (fun i => T i c) nr) nc) μ) : qm_CI (qb_T L) (d + 2) 2454 [qm_P 13] μ Q := by
  refine b2454_0 μ _ ?_
  have h1 := hO.1
  have h3 := hO.2.1
  have key : ∀ w w', qm_W (qb_T L) (d + 2) 2454 4 [qm_P 13, qm_I (jd_jn (fun c => jd_tw (fun i => T i c) nr) 0), qm_I ((0 : Nat) : Int), w, w'] [] μ (fun v μ' => ∃ r, v = some (.inl r) ∧ Q r μ') := by
    refine jl_loop (S := fun i => ∀ w w', qm_W (qb_T L) (d + 2) 2454 4 [qm_P 13, qm_I (jd_jn (fun c => jd_tw (fun i => T i c) nr) i), qm_I ((i : Nat) : Int), w, w'] [] μ _) nc (fun i hi ih w w' => ?_) (fun w w' => ?_)
    · refine b2454_4 μ _ _ _ _ _ (js_2436 hM ⟨by omega, by omega, fun h => absurd h (by omega), fun _ => ?_⟩)
      have h2 := jl_twb (fun r => T r i) nr
      refine js_2442 hM hO hi hM.2.1 (Nat.le_refl _) (js_2446 (by omega) ?_)
      have h4 := jl_jn (fun c => jd_tw (fun i => T i c) nr) i
      have e : ∀ v z w2, jd_tm (jd_tw (fun r => T r i) nr) = v → qm_r32 v → qm_W (qb_T L) (d + 2) 2454 43 [qm_P 13, qm_I (jd_jn (fun c => jd_tw (fun i => T i c) nr) i), qm_I (i : Int), qm_I z, w2] [qm_I v] μ (fun v μ' => ∃ r, v = some (.inl r) ∧ Q r μ') := by
        intro v z w2 hv hr
        have e2 : jd_jn (fun c => jd_tw (fun i => T i c) nr) (i + 1) = max (jd_jn (fun c => jd_tw (fun i => T i c) nr) i) v := by rw [← hv]; rfl
        rw [e2] at ih
        refine b2454_43 μ _ _ _ _ _ _ ⟨hr, by omega, fun h => b2454_54 μ _ _ _ _ _ ?_, fun h => b2454_54 μ _ _ _ _ _ ?_⟩
        · rw [Int.max_eq_left h] at ih; exact ih _ _
        · rw [Int.max_eq_right (by omega)] at ih; exact ih _ _
      generalize hx : jd_tw (fun r => T r i) nr % 4 = x at e ⊢
      unfold jd_tm at e
      rw [hx] at e
      exact ⟨by omega, fun h => e 1 _ _ (by rw [if_pos h]) (by decide), fun h => ⟨by omega, fun h5 => e 2 _ _ (by rw [if_neg h, if_pos h5]) (by decide), fun h5 => e 4 _ _ (by rw [if_neg h, if_neg h5]) (by decide)⟩⟩
    · exact b2454_4 μ _ _ _ _ _ (js_2436 hM ⟨by omega, by omega, fun _ => ⟨_, rfl, H⟩, fun h => absurd (Int.le_refl _) h⟩)
  exact key none none
theorem js_2457 {c : Nat} (hM : jm_belt nc nr lm sd th T μ) (hO : jd_ok nc nr lm sd th T) (hc : c < nc) (H : Q (jd_sum (fun r => jd_is (T r c = 2)) nr) μ) : qm_CI (qb_T L) d 2457 [qm_P 13, qm_I (c : Int)] μ Q := by
  refine b2457_0 μ _ _ ?_
  have h1 := hO.1
  have h3 := hO.2.1
  refine jl_loop (S := fun i => qm_W (qb_T L) d 2457 4 [qm_P 13, qm_I (c : Int), qm_I (jd_sum (fun r => jd_is (T r c = 2)) i), qm_I ((i : Nat) : Int)] [] μ _) nr (fun i hi ih => ?_) ?_
  · refine b2457_4 μ _ _ _ _ ?_
    rw [hM.2.1]
    refine ⟨by omega, by omega, fun h => absurd h (by omega), fun _ => ⟨by omega, ?_⟩⟩
    rw [show ((8 * (i : Int)) + (c : Int)).toNat = 8 * i + c by omega, hM.2.2.2.2.2 i c hi hc]
    have h2 := hO.2.2.2.2.2.1 i c hi hc
    have e : jd_sum (fun r => jd_is (T r c = 2)) (i + 1) = jd_sum (fun r => jd_is (T r c = 2)) i + jd_is (T i c = 2) := rfl
    unfold jd_is at ih e ⊢
    refine ⟨by omega, fun h => b2457_30 μ _ _ _ _ ?_, fun h => b2457_30 μ _ _ _ _ ?_⟩
    · rw [e, if_pos h] at ih; exact ih
    · rw [e, if_neg h, Int.add_zero] at ih; exact ih
  · refine b2457_4 μ _ _ _ _ ?_
    rw [hM.2.1]
    exact ⟨by omega, by omega, fun _ => ⟨_, rfl, H⟩, fun h => absurd (Int.le_refl _) h⟩
theorem js_2520 {r : Nat} {t : Int} (hM : jm_belt nc nr lm sd th T μ) (hO : jd_ok nc nr lm sd th T) (hr : r < nr) (ht : qm_r32 t) (H : Q (jd_sum (fun c => jd_is (T r c = t)) nc) μ) : qm_CL (qb_T L) (d + 1) 2520 [qm_P 13, qm_I t, qm_I (r : Int)] μ Q := by
  refine b2520_0 μ _ _ _ ?_
  have h1 := hO.1
  have h3 := hO.2.1
  have hb := jl_sumb (f := fun c => jd_is (T r c = t)) (b := 1) (fun c => jl_is _)
  refine jl_loop (S := fun i => qm_W (qb_T L) (d + 1) 2520 5 [qm_P 13, qm_I t, qm_I (r : Int), qm_I (jd_sum (fun c => jd_is (T r c = t)) i), qm_I ((i : Nat) : Int)] [] μ _) nc (fun i hi ih => ?_) ?_
  · refine b2520_5 μ _ _ _ _ _ (js_2436 hM ⟨by omega, by omega, fun h => absurd h (by omega), fun _ => ⟨by omega, ?_⟩⟩)
    rw [show ((8 * (r : Int)) + (i : Int)).toNat = 8 * r + i by omega, hM.2.2.2.2.2 r i hr hi]
    have h2 := hO.2.2.2.2.2.1 r i hr hi
    have e : jd_sum (fun c => jd_is (T r c = t)) (i + 1) = jd_sum (fun c => jd_is (T r c = t)) i + jd_is (T r i = t) := rfl
    unfold jd_is at ih e ⊢
    refine ⟨by omega, ht, fun h => b2520_33 μ _ _ _ _ _ ?_, fun h => b2520_33 μ _ _ _ _ _ ?_⟩
    · rw [e, if_pos h] at ih; exact ih
    · rw [e, if_neg h, Int.add_zero] at ih; exact ih
  · have h4 := hb nc
    exact b2520_5 μ _ _ _ _ _ (js_2436 hM ⟨by omega, by omega, fun _ => ⟨by omega, ⟨_, rfl, H⟩⟩, fun h => absurd (Int.le_refl _) h⟩)
end
