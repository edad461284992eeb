/-! ===== questions of cards, rows, packs, numbers: both sides one value ===== -/
def jd_card (nc nr : Nat) (sd : Nat → Int) (th T : Nat → Nat → Int) (a w : Int) : Int :=
  if a < 0 ∨ (nc : Int) ≤ a then -1 else if 0 ≤ w ∧ w < 4 then th a.toNat (jd_c4 w) else if w = 4 then sd a.toNat else if w = 5 then jd_tw (fun i => T i a.toNat) nr % 4 else if w = 6 then 100 + jd_tw (fun i => T i a.toNat) nr else if w = 7 then jd_sum (fun r => jd_is (T r a.toNat = 2)) nr else -1
def jd_belt (nc nr : Nat) (sd : Nat → Int) (th T : Nat → Nat → Int) (r a w : Int) : Int :=
  if r < 0 ∨ (nr : Int) ≤ r then -1 else if a < 0 ∨ (nc : Int) ≤ a then -1 else if w = 0 then jd_cell th T r.toNat a.toNat 0 else if w = 1 then jd_cell th T r.toNat a.toNat 2 else if w = 2 then jd_sl (T r.toNat a.toNat) (sd a.toNat) else if w = 3 then T r.toNat a.toNat else if w = 4 then 100 + jd_tw (fun i => T i a.toNat) (r.toNat + 1) else -1
def jd_shown (nc nr : Nat) (th T : Nat → Nat → Int) (nco x b : Int) : Int :=
  if x < 0 ∨ nco ≤ x then -1 else jd_sum (fun r => jd_sum (fun c => jd_is (jd_cell th T r c (2 * b) = x)) nc) nr
def jd_pack (nc : Nat) (np : Int) (pk : Nat → Int) (p a : Int) : Int :=
  if p < 0 ∨ np ≤ p then -1 else if a < 0 ∨ (nc : Int) ≤ a then -1 else pk p.toNat / ((2 ^ a.toNat : Nat) : Int) % 2
def jd_loom (nc nr : Nat) (T : Nat → Nat → Int) (nco np lm lt sp ct s0 s1 rh w : Int) : Int :=
  if w = 0 then nco else if w = 1 then nc else if w = 2 then np else if w = 3 then lm else if w = 4 then lt else if w = 5 then nr else if w = 6 then sp else if w = 7 then jd_sum (fun c => jd_abs (jd_tw (fun i => T i c) nr)) nc else if w = 8 then rh else if w = 9 then jd_jn (fun c => jd_tw (fun i => T i c) nr) nc else if w = 10 then ct else if w = 11 then s0 else if w = 12 then s1 else -1
/-- the numbers that a loom tells -/
def jc_num (nc : Nat) (nco np lm lt sp ct s0 s1 : Int) (μ : qm_M) : Prop :=
  μ 3 1 = nco ∧ μ 3 2 = (nc : Int) ∧ μ 3 3 = np ∧ μ 3 4 = lm ∧ μ 3 5 = lt ∧ μ 0 12 = sp ∧ μ 7 3 = ct ∧ μ 8 0 = s0 ∧ μ 9 0 = s1
def jm_num (nco np lt sp ct s0 s1 : Int) (μ : qm_M) : Prop :=
  μ 59 3 = nco ∧ μ 59 5 = np ∧ μ 13 30 = lt ∧ μ 13 35 = sp ∧ μ 13 39 = ct ∧ μ 69 0 = s0 ∧ μ 69 1 = s1
def jd_nok (nco np lt sp ct s0 s1 : Int) : Prop :=
  (0 ≤ nco ∧ nco ≤ 6) ∧ (0 ≤ np ∧ np ≤ 6) ∧ (0 ≤ lt ∧ lt ≤ 60) ∧ (-1 ≤ sp ∧ sp ≤ 60) ∧ (0 ≤ ct ∧ ct ≤ 20) ∧ (0 ≤ s0 ∧ s0 ≤ 12) ∧ (0 ≤ s1 ∧ s1 ≤ 12)
def jd_pok (np : Int) (pk : Nat → Int) : Prop := ∀ p : Nat, (p : Int) < np → 0 ≤ pk p ∧ pk p < 256
section
variable {L d nc nr : Nat} {lm : Int} {sd : Nat → Int} {th T : Nat → Nat → Int} {μ : qm_M} {Q : Int → qm_M → Prop} {nco np lt sp ct s0 s1 : Int} {pk : Nat → Int}
theorem jl_cellb {r c : Nat} {b : Int} (hO : jd_ok nc nr lm sd th T) (hc : c < nc) : 0 ≤ jd_cell th T r c b ∧ jd_cell th T r c b < 6 := hO.2.2.2.2.1 c _ hc (jl_c4 _)
theorem jl_sl (t s : Int) : 0 ≤ jd_sl t s ∧ jd_sl t s ≤ 2 := by
  unfold jd_sl; split
  · omega
  · split <;> omega
theorem jr_card {a w : Int} (hO : jd_ok nc nr lm sd th T) : qm_r32 (jd_card nc nr sd th T a w) := by
  unfold jd_card
  have h3 := hO.2.1
  split
  · omega
  rename_i h
  have hc : a.toNat < nc := by omega
  have h4 := jl_twb (fun i => T i a.toNat) nr
  have h5 := jl_sumb (f := fun r => jd_is (T r a.toNat = 2)) (b := 1) (fun c => jl_is _) nr
  have h6 := hO.2.2.2.2.1 a.toNat _ hc (jl_c4 w)
  have h7 := hO.2.2.2.1 a.toNat hc
  (repeat' split) <;> omega
theorem js_2207 {a w : Int} (hB : jc_belt nc nr lm sd th T μ) (hO : jd_ok nc nr lm sd th T) (ha : qm_r32 a) (hw : qm_r32 w) (H : Q (jd_card nc nr sd th T a w) μ) : qm_CI (qb_T L) (d + 4) 2207 [qm_P 0, qm_I a, qm_I w] μ Q := by
  refine b2207_0 μ _ _ _ (js_205 hB hO ha (fun c hac hc => ?_) (fun h0 => ?_))
  · subst hac
    have h3 := hO.2.1
    have key : ∀ v, jd_card nc nr sd th T (c : Int) w = v → Q v μ := fun v hv => hv ▸ H
    have h60 : 0 ≤ w ∧ w < 4 → qm_W (qb_T L) (d + 4) 2207 60 [qm_P 0, qm_I (c : Int), qm_I w] [] μ (fun v μ' => ∃ r, v = some (.inl r) ∧ Q r μ') := fun hw4 => by
      refine b2207_60 μ _ _ _ (js_210 hB hO hc ⟨_, rfl, key _ ?_⟩)
      unfold jd_card; rw [if_neg (by omega), if_pos hw4]; rfl
    refine ⟨by decide, fun q => absurd q (by decide), fun _ => ⟨hw, fun h => h60 (by omega), fun h => h60 (by omega), fun h => h60 (by omega), fun h => h60 (by omega), fun h => ?_, fun h => ?_, fun h => ?_, fun h => ?_, fun h => ⟨_, rfl, key _ ?_⟩⟩⟩
    · refine js_207 hB hO hc ⟨_, rfl, key _ ?_⟩
      unfold jd_card; (repeat' split) <;> first | rfl | omega
    · rw [hB.2.1]
      refine js_215 nr hB hO hc rfl (Nat.le_refl _) ⟨_, rfl, key _ ?_⟩
      rw [qa_and3]
      unfold jd_card; (repeat' split) <;> first | rfl | omega
    · rw [hB.2.1]
      refine js_215 nr hB hO hc rfl (Nat.le_refl _) ⟨_, rfl, key _ ?_⟩
      rw [Int.add_comm]
      unfold jd_card; (repeat' split) <;> first | rfl | omega
    · refine js_221 hB hO hc ⟨_, rfl, key _ ?_⟩
      unfold jd_card; (repeat' split) <;> first | rfl | omega
    · unfold jd_card; (repeat' split) <;> first | rfl | omega
  · refine ⟨by decide, fun _ => ⟨_, rfl, ?_⟩, fun q => absurd rfl q⟩
    unfold jd_card at H; rw [if_pos h0] at H; exact H
theorem js_2458 {a w : Int} (hM : jm_belt nc nr lm sd th T μ) (hO : jd_ok nc nr lm sd th T) (ha : qm_r32 a) (hw : qm_r32 w) (H : Q (jd_card nc nr sd th T a w) μ) : qm_CI (qb_T L) (d + 2) 2458 [qm_P 13, qm_I a, qm_I w] μ Q := by
  refine b2458_0 μ _ _ _ (js_2438 hM hO ha (fun c hac hc => ?_) (fun h0 => ?_))
  · subst hac
    have h1 := hO.1
    have h3 := hO.2.1
    have h4 := jl_twb (fun i => T i c) nr
    have key : ∀ v, jd_card nc nr sd th T (c : Int) w = v → Q v μ := fun v hv => hv ▸ H
    have h60 : 0 ≤ w ∧ w < 4 → qm_W (qb_T L) (d + 2) 2458 56 [qm_P 13, qm_I (c : Int), qm_I w] [] μ (fun v μ' => ∃ r, v = some (.inl r) ∧ Q r μ') := fun hw4 => by
      refine b2458_56 μ _ _ _ (js_2447 hM hO hc (by omega) ⟨_, rfl, key _ ?_⟩)
      unfold jd_card; rw [if_neg (by omega), if_pos hw4]; rfl
    refine ⟨by decide, fun q => absurd q (by decide), fun _ => ⟨hw, fun h => h60 (by omega), fun h => h60 (by omega), fun h => h60 (by omega), fun h => h60 (by omega), fun h => ⟨by omega, _, rfl, key _ ?_⟩, fun h => ?_, fun h => ?_, fun h => ?_, fun h => ⟨_, rfl, key _ ?_⟩⟩⟩
    · rw [show (40 + 5 * (c : Int)).toNat = 40 + 5 * c by omega, hM.2.2.2.1 c hc]
      unfold jd_card; (repeat' split) <;> first | rfl | omega
    · refine js_2442 hM hO hc hM.2.1 (Nat.le_refl _) (js_2446 (by omega) ⟨_, rfl, key _ ?_⟩)
      unfold jd_card; (repeat' split) <;> first | rfl | omega
    · refine js_2442 hM hO hc hM.2.1 (Nat.le_refl _) ⟨_, rfl, key _ ?_⟩
      unfold jd_card; (repeat' split) <;> first | rfl | omega
    · refine js_2457 hM hO hc ⟨_, rfl, key _ ?_⟩
      unfold jd_card; (repeat' split) <;> first | rfl | omega
    · unfold jd_card; (repeat' split) <;> first | rfl | omega
  · refine ⟨by decide, fun _ => ⟨_, rfl, ?_⟩, fun q => absurd rfl q⟩
    unfold jd_card at H; rw [if_pos h0] at H; exact H
theorem jr_belt {r a w : Int} (hO : jd_ok nc nr lm sd th T) : qm_r32 (jd_belt nc nr sd th T r a w) := by
  unfold jd_belt
  have h3 := hO.2.1
  split
  · omega
  split
  · omega
  rename_i h h'
  have hc : a.toNat < nc := by omega
  have h4 := jl_twb (fun i => T i a.toNat) (r.toNat + 1)
  have h5 := jl_sl (T r.toNat a.toNat) (sd a.toNat)
  have h6 := jl_cellb (r := r.toNat) (b := 0) hO hc
  have h7 := jl_cellb (r := r.toNat) (b := 2) hO hc
  have h8 := hO.2.2.2.2.2.1 r.toNat a.toNat (by omega) hc
  (repeat' split) <;> omega
theorem js_2209 {r a w : Int} (hB : jc_belt nc nr lm sd th T μ) (hO : jd_ok nc nr lm sd th T) (hr : qm_r32 r) (ha : qm_r32 a) (hw : qm_r32 w) (H : Q (jd_belt nc nr sd th T r a w) μ) : qm_CI (qb_T L) (d + 4) 2209 [qm_P 0, qm_I r, qm_I a, qm_I w] μ Q := by
  refine b2209_0 μ _ _ _ _ (js_206 hB hO hr (fun r hrr hr2 => ?_) (fun h0 => ?_))
  · subst hrr
    refine ⟨by decide, fun q => absurd q (by decide), fun _ => js_205 hB hO ha (fun c hac hc => ?_) (fun h0 => ?_)⟩
    · subst hac
      have key : ∀ v, jd_belt nc nr sd th T (r : Int) (c : Int) w = v → Q v μ := fun v hv => hv ▸ H
      refine ⟨by decide, fun q => absurd q (by decide), fun _ => ⟨hw, fun h => js_216 hB hO hr2 hc ⟨_, rfl, key _ ?_⟩, fun h => js_217 hB hO hr2 hc ⟨_, rfl, key _ ?_⟩, fun h => js_218 hB hO hr2 hc ⟨_, rfl, key _ ?_⟩, fun h => js_214 hB hO hr2 hc ⟨_, rfl, key _ ?_⟩, fun h => js_215 (r + 1) hB hO hc (by omega) (by omega) ⟨_, rfl, key _ ?_⟩, fun h => ⟨_, rfl, key _ ?_⟩⟩⟩
      · unfold jd_belt; (repeat' split) <;> first | rfl | omega
      · unfold jd_belt; (repeat' split) <;> first | rfl | omega
      · unfold jd_belt; (repeat' split) <;> first | rfl | omega
      · unfold jd_belt; (repeat' split) <;> first | rfl | omega
      · rw [Int.add_comm]; unfold jd_belt; (repeat' split) <;> first | rfl | omega
      · unfold jd_belt; (repeat' split) <;> first | rfl | omega
    · refine ⟨by decide, fun _ => ⟨_, rfl, ?_⟩, fun q => absurd rfl q⟩
      unfold jd_belt at H; rw [if_neg (by omega), if_pos h0] at H; exact H
  · refine ⟨by decide, fun _ => ⟨_, rfl, ?_⟩, fun q => absurd rfl q⟩
    unfold jd_belt at H; rw [if_pos h0] at H; exact H
theorem js_2460 {r a w : Int} (hM : jm_belt nc nr lm sd th T μ) (hO : jd_ok nc nr lm sd th T) (hr : qm_r32 r) (ha : qm_r32 a) (hw : qm_r32 w) (H : Q (jd_belt nc nr sd th T r a w) μ) : qm_CI (qb_T L) (d + 3) 2460 [qm_P 13, qm_I r, qm_I a, qm_I w] μ Q := by
  have h1 := hO.1
  have h3 := hO.2.1
  refine b2460_0 μ _ _ _ _ ⟨hr, ?_⟩
  rw [hM.2.1]
  refine ⟨by omega, js_2401 hr (by omega) (fun r hrr hr2 => ?_) (fun h0 => ?_)⟩
  · subst hrr
    have hr3 : r < nr := by omega
    refine ⟨by decide, fun q => absurd q (by decide), fun _ => js_2438 hM hO ha (fun c hac hc => ?_) (fun h0 => ?_)⟩
    · subst hac
      have key : ∀ v, jd_belt nc nr sd th T (r : Int) (c : Int) w = v → Q v μ := fun v hv => hv ▸ H
      refine ⟨by decide, fun q => absurd q (by decide), fun _ => ⟨hw, fun h => js_2448 hM hO hr3 hc (by decide) ⟨_, rfl, key _ ?_⟩, fun h => js_2448 hM hO hr3 hc (by decide) ⟨_, rfl, key _ ?_⟩, fun h => js_2449 hM hO hr3 hc ⟨_, rfl, key _ ?_⟩, fun h => ⟨by omega, _, rfl, key _ ?_⟩, fun h => js_2442 hM hO hc (m := r + 1) rfl (by omega) ⟨_, rfl, key _ ?_⟩, fun h => ⟨_, rfl, key _ ?_⟩⟩⟩
      · unfold jd_belt; (repeat' split) <;> first | rfl | omega
      · unfold jd_belt; (repeat' split) <;> first | rfl | omega
      · unfold jd_belt; (repeat' split) <;> first | rfl | omega
      · rw [show ((8 * (r : Int)) + (c : Int)).toNat = 8 * r + c by omega, hM.2.2.2.2.2 r c hr3 hc]
        unfold jd_belt; (repeat' split) <;> first | rfl | omega
      · unfold jd_belt; (repeat' split) <;> first | rfl | omega
      · unfold jd_belt; (repeat' split) <;> first | rfl | omega
    · refine ⟨by decide, fun _ => ⟨_, rfl, ?_⟩, fun q => absurd rfl q⟩
      unfold jd_belt at H; rw [if_neg (by omega), if_pos h0] at H; exact H
  · refine ⟨by decide, fun _ => ⟨_, rfl, ?_⟩, fun q => absurd rfl q⟩
    unfold jd_belt at H; rw [if_pos (by omega)] at H; exact H
theorem jr_shown {x b : Int} (hO : jd_ok nc nr lm sd th T) : qm_r32 (jd_shown nc nr th T nco x b) := by
  unfold jd_shown
  have h1 := hO.1
  have h3 := hO.2.1
  split
  · omega
  · have h4 := jl_sumb (f := fun r => jd_sum (fun c => jd_is (jd_cell th T r c (2 * b) = x)) nc) (b := 8) (fun r => by
      have := jl_sumb (f := fun c => jd_is (jd_cell th T r c (2 * b) = x)) (b := 1) (fun c => jl_is _) nc
      omega) nr
    omega
theorem js_2210 {x b : Int} (hB : jc_belt nc nr lm sd th T μ) (hO : jd_ok nc nr lm sd th T) (hN : jc_num nc nco np lm lt sp ct s0 s1 μ) (hK : jd_nok nco np lt sp ct s0 s1) (hx : qm_r32 x) (hb : b = 0 ∨ b = 1) (H : Q (jd_shown nc nr th T nco x b) μ) : qm_CI (qb_T L) (d + 4) 2210 [qm_P 0, qm_I x, qm_I b] μ Q := by
  have h1 := hK.1
  refine b2210_0 μ _ _ _ ?_
  rw [hN.1]
  unfold jd_shown at H
  refine ⟨hx, fun h => ⟨_, rfl, ?_⟩, fun h => ⟨hx, by omega, fun h2 => js_219 hB hO hx hb ⟨_, rfl, ?_⟩, fun h2 => ⟨_, rfl, ?_⟩⟩⟩
  · rw [if_pos (by omega)] at H; exact H
  · rw [if_neg (by omega)] at H; exact H
  · rw [if_pos (by omega)] at H; exact H
theorem js_2461 {x b : Int} (hM : jm_belt nc nr lm sd th T μ) (hO : jd_ok nc nr lm sd th T) (hN : jm_num nco np lt sp ct s0 s1 μ) (hK : jd_nok nco np lt sp ct s0 s1) (hx : qm_r32 x) (hb : b = 0 ∨ b = 1) (H : Q (jd_shown nc nr th T nco x b) μ) : qm_CI (qb_T L) (d + 3) 2461 [qm_P 13, qm_I x, qm_I b] μ Q := by
  have h0 := hK.1
  have h1 := hO.1
  have h3 := hO.2.1
  unfold jd_shown at H
  refine b2461_0 μ _ _ _ ⟨hx, b2435_0 μ _ ⟨_, rfl, ?_⟩⟩
  rw [hN.1]
  refine ⟨by omega, js_2401 hx (by omega) (fun k hk hk2 => ⟨by decide, fun q => absurd q (by decide), fun _ => ?_⟩) (fun hh => ⟨by decide, fun _ => ⟨_, rfl, ?_⟩, fun q => absurd rfl q⟩)⟩
  · rw [if_neg (by omega)] at H
    have key : ∀ w, qm_W (qb_T L) (d + 3) 2461 23 [qm_P 13, qm_I x, qm_I b, qm_I (jd_sum (fun r => jd_sum (fun c => jd_is (jd_cell th T r c (2 * b) = x)) nc) 0), qm_I ((0 : Nat) : Int), w] [] μ (fun v μ' => ∃ r, v = some (.inl r) ∧ Q r μ') := by
      refine jl_loop (S := fun i => ∀ w, qm_W (qb_T L) (d + 3) 2461 23 [qm_P 13, qm_I x, qm_I b, qm_I (jd_sum (fun r => jd_sum (fun c => jd_is (jd_cell th T r c (2 * b) = x)) nc) i), qm_I ((i : Nat) : Int), w] [] μ _) nr (fun r hr ih w => ?_) (fun w => ?_)
      · refine b2461_23 μ _ _ _ _ _ _ ?_
        rw [hM.2.1]
        refine ⟨by omega, by omega, fun h => absurd h (by omega), fun _ => ?_⟩
        have key2 : qm_W (qb_T L) (d + 3) 2461 35 [qm_P 13, qm_I x, qm_I b, qm_I (jd_sum (fun r => jd_sum (fun c => jd_is (jd_cell th T r c (2 * b) = x)) nc) r + jd_sum (fun c => jd_is (jd_cell th T r c (2 * b) = x)) 0), qm_I ((r : Nat) : Int), qm_I ((0 : Nat) : Int)] [] μ (fun v μ' => ∃ r, v = some (.inl r) ∧ Q r μ') := by
          refine jl_loop (S := fun i => qm_W (qb_T L) (d + 3) 2461 35 [qm_P 13, qm_I x, qm_I b, qm_I (jd_sum (fun r => jd_sum (fun c => jd_is (jd_cell th T r c (2 * b) = x)) nc) r + jd_sum (fun c => jd_is (jd_cell th T r c (2 * b) = x)) i), qm_I ((r : Nat) : Int), qm_I ((i : Nat) : Int)] [] μ _) nc (fun c hc ih2 => ?_) ?_
          · refine b2461_35 μ _ _ _ _ _ _ (js_2436 hM ⟨by omega, by omega, fun h => absurd h (by omega), fun _ => ?_⟩)
            refine js_2448 hM hO hr hc (by omega) ?_
            have e0 : jd_is (¬ b = 0) = b := by unfold jd_is; split <;> omega
            rw [e0]
            have h10 := jl_cellb (r := r) (b := 2 * b) hO hc
            have e : jd_sum (fun c => jd_is (jd_cell th T r c (2 * b) = x)) (c + 1) = jd_sum (fun c => jd_is (jd_cell th T r c (2 * b) = x)) c + jd_is (jd_cell th T r c (2 * b) = x) := rfl
            rw [e, ← Int.add_assoc] at ih2
            generalize jd_sum (fun r => jd_sum (fun c => jd_is (jd_cell th T r c (2 * b) = x)) nc) r + jd_sum (fun c => jd_is (jd_cell th T r c (2 * b) = x)) c = z at ih2 ⊢
            unfold jd_is at ih2
            refine ⟨by omega, hx, fun h => b2461_60 μ _ _ _ _ _ _ ?_, fun h => b2461_60 μ _ _ _ _ _ _ ?_⟩
            · rw [if_pos h] at ih2; exact ih2
            · rw [if_neg h, Int.add_zero] at ih2; exact ih2
          · exact b2461_35 μ _ _ _ _ _ _ (js_2436 hM ⟨by omega, by omega, fun _ => ih _, fun h => absurd (Int.le_refl _) h⟩)
        rw [show jd_sum (fun c => jd_is (jd_cell th T r c (2 * b) = x)) 0 = 0 from rfl, Int.add_zero] at key2
        exact key2
      · refine b2461_23 μ _ _ _ _ _ _ ?_
        rw [hM.2.1]
        exact ⟨by omega, by omega, fun _ => ⟨_, rfl, H⟩, fun h => absurd (Int.le_refl _) h⟩
    exact key none
  · rw [if_pos (by omega)] at H; exact H
theorem jr_loom {rh w : Int} (hO : jd_ok nc nr lm sd th T) (hK : jd_nok nco np lt sp ct s0 s1) (hr : 0 ≤ rh ∧ rh ≤ 60) : qm_r32 (jd_loom nc nr T nco np lm lt sp ct s0 s1 rh w) := by
  obtain ⟨a1, a2, a3, a4, a5, a6, a7⟩ := hK
  have h1 := hO.1
  have h2 := hO.2.1
  have h3 := hO.2.2.1
  have h4 := jl_sumb (f := fun c => jd_abs (jd_tw (fun i => T i c) nr)) (b := 60) (fun c => by
    have := jl_twb (fun i => T i c) nr
    unfold jd_abs; split <;> omega) nc
  have h5 := jl_jn (fun c => jd_tw (fun i => T i c) nr) nc
  unfold jd_loom
  (repeat' split) <;> omega
theorem js_2205 {w : Int} (hB : jc_belt nc nr lm sd th T μ) (hO : jd_ok nc nr lm sd th T) (hN : jc_num nc nco np lm lt sp ct s0 s1 μ) (hw : qm_r32 w) (H : ∀ v : Nat, v ≤ 60 → jd_rh nc nr T v → Q (jd_loom nc nr T nco np lm lt sp ct s0 s1 v w) μ) : qm_CI (qb_T L) (d + 4) 2205 [qm_P 0, qm_I w] μ Q := by
  refine b2205_0 μ _ _ ?_
  obtain ⟨a1, a2, a3, a4, a5, a6, a7, a8, a9⟩ := hN
  rw [a1, a2, a3, a4, a5, a6, a7, a8, a9, hB.2.1]
  have hv : ∃ v : Nat, v ≤ 60 ∧ jd_rh nc nr T v := by
    have hx := js_223 (L := 0) (d := 0) (Q := fun _ _ => ∃ v : Nat, v ≤ 60 ∧ jd_rh nc nr T v) hB hO (fun v h1 h2 => ⟨v, h1, h2⟩)
    obtain ⟨_, _, _, _, _, _, h⟩ := hx
    exact h
  obtain ⟨v, hv1, hv2⟩ := hv
  have H2 := H v hv1 hv2
  have key : ∀ z, jd_loom nc nr T nco np lm lt sp ct s0 s1 v w = z → ∃ r, qm_I z = some (.inl r) ∧ Q r μ := fun z hz => ⟨_, rfl, hz ▸ H2⟩
  refine ⟨hw, fun h => key _ ?_, fun h => key _ ?_, fun h => key _ ?_, fun h => key _ ?_, fun h => key _ ?_, fun h => key _ ?_, fun h => key _ ?_, fun h => js_222 hB hO (key _ ?_), fun h => js_223 hB hO (fun v2 h1 h2 => ?_), fun h => js_225 hB hO (key _ ?_), fun h => key _ ?_, fun h => key _ ?_, fun h => key _ ?_, fun h => key _ ?_⟩
  all_goals try (subst h; rfl)
  · rw [jl_rh h2 hv2]
    exact key _ (by subst h; rfl)
  · unfold jd_loom; rw [if_neg (by omega), if_neg (by omega), if_neg (by omega), if_neg (by omega), if_neg (by omega), if_neg (by omega), if_neg (by omega), if_neg (by omega), if_neg (by omega), if_neg (by omega), if_neg (by omega), if_neg (by omega), if_neg (by omega)]
theorem js_2455 {w : Int} (hM : jm_belt nc nr lm sd th T μ) (hO : jd_ok nc nr lm sd th T) (hN : jm_num nco np lt sp ct s0 s1 μ) (hw : qm_r32 w) (H : ∀ v : Nat, v ≤ 60 → jd_rh nc nr T v → Q (jd_loom nc nr T nco np lm lt sp ct s0 s1 v w) μ) : qm_CI (qb_T L) (d + 4) 2455 [qm_P 13, qm_I w] μ Q := by
  refine b2455_0 μ _ _ ?_
  have hlm := hO.2.2.1
  have hM3 := hM.2.2.1
  obtain ⟨a1, a2, a3, a4, a5, a6, a7⟩ := hN
  rw [a3, a4, a5, hM.2.1]
  have hv : ∃ v : Nat, v ≤ 60 ∧ jd_rh nc nr T v := by
    have hx := js_2453 (L := 0) (d := 0) (Q := fun _ _ => ∃ v : Nat, v ≤ 60 ∧ jd_rh nc nr T v) hM hO (fun v h1 h2 => ⟨v, h1, h2⟩)
    obtain ⟨_, _, _, _, _, _, h⟩ := hx
    exact h
  obtain ⟨v, hv1, hv2⟩ := hv
  have H2 := H v hv1 hv2
  have key : ∀ z, jd_loom nc nr T nco np lm lt sp ct s0 s1 v w = z → ∃ r, qm_I z = some (.inl r) ∧ Q r μ := fun z hz => ⟨_, rfl, hz ▸ H2⟩
  refine ⟨hw, fun h => b2435_0 μ _ ⟨_, rfl, key _ ?_⟩, fun h => js_2436 hM (key _ ?_), fun h => b2437_0 μ _ ⟨_, rfl, key _ ?_⟩, fun h => ⟨by omega, fun h2 => key _ ?_, fun h2 => key _ ?_⟩, fun h => key _ ?_, fun h => key _ ?_, fun h => key _ ?_, fun h => js_2450 hM hO (key _ ?_), fun h => js_2453 hM hO (fun v2 h1 h2 => ?_), fun h => js_2454 hM hO (key _ ?_), fun h => key _ ?_, fun h => b2455_139 μ _ _ ⟨by omega, key _ ?_⟩, fun h => b2455_139 μ _ _ ⟨by omega, key _ ?_⟩, fun h => key _ ?_⟩
  · rw [a1]; subst h; rfl
  · subst h; rfl
  · rw [a2]; subst h; rfl
  · subst h; show lm = 40; omega
  · subst h; show lm = μ 63 1; omega
  · subst h; rfl
  · subst h; rfl
  · subst h; rfl
  · subst h; rfl
  · rw [jl_rh h2 hv2]
    refine key _ ?_
    subst h; rfl
  · subst h; rfl
  · subst h; rfl
  · subst h; rw [show ((11 : Int) - 11).toNat = 0 from rfl, a6]; rfl
  · subst h; rw [show ((12 : Int) - 11).toNat = 1 from rfl, a7]; rfl
  · unfold jd_loom; rw [if_neg (by omega), if_neg (by omega), if_neg (by omega), if_neg (by omega), if_neg (by omega), if_neg (by omega), if_neg (by omega), if_neg (by omega), if_neg (by omega), if_neg (by omega), if_neg (by omega), if_neg (by omega), if_neg (by omega)]
theorem jr_pack {p a : Int} : qm_r32 (jd_pack nc np pk p a) := by
  unfold jd_pack; (repeat' split) <;> omega
theorem js_806 {p c : Nat} (hp : p < 6) (hc : c < 8) (hb : 0 ≤ μ 20 p ∧ μ 20 p < 256) (H1 : μ 20 p / ((2 ^ c : Nat) : Int) % 2 = 1 → Q 1 μ) (H0 : ¬ μ 20 p / ((2 ^ c : Nat) : Int) % 2 = 1 → Q 0 μ) : qm_CI (qb_T L) (d + 1) 806 [qm_P 3, qm_I (p : Int), qm_I (c : Int)] μ Q := by
  refine b806_3_0 μ _ _ _ ⟨by omega, fun h => absurd h (by omega), fun _ => ⟨by omega, fun h => absurd h (by omega), fun _ => js_401i p rfl (by decide) rfl hp ?_⟩⟩
  rw [qa_and1, qa_shr (by omega) (by omega)]
  exact ⟨by omega, fun h => ⟨_, rfl, H1 h⟩, fun h => ⟨_, rfl, H0 h⟩⟩
theorem js_806d {p c : Nat} (hp : p < 6) (hc : c < 8) (hb : 0 ≤ μ 28 p ∧ μ 28 p < 256) (H1 : μ 28 p / ((2 ^ c : Nat) : Int) % 2 = 1 → Q 1 μ) (H0 : ¬ μ 28 p / ((2 ^ c : Nat) : Int) % 2 = 1 → Q 0 μ) : qm_CI (qb_T L) (d + 1) 806 [qm_P 4, qm_I (p : Int), qm_I (c : Int)] μ Q := by
  refine b806_4_0 μ _ _ _ ⟨by omega, fun h => absurd h (by omega), fun _ => ⟨by omega, fun h => absurd h (by omega), fun _ => js_401i p rfl (by decide) rfl hp ?_⟩⟩
  rw [qa_and1, qa_shr (by omega) (by omega)]
  exact ⟨by omega, fun h => ⟨_, rfl, H1 h⟩, fun h => ⟨_, rfl, H0 h⟩⟩
theorem js_2208 {p a : Int} (hB : jc_belt nc nr lm sd th T μ) (hO : jd_ok nc nr lm sd th T) (hN : jc_num nc nco np lm lt sp ct s0 s1 μ) (hK : jd_nok nco np lt sp ct s0 s1) (hP : jd_pok np pk) (hPc : ∀ p : Nat, (p : Int) < np → μ 20 p = pk p) (hp : qm_r32 p) (ha : qm_r32 a) (H : Q (jd_pack nc np pk p a) μ) : qm_CI (qb_T L) (d + 2) 2208 [qm_P 0, qm_I p, qm_I a] μ Q := by
  have h1 := hO.1
  have h2 := hK.2.1
  refine b2208_0 μ _ _ _ ?_
  rw [hN.2.2.1]
  unfold jd_pack at H
  refine ⟨hp, fun h => ⟨_, rfl, ?_⟩, fun h => ⟨hp, by omega, fun h3 => ⟨_, rfl, ?_⟩, fun h3 => ?_⟩⟩
  · rw [if_pos (by omega)] at H; exact H
  · rw [if_pos (by omega)] at H; exact H
  · rw [if_neg (by omega)] at H
    refine js_205 hB hO ha (fun c hac hc => ⟨by decide, fun q => absurd q (by decide), fun _ => ?_⟩) (fun h0 => ⟨by decide, fun _ => ⟨_, rfl, ?_⟩, fun q => absurd rfl q⟩)
    · subst hac
      rw [if_neg (by omega), Int.toNat_natCast] at H
      obtain ⟨k, rfl⟩ := Int.eq_ofNat_of_zero_le (show 0 ≤ p by omega)
      rw [Int.toNat_natCast] at H
      have h5 := hP k (by omega)
      have h6 := hPc k (by omega)
      refine js_806 (by omega) (by omega) (by omega) (fun h => ?_) (fun h => ?_)
      · rw [h6] at h
        rw [h] at H
        exact ⟨by decide, fun q => absurd q (by decide), fun _ => ⟨_, rfl, H⟩⟩
      · rw [h6] at h
        rw [show pk k / ((2 ^ c : Nat) : Int) % 2 = 0 by omega] at H
        exact ⟨by decide, fun _ => ⟨_, rfl, H⟩, fun q => absurd rfl q⟩
    · rw [if_pos h0] at H; exact H
theorem js_2459 {p a : Int} (hM : jm_belt nc nr lm sd th T μ) (hO : jd_ok nc nr lm sd th T) (hN : jm_num nco np lt sp ct s0 s1 μ) (hK : jd_nok nco np lt sp ct s0 s1) (hP : jd_pok np pk) (hPm : ∀ p : Nat, (p : Int) < np → μ 62 (6 + p) = pk p) (hp : qm_r32 p) (ha : qm_r32 a) (H : Q (jd_pack nc np pk p a) μ) : qm_CI (qb_T L) (d + 2) 2459 [qm_P 13, qm_I p, qm_I a] μ Q := by
  have h1 := hO.1
  have h2 := hK.2.1
  unfold jd_pack at H
  refine b2459_0 μ _ _ _ (b2439_0 μ _ _ ⟨hp, b2437_0 μ _ ⟨_, rfl, ?_⟩⟩)
  rw [hN.2.1]
  refine ⟨by omega, js_2401 hp (by omega) (fun k hk hk2 => ?_) (fun h0 => ?_)⟩
  · subst hk
    rw [if_neg (by omega)] at H
    refine ⟨by decide, _, rfl, by decide, fun q => absurd q (by decide), fun _ => js_2438 hM hO ha (fun c hac hc => ?_) (fun h0 => ⟨by decide, fun _ => ⟨_, rfl, ?_⟩, fun q => absurd rfl q⟩)⟩
    · subst hac
      rw [if_neg (by omega), Int.toNat_natCast, Int.toNat_natCast] at H
      have h5 := hP k (by omega)
      refine ⟨by decide, fun q => absurd q (by decide), fun _ => ⟨by omega, _, rfl, ?_⟩⟩
      rw [show (6 + (k : Int)).toNat = 6 + k by omega, hPm k (by omega), qa_and1, qa_shr (by omega) (by omega)]
      exact H
    · rw [if_pos h0] at H; exact H
  · rw [if_pos (by omega)] at H
    exact ⟨by decide, _, rfl, by decide, fun _ => ⟨_, rfl, H⟩, fun q => absurd rfl q⟩
end
