/-! ===== a turning woven: both sides ===== -/
def jd_n4 (u : Nat → Int) : Nat → Int
  | 0 => 0
  | i + 1 => jd_n4 u i + u i * ((2 ^ (2 * i) : Nat) : Int)
theorem jl_p0 (n : Nat) : (0 : Int) < ((2 ^ n : Nat) : Int) := by
  have : 0 < 2 ^ n := Nat.pow_pos (by decide)
  omega
theorem jl_p4 (i : Nat) : ((2 ^ (2 * (i + 1)) : Nat) : Int) = 4 * ((2 ^ (2 * i) : Nat) : Int) := by
  rw [show 2 * (i + 1) = 2 + 2 * i by omega, Nat.pow_add, Int.natCast_mul]; rfl
theorem jl_n4b {u : Nat → Int} : ∀ n : Nat, (∀ c, c < n → 0 ≤ u c ∧ u c ≤ 3) → 0 ≤ jd_n4 u n ∧ jd_n4 u n < ((2 ^ (2 * n) : Nat) : Int)
  | 0, _ => ⟨Int.le_refl 0, by show (0 : Int) < ((2 ^ (2 * 0) : Nat) : Int); exact jl_p0 _⟩
  | n + 1, h => by
    have ih := jl_n4b n (fun c hc => h c (by omega))
    have hu := h n (by omega)
    have e : jd_n4 u (n + 1) = jd_n4 u n + u n * ((2 ^ (2 * n) : Nat) : Int) := rfl
    rw [e, jl_p4]
    have h0 := jl_p0 (2 * n)
    generalize ((2 ^ (2 * n) : Nat) : Int) = P at *
    have h4 : u n = 0 ∨ u n = 1 ∨ u n = 2 ∨ u n = 3 := by omega
    rcases h4 with q | q | q | q <;> rw [q] <;> omega
theorem jl_n4d {u : Nat → Int} : ∀ n : Nat, (∀ c, c < n → 0 ≤ u c ∧ u c ≤ 3) → ∀ c, c < n → jd_n4 u n / ((2 ^ (2 * c) : Nat) : Int) % 4 = u c
  | 0, _ => fun c h => absurd h (by omega)
  | n + 1, h => fun c hc => by
    have ih := jl_n4d n (fun c hc => h c (by omega))
    have hb := jl_n4b n (fun c hc => h c (by omega))
    have hu := h n (by omega)
    have e : jd_n4 u (n + 1) = jd_n4 u n + u n * ((2 ^ (2 * n) : Nat) : Int) := rfl
    rw [e]
    by_cases hcn : c = n
    · rw [hcn, Int.add_mul_ediv_right _ _ (by have := jl_p0 (2 * n); omega), Int.ediv_eq_zero_of_lt hb.1 hb.2]
      omega
    · have e2 : u n * ((2 ^ (2 * n) : Nat) : Int) = (4 * (u n * ((2 ^ (2 * (n - c - 1)) : Nat) : Int))) * ((2 ^ (2 * c) : Nat) : Int) := by
        have e3 : ((2 ^ (2 * n) : Nat) : Int) = 4 * ((2 ^ (2 * (n - c - 1)) : Nat) : Int) * ((2 ^ (2 * c) : Nat) : Int) := by
          rw [show 2 * n = 2 + 2 * (n - c - 1) + 2 * c by omega, Nat.pow_add, Nat.pow_add, Int.natCast_mul, Int.natCast_mul]; rfl
        rw [e3]
        rw [← Int.mul_assoc, ← Int.mul_assoc, Int.mul_comm (u n) 4, Int.mul_assoc 4 (u n)]
      rw [e2, Int.add_mul_ediv_right _ _ (by have := jl_p0 (2 * c); omega)]
      have := ih c (by omega)
      omega
theorem jl_or_comm (a b : Int) : qi_or a b = qi_or b a := by unfold qi_or; rw [Int32.or_comm]
def jd_ap (T : Nat → Nat → Int) (nr : Nat) (u : Nat → Int) : Nat → Nat → Int := fun r c => if r = nr then u c else T r c
theorem jl_ap0 (T : Nat → Nat → Int) (nr : Nat) (u : Nat → Int) {r : Nat} (c : Nat) (h : r ≠ nr) : jd_ap T nr u r c = T r c := if_neg h
theorem jl_ap1 (T : Nat → Nat → Int) (nr : Nat) (u : Nat → Int) (c : Nat) : jd_ap T nr u nr c = u c := if_pos rfl
theorem jl_apt (T : Nat → Nat → Int) (nr : Nat) (u : Nat → Int) {m : Nat} (c : Nat) (h : m ≤ nr) : jd_tw (fun i => jd_ap T nr u i c) m = jd_tw (fun i => T i c) m :=
  jl_twe m fun i hi => jl_ap0 T nr u c (by omega)
theorem jl_apt1 (T : Nat → Nat → Int) (nr : Nat) (u : Nat → Int) (c : Nat) : jd_tw (fun i => jd_ap T nr u i c) (nr + 1) = jd_tw (fun i => T i c) nr + jd_mv (u c) := by
  show jd_tw (fun i => jd_ap T nr u i c) nr + jd_mv (jd_ap T nr u nr c) = _
  rw [jl_apt T nr u c (Nat.le_refl _), jl_ap1]
/-- no card leaves its reach -/
def jd_can (nc nr : Nat) (lm : Int) (T : Nat → Nat → Int) (u : Nat → Int) : Prop := ∀ c, c < nc → -lm ≤ jd_tw (fun i => T i c) nr + jd_mv (u c) ∧ jd_tw (fun i => T i c) nr + jd_mv (u c) ≤ lm
theorem jl_apok {nc nr : Nat} {lm : Int} {sd : Nat → Int} {th T : Nat → Nat → Int} {u : Nat → Int} (hO : jd_ok nc nr lm sd th T) (hn : nr < 60) (hu : ∀ c, c < nc → 0 ≤ u c ∧ u c ≤ 2) (hc : jd_can nc nr lm T u) : jd_ok nc (nr + 1) lm sd th (jd_ap T nr u) := by
  refine ⟨hO.1, by omega, hO.2.2.1, hO.2.2.2.1, hO.2.2.2.2.1, fun r c hr hc2 => ?_, fun r c hr hc2 => ?_⟩
  · by_cases h : r = nr
    · rw [h, jl_ap1]; exact hu c hc2
    · rw [jl_ap0 _ _ _ _ h]; exact hO.2.2.2.2.2.1 r c (by omega) hc2
  · by_cases h : r = nr + 1
    · rw [h, jl_apt1]; exact hc c hc2
    · rw [jl_apt _ _ _ _ (by omega)]; exact hO.2.2.2.2.2.2 r c (by omega) hc2
/-- a card's turn by a turning -/
def jd_u (pk : Nat → Int) (how p : Int) (c : Nat) : Int :=
  if how = 2 then (if p = -1 ∨ pk p.toNat / ((2 ^ c : Nat) : Int) % 2 = 1 then 0 else 1) else if (how = 0 ↔ (p = -1 ∨ pk p.toNat / ((2 ^ c : Nat) : Int) % 2 = 1)) then 1 else 2
theorem jl_u (pk : Nat → Int) (how p : Int) (c : Nat) : 0 ≤ jd_u pk how p c ∧ jd_u pk how p c ≤ 2 := by
  unfold jd_u
  (repeat' split) <;> omega
/-- a turning that there is -/
def jd_tg (np how p : Int) : Prop := (0 ≤ how ∧ how ≤ 2) ∧ (-1 ≤ p ∧ p < np) ∧ ¬ (how = 2 ∧ p = -1)
section
variable {L d nc nr : Nat} {lm : Int} {sd : Nat → Int} {th T : Nat → Nat → Int} {μ : qm_M} {Q : Int → qm_M → Prop} {V : qm_M → Prop} {np : Int} {pk u : Nat → Int}
theorem js_202 {tn : Int} (hB : jc_belt nc nr lm sd th T μ) (hO : jd_ok nc nr lm sd th T) (ht : 0 ≤ tn ∧ tn < ((2 ^ (2 * nc) : Nat) : Int)) (hu : ∀ c, c < nc → tn / ((2 ^ (2 * c) : Nat) : Int) % 4 = u c ∧ u c ≤ 2) (H1 : ∀ μ', jd_fr [6, 33, 34] μ μ' → nr < 60 → jd_can nc nr lm T u → jc_belt nc (nr + 1) lm sd th (jd_ap T nr u) μ' → Q 1 μ') (H0 : ∀ μ', jd_fr [34] μ μ' → ¬ (nr < 60 ∧ jd_can nc nr lm T u) → jc_belt nc nr lm sd th T μ' → Q 0 μ') : qm_CI (qb_T L) (d + 2) 202 [qm_P 6, qm_I tn] μ Q := by
  have h1 := hO.1
  have h2 := hO.2.1
  have h3 := hO.2.2.1
  have h4 := jl_p16 h1
  refine b202_0 μ _ _ ?_
  rw [hB.2.1]
  refine ⟨by omega, fun q => ?_, fun q => ⟨_, rfl, H0 μ (jf_refl _ _) (fun z => by have := z.1; omega) hB⟩⟩
  have hkeep : ∀ μ', jd_fr [34] μ μ' → (∀ k, k < 8 * nr → μ' 34 k = μ 34 k) → jc_belt nc nr lm sd th T μ' := by
    intro μ' hf hk
    obtain ⟨e1, e2, e3, e4, e5, e6, e7, e8⟩ := hB
    unfold jc_belt
    rw [hf 6 rfl, hf 31 rfl, hf 32 rfl, hf 33 rfl]
    exact ⟨e1, e2, e3, e4, e5, e6, e7, fun r c hr hc => by rw [hk _ (by omega)]; exact e8 r c hr hc⟩
  refine jl_loop (S := fun i => ∀ μ' w, jd_fr [34] μ μ' → (∀ k, k < 8 * nr → μ' 34 k = μ 34 k) → (∀ j, j < i → μ' 34 (8 * nr + j) = jd_tw (fun r => T r j) nr + jd_mv (u j) ∧ -lm ≤ jd_tw (fun r => T r j) nr + jd_mv (u j) ∧ jd_tw (fun r => T r j) nr + jd_mv (u j) ≤ lm) → qm_W (qb_T L) (d + 2) 202 13 [qm_P 6, qm_I tn, qm_I ((i : Nat) : Int), w] [] μ' (fun v μ' => ∃ r, v = some (.inl r) ∧ Q r μ')) nc (fun i hi ih μ' w hf hk hj => ?_) (fun μ' w hf hk hj => ?_) μ none (jf_refl _ _) (fun k _ => rfl) (fun j hj => absurd hj (by omega))
  · have hB' := hkeep μ' hf hk
    have hb2 := jl_twb (fun r => T r i) nr
    have hmv := jl_mv (u i)
    refine b202_13 μ' _ _ _ _ ?_
    rw [hB'.1, hB'.2.1]
    refine ⟨by omega, by omega, fun z => absurd z (by omega), fun _ => js_215 nr hB' hO hi rfl (Nat.le_refl _) (js_204 (by omega) (by omega) ?_)⟩
    rw [(hu i hi).1, hB'.2.2.1, hB'.2.1]
    refine ⟨by omega, by omega, fun z => ⟨_, rfl, H0 μ' hf (fun y => by have := (y.2 i hi).2; omega) hB'⟩, fun z => ⟨by omega, by omega, fun z2 => ?_, fun z2 => ⟨_, rfl, H0 μ' hf (fun y => by have := (y.2 i hi).1; omega) hB'⟩⟩⟩
    refine js_402i (8 * nr + i) rfl (by decide) (by omega) (by omega) ?_
    refine ih _ _ (jf_set hf rfl) (fun k hk2 => by rw [jl_sk _ _ _ (by omega)]; exact hk k hk2) fun j hj2 => ?_
    by_cases hji : j = i
    · rw [hji, jl_ss]; exact ⟨rfl, by omega, by omega⟩
    · rw [jl_sk _ _ _ (by omega)]; exact hj j (by omega)
  · have hB' := hkeep μ' hf hk
    refine b202_13 μ' _ _ _ _ ?_
    rw [hB'.1, hB'.2.1]
    refine ⟨by omega, by omega, fun _ => js_402i nr rfl (by decide) rfl (by omega) ⟨_, rfl, ?_⟩, fun z => absurd (Int.le_refl _) z⟩
    refine H1 _ (jf_set (jf_set (jf_sub hf rfl) rfl) rfl) (by omega) (fun c hc => (hj c hc).2) ?_
    obtain ⟨e1, e2, e3, e4, e5, e6, e7, e8⟩ := hB'
    refine ⟨?_, ?_, ?_, ?_, ?_, ?_, ?_, ?_⟩
    · rw [jl_sk _ _ _ (by decide), jl_sn _ _ _ (by decide)]; exact e1
    · rw [jl_ss, jl_sn _ _ _ (by decide), e2]; rfl
    · rw [jl_sk _ _ _ (by decide), jl_sn _ _ _ (by decide)]; exact e3
    · rw [jl_sn _ _ _ (by decide), jl_sn _ _ _ (by decide)]; exact e4
    · rw [jl_sn _ _ _ (by decide), jl_sn _ _ _ (by decide)]; exact e5
    · intro r c hr hc
      rw [jl_sn _ _ _ (by decide)]
      by_cases hrn : r = nr
      · rw [hrn, jl_ss, jl_ap1]; exact (hu c hc).1
      · rw [jl_sk _ _ _ hrn, jl_ap0 _ _ _ _ hrn]; exact e6 r c (by omega) hc
    · intro r hr
      rw [jl_sn _ _ _ (by decide)]
      by_cases hrn : r = nr
      · rw [hrn, jl_ss]; exact ht
      · rw [jl_sk _ _ _ hrn]; exact e7 r (by omega)
    · intro r c hr hc
      rw [jl_sn _ _ _ (by decide), jl_sn _ _ _ (by decide)]
      by_cases hrn : r = nr
      · rw [hrn, jl_apt1]; exact (hj c hc).1
      · rw [jl_apt _ _ _ _ (by omega)]; exact e8 r c (by omega) hc
theorem js_812 {how m : Int} (hh : qm_r32 how) (hm : m = 0 ∨ m = 1) (H : Q (if how = 2 then (if m = 1 then 0 else 1) else if (how = 0 ↔ m = 1) then 1 else 2) μ) : qm_CI (qb_T L) d 812 [qm_I how, qm_I m] μ Q := by
  refine b812_0 μ _ _ _ ⟨hh, fun q => ⟨by omega, fun q2 => ⟨_, rfl, ?_⟩, fun q2 => ⟨_, rfl, ?_⟩⟩, fun q => ⟨hh, fun q2 => b812_24 μ _ _ _ _ ⟨by omega, by omega, fun q3 => ⟨_, rfl, ?_⟩, fun q3 => ⟨_, rfl, ?_⟩⟩, fun q2 => b812_24 μ _ _ _ _ ⟨by omega, by omega, fun q3 => ⟨_, rfl, ?_⟩, fun q3 => ⟨_, rfl, ?_⟩⟩⟩⟩
  · rw [if_pos q, if_neg (by omega)] at H; exact H
  · rw [if_pos q, if_pos (by omega)] at H; exact H
  · rw [if_neg q, if_pos (by omega)] at H; exact H
  · rw [if_neg q, if_neg (by omega)] at H; exact H
  · rw [if_neg q, if_pos (by omega)] at H; exact H
  · rw [if_neg q, if_neg (by omega)] at H; exact H
theorem js_811 {how p : Int} (hn : μ 3 2 = (nc : Int)) (hnc : nc ≤ 8) (hnp : np ≤ 6) (hP : jd_pok np pk) (hPc : ∀ p : Nat, (p : Int) < np → μ 20 p = pk p) (hh : qm_r32 how) (hp : -1 ≤ p ∧ p < np) (H : Q (jd_n4 (jd_u pk how p) nc) μ) : qm_CI (qb_T L) (d + 2) 811 [qm_P 3, qm_I how, qm_I p] μ Q := by
  refine b811_0 μ _ _ _ ?_
  have h4 := jl_p16 hnc
  refine jl_loop (S := fun i => ∀ w, qm_W (qb_T L) (d + 2) 811 5 [qm_P 3, qm_I how, qm_I p, qm_I (jd_n4 (jd_u pk how p) i), qm_I ((i : Nat) : Int), w] [] μ (fun v μ' => ∃ r, v = some (.inl r) ∧ Q r μ')) nc (fun i hi ih w => ?_) (fun w => ?_) none
  · have hb := jl_n4b i (u := jd_u pk how p) (fun c _ => by have := jl_u pk how p c; omega)
    have hb2 := jl_n4b (i + 1) (u := jd_u pk how p) (fun c _ => by have := jl_u pk how p c; omega)
    have hb3 := jl_p16 (n := i + 1) (by omega)
    have hp0 := jl_p0 (2 * i)
    have go : ∀ m : Int, (m = 0 ∨ m = 1) → (m = 1 ↔ (p = -1 ∨ pk p.toNat / ((2 ^ i : Nat) : Int) % 2 = 1)) → qm_W (qb_T L) (d + 2) 811 34 [qm_P 3, qm_I how, qm_I p, qm_I (jd_n4 (jd_u pk how p) i), qm_I ((i : Nat) : Int), w] [qm_I m] μ (fun v μ' => ∃ r, v = some (.inl r) ∧ Q r μ') := by
      intro m hm hm2
      refine b811_34 μ _ _ _ _ _ _ _ (js_812 hh hm ?_)
      have e : (if how = 2 then (if m = 1 then 0 else 1) else if (how = 0 ↔ m = 1) then 1 else 2) = jd_u pk how p i := by
        unfold jd_u
        by_cases hm3 : m = 1
        · have h5 := hm2.mp hm3
          simp only [hm3, h5, if_true]
        · have h5 : ¬ (p = -1 ∨ pk p.toNat / ((2 ^ i : Nat) : Int) % 2 = 1) := fun z => hm3 (hm2.mpr z)
          simp only [hm3, h5, if_false]
      rw [e]
      have hu := jl_u pk how p i
      have e2 : jd_n4 (jd_u pk how p) (i + 1) = jd_n4 (jd_u pk how p) i + jd_u pk how p i * ((2 ^ (2 * i) : Nat) : Int) := rfl
      rw [show (2 : Int) * ((i : Nat) : Int) = ((2 * i : Nat) : Int) by omega, qa_shl hu.1 (by omega) (by omega), jl_or_comm, qa_or_add hb.1 hb.2 (Int.mul_nonneg hu.1 (by omega)) (Int.dvd_mul_left _ _) (by omega), Int.add_comm, ← e2]
      exact ih _
    refine b811_5 μ _ _ _ _ _ _ ?_
    rw [hn]
    refine ⟨by omega, by omega, fun z => absurd z (by omega), fun _ => ⟨by omega, fun z => b811_29 μ _ _ _ _ _ _ (go 1 (by omega) ⟨fun _ => Or.inl z, fun _ => rfl⟩), fun z => ?_⟩⟩
    obtain ⟨k, rfl⟩ := Int.eq_ofNat_of_zero_le (show 0 ≤ p by omega)
    have h5 := hP k hp.2
    have h6 := hPc k hp.2
    refine js_806 (by omega) (by omega) (by omega) (fun y => ⟨by decide, fun q => absurd q (by decide), fun _ => b811_29 μ _ _ _ _ _ _ (go 1 (by omega) ⟨fun _ => Or.inr ?_, fun _ => rfl⟩)⟩) (fun y => ⟨by decide, fun _ => go 0 (by omega) ⟨fun x => absurd x (by decide), fun x => ?_⟩, fun q => absurd rfl q⟩)
    · rw [Int.toNat_natCast, ← h6]; exact y
    · rw [Int.toNat_natCast, ← h6] at x
      rcases x with x | x
      · omega
      · exact absurd x y
  · refine b811_5 μ _ _ _ _ _ _ ?_
    rw [hn]
    exact ⟨by omega, by omega, fun _ => ⟨_, rfl, H⟩, fun z => absurd (Int.le_refl _) z⟩
theorem js_2441 {how p : Int} {c : Nat} (hc : c < 8) (hnp : np ≤ 6) (hP : jd_pok np pk) (hPm : ∀ p : Nat, (p : Int) < np → μ 62 (6 + p) = pk p) (hh : qm_r32 how) (hp : -1 ≤ p ∧ p < np) (H : Q (jd_u pk how p c) μ) : qm_CI (qb_T L) d 2441 [qm_P 13, qm_I (c : Int), qm_I how, qm_I p] μ Q := by
  have go : ∀ m : Int, (m = 0 ∨ m = 1) → (m = 1 ↔ (p = -1 ∨ pk p.toNat / ((2 ^ c : Nat) : Int) % 2 = 1)) → qm_W (qb_T L) d 2441 27 [qm_P 13, qm_I (c : Int), qm_I how, qm_I p, none] [qm_I m] μ (fun v μ' => ∃ r, v = some (.inl r) ∧ Q r μ') := by
    intro m hm hm2
    have e : (if how = 2 then (if m = 1 then 0 else 1) else if (how = 0 ↔ m = 1) then 1 else 2) = jd_u pk how p c := by
      unfold jd_u
      by_cases hm3 : m = 1
      · have h5 := hm2.mp hm3
        simp only [hm3, h5, if_true]
      · have h5 : ¬ (p = -1 ∨ pk p.toNat / ((2 ^ c : Nat) : Int) % 2 = 1) := fun z => hm3 (hm2.mpr z)
        simp only [hm3, h5, if_false]
    rw [← e] at H
    refine b2441_27 μ _ _ _ _ _ ⟨hh, fun q => ⟨by omega, fun q2 => ⟨_, rfl, ?_⟩, fun q2 => ⟨_, rfl, ?_⟩⟩, fun q => ⟨hh, fun q2 => b2441_56 μ _ _ _ _ _ _ _ ⟨by omega, by omega, fun q3 => ⟨_, rfl, ?_⟩, fun q3 => ⟨_, rfl, ?_⟩⟩, fun q2 => b2441_56 μ _ _ _ _ _ _ _ ⟨by omega, by omega, fun q3 => ⟨_, rfl, ?_⟩, fun q3 => ⟨_, rfl, ?_⟩⟩⟩⟩
    · rw [if_pos q, if_neg (by omega)] at H; exact H
    · rw [if_pos q, if_pos (by omega)] at H; exact H
    · rw [if_neg q, if_pos (by omega)] at H; exact H
    · rw [if_neg q, if_neg (by omega)] at H; exact H
    · rw [if_neg q, if_pos (by omega)] at H; exact H
    · rw [if_neg q, if_neg (by omega)] at H; exact H
  refine b2441_0 μ _ _ _ _ ⟨by omega, fun z => b2441_22 μ _ _ _ _ (go 1 (by omega) ⟨fun _ => Or.inl z, fun _ => rfl⟩), fun z => ⟨by omega, ?_⟩⟩
  obtain ⟨k, rfl⟩ := Int.eq_ofNat_of_zero_le (show 0 ≤ p by omega)
  have h5 := hP k hp.2
  have h6 := hPm k hp.2
  rw [show (6 + (k : Int)).toNat = 6 + k by omega, h6, qa_and1, qa_shr (by omega) (by omega)]
  refine ⟨by omega, fun y => b2441_22 μ _ _ _ _ (go 1 (by omega) ⟨fun _ => Or.inr ?_, fun _ => rfl⟩), fun y => go 0 (by omega) ⟨fun x => absurd x (by decide), fun x => ?_⟩⟩
  · rw [Int.toNat_natCast]; exact y
  · rw [Int.toNat_natCast] at x
    rcases x with x | x
    · omega
    · exact absurd x y
theorem js_2444 {how p : Int} (hM : jm_belt nc nr lm sd th T μ) (hO : jd_ok nc nr lm sd th T) (hnp : np ≤ 6) (hP : jd_pok np pk) (hPm : ∀ p : Nat, (p : Int) < np → μ 62 (6 + p) = pk p) (hh : qm_r32 how) (hp : -1 ≤ p ∧ p < np) (H1 : jd_can nc nr lm T (jd_u pk how p) → Q 1 μ) (H0 : ¬ jd_can nc nr lm T (jd_u pk how p) → Q 0 μ) : qm_CI (qb_T L) (d + 2) 2444 [qm_P 13, qm_I how, qm_I p] μ Q := by
  have h1 := hO.1
  have h2 := hO.2.1
  have h3 := hO.2.2.1
  refine b2444_0 μ _ _ _ ?_
  refine jl_loop (S := fun i => (∀ c, c < i → -lm ≤ jd_tw (fun i => T i c) nr + jd_mv (jd_u pk how p c) ∧ jd_tw (fun i => T i c) nr + jd_mv (jd_u pk how p c) ≤ lm) → qm_W (qb_T L) (d + 2) 2444 2 [qm_P 13, qm_I how, qm_I p, qm_I ((i : Nat) : Int)] [] μ (fun v μ' => ∃ r, v = some (.inl r) ∧ Q r μ')) nc (fun i hi ih hj => ?_) (fun hj => ?_) (fun c hc => absurd hc (by omega))
  · have hb2 := jl_twb (fun r => T r i) nr
    have hmv := jl_mv (jd_u pk how p i)
    have hu := jl_u pk how p i
    refine b2444_2 μ _ _ _ _ (js_2436 hM ⟨by omega, by omega, fun z => absurd z (by omega), fun _ => ?_⟩)
    refine js_2442 hM hO hi hM.2.1 (Nat.le_refl _) (js_2441 (by omega) hnp hP hPm hh hp (js_2440 (by omega) (js_2443 (by omega) ?_)))
    have hlm : μ 63 1 = lm := by
      rcases hM.2.2.1 with z | z
      · exact z
      · omega
    rw [hlm]
    unfold jd_abs
    refine ⟨by split <;> omega, by omega, fun z => ih fun c hc => ?_, fun z => ⟨_, rfl, H0 fun y => z ?_⟩⟩
    · by_cases hci : c = i
      · rw [hci]; split at z <;> omega
      · exact hj c (by omega)
    · have := y i hi
      split <;> omega
  · exact b2444_2 μ _ _ _ _ (js_2436 hM ⟨by omega, by omega, fun _ => ⟨_, rfl, H1 hj⟩, fun z => absurd (Int.le_refl _) z⟩)
theorem js_2445 {how p : Int} (hM : jm_belt nc nr lm sd th T μ) (hO : jd_ok nc nr lm sd th T) (hn : nr < 60) (hnp : np ≤ 6) (hP : jd_pok np pk) (hPm : ∀ p : Nat, (p : Int) < np → μ 62 (6 + p) = pk p) (hh : qm_r32 how) (hp : -1 ≤ p ∧ p < np) (H : ∀ μ', jd_fm [37] [67] μ μ' → jm_belt nc (nr + 1) lm sd th (jd_ap T nr (jd_u pk how p)) μ' → V μ') : qm_CV (qb_T L) (d + 1) 2445 [qm_P 13, qm_I how, qm_I p] μ V := by
  have h1 := hO.1
  have h2 := hO.2.1
  refine b2445_0 μ _ _ _ ?_
  refine jl_loop (S := fun i => ∀ μ', jd_fm [37] [67] μ μ' → μ' 13 37 = (nr : Int) → (∀ k, k < 8 * nr → μ' 67 k = μ 67 k) → (∀ c, c < i → c < nc → μ' 67 (8 * nr + c) = jd_u pk how p c) → qm_W (qb_T L) (d + 1) 2445 2 [qm_P 13, qm_I how, qm_I p, qm_I ((i : Nat) : Int)] [] μ' (fun v μ' => v = none ∧ V μ')) 8 (fun i hi ih μ' hf hr hk hj => ?_) (fun μ' hf hr hk hj => ?_) μ (jg_refl _ _ _) hM.2.1 (fun k _ => rfl) (fun c hc => absurd hc (by omega))
  · have hM1 : μ' 59 4 = (nc : Int) := by rw [hf.1 59 rfl rfl]; exact hM.1
    have hPm' : ∀ p : Nat, (p : Int) < np → μ' 62 (6 + p) = pk p := by rw [hf.1 62 rfl rfl]; exact hPm
    have go : ∀ v, (i < nc → v = jd_u pk how p i) → qm_W (qb_T L) (d + 1) 2445 40 [qm_P 13, qm_I how, qm_I p, qm_I ((i : Nat) : Int)] [qm_I v, qm_I (8 * (nr : Int) + ((i : Nat) : Int)), qm_P 67] μ' (fun v μ' => v = none ∧ V μ') := by
      intro v hv
      refine b2445_40 μ' _ _ _ _ _ _ ⟨by omega, ?_⟩
      rw [show (8 * (nr : Int) + ((i : Nat) : Int)).toNat = 8 * nr + i by omega]
      refine ih _ (jg_c hf rfl rfl) (by rw [jl_sn _ _ _ (by decide)]; exact hr) (fun k hk2 => by rw [jl_sk _ _ _ (by omega)]; exact hk k hk2) fun c hc hc2 => ?_
      by_cases hci : c = i
      · rw [hci, jl_ss]; exact hv (by omega)
      · rw [jl_sk _ _ _ (by omega)]; exact hj c (by omega) hc2
    refine b2445_2 μ' _ _ _ _ ?_
    rw [hr]
    refine ⟨by omega, fun z => absurd z (by omega), fun _ => b2436_0 μ' _ ⟨_, rfl, ?_⟩⟩
    rw [hM1]
    exact ⟨by omega, by omega, fun z => go 0 (fun y => absurd y (by omega)), fun z => js_2441 (by omega) hnp hP hPm' hh hp (go _ fun _ => rfl)⟩
  · refine b2445_2 μ' _ _ _ _ ?_
    rw [hr]
    refine ⟨by omega, fun _ => ⟨rfl, H _ (jg_f hf rfl) ?_⟩, fun z => absurd (by decide) z⟩
    obtain ⟨e1, e2, e3, e4, e5, e6⟩ := hM
    have f1 := hf.1
    refine ⟨?_, jl_ss _ _ _ _, ?_, ?_, ?_, ?_⟩
    · rw [jl_sn _ _ _ (by decide), f1 59 rfl rfl]; exact e1
    · rw [jl_sn _ _ _ (by decide), f1 63 rfl rfl]; exact e3
    · rw [jl_sn _ _ _ (by decide), f1 61 rfl rfl]; exact e4
    · rw [jl_sn _ _ _ (by decide), f1 61 rfl rfl]; exact e5
    · intro r c hr2 hc
      rw [jl_sn _ _ _ (by decide)]
      by_cases hrn : r = nr
      · rw [hrn, jl_ap1]; exact hj c (by omega) hc
      · rw [jl_ap0 _ _ _ _ hrn, hk _ (by omega)]; exact e6 r c (by omega) hc
end
