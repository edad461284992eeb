/-! ===== the class's belt, read ===== -/
def jd_sum (f : Nat → Int) : Nat → Int
  | 0 => 0
  | n + 1 => jd_sum f n + f n
theorem jl_sumb {f : Nat → Int} {b : Int} (h : ∀ i, 0 ≤ f i ∧ f i ≤ b) (n : Nat) : 0 ≤ jd_sum f n ∧ jd_sum f n ≤ (n : Int) * b := by
  induction n with
  | zero => exact ⟨Int.le_refl 0, by show (0 : Int) ≤ ((0 : Nat) : Int) * b; rw [Int.natCast_zero, Int.zero_mul]; exact Int.le_refl 0⟩
  | succ n ih =>
    have e : jd_sum f (n + 1) = jd_sum f n + f n := rfl
    have e2 : ((n + 1 : Nat) : Int) * b = (n : Int) * b + b := by rw [← jl_cs, Int.add_mul, Int.one_mul]
    have := h n
    rw [e, e2]; omega
theorem jl_sume {f g : Nat → Int} : ∀ (n : Nat), (∀ i, i < n → f i = g i) → jd_sum f n = jd_sum g n
  | 0, _ => rfl
  | n + 1, h => by
    show jd_sum f n + f n = jd_sum g n + g n
    rw [jl_sume n (fun i hi => h i (by omega)), h n (by omega)]
def jd_is (p : Prop) [Decidable p] : Int := if p then 1 else 0
theorem jl_is (p : Prop) [Decidable p] : 0 ≤ jd_is p ∧ jd_is p ≤ 1 := by unfold jd_is; split <;> omega
def jd_abs (x : Int) : Int := if x < 0 then -x else x
def jd_sl (t s : Int) : Int := if t = 0 then 0 else if (t = 1 ↔ s = 0) then 1 else 2
def jd_cell (th T : Nat → Nat → Int) (r c : Nat) (b : Int) : Int := th c (jd_c4 (jd_tw (fun i => T i c) (r + 1) + b))
def jd_rhy (nc nr : Nat) (T : Nat → Nat → Int) (n : Nat) : Prop := nr % n = 0 ∧ ∀ r, n ≤ r → r < nr → ∀ c, c < nc → T r c = T (r - n) c
def jd_rh (nc nr : Nat) (T : Nat → Nat → Int) (v : Nat) : Prop := (nr = 0 ∧ v = 0) ∨ (0 < v ∧ v ≤ nr ∧ jd_rhy nc nr T v ∧ ∀ w, 0 < w → w < v → ¬ jd_rhy nc nr T w)
theorem jl_rh {nc nr : Nat} {T : Nat → Nat → Int} {v w : Nat} (h1 : jd_rh nc nr T v) (h2 : jd_rh nc nr T w) : v = w := by
  rcases h1 with ⟨a, b⟩ | ⟨a, b, c, e⟩ <;> rcases h2 with ⟨a2, b2⟩ | ⟨a2, b2, c2, e2⟩
  · omega
  · omega
  · omega
  · rcases Nat.lt_trichotomy v w with q | q | q
    · exact absurd c (e2 v a q)
    · exact q
    · exact absurd c2 (e w a2 q)
def jd_tm (x : Int) : Int := if x % 4 = 0 then 1 else if x % 4 = 2 then 2 else 4
def jd_jn (f : Nat → Int) : Nat → Int
  | 0 => 1
  | n + 1 => max (jd_jn f n) (jd_tm (f n))
theorem jl_tm (x : Int) : 1 ≤ jd_tm x ∧ jd_tm x ≤ 4 := by
  unfold jd_tm; split
  · omega
  · split <;> omega
theorem jl_jn (f : Nat → Int) (n : Nat) : 1 ≤ jd_jn f n ∧ jd_jn f n ≤ 4 := by
  induction n with
  | zero => exact ⟨by show (1 : Int) ≤ 1; omega, by show (1 : Int) ≤ 4; omega⟩
  | succ n ih =>
    have e : jd_jn f (n + 1) = max (jd_jn f n) (jd_tm (f n)) := rfl
    have := jl_tm (f n)
    rw [e]; omega
theorem jl_dd (x y z : Int) (hy : 0 ≤ y) : x / y / z = x / (y * z) := by
  rw [Int.ediv_ediv, if_neg (fun q => absurd q.1 (by omega)), Int.sub_zero]
/-- digits of base four tell a number -/
theorem jl_dig {x y : Int} : ∀ (n : Nat), 0 ≤ x → 0 ≤ y → x < ((2 ^ (2 * n) : Nat) : Int) → y < ((2 ^ (2 * n) : Nat) : Int) → (∀ c, c < n → x / ((2 ^ (2 * c) : Nat) : Int) % 4 = y / ((2 ^ (2 * c) : Nat) : Int) % 4) → x = y := by
  intro n
  induction n generalizing x y with
  | zero =>
    intro h1 h2 h3 h4 _
    have e : ((2 ^ (2 * 0) : Nat) : Int) = 1 := rfl
    rw [e] at h3 h4
    omega
  | succ n ih =>
    intro h1 h2 h3 h4 h
    have e : ((2 ^ (2 * (n + 1)) : Nat) : Int) = ((2 ^ (2 * n) : Nat) : Int) * 4 := by
      rw [show 2 * (n + 1) = 2 * n + 2 by omega, Nat.pow_add, Int.natCast_mul]; rfl
    rw [e] at h3 h4
    have h0 := h 0 (by omega)
    have e0 : ((2 ^ (2 * 0) : Nat) : Int) = 1 := rfl
    rw [e0, Int.ediv_one, Int.ediv_one] at h0
    have hq : x / 4 = y / 4 := by
      refine ih (by omega) (by omega) (by omega) (by omega) (fun c hc => ?_)
      have h5 := h (c + 1) (by omega)
      have e5 : ((2 ^ (2 * (c + 1)) : Nat) : Int) = 4 * ((2 ^ (2 * c) : Nat) : Int) := by
        rw [show 2 * (c + 1) = 2 + 2 * c by omega, Nat.pow_add, Int.natCast_mul]; rfl
      rw [e5, ← jl_dd _ _ _ (by omega), ← jl_dd _ _ _ (by omega)] at h5
      exact h5
    omega
section
variable {L d nc nr : Nat} {lm : Int} {sd : Nat → Int} {th T : Nat → Nat → Int} {μ : qm_M} {Q : Int → qm_M → Prop}
theorem js_205 {a : Int} (hB : jc_belt nc nr lm sd th T μ) (hO : jd_ok nc nr lm sd th T) (ha : qm_r32 a) (H1 : ∀ c : Nat, a = (c : Int) → c < nc → Q 1 μ) (H0 : (a < 0 ∨ (nc : Int) ≤ a) → Q 0 μ) : qm_CI (qb_T L) d 205 [qm_P 6, qm_I a] μ Q := by
  refine b205_0 μ _ a ?_
  have h1 := hO.1
  rw [hB.1]
  (repeat' (first | refine ⟨_, rfl, ?_⟩ | apply And.intro | intro _)) <;> (try omega)
  · exact H0 (by omega)
  · exact H0 (by omega)
  · exact H1 a.toNat (by omega) (by omega)
theorem js_206 {a : Int} (hB : jc_belt nc nr lm sd th T μ) (hO : jd_ok nc nr lm sd th T) (ha : qm_r32 a) (H1 : ∀ c : Nat, a = (c : Int) → c < nr → Q 1 μ) (H0 : (a < 0 ∨ (nr : Int) ≤ a) → Q 0 μ) : qm_CI (qb_T L) d 206 [qm_P 6, qm_I a] μ Q := by
  refine b206_0 μ _ a ?_
  have h1 := hO.2.1
  rw [hB.2.1]
  (repeat' (first | refine ⟨_, rfl, ?_⟩ | apply And.intro | intro _)) <;> (try omega)
  · exact H0 (by omega)
  · exact H0 (by omega)
  · exact H1 a.toNat (by omega) (by omega)
theorem js_207 {c : Nat} (hB : jc_belt nc nr lm sd th T μ) (hO : jd_ok nc nr lm sd th T) (hc : c < nc) (H : Q (sd c) μ) : qm_CI (qb_T L) (d + 1) 207 [qm_P 6, qm_I (c : Int)] μ Q := by
  refine b207_0 μ _ _ ?_
  have h1 := hO.1
  refine js_401i c rfl (by decide) rfl (by omega) ?_
  refine ⟨_, rfl, ?_⟩
  rw [hB.2.2.2.1 c hc]; exact H
theorem js_210 {c : Nat} {x : Int} (hB : jc_belt nc nr lm sd th T μ) (hO : jd_ok nc nr lm sd th T) (hc : c < nc) (H : Q (th c (jd_c4 x)) μ) : qm_CI (qb_T L) (d + 1) 210 [qm_P 6, qm_I (c : Int), qm_I x] μ Q := by
  refine b210_0 μ _ _ _ ?_
  have h1 := hO.1
  have h2 := jl_c4 x
  have h3 := jl_c4i x
  rw [qa_and3]
  refine js_401i (4 * c + jd_c4 x) rfl (by decide) (by omega) (by omega) ?_
  refine ⟨_, rfl, ?_⟩
  rw [hB.2.2.2.2.1 c _ hc h2]; exact H
theorem js_215 {c : Nat} {a : Int} (m : Nat) (hB : jc_belt nc nr lm sd th T μ) (hO : jd_ok nc nr lm sd th T) (hc : c < nc) (ha : a = (m : Int) - 1) (hm : m ≤ nr) (H : Q (jd_tw (fun i => T i c) m) μ) : qm_CI (qb_T L) (d + 1) 215 [qm_P 6, qm_I a, qm_I (c : Int)] μ Q := by
  refine b215_0 μ _ _ _ ?_
  have h1 := hO.1
  have h2 := hO.2.1
  subst ha
  refine ⟨by omega, fun h => ?_, fun h => ?_⟩
  · obtain ⟨r, rfl⟩ : ∃ r, m = r + 1 := ⟨m - 1, by omega⟩
    refine js_401i (8 * r + c) rfl (by decide) (by omega) (by omega) ?_
    refine ⟨_, rfl, ?_⟩
    rw [hB.2.2.2.2.2.2.2 r c (by omega) hc]; exact H
  · obtain rfl : m = 0 := by omega
    exact ⟨_, rfl, H⟩
theorem js_216 {r c : Nat} (hB : jc_belt nc nr lm sd th T μ) (hO : jd_ok nc nr lm sd th T) (hr : r < nr) (hc : c < nc) (H : Q (jd_cell th T r c 0) μ) : qm_CI (qb_T L) (d + 2) 216 [qm_P 6, qm_I (r : Int), qm_I (c : Int)] μ Q := by
  refine b216_0 μ _ _ _ ?_
  refine js_215 (r + 1) hB hO hc (by omega) (by omega) ?_
  refine js_210 hB hO hc ?_
  refine ⟨_, rfl, ?_⟩
  unfold jd_cell at H
  rw [Int.add_zero] at H
  exact H
theorem js_217 {r c : Nat} (hB : jc_belt nc nr lm sd th T μ) (hO : jd_ok nc nr lm sd th T) (hr : r < nr) (hc : c < nc) (H : Q (jd_cell th T r c 2) μ) : qm_CI (qb_T L) (d + 2) 217 [qm_P 6, qm_I (r : Int), qm_I (c : Int)] μ Q := by
  refine b217_0 μ _ _ _ ?_
  refine js_215 (r + 1) hB hO hc (by omega) (by omega) ?_
  refine js_210 hB hO hc ?_
  exact ⟨_, rfl, H⟩
theorem js_213 {r : Nat} (hr : r < 60) (H : Q (μ 33 r) μ) : qm_CI (qb_T L) (d + 1) 213 [qm_P 6, qm_I (r : Int)] μ Q := by
  refine b213_0 μ _ _ ?_
  refine js_401i r rfl (by decide) rfl (by omega) ?_
  exact ⟨_, rfl, H⟩
theorem js_203 {t : Int} {c : Nat} (hc : c < 8) (ht : qm_r32 t) (H : Q (t / ((2 ^ (2 * c) : Nat) : Int) % 4) μ) : qm_CI (qb_T L) d 203 [qm_I t, qm_I (c : Int)] μ Q := by
  refine b203_0 μ _ _ _ ?_
  refine ⟨_, rfl, ?_⟩
  rw [qa_and3, show (2 : Int) * (c : Int) = ((2 * c : Nat) : Int) by omega, qa_shr ht (by omega)]
  exact H
theorem js_204 {t : Int} {c : Nat} (hc : c < 8) (ht : qm_r32 t) (H : Q (jd_mv (t / ((2 ^ (2 * c) : Nat) : Int) % 4)) μ) : qm_CI (qb_T L) (d + 1) 204 [qm_I t, qm_I (c : Int)] μ Q := by
  refine b204_0 μ _ _ _ ?_
  refine js_203 hc ht ?_
  unfold jd_mv at H
  generalize hx : t / ((2 ^ (2 * c) : Nat) : Int) % 4 = x at H
  have hx2 : 0 ≤ x ∧ x < 4 := by omega
  (repeat' (first | refine ⟨_, rfl, ?_⟩ | apply And.intro | intro _)) <;> (try omega)
  · rw [if_pos ‹_›] at H; exact H
  · rw [if_neg ‹_›, if_pos ‹_›] at H; exact H
  · rw [if_neg ‹_›, if_neg ‹_›] at H; exact H
theorem jl_p16 {n : Nat} (h : n ≤ 8) : ((2 ^ (2 * n) : Nat) : Int) ≤ 65536 := by
  have : 2 ^ (2 * n) ≤ 2 ^ 16 := Nat.pow_le_pow_right (by decide) (by omega)
  omega
theorem js_214 {r c : Nat} (hB : jc_belt nc nr lm sd th T μ) (hO : jd_ok nc nr lm sd th T) (hr : r < nr) (hc : c < nc) (H : Q (T r c) μ) : qm_CI (qb_T L) (d + 2) 214 [qm_P 6, qm_I (r : Int), qm_I (c : Int)] μ Q := by
  refine b214_0 μ _ _ _ ?_
  have h1 := hO.1
  have h2 := hO.2.1
  have h3 := hB.2.2.2.2.2.2.1 r hr
  have h4 := jl_p16 h1
  refine js_213 (by omega) ?_
  refine js_203 (by omega) (by omega) ?_
  refine ⟨_, rfl, ?_⟩
  rw [hB.2.2.2.2.2.1 r c hr hc]
  exact H
theorem js_218 {r c : Nat} (hB : jc_belt nc nr lm sd th T μ) (hO : jd_ok nc nr lm sd th T) (hr : r < nr) (hc : c < nc) (H : Q (jd_sl (T r c) (sd c)) μ) : qm_CI (qb_T L) (d + 3) 218 [qm_P 6, qm_I (r : Int), qm_I (c : Int)] μ Q := by
  refine b218_0 μ _ _ _ ?_
  have h1 := hO.2.2.2.2.2.1 r c hr hc
  have h2 := hO.2.2.2.1 c hc
  refine js_214 hB hO hr hc ?_
  unfold jd_sl at H
  refine ⟨by omega, fun h => ⟨_, rfl, ?_⟩, fun h => ⟨by omega, fun h5 => ?_, fun h5 => ?_⟩⟩
  · rw [if_pos h] at H; exact H
  · refine b218_23 μ _ _ _ _ _ (js_207 hB hO hc ⟨by omega, fun h6 => ?_, fun h6 => ?_⟩)
    · refine b218_36 μ _ _ _ _ _ _ ⟨by omega, by omega, fun _ => ⟨_, rfl, ?_⟩, fun h7 => absurd rfl h7⟩
      rw [if_neg h, if_pos (by omega)] at H; exact H
    · refine b218_36 μ _ _ _ _ _ _ ⟨by omega, by omega, fun h7 => absurd h7 (by decide), fun _ => ⟨_, rfl, ?_⟩⟩
      rw [if_neg h, if_neg (by omega)] at H; exact H
  · refine b218_23 μ _ _ _ _ _ (js_207 hB hO hc ⟨by omega, fun h6 => ?_, fun h6 => ?_⟩)
    · refine b218_36 μ _ _ _ _ _ _ ⟨by omega, by omega, fun h7 => absurd h7 (by decide), fun _ => ⟨_, rfl, ?_⟩⟩
      rw [if_neg h, if_neg (by omega)] at H; exact H
    · refine b218_36 μ _ _ _ _ _ _ ⟨by omega, by omega, fun _ => ⟨_, rfl, ?_⟩, fun h7 => absurd rfl h7⟩
      rw [if_neg h, if_pos (by omega)] at H; exact H
theorem js_220 {r : Nat} {t : Int} (hB : jc_belt nc nr lm sd th T μ) (hO : jd_ok nc nr lm sd th T) (hr : r < nr) (ht : qm_r32 t) (H : Q (jd_sum (fun c => jd_is (T r c = t)) nc) μ) : qm_CI (qb_T L) (d + 3) 220 [qm_P 6, qm_I (r : Int), qm_I t] μ Q := by
  refine b220_0 μ _ _ _ ?_
  have h1 := hO.1
  refine jl_loop (S := fun i => qm_W (qb_T L) (d + 3) 220 5 [qm_P 6, qm_I (r : Int), qm_I t, qm_I (jd_sum (fun c => jd_is (T r c = t)) i), qm_I ((i : Nat) : Int)] [] μ _) nc (fun i hi ih => ?_) ?_
  · refine b220_5 μ _ _ _ _ _ ?_
    rw [hB.1]
    refine ⟨by omega, by omega, fun h => absurd h (by omega), fun _ => ?_⟩
    refine js_214 hB hO hr hi ?_
    have h2 := hO.2.2.2.2.2.1 r i hr hi
    refine ⟨by omega, ht, fun h => b220_28 μ _ _ _ _ _ ?_, fun h => b220_28 μ _ _ _ _ _ ?_⟩
    · have e : jd_sum (fun c => jd_is (T r c = t)) (i + 1) = jd_sum (fun c => jd_is (T r c = t)) i + 1 := by
        show _ + jd_is (T r i = t) = _
        unfold jd_is; rw [if_pos h]
      rw [e] at ih; exact ih
    · have e : jd_sum (fun c => jd_is (T r c = t)) (i + 1) = jd_sum (fun c => jd_is (T r c = t)) i := by
        show _ + jd_is (T r i = t) = _
        unfold jd_is; rw [if_neg h, Int.add_zero]
      rw [e] at ih; exact ih
  · refine b220_5 μ _ _ _ _ _ ?_
    rw [hB.1]
    exact ⟨by omega, by omega, fun _ => ⟨_, rfl, H⟩, fun h => absurd (Int.le_refl _) h⟩
theorem js_221 {c : Nat} (hB : jc_belt nc nr lm sd th T μ) (hO : jd_ok nc nr lm sd th T) (hc : c < nc) (H : Q (jd_sum (fun r => jd_is (T r c = 2)) nr) μ) : qm_CI (qb_T L) (d + 3) 221 [qm_P 6, qm_I (c : Int)] μ Q := by
  refine b221_0 μ _ _ ?_
  have h1 := hO.2.1
  refine jl_loop (S := fun i => qm_W (qb_T L) (d + 3) 221 4 [qm_P 6, qm_I (c : Int), qm_I (jd_sum (fun r => jd_is (T r c = 2)) i), qm_I ((i : Nat) : Int)] [] μ _) nr (fun i hi ih => ?_) ?_
  · refine b221_4 μ _ _ _ _ ?_
    rw [hB.2.1]
    refine ⟨by omega, by omega, fun h => absurd h (by omega), fun _ => ?_⟩
    refine js_214 hB hO hi hc ?_
    have h2 := hO.2.2.2.2.2.1 i c hi hc
    refine ⟨by omega, fun h => b221_25 μ _ _ _ _ ?_, fun h => b221_25 μ _ _ _ _ ?_⟩
    · have e : jd_sum (fun r => jd_is (T r c = 2)) (i + 1) = jd_sum (fun r => jd_is (T r c = 2)) i + 1 := by
        show _ + jd_is (T i c = 2) = _
        unfold jd_is; rw [if_pos h]
      rw [e] at ih; exact ih
    · have e : jd_sum (fun r => jd_is (T r c = 2)) (i + 1) = jd_sum (fun r => jd_is (T r c = 2)) i := by
        show _ + jd_is (T i c = 2) = _
        unfold jd_is; rw [if_neg h, Int.add_zero]
      rw [e] at ih; exact ih
  · refine b221_4 μ _ _ _ _ ?_
    rw [hB.2.1]
    exact ⟨by omega, by omega, fun _ => ⟨_, rfl, H⟩, fun h => absurd (Int.le_refl _) h⟩
theorem jl_qabs (x : Int) : qm_abs x = jd_abs x := by unfold qm_abs jd_abs; split <;> split <;> omega
theorem js_222 (hB : jc_belt nc nr lm sd th T μ) (hO : jd_ok nc nr lm sd th T) (H : Q (jd_sum (fun c => jd_abs (jd_tw (fun i => T i c) nr)) nc) μ) : qm_CI (qb_T L) (d + 2) 222 [qm_P 6] μ Q := by
  refine b222_0 μ _ ?_
  have h1 := hO.1
  have h3 := hO.2.1
  refine jl_loop (S := fun i => qm_W (qb_T L) (d + 2) 222 4 [qm_P 6, qm_I (jd_sum (fun c => jd_abs (jd_tw (fun i => T i c) nr)) i), qm_I ((i : Nat) : Int)] [] μ _) nc (fun i hi ih => ?_) ?_
  · refine b222_4 μ _ _ _ ?_
    rw [hB.1, hB.2.1]
    refine ⟨by omega, by omega, fun h => absurd h (by omega), fun _ => ?_⟩
    refine js_215 nr hB hO hi rfl (Nat.le_refl _) ?_
    have h2 := jl_twb (fun r => T r i) nr
    refine ⟨by omega, ?_⟩
    rw [jl_qabs]
    exact ih
  · refine b222_4 μ _ _ _ ?_
    rw [hB.1, hB.2.1]
    exact ⟨by omega, by omega, fun _ => ⟨_, rfl, H⟩, fun h => absurd (Int.le_refl _) h⟩
theorem js_225 (hB : jc_belt nc nr lm sd th T μ) (hO : jd_ok nc nr lm sd th T) (H : Q (jd_jn (fun c => jd_tw (fun i => T i c) nr) nc) μ) : qm_CI (qb_T L) (d + 2) 225 [qm_P 6] μ Q := by
  refine b225_0 μ _ ?_
  have h1 := hO.1
  have h3 := hO.2.1
  have key : ∀ w, qm_W (qb_T L) (d + 2) 225 4 [qm_P 6, qm_I (jd_jn (fun c => jd_tw (fun i => T i c) nr) 0), qm_I ((0 : Nat) : Int), w] [] μ (fun v μ' => ∃ r, v = some (.inl r) ∧ Q r μ') := by
    refine jl_loop (S := fun i => ∀ w, qm_W (qb_T L) (d + 2) 225 4 [qm_P 6, qm_I (jd_jn (fun c => jd_tw (fun i => T i c) nr) i), qm_I ((i : Nat) : Int), w] [] μ _) nc (fun i hi ih w => ?_) (fun w => ?_)
    · refine b225_4 μ _ _ _ _ ?_
      rw [hB.1, hB.2.1]
      refine ⟨by omega, by omega, fun h => absurd h (by omega), fun _ => ?_⟩
      refine js_215 nr hB hO hi rfl (Nat.le_refl _) ?_
      have h4 := jl_jn (fun c => jd_tw (fun i => T i c) nr) i
      have e : ∀ w, jd_tm (jd_tw (fun r => T r i) nr) = w → qm_W (qb_T L) (d + 2) 225 4 [qm_P 6, qm_I (qm_max (jd_jn (fun c => jd_tw (fun i => T i c) nr) i) w), qm_I ((i : Int) + 1), qm_I (jd_tw (fun r => T r i) nr % 4)] [] μ (fun v μ' => ∃ r, v = some (.inl r) ∧ Q r μ') := by
        intro w hw
        rw [qa_max, ← hw]
        exact ih _
      rw [qa_and3]
      generalize hx : jd_tw (fun r => T r i) nr % 4 = x at e ⊢
      unfold jd_tm at e
      rw [hx] at e
      refine ⟨by omega, fun h => b225_45 μ _ _ _ _ _ _ ⟨by omega, by omega, e 1 (by rw [if_pos h])⟩, fun h => ⟨by omega, fun h5 => b225_45 μ _ _ _ _ _ _ ⟨by omega, by omega, e 2 (by rw [if_neg h, if_pos h5])⟩, fun h5 => b225_45 μ _ _ _ _ _ _ ⟨by omega, by omega, e 4 (by rw [if_neg h, if_neg h5])⟩⟩⟩
    · refine b225_4 μ _ _ _ _ ?_
      rw [hB.1, hB.2.1]
      exact ⟨by omega, by omega, fun _ => ⟨_, rfl, H⟩, fun h => absurd (Int.le_refl _) h⟩
  exact key none
theorem js_224 {n : Nat} (hB : jc_belt nc nr lm sd th T μ) (hO : jd_ok nc nr lm sd th T) (hn : 0 < n) (hn2 : n ≤ nr) (H1 : (∀ r, n ≤ r → r < nr → ∀ c, c < nc → T r c = T (r - n) c) → Q 1 μ) (H0 : ¬ (∀ r, n ≤ r → r < nr → ∀ c, c < nc → T r c = T (r - n) c) → Q 0 μ) : qm_CI (qb_T L) (d + 2) 224 [qm_P 6, qm_I (n : Int)] μ Q := by
  refine b224_0 μ _ _ ?_
  have h1 := hO.1
  have h3 := hO.2.1
  obtain ⟨k, hk⟩ : ∃ k, nr = n + k := ⟨nr - n, by omega⟩
  refine jl_from (S := fun i => (∀ r, n ≤ r → r < i → ∀ c, c < nc → T r c = T (r - n) c) → qm_W (qb_T L) (d + 2) 224 2 [qm_P 6, qm_I (n : Int), qm_I ((i : Nat) : Int)] [] μ _) n k (fun i h5 h6 ih hp => ?_) (fun hp => ?_) (fun r h5 h6 => absurd h5 (by omega))
  · refine b224_2 μ _ _ _ ?_
    rw [hB.2.1]
    refine ⟨by omega, by omega, fun h => absurd h (by omega), fun _ => ?_⟩
    refine js_213 (by omega) ?_
    rw [show (i : Int) - (n : Int) = ((i - n : Nat) : Int) by omega]
    refine js_213 (by omega) ?_
    have h7 := hB.2.2.2.2.2.2.1 i (by omega)
    have h8 := hB.2.2.2.2.2.2.1 (i - n) (by omega)
    have h4 := jl_p16 h1
    refine ⟨by omega, by omega, fun h => ?_, fun h => ⟨_, rfl, H0 fun hh => h ?_⟩⟩
    · refine ih fun r h9 h10 c hc => ?_
      by_cases hr : r = i
      · subst hr
        rw [← hB.2.2.2.2.2.1 r c (by omega) hc, ← hB.2.2.2.2.2.1 (r - n) c (by omega) hc, h]
      · exact hp r h9 (by omega) c hc
    · refine jl_dig nc h7.1 h8.1 h7.2 h8.2 fun c hc => ?_
      rw [hB.2.2.2.2.2.1 i c (by omega) hc, hB.2.2.2.2.2.1 (i - n) c (by omega) hc]
      exact hh i h5 (by omega) c hc
  · refine b224_2 μ _ _ _ ?_
    rw [hB.2.1]
    refine ⟨by omega, by omega, fun _ => ⟨_, rfl, H1 fun r h5 h6 => hp r h5 (by omega)⟩, fun h => absurd h (by omega)⟩
theorem js_223 (hB : jc_belt nc nr lm sd th T μ) (hO : jd_ok nc nr lm sd th T) (H : ∀ v : Nat, v ≤ 60 → jd_rh nc nr T v → Q (v : Int) μ) : qm_CI (qb_T L) (d + 3) 223 [qm_P 6] μ Q := by
  refine b223_0 μ _ ?_
  have h1 := hO.1
  have h3 := hO.2.1
  refine jl_from (S := fun i => (∀ w, 0 < w → w < i → ¬ jd_rhy nc nr T w) → qm_W (qb_T L) (d + 3) 223 2 [qm_P 6, qm_I ((i : Nat) : Int)] [] μ _) 1 nr (fun i h5 h6 ih hp => ?_) (fun hp => ?_) (fun w h5 h6 => absurd h5 (by omega))
  · refine b223_2 μ _ _ ?_
    rw [hB.2.1, qa_rem (by omega) (by omega) (by omega) (by omega)]
    have hnx : ¬ jd_rhy nc nr T i → qm_W (qb_T L) (d + 3) 223 29 [qm_P 6, qm_I (i : Int)] [] μ (fun v μ' => ∃ r, v = some (.inl r) ∧ Q r μ') := fun hq => b223_29 μ _ _ (ih fun w h7 h8 => by
      by_cases hw : w = i
      · rw [hw]; exact hq
      · exact hp w h7 (by omega))
    have hm0 := Int.emod_nonneg (nr : Int) (show (i : Int) ≠ 0 by omega)
    have hm1 := Int.emod_lt_of_pos (nr : Int) (show (0 : Int) < (i : Int) by omega)
    refine ⟨by omega, by omega, fun h => absurd h (by omega), fun _ => ⟨by omega, by omega, by omega, fun h => ?_, fun h => hnx fun q => h ?_⟩⟩
    · refine js_224 hB hO (by omega) (by omega) (fun hh => ?_) (fun hh => ?_)
      · exact ⟨by decide, fun q => absurd q (by decide), fun _ => ⟨_, rfl, H i (by omega) (Or.inr ⟨by omega, by omega, ⟨by omega, hh⟩, hp⟩)⟩⟩
      · exact ⟨by decide, fun _ => hnx fun q => hh q.2, fun q => absurd rfl q⟩
    · have := q.1; omega
  · refine b223_2 μ _ _ ?_
    rw [hB.2.1]
    refine ⟨by omega, by omega, fun _ => ⟨_, rfl, ?_⟩, fun h => absurd h (by omega)⟩
    by_cases h0 : nr = 0
    · exact H 0 (by omega) (Or.inl ⟨h0, rfl⟩)
    · exfalso
      refine hp nr (by omega) (by omega) ⟨Nat.mod_self nr, fun r h5 h6 => absurd h5 (by omega)⟩
end
