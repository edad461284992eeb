/-! ===== loops, cells, rows of numbers ===== -/
theorem jl_loop {S : Nat → Prop} (m : Nat) (hs : ∀ i, i < m → S (i + 1) → S i) (he : S m) : S 0 := by
  induction m with
  | zero => exact he
  | succ m ih => exact ih (fun i hi => hs i (by omega)) (hs m (by omega) he)
theorem jl_from {S : Nat → Prop} (k n : Nat) (hs : ∀ i, k ≤ i → i < k + n → S (i + 1) → S i) (he : S (k + n)) : S k := by
  induction n with
  | zero => exact he
  | succ m ih => exact ih (fun i h1 h2 => hs i h1 (by omega)) (hs (k + m) (by omega) (by omega) he)
theorem jl_cs (i : Nat) : (i : Int) + 1 = ((i + 1 : Nat) : Int) := rfl
theorem jl_ss (μ : qm_M) (c k : Nat) (z : Int) : qm_set μ c k z c k = z := by
  unfold qm_set; rw [if_pos rfl, if_pos rfl]
theorem jl_sn {c c' : Nat} (μ : qm_M) (k : Nat) (z : Int) (h : c' ≠ c) : qm_set μ c k z c' = μ c' := by
  funext k'; unfold qm_set; rw [if_neg h]
theorem jl_sk {k k' : Nat} (μ : qm_M) (c : Nat) (z : Int) (h : k' ≠ k) : qm_set μ c k z c k' = μ c k' := by
  unfold qm_set; rw [if_pos rfl, if_neg h]
/-- one row copied to another as far as n -/
def jd_cpy (μ : qm_M) (a b n : Nat) : qm_M := fun c k => if c = b ∧ k < n then μ a k else μ c k
def jd_clr (μ : qm_M) (a n : Nat) : qm_M := fun c k => if c = a ∧ k < n then 0 else μ c k
def jd_at (μ : qm_M) (c n : Nat) (i : Int) : Int := if 0 ≤ i ∧ i < (n : Int) then μ c i.toNat else 0
def jd_put (μ : qm_M) (c n : Nat) (i z : Int) : qm_M := if 0 ≤ i ∧ i < (n : Int) then qm_set μ c i.toNat z else μ
section
variable {L d : Nat} {μ : qm_M} {Q : Int → qm_M → Prop} {V : qm_M → Prop}
theorem js_401 {c n : Nat} {i : Int} (h0 : qm_sh (qb_T L) c = some (.inr (0, n))) (hn : n ≤ 20000) (hi : qm_r32 i) (H : Q (jd_at μ c n i) μ) : qm_CI (qb_T L) d 401 [qm_P c, qm_I i] μ Q := by
  refine b401_0 h0 μ _ i ?_
  unfold jd_at at H
  (repeat' (first | refine ⟨_, rfl, ?_⟩ | apply And.intro | intro _)) <;> (try omega)
  · rw [if_neg (by omega)] at H; exact H
  · rw [if_neg (by omega)] at H; exact H
  · rw [if_pos (by omega)] at H; exact H
theorem js_401i {c n : Nat} {i : Int} (k : Nat) (h0 : qm_sh (qb_T L) c = some (.inr (0, n))) (hn : n ≤ 20000) (hi : i = (k : Int)) (hk : k < n) (H : Q (μ c k) μ) : qm_CI (qb_T L) d 401 [qm_P c, qm_I i] μ Q := by
  subst hi
  refine js_401 h0 hn (by omega) ?_
  unfold jd_at
  rw [if_pos (by omega), Int.toNat_natCast]
  exact H
theorem js_402 {c n : Nat} {i z : Int} (h0 : qm_sh (qb_T L) c = some (.inr (0, n))) (hn : n ≤ 20000) (hi : qm_r32 i) (H : V (jd_put μ c n i z)) : qm_CV (qb_T L) d 402 [qm_P c, qm_I i, qm_I z] μ V := by
  refine b402_0 h0 μ _ i z ?_
  unfold jd_put at H
  (repeat' (first | refine ⟨_, rfl, ?_⟩ | apply And.intro | intro _))
  all_goals try omega
  all_goals try exact rfl
  · rw [if_neg (by omega)] at H; exact H
  · rw [if_neg (by omega)] at H; exact H
  · rw [if_pos (by omega)] at H; exact H
theorem js_402i {c n : Nat} {i z : Int} (k : Nat) (h0 : qm_sh (qb_T L) c = some (.inr (0, n))) (hn : n ≤ 20000) (hi : i = (k : Int)) (hk : k < n) (H : V (qm_set μ c k z)) : qm_CV (qb_T L) d 402 [qm_P c, qm_I i, qm_I z] μ V := by
  subst hi
  refine js_402 h0 hn (by omega) ?_
  unfold jd_put
  rw [if_pos (by omega), Int.toNat_natCast]
  exact H
theorem jl_cpy_s (μ : qm_M) {a b : Nat} (h : a ≠ b) (i : Nat) : qm_set (jd_cpy μ a b i) b i (jd_cpy μ a b i a i) = jd_cpy μ a b (i + 1) := by
  funext c k
  unfold qm_set jd_cpy
  rw [if_neg (show ¬ (a = b ∧ i < i) by omega)]
  by_cases hc : c = b
  · by_cases hk : k = i
    · rw [if_pos hc, if_pos hk, if_pos (by omega), hk]
    · rw [if_pos hc, if_neg hk]
      by_cases h2 : k < i
      · rw [if_pos (by omega), if_pos (by omega)]
      · rw [if_neg (by omega), if_neg (by omega)]
  · rw [if_neg hc, if_neg (by omega), if_neg (by omega)]
theorem jl_cpy_0 (μ : qm_M) (a b : Nat) : jd_cpy μ a b 0 = μ := by
  funext c k; unfold jd_cpy; rw [if_neg (by omega)]
theorem js_403 {a b n : Nat} (h0 : qm_sh (qb_T L) a = some (.inr (0, n))) (h1 : qm_sh (qb_T L) b = some (.inr (0, n))) (hn : n ≤ 20000) (hab : a ≠ b) (H : V (jd_cpy μ a b n)) : qm_CV (qb_T L) d 403 [qm_P a, qm_P b] μ V := by
  refine b403_0 h0 h1 μ _ ?_
  have key : qm_W (qb_T L) d 403 2 [qm_P a, qm_P b, qm_I ((0 : Nat) : Int)] [] (jd_cpy μ a b 0) (fun v μ' => v = none ∧ V μ') := by
    refine jl_loop (S := fun i => qm_W (qb_T L) d 403 2 [qm_P a, qm_P b, qm_I ((i : Nat) : Int)] [] (jd_cpy μ a b i) (fun v μ' => v = none ∧ V μ')) n (fun i hi ih => ?_) ?_
    · refine b403_2 h0 h1 _ _ _ ?_
      have e : ((i : Nat) : Int).toNat = i := Int.toNat_natCast i
      rw [e, jl_cpy_s μ hab, jl_cs]
      (repeat' (first | refine ⟨_, rfl, ?_⟩ | apply And.intro | intro _)) <;> (try omega)
      all_goals exact ih
    · refine b403_2 h0 h1 _ _ _ ?_
      (repeat' (first | refine ⟨_, rfl, ?_⟩ | apply And.intro | intro _))
      all_goals try omega
      all_goals first | rfl | exact H
  rw [jl_cpy_0] at key
  exact key
theorem jl_clr_s (μ : qm_M) (a i : Nat) : qm_set (jd_clr μ a i) a i 0 = jd_clr μ a (i + 1) := by
  funext c k
  unfold qm_set jd_clr
  by_cases hc : c = a
  · by_cases hk : k = i
    · rw [if_pos hc, if_pos hk, if_pos (by omega)]
    · rw [if_pos hc, if_neg hk]
      by_cases h2 : k < i
      · rw [if_pos (by omega), if_pos (by omega)]
      · rw [if_neg (by omega), if_neg (by omega), hc]
  · rw [if_neg hc, if_neg (by omega), if_neg (by omega)]
theorem jl_clr_0 (μ : qm_M) (a : Nat) : jd_clr μ a 0 = μ := by
  funext c k; unfold jd_clr; rw [if_neg (by omega)]
theorem js_404 {a n : Nat} (h0 : qm_sh (qb_T L) a = some (.inr (0, n))) (hn : n ≤ 20000) (H : V (jd_clr μ a n)) : qm_CV (qb_T L) d 404 [qm_P a] μ V := by
  refine b404_0 h0 μ _ ?_
  have key : qm_W (qb_T L) d 404 2 [qm_P a, qm_I ((0 : Nat) : Int)] [] (jd_clr μ a 0) (fun v μ' => v = none ∧ V μ') := by
    refine jl_loop (S := fun i => qm_W (qb_T L) d 404 2 [qm_P a, qm_I ((i : Nat) : Int)] [] (jd_clr μ a i) (fun v μ' => v = none ∧ V μ')) n (fun i hi ih => ?_) ?_
    · refine b404_2 h0 _ _ _ ?_
      have e : ((i : Nat) : Int).toNat = i := Int.toNat_natCast i
      rw [e, jl_clr_s, jl_cs]
      (repeat' (first | refine ⟨_, rfl, ?_⟩ | apply And.intro | intro _)) <;> (try omega)
      all_goals exact ih
    · refine b404_2 h0 _ _ _ ?_
      (repeat' (first | refine ⟨_, rfl, ?_⟩ | apply And.intro | intro _))
      all_goals try omega
      all_goals first | rfl | exact H
  rw [jl_clr_0] at key
  exact key
end
/-! ===== the belt as numbers ===== -/
def jd_mv (t : Int) : Int := if t = 1 then 1 else if t = 2 then -1 else 0
def jd_tw (f : Nat → Int) : Nat → Int
  | 0 => 0
  | r + 1 => jd_tw f r + jd_mv (f r)
def jd_c4 (x : Int) : Nat := (x % 4).toNat
theorem jl_c4 (x : Int) : jd_c4 x < 4 := by unfold jd_c4; omega
theorem jl_c4i (x : Int) : ((jd_c4 x : Nat) : Int) = x % 4 := by unfold jd_c4; omega
theorem jl_c4e {x y : Int} (h : x % 4 = y % 4) : jd_c4 x = jd_c4 y := by unfold jd_c4; rw [h]
theorem jl_mv (t : Int) : -1 ≤ jd_mv t ∧ jd_mv t ≤ 1 := by
  unfold jd_mv; split
  · omega
  · split <;> omega
theorem jl_twb (f : Nat → Int) (r : Nat) : -(r : Int) ≤ jd_tw f r ∧ jd_tw f r ≤ (r : Int) := by
  induction r with
  | zero => exact ⟨by show -(0 : Int) ≤ 0; omega, by show (0 : Int) ≤ 0; omega⟩
  | succ r ih =>
    have h := jl_mv (f r)
    have e : jd_tw f (r + 1) = jd_tw f r + jd_mv (f r) := rfl
    rw [e]; omega
theorem jl_twe {f g : Nat → Int} : ∀ (r : Nat), (∀ i, i < r → f i = g i) → jd_tw f r = jd_tw g r
  | 0, _ => rfl
  | r + 1, h => by
    show jd_tw f r + jd_mv (f r) = jd_tw g r + jd_mv (g r)
    rw [jl_twe r (fun i hi => h i (by omega)), h r (by omega)]
/-- what holds of a belt: nc cards, nr rows, the limit, sides, threads, turns -/
def jd_ok (nc nr : Nat) (lm : Int) (sd : Nat → Int) (th T : Nat → Nat → Int) : Prop :=
  nc ≤ 8 ∧ nr ≤ 60 ∧ (1 ≤ lm ∧ lm ≤ 40) ∧ (∀ c, c < nc → sd c = 0 ∨ sd c = 1) ∧ (∀ c k, c < nc → k < 4 → 0 ≤ th c k ∧ th c k < 6) ∧ (∀ r c, r < nr → c < nc → 0 ≤ T r c ∧ T r c ≤ 2) ∧ (∀ r c, r ≤ nr → c < nc → -lm ≤ jd_tw (fun i => T i c) r ∧ jd_tw (fun i => T i c) r ≤ lm)
def jc_belt (nc nr : Nat) (lm : Int) (sd : Nat → Int) (th T : Nat → Nat → Int) (μ : qm_M) : Prop :=
  μ 6 0 = (nc : Int) ∧ μ 6 1 = (nr : Int) ∧ μ 6 2 = lm ∧ (∀ c, c < nc → μ 31 c = sd c) ∧ (∀ c k, c < nc → k < 4 → μ 32 (4 * c + k) = th c k) ∧ (∀ r c, r < nr → c < nc → μ 33 r / ((2 ^ (2 * c) : Nat) : Int) % 4 = T r c) ∧ (∀ r, r < nr → 0 ≤ μ 33 r ∧ μ 33 r < ((2 ^ (2 * nc) : Nat) : Int)) ∧ (∀ r c, r < nr → c < nc → μ 34 (8 * r + c) = jd_tw (fun i => T i c) (r + 1))
def jm_belt (nc nr : Nat) (lm : Int) (sd : Nat → Int) (th T : Nat → Nat → Int) (μ : qm_M) : Prop :=
  μ 59 4 = (nc : Int) ∧ μ 13 37 = (nr : Int) ∧ (μ 63 1 = lm ∨ (nc = 0 ∧ μ 63 1 = 0 ∧ lm = 40)) ∧ (∀ c, c < nc → μ 61 (40 + 5 * c) = sd c) ∧ (∀ c k, c < nc → k < 4 → μ 61 (41 + 5 * c + k) = th c k) ∧ (∀ r c, r < nr → c < nc → μ 67 (8 * r + c) = T r c)
