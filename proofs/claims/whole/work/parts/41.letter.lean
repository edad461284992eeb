/-! ===== letters of names ===== -/
theorem ql_tdiv {x y : Int} (hx : -1000000000000000 ≤ x ∧ x ≤ 1000000000000000) (hy : qm_r64 y) : ql_div x y = x.tdiv y := by
  unfold ql_div
  have hx64 : qm_r64 x := ⟨by omega, by omega⟩
  rw [Int64.toInt_div_of_ne_left, qa_r64 hx64, qa_r64 hy]
  intro e
  have := congrArg Int64.toInt e
  rw [qa_r64 hx64] at this
  have h2 : Int64.minValue.toInt = -9223372036854775808 := by decide
  omega
theorem ql_tmod {x y : Int} (hx : -1000000000000000 ≤ x ∧ x ≤ 1000000000000000) (hy : qm_r64 y) : ql_rem x y = x.tmod y := by
  have hd : (Int64.ofInt x / Int64.ofInt y).toInt = x.tdiv y := ql_tdiv hx hy
  have hx64 : qm_r64 x := ⟨by omega, by omega⟩
  unfold ql_rem
  rw [Int64.toInt_sub, Int64.toInt_mul, hd, qa_r64 hx64, qa_r64 hy, Int.sub_bmod_bmod]
  have e : x - x.tdiv y * y = x.tmod y := by
    rw [Int.tmod_def, Int.mul_comm]
  rw [e]
  have h2 : (x.tmod y).natAbs = x.natAbs % y.natAbs := Int.natAbs_tmod x y
  have h3 := Nat.mod_le x.natAbs y.natAbs
  rw [Int.bmod_eq_of_le] <;> omega
theorem ql_div27 {x : Int} (hx : 0 ≤ x ∧ x ≤ 1000000000000000) : ql_div x 27 = x / 27 := by
  rw [ql_tdiv ⟨by omega, hx.2⟩ (by decide), Int.tdiv_eq_ediv_of_nonneg hx.1]
theorem ql_rem27 {x : Int} (hx : 0 ≤ x ∧ x ≤ 1000000000000000) : ql_rem x 27 = x % 27 := by
  rw [ql_tmod ⟨by omega, hx.2⟩ (by decide), Int.tmod_eq_emod_of_nonneg hx.1]
def jd_let (cn : Nat → Nat) (N : Nat → Nat → Int) (kind which k : Int) : Int :=
  if (0 ≤ kind ∧ kind ≤ 2) ∧ (0 ≤ which ∧ which < (cn kind.toNat : Int)) ∧ (0 ≤ k ∧ k ≤ 5) then N kind.toNat which.toNat / ((2 ^ (5 * k.toNat) : Nat) : Int) % 32 else -1
def jd_nko (cn : Nat → Nat) (N M : Nat → Nat → Int) : Prop := (cn 0 ≤ 6 ∧ cn 1 ≤ 8 ∧ cn 2 ≤ 6) ∧ ∀ q i, q < 3 → i < cn q → jx_nm (N q i) (M q i)
def jc_nms (cn : Nat → Nat) (N : Nat → Nat → Int) (μ : qm_M) : Prop := (μ 3 1 = (cn 0 : Int) ∧ μ 3 2 = (cn 1 : Int) ∧ μ 3 3 = (cn 2 : Int)) ∧ (∀ i, i < cn 0 → μ 15 i = N 0 i) ∧ (∀ i, i < cn 1 → μ 16 i = N 1 i) ∧ ∀ i, i < cn 2 → μ 17 i = N 2 i
def jm_nms (cn : Nat → Nat) (M : Nat → Nat → Int) (μ : qm_M) : Prop := (∀ q, q < 3 → μ 59 (3 + q) = (cn q : Int)) ∧ ∀ q i, q < 3 → i < cn q → μ 60 (24 + 8 * q + i) = M q i
section
variable {L d : Nat} {μ : qm_M} {Q : Int → qm_M → Prop} {cn : Nat → Nat} {N M : Nat → Nat → Int}
theorem js_805 {a w : Int} (hk : jd_nko cn N M) (h : jc_nms cn N μ) (ha : qm_r32 a ∧ qm_r32 w) (H1 : ((0 ≤ a ∧ a ≤ 2) ∧ (0 ≤ w ∧ w < (cn a.toNat : Int))) → Q (N a.toNat w.toNat) μ) (H0 : ¬ ((0 ≤ a ∧ a ≤ 2) ∧ (0 ≤ w ∧ w < (cn a.toNat : Int))) → Q (-1) μ) : qm_CI (qb_T L) (d + 1) 805 [qm_P 3, qm_I a, qm_I w] μ Q := by
  obtain ⟨⟨c1, c2, c3⟩, n0, n1, n2⟩ := h
  obtain ⟨⟨k0, k1, k2⟩, _⟩ := hk
  refine b805_0 μ _ _ _ ⟨ha.1, fun q => ⟨ha.2, fun y => ⟨_, rfl, H0 (by omega)⟩, fun y => ?_⟩, fun q => ⟨ha.2, fun y => ⟨_, rfl, H0 (by omega)⟩, fun y => ?_⟩, fun q => ⟨ha.2, fun y => ⟨_, rfl, H0 (by omega)⟩, fun y => ?_⟩, fun q => ⟨_, rfl, H0 (by omega)⟩⟩
  · subst q
    rw [c1]
    refine ⟨ha.2, by omega, fun y2 => ⟨_, rfl, H0 fun z => ?_⟩, fun y2 => ?_⟩
    · have : w < (cn 0 : Int) := z.2.2
      omega
    · have e : w = ((w.toNat : Nat) : Int) := by omega
      refine js_401i (n := 6) w.toNat rfl (by decide) e (by omega) ⟨_, rfl, ?_⟩
      rw [n0 _ (by omega)]
      exact H1 ⟨by decide, by omega, show w < (cn 0 : Int) by omega⟩
  · subst q
    rw [c2]
    refine ⟨ha.2, by omega, fun y2 => ⟨_, rfl, H0 fun z => ?_⟩, fun y2 => ?_⟩
    · have : w < (cn 1 : Int) := z.2.2
      omega
    · have e : w = ((w.toNat : Nat) : Int) := by omega
      refine js_401i (n := 8) w.toNat rfl (by decide) e (by omega) ⟨_, rfl, ?_⟩
      rw [n1 _ (by omega)]
      exact H1 ⟨by decide, by omega, show w < (cn 1 : Int) by omega⟩
  · subst q
    rw [c3]
    refine ⟨ha.2, by omega, fun y2 => ⟨_, rfl, H0 fun z => ?_⟩, fun y2 => ?_⟩
    · have : w < (cn 2 : Int) := z.2.2
      omega
    · have e : w = ((w.toNat : Nat) : Int) := by omega
      refine js_401i (n := 6) w.toNat rfl (by decide) e (by omega) ⟨_, rfl, ?_⟩
      rw [n2 _ (by omega)]
      exact H1 ⟨by decide, by omega, show w < (cn 2 : Int) by omega⟩
theorem js_2206 {a w k : Int} (hk : jd_nko cn N M) (h : jc_nms cn N μ) (ha : qm_r32 a ∧ qm_r32 w ∧ qm_r32 k) (H : Q (jd_let cn N a w k) μ) : qm_CI (qb_T L) (d + 2) 2206 [qm_P 0, qm_I a, qm_I w, qm_I k] μ Q := by
  unfold jd_let at H
  refine b2206_0 μ _ _ _ _ ⟨ha.2.2, fun y => ⟨_, rfl, ?_⟩, fun y => ⟨ha.2.2, fun y2 => js_805 hk h ⟨ha.1, ha.2.1⟩ (fun z => ?_) (fun z => ⟨by decide, fun _ => ⟨_, rfl, ?_⟩, fun q => absurd rfl q⟩), fun y2 => ⟨_, rfl, ?_⟩⟩⟩
  · rw [if_neg (by omega)] at H; exact H
  · have hb := (jl_nmb (hk.2 a.toNat w.toNat (by omega) (by omega))).1
    rw [if_pos ⟨z.1, z.2, by omega⟩] at H
    refine ⟨by omega, fun q => absurd q (by omega), fun _ => ⟨_, rfl, ?_⟩⟩
    rw [show (5 : Int) * k = ((5 * k.toNat : Nat) : Int) by omega, qa_and31, qa_shr (by omega) (by omega)]
    exact H
  · rw [if_neg (fun q => z ⟨q.1, q.2.1⟩)] at H; exact H
  · rw [if_neg (by omega)] at H; exact H
theorem js_2401g {x lo hi : Int} (h : qm_r64 x ∧ qm_r64 lo ∧ qm_r64 hi) (H1 : lo ≤ x ∧ x ≤ hi → Q 1 μ) (H0 : ¬ (lo ≤ x ∧ x ≤ hi) → Q 0 μ) : qm_CI (qb_T L) d 2401 [qm_L x, qm_L lo, qm_L hi] μ Q :=
  b2401_0 μ _ _ _ _ ⟨h.1, h.2.1, fun y => ⟨_, rfl, H0 (by omega)⟩, fun y => ⟨h.1, h.2.2, fun y2 => ⟨_, rfl, H0 (by omega)⟩, fun y2 => ⟨_, rfl, H1 (by omega)⟩⟩⟩
theorem js_2456 {a w k : Int} (hk : jd_nko cn N M) (h : jm_nms cn M μ) (ha : qm_r32 a ∧ qm_r32 w ∧ qm_r32 k) (H : Q (jd_let cn N a w k) μ) : qm_CI (qb_T L) (d + 1) 2456 [qm_P 13, qm_I a, qm_I w, qm_I k] μ Q := by
  unfold jd_let at H
  have r64 : ∀ z : Int, qm_r32 z → qm_r64 z := fun z hz => by unfold qm_r32 at hz; unfold qm_r64; omega
  refine b2456_0 μ _ _ _ _ ⟨ha.1, js_2401g ⟨r64 _ ha.1, by decide, by decide⟩ (fun z => ⟨by decide, fun q => absurd q (by decide), fun _ => ⟨ha.2.1, ⟨by omega, by omega⟩, ?_⟩⟩) (fun z => ⟨by decide, fun _ => ⟨_, rfl, ?_⟩, fun q => absurd rfl q⟩)⟩
  · have hcn : cn a.toNat ≤ 8 := by
      obtain ⟨⟨k0, k1, k2⟩, _⟩ := hk
      have : a.toNat = 0 ∨ a.toNat = 1 ∨ a.toNat = 2 := by omega
      rcases this with e | e | e <;> rw [e] <;> omega
    rw [show ((3 : Int) + a).toNat = 3 + a.toNat by omega, h.1 a.toNat (by omega)]
    refine ⟨by omega, js_2401g ⟨r64 _ ha.2.1, by decide, ⟨by omega, by omega⟩⟩ (fun z2 => ⟨by decide, fun q => absurd q (by decide), fun _ => ⟨ha.2.2, js_2401g ⟨r64 _ ha.2.2, by decide, by decide⟩ (fun z3 => ⟨by decide, fun q => absurd q (by decide), fun _ => ⟨by omega, ?_⟩⟩) (fun z3 => ⟨by decide, fun _ => ⟨_, rfl, ?_⟩, fun q => absurd rfl q⟩)⟩⟩) (fun z2 => ⟨by decide, fun _ => ⟨_, rfl, ?_⟩, fun q => absurd rfl q⟩)⟩
    · rw [show ((24 : Int) + 8 * a + w).toNat = 24 + 8 * a.toNat + w.toNat by omega, h.2 a.toNat w.toNat (by omega) (by omega)]
      rw [if_pos ⟨z, by omega, z3⟩] at H
      obtain ⟨n, f, h1, h2, h3, h4, h5⟩ := hk.2 a.toNat w.toNat (by omega) (by omega)
      rw [h4, jl_n5d n (fun i hi => by have := h3 i hi; omega)] at H
      rw [h5]
      have hb : ∀ j, j ≤ n → 0 ≤ jd_n27 f j ∧ jd_n27 f j ≤ 1000000000 := fun j hj => by
        have b1 := jl_n27b (f := f) j (fun i hi => by have := h3 i (by omega); omega)
        have c1 : 27 ^ j ≤ 27 ^ 6 := Nat.pow_le_pow_right (by decide) (by omega)
        have e2 : 27 ^ 6 = 387420489 := by decide
        rw [e2] at c1
        generalize 27 ^ j = P at *
        omega
      have hdv : ∀ j, j < n → jd_n27 f (j + 1) / 27 = jd_n27 f j ∧ jd_n27 f (j + 1) % 27 = f j ∧ 1 ≤ jd_n27 f (j + 1) := fun j hj => by
        have e : jd_n27 f (j + 1) = 27 * jd_n27 f j + f j := rfl
        have := h3 j hj
        have := (hb j (by omega)).1
        omega
      refine jl_loop (S := fun i => qm_W (qb_T L) (d + 1) 2456 69 [qm_P 13, qm_I a, qm_I w, qm_I k, qm_L (jd_n27 f n), none, qm_I ((i : Nat) : Int), qm_L (jd_n27 f (n - i)), none] [] μ (fun v μ' => ∃ r, v = some (.inl r) ∧ Q r μ')) n (fun i hi ih => ?_) ?_
      · have hb1 := hb (n - i) (by omega)
        have hd1 := hdv (n - (i + 1)) (by omega)
        rw [show n - (i + 1) + 1 = n - i by omega] at hd1
        refine b2456_69 μ _ _ _ _ _ _ _ ⟨by omega, fun q => absurd q (by omega), fun _ => ?_⟩
        rw [ql_div27 ⟨hb1.1, by omega⟩, hd1.1, jl_cs]
        exact ih
      · refine b2456_69 μ _ _ _ _ _ _ _ ?_
        rw [Nat.sub_self]
        refine ⟨(show -9223372036854775808 ≤ (0 : Int) ∧ (0 : Int) < 9223372036854775808 by decide), fun _ => ⟨by omega, by omega, fun q => ?_, fun q => ⟨_, rfl, ?_⟩⟩, fun q => absurd (Int.le_refl 0) q⟩
        · rw [if_pos (by omega)] at H
          have key : ∀ j : Nat, k.toNat + j + 1 ≤ n → qm_W (qb_T L) (d + 1) 2456 104 [qm_P 13, qm_I a, qm_I w, qm_I k, qm_L (jd_n27 f (k.toNat + j + 1)), none, qm_I ((n : Nat) : Int), qm_I (((k.toNat + j : Nat)) : Int), none] [] μ (fun v μ' => ∃ r, v = some (.inl r) ∧ Q r μ') := fun j => by
            induction j with
            | zero =>
              intro hj
              have hb1 := hb (k.toNat + 1) (by omega)
              have hd1 := hdv k.toNat (by omega)
              refine b2456_104 μ _ _ _ _ _ _ _ ⟨by omega, by omega, fun _ => ⟨_, rfl, ?_⟩, fun q => absurd q (by omega)⟩
              rw [Nat.add_zero, ql_rem27 ⟨hb1.1, by omega⟩, hd1.2.1]
              exact H
            | succ j ih =>
              intro hj
              have hb1 := hb (k.toNat + (j + 1) + 1) (by omega)
              have hd1 := hdv (k.toNat + (j + 1)) (by omega)
              refine b2456_104 μ _ _ _ _ _ _ _ ⟨by omega, by omega, fun q => absurd q (by omega), fun _ => ?_⟩
              rw [ql_div27 ⟨hb1.1, by omega⟩, hd1.1, show (((k.toNat + (j + 1) : Nat)) : Int) + (-1) = (((k.toNat + j : Nat)) : Int) by omega]
              exact ih (by omega)
          have := key (n - 1 - k.toNat) (by omega)
          rw [show k.toNat + (n - 1 - k.toNat) + 1 = n by omega, show (((k.toNat + (n - 1 - k.toNat) : Nat)) : Int) = ((n : Nat) : Int) - 1 by omega] at this
          exact this
        · rw [if_neg (by omega)] at H; exact H
    · rw [if_neg (fun q => z3 q.2.2)] at H; exact H
    · rw [if_neg (fun q => z2 ⟨q.2.1.1, by omega⟩)] at H; exact H
  · rw [if_neg (fun q => z q.1)] at H; exact H
end
