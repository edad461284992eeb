/-! ===== the most rows known and right ===== -/
def jd_rd (th sf : Nat → Nat → Int) (c r : Nat) (t : Int) : Int := if sf r c = th c (jd_c4 t) + 1 then 1 else 0
def jd_cn (th sf : Nat → Nat → Int) (c w n : Nat) : Int := jd_sum (fun r => jd_rd th sf c r (jd_tb w (r + 1))) n
def jd_rc (lm : Int) : Nat → Nat → Int → Prop := fun _ _ t => -lm ≤ t ∧ t ≤ lm
def jd_dm (lm : Int) (th sf : Nat → Nat → Int) (c : Nat) : Nat → Int → Int
  | 0, t => if t = 0 then 0 else -1000
  | r + 1, t => if t < -lm ∨ lm < t ∨ t ≤ -13 ∨ 13 ≤ t then -1000 else max (jd_dm lm th sf c r (t - 1)) (jd_dm lm th sf c r (t + 1)) + jd_rd th sf c r t
def jd_nr (lm : Int) (th sf : Nat → Nat → Int) (c s : Nat) (v : Int) : Prop := (0 ≤ v ∧ v ≤ s) ∧ (∀ w, w < 2 ^ s → jd_way (jd_rc lm) s w → jd_cn th sf c w s ≤ v) ∧ (v = 0 ∨ ∃ w, w < 2 ^ s ∧ jd_way (jd_rc lm) s w ∧ jd_cn th sf c w s = v)
theorem jl_nr {lm : Int} {th sf : Nat → Nat → Int} {c s : Nat} {v v' : Int} (h1 : jd_nr lm th sf c s v) (h2 : jd_nr lm th sf c s v') : v = v' := by
  obtain ⟨a1, a2, a3⟩ := h1
  obtain ⟨b1, b2, b3⟩ := h2
  rcases a3 with a3 | ⟨w, x1, x2, x3⟩ <;> rcases b3 with b3 | ⟨w', y1, y2, y3⟩
  · omega
  · have := a2 w' y1 y2; omega
  · have := b2 w x1 x2; omega
  · have := a2 w' y1 y2; have := b2 w x1 x2; omega
section
variable {lm : Int} {th sf : Nat → Nat → Int} {c : Nat}
theorem jl_rd (r : Nat) (t : Int) : 0 ≤ jd_rd th sf c r t ∧ jd_rd th sf c r t ≤ 1 := by unfold jd_rd; split <;> omega
theorem jl_cnb (w n : Nat) : 0 ≤ jd_cn th sf c w n ∧ jd_cn th sf c w n ≤ n := by
  have := jl_sumb (f := fun r => jd_rd th sf c r (jd_tb w (r + 1))) (b := 1) (fun r => jl_rd _ _) n
  unfold jd_cn; omega
theorem jl_cn_hi {n w : Nat} : jd_cn th sf c (2 ^ n + w) n = jd_cn th sf c w n :=
  jl_sume n fun i hi => by rw [jl_tb_e (i + 1) fun j hj => jl_bit_lo (by omega)]
theorem jl_dm_b : ∀ (n : Nat) (t : Int), (0 ≤ jd_dm lm th sf c n t ∧ jd_dm lm th sf c n t ≤ n) ∨ (-1000 ≤ jd_dm lm th sf c n t ∧ jd_dm lm th sf c n t ≤ -1000 + n)
  | 0, t => by
    show (0 ≤ (if t = 0 then 0 else -1000) ∧ (if t = 0 then (0 : Int) else -1000) ≤ ((0 : Nat) : Int)) ∨ (-1000 ≤ (if t = 0 then 0 else -1000) ∧ (if t = 0 then (0 : Int) else -1000) ≤ -1000 + ((0 : Nat) : Int))
    split <;> omega
  | n + 1, t => by
    have h1 := jl_dm_b n (t - 1)
    have h2 := jl_dm_b n (t + 1)
    have h3 := jl_rd (th := th) (sf := sf) (c := c) n t
    have e : jd_dm lm th sf c (n + 1) t = if t < -lm ∨ lm < t ∨ t ≤ -13 ∨ 13 ≤ t then -1000 else max (jd_dm lm th sf c n (t - 1)) (jd_dm lm th sf c n (t + 1)) + jd_rd th sf c n t := rfl
    rw [e]
    split <;> omega
theorem jl_dm_ge : ∀ (n w : Nat), n ≤ 12 → w < 2 ^ n → jd_way (jd_rc lm) n w → jd_cn th sf c w n ≤ jd_dm lm th sf c n (jd_tb w n)
  | 0, w, _, _, _ => by
    show (0 : Int) ≤ if (0 : Int) = 0 then 0 else -1000
    decide
  | n + 1, w, hn, hw, h => by
    have e : ∀ t, jd_dm lm th sf c (n + 1) t = if t < -lm ∨ lm < t ∨ t ≤ -13 ∨ 13 ≤ t then -1000 else max (jd_dm lm th sf c n (t - 1)) (jd_dm lm th sf c n (t + 1)) + jd_rd th sf c n t := fun _ => rfl
    by_cases q : w < 2 ^ n
    · obtain ⟨h1, h2⟩ := (jl_way_lo q).mp h
      have ih := jl_dm_ge n w (by omega) q h2
      have hb := jl_tb_b w n
      have e2 : jd_cn th sf c w (n + 1) = jd_cn th sf c w n + jd_rd th sf c n (jd_tb w (n + 1)) := rfl
      rw [e2, jl_tb_lo q, e, if_neg (by have := h1.1; have := h1.2; omega), show jd_tb w n + 1 - 1 = jd_tb w n by omega]
      omega
    · obtain ⟨v, rfl⟩ : ∃ v, w = 2 ^ n + v := ⟨w - 2 ^ n, by omega⟩
      have hv : v < 2 ^ n := by rw [Nat.pow_succ] at hw; omega
      obtain ⟨h1, h2⟩ := (jl_way_hi hv).mp h
      have ih := jl_dm_ge n v (by omega) hv h2
      have hb := jl_tb_b v n
      have e2 : jd_cn th sf c (2 ^ n + v) (n + 1) = jd_cn th sf c (2 ^ n + v) n + jd_rd th sf c n (jd_tb (2 ^ n + v) (n + 1)) := rfl
      rw [e2, jl_cn_hi, jl_tb_hi hv, e, if_neg (by have := h1.1; have := h1.2; omega), show jd_tb v n - 1 + 1 = jd_tb v n by omega]
      omega
theorem jl_dm_ex : ∀ (n : Nat) (t : Int), 0 ≤ jd_dm lm th sf c n t → n ≤ 12 → ∃ w, w < 2 ^ n ∧ jd_way (jd_rc lm) n w ∧ jd_tb w n = t ∧ jd_cn th sf c w n = jd_dm lm th sf c n t
  | 0, t, h, _ => by
    have e : jd_dm lm th sf c 0 t = if t = 0 then 0 else -1000 := rfl
    rw [e] at h ⊢
    by_cases q : t = 0
    · rw [if_pos q]
      exact ⟨0, by decide, fun r hr => absurd hr (by omega), q.symm, rfl⟩
    · rw [if_neg q] at h; exact absurd h (by decide)
  | n + 1, t, h, hn => by
    have e : jd_dm lm th sf c (n + 1) t = if t < -lm ∨ lm < t ∨ t ≤ -13 ∨ 13 ≤ t then -1000 else max (jd_dm lm th sf c n (t - 1)) (jd_dm lm th sf c n (t + 1)) + jd_rd th sf c n t := rfl
    rw [e] at h ⊢
    by_cases q : t < -lm ∨ lm < t ∨ t ≤ -13 ∨ 13 ≤ t
    · rw [if_pos q] at h; exact absurd h (by decide)
    · rw [if_neg q] at h ⊢
      have h1 := jl_dm_b (lm := lm) (th := th) (sf := sf) (c := c) n (t - 1)
      have h2 := jl_dm_b (lm := lm) (th := th) (sf := sf) (c := c) n (t + 1)
      have h3 := jl_rd (th := th) (sf := sf) (c := c) n t
      by_cases z : jd_dm lm th sf c n (t + 1) ≤ jd_dm lm th sf c n (t - 1)
      · obtain ⟨w, a1, a2, a3, a4⟩ := jl_dm_ex n (t - 1) (by omega) (by omega)
        refine ⟨w, by rw [Nat.pow_succ]; omega, (jl_way_lo a1).mpr ⟨⟨by omega, by omega⟩, a2⟩, by rw [jl_tb_lo a1]; omega, ?_⟩
        have e2 : jd_cn th sf c w (n + 1) = jd_cn th sf c w n + jd_rd th sf c n (jd_tb w (n + 1)) := rfl
        rw [e2, jl_tb_lo a1, a3, a4, show t - 1 + 1 = t by omega]
        omega
      · obtain ⟨w, a1, a2, a3, a4⟩ := jl_dm_ex n (t + 1) (by omega) (by omega)
        refine ⟨2 ^ n + w, by rw [Nat.pow_succ]; omega, (jl_way_hi a1).mpr ⟨⟨by omega, by omega⟩, a2⟩, by rw [jl_tb_hi a1]; omega, ?_⟩
        have e2 : jd_cn th sf c (2 ^ n + w) (n + 1) = jd_cn th sf c (2 ^ n + w) n + jd_rd th sf c n (jd_tb (2 ^ n + w) (n + 1)) := rfl
        rw [e2, jl_cn_hi, jl_tb_hi a1, a3, a4, show t + 1 - 1 = t by omega]
        omega
end
def jd_nea (nc : Nat) (lm : Int) (th sf : Nat → Nat → Int) (s : Nat) (a v : Int) : Prop :=
  ((s = 0 ∨ (a ≠ -1 ∧ (a < 0 ∨ (nc : Int) ≤ a))) ∧ v = -1) ∨ (0 < s ∧ a = -1 ∧ ∃ g : Nat → Int, (∀ c, c < nc → jd_nr lm th sf c s (g c)) ∧ v = jd_sum g nc) ∨ (0 < s ∧ ∃ c : Nat, a = (c : Int) ∧ c < nc ∧ jd_nr lm th sf c s v)
theorem jl_nea {nc : Nat} {lm : Int} {th sf : Nat → Nat → Int} {s : Nat} {a v v' : Int} (h1 : jd_nea nc lm th sf s a v) (h2 : jd_nea nc lm th sf s a v') : v = v' := by
  rcases h1 with ⟨a1, a2⟩ | ⟨a1, a2, g, a3, a4⟩ | ⟨a1, c, a2, a3, a4⟩ <;> rcases h2 with ⟨b1, b2⟩ | ⟨b1, b2, g', b3, b4⟩ | ⟨b1, c', b2, b3, b4⟩
  · omega
  · omega
  · omega
  · omega
  · rw [a4, b4]; exact jl_sume nc fun i hi => jl_nr (a3 i hi) (b3 i hi)
  · omega
  · omega
  · omega
  · obtain rfl : c = c' := by omega
    exact jl_nr a4 b4
section
variable {L d nc nr s s1 : Nat} {lm : Int} {sd : Nat → Int} {th T sf sb : Nat → Nat → Int} {μ : qm_M} {Q : Int → qm_M → Prop} {V : qm_M → Prop} {nco bo br bt : Int}
theorem js_1814 {r c : Nat} {t : Int} (hw : jc_w0 nc nr lm sd th T s s1 sf sb μ) (hk : jd_w0 nc nr lm sd th T s s1 sf sb nco) (hr : r < s) (hc : c < nc) (ht : -13 ≤ t ∧ t ≤ 13) (hn : ∀ j, j < 27 → μ 39 j = jd_dm lm th sf c r ((j : Int) - 13)) (H : Q (jd_dm lm th sf c (r + 1) t) μ) : qm_CI (qb_T L) (d + 2) 1814 [qm_P 10, qm_I (r : Int), qm_I (c : Int), qm_I t] μ Q := by
  have hs := hk.2.1.1
  have hlm := hk.1.2.2.1
  have e : jd_dm lm th sf c (r + 1) t = if t < -lm ∨ lm < t ∨ t ≤ -13 ∨ 13 ≤ t then -1000 else max (jd_dm lm th sf c r (t - 1)) (jd_dm lm th sf c r (t + 1)) + jd_rd th sf c r t := rfl
  rw [e] at H
  have no : (t < -lm ∨ lm < t ∨ t ≤ -13 ∨ 13 ≤ t) → ∃ r, qm_I (-1000) = some (.inl r) ∧ Q r μ := fun y => ⟨_, rfl, by rw [if_pos y] at H; exact H⟩
  refine b1814_0 μ _ _ _ _ (js_1801 hw.1 hk.1 (by omega) (fun h1 => ⟨by decide, fun q => absurd q (by decide), fun _ => ⟨by omega, fun y => no (by omega), fun y => ⟨by omega, fun y2 => ?_, fun y2 => no (by omega)⟩⟩⟩) (fun h1 => ⟨by decide, fun _ => no (by omega), fun q => absurd rfl q⟩))
  rw [if_neg (by omega)] at H
  refine js_401i (t + 12).toNat rfl (by decide) (by omega) (by omega) (js_401i (t + 14).toNat rfl (by decide) (by omega) (by omega) ?_)
  rw [hn _ (by omega), hn _ (by omega), show (((t + 12).toNat : Nat) : Int) - 13 = t - 1 by omega, show (((t + 14).toNat : Nat) : Int) - 13 = t + 1 by omega, qa_max]
  have b1 := jl_dm_b (lm := lm) (th := th) (sf := sf) (c := c) r (t - 1)
  have b2 := jl_dm_b (lm := lm) (th := th) (sf := sf) (c := c) r (t + 1)
  generalize hm : max (jd_dm lm th sf c r (t - 1)) (jd_dm lm th sf c r (t + 1)) = m at H ⊢
  have hth := hk.1.2.2.2.2.1 c _ hc (jl_c4 t)
  unfold jd_rd at H
  have f0 : ¬ sf r c = th c (jd_c4 t) + 1 → qm_W (qb_T L) (d + 2) 1814 92 [qm_P 10, qm_I (r : Int), qm_I (c : Int), qm_I t, qm_I m, none] [] μ (fun v μ' => ∃ r, v = some (.inl r) ∧ Q r μ') := fun y => b1814_92 μ _ _ _ _ _ (b1814_93 μ _ _ _ _ _ _ ⟨by decide, fun _ => ⟨_, rfl, by rw [if_neg y, Int.add_zero] at H; exact H⟩, fun q => absurd rfl q⟩)
  refine ⟨by omega, by omega, js_1402 hw.2.1 hk.2.1 hk.2.2.2 hk.1.1 hr hc (fun h2 => ⟨by decide, fun q => absurd q (by decide), fun _ => js_210 hw.1 hk.1 hc (js_1403_8 hw.2.1 hk.2.1 hk.2.2.2 hk.1.1 hr hc (by omega) (fun h3 => ⟨by decide, fun q => absurd q (by decide), fun _ => b1814_93 μ _ _ _ _ _ _ ⟨by decide, fun q => absurd q (by decide), fun _ => ⟨_, rfl, ?_⟩⟩⟩) (fun h3 => ⟨by decide, fun _ => f0 fun y => h3 (Or.inr y), fun q => absurd rfl q⟩))⟩) (fun h2 => ⟨by decide, fun _ => f0 (by omega), fun q => absurd rfl q⟩)⟩
  rw [if_pos (h3.resolve_left h2)] at H; exact H
theorem js_1813 {c : Nat} (hw : jc_w0 nc nr lm sd th T s s1 sf sb μ) (hk : jd_w0 nc nr lm sd th T s s1 sf sb nco) (hc : c < nc) (H : ∀ v μ', jd_fr [39, 40] μ μ' → jd_nr lm th sf c s v → Q v μ') : qm_CI (qb_T L) (d + 3) 1813 [qm_P 10, qm_I (c : Int)] μ Q := by
  have hs := hk.2.1.1
  refine b1813_0 μ _ _ ?_
  refine jl_loop (S := fun i => ∀ μ', jd_fr [39, 40] μ μ' → (∀ j, j < i → μ' 39 j = -1000) → qm_W (qb_T L) (d + 3) 1813 2 [qm_P 10, qm_I (c : Int), qm_I ((i : Nat) : Int), none] [] μ' (fun v μ' => ∃ r, v = some (.inl r) ∧ Q r μ')) 27 (fun i hi ih μ' hf hj => ?_) (fun μ' hf hj => ?_) μ (jf_refl _ _) (fun j hj => absurd hj (by omega))
  · refine b1813_2 μ' _ _ _ ⟨by omega, fun y => absurd y (by omega), fun _ => ⟨by omega, ?_⟩⟩
    rw [Int.toNat_natCast]
    refine ih _ (jf_set hf rfl) fun j hj2 => ?_
    by_cases q : j = i
    · rw [q, jl_ss]
    · rw [jl_sk _ _ _ q]; exact hj j (by omega)
  · refine b1813_2 μ' _ _ _ ⟨by decide, fun _ => js_402i 13 rfl (by decide) rfl (by decide) ?_, fun y => absurd (by decide) y⟩
    refine jl_loop (S := fun r => ∀ μ' x, jd_fr [39, 40] μ μ' → (∀ j, j < 27 → μ' 39 j = jd_dm lm th sf c r ((j : Int) - 13)) → qm_W (qb_T L) (d + 3) 1813 38 [qm_P 10, qm_I (c : Int), qm_I ((r : Nat) : Int), x] [] μ' (fun v μ' => ∃ r, v = some (.inl r) ∧ Q r μ')) s (fun r hr ih μ' x hf hj => ?_) (fun μ' x hf hj => ?_) _ none (jf_set hf rfl) (fun j hj2 => ?_)
    · have hw' := jl_w0f hw (jf_sub hf rfl)
      refine b1813_38 μ' _ _ _ _ ?_
      rw [hw'.2.1.1]
      refine ⟨by omega, by omega, fun y => absurd y (by omega), fun _ => ?_⟩
      refine jl_loop (S := fun i => ∀ μ2, jd_fr [40] μ' μ2 → (∀ j, j < i → μ2 40 j = jd_dm lm th sf c (r + 1) ((j : Int) - 13)) → qm_W (qb_T L) (d + 3) 1813 52 [qm_P 10, qm_I (c : Int), qm_I ((r : Nat) : Int), qm_I (((i : Nat) : Int) - 13)] [] μ2 (fun v μ' => ∃ r, v = some (.inl r) ∧ Q r μ')) 27 (fun i hi ih2 μ2 hf2 hj2 => ?_) (fun μ2 hf2 hj2 => ?_) μ' (jf_refl _ _) (fun j hj => absurd hj (by omega))
      · have hw2 := jl_w0f hw' (jf_sub hf2 rfl)
        refine b1813_52 μ2 _ _ _ _ ⟨by omega, fun y => absurd y (by omega), fun _ => js_1814 hw2 hk hr hc (by omega) (by rw [hf2 39 rfl]; exact hj) (js_402i i rfl (by decide) (by omega) (by omega) ?_)⟩
        rw [show (i : Int) - 13 + 1 = ((i + 1 : Nat) : Int) - 13 by omega]
        refine ih2 _ (jf_set hf2 rfl) fun j hj3 => ?_
        by_cases q : j = i
        · rw [q, jl_ss]
        · rw [jl_sk _ _ _ q]; exact hj2 j (by omega)
      · refine b1813_52 μ2 _ _ _ _ ⟨by decide, fun _ => js_403 rfl rfl (by decide) (by decide) (ih _ _ (fun c' hc' => ?_) fun j hj3 => ?_), fun y => absurd (by decide) y⟩
        · funext k'
          have h39 : c' ≠ 39 := fun q => by rw [q] at hc'; cases hc'
          have h40 : [40].contains c' = false := by
            cases hq : [40].contains c' with
            | false => rfl
            | true =>
              have := List.contains_iff_mem.mp hq
              rw [List.mem_singleton] at this
              rw [this] at hc'; cases hc'
          show (if c' = 39 ∧ k' < 27 then μ2 40 k' else μ2 c' k') = μ c' k'
          rw [if_neg (fun q => h39 q.1), hf2 c' h40, hf c' hc']
        · show (if 39 = 39 ∧ j < 27 then μ2 40 j else μ2 39 j) = _
          rw [if_pos ⟨rfl, hj3⟩]; exact hj2 j hj3
    · have hw' := jl_w0f hw (jf_sub hf rfl)
      refine b1813_38 μ' _ _ _ _ ?_
      rw [hw'.2.1.1]
      refine ⟨by omega, by omega, fun _ => ?_, fun y => absurd (Int.le_refl _) y⟩
      refine jl_loop (S := fun i => ∀ (v : Int), (0 ≤ v ∧ v ≤ s) → (∀ j, j < i → jd_dm lm th sf c s ((j : Int) - 13) ≤ v) → (v = 0 ∨ ∃ t, jd_dm lm th sf c s t = v) → qm_W (qb_T L) (d + 3) 1813 104 [qm_P 10, qm_I (c : Int), qm_I v, qm_I (((i : Nat) : Int) - 13)] [] μ' (fun v μ' => ∃ r, v = some (.inl r) ∧ Q r μ')) 27 (fun i hi ih2 v hv h1 h2 => ?_) (fun v hv h1 h2 => ?_) 0 (by omega) (fun j hj => absurd hj (by omega)) (Or.inl rfl)
      · have b1 := jl_dm_b (lm := lm) (th := th) (sf := sf) (c := c) s ((i : Int) - 13)
        refine b1813_104 μ' _ _ _ _ ⟨by omega, fun y => absurd y (by omega), fun _ => js_401i i rfl (by decide) (by omega) (by omega) ?_⟩
        rw [hj i hi, show (i : Int) - 13 + 1 = ((i + 1 : Nat) : Int) - 13 by omega, qa_max]
        refine ⟨by omega, by omega, ih2 _ (by omega) (fun j hj3 => ?_) ?_⟩
        · by_cases q : j = i
          · rw [q]; omega
          · have := h1 j (by omega); omega
        · by_cases q : v ≤ jd_dm lm th sf c s ((i : Int) - 13)
          · rw [Int.max_eq_right q]; exact Or.inr ⟨_, rfl⟩
          · rw [Int.max_eq_left (by omega)]; exact h2
      · refine b1813_104 μ' _ _ _ _ ⟨by decide, fun _ => ⟨_, rfl, H v μ' hf ⟨hv, fun w hw1 hw2 => ?_, ?_⟩⟩, fun y => absurd (by decide) y⟩
        · have h5 := jl_dm_ge (lm := lm) (th := th) (sf := sf) (c := c) s w hs hw1 hw2
          have h6 := jl_tb_b w s
          have h7 := h1 (jd_tb w s + 13).toNat (by omega)
          rw [show (((jd_tb w s + 13).toNat : Nat) : Int) - 13 = jd_tb w s by omega] at h7
          omega
        · rcases h2 with h2 | ⟨t, ht⟩
          · exact Or.inl h2
          · obtain ⟨w, a1, a2, a3, a4⟩ := jl_dm_ex (lm := lm) (th := th) (sf := sf) (c := c) s t (by omega) hs
            exact Or.inr ⟨w, a1, a2, by rw [a4, ht]⟩
    · show _ = if ((j : Int) - 13) = 0 then 0 else -1000
      by_cases q : j = 13
      · rw [q, jl_ss]; rfl
      · rw [jl_sk _ _ _ q, if_neg (by omega)]; exact hj j hj2
theorem js_2221 {a : Int} (hw : jc_w0 nc nr lm sd th T s s1 sf sb μ) (hk : jd_w0 nc nr lm sd th T s s1 sf sb nco) (ha : qm_r32 a) (H : ∀ v μ', qm_r32 v → jd_fr [39, 40] μ μ' → jd_nea nc lm th sf s a v → Q v μ') : qm_CI (qb_T L) (d + 4) 2221 [qm_P 0, qm_I a] μ Q := by
  have hs := hk.2.1.1
  have hnc := hk.1.1
  have no : (s = 0 ∨ (a ≠ -1 ∧ (a < 0 ∨ (nc : Int) ≤ a))) → ∃ r, qm_I (-1) = some (.inl r) ∧ Q r μ := fun z => ⟨_, rfl, H _ μ (by decide) (jf_refl _ _) (Or.inl ⟨z, rfl⟩)⟩
  refine b2221_0 μ _ _ ?_
  rw [hw.2.1.1]
  refine ⟨by omega, fun y => no (by omega), fun y => ⟨ha, fun y2 => b2221_28 μ _ _ ⟨ha, fun _ => ?_, fun q => absurd y2 q⟩, fun y2 => js_205 hw.1 hk.1 ha (fun c hac hc => ⟨by decide, fun q => absurd q (by decide), fun _ => b2221_28 μ _ _ ⟨ha, fun q => absurd q y2, fun _ => ?_⟩⟩) (fun h0 => ⟨by decide, fun _ => no (by omega), fun q => absurd rfl q⟩)⟩⟩
  · refine jl_loop (S := fun i => ∀ v μ', (0 ≤ v ∧ v ≤ 12 * (i : Int)) → jd_fr [39, 40] μ μ' → (∃ g : Nat → Int, (∀ c, c < i → jd_nr lm th sf c s (g c)) ∧ v = jd_sum g i) → qm_W (qb_T L) (d + 4) 2221 46 [qm_P 0, qm_I a, qm_I v, qm_I ((i : Nat) : Int)] [] μ' (fun v μ' => ∃ r, v = some (.inl r) ∧ Q r μ')) nc (fun i hi ih v μ' hv hf hg => ?_) (fun v μ' hv hf hg => ?_) 0 μ (by omega) (jf_refl _ _) ⟨fun _ => 0, fun c hc => absurd hc (by omega), rfl⟩
    · have hw' := jl_w0f hw (jf_sub hf rfl)
      refine b2221_46 μ' _ _ _ _ ?_
      rw [hw'.1.1]
      refine ⟨by omega, by omega, fun q => absurd q (by omega), fun _ => js_1813 hw' hk hi fun x μ2 f2 hx => ih _ μ2 ?_ (jf_trans hf f2) ?_⟩
      · have := hx.1; omega
      · obtain ⟨g, g1, g2⟩ := hg
        refine ⟨fun k => if k = i then x else g k, fun k hk2 => ?_, ?_⟩
        · show jd_nr lm th sf k s (if k = i then x else g k)
          by_cases q : k = i
          · rw [if_pos q, q]; exact hx
          · rw [if_neg q]; exact g1 k (by omega)
        · show v + x = jd_sum (fun k => if k = i then x else g k) i + (if i = i then x else g i)
          rw [if_pos rfl, g2, jl_sume (g := g) i fun k hk2 => if_neg (by omega)]
    · have hw' := jl_w0f hw (jf_sub hf rfl)
      refine b2221_46 μ' _ _ _ _ ?_
      rw [hw'.1.1]
      exact ⟨by omega, by omega, fun _ => ⟨_, rfl, H v μ' (by omega) hf (Or.inr (Or.inl ⟨by omega, y2, hg⟩))⟩, fun q => absurd (Int.le_refl _) q⟩
  · subst hac
    refine js_1813 hw hk hc fun x μ2 f2 hx => ⟨_, rfl, H x μ2 (by have := hx.1; omega) f2 (Or.inr (Or.inr ⟨by omega, c, rfl, hc, hx⟩))⟩
/-! the reference's -/
theorem js_2482 {c w : Nat} (h : jm_w nc nr lm sd th T s s1 sf sb μ) (hk : jd_w0 nc nr lm sd th T s s1 sf sb nco) (hc : c < nc) (hw : w < 4096) (H1 : jd_way (jd_rc lm) s w → Q (jd_cn th sf c w s) μ) (H0 : ¬ jd_way (jd_rc lm) s w → Q (-1) μ) : qm_CI (qb_T L) (d + 1) 2482 [qm_P 13, qm_I (c : Int), qm_I (w : Int)] μ Q := by
  have hs := hk.2.1.1
  have hnc := hk.1.1
  have hlm := hk.1.2.2.1
  have hs1 : μ 69 0 = (s : Int) := h.2.1.1
  refine b2482_0 μ _ _ _ ?_
  refine jl_loop (S := fun i => (∀ r, r < i → jd_rc lm r (jd_bit w r) (jd_tb w (r + 1))) → qm_W (qb_T L) (d + 1) 2482 8 [qm_P 13, qm_I (c : Int), qm_I (w : Int), qm_I (jd_tb w i), qm_I (jd_cn th sf c w i), qm_I ((i : Nat) : Int)] [] μ (fun v μ' => ∃ r, v = some (.inl r) ∧ Q r μ')) s (fun i hi ih hp => ?_) (fun hp => ?_) (fun r hr => absurd hr (by omega))
  · have hb2 := jl_bit2 w i
    have htb := jl_tb_b w (i + 1)
    have go : ∀ z : Int, z = jd_dr (jd_bit w i) → qm_W (qb_T L) (d + 1) 2482 35 [qm_P 13, qm_I (c : Int), qm_I (w : Int), qm_I (jd_tb w i), qm_I (jd_cn th sf c w i), qm_I ((i : Nat) : Int)] [qm_I z, qm_I (jd_tb w i)] μ (fun v μ' => ∃ r, v = some (.inl r) ∧ Q r μ') := by
      intro z hz
      have e : jd_tb w i + z = jd_tb w (i + 1) := by rw [hz]; rfl
      refine b2482_35 μ _ _ _ _ _ _ _ _ ?_
      rw [e]
      have h63 : μ 63 1 = lm := by
        rcases h.1.2.2.1 with y | y
        · exact y
        · omega
      refine js_2443 (by omega) ?_
      rw [h63]
      have ea : jd_abs (jd_tb w (i + 1)) ≤ lm ↔ -lm ≤ jd_tb w (i + 1) ∧ jd_tb w (i + 1) ≤ lm := by unfold jd_abs; split <;> omega
      have hth := hk.1.2.2.2.2.1 c _ hc (jl_c4 (jd_tb w (i + 1)))
      have hsf := hk.2.1.2 i c hi hc
      have hco := hk.2.2.2
      refine ⟨by unfold jd_abs; split <;> omega, by omega, fun y1 => ⟨by omega, js_2446 (by omega) (js_2447 h.1 hk.1 hc (by omega) ?_)⟩, fun y1 => ⟨_, rfl, H0 fun q => y1 (ea.mpr (q i hi))⟩⟩
      rw [show ((8 * (i : Int)) + (c : Int)).toNat = 96 * 0 + 8 * i + c by omega, h.2.1.2 i c hi hc, jl_c4e (show jd_tb w (i + 1) % 4 % 4 = jd_tb w (i + 1) % 4 by omega)]
      have e2 : jd_cn th sf c w (i + 1) = jd_cn th sf c w i + jd_rd th sf c i (jd_tb w (i + 1)) := rfl
      have ih' := ih fun r hr => by
        by_cases q : r = i
        · rw [q]; exact ea.mp y1
        · exact hp r (by omega)
      rw [e2] at ih'
      unfold jd_rd at ih'
      refine ⟨by omega, by omega, fun y => b2482_81 μ _ _ _ _ _ _ ?_, fun y => b2482_81 μ _ _ _ _ _ _ ?_⟩
      · rw [if_pos y] at ih'; exact ih'
      · rw [if_neg y, Int.add_zero] at ih'; exact ih'
    refine b2482_8 μ _ _ _ _ _ _ ?_
    rw [hs1, qa_bit (by omega) (by omega)]
    refine ⟨by omega, by omega, fun q => absurd q (by omega), fun _ => ⟨by omega, fun q => go _ ?_, fun q => go _ ?_⟩⟩
    · unfold jd_dr; rw [if_pos (by omega)]
    · unfold jd_dr; rw [if_neg (by omega)]
  · refine b2482_8 μ _ _ _ _ _ _ ?_
    rw [hs1]
    exact ⟨by omega, by omega, fun _ => ⟨_, rfl, H1 hp⟩, fun q => absurd (Int.le_refl _) q⟩
theorem js_2483 {c : Nat} (h : jm_w nc nr lm sd th T s s1 sf sb μ) (hk : jd_w0 nc nr lm sd th T s s1 sf sb nco) (hc : c < nc) (H : ∀ v, jd_nr lm th sf c s v → Q v μ) : qm_CI (qb_T L) (d + 2) 2483 [qm_P 13, qm_I (c : Int)] μ Q := by
  have hs := hk.2.1.1
  have hp12 := jl_p12 hs
  have hp0 := jl_p0 s
  have hs1 : μ 69 0 = (s : Int) := h.2.1.1
  refine b2483_0 μ _ _ ?_
  refine jl_loop (S := fun W => ∀ (v : Int) x, (0 ≤ v ∧ v ≤ s) → (∀ w, w < W → jd_way (jd_rc lm) s w → jd_cn th sf c w s ≤ v) → (v = 0 ∨ ∃ w, w < 2 ^ s ∧ jd_way (jd_rc lm) s w ∧ jd_cn th sf c w s = v) → qm_W (qb_T L) (d + 2) 2483 4 [qm_P 13, qm_I (c : Int), qm_I v, qm_I ((W : Nat) : Int), x] [] μ (fun v μ' => ∃ r, v = some (.inl r) ∧ Q r μ')) (2 ^ s) (fun W hW ih v x hv h1 h2 => ?_) (fun v x hv h1 h2 => ?_) 0 none (by omega) (fun w hw => absurd hw (by omega)) (Or.inl rfl)
  · have hcb := jl_cnb (th := th) (sf := sf) (c := c) W s
    refine b2483_4 μ _ _ _ _ _ ?_
    rw [hs1, qa_shl1 (by omega)]
    refine ⟨by omega, by omega, fun q => absurd q (by omega), fun _ => js_2482 h hk hc (by omega) (fun hy => ⟨by omega, by omega, fun q => b2483_33 μ _ _ _ _ _ (ih v _ hv (fun w hw1 hw2 => ?_) h2), fun q => b2483_33 μ _ _ _ _ _ (ih _ _ (by omega) (fun w hw1 hw2 => ?_) (Or.inr ⟨W, hW, hy, rfl⟩))⟩) (fun hy => ⟨by omega, by omega, fun q => b2483_33 μ _ _ _ _ _ (ih v _ hv (fun w hw1 hw2 => ?_) h2), fun q => absurd (show (-1 : Int) ≤ v by omega) q⟩)⟩
    · by_cases z : w = W
      · rw [z]; exact q
      · exact h1 w (by omega) hw2
    · by_cases z : w = W
      · rw [z]; exact Int.le_refl _
      · have := h1 w (by omega) hw2; omega
    · by_cases z : w = W
      · rw [z] at hw2; exact absurd hw2 hy
      · exact h1 w (by omega) hw2
  · refine b2483_4 μ _ _ _ _ _ ?_
    rw [hs1, qa_shl1 (by omega)]
    exact ⟨by omega, by omega, fun _ => ⟨_, rfl, H v ⟨hv, h1, h2⟩⟩, fun q => absurd (Int.le_refl _) q⟩
theorem js_2484 {a : Int} (h : jm_w nc nr lm sd th T s s1 sf sb μ) (hk : jd_w0 nc nr lm sd th T s s1 sf sb nco) (ha : qm_r32 a) (H : ∀ v, jd_nea nc lm th sf s a v → Q v μ) : qm_CI (qb_T L) (d + 3) 2484 [qm_P 13, qm_I a] μ Q := by
  have hs := hk.2.1.1
  have hnc := hk.1.1
  have hs1 : μ 69 0 = (s : Int) := h.2.1.1
  have no : (s = 0 ∨ (a ≠ -1 ∧ (a < 0 ∨ (nc : Int) ≤ a))) → ∃ r, qm_I (-1) = some (.inl r) ∧ Q r μ := fun z => ⟨_, rfl, H _ (Or.inl ⟨z, rfl⟩)⟩
  refine b2484_0 μ _ _ ?_
  rw [hs1]
  refine ⟨by omega, fun y => no (by omega), fun y => ⟨ha, fun y2 => b2484_24 μ _ _ ⟨ha, fun _ => ?_, fun q => absurd y2 q⟩, fun y2 => js_2438 h.1 hk.1 ha (fun c hac hc => ⟨by decide, fun q => absurd q (by decide), fun _ => b2484_24 μ _ _ ⟨ha, fun q => absurd q y2, fun _ => ?_⟩⟩) (fun h0 => ⟨by decide, fun _ => no (by omega), fun q => absurd rfl q⟩)⟩⟩
  · refine jl_loop (S := fun i => ∀ v, (∃ g : Nat → Int, (∀ c, c < i → jd_nr lm th sf c s (g c)) ∧ v = jd_sum g i) → qm_W (qb_T L) (d + 3) 2484 39 [qm_P 13, qm_I a, qm_I v, qm_I ((i : Nat) : Int)] [] μ (fun v μ' => ∃ r, v = some (.inl r) ∧ Q r μ')) nc (fun i hi ih v hg => ?_) (fun v hg => ?_) 0 ⟨fun _ => 0, fun c hc => absurd hc (by omega), rfl⟩
    · refine b2484_39 μ _ _ _ _ (js_2436 h.1 ⟨by omega, by omega, fun q => absurd q (by omega), fun _ => js_2483 h hk hi fun x hx => ih _ ?_⟩)
      obtain ⟨g, g1, g2⟩ := hg
      refine ⟨fun k => if k = i then x else g k, fun k hk2 => ?_, ?_⟩
      · show jd_nr lm th sf k s (if k = i then x else g k)
        by_cases q : k = i
        · rw [if_pos q, q]; exact hx
        · rw [if_neg q]; exact g1 k (by omega)
      · show v + x = jd_sum (fun k => if k = i then x else g k) i + (if i = i then x else g i)
        rw [if_pos rfl, g2, jl_sume (g := g) i fun k hk2 => if_neg (by omega)]
    · exact b2484_39 μ _ _ _ _ (js_2436 h.1 ⟨by omega, by omega, fun _ => ⟨_, rfl, H v (Or.inr (Or.inl ⟨by omega, y2, hg⟩))⟩, fun q => absurd (Int.le_refl _) q⟩)
  · subst hac
    refine js_2483 h hk hc fun x hx => ⟨_, rfl, H x (Or.inr (Or.inr ⟨by omega, c, rfl, hc, hx⟩))⟩
end
