/-! ===== acts, kept and taken back ===== -/
abbrev jd_B : Type := Nat × (Nat → Int) × (Nat → Nat → Int) × (Nat → Nat → Int)
def jd_okb (nc : Nat) (lm : Int) (b : jd_B) : Prop := jd_ok nc b.1 lm b.2.1 b.2.2.1 b.2.2.2
def jc_bb (nc : Nat) (lm : Int) (b : jd_B) (μ : qm_M) : Prop := jc_belt nc b.1 lm b.2.1 b.2.2.1 b.2.2.2 μ
def jm_bb (nc : Nat) (lm : Int) (b : jd_B) (μ : qm_M) : Prop := jm_belt nc b.1 lm b.2.1 b.2.2.1 b.2.2.2 μ
def jd_bt (b : jd_B) (u : Nat → Int) : jd_B := (b.1 + 1, b.2.1, b.2.2.1, jd_ap b.2.2.2 b.1 u)
def jd_bu (b : jd_B) : jd_B := (b.1 - 1, b.2.1, b.2.2.1, b.2.2.2)
def jd_bs (b : jd_B) (c k : Nat) : jd_B := (b.1, b.2.1, (fun c' j => if c' = c then b.2.2.1 c ((j + k) % 4) else b.2.2.1 c' j), b.2.2.2)
def jd_bz (b : jd_B) (c : Nat) : jd_B := (b.1, (fun c' => if c' = c then 1 - b.2.1 c else b.2.1 c'), b.2.2.1, b.2.2.2)
def jd_dig (w : Int) (c : Nat) : Int := w / ((2 ^ (2 * c) : Nat) : Int) % 4
def jd_undo (k w : Int) (b : jd_B) : jd_B := if k = 0 then jd_bu b else if k = 1 then jd_bt b (jd_dig w) else if k = 2 then jd_bs b w.toNat 3 else jd_bz b w.toNat
def jd_lg (nc : Nat) (b : jd_B) (k w : Int) : Prop := (k = 0 ∧ 0 < b.1) ∨ (k = 1 ∧ b.1 < 60 ∧ 0 ≤ w ∧ w < ((2 ^ (2 * nc) : Nat) : Int)) ∨ ((k = 2 ∨ k = 3) ∧ ∃ c : Nat, w = (c : Int) ∧ c < nc)
def jd_eqb (nc : Nat) (a b : jd_B) : Prop := a.1 = b.1 ∧ (∀ c, c < nc → a.2.1 c = b.2.1 c) ∧ (∀ c k, c < nc → k < 4 → a.2.2.1 c k = b.2.2.1 c k) ∧ ∀ r c, r < a.1 → c < nc → a.2.2.2 r c = b.2.2.2 r c
def jd_cons (b : jd_B) (st : Nat → jd_B) : Nat → jd_B
  | 0 => b
  | i + 1 => st i
def jd_ct (ct : Nat) : Nat := if ct < 20 then ct + 1 else 20
def jc_acts (nc : Nat) (lm : Int) (ct : Nat) (st : Nat → jd_B) (μ : qm_M) : Prop := μ 7 3 = (ct : Int) ∧ ∀ i, i < ct → jd_okb nc lm (st (i + 1)) ∧ jd_lg nc (st i) (μ 35 (ct - 1 - i)) (μ 36 (ct - 1 - i)) ∧ jd_eqb nc (st (i + 1)) (jd_undo (μ 35 (ct - 1 - i)) (μ 36 (ct - 1 - i)) (st i))
def jm_snap (nc : Nat) (b : jd_B) (s : Nat) (μ : qm_M) : Prop := b.1 ≤ 60 ∧ μ 68 (521 * s) = (b.1 : Int) ∧ (∀ r c, r < b.1 → c < nc → μ 68 (521 * s + 1 + (8 * r + c)) = b.2.2.2 r c) ∧ (∀ c, c < nc → μ 68 (521 * s + 481 + 5 * c) = b.2.1 c) ∧ ∀ c k, c < nc → k < 4 → μ 68 (521 * s + 481 + (5 * c + 1 + k)) = b.2.2.1 c k
def jm_acts (nc ct : Nat) (st : Nat → jd_B) (μ : qm_M) : Prop := μ 13 39 = (ct : Int) ∧ ∃ nw : Nat, nw < 20 ∧ μ 13 40 = (nw : Int) ∧ ∀ i, i < ct → jm_snap nc (st (i + 1)) ((nw + 20 - i) % 20) μ
theorem jl_cbe {nc : Nat} {lm : Int} {a b : jd_B} {μ : qm_M} (h : jd_eqb nc a b) (hb : jc_bb nc lm b μ) : jc_bb nc lm a μ := by
  obtain ⟨h1, h2, h3, h4⟩ := h
  obtain ⟨e1, e2, e3, e4, e5, e6, e7, e8⟩ := hb
  refine ⟨e1, by rw [h1]; exact e2, e3, fun c hc => by rw [h2 c hc]; exact e4 c hc, fun c k hc hk => by rw [h3 c k hc hk]; exact e5 c k hc hk, fun r c hr hc => by rw [h4 r c hr hc]; exact e6 r c (by omega) hc, fun r hr => e7 r (by omega), fun r c hr hc => ?_⟩
  rw [jl_twe (g := fun i => b.2.2.2 i c) (r + 1) (fun i hi => h4 i c (by omega) hc)]
  exact e8 r c (by omega) hc
theorem jl_oke {nc : Nat} {lm : Int} {a b : jd_B} (h : jd_eqb nc a b) (hb : jd_okb nc lm b) : jd_okb nc lm a := by
  obtain ⟨h1, h2, h3, h4⟩ := h
  obtain ⟨e1, e2, e3, e4, e5, e6, e7⟩ := hb
  refine ⟨e1, by rw [h1]; exact e2, e3, fun c hc => by rw [h2 c hc]; exact e4 c hc, fun c k hc hk => by rw [h3 c k hc hk]; exact e5 c k hc hk, fun r c hr hc => by rw [h4 r c hr hc]; exact e6 r c (by omega) hc, fun r c hr hc => ?_⟩
  rw [jl_twe (g := fun i => b.2.2.2 i c) r (fun i hi => h4 i c (by omega) hc)]
  exact e7 r c (by omega) hc
section
variable {L d nc ct : Nat} {lm : Int} {b : jd_B} {st : Nat → jd_B} {μ : qm_M} {Q : Int → qm_M → Prop} {V : qm_M → Prop} {np : Int} {pk u : Nat → Int}
theorem jl_okbu (hO : jd_okb nc lm b) : jd_okb nc lm (jd_bu b) := by
  obtain ⟨e1, e2, e3, e4, e5, e6, e7⟩ := hO
  exact ⟨e1, Nat.le_trans (Nat.sub_le _ _) e2, e3, e4, e5, fun r c hr hc => e6 r c (Nat.lt_of_lt_of_le hr (Nat.sub_le _ _)) hc, fun r c hr hc => e7 r c (Nat.le_trans hr (Nat.sub_le _ _)) hc⟩
theorem jl_okbs {c k : Nat} (hO : jd_okb nc lm b) (hc : c < nc) : jd_okb nc lm (jd_bs b c k) := by
  obtain ⟨e1, e2, e3, e4, e5, e6, e7⟩ := hO
  refine ⟨e1, e2, e3, e4, fun c' j hc' hj => ?_, e6, e7⟩
  show 0 ≤ (if c' = c then b.2.2.1 c ((j + k) % 4) else b.2.2.1 c' j) ∧ (if c' = c then b.2.2.1 c ((j + k) % 4) else b.2.2.1 c' j) < 6
  split
  · exact e5 c _ hc (by omega)
  · exact e5 c' j hc' hj
theorem jl_okbz {c : Nat} (hO : jd_okb nc lm b) (hc : c < nc) : jd_okb nc lm (jd_bz b c) := by
  obtain ⟨e1, e2, e3, e4, e5, e6, e7⟩ := hO
  refine ⟨e1, e2, e3, fun c' hc' => ?_, e5, e6, e7⟩
  show (if c' = c then 1 - b.2.1 c else b.2.1 c') = 0 ∨ (if c' = c then 1 - b.2.1 c else b.2.1 c') = 1
  have h1 := e4 c hc
  have h2 := e4 c' hc'
  split <;> omega
/-! the class's own acts on its belt -/
theorem js_208x {c : Nat} {z : Int} (hB : jc_bb nc lm b μ) (hO : jd_okb nc lm b) (hc : c < nc) (H : ∀ μ', jd_fr [31] μ μ' → jc_bb nc lm (b.1, (fun c' => if c' = c then z else b.2.1 c'), b.2.2.1, b.2.2.2) μ' → V μ') : V (qm_set μ 31 c z) := by
  refine H _ (jf_set (jf_refl _ _) rfl) ?_
  obtain ⟨e1, e2, e3, e4, e5, e6, e7, e8⟩ := hB
  refine ⟨?_, ?_, ?_, ?_, ?_, ?_, ?_, ?_⟩
  · rw [jl_sn _ _ _ (by decide)]; exact e1
  · rw [jl_sn _ _ _ (by decide)]; exact e2
  · rw [jl_sn _ _ _ (by decide)]; exact e3
  · intro c' hc'
    show qm_set μ 31 c z 31 c' = if c' = c then z else b.2.1 c'
    split
    · rename_i h; rw [h, jl_ss]
    · rename_i h; rw [jl_sk _ _ _ h]; exact e4 c' hc'
  · rw [jl_sn _ _ _ (by decide)]; exact e5
  · rw [jl_sn _ _ _ (by decide)]; exact e6
  · rw [jl_sn _ _ _ (by decide)]; exact e7
  · rw [jl_sn _ _ _ (by decide)]; exact e8
theorem js_209 {c : Nat} (hB : jc_bb nc lm b μ) (hO : jd_okb nc lm b) (hc : c < nc) (H : ∀ μ', jd_fr [31] μ μ' → jc_bb nc lm (jd_bz b c) μ' → V μ') : qm_CV (qb_T L) (d + 2) 209 [qm_P 6, qm_I (c : Int)] μ V := by
  refine b209_0 μ _ _ ?_
  have h1 := hO.1
  refine js_207 hB hO hc (js_402i c rfl (by decide) rfl (by omega) ⟨rfl, ?_⟩)
  exact js_208x hB hO hc H
theorem js_211 {c : Nat} {x z : Int} (hB : jc_bb nc lm b μ) (hO : jd_okb nc lm b) (hc : c < nc) (H : ∀ μ', jd_fr [32] μ μ' → jc_bb nc lm (b.1, b.2.1, (fun c' j => if c' = c ∧ j = jd_c4 x then z else b.2.2.1 c' j), b.2.2.2) μ' → V μ') : qm_CV (qb_T L) (d + 1) 211 [qm_P 6, qm_I (c : Int), qm_I x, qm_I z] μ V := by
  refine b211_0 μ _ _ _ _ ?_
  have h1 := hO.1
  have h2 := jl_c4 x
  have h3 := jl_c4i x
  rw [qa_and3]
  refine js_402i (4 * c + jd_c4 x) rfl (by decide) (by omega) (by omega) ⟨rfl, H _ (jf_set (jf_refl _ _) rfl) ?_⟩
  obtain ⟨e1, e2, e3, e4, e5, e6, e7, e8⟩ := hB
  refine ⟨?_, ?_, ?_, ?_, ?_, ?_, ?_, ?_⟩
  · rw [jl_sn _ _ _ (by decide)]; exact e1
  · rw [jl_sn _ _ _ (by decide)]; exact e2
  · rw [jl_sn _ _ _ (by decide)]; exact e3
  · rw [jl_sn _ _ _ (by decide)]; exact e4
  · intro c' j hc' hj
    show qm_set μ 32 (4 * c + jd_c4 x) z 32 (4 * c' + j) = if c' = c ∧ j = jd_c4 x then z else b.2.2.1 c' j
    split
    · rename_i h; rw [h.1, h.2, jl_ss]
    · rename_i h; rw [jl_sk _ _ _ (by omega)]; exact e5 c' j hc' hj
  · rw [jl_sn _ _ _ (by decide)]; exact e6
  · rw [jl_sn _ _ _ (by decide)]; exact e7
  · rw [jl_sn _ _ _ (by decide)]; exact e8
theorem jl_thok {c j : Nat} {z : Int} (hO : jd_okb nc lm b) (hz : 0 ≤ z ∧ z < 6) : jd_okb nc lm (b.1, b.2.1, (fun c' i => if c' = c ∧ i = j then z else b.2.2.1 c' i), b.2.2.2) := by
  obtain ⟨e1, e2, e3, e4, e5, e6, e7⟩ := hO
  refine ⟨e1, e2, e3, e4, fun c' i hc' hi => ?_, e6, e7⟩
  show 0 ≤ (if c' = c ∧ i = j then z else b.2.2.1 c' i) ∧ (if c' = c ∧ i = j then z else b.2.2.1 c' i) < 6
  split
  · exact hz
  · exact e5 c' i hc' hi
theorem js_212 {c k : Nat} {q : Int} (hB : jc_bb nc lm b μ) (hO : jd_okb nc lm b) (hc : c < nc) (hq : q = (k : Int)) (H : ∀ μ', jd_fr [32] μ μ' → jc_bb nc lm (jd_bs b c k) μ' → V μ') : qm_CV (qb_T L) (d + 2) 212 [qm_P 6, qm_I (c : Int), qm_I q] μ V := by
  subst hq
  refine b212_0 μ _ _ _ ?_
  refine js_210 hB hO hc (js_210 hB hO hc (js_210 hB hO hc (js_210 hB hO hc ?_)))
  have hz : ∀ x, 0 ≤ b.2.2.1 c (jd_c4 x) ∧ b.2.2.1 c (jd_c4 x) < 6 := fun x => hO.2.2.2.2.1 c _ hc (jl_c4 x)
  refine js_211 hB hO hc fun μ1 f1 hB1 => ?_
  have hO1 := jl_thok (c := c) (j := jd_c4 0) hO (hz (k : Int))
  refine js_211 hB1 hO1 hc fun μ2 f2 hB2 => ?_
  have hO2 := jl_thok (c := c) (j := jd_c4 1) hO1 (hz (1 + (k : Int)))
  refine js_211 hB2 hO2 hc fun μ3 f3 hB3 => ?_
  have hO3 := jl_thok (c := c) (j := jd_c4 2) hO2 (hz (2 + (k : Int)))
  refine js_211 hB3 hO3 hc fun μ4 f4 hB4 => ⟨rfl, H μ4 (jf_trans f1 (jf_trans f2 (jf_trans f3 f4))) (jl_cbe ?_ hB4)⟩
  refine ⟨rfl, fun _ _ => rfl, fun c' j hc' hj => ?_, fun _ _ _ _ => rfl⟩
  show (if c' = c then b.2.2.1 c ((j + k) % 4) else b.2.2.1 c' j) = (if c' = c ∧ j = jd_c4 3 then b.2.2.1 c (jd_c4 (3 + (k : Int))) else if c' = c ∧ j = jd_c4 2 then b.2.2.1 c (jd_c4 (2 + (k : Int))) else if c' = c ∧ j = jd_c4 1 then b.2.2.1 c (jd_c4 (1 + (k : Int))) else if c' = c ∧ j = jd_c4 0 then b.2.2.1 c (jd_c4 (k : Int)) else b.2.2.1 c' j)
  have e0 : jd_c4 0 = 0 := rfl
  have e1 : jd_c4 1 = 1 := rfl
  have e2 : jd_c4 2 = 2 := rfl
  have e3 : jd_c4 3 = 3 := rfl
  rw [e0, e1, e2, e3]
  by_cases h : c' = c
  · rw [if_pos h]
    have h4 : j = 0 ∨ j = 1 ∨ j = 2 ∨ j = 3 := by omega
    rcases h4 with z | z | z | z
    · rw [if_neg (by omega), if_neg (by omega), if_neg (by omega), if_pos ⟨h, z⟩, z]; exact congrArg (b.2.2.1 c) (show (0 + k) % 4 = jd_c4 (k : Int) by unfold jd_c4; omega)
    · rw [if_neg (by omega), if_neg (by omega), if_pos ⟨h, z⟩, z]; exact congrArg (b.2.2.1 c) (show (1 + k) % 4 = jd_c4 (1 + (k : Int)) by unfold jd_c4; omega)
    · rw [if_neg (by omega), if_pos ⟨h, z⟩, z]; exact congrArg (b.2.2.1 c) (show (2 + k) % 4 = jd_c4 (2 + (k : Int)) by unfold jd_c4; omega)
    · rw [if_pos ⟨h, z⟩, z]; exact congrArg (b.2.2.1 c) (show (3 + k) % 4 = jd_c4 (3 + (k : Int)) by unfold jd_c4; omega)
  · rw [if_neg h, if_neg (fun z => h z.1), if_neg (fun z => h z.1), if_neg (fun z => h z.1), if_neg (fun z => h z.1)]
theorem js_2 (hct : ct ≤ 20) (h0 : 0 < ct) (h1 : μ 7 3 = (ct : Int)) (H : ∀ μ', jd_fr [7, 35, 36] μ μ' → μ' 7 3 = ((ct - 1 : Nat) : Int) → (∀ j, j + 1 < ct → μ' 35 j = μ 35 (j + 1) ∧ μ' 36 j = μ 36 (j + 1)) → V μ') : qm_CV (qb_T L) (d + 1) 2 [qm_P 7] μ V := by
  refine b2_0 μ _ ?_
  refine jl_from (S := fun i => ∀ μ', jd_fr [7, 35, 36] μ μ' → μ' 7 3 = (ct : Int) → (∀ j, j + 1 < i → μ' 35 j = μ 35 (j + 1) ∧ μ' 36 j = μ 36 (j + 1)) → (∀ j, i ≤ j + 1 → μ' 35 j = μ 35 j ∧ μ' 36 j = μ 36 j) → qm_W (qb_T L) (d + 1) 2 2 [qm_P 7, qm_I ((i : Nat) : Int)] [] μ' (fun v μ' => v = none ∧ V μ')) 1 (ct - 1) (fun i h2 h3 ih μ' hf hc hj hk => ?_) (fun μ' hf hc hj hk => ?_) μ (jf_refl _ _) h1 (fun j hj => absurd hj (by omega)) (fun j _ => ⟨rfl, rfl⟩)
  · refine b2_2 μ' _ _ ?_
    rw [hc]
    refine ⟨by omega, by omega, fun z => absurd z (by omega), fun _ => ?_⟩
    refine js_401i i rfl (by decide) rfl (by omega) (js_402i (i - 1) rfl (by decide) (by omega) (by omega) ?_)
    refine js_401i i rfl (by decide) rfl (by omega) (js_402i (i - 1) rfl (by decide) (by omega) (by omega) ?_)
    refine ih _ (jf_set (jf_set hf rfl) rfl) ?_ (fun j hj2 => ?_) (fun j hj2 => ?_)
    · rw [jl_sn _ _ _ (by decide), jl_sn _ _ _ (by decide)]; exact hc
    · rw [jl_sn (c := 36) (c' := 35) _ _ _ (by decide), jl_sn (c := 35) (c' := 36) _ _ _ (by decide)]
      by_cases hji : j = i - 1
      · subst hji
        rw [jl_ss, jl_ss, show i - 1 + 1 = i by omega]
        exact hk i (by omega)
      · rw [jl_sk _ _ _ hji, jl_sk _ _ _ hji, jl_sn _ _ _ (by decide)]; exact hj j (by omega)
    · rw [jl_sn (c := 36) (c' := 35) _ _ _ (by decide), jl_sk _ _ _ (by omega), jl_sk _ _ _ (by omega), jl_sn _ _ _ (by decide)]
      exact hk j (by omega)
  · refine b2_2 μ' _ _ ?_
    rw [hc]
    refine ⟨by omega, by omega, fun _ => ⟨rfl, H _ (jf_set hf rfl) ?_ (fun j hj2 => ?_)⟩, fun z => absurd z (by omega)⟩
    · rw [jl_ss]; omega
    · rw [jl_sn _ _ _ (by decide), jl_sn _ _ _ (by decide)]; exact hj j (by omega)
theorem js_1 {k w : Int} (hct : ct ≤ 20) (h1 : μ 7 3 = (ct : Int)) (H : ∀ μ', jd_fr [7, 35, 36] μ μ' → μ' 7 3 = ((jd_ct ct : Nat) : Int) → μ' 35 (jd_ct ct - 1) = k → μ' 36 (jd_ct ct - 1) = w → (∀ j, 1 ≤ j → j < jd_ct ct → μ' 35 (jd_ct ct - 1 - j) = μ 35 (ct - j) ∧ μ' 36 (jd_ct ct - 1 - j) = μ 36 (ct - j)) → V μ') : qm_CV (qb_T L) (d + 2) 1 [qm_P 7, qm_I k, qm_I w] μ V := by
  refine b1_0 μ _ _ _ ?_
  rw [h1]
  have fin : ∀ (m : Nat) μ1, m < 20 → m + 1 = jd_ct ct → jd_fr [7, 35, 36] μ μ1 → μ1 7 3 = (m : Int) → (∀ j, 1 ≤ j → j < jd_ct ct → μ1 35 (m - j) = μ 35 (ct - j) ∧ μ1 36 (m - j) = μ 36 (ct - j)) → qm_W (qb_T L) (d + 2) 1 13 [qm_P 7, qm_I k, qm_I w] [] μ1 (fun v μ' => v = none ∧ V μ') := by
    intro m μ1 hm hm2 hf hc hj
    refine b1_13 μ1 _ _ _ ?_
    rw [hc]
    refine js_402i m rfl (by decide) rfl hm ?_
    rw [jl_sn _ _ _ (by decide), hc]
    refine js_402i m rfl (by decide) rfl hm ⟨rfl, ?_⟩
    have e : jd_ct ct - 1 = m := by omega
    refine H _ (jf_set (jf_set (jf_set hf rfl) rfl) rfl) ?_ ?_ ?_ (fun j h3 h4 => ?_)
    · rw [jl_ss, jl_sn _ _ _ (by decide), jl_sn _ _ _ (by decide), hc]; omega
    · rw [e, jl_sn _ _ _ (by decide), jl_sn _ _ _ (by decide), jl_ss]
    · rw [e, jl_sn _ _ _ (by decide), jl_ss]
    · rw [e, jl_sn _ _ _ (by decide), jl_sn _ _ _ (by decide), jl_sk _ _ _ (by omega), jl_sn (c := 7) _ _ _ (by decide), jl_sk _ _ _ (by omega), jl_sn (c := 35) _ _ _ (by decide)]
      exact hj j h3 h4
  refine ⟨by omega, fun z => ?_, fun z => ?_⟩
  · exact fin ct μ (by omega) (by unfold jd_ct; rw [if_pos (by omega)]) (jf_refl _ _) h1 (fun j _ _ => ⟨rfl, rfl⟩)
  · obtain rfl : ct = 20 := by omega
    refine js_2 (ct := 20) (by decide) (by decide) h1 fun μ1 f1 hc hj => ?_
    refine fin 19 μ1 (by decide) rfl f1 hc fun j h3 h4 => ?_
    have h5 : jd_ct 20 = 20 := rfl
    rw [h5] at h4
    have h6 := hj (19 - j) (by omega)
    rw [show 19 - j + 1 = 20 - j by omega] at h6
    exact h6
/-- one more act on the list -/
theorem jl_cact {k w : Int} {b' : jd_B} {μ1 μ' : qm_M} (hA : jc_acts nc lm ct st μ) (hct : ct ≤ 20) (hf : jd_fr [6, 31, 32, 33, 34] μ μ1) (hO : jd_okb nc lm (st 0)) (hl : jd_lg nc b' k w) (he : jd_eqb nc (st 0) (jd_undo k w b')) (h1 : μ' 7 3 = ((jd_ct ct : Nat) : Int)) (h2 : μ' 35 (jd_ct ct - 1) = k) (h3 : μ' 36 (jd_ct ct - 1) = w) (h4 : ∀ j, 1 ≤ j → j < jd_ct ct → μ' 35 (jd_ct ct - 1 - j) = μ1 35 (ct - j) ∧ μ' 36 (jd_ct ct - 1 - j) = μ1 36 (ct - j)) : jc_acts nc lm (jd_ct ct) (jd_cons b' st) μ' := by
  refine ⟨h1, fun i hi => ?_⟩
  cases i with
  | zero =>
    rw [Nat.sub_zero, h2, h3]
    exact ⟨hO, hl, he⟩
  | succ i =>
    have h5 := h4 (i + 1) (by omega) hi
    rw [h5.1, h5.2, hf 35 rfl, hf 36 rfl, show ct - (i + 1) = ct - 1 - i by omega]
    exact hA.2 i (by unfold jd_ct at hi; split at hi <;> omega)
end
