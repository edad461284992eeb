/-! ===== names ===== -/
def jx_nm (x y : Int) : Prop := ∃ (k : Nat) (f : Nat → Int), 1 ≤ k ∧ k ≤ 6 ∧ (∀ i, i < k → 1 ≤ f i ∧ f i ≤ 26) ∧ x = jd_n5 f k ∧ y = jd_n27 f k
theorem jl_n5c {f g : Nat → Int} : ∀ k : Nat, (∀ i, i < k → f i = g i) → jd_n5 f k = jd_n5 g k
  | 0, _ => rfl
  | k + 1, h => by
    show jd_n5 f k + f k * _ = jd_n5 g k + g k * _
    rw [jl_n5c k (fun i hi => h i (by omega)), h k (by omega)]
theorem jl_n27c {f g : Nat → Int} : ∀ k : Nat, (∀ i, i < k → f i = g i) → jd_n27 f k = jd_n27 g k
  | 0, _ => rfl
  | k + 1, h => by
    show 27 * jd_n27 f k + f k = 27 * jd_n27 g k + g k
    rw [jl_n27c k (fun i hi => h i (by omega)), h k (by omega)]
theorem jl_n27i : ∀ (k l : Nat) (f g : Nat → Int), (∀ i, i < k → 1 ≤ f i ∧ f i ≤ 26) → (∀ i, i < l → 1 ≤ g i ∧ g i ≤ 26) → jd_n27 f k = jd_n27 g l → k = l ∧ ∀ i, i < k → f i = g i
  | 0, 0, _, _, _, _, _ => ⟨rfl, fun i hi => absurd hi (by omega)⟩
  | 0, l + 1, f, g, _, hg, e => by
    have h1 := (jl_n27b (f := g) l (fun i hi => by have := hg i (by omega); omega)).1
    have h2 := hg l (by omega)
    have e2 : (0 : Int) = 27 * jd_n27 g l + g l := e
    omega
  | k + 1, 0, f, g, hf, _, e => by
    have h1 := (jl_n27b (f := f) k (fun i hi => by have := hf i (by omega); omega)).1
    have h2 := hf k (by omega)
    have e2 : 27 * jd_n27 f k + f k = 0 := e
    omega
  | k + 1, l + 1, f, g, hf, hg, e => by
    have h1 := hf k (by omega)
    have h2 := hg l (by omega)
    have e2 : 27 * jd_n27 f k + f k = 27 * jd_n27 g l + g l := e
    obtain ⟨a, b⟩ := jl_n27i k l f g (fun i hi => hf i (by omega)) (fun i hi => hg i (by omega)) (by omega)
    subst a
    refine ⟨rfl, fun i hi => ?_⟩
    by_cases q : i = k
    · subst q; omega
    · exact b i (by omega)
theorem jl_n5i {k l : Nat} {f g : Nat → Int} (hf : ∀ i, i < k → 1 ≤ f i ∧ f i ≤ 26) (hg : ∀ i, i < l → 1 ≤ g i ∧ g i ≤ 26) (e : jd_n5 f k = jd_n5 g l) : k = l ∧ ∀ i, i < k → f i = g i := by
  have hd : ∀ i, (if i < k then f i else 0) = (if i < l then g i else 0) := fun i => by
    rw [← jl_n5d k (fun i hi => by have := hf i hi; omega) i, ← jl_n5d l (fun i hi => by have := hg i hi; omega) i, e]
  have hkl : k = l := by
    rcases Nat.lt_trichotomy k l with q | q | q
    · have := hd k
      rw [if_neg (Nat.lt_irrefl k), if_pos q] at this
      have := hg k q; omega
    · exact q
    · have := hd l
      rw [if_neg (Nat.lt_irrefl l), if_pos q] at this
      have := hf l q; omega
  subst hkl
  refine ⟨rfl, fun i hi => ?_⟩
  have := hd i
  rwa [if_pos hi, if_pos hi] at this
theorem jl_nme {x y x' y' : Int} (h : jx_nm x y) (h' : jx_nm x' y') : x = x' ↔ y = y' := by
  obtain ⟨k, f, h1, h2, h3, h4, h5⟩ := h
  obtain ⟨l, g, g1, g2, g3, g4, g5⟩ := h'
  subst h4; subst h5; subst g4; subst g5
  constructor
  · intro e
    obtain ⟨a, b⟩ := jl_n5i h3 g3 e
    subst a
    exact jl_n27c k b
  · intro e
    obtain ⟨a, b⟩ := jl_n27i k l f g h3 g3 e
    subst a
    exact jl_n5c k b
theorem jl_nmb {x y : Int} (h : jx_nm x y) : (1 ≤ x ∧ x < 1073741824) ∧ (1 ≤ y ∧ y < 387420489) := by
  obtain ⟨k, f, h1, h2, h3, h4, h5⟩ := h
  have b1 := jl_n5b (f := f) k (fun i hi => by have := h3 i hi; omega)
  have b2 := jl_n27b (f := f) k (fun i hi => by have := h3 i hi; omega)
  have c1 : 2 ^ (5 * k) ≤ 2 ^ 30 := Nat.pow_le_pow_right (by decide) (by omega)
  have c2 : 27 ^ k ≤ 27 ^ 6 := Nat.pow_le_pow_right (by decide) h2
  have e1 : 2 ^ 30 = 1073741824 := by decide
  have e2 : 27 ^ 6 = 387420489 := by decide
  rw [e1] at c1
  rw [e2] at c2
  generalize 2 ^ (5 * k) = P1 at *
  generalize 27 ^ k = P2 at *
  have d1 : jd_n5 f k ≠ 0 := fun z => by
    have := jl_n5d k (f := f) (fun i hi => by have := h3 i hi; omega) 0
    rw [z, if_pos (by omega)] at this
    have := h3 0 (by omega)
    simp at *
    omega
  have d2 : jd_n27 f k ≠ 0 := fun z => by
    cases k with
    | zero => omega
    | succ k =>
      have e : 27 * jd_n27 f k + f k = 0 := z
      have h6 := (jl_n27b (f := f) k (fun i hi => by have := h3 i (by omega); omega)).1
      have := h3 k (by omega)
      omega
  rw [h4, h5]
  omega
/-- the first place of a number -/
def jd_pl (N : Nat → Int) (x : Int) : Nat → Int
  | 0 => -1
  | c + 1 => if jd_pl N x c = -1 then (if N c = x then (c : Int) else -1) else jd_pl N x c
theorem jl_pl0 {N : Nat → Int} {x : Int} : ∀ c : Nat, (∀ i, i < c → N i ≠ x) → jd_pl N x c = -1
  | 0, _ => rfl
  | c + 1, h => by
    unfold jd_pl
    rw [if_pos (jl_pl0 c (fun i hi => h i (by omega))), if_neg (h c (by omega))]
theorem jl_pl1 {N : Nat → Int} {x : Int} {k : Nat} (hk : N k = x) (h0 : ∀ i, i < k → N i ≠ x) : ∀ c : Nat, k < c → jd_pl N x c = (k : Int)
  | 0, h => absurd h (by omega)
  | c + 1, h => by
    unfold jd_pl
    by_cases q : k = c
    · subst q
      rw [if_pos (jl_pl0 k h0), if_pos hk]
    · rw [jl_pl1 hk h0 c (by omega), if_neg (by omega)]
theorem jl_plb {N : Nat → Int} {x : Int} : ∀ c : Nat, jd_pl N x c = -1 ∨ ∃ k : Nat, k < c ∧ jd_pl N x c = (k : Int) ∧ N k = x
  | 0 => Or.inl rfl
  | c + 1 => by
    unfold jd_pl
    rcases jl_plb (N := N) (x := x) c with h | ⟨k, h1, h2, h3⟩
    · rw [if_pos h]
      by_cases q : N c = x
      · rw [if_pos q]; exact Or.inr ⟨c, by omega, rfl, q⟩
      · rw [if_neg q]; exact Or.inl rfl
    · rw [h2, if_neg (by omega)]; exact Or.inr ⟨k, by omega, rfl, h3⟩
theorem jl_ple {N N' : Nat → Int} {x x' : Int} : ∀ c : Nat, (∀ i, i < c → (N i = x ↔ N' i = x')) → jd_pl N x c = jd_pl N' x' c
  | 0, _ => rfl
  | c + 1, h => by
    unfold jd_pl
    rw [jl_ple c (fun i hi => h i (by omega))]
    by_cases q : N c = x
    · rw [if_pos q, if_pos ((h c (by omega)).mp q)]
    · rw [if_neg q, if_neg (fun z => q ((h c (by omega)).mpr z))]
theorem jl_plc {N N' : Nat → Int} {x : Int} (c : Nat) (h : ∀ i, i < c → N i = N' i) : jd_pl N x c = jd_pl N' x c :=
  jl_ple c fun i hi => by rw [h i hi]
section
variable {L d n : Nat} {t : Nat → Int} {b : Nat} {m : Bool} {μ : qm_M} {Q : Int → qm_M → Prop} {V : qm_M → Prop} {k p : Int}
theorem js_803 {a n0 c : Nat} {x : Int} (h0 : qm_sh (qb_T L) a = some (.inr (0, n0))) (hn : n0 ≤ 20000) (hc : c ≤ n0) (hv : ∀ i, i < c → qm_r32 (μ a i)) (hx : qm_r32 x) (H : Q (jd_pl (μ a) x c) μ) : qm_CI (qb_T L) (d + 1) 803 [qm_P a, qm_I ((c : Nat) : Int), qm_I x] μ Q := by
  refine b803_0 h0 μ _ _ _ ?_
  refine jl_loop (S := fun i => (∀ j, j < i → μ a j ≠ x) → qm_W (qb_T L) (d + 1) 803 2 [qm_P a, qm_I ((c : Nat) : Int), qm_I x, qm_I ((i : Nat) : Int)] [] μ (fun v μ' => ∃ r, v = some (.inl r) ∧ Q r μ')) c (fun i hi ih hj => ?_) (fun hj => ?_) (fun j hj => absurd hj (by omega))
  · refine b803_2 h0 μ _ _ _ _ ⟨by omega, by omega, fun q => absurd q (by omega), fun _ => js_401i i h0 hn rfl (by omega) ?_⟩
    refine ⟨hv i hi, hx, fun q => ⟨_, rfl, ?_⟩, fun q => ?_⟩
    · rw [jl_pl1 q hj c hi] at H; exact H
    · rw [jl_cs]
      refine ih fun j hj2 => ?_
      by_cases z : j = i
      · subst z; exact q
      · exact hj j (by omega)
  · refine b803_2 h0 μ _ _ _ _ ⟨by omega, by omega, fun _ => ⟨_, rfl, ?_⟩, fun q => absurd q (by omega)⟩
    rw [jl_pl0 c hj] at H; exact H
theorem js_2417 {c q : Nat} {x : Int} (hq : q < 6) (hc : c ≤ 8) (h59 : μ 59 q = (c : Int)) (hv : ∀ i, i < c → qm_r64 (μ 60 (8 * q + i))) (hx : qm_r64 x) (H : Q (jd_pl (fun i => μ 60 (8 * q + i)) x c) μ) : qm_CI (qb_T L) d 2417 [qm_P 13, qm_I ((q : Nat) : Int), qm_L x] μ Q := by
  refine b2417_0 μ _ _ _ ?_
  refine jl_loop (S := fun i => (∀ j, j < i → μ 60 (8 * q + j) ≠ x) → qm_W (qb_T L) d 2417 3 [qm_P 13, qm_I ((q : Nat) : Int), qm_L x, none, qm_I ((i : Nat) : Int)] [] μ (fun v μ' => ∃ r, v = some (.inl r) ∧ Q r μ')) c (fun i hi ih hj => ?_) (fun hj => ?_) (fun j hj => absurd hj (by omega))
  · refine b2417_3 μ _ _ _ _ ?_
    rw [Int.toNat_natCast, h59, show ((8 : Int) * (q : Int) + (i : Int)).toNat = 8 * q + i by omega]
    refine ⟨by omega, by omega, by omega, fun y => absurd y (by omega), fun _ => ⟨by omega, hv i hi, hx, fun y => ⟨_, rfl, ?_⟩, fun y => ?_⟩⟩
    · rw [jl_pl1 (N := fun i => μ 60 (8 * q + i)) y hj c hi] at H; exact H
    · rw [jl_cs]
      refine ih fun j hj2 => ?_
      by_cases z : j = i
      · subst z; exact y
      · exact hj j (by omega)
  · refine b2417_3 μ _ _ _ _ ?_
    rw [Int.toNat_natCast, h59]
    refine ⟨by omega, by omega, by omega, fun _ => ⟨_, rfl, ?_⟩, fun y => absurd y (by omega)⟩
    rw [jl_pl0 c hj] at H; exact H
/-- a name read -/
theorem js_2415 (hcst : jm_cst μ) (hk : jd_tok n t) (hb : b ≤ n) (h : jm_pos n t b m μ) (H1 : jx_isL n t b m → ¬ jx_own n t b → jx_we n t b - jx_st n t b ≤ 6 → ∀ μ', jd_fm [2, 4, 21] [] μ μ' → jm_pos n t (jx_we n t b) true μ' → μ' 13 21 = ((jx_st n t b : Nat) : Int) → Q (jd_n27 (fun i => t (jx_st n t b + i) - 96) (jx_we n t b - jx_st n t b)) μ') (H0 : ∀ pf μ', jd_fm [2, 4, 5, 6, 21] [] μ μ' → jm_bad n t 1 pf μ' → ((¬ (jx_isL n t b m ∧ ¬ jx_own n t b) ∧ pf = ((jx_st n t b : Nat) : Int)) ∨ (jx_isL n t b m ∧ ¬ jx_own n t b ∧ ¬ jx_we n t b - jx_st n t b ≤ 6 ∧ pf = ((jx_st n t b + 6 : Nat) : Int))) → Q 0 μ') : qm_CL (qb_T L) (d + 3) 2415 [qm_P 13] μ Q := by
  have hn := hk.1
  have hstb := jx_stb (t := t) hb
  have bad37 : ∀ μ1, jd_fm [2] [] μ μ1 → jm_pos n t b m μ1 → μ1 13 2 = ((jx_st n t b : Nat) : Int) → ¬ (jx_isL n t b m ∧ ¬ jx_own n t b) → qm_W (qb_T L) (d + 3) 2415 37 [qm_P 13, none, none] [] μ1 (fun v μ' => ∃ r, v = some (.inr (.inl r)) ∧ Q r μ') := fun μ1 f1 hp1 a1 hno => by
    refine b2415_37 μ1 _ ?_
    rw [a1]
    exact js_2404 hp1 (by decide) hb fun μ2 f2 hb2 => ⟨_, rfl, H0 _ μ2 (jg_trans (jg_sub f1 rfl rfl) (jg_sub f2 rfl rfl)) hb2 (Or.inl ⟨hno, rfl⟩)⟩
  refine b2415_0 μ _ ?_
  rw [h.2.2.2.2.1]
  refine ⟨by decide, fun _ => js_2407 hk hb h (fun hlt μ1 f1 hp1 a1 => ?_) (fun hen μ1 f1 hp1 a1 => ?_), fun q => absurd rfl q⟩
  · have hbx := hk.2 _ hlt
    refine js_2405 (by omega) (fun hle => ⟨by decide, fun q => absurd q (by decide), fun _ => ?_⟩) (fun hle => ⟨by decide, fun _ => bad37 μ1 f1 hp1 a1 (fun z => hle z.1.2.1), fun q => absurd rfl q⟩)
    have hena := jl_ena hb hp1
    have he4 : -1 ≤ μ1 13 4 ∧ μ1 13 4 ≤ 2000 := by
      obtain ⟨_, _, h3, h4, _, _, _⟩ := hp1
      cases m with
      | true => have := h3 rfl; omega
      | false => have := h4 rfl; omega
    rw [a1]
    refine ⟨by omega, by omega, fun y => bad37 μ1 f1 hp1 a1 (fun z => z.1.2.2 (hena.mp y)), fun y => ?_⟩
    have hL : jx_isL n t b m := ⟨hlt, hle, fun z => y (hena.mpr z)⟩
    refine js_2414 (jm_cstf hcst f1 rfl) hk hb hp1 (fun ho μ2 f2 hp2 a2 => ⟨by decide, fun q => absurd q (by decide), fun _ => bad37 μ2 (jg_trans f1 f2) hp2 a2 (fun z => z.2 (jl_own.mp ho).2)⟩) (fun hno μ2 f2 hp2 a2 => ⟨by decide, fun _ => ?_, fun q => absurd rfl q⟩)
    have hO : ¬ jx_own n t b := fun z => hno (jl_own.mpr ⟨hL, z⟩)
    obtain ⟨w1, w2, w3, w4⟩ := jx_wes t hb
    have wlt := jx_wlt hb hlt hle
    rw [a2]
    have f12 : jd_fm [2] [] μ μ2 := jg_trans f1 f2
    have f3 : jd_fm [2, 21] [] μ (qm_set μ2 13 21 ((jx_st n t b : Nat) : Int)) := jg_f (jg_sub f12 rfl rfl) rfl
    have a3 : (qm_set μ2 13 21 ((jx_st n t b : Nat) : Int)) 13 2 = ((jx_st n t b : Nat) : Int) := by rw [jl_sk _ _ _ (by decide)]; exact a2
    refine jl_from (S := fun i => i - jx_st n t b ≤ 6 → ∀ μ', jd_fm [2, 21] [] μ μ' → μ' 13 21 = ((jx_st n t b : Nat) : Int) → μ' 13 2 = (i : Int) → qm_W (qb_T L) (d + 3) 2415 58 [qm_P 13, qm_L (jd_n27 (fun i => t (jx_st n t b + i) - 96) (i - jx_st n t b)), none] [] μ' (fun v μ' => ∃ r, v = some (.inr (.inl r)) ∧ Q r μ')) (jx_st n t b) (jx_we n t b - jx_st n t b) (fun i h5 h6 ih hle6 μ' hf b2 a2 => ?_) (fun hle6 μ' hf b2 a2 => ?_) (by omega) _ f3 (jl_ss _ _ _ _) a3 |> fun z => by rw [Nat.sub_self] at z; exact z
    · have hbi := hk.2 i (by omega)
      have hdi := w3 i h5 (by omega)
      have ht' : μ' 46 i = t i := by rw [hf.1 46 rfl rfl]; exact h.2.2.2.2.2.2 i (by omega)
      refine b2415_58 μ' _ _ ?_
      rw [a2, hf.2 3 rfl, h.2.1, Int.toNat_natCast, ht']
      refine ⟨by omega, by omega, fun q => absurd q (by omega), fun _ => ⟨by omega, js_2405 (by omega) (fun _ => ⟨by decide, fun q => absurd q (by decide), fun _ => ?_⟩) (fun z => absurd hdi z)⟩⟩
      rw [a2, b2, Int.toNat_natCast, ht']
      refine ⟨by omega, fun y4 => ?_, fun y4 => ⟨by omega, by omega, ?_⟩⟩
      · obtain ⟨_, g2, g3, g4, g5, g6, g7⟩ := h
        have f5 : μ' 13 5 = 0 := by rw [hf.2 5 rfl]; exact g5
        refine b2404_0 μ' _ _ _ ?_
        rw [f5]
        refine ⟨by decide, fun _ => ⟨rfl, _, rfl, H0 ((i : Nat) : Int) _ (jg_f (jg_f (jg_sub hf rfl rfl) rfl) rfl) ⟨⟨i, ?_, by omega⟩, ?_, ?_, by decide, jl_ss _ _ _ _, ?_⟩ (Or.inr ⟨hL, hO, by omega, by omega⟩)⟩, fun q => absurd rfl q⟩
        · rw [jl_sk _ _ _ (by decide), jl_sk _ _ _ (by decide)]; exact a2
        · rw [jl_sk _ _ _ (by decide), jl_sk _ _ _ (by decide), hf.2 3 rfl]; exact g2
        · rw [jl_sk _ _ _ (by decide), jl_ss]
        · rw [jl_sn _ _ _ (by decide), jl_sn _ _ _ (by decide), hf.1 46 rfl rfl]; exact g7
      · have e : 27 * jd_n27 (fun i => t (jx_st n t b + i) - 96) (i - jx_st n t b) + t i - 97 + 1 = jd_n27 (fun i => t (jx_st n t b + i) - 96) (i + 1 - jx_st n t b) := by
          rw [show i + 1 - jx_st n t b = (i - jx_st n t b) + 1 by omega]
          show _ = 27 * jd_n27 (fun i => t (jx_st n t b + i) - 96) (i - jx_st n t b) + (t (jx_st n t b + (i - jx_st n t b)) - 96)
          rw [show jx_st n t b + (i - jx_st n t b) = i by omega]; omega
        rw [e]
        refine ih (by omega) _ (jg_f hf rfl) ?_ (jl_ss _ _ _ _)
        rw [jl_sk _ _ _ (by decide)]; exact b2
    · rw [show jx_st n t b + (jx_we n t b - jx_st n t b) = jx_we n t b by omega] at a2 hle6 ⊢
      have fin : qm_W (qb_T L) (d + 3) 2415 145 [qm_P 13, qm_L (jd_n27 (fun i => t (jx_st n t b + i) - 96) (jx_we n t b - jx_st n t b)), none] [] μ' (fun v μ' => ∃ r, v = some (.inr (.inl r)) ∧ Q r μ') := by
        refine b2415_145 μ' _ _ ?_
        rw [a2]
        have ff : jd_fm [2, 4, 21] [] μ (qm_set μ' 13 4 ((jx_we n t b : Nat) : Int)) := jg_f (jg_sub hf rfl rfl) rfl
        refine ⟨_, rfl, H1 hL hO hle6 _ ff ?_ ?_⟩
        · obtain ⟨g1, g2, g3, g4, g5, g6, g7⟩ := h
          refine ⟨⟨jx_we n t b, ?_, Nat.le_refl _, (jx_sts t w2).1⟩, ?_, fun _ => jl_ss _ _ _ _, fun q => (by cases q), ?_, ?_, ?_⟩
          · rw [jl_sk _ _ _ (by decide)]; exact a2
          · rw [ff.2 3 rfl]; exact g2
          · rw [ff.2 5 rfl]; exact g5
          · rw [ff.2 6 rfl]; exact g6
          · rw [ff.1 46 rfl rfl]; exact g7
        · rw [jl_sk _ _ _ (by decide)]; exact b2
      refine b2415_58 μ' _ _ ?_
      rw [a2, hf.2 3 rfl, h.2.1]
      refine ⟨by omega, by omega, fun _ => fin, fun q => ?_⟩
      have hlt2 : jx_we n t b < n := by omega
      have hbi := hk.2 _ hlt2
      rw [Int.toNat_natCast, hf.1 46 rfl rfl, h.2.2.2.2.2.2 _ hlt2]
      exact ⟨by omega, js_2405 (by omega) (fun z => absurd z (w4 hlt2)) (fun _ => ⟨by decide, fun _ => fin, fun q => absurd rfl q⟩)⟩
  · refine js_2405 (by decide) (fun hle => by unfold jx_le at hle; omega) (fun hle => ⟨by decide, fun _ => bad37 μ1 f1 hp1 a1 (fun z => by have := z.1.1; omega), fun q => absurd rfl q⟩)
theorem js_2415b (h : jm_bad n t k p μ) (H : Q 0 μ) : qm_CL (qb_T L) (d + 1) 2415 [qm_P 13] μ Q := by
  refine b2415_0 μ _ ?_
  rw [h.2.2.1]
  have := h.2.2.2.1
  exact ⟨by omega, fun q => by omega, fun _ => ⟨_, rfl, H⟩⟩
end
