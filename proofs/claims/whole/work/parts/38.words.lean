/-! ===== the class's words told ===== -/
def jx_mt (n : Nat) (t : Nat → Int) (b : Nat) (l : List Nat) : Prop := jx_we n t b = jx_st n t b + l.length ∧ ∀ i, i < l.length → t (jx_st n t b + i) = ((l.getD i 0 : Nat) : Int)
def jx_L12 : List (List Nat) := [qb_tx_1000, qb_tx_1002, qb_tx_1003, qb_tx_1004, qb_tx_1005, qb_tx_1006, qb_tx_1007, qb_tx_1008, qb_tx_1009, qb_tx_1010, qb_tx_1011, qb_tx_1012]
def jx_own (n : Nat) (t : Nat → Int) (b : Nat) : Prop := ∃ l ∈ jx_L12, jx_mt n t b l
def jx_lw (l : List Nat) : Prop := l.length ≤ 6 ∧ 0 < l.length ∧ ∀ i, i < l.length → 97 ≤ l.getD i 0 ∧ l.getD i 0 ≤ 122
theorem jx_lw12 : ∀ l ∈ jx_L12, jx_lw l := by unfold jx_lw; decide
def jx_enc (l : List Nat) : Int := jd_n5 (fun i => ((l.getD i 0 : Nat) : Int) - 96) l.length
def jx_sc : Nat → Int × Int
  | 0 => (0, 0)
  | i + 1 => if qb_tx_1001.getD i 0 = 32 then (0, 0) else (qi_or (jx_sc i).1 (qi_shl (((qb_tx_1001.getD i 0 : Nat) : Int) - 97 + 1) (5 * (jx_sc i).2)), (jx_sc i).2 + 1)
theorem jx_sc1 : ∀ j : Nat, j < 60 → qb_tx_1001.getD j 0 = 32 → ∃ l ∈ jx_L12, jx_sc j = (jx_enc l, (l.length : Int)) := by decide +kernel
theorem jx_sc2 : ∀ l ∈ jx_L12, ∃ j, j < 60 ∧ qb_tx_1001.getD j 0 = 32 ∧ jx_sc j = (jx_enc l, (l.length : Int)) := by
  intro l hl
  have h : ∀ l ∈ jx_L12, (List.range 60).any (fun j => decide (qb_tx_1001.getD j 0 = 32 ∧ jx_sc j = (jx_enc l, (l.length : Int)))) = true := by decide +kernel
  obtain ⟨j, h1, h2⟩ := List.any_eq_true.mp (h l hl)
  exact ⟨j, List.mem_range.mp h1, of_decide_eq_true h2⟩
theorem jx_scb : ∀ i : Nat, i < 61 → (0 ≤ (jx_sc i).1 ∧ (jx_sc i).1 < 2147483648) ∧ (0 ≤ (jx_sc i).2 ∧ (jx_sc i).2 ≤ 10) := by decide +kernel
section
variable {L d n : Nat} {t : Nat → Int} {b : Nat} {m : Bool} {μ : qm_M} {Q : Int → qm_M → Prop} {V : qm_M → Prop}
theorem jx_stb (hb : b ≤ n) : b ≤ jx_st n t b ∧ jx_st n t b ≤ n := ⟨(jx_sts t hb).1, (jx_sts t hb).2.1⟩
theorem jx_ff (hb : b ≤ n) : ∀ i, i < jx_we n t b - jx_st n t b → 0 ≤ t (jx_st n t b + i) - 96 ∧ t (jx_st n t b + i) - 96 < 32 := fun i hi => by
  have := (jx_wes t hb).2.2.1 (jx_st n t b + i) (by omega) (by omega)
  unfold jx_le at this; omega
/-- kinds -/
theorem jl_tokL (hx : jc_tok n t b m μ) (h : jx_isL n t b m) : μ 2 1 = 1 ∧ μ 2 2 = ((jx_we n t b - jx_st n t b : Nat) : Int) ∧ μ 2 3 = ((jx_we n t b : Nat) : Int) ∧ μ 2 5 = jd_n5 (fun i => t (jx_st n t b + i) - 96) (min (jx_we n t b - jx_st n t b) 6) := by
  obtain ⟨h1, h2, h3⟩ := h
  rcases hx.2 with y | ⟨y1, y2, y3, y4⟩ | ⟨y1, y2, y3, y4⟩ | y
  · omega
  · refine ⟨?_, y4⟩
    rw [y3]; unfold jx_kd; rw [if_neg h3]
  · unfold jx_le at h2; unfold jx_di at y2; omega
  · exact absurd h2 y.2.1
theorem jl_tokN (hx : jc_tok n t b m μ) (h : jx_isN n t b m) : μ 2 1 = 2 ∧ μ 2 2 = ((jx_de n t b - jx_st n t b : Nat) : Int) ∧ μ 2 3 = ((jx_de n t b : Nat) : Int) ∧ μ 2 5 = jd_n10 (fun i => t (jx_st n t b + i) - 48) (min (jx_de n t b - jx_st n t b) 4) := by
  obtain ⟨h1, h2, h3⟩ := h
  rcases hx.2 with y | ⟨y1, y2, y3, y4⟩ | ⟨y1, y2, y3, y4⟩ | y
  · omega
  · unfold jx_le at y2; unfold jx_di at h2; omega
  · refine ⟨?_, y4⟩
    rw [y3]; unfold jx_kd; rw [if_neg h3]
  · exact absurd h2 y.2.2.1
theorem jl_tokM (hx : jc_tok n t b m μ) (h1 : jx_st n t b < n) (h2 : ¬ jx_le (t (jx_st n t b))) (h3 : ¬ jx_di (t (jx_st n t b))) : μ 2 1 = 3 ∧ μ 2 2 = 1 ∧ μ 2 3 = ((jx_st n t b + 1 : Nat) : Int) ∧ μ 2 5 = t (jx_st n t b) := by
  rcases hx.2 with y | ⟨y1, y2, y3, y4⟩ | ⟨y1, y2, y3, y4⟩ | y
  · omega
  · exact absurd y2 h2
  · exact absurd y2 h3
  · exact y.2.2.2
theorem jl_tokk (hx : jc_tok n t b m μ) : (0 ≤ μ 2 1 ∧ μ 2 1 ≤ 4) ∧ (μ 2 1 = 1 → jx_isL n t b m) ∧ (μ 2 1 = 2 → jx_isN n t b m) ∧ (μ 2 1 = 3 → jx_st n t b < n ∧ ¬ jx_le (t (jx_st n t b)) ∧ ¬ jx_di (t (jx_st n t b))) ∧ (μ 2 1 = 0 ↔ jx_st n t b = n) := by
  rcases hx.2 with ⟨y1, y2, y3⟩ | ⟨y1, y2, y3, y4⟩ | ⟨y1, y2, y3, y4⟩ | ⟨y1, y2, y3, y4, y5⟩
  · exact ⟨by omega, fun q => by omega, fun q => by omega, fun q => by omega, fun _ => y1, fun _ => y2⟩
  · by_cases q : jx_tn n t b m
    · have e : μ 2 1 = 4 := by rw [y3]; unfold jx_kd; rw [if_pos q]
      exact ⟨by omega, fun q => by omega, fun q => by omega, fun q => by omega, fun q => by omega, fun q => by omega⟩
    · have e : μ 2 1 = 1 := by rw [y3]; unfold jx_kd; rw [if_neg q]
      exact ⟨by omega, fun _ => ⟨y1, y2, q⟩, fun q => by omega, fun q => by omega, fun q => by omega, fun q => by omega⟩
  · by_cases q : jx_tn n t b m
    · have e : μ 2 1 = 4 := by rw [y3]; unfold jx_kd; rw [if_pos q]
      exact ⟨by omega, fun q => by omega, fun q => by omega, fun q => by omega, fun q => by omega, fun q => by omega⟩
    · have e : μ 2 1 = 2 := by rw [y3]; unfold jx_kd; rw [if_neg q]
      exact ⟨by omega, fun q => by omega, fun _ => ⟨y1, y2, q⟩, fun q => by omega, fun q => by omega, fun q => by omega⟩
  · exact ⟨by omega, fun q => by omega, fun q => by omega, fun _ => ⟨y1, y2, y3⟩, fun q => by omega, fun q => by omega⟩
/-! steps -/
theorem js_stepL (hT : jc_tape n t μ) (hk : jd_tok n t) (hb : b ≤ n) (hx : jc_tok n t b m μ) (h : jx_isL n t b m) (H : ∀ μ', jd_f2 μ μ' → jc_tok n t (jx_we n t b) true μ' → V μ') : qm_CV (qb_T L) (d + 1) 2002 [qm_P 2] μ V := by
  obtain ⟨e1, e2, e3, e4⟩ := jl_tokL hx h
  exact js_2002 hT hk (jx_wes t hb).2.1 e3 (by omega) ⟨fun _ => Or.inl e1, fun _ => rfl⟩ H
theorem js_stepN (hT : jc_tape n t μ) (hk : jd_tok n t) (hb : b ≤ n) (hx : jc_tok n t b m μ) (h : jx_isN n t b m) (H : ∀ μ', jd_f2 μ μ' → jc_tok n t (jx_de n t b) true μ' → V μ') : qm_CV (qb_T L) (d + 1) 2002 [qm_P 2] μ V := by
  obtain ⟨e1, e2, e3, e4⟩ := jl_tokN hx h
  exact js_2002 hT hk (jx_des t hb).2.1 e3 (by omega) ⟨fun _ => Or.inr e1, fun _ => rfl⟩ H
theorem js_stepM (hT : jc_tape n t μ) (hk : jd_tok n t) (hb : b ≤ n) (hx : jc_tok n t b m μ) (h1 : jx_st n t b < n) (h2 : ¬ jx_le (t (jx_st n t b))) (h3 : ¬ jx_di (t (jx_st n t b))) (H : ∀ μ', jd_f2 μ μ' → jc_tok n t (jx_st n t b + 1) false μ' → V μ') : qm_CV (qb_T L) (d + 1) 2002 [qm_P 2] μ V := by
  obtain ⟨e1, e2, e3, e4⟩ := jl_tokM hx h1 h2 h3
  exact js_2002 hT hk (by omega) e3 (by omega) ⟨fun q => (by cases q), fun q => by omega⟩ H
theorem js_2001 (hT : jc_tape n t μ) (hk : jd_tok n t) (H : ∀ μ', jd_fr [2] μ μ' → μ' 2 6 = 0 → μ' 2 7 = -1 → jc_tok n t 0 false μ' → V μ') : qm_CV (qb_T L) (d + 2) 2001 [qm_P 2] μ V := by
  refine b2001_0 μ _ ?_
  have f0 : jd_fr [2] μ (qm_set (qm_set (qm_set (qm_set μ 2 6 0) 2 7 (-1)) 2 1 0) 2 3 0) := jf_set (jf_set (jf_set (jf_set (jf_refl _ _) rfl) rfl) rfl) rfl
  have g6 : (qm_set (qm_set (qm_set (qm_set μ 2 6 0) 2 7 (-1)) 2 1 0) 2 3 0) 2 6 = 0 := by rw [jl_sk _ _ _ (by decide), jl_sk _ _ _ (by decide), jl_sk _ _ _ (by decide), jl_ss]
  have g7 : (qm_set (qm_set (qm_set (qm_set μ 2 6 0) 2 7 (-1)) 2 1 0) 2 3 0) 2 7 = -1 := by rw [jl_sk _ _ _ (by decide), jl_sk _ _ _ (by decide), jl_ss]
  have g1 : (qm_set (qm_set (qm_set (qm_set μ 2 6 0) 2 7 (-1)) 2 1 0) 2 3 0) 2 1 = 0 := by rw [jl_sk _ _ _ (by decide), jl_ss]
  have g3 : (qm_set (qm_set (qm_set (qm_set μ 2 6 0) 2 7 (-1)) 2 1 0) 2 3 0) 2 3 = ((0 : Nat) : Int) := jl_ss _ _ _ _
  generalize qm_set (qm_set (qm_set (qm_set μ 2 6 0) 2 7 (-1)) 2 1 0) 2 3 0 = μ1 at *
  refine js_2002 (b := 0) (m := false) (jl_tfr hT (f0 1 rfl) (f0 14 rfl)) hk (Nat.zero_le _) g3 (by omega) ⟨fun q => (by cases q), fun q => by omega⟩ fun μ' f2 hx => ⟨rfl, H μ' (jf_trans f0 f2.1) (f2.2.1.trans g6) (f2.2.2.trans g7) hx⟩
/-! what is here -/
theorem js_2009 {a : Nat} {l : List Nat} (h1 : qm_txt (qb_T L) a = some l) (hl : jx_lw l) (hk : jd_tok n t) (hb : b ≤ n) (hx : jc_tok n t b m μ) (H1 : jx_isW n t b m l → Q 1 μ) (H0 : ¬ jx_isW n t b m l → Q 0 μ) : qm_CI (qb_T L) (d + 1) 2009 [qm_P 2, qm_P a] μ Q := by
  have hk2 := jl_tokk hx
  have hn := hk.1
  obtain ⟨w1, w2, w3, w4⟩ := jx_wes t hb
  refine b2009_0 h1 μ _ ⟨by omega, fun y => ?_, fun y => ⟨_, rfl, H0 fun z => y (jl_tokL hx z.1).1⟩⟩
  have hL := hk2.2.1 y
  obtain ⟨e1, e2, e3, e4⟩ := jl_tokL hx hL
  have hl1 := hl.1
  rw [e2]
  refine ⟨by omega, by omega, fun y2 => ?_, fun y2 => ⟨_, rfl, H0 fun z => y2 (by have := z.2.1; omega)⟩⟩
  have hff := jx_ff (t := t) hb
  have hlen : jx_we n t b - jx_st n t b = l.length := by omega
  rw [show min (jx_we n t b - jx_st n t b) 6 = l.length by omega] at e4
  rw [hlen] at hff
  have hv := jl_n5b l.length (f := fun i => t (jx_st n t b + i) - 96) hff
  have hvd := jl_n5d l.length (f := fun i => t (jx_st n t b + i) - 96) hff
  have hp : ((2 ^ (5 * l.length) : Nat) : Int) ≤ 1073741824 := by
    have : 2 ^ (5 * l.length) ≤ 2 ^ 30 := Nat.pow_le_pow_right (by decide) (by omega)
    omega
  refine jl_loop (S := fun i => (∀ j, j < i → t (jx_st n t b + j) = ((l.getD j 0 : Nat) : Int)) → qm_W (qb_T L) (d + 1) 2009 23 [qm_P 2, qm_P a, qm_I ((i : Nat) : Int)] [] μ (fun v μ' => ∃ r, v = some (.inl r) ∧ Q r μ')) l.length (fun i hi ih hj => ?_) (fun hj => ?_) (fun j hj => absurd hj (by omega))
  · have hli := hl.2.2 i hi
    have hfi := hff i hi
    refine b2009_23 h1 μ _ _ ?_
    rw [e4, show (5 : Int) * ((i : Nat) : Int) = ((5 * i : Nat) : Int) by omega, qa_and31, qa_shr (by omega) (by omega), hvd i, if_pos hi, Int.toNat_natCast]
    refine ⟨by omega, by omega, fun q => absurd q (by omega), fun _ => ⟨by omega, by omega, by omega, fun y3 => ih fun j hj2 => ?_, fun y3 => ⟨_, rfl, H0 fun z => y3 ?_⟩⟩⟩
    · by_cases q : j = i
      · rw [q]; omega
      · exact hj j (by omega)
    · have := z.2.2 i hi; omega
  · exact b2009_23 h1 μ _ _ ⟨by omega, by omega, fun _ => ⟨_, rfl, H1 ⟨hL, by omega, hj⟩⟩, fun q => absurd (Int.le_refl _) q⟩
theorem js_2008 {c : Int} (hc : -1 ≤ c ∧ c < 1000) (hc2 : ¬ jx_le c ∧ ¬ jx_di c) (hk : jd_tok n t) (hx : jc_tok n t b m μ) (H1 : jx_isM n t b c → Q 1 μ) (H0 : ¬ jx_isM n t b c → Q 0 μ) : qm_CI (qb_T L) d 2008 [qm_P 2, qm_I c] μ Q := by
  have hk2 := jl_tokk hx
  refine b2008_0 μ _ _ ⟨by omega, fun y => ?_, fun y => ⟨_, rfl, H0 fun z => ?_⟩⟩
  · obtain ⟨z1, z2, z3⟩ := hk2.2.2.2.1 y
    have hM := jl_tokM hx z1 z2 z3
    have hb2 := hk.2 _ z1
    rw [hM.2.2.2]
    exact ⟨by omega, by omega, fun q => ⟨_, rfl, H1 ⟨z1, q⟩⟩, fun q => ⟨_, rfl, H0 fun w => q w.2⟩⟩
  · have hM := jl_tokM hx z.1 (by rw [z.2]; exact hc2.1) (by rw [z.2]; exact hc2.2)
    exact y hM.1
theorem js_2007 (hx : jc_tok n t b m μ) (H1 : jx_st n t b = n → Q 1 μ) (H0 : jx_st n t b ≠ n → Q 0 μ) : qm_CI (qb_T L) d 2007 [qm_P 2] μ Q := by
  have hk2 := jl_tokk hx
  exact b2007_0 μ _ ⟨by omega, fun y => ⟨_, rfl, H1 (hk2.2.2.2.2.mp y)⟩, fun y => ⟨_, rfl, H0 fun z => y (hk2.2.2.2.2.mpr z)⟩⟩
theorem js_2012 (hx : jc_tok n t b m μ) (H1 : jx_isN n t b m → Q 1 μ) (H0 : ¬ jx_isN n t b m → Q 0 μ) : qm_CI (qb_T L) d 2012 [qm_P 2] μ Q := by
  have hk2 := jl_tokk hx
  exact b2012_0 μ _ ⟨by omega, fun y => ⟨_, rfl, H1 (hk2.2.2.1 y)⟩, fun y => ⟨_, rfl, H0 fun z => y (jl_tokN hx z).1⟩⟩
theorem jl_mte (hb : b ≤ n) {l : List Nat} (hl : jx_lw l) : jx_mt n t b l ↔ (jx_we n t b - jx_st n t b = l.length ∧ jd_n5 (fun i => t (jx_st n t b + i) - 96) (min (jx_we n t b - jx_st n t b) 6) = jx_enc l) := by
  obtain ⟨w1, w2, w3, w4⟩ := jx_wes t hb
  have hff := jx_ff (t := t) hb
  have hl1 := hl.1
  have hg : ∀ i, i < l.length → 0 ≤ ((l.getD i 0 : Nat) : Int) - 96 ∧ ((l.getD i 0 : Nat) : Int) - 96 < 32 := fun i hi => by
    have := hl.2.2 i hi; omega
  constructor
  · rintro ⟨z1, z2⟩
    have hlen : jx_we n t b - jx_st n t b = l.length := by omega
    refine ⟨hlen, ?_⟩
    rw [show min (jx_we n t b - jx_st n t b) 6 = l.length by omega]
    unfold jx_enc
    have : ∀ k, k ≤ l.length → jd_n5 (fun i => t (jx_st n t b + i) - 96) k = jd_n5 (fun i => ((l.getD i 0 : Nat) : Int) - 96) k := by
      intro k
      induction k with
      | zero => intro _; rfl
      | succ k ih =>
        intro hk
        show jd_n5 _ k + (t (jx_st n t b + k) - 96) * _ = jd_n5 _ k + (((l.getD k 0 : Nat) : Int) - 96) * _
        rw [ih (by omega), z2 k (by omega)]
    exact this _ (Nat.le_refl _)
  · rintro ⟨z1, z2⟩
    rw [show min (jx_we n t b - jx_st n t b) 6 = l.length by omega] at z2
    unfold jx_enc at z2
    refine ⟨by omega, fun i hi => ?_⟩
    have h1 := jl_n5d l.length (f := fun i => t (jx_st n t b + i) - 96) (by rw [← z1]; exact hff) i
    have h2 := jl_n5d l.length (f := fun i => ((l.getD i 0 : Nat) : Int) - 96) hg i
    rw [z2, h2, if_pos hi, if_pos hi] at h1
    omega
theorem js_2010 (hk : jd_tok n t) (hb : b ≤ n) (h2 : μ 2 2 = ((jx_we n t b - jx_st n t b : Nat) : Int)) (h5 : μ 2 5 = jd_n5 (fun i => t (jx_st n t b + i) - 96) (min (jx_we n t b - jx_st n t b) 6)) (H1 : jx_own n t b → Q 1 μ) (H0 : ¬ jx_own n t b → Q 0 μ) : qm_CI (qb_T L) (d + 1) 2010 [qm_P 2] μ Q := by
  have hn := hk.1
  have hff := jx_ff (t := t) hb
  obtain ⟨w1, w2, w3, w4⟩ := jx_wes t hb
  have hv := jl_n5b (min (jx_we n t b - jx_st n t b) 6) (f := fun i => t (jx_st n t b + i) - 96) (fun i hi => hff i (by omega))
  have hp : ((2 ^ (5 * min (jx_we n t b - jx_st n t b) 6) : Nat) : Int) ≤ 1073741824 := by
    have : 2 ^ (5 * min (jx_we n t b - jx_st n t b) 6) ≤ 2 ^ 30 := Nat.pow_le_pow_right (by decide) (by omega)
    omega
  have hmt : ∀ l ∈ jx_L12, (jx_mt n t b l ↔ (((jx_we n t b - jx_st n t b : Nat) : Int) = (l.length : Int) ∧ μ 2 5 = jx_enc l)) := fun l hl => by
    rw [jl_mte hb (jx_lw12 l hl), h5]
    constructor
    · rintro ⟨a, b⟩; exact ⟨by omega, b⟩
    · rintro ⟨a, b⟩; exact ⟨by omega, b⟩
  refine b2010_0 μ _ ?_
  have hlen : qb_tx_1001.length = 60 := by decide
  have htx : ∀ i : Nat, i < 60 → ((qb_tx_1001.getD i 0 : Nat) : Int) ≤ 200 := by decide
  refine jl_loop (S := fun i => (∀ j, j < i → qb_tx_1001.getD j 0 = 32 → ¬ (jx_sc j = (μ 2 5, μ 2 2))) → qm_W (qb_T L) (d + 1) 2010 6 [qm_P 2, qm_I (jx_sc i).1, qm_I (jx_sc i).2, qm_I ((i : Nat) : Int)] [] μ (fun v μ' => ∃ r, v = some (.inl r) ∧ Q r μ')) 60 (fun i hi ih hj => ?_) (fun hj => ?_) (fun j hj => absurd hj (by omega))
  · have hb1 := jx_scb i (by omega)
    have ht := htx i hi
    refine b2010_6 μ _ _ _ _ ?_
    rw [Int.toNat_natCast]
    have nx : (qb_tx_1001.getD i 0 = 32 → ¬ (jx_sc i = (μ 2 5, μ 2 2))) → ∀ w k, (w, k) = jx_sc (i + 1) → qm_W (qb_T L) (d + 1) 2010 72 [qm_P 2, qm_I w, qm_I k, qm_I ((i : Nat) : Int)] [] μ (fun v μ' => ∃ r, v = some (.inl r) ∧ Q r μ') := fun hno w k hwk => by
      have ih' := ih fun j hj1 hj2 => by
        by_cases q : j = i
        · rw [q] at hj2 ⊢; exact hno hj2
        · exact hj j (by omega) hj2
      rw [← hwk] at ih'
      exact b2010_72 μ _ _ _ _ ih'
    refine ⟨by omega, fun q => absurd q (by omega), fun _ => ⟨by omega, by omega, fun y => ?_, fun y => ⟨by omega, nx (fun z => absurd (by omega) y) _ _ ?_⟩⟩⟩
    · have h32 : qb_tx_1001.getD i 0 = 32 := by omega
      have e : jx_sc (i + 1) = (0, 0) := by
        show (if qb_tx_1001.getD i 0 = 32 then (0, 0) else _) = (0, 0)
        rw [if_pos h32]
      obtain ⟨l, hl, hsc⟩ := jx_sc1 i hi h32
      refine ⟨by omega, by omega, fun y2 => ⟨by omega, by omega, fun y3 => ⟨_, rfl, H1 ⟨l, hl, (hmt l hl).mpr ?_⟩⟩, fun y3 => b2010_68 μ _ _ _ _ (nx (fun _ z => y3 (by rw [z])) _ _ e.symm)⟩, fun y2 => b2010_68 μ _ _ _ _ (nx (fun _ z => y2 (by rw [z])) _ _ e.symm)⟩
      rw [hsc] at y2 y3
      rw [← h2]
      exact ⟨y2.symm, y3.symm⟩
    · have e : jx_sc (i + 1) = (qi_or (jx_sc i).1 (qi_shl (((qb_tx_1001.getD i 0 : Nat) : Int) - 97 + 1) (5 * (jx_sc i).2)), (jx_sc i).2 + 1) := by
        show (if qb_tx_1001.getD i 0 = 32 then (0, 0) else _) = _
        rw [if_neg (by omega)]
      exact e.symm
  · refine b2010_6 μ _ _ _ _ ⟨by decide, fun _ => ⟨_, rfl, H0 ?_⟩, fun q => absurd (by decide) q⟩
    rintro ⟨l, hl, hml⟩
    obtain ⟨j, j1, j2, j3⟩ := jx_sc2 l hl
    refine hj j j1 j2 ?_
    rw [j3, ((hmt l hl).mp hml).2, h2, ((hmt l hl).mp hml).1]
theorem js_2011 (hk : jd_tok n t) (hb : b ≤ n) (hx : jc_tok n t b m μ) (H1 : jx_isL n t b m → ¬ jx_own n t b → Q 1 μ) (H0 : ¬ (jx_isL n t b m ∧ ¬ jx_own n t b) → Q 0 μ) : qm_CI (qb_T L) (d + 2) 2011 [qm_P 2] μ Q := by
  have hk2 := jl_tokk hx
  refine b2011_0 μ _ ⟨by omega, fun y => ?_, fun y => ⟨_, rfl, H0 fun z => y (jl_tokL hx z.1).1⟩⟩
  have hL := hk2.2.1 y
  obtain ⟨e1, e2, e3, e4⟩ := jl_tokL hx hL
  exact js_2010 hk hb e2 e4 (fun ho => ⟨by decide, fun q => absurd q (by decide), fun _ => ⟨_, rfl, H0 fun z => z.2 ho⟩⟩) (fun ho => ⟨by decide, fun _ => ⟨_, rfl, H1 hL ho⟩, fun q => absurd rfl q⟩)
/-! faults -/
theorem js_2005 {k p : Int} (h : μ 2 6 = 0) (H : ∀ μ', jd_fr [2] μ μ' → μ' 2 6 = k → μ' 2 7 = p → Q 0 μ') : qm_CI (qb_T L) d 2005 [qm_P 2, qm_I k, qm_I p] μ Q := by
  refine b2005_0 μ _ _ _ ?_
  rw [h]
  refine ⟨by decide, fun _ => ⟨_, rfl, H _ (jf_set (jf_set (jf_refl _ _) rfl) rfl) ?_ (jl_ss _ _ _ _)⟩, fun q => absurd rfl q⟩
  rw [jl_sk _ _ _ (by decide), jl_ss]
theorem js_2006 {k : Int} (h : μ 2 6 = 0) (hx : jc_tok n t b m μ) (H : ∀ μ', jd_fr [2] μ μ' → μ' 2 6 = k → μ' 2 7 = ((jx_st n t b : Nat) : Int) → Q 0 μ') : qm_CI (qb_T L) d 2006 [qm_P 2, qm_I k] μ Q := by
  refine b2006_0 μ _ _ ?_
  rw [h, hx.1]
  refine ⟨by decide, fun _ => ⟨_, rfl, H _ (jf_set (jf_set (jf_refl _ _) rfl) rfl) ?_ (jl_ss _ _ _ _)⟩, fun q => absurd rfl q⟩
  rw [jl_sk _ _ _ (by decide), jl_ss]
theorem js_2013 (h : μ 2 6 = 0) (hk : jd_tok n t) (hb : b ≤ n) (hx : jc_tok n t b m μ) (H1 : jx_isL n t b m → ¬ jx_own n t b → jx_we n t b - jx_st n t b ≤ 6 → Q 1 μ) (H0 : ∀ μ', jd_fr [2] μ μ' → μ' 2 6 = 1 → ((¬ (jx_isL n t b m ∧ ¬ jx_own n t b) ∧ μ' 2 7 = ((jx_st n t b : Nat) : Int)) ∨ (jx_isL n t b m ∧ ¬ jx_own n t b ∧ ¬ jx_we n t b - jx_st n t b ≤ 6 ∧ μ' 2 7 = ((jx_st n t b + 6 : Nat) : Int))) → Q 0 μ') : qm_CI (qb_T L) (d + 2) 2013 [qm_P 2] μ Q := by
  have hk2 := jl_tokk hx
  have hn := hk.1
  obtain ⟨w1, w2, w3, w4⟩ := jx_wes t hb
  have bad : ¬ (jx_isL n t b m ∧ ¬ jx_own n t b) → qm_W (qb_T L) (d + 2) 2013 15 [qm_P 2] [] μ (fun v μ' => ∃ r, v = some (.inl r) ∧ Q r μ') := fun z => b2013_15 μ _ (js_2006 h hx fun μ' f a1 a2 => ⟨Or.inl rfl, _, rfl, H0 μ' f a1 (Or.inl ⟨z, a2⟩)⟩)
  refine b2013_0 μ _ ⟨by omega, fun y => ?_, fun y => bad fun z => y (jl_tokL hx z.1).1⟩
  have hL := hk2.2.1 y
  obtain ⟨e1, e2, e3, e4⟩ := jl_tokL hx hL
  refine js_2010 hk hb e2 e4 (fun ho => ⟨by decide, fun q => absurd q (by decide), fun _ => bad fun z => z.2 ho⟩) (fun ho => ⟨by decide, fun _ => ?_, fun q => absurd rfl q⟩)
  rw [e2, hx.1]
  refine ⟨by omega, fun y2 => b2013_45 μ _ ⟨_, rfl, H1 hL ho (by omega)⟩, fun y2 => js_2005 h fun μ' f a1 a2 => ⟨by decide, fun _ => ⟨_, rfl, H0 μ' f a1 (Or.inr ⟨hL, ho, by omega, by rw [a2]; rfl⟩)⟩, fun q => absurd rfl q⟩⟩
theorem js_2014 (h : μ 2 6 = 0) (hk : jd_tok n t) (hb : b ≤ n) (hx : jc_tok n t b m μ) (H1 : jx_isN n t b m → jx_de n t b - jx_st n t b ≤ 4 → Q 1 μ) (H0 : ∀ μ', jd_fr [2] μ μ' → μ' 2 6 = 1 → ((¬ jx_isN n t b m ∧ μ' 2 7 = ((jx_st n t b : Nat) : Int)) ∨ (jx_isN n t b m ∧ ¬ jx_de n t b - jx_st n t b ≤ 4 ∧ μ' 2 7 = ((jx_st n t b + 4 : Nat) : Int))) → Q 0 μ') : qm_CI (qb_T L) (d + 1) 2014 [qm_P 2] μ Q := by
  have hk2 := jl_tokk hx
  have hn := hk.1
  obtain ⟨w1, w2, w3, w4⟩ := jx_des t hb
  refine b2014_0 μ _ ⟨by omega, fun y => ?_, fun y => js_2006 h hx fun μ' f a1 a2 => ⟨Or.inl rfl, _, rfl, H0 μ' f a1 (Or.inl ⟨fun z => y (jl_tokN hx z).1, a2⟩)⟩⟩
  have hN := hk2.2.2.1 y
  obtain ⟨e1, e2, e3, e4⟩ := jl_tokN hx hN
  rw [e2, hx.1]
  refine ⟨by omega, fun y2 => b2014_36 μ _ ⟨_, rfl, H1 hN (by omega)⟩, fun y2 => js_2005 h fun μ' f a1 a2 => ⟨by decide, fun _ => ⟨_, rfl, H0 μ' f a1 (Or.inr ⟨hN, by omega, by rw [a2]; rfl⟩)⟩, fun q => absurd rfl q⟩⟩
theorem js_2015 {c : Int} (hc : -1 ≤ c ∧ c < 1000) (hc2 : ¬ jx_le c ∧ ¬ jx_di c) (h : μ 2 6 = 0) (hT : jc_tape n t μ) (hk : jd_tok n t) (hb : b ≤ n) (hx : jc_tok n t b m μ) (H1 : jx_isM n t b c → ∀ μ', jd_f2 μ μ' → jc_tok n t (jx_st n t b + 1) false μ' → Q 1 μ') (H0 : ¬ jx_isM n t b c → ∀ μ', jd_fr [2] μ μ' → μ' 2 6 = 1 → μ' 2 7 = ((jx_st n t b : Nat) : Int) → Q 0 μ') : qm_CI (qb_T L) (d + 2) 2015 [qm_P 2, qm_I c] μ Q := by
  refine b2015_0 μ _ _ (js_2008 hc hc2 hk hx (fun y => ⟨by decide, fun q => absurd q (by decide), fun _ => ?_⟩) (fun y => ⟨by decide, fun _ => js_2006 h hx fun μ' f a1 a2 => ⟨Or.inl rfl, _, rfl, H0 y μ' f a1 a2⟩, fun q => absurd rfl q⟩))
  exact js_stepM hT hk hb hx y.1 (by rw [y.2]; exact hc2.1) (by rw [y.2]; exact hc2.2) fun μ' f hx' => ⟨_, rfl, H1 y μ' f hx'⟩
theorem js_2016 {a : Nat} {l : List Nat} (h1 : qm_txt (qb_T L) a = some l) (hl : jx_lw l) (h : μ 2 6 = 0) (hT : jc_tape n t μ) (hk : jd_tok n t) (hb : b ≤ n) (hx : jc_tok n t b m μ) (H1 : jx_isW n t b m l → ∀ μ', jd_f2 μ μ' → jc_tok n t (jx_we n t b) true μ' → Q 1 μ') (H0 : ¬ jx_isW n t b m l → ∀ μ', jd_fr [2] μ μ' → μ' 2 6 = 1 → μ' 2 7 = ((jx_st n t b : Nat) : Int) → Q 0 μ') : qm_CI (qb_T L) (d + 2) 2016 [qm_P 2, qm_P a] μ Q := by
  refine b2016_0 h1 μ _ (js_2009 h1 hl hk hb hx (fun y => ⟨by decide, fun q => absurd q (by decide), fun _ => ?_⟩) (fun y => ⟨by decide, fun _ => js_2006 h hx fun μ' f a1 a2 => ⟨Or.inl rfl, _, rfl, H0 y μ' f a1 a2⟩, fun q => absurd rfl q⟩))
  exact js_stepL hT hk hb hx y.1 fun μ' f hx' => ⟨_, rfl, H1 y μ' f hx'⟩
end
