/-! ===== the reference's words ===== -/
def jm_wd (a : Nat) (l : List Nat) (μ : qm_M) : Prop := ∀ i, i < l.length → μ a i = ((l.getD i 0 : Nat) : Int)
/-- where the reference keeps its words -/
def jx_TW : List (Nat × List Nat) := [(47, qb_tx_1000), (48, qb_tx_1002), (49, qb_tx_1003), (50, qb_tx_1004), (51, qb_tx_1005), (52, qb_tx_1006), (53, qb_tx_1007), (54, qb_tx_1008), (55, qb_tx_1009), (56, qb_tx_1010), (57, qb_tx_1011), (58, qb_tx_1012), (72, qb_tx_1013), (73, qb_tx_1014), (74, qb_tx_1015), (75, qb_tx_1016), (76, qb_tx_1017), (77, qb_tx_1018), (78, qb_tx_1020), (79, qb_tx_1030), (80, qb_tx_1031), (81, qb_tx_1019), (82, qb_tx_1024), (83, qb_tx_1025), (84, qb_tx_1021), (85, qb_tx_1022), (86, qb_tx_1023), (87, qb_tx_1026), (88, qb_tx_1027), (89, qb_tx_1028), (90, qb_tx_1029)]
def jm_cst (μ : qm_M) : Prop := ∀ e ∈ jx_TW, jm_wd e.1 e.2 μ
theorem jm_cstf {fs l : List Nat} {μ μ' : qm_M} (h : jm_cst μ) (hf : jd_fm fs l μ μ') (hl : jx_TW.all (fun e => !l.contains e.1 && !Nat.beq e.1 13) = true) : jm_cst μ' := fun e he i hi => by
  have h1 := List.all_eq_true.mp hl e he
  rw [Bool.and_eq_true] at h1
  have h2 : l.contains e.1 = false := by cases q : l.contains e.1 with
    | false => rfl
    | true => rw [q] at h1; exact absurd h1.1 (by decide)
  have h3 : Nat.beq e.1 13 = false := by cases q : Nat.beq e.1 13 with
    | false => rfl
    | true => rw [q] at h1; exact absurd h1.2 (by decide)
  rw [hf.1 e.1 h3 h2]; exact h e he i hi
theorem jx_lwT : ∀ e ∈ jx_TW, jx_lw e.2 ∧ e.2.length < 100 := by unfold jx_lw; decide
/-- the reference's place in a text: b the end of the last word (m) or mark -/
def jm_pos (n : Nat) (t : Nat → Int) (b : Nat) (m : Bool) (μ : qm_M) : Prop := (∃ a : Nat, μ 13 2 = (a : Int) ∧ b ≤ a ∧ a ≤ jx_st n t b) ∧ μ 13 3 = (n : Int) ∧ (m = true → μ 13 4 = (b : Int)) ∧ (m = false → -1 ≤ μ 13 4 ∧ μ 13 4 < (b : Int)) ∧ μ 13 5 = 0 ∧ μ 13 6 = -1 ∧ ∀ i, i < n → μ 46 i = t i
def jm_bad (n : Nat) (t : Nat → Int) (k p : Int) (μ : qm_M) : Prop := (∃ a : Nat, μ 13 2 = (a : Int) ∧ a ≤ n) ∧ μ 13 3 = (n : Int) ∧ μ 13 5 = k ∧ (1 ≤ k ∧ k ≤ 5) ∧ μ 13 6 = p ∧ ∀ i, i < n → μ 46 i = t i
def jd_n27 (f : Nat → Int) : Nat → Int
  | 0 => 0
  | k + 1 => 27 * jd_n27 f k + f k
theorem jl_n27b {f : Nat → Int} : ∀ k : Nat, (∀ i, i < k → 0 ≤ f i ∧ f i ≤ 26) → 0 ≤ jd_n27 f k ∧ jd_n27 f k < ((27 ^ k : Nat) : Int)
  | 0, _ => ⟨Int.le_refl 0, by show (0 : Int) < ((27 ^ 0 : Nat) : Int); decide⟩
  | k + 1, h => by
    have ih := jl_n27b k (fun c hc => h c (by omega))
    have hu := h k (by omega)
    have e : jd_n27 f (k + 1) = 27 * jd_n27 f k + f k := rfl
    rw [e, Nat.pow_succ, Int.natCast_mul]
    generalize ((27 ^ k : Nat) : Int) = P at *
    show 0 ≤ 27 * jd_n27 f k + f k ∧ 27 * jd_n27 f k + f k < P * 27
    omega
section
variable {L d n : Nat} {t : Nat → Int} {b : Nat} {m : Bool} {μ : qm_M} {Q : Int → qm_M → Prop} {V : qm_M → Prop} {k p : Int}
theorem js_2404 (h : jm_pos n t b m μ) (hk : 1 ≤ k ∧ k ≤ 5) (hb : b ≤ n) (H : ∀ μ', jd_fm [5, 6] [] μ μ' → jm_bad n t k p μ' → V μ') : qm_CV (qb_T L) d 2404 [qm_P 13, qm_I k, qm_I p] μ V := by
  obtain ⟨⟨a, a1, a2, a3⟩, h2, h3, h4, h5, h6, h7⟩ := h
  have hst := jx_stb (t := t) hb
  refine b2404_0 μ _ _ _ ?_
  rw [h5]
  refine ⟨by decide, fun _ => ⟨rfl, H _ (jg_f (jg_f (jg_refl _ _ _) rfl) rfl) ⟨⟨a, ?_, by omega⟩, ?_, ?_, hk, jl_ss _ _ _ _, ?_⟩⟩, fun q => absurd rfl q⟩
  · rw [jl_sk _ _ _ (by decide), jl_sk _ _ _ (by decide)]; exact a1
  · rw [jl_sk _ _ _ (by decide), jl_sk _ _ _ (by decide)]; exact h2
  · rw [jl_sk _ _ _ (by decide), jl_ss]
  · rw [jl_sn _ _ _ (by decide), jl_sn _ _ _ (by decide)]; exact h7
theorem js_2404b {k' p' : Int} (h : jm_bad n t k p μ) (H : V μ) : qm_CV (qb_T L) d 2404 [qm_P 13, qm_I k', qm_I p'] μ V := by
  obtain ⟨h1, h2, h3, h4, h5, h6⟩ := h
  refine b2404_0 μ _ _ _ ?_
  rw [h3]
  exact ⟨by omega, fun q => by omega, fun _ => ⟨rfl, H⟩⟩
theorem js_2405 {x : Int} (hx : qm_r32 x) (H1 : jx_le x → Q 1 μ) (H0 : ¬ jx_le x → Q 0 μ) : qm_CI (qb_T L) d 2405 [qm_I x] μ Q := by
  unfold jx_le at *
  exact b2405_0 μ _ _ ⟨hx, fun y => ⟨_, rfl, H0 (by omega)⟩, fun y => ⟨hx, fun y2 => ⟨_, rfl, H0 (by omega)⟩, fun y2 => ⟨_, rfl, H1 (by omega)⟩⟩⟩
theorem js_2406 {x : Int} (hx : qm_r32 x) (H1 : jx_di x → Q 1 μ) (H0 : ¬ jx_di x → Q 0 μ) : qm_CI (qb_T L) d 2406 [qm_I x] μ Q := by
  unfold jx_di at *
  exact b2406_0 μ _ _ ⟨hx, fun y => ⟨_, rfl, H0 (by omega)⟩, fun y => ⟨hx, fun y2 => ⟨_, rfl, H0 (by omega)⟩, fun y2 => ⟨_, rfl, H1 (by omega)⟩⟩⟩
/-- look, from any place -/
theorem js_2407g {a : Nat} (hk : jd_tok n t) (h2 : μ 13 2 = (a : Int)) (h3 : μ 13 3 = (n : Int)) (ha : a ≤ n) (ht : ∀ i, i < n → μ 46 i = t i) (H : ∀ (e : Nat) μ', jx_run jx_bl n t a e → jd_fm [2] [] μ μ' → μ' 13 2 = (e : Int) → Q (if e < n then t e else -1) μ') : qm_CI (qb_T L) d 2407 [qm_P 13] μ Q := by
  have hn := hk.1
  obtain ⟨e, he⟩ := jx_re jx_bl n t (n - a) a (by omega)
  obtain ⟨s1, s2, s3, s4⟩ := id he
  show qm_W (qb_T L) d 2407 0 [qm_P 13] [] μ (fun v μ' => ∃ r, v = some (.inl r) ∧ Q r μ')
  refine jl_from (S := fun i => ∀ μ', jd_fm [2] [] μ μ' → μ' 13 2 = (i : Int) → qm_W (qb_T L) d 2407 0 [qm_P 13] [] μ' (fun v μ' => ∃ r, v = some (.inl r) ∧ Q r μ')) a (e - a) (fun i h5 h6 ih μ' hf h2' => ?_) (fun μ' hf h2' => ?_) μ (jg_refl _ _ _) h2
  · have hbl := s3 i h5 (by omega)
    have hbx := hk.2 i (by omega)
    have nx : qm_W (qb_T L) d 2407 39 [qm_P 13] [] μ' (fun v μ' => ∃ r, v = some (.inl r) ∧ Q r μ') := by
      refine b2407_39 μ' _ (ih _ (jg_f hf rfl) ?_)
      rw [jl_ss, h2']; rfl
    refine b2407_0 μ' _ ?_
    rw [h2', hf.2 3 rfl, h3, Int.toNat_natCast, hf.1 46 rfl rfl, ht i (by omega)]
    refine ⟨by omega, by omega, fun q => absurd q (by omega), fun _ => ⟨by omega, by omega, fun _ => nx, fun y => ⟨by omega, by omega, fun _ => nx, fun y2 => ?_⟩⟩⟩
    unfold jx_bl at hbl; omega
  · rw [show a + (e - a) = e by omega] at h2'
    have out : qm_W (qb_T L) d 2407 52 [qm_P 13] [] μ' (fun v μ' => ∃ r, v = some (.inl r) ∧ Q r μ') := by
      have HH := H e μ' he hf h2'
      refine b2407_52 μ' _ ?_
      rw [h2', hf.2 3 rfl, h3, Int.toNat_natCast]
      refine ⟨by omega, by omega, fun q => ⟨_, rfl, ?_⟩, fun q => ⟨by omega, _, rfl, ?_⟩⟩
      · rw [if_neg (by omega)] at HH; exact HH
      · rw [if_pos (by omega)] at HH
        rw [hf.1 46 rfl rfl, ht e (by omega)]; exact HH
    refine b2407_0 μ' _ ?_
    rw [h2', hf.2 3 rfl, h3]
    refine ⟨by omega, by omega, fun _ => out, fun q => ?_⟩
    have hlt : e < n := by omega
    have hbx := hk.2 e hlt
    have hnb := s4 hlt
    unfold jx_bl at hnb
    rw [Int.toNat_natCast, hf.1 46 rfl rfl, ht e hlt]
    exact ⟨by omega, by omega, fun y => by omega, fun y => ⟨by omega, by omega, fun y2 => by omega, fun _ => out⟩⟩
theorem jl_posf {fs l : List Nat} {μ' : qm_M} (h : jm_pos n t b m μ) (hf : jd_fm fs l μ μ') (h2 : fs.contains 2 = false) (h3 : fs.contains 3 = false) (h4 : fs.contains 4 = false) (h5 : fs.contains 5 = false) (h6 : fs.contains 6 = false) (hl : l.contains 46 = false) : jm_pos n t b m μ' := by
  unfold jm_pos at *
  rw [hf.2 2 h2, hf.2 3 h3, hf.2 4 h4, hf.2 5 h5, hf.2 6 h6, hf.1 46 rfl hl]; exact h
theorem jl_badf {fs l : List Nat} {μ' : qm_M} (h : jm_bad n t k p μ) (hf : jd_fm fs l μ μ') (h2 : fs.contains 2 = false) (h3 : fs.contains 3 = false) (h5 : fs.contains 5 = false) (h6 : fs.contains 6 = false) (hl : l.contains 46 = false) : jm_bad n t k p μ' := by
  unfold jm_bad at *
  rw [hf.2 2 h2, hf.2 3 h3, hf.2 5 h5, hf.2 6 h6, hf.1 46 rfl hl]; exact h
theorem js_2407 (hk : jd_tok n t) (hb : b ≤ n) (h : jm_pos n t b m μ) (Hn : jx_st n t b < n → ∀ μ', jd_fm [2] [] μ μ' → jm_pos n t b m μ' → μ' 13 2 = ((jx_st n t b : Nat) : Int) → Q (t (jx_st n t b)) μ') (He : jx_st n t b = n → ∀ μ', jd_fm [2] [] μ μ' → jm_pos n t b m μ' → μ' 13 2 = ((jx_st n t b : Nat) : Int) → Q (-1) μ') : qm_CI (qb_T L) d 2407 [qm_P 13] μ Q := by
  have hst := jx_sts t hb
  obtain ⟨⟨a, a1, a2, a3⟩, h2, h3, h4, h5, h6, h7⟩ := id h
  refine js_2407g hk a1 h2 (by have := hst.2.1; omega) h7 fun e μ' he hf h2' => ?_
  have hee : e = jx_st n t b := by
    refine jx_ru (p := a) he ⟨a3, hst.2.1, fun i hi hi2 => hst.2.2.1 i (by omega) hi2, hst.2.2.2⟩
  subst hee
  have hp : jm_pos n t b m μ' := by
    refine ⟨⟨jx_st n t b, h2', hst.1, Nat.le_refl _⟩, ?_, fun q => ?_, fun q => ?_, ?_, ?_, ?_⟩
    · rw [hf.2 3 rfl]; exact h2
    · rw [hf.2 4 rfl]; exact h3 q
    · rw [hf.2 4 rfl]; exact h4 q
    · rw [hf.2 5 rfl]; exact h5
    · rw [hf.2 6 rfl]; exact h6
    · rw [hf.1 46 rfl rfl]; exact h7
  by_cases q : jx_st n t b < n
  · rw [if_pos q]; exact Hn q μ' hf hp h2'
  · rw [if_neg q]; exact He (by have := hst.2.1; omega) μ' hf hp h2'
theorem js_2407b (hk : jd_tok n t) (h : jm_bad n t k p μ) (H : ∀ v μ', qm_r32 v → jd_fm [2] [] μ μ' → jm_bad n t k p μ' → Q v μ') : qm_CI (qb_T L) d 2407 [qm_P 13] μ Q := by
  obtain ⟨⟨a, a1, a2⟩, h2, h3, h4, h5, h6⟩ := id h
  refine js_2407g hk a1 h2 a2 h6 fun e μ' he hf h2' => H _ μ' ?_ hf ⟨⟨e, h2', he.2.1⟩, ?_, ?_, h4, ?_, ?_⟩
  · split
    · have := hk.2 e (by omega); omega
    · decide
  · rw [hf.2 3 rfl]; exact h2
  · rw [hf.2 5 rfl]; exact h3
  · rw [hf.2 6 rfl]; exact h5
  · rw [hf.1 46 rfl rfl]; exact h6
theorem jl_ena (hb : b ≤ n) (h : jm_pos n t b m μ) : (((jx_st n t b : Nat) : Int) = μ 13 4 ↔ jx_tn n t b m) := by
  obtain ⟨_, _, h3, h4, _, _, _⟩ := h
  have hst := jx_stb (t := t) hb
  unfold jx_tn
  cases m with
  | true => have := h3 rfl; constructor
            · intro q; exact ⟨rfl, by omega⟩
            · intro q; omega
  | false => have := h4 rfl; constructor
             · intro q; omega
             · intro q; cases q.1
theorem js_2408 {a : Nat} {l : List Nat} (hs : qm_sh (qb_T L) a = some (.inr (3, l.length))) (hl : jx_lw l) (hw : jm_wd a l μ) (ha : Nat.beq a 13 = false) (hk : jd_tok n t) (hb : b ≤ n) (h : jm_pos n t b m μ) (H1 : jx_isW n t b m l → ∀ μ', jd_fm [2] [] μ μ' → jm_pos n t b m μ' → μ' 13 2 = ((jx_st n t b : Nat) : Int) → Q 1 μ') (H0 : ¬ jx_isW n t b m l → ∀ μ', jd_fm [2] [] μ μ' → jm_pos n t b m μ' → μ' 13 2 = ((jx_st n t b : Nat) : Int) → Q 0 μ') : qm_CI (qb_T L) (d + 1) 2408 [qm_P 13, qm_P a] μ Q := by
  have hn := hk.1
  have hl6 := hl.1
  refine b2408_0 hs μ _ ?_
  rw [h.2.2.2.2.1]
  refine ⟨by decide, fun _ => js_2407 hk hb h (fun hlt μ1 f1 hp1 a1 => ?_) (fun hen μ1 f1 hp1 a1 => ?_), fun q => absurd rfl q⟩
  · have hbx := hk.2 _ hlt
    refine js_2405 (by omega) (fun hle => ⟨by decide, fun q => absurd q (by decide), fun _ => ?_⟩) (fun hle => ⟨by decide, fun _ => ⟨_, rfl, H0 (fun z => hle z.1.2.1) μ1 f1 hp1 a1⟩, fun q => absurd rfl q⟩)
    have hena := jl_ena hb hp1
    have he4 : -1 ≤ μ1 13 4 ∧ μ1 13 4 ≤ 2000 := by
      obtain ⟨_, _, h3, h4, _, _, _⟩ := hp1
      cases m with
      | true => have := h3 rfl; omega
      | false => have := h4 rfl; omega
    rw [a1]
    refine ⟨by omega, by omega, fun y => ⟨_, rfl, H0 (fun z => z.1.2.2 (hena.mp y)) μ1 f1 hp1 a1⟩, fun y => ?_⟩
    have hL : jx_isL n t b m := ⟨hlt, hle, fun z => y (hena.mpr z)⟩
    obtain ⟨w1, w2, w3, w4⟩ := jx_wes t hb
    have ht1 : ∀ i, i < n → μ1 46 i = t i := hp1.2.2.2.2.2.2
    have h13 : μ1 13 3 = (n : Int) := hp1.2.1
    refine jl_from (S := fun i => qm_W (qb_T L) (d + 1) 2408 35 [qm_P 13, qm_P a, qm_I ((i : Nat) : Int), none] [] μ1 (fun v μ' => ∃ r, v = some (.inl r) ∧ Q r μ')) (jx_st n t b) (jx_we n t b - jx_st n t b) (fun i h5 h6 ih => ?_) ?_
    · have hi := w3 i h5 (by omega)
      have hbi := hk.2 i (by omega)
      refine b2408_35 hs μ1 _ _ ?_
      rw [h13, Int.toNat_natCast, ht1 i (by omega)]
      exact ⟨by omega, by omega, fun q => absurd q (by omega), fun _ => ⟨by omega, js_2405 (by omega) (fun _ => ⟨by decide, fun q => absurd q (by decide), fun _ => ih⟩) (fun z => absurd hi z)⟩⟩
    · rw [show jx_st n t b + (jx_we n t b - jx_st n t b) = jx_we n t b by omega]
      have fin : qm_W (qb_T L) (d + 1) 2408 61 [qm_P 13, qm_P a, qm_I ((jx_we n t b : Nat) : Int), none] [] μ1 (fun v μ' => ∃ r, v = some (.inl r) ∧ Q r μ') := by
        refine b2408_61 hs μ1 _ _ ?_
        rw [a1]
        refine ⟨by omega, by omega, fun y2 => ?_, fun y2 => ⟨_, rfl, H0 (fun z => y2 (by have := z.2.1; omega)) μ1 f1 hp1 a1⟩⟩
        refine jl_loop (S := fun i => (∀ j, j < i → t (jx_st n t b + j) = ((l.getD j 0 : Nat) : Int)) → qm_W (qb_T L) (d + 1) 2408 76 [qm_P 13, qm_P a, qm_I ((jx_we n t b : Nat) : Int), qm_I ((i : Nat) : Int)] [] μ1 (fun v μ' => ∃ r, v = some (.inl r) ∧ Q r μ')) l.length (fun i hi ih hj => ?_) (fun hj => ?_) (fun j hj => absurd hj (by omega))
        · have hli := hl.2.2 i hi
          have hbi := hk.2 (jx_st n t b + i) (by omega)
          refine b2408_76 hs μ1 _ _ _ ?_
          rw [a1, show (((jx_st n t b : Nat) : Int) + (i : Int)).toNat = jx_st n t b + i by omega, ht1 _ (by omega), Int.toNat_natCast, f1.1 a ha rfl, hw i hi]
          refine ⟨by omega, by omega, fun q => absurd q (by omega), fun _ => ⟨by omega, by omega, by omega, by omega, fun y3 => ih fun j hj2 => ?_, fun y3 => ⟨_, rfl, H0 (fun z => y3 (z.2.2 i hi)) μ1 f1 hp1 a1⟩⟩⟩
          by_cases q : j = i
          · rw [q]; exact y3
          · exact hj j (by omega)
        · exact b2408_76 hs μ1 _ _ _ ⟨by omega, by omega, fun _ => ⟨_, rfl, H1 ⟨hL, by omega, hj⟩ μ1 f1 hp1 a1⟩, fun q => absurd (Int.le_refl _) q⟩
      refine b2408_35 hs μ1 _ _ ?_
      rw [h13]
      refine ⟨by omega, by omega, fun _ => fin, fun q => ?_⟩
      have hlt2 : jx_we n t b < n := by omega
      have hbi := hk.2 _ hlt2
      rw [Int.toNat_natCast, ht1 _ hlt2]
      exact ⟨by omega, js_2405 (by omega) (fun z => absurd z (w4 hlt2)) (fun _ => ⟨by decide, fun _ => fin, fun q => absurd rfl q⟩)⟩
  · refine js_2405 (by decide) (fun hle => by unfold jx_le at hle; omega) (fun hle => ⟨by decide, fun _ => ⟨_, rfl, H0 (fun z => by have := z.1.1; omega) μ1 f1 hp1 a1⟩, fun q => absurd rfl q⟩)
theorem js_2408b {a n1 : Nat} (hs : qm_sh (qb_T L) a = some (.inr (3, n1))) (h : jm_bad n t k p μ) (H : Q 0 μ) : qm_CI (qb_T L) (d + 1) 2408 [qm_P 13, qm_P a] μ Q := by
  refine b2408_0 hs μ _ ?_
  rw [h.2.2.1]
  have := h.2.2.2.1
  exact ⟨by omega, fun q => by omega, fun _ => ⟨_, rfl, H⟩⟩
theorem jl_adv {a' : Nat} {μ' : qm_M} {m' : Bool} (h : jm_pos n t b m μ) (h2 : μ' 13 2 = (a' : Int)) (hle : a' ≤ n) (h4 : (m' = true → μ' 13 4 = (a' : Int)) ∧ (m' = false → -1 ≤ μ' 13 4 ∧ μ' 13 4 < (a' : Int))) (hf : jd_fm [2, 4] [] μ μ') : jm_pos n t a' m' μ' := by
  obtain ⟨_, h3, _, _, h5, h6, h7⟩ := h
  refine ⟨⟨a', h2, Nat.le_refl _, (jx_stb (t := t) hle).1⟩, ?_, h4.1, h4.2, ?_, ?_, ?_⟩
  · rw [hf.2 3 rfl]; exact h3
  · rw [hf.2 5 rfl]; exact h5
  · rw [hf.2 6 rfl]; exact h6
  · rw [hf.1 46 rfl rfl]; exact h7
theorem js_2409 {a : Nat} {l : List Nat} (hs : qm_sh (qb_T L) a = some (.inr (3, l.length))) (hl : jx_lw l) (hw : jm_wd a l μ) (ha : Nat.beq a 13 = false) (hk : jd_tok n t) (hb : b ≤ n) (h : jm_pos n t b m μ) (H1 : jx_isW n t b m l → ∀ μ', jd_fm [2, 4] [] μ μ' → jm_pos n t (jx_we n t b) true μ' → Q 1 μ') (H0 : ¬ jx_isW n t b m l → ∀ μ', jd_fm [2, 4] [] μ μ' → jm_pos n t b m μ' → μ' 13 2 = ((jx_st n t b : Nat) : Int) → Q 0 μ') : qm_CI (qb_T L) (d + 2) 2409 [qm_P 13, qm_P a] μ Q := by
  refine b2409_0 hs μ _ (js_2408 hs hl hw ha hk hb h (fun y μ1 f1 hp1 a1 => ⟨by decide, fun q => absurd q (by decide), fun _ => ⟨_, rfl, ?_⟩⟩) (fun y μ1 f1 hp1 a1 => ⟨by decide, fun _ => ⟨_, rfl, H0 y μ1 (jg_sub f1 rfl rfl) hp1 a1⟩, fun q => absurd rfl q⟩))
  rw [a1, show ((jx_st n t b : Nat) : Int) + (l.length : Int) = ((jx_we n t b : Nat) : Int) by rw [y.2.1]; omega]
  have ff : jd_fm [2, 4] [] μ1 (qm_set (qm_set μ1 13 2 ((jx_we n t b : Nat) : Int)) 13 4 ((jx_we n t b : Nat) : Int)) := jg_f (jg_f (jg_refl _ _ _) rfl) rfl
  refine H1 y _ (jg_trans (jg_sub f1 rfl rfl) ff) (jl_adv hp1 ?_ (jx_wes t hb).2.1 ⟨fun _ => jl_ss _ _ _ _, fun q => by cases q⟩ ff)
  rw [jl_sk _ _ _ (by decide), jl_ss]
theorem js_2409b {a n1 : Nat} (hs : qm_sh (qb_T L) a = some (.inr (3, n1))) (h : jm_bad n t k p μ) (H : Q 0 μ) : qm_CI (qb_T L) (d + 2) 2409 [qm_P 13, qm_P a] μ Q :=
  b2409_0 hs μ _ (js_2408b hs h ⟨by decide, fun _ => ⟨_, rfl, H⟩, fun q => absurd rfl q⟩)
theorem js_2410 {a : Nat} {l : List Nat} (hs : qm_sh (qb_T L) a = some (.inr (3, l.length))) (hl : jx_lw l) (hw : jm_wd a l μ) (ha : Nat.beq a 13 = false) (hk : jd_tok n t) (hb : b ≤ n) (h : jm_pos n t b m μ) (H1 : jx_isW n t b m l → ∀ μ', jd_fm [2, 4] [] μ μ' → jm_pos n t (jx_we n t b) true μ' → V μ') (H0 : ¬ jx_isW n t b m l → ∀ μ', jd_fm [2, 4, 5, 6] [] μ μ' → jm_bad n t 1 ((jx_st n t b : Nat) : Int) μ' → V μ') : qm_CV (qb_T L) (d + 3) 2410 [qm_P 13, qm_P a] μ V := by
  refine b2410_0 hs μ _ ?_
  rw [h.2.2.2.2.1]
  refine ⟨by decide, fun _ => js_2409 hs hl hw ha hk hb h (fun y μ1 f1 hp1 => ⟨by decide, fun q => absurd q (by decide), fun _ => ⟨rfl, H1 y μ1 f1 hp1⟩⟩) (fun y μ1 f1 hp1 a1 => ⟨by decide, fun _ => ?_, fun q => absurd rfl q⟩), fun q => absurd rfl q⟩
  rw [a1]
  exact js_2404 hp1 (by decide) hb fun μ2 f2 hb2 => ⟨rfl, H0 y μ2 (jg_trans (jg_sub f1 rfl rfl) (jg_sub f2 rfl rfl)) hb2⟩
theorem js_2410b {a n1 : Nat} (hs : qm_sh (qb_T L) a = some (.inr (3, n1))) (h : jm_bad n t k p μ) (H : V μ) : qm_CV (qb_T L) (d + 3) 2410 [qm_P 13, qm_P a] μ V := by
  refine b2410_0 hs μ _ ?_
  rw [h.2.2.1]
  have := h.2.2.2.1
  exact ⟨by omega, fun q => by omega, fun _ => ⟨rfl, H⟩⟩
theorem js_2411 {c : Int} (hc : 0 ≤ c ∧ c < 1000) (hk : jd_tok n t) (hb : b ≤ n) (h : jm_pos n t b m μ) (H1 : jx_isM n t b c → ∀ μ', jd_fm [2, 4] [] μ μ' → jm_pos n t (jx_st n t b + 1) false μ' → μ' 13 2 = ((jx_st n t b + 1 : Nat) : Int) → Q 1 μ') (H0 : ¬ jx_isM n t b c → ∀ μ', jd_fm [2, 4] [] μ μ' → jm_pos n t b m μ' → μ' 13 2 = ((jx_st n t b : Nat) : Int) → Q 0 μ') : qm_CI (qb_T L) (d + 1) 2411 [qm_P 13, qm_I c] μ Q := by
  refine b2411_0 μ _ _ ?_
  rw [h.2.2.2.2.1]
  refine ⟨by decide, fun _ => js_2407 hk hb h (fun hlt μ1 f1 hp1 a1 => ?_) (fun hen μ1 f1 hp1 a1 => ?_), fun q => absurd rfl q⟩
  · have hbx := hk.2 _ hlt
    refine ⟨by omega, by omega, fun y => ⟨_, rfl, ?_⟩, fun y => ⟨_, rfl, H0 (fun z => y z.2) μ1 (jg_sub f1 rfl rfl) hp1 a1⟩⟩
    rw [a1]
    have ff : jd_fm [2, 4] [] μ1 (qm_set μ1 13 2 (((jx_st n t b : Nat) : Int) + 1)) := jg_f (jg_refl _ _ _) rfl
    have hst := jx_stb (t := t) hb
    refine H1 ⟨hlt, y⟩ _ (jg_trans (jg_sub f1 rfl rfl) ff) (jl_adv hp1 (jl_ss _ _ _ _) (by omega) ⟨fun q => (by cases q), fun _ => ?_⟩ ff) (jl_ss _ _ _ _)
    rw [jl_sk _ _ _ (by decide)]
    obtain ⟨_, _, h3, h4, _, _, _⟩ := hp1
    cases m with
    | true => have := h3 rfl; omega
    | false => have := h4 rfl; omega
  · exact ⟨by decide, by omega, fun y => absurd y (by omega), fun y => ⟨_, rfl, H0 (fun z => by have := z.1; omega) μ1 (jg_sub f1 rfl rfl) hp1 a1⟩⟩
theorem js_2411b {c : Int} (h : jm_bad n t k p μ) (H : Q 0 μ) : qm_CI (qb_T L) (d + 1) 2411 [qm_P 13, qm_I c] μ Q := by
  refine b2411_0 μ _ _ ?_
  rw [h.2.2.1]
  have := h.2.2.2.1
  exact ⟨by omega, fun q => by omega, fun _ => ⟨_, rfl, H⟩⟩
theorem js_2412 {c : Int} (hc : 0 ≤ c ∧ c < 1000) (hk : jd_tok n t) (hb : b ≤ n) (h : jm_pos n t b m μ) (H1 : jx_isM n t b c → ∀ μ', jd_fm [2, 4] [] μ μ' → jm_pos n t (jx_st n t b + 1) false μ' → V μ') (H0 : ¬ jx_isM n t b c → ∀ μ', jd_fm [2, 4, 5, 6] [] μ μ' → jm_bad n t 1 ((jx_st n t b : Nat) : Int) μ' → V μ') : qm_CV (qb_T L) (d + 2) 2412 [qm_P 13, qm_I c] μ V := by
  refine b2412_0 μ _ _ ?_
  rw [h.2.2.2.2.1]
  refine ⟨by decide, fun _ => js_2411 hc hk hb h (fun y μ1 f1 hp1 _ => ⟨by decide, fun q => absurd q (by decide), fun _ => ⟨rfl, H1 y μ1 f1 hp1⟩⟩) (fun y μ1 f1 hp1 a1 => ⟨by decide, fun _ => ?_, fun q => absurd rfl q⟩), fun q => absurd rfl q⟩
  rw [a1]
  exact js_2404 hp1 (by decide) hb fun μ2 f2 hb2 => ⟨rfl, H0 y μ2 (jg_trans (jg_sub f1 rfl rfl) (jg_sub f2 rfl rfl)) hb2⟩
theorem js_2412b {c : Int} (h : jm_bad n t k p μ) (H : V μ) : qm_CV (qb_T L) (d + 2) 2412 [qm_P 13, qm_I c] μ V := by
  refine b2412_0 μ _ _ ?_
  rw [h.2.2.1]
  have := h.2.2.2.1
  exact ⟨by omega, fun q => by omega, fun _ => ⟨rfl, H⟩⟩
/-- a number asked -/
theorem js_2413 {lo hi : Int} (hlo : qm_r32 lo ∧ qm_r32 hi) (hk : jd_tok n t) (hb : b ≤ n) (h : jm_pos n t b m μ) (H1 : jx_isN n t b m → jx_de n t b - jx_st n t b ≤ 4 → (lo ≤ jd_n10 (fun i => t (jx_st n t b + i) - 48) (jx_de n t b - jx_st n t b) ∧ jd_n10 (fun i => t (jx_st n t b + i) - 48) (jx_de n t b - jx_st n t b) ≤ hi) → ∀ μ', jd_fm [2, 4] [] μ μ' → jm_pos n t (jx_de n t b) true μ' → Q (jd_n10 (fun i => t (jx_st n t b + i) - 48) (jx_de n t b - jx_st n t b)) μ') (H0 : ∀ kf pf v μ', jd_fm [2, 4, 5, 6] [] μ μ' → qm_r32 v → jm_bad n t kf pf μ' → ((¬ jx_isN n t b m ∧ kf = 1 ∧ pf = ((jx_st n t b : Nat) : Int)) ∨ (jx_isN n t b m ∧ ¬ jx_de n t b - jx_st n t b ≤ 4 ∧ kf = 1 ∧ pf = ((jx_st n t b + 4 : Nat) : Int)) ∨ (jx_isN n t b m ∧ jx_de n t b - jx_st n t b ≤ 4 ∧ ¬ (lo ≤ jd_n10 (fun i => t (jx_st n t b + i) - 48) (jx_de n t b - jx_st n t b) ∧ jd_n10 (fun i => t (jx_st n t b + i) - 48) (jx_de n t b - jx_st n t b) ≤ hi) ∧ kf = 2 ∧ pf = ((jx_st n t b : Nat) : Int))) → Q v μ') : qm_CI (qb_T L) (d + 1) 2413 [qm_P 13, qm_I lo, qm_I hi] μ Q := by
  have hn := hk.1
  have hstb := jx_stb (t := t) hb
  have bad30 : ∀ μ1, jd_fm [2] [] μ μ1 → jm_pos n t b m μ1 → μ1 13 2 = ((jx_st n t b : Nat) : Int) → ¬ jx_isN n t b m → qm_W (qb_T L) (d + 1) 2413 30 [qm_P 13, qm_I lo, qm_I hi, none, none] [] μ1 (fun v μ' => ∃ r, v = some (.inl r) ∧ Q r μ') := fun μ1 f1 hp1 a1 hno => by
    refine b2413_30 μ1 _ _ _ ?_
    rw [a1]
    exact js_2404 hp1 (by decide) hb fun μ2 f2 hb2 => ⟨_, rfl, H0 1 _ 0 μ2 (jg_trans (jg_sub f1 rfl rfl) (jg_sub f2 rfl rfl)) (by decide) hb2 (Or.inl ⟨hno, rfl, rfl⟩)⟩
  refine b2413_0 μ _ _ _ ?_
  rw [h.2.2.2.2.1]
  refine ⟨by decide, fun _ => js_2407 hk hb h (fun hlt μ1 f1 hp1 a1 => ?_) (fun hen μ1 f1 hp1 a1 => ?_), fun q => absurd rfl q⟩
  · have hbx := hk.2 _ hlt
    refine js_2406 (by omega) (fun hle => ⟨by decide, fun q => absurd q (by decide), fun _ => ?_⟩) (fun hle => ⟨by decide, fun _ => bad30 μ1 f1 hp1 a1 (fun z => hle z.2.1), fun q => absurd rfl q⟩)
    have hena := jl_ena hb hp1
    have he4 : -1 ≤ μ1 13 4 ∧ μ1 13 4 ≤ 2000 := by
      obtain ⟨_, _, h3, h4, _, _, _⟩ := hp1
      cases m with
      | true => have := h3 rfl; omega
      | false => have := h4 rfl; omega
    rw [a1]
    refine ⟨by omega, by omega, fun y => bad30 μ1 f1 hp1 a1 (fun z => z.2.2 (hena.mp y)), fun y => ?_⟩
    have hN : jx_isN n t b m := ⟨hlt, hle, fun z => y (hena.mpr z)⟩
    obtain ⟨w1, w2, w3, w4⟩ := jx_des t hb
    have wlt := jx_dlt hb hlt hle
    have hdig : ∀ i, i < jx_de n t b - jx_st n t b → 0 ≤ t (jx_st n t b + i) - 48 ∧ t (jx_st n t b + i) - 48 ≤ 9 := fun i hi => by
      have := w3 (jx_st n t b + i) (by omega) (by omega)
      unfold jx_di at this; omega
    refine jl_from (S := fun i => i - jx_st n t b ≤ 4 → ∀ μ', jd_fm [2] [] μ μ' → jm_pos n t b m μ1 → μ' 13 2 = (i : Int) → qm_W (qb_T L) (d + 1) 2413 49 [qm_P 13, qm_I lo, qm_I hi, qm_I ((jx_st n t b : Nat) : Int), qm_I (jd_n10 (fun i => t (jx_st n t b + i) - 48) (i - jx_st n t b))] [] μ' (fun v μ' => ∃ r, v = some (.inl r) ∧ Q r μ')) (jx_st n t b) (jx_de n t b - jx_st n t b) (fun i h5 h6 ih hle4 μ' hf _ a2 => ?_) (fun hle4 μ' hf _ a2 => ?_) (by omega) μ1 f1 hp1 a1 |> fun z => by rw [Nat.sub_self] at z; exact z
    · have hbi := hk.2 i (by omega)
      have hdi := w3 i h5 (by omega)
      have ht' : μ' 46 i = t i := by rw [hf.1 46 rfl rfl]; exact h.2.2.2.2.2.2 i (by omega)
      refine b2413_49 μ' _ _ _ _ _ ?_
      rw [a2, hf.2 3 rfl, h.2.1, Int.toNat_natCast, ht']
      refine ⟨by omega, by omega, fun q => absurd q (by omega), fun _ => ⟨by omega, js_2406 (by omega) (fun _ => ⟨by decide, fun q => absurd q (by decide), fun _ => ?_⟩) (fun z => absurd hdi z)⟩⟩
      rw [a2, Int.toNat_natCast, ht']
      refine ⟨by omega, fun y4 => ?_, fun y4 => ⟨by omega, ?_⟩⟩
      · have hp' : jm_pos n t (jx_st n t b) false μ' ∨ True := Or.inr trivial
        -- a fifth digit
        obtain ⟨_, g2, g3, g4, g5, g6, g7⟩ := h
        have f5 : μ' 13 5 = 0 := by rw [hf.2 5 rfl]; exact g5
        refine b2404_0 μ' _ _ _ ?_
        rw [f5]
        refine ⟨by decide, fun _ => ⟨rfl, _, rfl, H0 1 ((i : Nat) : Int) 0 _ (jg_f (jg_f (jg_sub hf rfl rfl) rfl) rfl) (by decide) ⟨⟨i, ?_, by omega⟩, ?_, ?_, by decide, jl_ss _ _ _ _, ?_⟩ (Or.inr (Or.inl ⟨hN, by omega, rfl, by omega⟩))⟩, fun q => absurd rfl q⟩
        · rw [jl_sk _ _ _ (by decide), jl_sk _ _ _ (by decide)]; exact a2
        · rw [jl_sk _ _ _ (by decide), jl_sk _ _ _ (by decide), hf.2 3 rfl]; exact g2
        · rw [jl_sk _ _ _ (by decide), jl_ss]
        · rw [jl_sn _ _ _ (by decide), jl_sn _ _ _ (by decide), hf.1 46 rfl rfl]; exact g7
      · have e : 10 * jd_n10 (fun i => t (jx_st n t b + i) - 48) (i - jx_st n t b) + t i - 48 = jd_n10 (fun i => t (jx_st n t b + i) - 48) (i + 1 - jx_st n t b) := by
          rw [show i + 1 - jx_st n t b = (i - jx_st n t b) + 1 by omega]
          show _ = 10 * jd_n10 (fun i => t (jx_st n t b + i) - 48) (i - jx_st n t b) + (t (jx_st n t b + (i - jx_st n t b)) - 48)
          rw [show jx_st n t b + (i - jx_st n t b) = i by omega]; omega
        rw [e]
        exact ih (by omega) _ (jg_f hf rfl) hp1 (jl_ss _ _ _ _)
    · rw [show jx_st n t b + (jx_de n t b - jx_st n t b) = jx_de n t b by omega] at a2 hle4 ⊢
      have hv := jl_n10b (f := fun i => t (jx_st n t b + i) - 48) (jx_de n t b - jx_st n t b) hdig hle4
      have hv2 : jd_n10 (fun i => t (jx_st n t b + i) - 48) (jx_de n t b - jx_st n t b) < 10000 := by
        refine Int.lt_of_lt_of_le hv.2 ?_
        (repeat' split) <;> omega
      have fin : qm_W (qb_T L) (d + 1) 2413 129 [qm_P 13, qm_I lo, qm_I hi, qm_I ((jx_st n t b : Nat) : Int), qm_I (jd_n10 (fun i => t (jx_st n t b + i) - 48) (jx_de n t b - jx_st n t b))] [] μ' (fun v μ' => ∃ r, v = some (.inl r) ∧ Q r μ') := by
        refine b2413_129 μ' _ _ _ _ _ ⟨by omega, hlo.1, hlo.2, ?_⟩
        rw [a2]
        have ff : jd_fm [2, 4] [] μ (qm_set μ' 13 4 ((jx_de n t b : Nat) : Int)) := jg_f (jg_sub hf rfl rfl) rfl
        have hp2 : jm_pos n t (jx_de n t b) true (qm_set μ' 13 4 ((jx_de n t b : Nat) : Int)) := jl_adv h (by rw [jl_sk _ _ _ (by decide)]; exact a2) w2 ⟨fun _ => jl_ss _ _ _ _, fun q => by cases q⟩ ff
        refine b2401_0 _ _ _ _ _ ⟨by omega, by omega, fun y5 => ⟨_, rfl, by decide, fun _ => ?_, fun q => absurd rfl q⟩, fun y5 => ⟨by omega, by omega, fun y6 => ⟨_, rfl, by decide, fun _ => ?_, fun q => absurd rfl q⟩, fun y6 => ⟨_, rfl, by decide, fun q => absurd q (by decide), fun _ => ⟨_, rfl, H1 hN hle4 (by omega) _ ff hp2⟩⟩⟩⟩
        · exact js_2404 hp2 (by decide) w2 fun μ3 f3 hb3 => ⟨_, rfl, H0 2 _ _ μ3 (jg_trans (jg_sub ff rfl rfl) (jg_sub f3 rfl rfl)) (by omega) hb3 (Or.inr (Or.inr ⟨hN, hle4, by omega, rfl, rfl⟩))⟩
        · exact js_2404 hp2 (by decide) w2 fun μ3 f3 hb3 => ⟨_, rfl, H0 2 _ _ μ3 (jg_trans (jg_sub ff rfl rfl) (jg_sub f3 rfl rfl)) (by omega) hb3 (Or.inr (Or.inr ⟨hN, hle4, by omega, rfl, rfl⟩))⟩
      refine b2413_49 μ' _ _ _ _ _ ?_
      rw [a2, hf.2 3 rfl, h.2.1]
      refine ⟨by omega, by omega, fun _ => fin, fun q => ?_⟩
      have hlt2 : jx_de n t b < n := by omega
      have hbi := hk.2 _ hlt2
      rw [Int.toNat_natCast, hf.1 46 rfl rfl, h.2.2.2.2.2.2 _ hlt2]
      exact ⟨by omega, js_2406 (by omega) (fun z => absurd z (w4 hlt2)) (fun _ => ⟨by decide, fun _ => fin, fun q => absurd rfl q⟩)⟩
  · refine js_2406 (by decide) (fun hle => by unfold jx_di at hle; omega) (fun hle => ⟨by decide, fun _ => bad30 μ1 f1 hp1 a1 (fun z => by have := z.1; omega), fun q => absurd rfl q⟩)
theorem js_2413b {lo hi : Int} (h : jm_bad n t k p μ) (H : Q 0 μ) : qm_CI (qb_T L) (d + 1) 2413 [qm_P 13, qm_I lo, qm_I hi] μ Q := by
  refine b2413_0 μ _ _ _ ?_
  rw [h.2.2.1]
  have := h.2.2.2.1
  exact ⟨by omega, fun q => by omega, fun _ => ⟨_, rfl, H⟩⟩
/-- whether an own word is here -/
theorem js_2414 (hcst : jm_cst μ) (hk : jd_tok n t) (hb : b ≤ n) (h : jm_pos n t b m μ) (H1 : (∃ l ∈ jx_L12, jx_isW n t b m l) → ∀ μ', jd_fm [2] [] μ μ' → jm_pos n t b m μ' → μ' 13 2 = ((jx_st n t b : Nat) : Int) → Q 1 μ') (H0 : ¬ (∃ l ∈ jx_L12, jx_isW n t b m l) → ∀ μ', jd_fm [2] [] μ μ' → jm_pos n t b m μ' → μ' 13 2 = ((jx_st n t b : Nat) : Int) → Q 0 μ') : qm_CI (qb_T L) (d + 2) 2414 [qm_P 13] μ Q := by
  have hw : ∀ (a : Nat) (l : List Nat), (a, l) ∈ jx_TW → ∀ μ', jd_fm [2] [] μ μ' → jm_wd a l μ' := fun a l he μ' hf => (jm_cstf hcst hf (by rfl)) (a, l) he
  have one : ∀ (a : Nat) (l : List Nat) {F : Int → qm_M → Prop}, (a, l) ∈ jx_TW → qm_sh (qb_T L) a = some (.inr (3, l.length)) → Nat.beq a 13 = false → ∀ μ', jd_fm [2] [] μ μ' → jm_pos n t b m μ' → (jx_isW n t b m l → ∀ μ2, jd_fm [2] [] μ μ2 → jm_pos n t b m μ2 → μ2 13 2 = ((jx_st n t b : Nat) : Int) → F 1 μ2) → (¬ jx_isW n t b m l → ∀ μ2, jd_fm [2] [] μ μ2 → jm_pos n t b m μ2 → μ2 13 2 = ((jx_st n t b : Nat) : Int) → F 0 μ2) → qm_CI (qb_T L) (d + 1) 2408 [qm_P 13, qm_P a] μ' F := fun a l F he hs ha μ' hf hp G1 G0 =>
    js_2408 hs (jx_lwT (a, l) he).1 (hw a l he μ' hf) ha hk hb hp (fun y μ2 f2 hp2 a2 => G1 y μ2 (jg_trans hf f2) hp2 a2) (fun y μ2 f2 hp2 a2 => G0 y μ2 (jg_trans hf f2) hp2 a2)
  have yes66 : ∀ l ∈ jx_L12, jx_isW n t b m l → ∀ μ2, jd_fm [2] [] μ μ2 → jm_pos n t b m μ2 → μ2 13 2 = ((jx_st n t b : Nat) : Int) → qm_W (qb_T L) (d + 2) 2414 66 [qm_P 13, none] [] μ2 (fun v μ' => ∃ r, v = some (.inl r) ∧ Q r μ') := fun l hl hy μ2 f2 hp2 a2 => b2414_66 μ2 _ (b2414_71 μ2 _ _ ⟨by decide, fun q => absurd q (by decide), fun _ => b2414_142 μ2 _ _ ⟨_, rfl, H1 ⟨l, hl, hy⟩ μ2 f2 hp2 a2⟩⟩)
  have yes142 : ∀ l ∈ jx_L12, jx_isW n t b m l → ∀ μ2, jd_fm [2] [] μ μ2 → jm_pos n t b m μ2 → μ2 13 2 = ((jx_st n t b : Nat) : Int) → qm_W (qb_T L) (d + 2) 2414 142 [qm_P 13, qm_I 0] [] μ2 (fun v μ' => ∃ r, v = some (.inl r) ∧ Q r μ') := fun l hl hy μ2 f2 hp2 a2 => b2414_142 μ2 _ _ ⟨_, rfl, H1 ⟨l, hl, hy⟩ μ2 f2 hp2 a2⟩
  refine b2414_0 μ _ ?_
  refine one 47 qb_tx_1000 (by decide) rfl rfl μ (jg_refl _ _ _) h (fun y ν f hp a => ⟨by decide, fun q => absurd q (by decide), fun _ => yes66 qb_tx_1000 (by decide) y ν f hp a⟩) (fun n1 μ1 f1 p1 a1 => ⟨by decide, fun _ => ?_, fun q => absurd rfl q⟩)
  refine one 48 qb_tx_1002 (by decide) rfl rfl μ1 f1 p1 (fun y ν f hp a => ⟨by decide, fun q => absurd q (by decide), fun _ => yes66 qb_tx_1002 (by decide) y ν f hp a⟩) (fun n2 μ2 f2 p2 a2 => ⟨by decide, fun _ => ?_, fun q => absurd rfl q⟩)
  refine one 49 qb_tx_1003 (by decide) rfl rfl μ2 f2 p2 (fun y ν f hp a => ⟨by decide, fun q => absurd q (by decide), fun _ => yes66 qb_tx_1003 (by decide) y ν f hp a⟩) (fun n3 μ3 f3 p3 a3 => ⟨by decide, fun _ => ?_, fun q => absurd rfl q⟩)
  refine one 50 qb_tx_1004 (by decide) rfl rfl μ3 f3 p3 (fun y ν f hp a => ⟨by decide, fun q => absurd q (by decide), fun _ => yes66 qb_tx_1004 (by decide) y ν f hp a⟩) (fun n4 μ4 f4 p4 a4 => ⟨by decide, fun _ => ?_, fun q => absurd rfl q⟩)
  refine one 51 qb_tx_1005 (by decide) rfl rfl μ4 f4 p4 (fun y ν f hp a => ⟨by decide, fun q => absurd q (by decide), fun _ => yes66 qb_tx_1005 (by decide) y ν f hp a⟩) (fun n5 μ5 f5 p5 a5 => ⟨by decide, fun _ => ?_, fun q => absurd rfl q⟩)
  refine one 52 qb_tx_1006 (by decide) rfl rfl μ5 f5 p5 (fun y ν f hp a => ⟨by decide, fun q => absurd q (by decide), fun _ => yes66 qb_tx_1006 (by decide) y ν f hp a⟩) (fun n6 μ6 f6 p6 a6 => ⟨by decide, fun _ => ?_, fun q => absurd rfl q⟩)
  refine b2414_71 μ6 _ _ ⟨by decide, fun _ => ?_, fun q => absurd rfl q⟩
  refine one 53 qb_tx_1007 (by decide) rfl rfl μ6 f6 p6 (fun y ν f hp a => ⟨by decide, fun q => absurd q (by decide), fun _ => yes142 qb_tx_1007 (by decide) y ν f hp a⟩) (fun n7 μ7 f7 p7 a7 => ⟨by decide, fun _ => ?_, fun q => absurd rfl q⟩)
  refine one 54 qb_tx_1008 (by decide) rfl rfl μ7 f7 p7 (fun y ν f hp a => ⟨by decide, fun q => absurd q (by decide), fun _ => yes142 qb_tx_1008 (by decide) y ν f hp a⟩) (fun n8 μ8 f8 p8 a8 => ⟨by decide, fun _ => ?_, fun q => absurd rfl q⟩)
  refine one 55 qb_tx_1009 (by decide) rfl rfl μ8 f8 p8 (fun y ν f hp a => ⟨by decide, fun q => absurd q (by decide), fun _ => yes142 qb_tx_1009 (by decide) y ν f hp a⟩) (fun n9 μ9 f9 p9 a9 => ⟨by decide, fun _ => ?_, fun q => absurd rfl q⟩)
  refine one 56 qb_tx_1010 (by decide) rfl rfl μ9 f9 p9 (fun y ν f hp a => ⟨by decide, fun q => absurd q (by decide), fun _ => yes142 qb_tx_1010 (by decide) y ν f hp a⟩) (fun n10 μ10 f10 p10 a10 => ⟨by decide, fun _ => ?_, fun q => absurd rfl q⟩)
  refine one 57 qb_tx_1011 (by decide) rfl rfl μ10 f10 p10 (fun y ν f hp a => ⟨by decide, fun q => absurd q (by decide), fun _ => yes142 qb_tx_1011 (by decide) y ν f hp a⟩) (fun n11 μ11 f11 p11 a11 => ⟨by decide, fun _ => ?_, fun q => absurd rfl q⟩)
  refine one 58 qb_tx_1012 (by decide) rfl rfl μ11 f11 p11 (fun y ν f hp a => ⟨by decide, fun q => absurd q (by decide), fun _ => yes142 qb_tx_1012 (by decide) y ν f hp a⟩) (fun n12 μ12 f12 p12 a12 => ⟨by decide, fun _ => ?_, fun q => absurd rfl q⟩)
  refine ⟨_, rfl, H0 (fun z => ?_) μ12 f12 p12 a12⟩
  obtain ⟨l, hl, hy⟩ := z
  simp only [jx_L12, List.mem_cons, List.not_mem_nil, or_false] at hl
  rcases hl with rfl | rfl | rfl | rfl | rfl | rfl | rfl | rfl | rfl | rfl | rfl | rfl
  · exact n1 hy
  · exact n2 hy
  · exact n3 hy
  · exact n4 hy
  · exact n5 hy
  · exact n6 hy
  · exact n7 hy
  · exact n8 hy
  · exact n9 hy
  · exact n10 hy
  · exact n11 hy
  · exact n12 hy
theorem jl_own : (∃ l ∈ jx_L12, jx_isW n t b m l) ↔ (jx_isL n t b m ∧ jx_own n t b) :=
  ⟨fun ⟨l, hl, h1, h2⟩ => ⟨h1, l, hl, h2⟩, fun ⟨h1, l, hl, h2⟩ => ⟨l, hl, h1, h2⟩⟩
theorem js_2414b (h : jm_bad n t k p μ) (H : Q 0 μ) : qm_CI (qb_T L) (d + 2) 2414 [qm_P 13] μ Q := by
  refine b2414_0 μ _ ?_
  refine js_2408b (n1 := qb_tx_1000.length) rfl h ⟨by decide, fun _ => ?_, fun q => absurd rfl q⟩
  refine js_2408b (n1 := qb_tx_1002.length) rfl h ⟨by decide, fun _ => ?_, fun q => absurd rfl q⟩
  refine js_2408b (n1 := qb_tx_1003.length) rfl h ⟨by decide, fun _ => ?_, fun q => absurd rfl q⟩
  refine js_2408b (n1 := qb_tx_1004.length) rfl h ⟨by decide, fun _ => ?_, fun q => absurd rfl q⟩
  refine js_2408b (n1 := qb_tx_1005.length) rfl h ⟨by decide, fun _ => ?_, fun q => absurd rfl q⟩
  refine js_2408b (n1 := qb_tx_1006.length) rfl h ⟨by decide, fun _ => ?_, fun q => absurd rfl q⟩
  refine b2414_71 μ _ _ ⟨by decide, fun _ => ?_, fun q => absurd rfl q⟩
  refine js_2408b (n1 := qb_tx_1007.length) rfl h ⟨by decide, fun _ => ?_, fun q => absurd rfl q⟩
  refine js_2408b (n1 := qb_tx_1008.length) rfl h ⟨by decide, fun _ => ?_, fun q => absurd rfl q⟩
  refine js_2408b (n1 := qb_tx_1009.length) rfl h ⟨by decide, fun _ => ?_, fun q => absurd rfl q⟩
  refine js_2408b (n1 := qb_tx_1010.length) rfl h ⟨by decide, fun _ => ?_, fun q => absurd rfl q⟩
  refine js_2408b (n1 := qb_tx_1011.length) rfl h ⟨by decide, fun _ => ?_, fun q => absurd rfl q⟩
  refine js_2408b (n1 := qb_tx_1012.length) rfl h ⟨by decide, fun _ => ?_, fun q => absurd rfl q⟩
  exact ⟨_, rfl, H⟩
end
