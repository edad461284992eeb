/-! ===== what is left as it was; the tape ===== -/
def jd_fr (l : List Nat) (μ μ' : qm_M) : Prop := ∀ c, l.contains c = false → μ' c = μ c
theorem jf_refl (l : List Nat) (μ : qm_M) : jd_fr l μ μ := fun _ _ => rfl
theorem jf_trans {l : List Nat} {μ μ1 μ2 : qm_M} (h1 : jd_fr l μ μ1) (h2 : jd_fr l μ1 μ2) : jd_fr l μ μ2 := fun c hc => (h2 c hc).trans (h1 c hc)
theorem jf_sub {l l' : List Nat} {μ μ' : qm_M} (h : jd_fr l μ μ') (hs : l.all (fun x => l'.contains x) = true) : jd_fr l' μ μ' := fun c hc => h c (by
  cases hq : l.contains c with
  | false => rfl
  | true =>
    have h1 := List.all_eq_true.mp hs c (List.contains_iff_mem.mp hq)
    rw [h1] at hc; cases hc)
theorem jf_set {l : List Nat} {μ μ' : qm_M} {c k : Nat} {z : Int} (h : jd_fr l μ μ') (hc : l.contains c = true) : jd_fr l μ (qm_set μ' c k z) := fun c' hc' => by
  have : c' ≠ c := fun q => by rw [q, hc] at hc'; cases hc'
  rw [jl_sn μ' k z this]; exact h c' hc'
/-- the reference's own cell by fields, the others whole -/
def jd_fm (fs l : List Nat) (μ μ' : qm_M) : Prop := (∀ c, Nat.beq c 13 = false → l.contains c = false → μ' c = μ c) ∧ ∀ k, fs.contains k = false → μ' 13 k = μ 13 k
theorem jg_refl (fs l : List Nat) (μ : qm_M) : jd_fm fs l μ μ := ⟨fun _ _ _ => rfl, fun _ _ => rfl⟩
theorem jg_trans {fs l : List Nat} {μ μ1 μ2 : qm_M} (h1 : jd_fm fs l μ μ1) (h2 : jd_fm fs l μ1 μ2) : jd_fm fs l μ μ2 := ⟨fun c h hc => (h2.1 c h hc).trans (h1.1 c h hc), fun k hk => (h2.2 k hk).trans (h1.2 k hk)⟩
theorem jl_has {l l' : List Nat} (hs : l.all (fun x => l'.contains x) = true) {c : Nat} (hc : l'.contains c = false) : l.contains c = false := by
  cases hq : l.contains c with
  | false => rfl
  | true =>
    have h1 := List.all_eq_true.mp hs c (List.contains_iff_mem.mp hq)
    rw [h1] at hc; cases hc
theorem jg_sub {fs fs' l l' : List Nat} {μ μ' : qm_M} (h : jd_fm fs l μ μ') (hf : fs.all (fun x => fs'.contains x) = true) (hs : l.all (fun x => l'.contains x) = true) : jd_fm fs' l' μ μ' :=
  ⟨fun c h1 hc => h.1 c h1 (jl_has hs hc), fun k hk => h.2 k (jl_has hf hk)⟩
theorem jg_f {fs l : List Nat} {μ μ' : qm_M} {k : Nat} {z : Int} (h : jd_fm fs l μ μ') (hk : fs.contains k = true) : jd_fm fs l μ (qm_set μ' 13 k z) :=
  ⟨fun c h1 hc => by
    have : c ≠ 13 := fun q => by rw [q] at h1; cases h1
    rw [jl_sn μ' k z this]; exact h.1 c h1 hc, fun k' hk' => by
    have : k' ≠ k := fun q => by rw [q, hk] at hk'; cases hk'
    rw [jl_sk μ' 13 z this]; exact h.2 k' hk'⟩
theorem jg_c {fs l : List Nat} {μ μ' : qm_M} {c k : Nat} {z : Int} (h : jd_fm fs l μ μ') (hc : l.contains c = true) (h13 : Nat.beq 13 c = false) : jd_fm fs l μ (qm_set μ' c k z) :=
  ⟨fun c' h1 hc' => by
    have : c' ≠ c := fun q => by rw [q, hc] at hc'; cases hc'
    rw [jl_sn μ' k z this]; exact h.1 c' h1 hc', fun k' hk' => by
    have : 13 ≠ c := fun q => by rw [← q] at h13; cases h13
    rw [jl_sn μ' k z this]; exact h.2 k' hk'⟩
def jc_tape (n : Nat) (t : Nat → Int) (μ : qm_M) : Prop := μ 1 1 = (n : Int) ∧ ∀ i, i < n → μ 14 i = t i
def jm_tape (n : Nat) (t : Nat → Int) (μ : qm_M) : Prop := μ 13 1 = (n : Int) ∧ ∀ i, i < n → μ 46 i = t i
def jd_tok (n : Nat) (t : Nat → Int) : Prop := n ≤ 1600 ∧ ∀ i, i < n → 0 ≤ t i ∧ t i < 256
def jd_byte (w : Int) (k : Nat) : Int := w / ((2 ^ (8 * (3 - k)) : Nat) : Int) % 256
def jd_fd (t : Nat → Int) (n : Nat) (ar : Nat → Int) : Nat → Int := fun i => if i < n then t i else jd_byte (ar ((i - n) / 4)) ((i - n) % 4)
def jd_5 (a b c e f : Int) : Nat → Int := fun i => if i = 0 then a else if i = 1 then b else if i = 2 then c else if i = 3 then e else f
theorem jl_fd {t : Nat → Int} {n : Nat} {ar : Nat → Int} (h : jd_tok n t) (hn : n + 20 ≤ 1600) : jd_tok (n + 20) (jd_fd t n ar) := by
  refine ⟨hn, fun i hi => ?_⟩
  unfold jd_fd
  split
  · exact h.2 i ‹_›
  · unfold jd_byte; omega
section
variable {L d n : Nat} {t : Nat → Int} {μ : qm_M} {Q : Int → qm_M → Prop} {V : qm_M → Prop}
theorem jl_cpush {z : Int} (h : jc_tape n t μ) (hz : t n = z) : jc_tape (n + 1) t (qm_set (qm_set μ 14 n z) 1 1 ((n : Int) + 1)) := by
  refine ⟨jl_ss _ _ _ _, fun i hi => ?_⟩
  rw [jl_sn _ _ _ (by decide)]
  by_cases hn : i = n
  · rw [hn, jl_ss, hz]
  · rw [jl_sk _ _ _ hn]; exact h.2 i (by omega)
theorem js_1601 {w : Int} (h : jc_tape n t μ) (hn : n + 4 ≤ 1600) (hw : qm_r32 w) (hb : ∀ k, k < 4 → t (n + k) = jd_byte w k) (H : ∀ μ', jd_fr [1, 14] μ μ' → jc_tape (n + 4) t μ' → V μ') : qm_CV (qb_T L) (d + 1) 1601 [qm_P 1, qm_I w] μ V := by
  refine b1601_0 μ _ _ ?_
  have st : ∀ (m s : Nat) (x : Int) (μ1 : qm_M), x = ((8 * s : Nat) : Int) → s < 4 → m = n + (3 - s) → jd_fr [1, 14] μ μ1 → jc_tape m t μ1 → (∀ μ2, jd_fr [1, 14] μ μ2 → jc_tape (m + 1) t μ2 → qm_W (qb_T L) (d + 1) 1601 3 [qm_P 1, qm_I w, qm_I (x + -8)] [] μ2 (fun v μ' => v = none ∧ V μ')) → qm_W (qb_T L) (d + 1) 1601 3 [qm_P 1, qm_I w, qm_I x] [] μ1 (fun v μ' => v = none ∧ V μ') := by
    intro m s x μ1 hx hs hm hf ht K
    subst hx
    refine b1601_3 μ1 _ _ _ ?_
    rw [ht.1]
    refine ⟨by omega, fun q => absurd q (by omega), fun _ => ⟨by omega, fun q => absurd q (by omega), fun _ => js_402i m rfl (by decide) rfl (by omega) (b1601_45 _ _ _ _ ?_)⟩⟩
    have e : qi_and (qi_shr w ((8 * s : Nat) : Int)) 255 = t m := by
      rw [qa_and255, qa_shr hw (by omega), hm, hb _ (by omega)]
      unfold jd_byte
      rw [show 3 - (3 - s) = s by omega]
    rw [e, jl_sn _ _ _ (by decide), ht.1]
    exact K _ (jf_set (jf_set hf rfl) rfl) (jl_cpush ht rfl)
  refine st n 3 24 μ rfl (by omega) (by omega) (jf_refl _ _) h fun μ1 f1 t1 => ?_
  refine st (n + 1) 2 (24 + -8) μ1 rfl (by omega) (by omega) f1 t1 fun μ2 f2 t2 => ?_
  refine st (n + 2) 1 (24 + -8 + -8) μ2 rfl (by omega) (by omega) f2 t2 fun μ3 f3 t3 => ?_
  refine st (n + 3) 0 (24 + -8 + -8 + -8) μ3 rfl (by omega) (by omega) f3 t3 fun μ4 f4 t4 => ?_
  exact b1601_3 μ4 _ _ _ ⟨by decide, fun _ => ⟨rfl, H μ4 f4 t4⟩, fun q => absurd (show (24 : Int) + -8 + -8 + -8 + -8 < 0 by decide) q⟩
theorem js_2201 {a1 a2 a3 a4 a5 : Int} (h : jc_tape n t μ) (hk : jd_tok n t) (h1 : qm_r32 a1) (h2 : qm_r32 a2) (h3 : qm_r32 a3) (h4 : qm_r32 a4) (h5 : qm_r32 a5) (H : ∀ μ', jd_fr [1, 14] μ μ' → n + 20 ≤ 1600 → jc_tape (n + 20) (jd_fd t n (jd_5 a1 a2 a3 a4 a5)) μ' → Q ((n + 20 : Nat) : Int) μ') (H0 : ¬ n + 20 ≤ 1600 → Q (-1) μ) : qm_CI (qb_T L) (d + 2) 2201 [qm_P 0, qm_I a1, qm_I a2, qm_I a3, qm_I a4, qm_I a5] μ Q := by
  have hn := hk.1
  refine b2201_0 μ _ _ _ _ _ _ ?_
  rw [h.1]
  refine ⟨by omega, fun hl => ?_, fun hl => ⟨_, rfl, H0 (by omega)⟩⟩
  have hb : ∀ q k, q < 5 → k < 4 → jd_fd t n (jd_5 a1 a2 a3 a4 a5) (n + 4 * q + k) = jd_byte (jd_5 a1 a2 a3 a4 a5 q) k := by
    intro q k hq hk
    unfold jd_fd
    rw [if_neg (by omega), show (n + 4 * q + k - n) / 4 = q by omega, show (n + 4 * q + k - n) % 4 = k by omega]
  have h' : jc_tape n (jd_fd t n (jd_5 a1 a2 a3 a4 a5)) μ := ⟨h.1, fun i hi => by unfold jd_fd; rw [if_pos hi]; exact h.2 i hi⟩
  refine js_1601 h' (by omega) h1 (fun k hk => hb 0 k (by omega) hk) fun μ1 f1 t1 => ?_
  refine js_1601 t1 (by omega) h2 (fun k hk => hb 1 k (by omega) hk) fun μ2 f2 t2 => ?_
  refine js_1601 t2 (by omega) h3 (fun k hk => hb 2 k (by omega) hk) fun μ3 f3 t3 => ?_
  refine js_1601 t3 (by omega) h4 (fun k hk => hb 3 k (by omega) hk) fun μ4 f4 t4 => ?_
  refine js_1601 t4 (by omega) h5 (fun k hk => hb 4 k (by omega) hk) fun μ5 f5 t5 => ?_
  refine ⟨_, rfl, ?_⟩
  rw [t5.1]
  exact H μ5 (jf_trans f1 (jf_trans f2 (jf_trans f3 (jf_trans f4 f5)))) (by omega) t5
theorem js_2402 {a1 a2 a3 a4 a5 : Int} (h : jm_tape n t μ) (hk : jd_tok n t) (h1 : qm_r32 a1) (h2 : qm_r32 a2) (h3 : qm_r32 a3) (h4 : qm_r32 a4) (h5 : qm_r32 a5) (H : ∀ μ', jd_fm [1] [46] μ μ' → n + 20 ≤ 1600 → jm_tape (n + 20) (jd_fd t n (jd_5 a1 a2 a3 a4 a5)) μ' → Q ((n + 20 : Nat) : Int) μ') (H0 : ¬ n + 20 ≤ 1600 → Q (-1) μ) : qm_CI (qb_T L) d 2402 [qm_P 13, qm_I a1, qm_I a2, qm_I a3, qm_I a4, qm_I a5] μ Q := by
  have hn := hk.1
  refine b2402_0 μ _ _ _ _ _ _ ?_
  rw [h.1]
  refine ⟨by omega, fun hl => ?_, fun hl => ⟨_, rfl, H0 (by omega)⟩⟩
  have h' : jm_tape n (jd_fd t n (jd_5 a1 a2 a3 a4 a5)) μ := ⟨h.1, fun i hi => by unfold jd_fd; rw [if_pos hi]; exact h.2 i hi⟩
  refine jl_loop (S := fun i => ∀ μ' w, jd_fm [1] [46] μ μ' → jm_tape (n + i) (jd_fd t n (jd_5 a1 a2 a3 a4 a5)) μ' → qm_W (qb_T L) d 2402 18 [qm_P 13, qm_I a1, qm_I a2, qm_I a3, qm_I a4, qm_I a5, qm_I ((i : Nat) : Int), w] [] μ' (fun v μ' => ∃ r, v = some (.inl r) ∧ Q r μ')) 20 (fun i hi ih μ' w hf ht => ?_) (fun μ' w hf ht => ?_) μ none (jg_refl _ _ _) h'
  · have go : ∀ x, jd_5 a1 a2 a3 a4 a5 (i / 4) = x → qm_r32 x → qm_W (qb_T L) d 2402 71 [qm_P 13, qm_I a1, qm_I a2, qm_I a3, qm_I a4, qm_I a5, qm_I ((i : Nat) : Int), w] [qm_I x] μ' (fun v μ' => ∃ r, v = some (.inl r) ∧ Q r μ') := by
      intro x hx hr
      refine b2402_71 μ' _ _ _ _ _ _ _ _ _ ?_
      rw [ht.1, Int.toNat_natCast, qa_rem (by omega) (by omega) (by decide) (by decide), show (8 : Int) * (3 - (i : Int) % 4) = ((8 * (3 - i % 4) : Nat) : Int) by omega, qa_and255, qa_shr hr (by omega)]
      refine ⟨by omega, ih _ _ (jg_f (jg_c hf rfl rfl) rfl) ⟨jl_ss _ _ _ _, fun j hj => ?_⟩⟩
      rw [jl_sn _ _ _ (by decide)]
      by_cases hjn : j = n + i
      · rw [hjn, jl_ss]
        unfold jd_fd jd_byte
        rw [if_neg (by omega), show n + i - n = i by omega, hx]
      · rw [jl_sk _ _ _ hjn]; exact ht.2 j (by omega)
    refine b2402_18 μ' _ _ _ _ _ _ _ _ ⟨by omega, fun q => absurd q (by omega), fun _ => ⟨by omega, fun q1 => ⟨by omega, fun q2 => ⟨by omega, fun q3 => ⟨by omega, fun q4 => go _ ?_ h5, fun q4 => go _ ?_ h4⟩, fun q3 => go _ ?_ h3⟩, fun q2 => go _ ?_ h2⟩, fun q1 => go _ ?_ h1⟩⟩
    · rw [show i / 4 = 4 by omega]; rfl
    · rw [show i / 4 = 3 by omega]; rfl
    · rw [show i / 4 = 2 by omega]; rfl
    · rw [show i / 4 = 1 by omega]; rfl
    · rw [show i / 4 = 0 by omega]; rfl
  · refine b2402_18 μ' _ _ _ _ _ _ _ _ ?_
    rw [ht.1]
    exact ⟨by decide, fun _ => ⟨_, rfl, H μ' hf (by omega) ht⟩, fun q => absurd (by decide) q⟩
theorem js_2202 {a : Int} (h : jc_tape n t μ) (hk : jd_tok n t) (ha : qm_r32 a) (H : ∀ (m : Nat) μ', a = (m : Int) → m ≤ n → jd_fr [1] μ μ' → jc_tape m t μ' → Q 1 μ') (H0 : (a < 0 ∨ (n : Int) < a) → Q 0 μ) : qm_CI (qb_T L) d 2202 [qm_P 0, qm_I a] μ Q := by
  have hn := hk.1
  refine b2202_0 μ _ _ ?_
  rw [h.1]
  refine ⟨ha, fun q => ⟨_, rfl, H0 (by omega)⟩, fun q => ⟨ha, by omega, fun q2 => ⟨_, rfl, ?_⟩, fun q2 => ⟨_, rfl, H0 (by omega)⟩⟩⟩
  refine H a.toNat _ (by omega) (by omega) (jf_set (jf_refl _ _) rfl) ⟨?_, fun i hi => ?_⟩
  · rw [jl_ss]; omega
  · rw [jl_sn _ _ _ (by decide)]; exact h.2 i (by omega)
theorem js_2403 {a : Int} (h : jm_tape n t μ) (hk : jd_tok n t) (ha : qm_r32 a) (H : ∀ (m : Nat) μ', a = (m : Int) → m ≤ n → jd_fm [1] [] μ μ' → jm_tape m t μ' → Q 1 μ') (H0 : (a < 0 ∨ (n : Int) < a) → Q 0 μ) : qm_CI (qb_T L) d 2403 [qm_P 13, qm_I a] μ Q := by
  have hn := hk.1
  refine b2403_0 μ _ _ ?_
  rw [h.1]
  refine ⟨ha, fun q => ⟨_, rfl, H0 (by omega)⟩, fun q => ⟨ha, by omega, fun q2 => ⟨_, rfl, ?_⟩, fun q2 => ⟨_, rfl, H0 (by omega)⟩⟩⟩
  refine H a.toNat _ (by omega) (by omega) (jg_f (jg_refl _ _ _) rfl) ⟨?_, fun i hi => ?_⟩
  · rw [jl_ss]; omega
  · rw [jl_sn _ _ _ (by decide)]; exact h.2 i (by omega)
/-! faults told, bytes of images told -/
def jd_flt (f p a : Int) : Int := if a = 0 then f else if a = 1 then p else -1
theorem js_2204 {a f p : Int} (h1 : μ 2 6 = f) (h2 : μ 2 7 = p) (ha : qm_r32 a) (H : Q (jd_flt f p a) μ) : qm_CI (qb_T L) d 2204 [qm_P 0, qm_I a] μ Q := by
  refine b2204_0 μ _ _ ?_
  rw [h1, h2]
  unfold jd_flt at H
  refine ⟨ha, fun q => ⟨_, rfl, ?_⟩, fun q => ⟨_, rfl, ?_⟩, fun q q2 => ⟨_, rfl, ?_⟩⟩
  · rw [if_pos q] at H; exact H
  · rw [if_neg (by omega), if_pos q] at H; exact H
  · rw [if_neg q, if_neg q2] at H; exact H
theorem js_2434 {a f p : Int} (h1 : μ 13 7 = f) (h2 : μ 13 8 = p) (ha : qm_r32 a) (H : Q (jd_flt f p a) μ) : qm_CI (qb_T L) d 2434 [qm_P 13, qm_I a] μ Q := by
  refine b2434_0 μ _ _ ?_
  rw [h1, h2]
  unfold jd_flt at H
  refine ⟨ha, fun q => ⟨_, rfl, ?_⟩, fun q => ⟨ha, fun q2 => ⟨_, rfl, ?_⟩, fun q2 => ⟨_, rfl, ?_⟩⟩⟩
  · rw [if_pos q] at H; exact H
  · rw [if_neg (by omega), if_pos q2] at H; exact H
  · rw [if_neg q, if_neg q2] at H; exact H
def jd_oct (n : Nat) (o : Nat → Int) (a : Int) : Int := if a < 0 ∨ (n : Int) ≤ a then -1 else o a.toNat
theorem js_2227 {a : Int} {o : Nat → Int} (hn : n ≤ 522) (h1 : μ 12 1 = (n : Int)) (h2 : ∀ i, i < n → μ 45 i = o i) (ha : qm_r32 a) (H : Q (jd_oct n o a) μ) : qm_CI (qb_T L) (d + 2) 2227 [qm_P 0, qm_I a] μ Q := by
  refine b2227_0 μ _ _ ?_
  rw [h1]
  unfold jd_oct at H
  refine ⟨ha, fun q => b2227_15 μ _ _ ⟨_, rfl, ?_⟩, fun q => ⟨ha, by omega, fun q2 => ?_, fun q2 => b2227_15 μ _ _ ⟨_, rfl, ?_⟩⟩⟩
  · rw [if_pos (by omega)] at H; exact H
  · rw [if_neg (by omega)] at H
    refine b601_0 μ _ _ (js_401i a.toNat rfl (by decide) (by omega) (by omega) ⟨_, rfl, _, rfl, ?_⟩)
    rw [h2 _ (by omega)]; exact H
  · rw [if_pos (by omega)] at H; exact H
theorem js_2523 {a : Int} {o : Nat → Int} (hn : n ≤ 522) (h1 : μ 13 75 = (n : Int)) (h2 : ∀ i, i < n → μ 94 i = o i) (ha : qm_r32 a) (H : Q (jd_oct n o a) μ) : qm_CI (qb_T L) d 2523 [qm_P 13, qm_I a] μ Q := by
  refine b2523_0 μ _ _ ?_
  rw [h1]
  unfold jd_oct at H
  refine ⟨ha, fun q => ⟨_, rfl, ?_⟩, fun q => ⟨ha, by omega, fun q2 => ⟨_, rfl, ?_⟩, fun q2 => ⟨by omega, _, rfl, ?_⟩⟩⟩
  · rw [if_pos (by omega)] at H; exact H
  · rw [if_pos (by omega)] at H; exact H
  · rw [if_neg (by omega)] at H
    rw [h2 _ (by omega)]; exact H
theorem js_1602 {a : Int} (k : Nat) (h : jc_tape n t μ) (hk : jd_tok n t) (ha : a = (k : Int)) (hn : k < n) (H : Q (t k) μ) : qm_CI (qb_T L) d 1602 [qm_P 1, qm_I a] μ Q := by
  subst ha
  have h1 := hk.1
  refine b1602_0 μ _ _ ?_
  rw [h.1, Int.toNat_natCast, h.2 k hn]
  exact ⟨by omega, fun q => absurd q (by omega), fun _ => ⟨by omega, by omega, fun q => absurd q (by omega), fun _ => ⟨by omega, fun q => absurd q (by omega), fun _ => ⟨by omega, _, rfl, H⟩⟩⟩⟩
theorem js_1602e {a : Int} (h : jc_tape n t μ) (hk : jd_tok n t) (ha : qm_r32 a) (hn : (n : Int) ≤ a) (H : Q (-1) μ) : qm_CI (qb_T L) d 1602 [qm_P 1, qm_I a] μ Q := by
  have h1 := hk.1
  refine b1602_0 μ _ _ ?_
  rw [h.1]
  exact ⟨ha, fun q => absurd q (by omega), fun _ => ⟨ha, by omega, fun _ => ⟨_, rfl, H⟩, fun q => absurd hn q⟩⟩
end
