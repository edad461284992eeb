/-! ===== the class's ways told ===== -/
theorem jl_Pbt (lm : Int) (th sf sb : Nat → Nat → Int) (bo bt bt' : Int) (c k : Nat) : jd_P lm th sf sb bo (-1) bt c k = jd_P lm th sf sb bo (-1) bt' c k := by
  funext r b t
  refine propext ⟨fun z => ⟨z.1, z.2.1, z.2.2.1, fun q => by omega⟩, fun z => ⟨z.1, z.2.1, z.2.2.1, fun q => by omega⟩⟩
/-- what woven answers -/
def jd_wov (nc : Nat) (lm : Int) (th sf sb : Nat → Nat → Int) (s : Nat) (a co wh v : Int) : Prop :=
  (((a < 0 ∨ (nc : Int) ≤ a) ∨ co < -1 ∨ 3 < co ∨ s = 0 ∨ wh < 0 ∨ 2 < wh) ∧ v = -1) ∨ (∃ c : Nat, a = (c : Int) ∧ c < nc ∧ (-1 ≤ co ∧ co ≤ 3) ∧ 0 < s ∧ ((wh = 0 ∧ v = jd_num lm th sf sb 0 (-1) 0 c s co) ∨ (wh = 1 ∧ jd_few lm th sf sb 0 (-1) 0 c s co 4 v) ∨ (wh = 2 ∧ jd_evn lm th sf sb 0 (-1) 0 c s co 4 ∧ v = 1) ∨ (wh = 2 ∧ ¬ jd_evn lm th sf sb 0 (-1) 0 c s co 4 ∧ v = 0)))
theorem jl_wov {nc : Nat} {lm : Int} {th sf sb : Nat → Nat → Int} {s : Nat} {a co wh v v' : Int} (h1 : jd_wov nc lm th sf sb s a co wh v) (h2 : jd_wov nc lm th sf sb s a co wh v') : v = v' := by
  rcases h1 with ⟨p, q⟩ | ⟨c, p1, p2, p3, p4, p5⟩ <;> rcases h2 with ⟨p', q'⟩ | ⟨c', p1', p2', p3', p4', p5'⟩
  · omega
  · exfalso
    rcases p5' with ⟨z, _⟩ | ⟨z, _⟩ | ⟨z, _⟩ | ⟨z, _⟩ <;> omega
  · exfalso
    rcases p5 with ⟨z, _⟩ | ⟨z, _⟩ | ⟨z, _⟩ | ⟨z, _⟩ <;> omega
  · obtain rfl : c = c' := by omega
    rcases p5 with ⟨z, x⟩ | ⟨z, x⟩ | ⟨z, x, y⟩ | ⟨z, x, y⟩ <;> rcases p5' with ⟨z', x'⟩ | ⟨z', x'⟩ | ⟨z', x', y'⟩ | ⟨z', x', y'⟩
    all_goals first | omega | skip
    · exact jl_few x x'
    · exact absurd x x'
    · exact absurd x' x
def jd_both (nc : Nat) (lm : Int) (th sf sb : Nat → Nat → Int) (s s1 : Nat) (a co v : Int) : Prop :=
  (((a < 0 ∨ (nc : Int) ≤ a) ∨ co < -1 ∨ 3 < co ∨ s = 0 ∨ s ≠ s1) ∧ v = -1) ∨ (∃ c : Nat, a = (c : Int) ∧ c < nc ∧ (-1 ≤ co ∧ co ≤ 3) ∧ 0 < s ∧ s = s1 ∧ v = jd_num lm th sf sb 1 (-1) 0 c s co)
theorem jl_both {nc : Nat} {lm : Int} {th sf sb : Nat → Nat → Int} {s s1 : Nat} {a co v v' : Int} (h1 : jd_both nc lm th sf sb s s1 a co v) (h2 : jd_both nc lm th sf sb s s1 a co v') : v = v' := by
  rcases h1 with ⟨p, q⟩ | ⟨c, p1, p2, p3, p4, p5, p6⟩ <;> rcases h2 with ⟨p', q'⟩ | ⟨c', p1', p2', p3', p4', p5', p6'⟩
  · omega
  · omega
  · omega
  · obtain rfl : c = c' := by omega
    omega
def jd_brd (nc : Nat) (lm : Int) (th sf sb : Nat → Nat → Int) (s : Nat) (wh v : Int) : Prop :=
  ((s = 0 ∨ wh < 0 ∨ 1 < wh) ∧ v = -1) ∨ (0 < s ∧ wh = 0 ∧ jd_fb nc lm th sf sb s v) ∨ (0 < s ∧ wh = 1 ∧ ((v = -1 ∧ jd_fb nc lm th sf sb s (-1)) ∨ ∃ c : Nat, jd_fb nc lm th sf sb s (c : Int) ∧ ∃ n : Nat, v = (n : Int) ∧ jd_hws lm th sf sb 0 (-1) 0 c 4 n ∧ ¬ jd_hws lm th sf sb 0 (-1) 0 c 4 (n + 1)))
theorem jl_fb {nc : Nat} {lm : Int} {th sf sb : Nat → Nat → Int} {s : Nat} {v v' : Int} (h1 : jd_fb nc lm th sf sb s v) (h2 : jd_fb nc lm th sf sb s v') : v = v' := by
  rcases h1 with ⟨a, b⟩ | ⟨c, a, b, e, g⟩ <;> rcases h2 with ⟨a2, b2⟩ | ⟨c2, a2, b2, e2, g2⟩
  · omega
  · exact absurd (b c2 b2) e2
  · exact absurd (b2 c b) e
  · rcases Nat.lt_trichotomy c c2 with q | q | q
    · exact absurd (g2 c q) e
    · omega
    · exact absurd (g c2 q) e2
theorem jl_hwn {lm : Int} {th sf sb : Nat → Nat → Int} {br bt : Int} {c n n2 : Nat} (e : jd_hws lm th sf sb 0 br bt c 4 n) (g : ¬ jd_hws lm th sf sb 0 br bt c 4 (n + 1)) (e2 : jd_hws lm th sf sb 0 br bt c 4 n2) (g2 : ¬ jd_hws lm th sf sb 0 br bt c 4 (n2 + 1)) : n = n2 := by
  rcases Nat.lt_trichotomy n n2 with q | q | q
  · exact absurd (jl_hwsm (n2 - (n + 1)) (by rw [show n + 1 + (n2 - (n + 1)) = n2 by omega]; exact e2)) g
  · exact q
  · exact absurd (jl_hwsm (n - (n2 + 1)) (by rw [show n2 + 1 + (n - (n2 + 1)) = n by omega]; exact e)) g2
theorem jl_brd {nc : Nat} {lm : Int} {th sf sb : Nat → Nat → Int} {s : Nat} {wh v v' : Int} (h1 : jd_brd nc lm th sf sb s wh v) (h2 : jd_brd nc lm th sf sb s wh v') : v = v' := by
  rcases h1 with h1 | h1 | h1 <;> rcases h2 with h2 | h2 | h2
  · have := h1.2; have := h2.2; omega
  · have := h1.1; have := h2.1; have := h2.2.1; omega
  · have := h1.1; have := h2.1; have := h2.2.1; omega
  · have := h2.1; have := h1.1; have := h1.2.1; omega
  · exact jl_fb h1.2.2 h2.2.2
  · have := h1.2.1; have := h2.2.1; omega
  · have := h2.1; have := h1.1; have := h1.2.1; omega
  · have := h1.2.1; have := h2.2.1; omega
  · obtain ⟨_, _, y⟩ := h1
    obtain ⟨_, _, y'⟩ := h2
    rcases y with ⟨a, b⟩ | ⟨c, a, n, b, e, g⟩ <;> rcases y' with ⟨a2, b2⟩ | ⟨c2, a2, n2, b2, e2, g2⟩
    · omega
    · have := jl_fb b a2; omega
    · have := jl_fb a b2; omega
    · have := jl_fb a a2
      obtain rfl : c = c2 := by omega
      have := jl_hwn e g e2 g2
      omega
def jd_onb (lm : Int) (th sf sb : Nat → Nat → Int) (c s r b : Nat) : Prop := ∃ k w, k < 4 ∧ w < 2 ^ s ∧ jd_way (jd_P lm th sf sb 0 (-1) 0 c k) s w ∧ jd_bit w r = b
def jd_sur (nc : Nat) (lm : Int) (th sf sb : Nat → Nat → Int) (s : Nat) (a r v : Int) : Prop :=
  (((a < 0 ∨ (nc : Int) ≤ a) ∨ r < 0 ∨ (s : Int) ≤ r) ∧ v = -1) ∨ (∃ c q : Nat, a = (c : Int) ∧ c < nc ∧ r = (q : Int) ∧ q < s ∧ ((¬ jd_onb lm th sf sb c s q 0 ∧ ¬ jd_onb lm th sf sb c s q 1 ∧ v = -1) ∨ (jd_onb lm th sf sb c s q 0 ∧ ¬ jd_onb lm th sf sb c s q 1 ∧ v = 1) ∨ (¬ jd_onb lm th sf sb c s q 0 ∧ jd_onb lm th sf sb c s q 1 ∧ v = 2) ∨ (jd_onb lm th sf sb c s q 0 ∧ jd_onb lm th sf sb c s q 1 ∧ v = 0)))
theorem jl_sur {nc : Nat} {lm : Int} {th sf sb : Nat → Nat → Int} {s : Nat} {a r v v' : Int} (h1 : jd_sur nc lm th sf sb s a r v) (h2 : jd_sur nc lm th sf sb s a r v') : v = v' := by
  rcases h1 with ⟨p, q⟩ | ⟨c, q, p1, p2, p3, p4, p5⟩ <;> rcases h2 with ⟨p', q'⟩ | ⟨c', q', p1', p2', p3', p4', p5'⟩
  · omega
  · omega
  · omega
  · obtain rfl : c = c' := by omega
    obtain rfl : q = q' := by omega
    rcases p5 with ⟨x, y, z⟩ | ⟨x, y, z⟩ | ⟨x, y, z⟩ | ⟨x, y, z⟩ <;> rcases p5' with ⟨x', y', z'⟩ | ⟨x', y', z'⟩ | ⟨x', y', z'⟩ | ⟨x', y', z'⟩
    all_goals first | omega | exact absurd x x' | exact absurd x' x | exact absurd y y' | exact absurd y' y
section
variable {L d nc nr s s1 : Nat} {lm : Int} {sd : Nat → Int} {th T sf sb : Nat → Nat → Int} {μ : qm_M} {Q : Int → qm_M → Prop} {V : qm_M → Prop} {nco bo br bt : Int}
theorem jl_num1 (lm : Int) (th sf sb : Nat → Nat → Int) (bo bt bt' : Int) (c s : Nat) (co : Int) : jd_num lm th sf sb bo (-1) bt c s co = jd_num lm th sf sb bo (-1) bt' c s co := by
  unfold jd_num
  refine jl_sume _ fun k hk => ?_
  rw [jl_Pbt lm th sf sb bo bt bt']
theorem jl_hws1 (lm : Int) (th sf sb : Nat → Nat → Int) (bo bt bt' : Int) (c m n : Nat) : jd_hws lm th sf sb bo (-1) bt c m n ↔ jd_hws lm th sf sb bo (-1) bt' c m n := by
  unfold jd_hws
  constructor
  · rintro ⟨k, w, h1, h2, h3⟩
    rw [jl_Pbt lm th sf sb bo bt bt'] at h3
    exact ⟨k, w, h1, h2, h3⟩
  · rintro ⟨k, w, h1, h2, h3⟩
    rw [jl_Pbt lm th sf sb bo bt' bt] at h3
    exact ⟨k, w, h1, h2, h3⟩
theorem jl_evn1 (lm : Int) (th sf sb : Nat → Nat → Int) (bo bt bt' : Int) (c s : Nat) (co : Int) (m : Nat) : jd_evn lm th sf sb bo (-1) bt c s co m ↔ jd_evn lm th sf sb bo (-1) bt' c s co m := by
  unfold jd_evn
  constructor
  · rintro ⟨k, w, h1, h2, h3, h4, h5⟩
    rw [jl_Pbt lm th sf sb bo bt bt'] at h4
    exact ⟨k, w, h1, h2, h3, h4, h5⟩
  · rintro ⟨k, w, h1, h2, h3, h4, h5⟩
    rw [jl_Pbt lm th sf sb bo bt' bt] at h4
    exact ⟨k, w, h1, h2, h3, h4, h5⟩
theorem jl_few1 {lm : Int} {th sf sb : Nat → Nat → Int} {bo bt : Int} (bt' : Int) {c s : Nat} {co : Int} {m : Nat} {v : Int} (h : jd_few lm th sf sb bo (-1) bt c s co m v) : jd_few lm th sf sb bo (-1) bt' c s co m v := by
  have e := fun k => jl_Pbt lm th sf sb bo bt bt' c k
  rcases h with ⟨a, b⟩ | ⟨a, ⟨k, w, b1, b2, b3, b4, b5⟩, g⟩
  · exact Or.inl ⟨a, fun k w h1 h2 h3 => by rw [← e]; exact b k w h1 h2 h3⟩
  · exact Or.inr ⟨a, ⟨k, w, b1, b2, b3, by rw [← e]; exact b4, b5⟩, fun k w h1 h2 h3 h4 => g k w h1 h2 h3 (by rw [e]; exact h4)⟩
/-- what holds between calls -/
def jc_w0 (nc nr : Nat) (lm : Int) (sd : Nat → Int) (th T : Nat → Nat → Int) (s s1 : Nat) (sf sb : Nat → Nat → Int) (μ : qm_M) : Prop := jc_belt nc nr lm sd th T μ ∧ jc_st 8 37 nc s sf μ ∧ jc_st 9 38 nc s1 sb μ ∧ μ 10 6 = -1 ∧ qm_r32 (μ 10 7)
def jd_w0 (nc nr : Nat) (lm : Int) (sd : Nat → Int) (th T : Nat → Nat → Int) (s s1 : Nat) (sf sb : Nat → Nat → Int) (nco : Int) : Prop := jd_ok nc nr lm sd th T ∧ jd_sok nc s nco sf ∧ jd_sok nc s1 nco sb ∧ nco ≤ 6
theorem jl_w0 (h : jc_w0 nc nr lm sd th T s s1 sf sb μ) (hk : jd_w0 nc nr lm sd th T s s1 sf sb nco) : jc_w nc nr lm sd th T s sf sb 0 (-1) (μ 10 7) μ ∧ jd_wk nc nr lm sd th T s sf sb 0 (-1) (μ 10 7) nco :=
  ⟨⟨h.1, h.2.1, fun q => absurd rfl q, h.2.2.2.1, rfl⟩, ⟨hk.1, hk.2.1, fun q => absurd rfl q, hk.2.2.2, Or.inl rfl, by decide, h.2.2.2.2⟩⟩
theorem jl_num_b {c : Nat} {co : Int} (hs : s ≤ 12) : 0 ≤ jd_num lm th sf sb bo br bt c s co ∧ jd_num lm th sf sb bo br bt c s co ≤ 100000 := by
  have h := jl_sumb (f := fun k => jd_cl (jd_mn co k) * jd_sum (fun w => jd_cl (jd_way (jd_P lm th sf sb bo br bt c k) s w)) (2 ^ s)) (b := 4096) (fun k => by
    have h1 := jl_sumb (f := fun w => jd_cl (jd_way (jd_P lm th sf sb bo br bt c k) s w)) (b := 1) (fun w => jl_clb _) (2 ^ s)
    have h2 : 2 ^ s ≤ 2 ^ 12 := Nat.pow_le_pow_right (by decide) hs
    by_cases q : jd_mn co k
    · rw [jl_cl1 q]; omega
    · rw [jl_cl0 q]; omega) 4
  unfold jd_num
  omega
theorem js_2217 {a co wh : Int} (h : jc_w0 nc nr lm sd th T s s1 sf sb μ) (hk : jd_w0 nc nr lm sd th T s s1 sf sb nco) (ha : qm_r32 a) (hco : qm_r32 co) (hwh : qm_r32 wh) (H : ∀ v μ', qm_r32 v → jd_fr [39, 40] μ μ' → jd_wov nc lm th sf sb s a co wh v → Q v μ') : qm_CI (qb_T L) (d + 6) 2217 [qm_P 0, qm_I a, qm_I co, qm_I wh] μ Q := by
  obtain ⟨w1, k1⟩ := jl_w0 h hk
  have hs := hk.2.1.1
  have no : ((a < 0 ∨ (nc : Int) ≤ a) ∨ co < -1 ∨ 3 < co ∨ s = 0 ∨ wh < 0 ∨ 2 < wh) → ∃ r, qm_I (-1) = some (.inl r) ∧ Q r μ := fun z => ⟨_, rfl, H _ μ (by decide) (jf_refl _ _) (Or.inl ⟨z, rfl⟩)⟩
  refine b2217_0 μ _ _ _ _ (js_205 h.1 hk.1 ha (fun c hac hc => ⟨by decide, fun q => absurd q (by decide), fun _ => ?_⟩) (fun h0 => ⟨by decide, fun _ => no (Or.inl h0), fun q => absurd rfl q⟩))
  subst hac
  rw [h.2.1.1]
  refine ⟨hco, fun z => no (by omega), fun z => ⟨hco, fun z2 => no (by omega), fun z2 => ⟨by omega, fun z3 => no (by omega), fun z3 => ⟨hwh, fun z4 => ?_, fun z4 => ?_, fun z4 => ?_, fun z4 => no (by omega)⟩⟩⟩⟩
  · refine js_1807 w1 k1 hc hco fun μ' hf => ⟨_, rfl, H _ μ' ?_ hf (Or.inr ⟨c, rfl, hc, by omega, by omega, Or.inl ⟨z4, jl_num1 _ _ _ _ _ _ _ _ _ _⟩⟩)⟩
    have := jl_num_b (lm := lm) (th := th) (sf := sf) (sb := sb) (bo := 0) (br := -1) (bt := μ 10 7) (c := c) (co := co) hs
    omega
  · exact js_1808 w1 k1 hc hco fun v μ' hv hf hw => ⟨_, rfl, H _ μ' hv hf (Or.inr ⟨c, rfl, hc, by omega, by omega, Or.inr (Or.inl ⟨z4, jl_few1 0 hw⟩)⟩)⟩
  · refine js_1809 w1 k1 hc hco (fun μ' hf he => ⟨by decide, fun q => absurd q (by decide), fun _ => ⟨_, rfl, H _ μ' (by decide) hf (Or.inr ⟨c, rfl, hc, by omega, by omega, Or.inr (Or.inr (Or.inl ⟨z4, (jl_evn1 _ _ _ _ _ _ _ _ _ _ _).mp he, rfl⟩))⟩)⟩⟩) (fun μ' hf he => ⟨by decide, fun _ => ⟨_, rfl, H _ μ' (by decide) hf (Or.inr ⟨c, rfl, hc, by omega, by omega, Or.inr (Or.inr (Or.inr ⟨z4, fun y => he ((jl_evn1 _ _ _ _ _ _ _ _ _ _ _).mp y), rfl⟩))⟩)⟩, fun q => absurd rfl q⟩)
theorem js_2220 {a co : Int} (h : jc_w0 nc nr lm sd th T s s1 sf sb μ) (hk : jd_w0 nc nr lm sd th T s s1 sf sb nco) (ha : qm_r32 a) (hco : qm_r32 co) (H : ∀ v μ', qm_r32 v → jd_fr [39, 40] μ μ' → jd_both nc lm th sf sb s s1 a co v → Q v μ') : qm_CI (qb_T L) (d + 6) 2220 [qm_P 0, qm_I a, qm_I co] μ Q := by
  have hs := hk.2.1.1
  have hs1 := hk.2.2.1.1
  have no : ((a < 0 ∨ (nc : Int) ≤ a) ∨ co < -1 ∨ 3 < co ∨ s = 0 ∨ s ≠ s1) → ∃ r, qm_I (-1) = some (.inl r) ∧ Q r μ := fun z => ⟨_, rfl, H _ μ (by decide) (jf_refl _ _) (Or.inl ⟨z, rfl⟩)⟩
  refine b2220_0 μ _ _ _ (js_205 h.1 hk.1 ha (fun c hac hc => ⟨by decide, fun q => absurd q (by decide), fun _ => ?_⟩) (fun h0 => ⟨by decide, fun _ => no (Or.inl h0), fun q => absurd rfl q⟩))
  subst hac
  rw [h.2.1.1, h.2.2.1.1]
  refine ⟨hco, fun z => no (by omega), fun z => ⟨hco, fun z2 => no (by omega), fun z2 => ⟨by omega, fun z3 => no (by omega), fun z3 => ⟨by omega, by omega, fun z4 => ?_, fun z4 => no (by omega)⟩⟩⟩⟩
  obtain rfl : s = s1 := by omega
  refine js_1807 (bo := 1) (bt := μ 10 7) (br := -1) ⟨h.1, h.2.1, fun _ => h.2.2.1, h.2.2.2.1, rfl⟩ ⟨hk.1, hk.2.1, fun _ => hk.2.2.1, hk.2.2.2, Or.inr rfl, by decide, h.2.2.2.2⟩ hc hco fun μ' hf => ⟨_, rfl, H _ μ' ?_ hf (Or.inr ⟨c, rfl, hc, by omega, by omega, rfl, jl_num1 _ _ _ _ _ _ _ _ _ _⟩)⟩
  have := jl_num_b (lm := lm) (th := th) (sf := sf) (sb := sb) (bo := 1) (br := -1) (bt := μ 10 7) (c := c) (co := co) hs
  omega
theorem jl_w0f {μ' : qm_M} (h : jc_w0 nc nr lm sd th T s s1 sf sb μ) (hf : jd_fr [39, 40, 41] μ μ') : jc_w0 nc nr lm sd th T s s1 sf sb μ' := by
  unfold jc_w0 jc_belt jc_st at *
  rw [hf 6 rfl, hf 31 rfl, hf 32 rfl, hf 33 rfl, hf 34 rfl, hf 8 rfl, hf 9 rfl, hf 10 rfl, hf 37 rfl, hf 38 rfl]
  exact h
theorem js_1811 (h : jc_w0 nc nr lm sd th T s s1 sf sb μ) (hk : jd_w0 nc nr lm sd th T s s1 sf sb nco) (H : ∀ v μ', -1 ≤ v ∧ v < 8 → jd_fr [39, 40] μ μ' → jd_fb nc lm th sf sb s v → Q v μ') : qm_CI (qb_T L) (d + 6) 1811 [qm_P 10] μ Q := by
  have h1 := hk.1.1
  refine b1811_0 μ _ ?_
  refine jl_loop (S := fun i => ∀ μ', jd_fr [39, 40] μ μ' → (∀ c, c < i → jd_hws lm th sf sb 0 (-1) 0 c 4 s) → qm_W (qb_T L) (d + 6) 1811 2 [qm_P 10, qm_I ((i : Nat) : Int)] [] μ' (fun v μ' => ∃ r, v = some (.inl r) ∧ Q r μ')) nc (fun i hi ih μ' hf hp => ?_) (fun μ' hf hp => ?_) μ (jf_refl _ _) (fun c hc => absurd hc (by omega))
  · have h' := jl_w0f h (jf_sub hf rfl)
    obtain ⟨w1, k1⟩ := jl_w0 h' hk
    refine b1811_2 μ' _ _ ?_
    rw [h'.1.1]
    refine ⟨by omega, by omega, fun z => absurd z (by omega), fun _ => js_1810 w1 k1 hi fun v μ2 hv hf2 hb => ⟨by omega, fun z => ih μ2 (jf_trans hf hf2) fun c hc => ?_, fun z => ⟨_, rfl, H _ μ2 (by omega) (jf_trans hf hf2) (Or.inr ⟨i, rfl, hi, fun y => ?_, hp⟩)⟩⟩⟩
    · by_cases q : c = i
      · rcases hb with ⟨a, b⟩ | ⟨n, a, _⟩
        · rw [q]; exact (jl_hws1 _ _ _ _ _ _ _ _ _ _).mp b
        · omega
      · exact hp c (by omega)
    · rcases hb with ⟨a, b⟩ | ⟨n, a, b, e, g⟩
      · exact z a
      · refine g ((jl_hws1 _ _ _ _ _ _ 0 _ _ _).mpr (jl_hwsm (s - (n + 1)) ?_))
        rw [show n + 1 + (s - (n + 1)) = s by omega]; exact y
  · have h' := jl_w0f h (jf_sub hf rfl)
    refine b1811_2 μ' _ _ ?_
    rw [h'.1.1]
    exact ⟨by omega, by omega, fun _ => ⟨_, rfl, H _ μ' (by decide) hf (Or.inl ⟨rfl, hp⟩)⟩, fun z => absurd (Int.le_refl _) z⟩
theorem js_2218 {wh : Int} (h : jc_w0 nc nr lm sd th T s s1 sf sb μ) (hk : jd_w0 nc nr lm sd th T s s1 sf sb nco) (hwh : qm_r32 wh) (H : ∀ v μ', qm_r32 v → jd_fr [39, 40] μ μ' → jd_brd nc lm th sf sb s wh v → Q v μ') : qm_CI (qb_T L) (d + 7) 2218 [qm_P 0, qm_I wh] μ Q := by
  have hs := hk.2.1.1
  have no : (s = 0 ∨ wh < 0 ∨ 1 < wh) → ∃ r, qm_I (-1) = some (.inl r) ∧ Q r μ := fun z => ⟨_, rfl, H _ μ (by decide) (jf_refl _ _) (Or.inl ⟨z, rfl⟩)⟩
  refine b2218_0 μ _ _ ?_
  rw [h.2.1.1]
  refine ⟨by omega, fun z => no (by omega), fun z => ⟨hwh, fun z2 => no (by omega), fun z2 => ⟨hwh, fun z3 => ?_, fun z3 => no (by omega)⟩⟩⟩
  refine js_1811 h hk fun v μ' hv hf hb => ⟨hwh, fun z4 => b2218_38 μ' _ _ _ ⟨_, rfl, H _ μ' (by omega) hf (Or.inr (Or.inl ⟨by omega, z4, hb⟩))⟩, fun z4 => ⟨by omega, fun z5 => b2218_38 μ' _ _ _ ⟨_, rfl, H _ μ' (by omega) hf (Or.inr (Or.inr ⟨by omega, by omega, Or.inl ⟨z5, z5 ▸ hb⟩⟩))⟩, fun z5 => ?_⟩⟩
  have h' := jl_w0f h (jf_sub hf rfl)
  obtain ⟨w1, k1⟩ := jl_w0 h' hk
  have hb' := hb
  rcases hb with ⟨a, _⟩ | ⟨c, a, b, e, g⟩
  · exact absurd a z5
  · subst a
    refine js_1810 w1 k1 b fun x μ2 hx hf2 hb2 => ⟨_, rfl, H _ μ2 (by omega) (jf_trans hf hf2) (Or.inr (Or.inr ⟨by omega, by omega, Or.inr ⟨c, hb', ?_⟩⟩))⟩
    rcases hb2 with ⟨a, b2⟩ | ⟨n, a, b2, e2, g2⟩
    · exact absurd ((jl_hws1 _ _ _ _ _ _ _ _ _ _).mp b2) e
    · exact ⟨n, a, (jl_hws1 _ _ _ _ _ _ _ _ _ _).mp e2, fun y => g2 ((jl_hws1 _ _ _ _ _ _ _ _ _ _).mpr y)⟩
theorem jl_waybr {c k w r : Nat} {bt bt0 : Int} (hr : r < s) : jd_way (jd_P lm th sf sb 0 (r : Int) bt c k) s w ↔ jd_way (jd_P lm th sf sb 0 (-1) bt0 c k) s w ∧ bt = (if jd_bit w r = 1 then 2 else 1) := by
  constructor
  · intro h
    refine ⟨fun q hq => ?_, (h r hr).2.2.2 rfl⟩
    have := h q hq
    exact ⟨this.1, this.2.1, this.2.2.1, fun y => by omega⟩
  · rintro ⟨h1, h2⟩ q hq
    have := h1 q hq
    refine ⟨this.1, this.2.1, this.2.2.1, fun y => ?_⟩
    obtain rfl : q = r := by omega
    exact h2
theorem js_1812 {c r : Nat} {tu : Int} (h : jc_w0 nc nr lm sd th T s s1 sf sb μ) (hk : jd_w0 nc nr lm sd th T s s1 sf sb nco) (hc : c < nc) (hr : r < s) (ht : tu = 1 ∨ tu = 2) (H1 : ∀ μ', jd_fr [10, 39, 40] μ μ' → jc_w0 nc nr lm sd th T s s1 sf sb μ' → jd_onb lm th sf sb c s r (if tu = 2 then 1 else 0) → Q 1 μ') (H0 : ∀ μ', jd_fr [10, 39, 40] μ μ' → jc_w0 nc nr lm sd th T s s1 sf sb μ' → ¬ jd_onb lm th sf sb c s r (if tu = 2 then 1 else 0) → Q 0 μ') : qm_CI (qb_T L) (d + 6) 1812 [qm_P 10, qm_I (c : Int), qm_I (r : Int), qm_I tu] μ Q := by
  have hs := hk.2.1.1
  refine b1812_0 μ _ _ _ _ ?_
  have hiff : jd_hws lm th sf sb 0 (r : Int) tu c 4 s ↔ jd_onb lm th sf sb c s r (if tu = 2 then 1 else 0) := by
    unfold jd_hws jd_onb
    constructor
    · rintro ⟨k, w, h1, h2, h3⟩
      obtain ⟨h4, h5⟩ := (jl_waybr (bt0 := 0) hr).mp h3
      refine ⟨k, w, h1, h2, h4, ?_⟩
      have := jl_bit2 w r
      split at h5 <;> split <;> omega
    · rintro ⟨k, w, h1, h2, h3, h4⟩
      refine ⟨k, w, h1, h2, (jl_waybr (bt0 := 0) hr).mpr ⟨h3, ?_⟩⟩
      split at h4 <;> split <;> omega
  have f0 : jd_fr [10, 39, 40] μ (qm_set (qm_set μ 10 6 (r : Int)) 10 7 tu) := jf_set (jf_set (jf_refl _ _) rfl) rfl
  have g6 : (qm_set (qm_set μ 10 6 (r : Int)) 10 7 tu) 10 6 = (r : Int) := by rw [jl_sk _ _ _ (by decide), jl_ss]
  have g7 : (qm_set (qm_set μ 10 6 (r : Int)) 10 7 tu) 10 7 = tu := jl_ss _ _ _ _
  generalize qm_set (qm_set μ 10 6 (r : Int)) 10 7 tu = μ1 at f0 g6 g7 ⊢
  have hw0 : jc_belt nc nr lm sd th T μ1 ∧ jc_st 8 37 nc s sf μ1 ∧ jc_st 9 38 nc s1 sb μ1 := by
    unfold jc_w0 jc_belt jc_st at h
    unfold jc_belt jc_st
    rw [f0 6 rfl, f0 31 rfl, f0 32 rfl, f0 33 rfl, f0 34 rfl, f0 8 rfl, f0 9 rfl, f0 37 rfl, f0 38 rfl]
    exact ⟨h.1, h.2.1, h.2.2.1⟩
  refine js_1810 (sb := sb) (br := (r : Int)) (bt := tu) ⟨hw0.1, hw0.2.1, fun q => absurd rfl q, g6, g7⟩ ⟨hk.1, hk.2.1, fun q => absurd rfl q, hk.2.2.2, Or.inl rfl, by omega, by omega⟩ hc fun v μ2 hv hf2 hb => ?_
  have fin : ∀ z : Int, jd_fr [10, 39, 40] μ (qm_set μ2 10 6 (-1)) ∧ jc_w0 nc nr lm sd th T s s1 sf sb (qm_set μ2 10 6 (-1)) := by
    intro _
    have ff : jd_fr [10, 39, 40] μ (qm_set μ2 10 6 (-1)) := jf_set (jf_trans f0 (jf_sub hf2 rfl)) rfl
    refine ⟨ff, ?_⟩
    unfold jc_w0 jc_belt jc_st at *
    rw [ff 6 rfl, ff 31 rfl, ff 32 rfl, ff 33 rfl, ff 34 rfl, ff 8 rfl, ff 9 rfl, ff 37 rfl, ff 38 rfl]
    refine ⟨h.1, h.2.1, h.2.2.1, jl_ss _ _ _ _, ?_⟩
    rw [jl_sk _ _ _ (by decide), hf2 10 rfl, g7]; omega
  refine ⟨by omega, fun z => b1812_24 μ2 _ _ _ _ _ ⟨Or.inr rfl, _, rfl, H1 _ (fin 0).1 (fin 0).2 (hiff.mp ?_)⟩, fun z => b1812_24 μ2 _ _ _ _ _ ⟨Or.inl rfl, _, rfl, H0 _ (fin 0).1 (fin 0).2 (fun y => ?_)⟩⟩
  · rcases hb with ⟨a, b⟩ | ⟨n, a, _⟩
    · exact b
    · omega
  · rcases hb with ⟨a, b⟩ | ⟨n, a, b, e, g⟩
    · exact z a
    · refine g (jl_hwsm (s - (n + 1)) ?_)
      rw [show n + 1 + (s - (n + 1)) = s by omega]; exact hiff.mpr y
theorem js_2224 {a r : Int} (h : jc_w0 nc nr lm sd th T s s1 sf sb μ) (hk : jd_w0 nc nr lm sd th T s s1 sf sb nco) (ha : qm_r32 a) (hr : qm_r32 r) (H : ∀ v μ', qm_r32 v → jd_fr [10, 39, 40] μ μ' → jc_w0 nc nr lm sd th T s s1 sf sb μ' → jd_sur nc lm th sf sb s a r v → Q v μ') : qm_CI (qb_T L) (d + 7) 2224 [qm_P 0, qm_I a, qm_I r] μ Q := by
  have hs := hk.2.1.1
  have no : ((a < 0 ∨ (nc : Int) ≤ a) ∨ r < 0 ∨ (s : Int) ≤ r) → ∃ x, qm_I (-1) = some (.inl x) ∧ Q x μ := fun z => ⟨_, rfl, H _ μ (by decide) (jf_refl _ _) h (Or.inl ⟨z, rfl⟩)⟩
  refine b2224_0 μ _ _ _ (js_205 h.1 hk.1 ha (fun c hac hc => ⟨by decide, fun q => absurd q (by decide), fun _ => ?_⟩) (fun h0 => ⟨by decide, fun _ => no (Or.inl h0), fun q => absurd rfl q⟩))
  subst hac
  rw [h.2.1.1]
  refine ⟨hr, fun z => no (by omega), fun z => ⟨hr, by omega, fun z2 => no (by omega), fun z2 => ?_⟩⟩
  obtain ⟨q, rfl⟩ := Int.eq_ofNat_of_zero_le (show 0 ≤ r by omega)
  have hq : q < s := by omega
  obtain ⟨w1, k1⟩ := jl_w0 h hk
  refine js_1810 w1 k1 hc fun v μ1 hv hf hb => ⟨by omega, fun z3 => ?_, fun z3 => ⟨_, rfl, H _ μ1 (by decide) (jf_sub hf rfl) (jl_w0f h (jf_sub hf rfl)) (Or.inr ⟨c, q, rfl, hc, rfl, hq, Or.inl ⟨?_, ?_, rfl⟩⟩)⟩⟩
  · have hany : jd_onb lm th sf sb c s q 0 ∨ jd_onb lm th sf sb c s q 1 := by
      rcases hb with ⟨_, b⟩ | ⟨n, a, _⟩
      · obtain ⟨k, w, e1, e2, e3⟩ := (jl_hws1 _ _ _ _ _ _ 0 _ _ _).mp b
        have := jl_bit2 w q
        by_cases y : jd_bit w q = 0
        · exact Or.inl ⟨k, w, e1, e2, e3, y⟩
        · exact Or.inr ⟨k, w, e1, e2, e3, by omega⟩
      · omega
    have h1 := jl_w0f h (jf_sub hf rfl)
    refine js_1812 (tu := 2) h1 hk hc hq (Or.inr rfl) (fun μ2 f2 h2 hy => ⟨by decide, fun y => absurd y (by decide), fun _ => ?_⟩) (fun μ2 f2 h2 hy => ⟨by decide, fun _ => ⟨_, rfl, H _ μ2 (by decide) (jf_trans (jf_sub hf rfl) f2) h2 (Or.inr ⟨c, q, rfl, hc, rfl, hq, Or.inr (Or.inl ⟨?_, hy, rfl⟩)⟩)⟩, fun y => absurd rfl y⟩)
    · refine js_1812 (tu := 1) h2 hk hc hq (Or.inl rfl) (fun μ3 f3 h3 hy3 => ⟨by decide, fun y => absurd y (by decide), fun _ => ⟨_, rfl, H _ μ3 (by decide) (jf_trans (jf_trans (jf_sub hf rfl) f2) f3) h3 (Or.inr ⟨c, q, rfl, hc, rfl, hq, Or.inr (Or.inr (Or.inr ⟨hy3, hy, rfl⟩))⟩)⟩⟩) (fun μ3 f3 h3 hy3 => ⟨by decide, fun _ => ⟨_, rfl, H _ μ3 (by decide) (jf_trans (jf_trans (jf_sub hf rfl) f2) f3) h3 (Or.inr ⟨c, q, rfl, hc, rfl, hq, Or.inr (Or.inr (Or.inl ⟨hy3, hy, rfl⟩))⟩)⟩, fun y => absurd rfl y⟩)
    · rcases hany with y | y
      · exact y
      · exact absurd y hy
  · rintro ⟨k, w, e1, e2, e3, _⟩
    rcases hb with ⟨a, b⟩ | ⟨n, a, b, e, g⟩
    · exact z3 a
    · refine g ((jl_hws1 _ _ _ _ _ _ 0 _ _ _).mpr (jl_hwsm (s - (n + 1)) ?_))
      rw [show n + 1 + (s - (n + 1)) = s by omega]; exact ⟨k, w, e1, e2, e3⟩
  · rintro ⟨k, w, e1, e2, e3, _⟩
    rcases hb with ⟨a, b⟩ | ⟨n, a, b, e, g⟩
    · exact z3 a
    · refine g ((jl_hws1 _ _ _ _ _ _ 0 _ _ _).mpr (jl_hwsm (s - (n + 1)) ?_))
      rw [show n + 1 + (s - (n + 1)) = s by omega]; exact ⟨k, w, e1, e2, e3⟩
end
