/-! ===== the reference's ways ===== -/
def jm_w (nc nr : Nat) (lm : Int) (sd : Nat → Int) (th T : Nat → Nat → Int) (s s1 : Nat) (sf sb : Nat → Nat → Int) (μ : qm_M) : Prop := jm_belt nc nr lm sd th T μ ∧ jm_st 0 nc s sf μ ∧ jm_st 1 nc s1 sb μ
def jd_fewA (A : Nat → Nat → Prop) (lm : Int) (th sf sb : Nat → Nat → Int) (c s : Nat) (v : Int) : Prop := (v = -1 ∧ ∀ k w, A k w → ¬ jd_way (jd_P lm th sf sb 0 (-1) 0 c k) s w) ∨ (0 ≤ v ∧ (∃ k w, A k w ∧ jd_way (jd_P lm th sf sb 0 (-1) 0 c k) s w ∧ ((jd_pn w s : Nat) : Int) = v) ∧ ∀ k w, A k w → jd_way (jd_P lm th sf sb 0 (-1) 0 c k) s w → v ≤ ((jd_pn w s : Nat) : Int))
def jd_evnA (A : Nat → Nat → Prop) (lm : Int) (th sf sb : Nat → Nat → Int) (c s : Nat) : Prop := ∃ k w, A k w ∧ jd_way (jd_P lm th sf sb 0 (-1) 0 c k) s w ∧ jd_tb w s = 0
section
variable {L d nc nr s s1 : Nat} {lm : Int} {sd : Nat → Int} {th T sf sb : Nat → Nat → Int} {μ : qm_M} {Q : Int → qm_M → Prop} {V : qm_M → Prop} {nco bo br bt : Int}
theorem jl_fewe {A B : Nat → Nat → Prop} {c : Nat} {v : Int} (h : ∀ k w, A k w ↔ B k w) (h1 : jd_fewA A lm th sf sb c s v) : jd_fewA B lm th sf sb c s v := by
  rcases h1 with ⟨a, b⟩ | ⟨a, ⟨k, w, b1, b2, b3⟩, g⟩
  · exact Or.inl ⟨a, fun k w q => b k w ((h k w).mpr q)⟩
  · exact Or.inr ⟨a, ⟨k, w, (h k w).mp b1, b2, b3⟩, fun k w q => g k w ((h k w).mpr q)⟩
theorem jl_evne {A B : Nat → Nat → Prop} {c : Nat} (h : ∀ k w, A k w ↔ B k w) : jd_evnA A lm th sf sb c s ↔ jd_evnA B lm th sf sb c s :=
  ⟨fun ⟨k, w, a, b⟩ => ⟨k, w, (h k w).mp a, b⟩, fun ⟨k, w, a, b⟩ => ⟨k, w, (h k w).mpr a, b⟩⟩
theorem jl_mwf {μ' : qm_M} (h : jm_w nc nr lm sd th T s s1 sf sb μ) (hf : jd_fm [43] [71] μ μ') : jm_w nc nr lm sd th T s s1 sf sb μ' := by
  unfold jm_w jm_belt jm_st at *
  rw [hf.1 59 rfl rfl, hf.1 63 rfl rfl, hf.1 61 rfl rfl, hf.1 67 rfl rfl, hf.1 69 rfl rfl, hf.1 70 rfl rfl, hf.2 37 rfl]
  exact h
theorem js_2470 {c k w n : Nat} (h : jm_w nc nr lm sd th T s s1 sf sb μ) (hk : jd_w0 nc nr lm sd th T s s1 sf sb nco) (hb : ¬ bo = 0 → s = s1) (hbo : bo = 0 ∨ bo = 1) (hc : c < nc) (hk4 : k < 4) (hn : n ≤ s) (hw : w < 4096) (H1 : ∀ μ', jd_fm [43] [] μ μ' → jd_way (jd_P lm th sf sb bo (-1) 0 c k) n w → μ' 13 43 = jd_tb w n → Q 1 μ') (H0 : ∀ μ', jd_fm [43] [] μ μ' → ¬ jd_way (jd_P lm th sf sb bo (-1) 0 c k) n w → Q 0 μ') : qm_CI (qb_T L) (d + 1) 2470 [qm_P 13, qm_I (c : Int), qm_I (k : Int), qm_I (w : Int), qm_I (n : Int), qm_I bo] μ Q := by
  have hs := hk.2.1.1
  have hnc := hk.1.1
  have hlm := hk.1.2.2.1
  refine b2470_0 μ _ _ _ _ _ _ ?_
  refine jl_loop (S := fun i => ∀ μ' x, jd_fm [43] [] μ μ' → μ' 13 43 = jd_tb w i → (∀ r, r < i → jd_P lm th sf sb bo (-1) 0 c k r (jd_bit w r) (jd_tb w (r + 1))) → qm_W (qb_T L) (d + 1) 2470 8 [qm_P 13, qm_I (c : Int), qm_I (k : Int), qm_I (w : Int), qm_I (n : Int), qm_I bo, qm_I ((i : Nat) : Int), x] [] μ' (fun v μ' => ∃ r, v = some (.inl r) ∧ Q r μ')) n (fun i hi ih μ' x hf ht hp => ?_) (fun μ' x hf ht hp => ?_) _ none (jg_f (jg_refl _ _ _) rfl) (jl_ss _ _ _ _) (fun r hr => absurd hr (by omega))
  · have hb2 := jl_bit2 w i
    have htb := jl_tb_b w (i + 1)
    have htb0 := jl_tb_b w i
    have go : ∀ z : Int, z = jd_dr (jd_bit w i) → qm_W (qb_T L) (d + 1) 2470 35 [qm_P 13, qm_I (c : Int), qm_I (k : Int), qm_I (w : Int), qm_I (n : Int), qm_I bo, qm_I ((i : Nat) : Int), x] [qm_I z, qm_I (μ' 13 43), qm_P 13] μ' (fun v μ' => ∃ r, v = some (.inl r) ∧ Q r μ') := by
      intro z hz
      have e : μ' 13 43 + z = jd_tb w (i + 1) := by rw [ht, hz]; rfl
      refine b2470_35 μ' _ _ _ _ _ _ _ _ _ _ ?_
      rw [e]
      have hf1 : jd_fm [43] [] μ (qm_set μ' 13 43 (jd_tb w (i + 1))) := jg_f hf rfl
      have h1 := jl_mwf h (jg_sub hf1 rfl rfl)
      have e43 : (qm_set μ' 13 43 (jd_tb w (i + 1))) 13 43 = jd_tb w (i + 1) := jl_ss _ _ _ _
      generalize qm_set μ' 13 43 (jd_tb w (i + 1)) = μ1 at hf1 h1 e43 ⊢
      obtain ⟨m1, m2, m3⟩ := h1
      refine js_2443 (by omega) ?_
      have h63 : μ1 63 1 = lm := by
        rcases m1.2.2.1 with y | y
        · exact y
        · omega
      rw [h63, e43]
      have hthb := fun y => hk.1.2.2.2.2.1 c _ hc (jl_c4 y)
      have hh1 := hthb ((k : Int) + jd_tb w (i + 1))
      have hh2 := hthb ((k : Int) + jd_tb w (i + 1) + 2)
      have no : ¬ jd_P lm th sf sb bo (-1) 0 c k i (jd_bit w i) (jd_tb w (i + 1)) → Q 0 μ1 := fun y => H0 μ1 hf1 fun q => y (q i hi)
      have yes : jd_P lm th sf sb bo (-1) 0 c k i (jd_bit w i) (jd_tb w (i + 1)) → ∀ x', qm_W (qb_T L) (d + 1) 2470 113 [qm_P 13, qm_I (c : Int), qm_I (k : Int), qm_I (w : Int), qm_I (n : Int), qm_I bo, qm_I ((i : Nat) : Int), qm_I x'] [] μ1 (fun v μ' => ∃ r, v = some (.inl r) ∧ Q r μ') := fun y x' => b2470_113 μ1 _ _ _ _ _ _ _ _ (ih μ1 _ hf1 e43 fun r hr => by
        by_cases q : r = i
        · rw [q]; exact y
        · exact hp r (by omega))
      have ea : jd_abs (jd_tb w (i + 1)) ≤ lm ↔ -lm ≤ jd_tb w (i + 1) ∧ jd_tb w (i + 1) ≤ lm := by unfold jd_abs; split <;> omega
      refine ⟨by unfold jd_abs; split <;> omega, by omega, fun y1 => js_2446 (by omega) (js_2447 m1 hk.1 hc (by omega) ?_), fun y1 => ⟨_, rfl, no fun q => y1 (ea.mpr q.1)⟩⟩
      rw [jl_c4e (show ((k : Int) + jd_tb w (i + 1)) % 4 % 4 = ((k : Int) + jd_tb w (i + 1)) % 4 by omega)]
      refine js_2469 m2 hk.2.1 hk.2.2.2 hnc (by decide) rfl (by omega) hc (by omega) (fun y2 => ⟨by decide, fun q => absurd q (by decide), fun _ => ⟨by omega, fun y3 => yes ⟨ea.mp y1, y2, fun q => absurd y3 q, fun q => by omega⟩ _, fun y3 => ?_⟩⟩) (fun y2 => ⟨by decide, fun _ => ⟨_, rfl, no fun q => y2 q.2.1⟩, fun q => absurd rfl q⟩)
      refine js_2447 m1 hk.1 hc (by omega) ?_
      rw [jl_c4e (show (((k : Int) + jd_tb w (i + 1)) % 4 + 2) % 4 = ((k : Int) + jd_tb w (i + 1) + 2) % 4 by omega)]
      have := hb y3
      refine js_2469 m3 hk.2.2.1 hk.2.2.2 hnc (by decide) rfl (by omega) hc (by omega) (fun y4 => ⟨by decide, fun q => absurd q (by decide), fun _ => yes ⟨ea.mp y1, y2, fun _ => y4, fun q => by omega⟩ _⟩) (fun y4 => ⟨by decide, fun _ => ⟨_, rfl, no fun q => y4 (q.2.2.1 y3)⟩, fun q => absurd rfl q⟩)
    refine b2470_8 μ' _ _ _ _ _ _ _ _ ?_
    rw [qa_bit (by omega) (by omega)]
    refine ⟨by omega, by omega, fun q => absurd q (by omega), fun _ => ⟨by omega, fun q => go _ ?_, fun q => go _ ?_⟩⟩
    · unfold jd_dr; rw [if_pos (by omega)]
    · unfold jd_dr; rw [if_neg (by omega)]
  · exact b2470_8 μ' _ _ _ _ _ _ _ _ ⟨by omega, by omega, fun _ => ⟨_, rfl, H1 μ' hf hp ht⟩, fun q => absurd (Int.le_refl _) q⟩
theorem js_2471 {w : Nat} (hw : w < 4096) (H : Q ((jd_pn w 12 : Nat) : Int) μ) : qm_CI (qb_T L) d 2471 [qm_I (w : Int)] μ Q := by
  refine b2471_0 μ _ _ ?_
  have key : ∀ v : Nat, v < 4096 → ∀ a : Int, a + ((jd_pn v 12 : Nat) : Int) = ((jd_pn w 12 : Nat) : Int) → qm_W (qb_T L) d 2471 4 [qm_I (w : Int), qm_I a, qm_I (v : Int)] [] μ (fun v μ' => ∃ r, v = some (.inl r) ∧ Q r μ') := by
    intro v
    induction v using Nat.strongRecOn with
    | ind v ih =>
      intro hv a ha
      refine b2471_4 μ _ _ _ _ ⟨by omega, fun q => ⟨_, rfl, ?_⟩, fun q => ?_⟩
      · obtain rfl : v = 0 := by omega
        have e : jd_pn 0 12 = 0 := by decide
        rw [e] at ha
        rw [show a = ((jd_pn w 12 : Nat) : Int) by omega]; exact H
      · have hk := jl_kern hv (by omega)
        rw [show (v : Int) - 1 = ((v - 1 : Nat) : Int) by omega, qa_and_nat (by omega) (by omega)]
        exact ih _ hk.1 (by omega) _ (by omega)
  exact key w hw 0 (by omega)
theorem js_2472 {co : Int} (hco : qm_r32 co) (H1 : -1 ≤ co ∧ co ≤ 3 → Q 1 μ) (H0 : (co < -1 ∨ 3 < co) → Q 0 μ) : qm_CI (qb_T L) (d + 1) 2472 [qm_P 13, qm_I co] μ Q := by
  refine b2472_0 μ _ _ ⟨hco, b2401_0 μ _ _ _ _ ⟨by omega, by decide, fun q => ⟨_, rfl, by decide, _, rfl, H0 (by omega)⟩, fun q => ⟨by omega, by decide, fun q2 => ⟨_, rfl, by decide, _, rfl, H0 (by omega)⟩, fun q2 => ⟨_, rfl, by decide, _, rfl, H1 (by omega)⟩⟩⟩⟩
/-- the corners meant lie from one to another -/
theorem jl_fl {co : Int} (h : -1 ≤ co ∧ co ≤ 3) : ∃ f l : Nat, f ≤ l ∧ l < 4 ∧ (∀ k : Nat, k < 4 → (jd_mn co k ↔ f ≤ k ∧ k ≤ l)) ∧ (f : Int) = (if co = -1 then 0 else co) ∧ (l : Int) = (if co = -1 then 3 else co) := by
  by_cases q : co = -1
  · exact ⟨0, 3, by decide, by decide, fun k hk => ⟨fun _ => by omega, fun _ => Or.inl q⟩, by rw [if_pos q]; rfl, by rw [if_pos q]; rfl⟩
  · refine ⟨co.toNat, co.toNat, Nat.le_refl _, by omega, fun k hk => ⟨fun z => ?_, fun z => Or.inr (by omega)⟩, by rw [if_neg q]; omega, by rw [if_neg q]; omega⟩
    rcases z with z | z <;> omega
theorem js_2473 {co : Int} {f : Nat} (hco : qm_r32 co) (hf : (f : Int) = (if co = -1 then 0 else co)) (H : Q (f : Int) μ) : qm_CI (qb_T L) d 2473 [qm_I co] μ Q := by
  refine b2473_0 μ _ _ ⟨hco, fun q => ⟨_, rfl, ?_⟩, fun q => ⟨_, rfl, ?_⟩⟩
  · rw [if_pos q] at hf; rw [← hf]; exact H
  · rw [if_neg q] at hf; rw [← hf]; exact H
theorem js_2474 {co : Int} {l : Nat} (hco : qm_r32 co) (hf : (l : Int) = (if co = -1 then 3 else co)) (H : Q (l : Int) μ) : qm_CI (qb_T L) d 2474 [qm_I co] μ Q := by
  refine b2474_0 μ _ _ ⟨hco, fun q => ⟨_, rfl, ?_⟩, fun q => ⟨_, rfl, ?_⟩⟩
  · rw [if_pos q] at hf; rw [← hf]; exact H
  · rw [if_neg q] at hf; rw [← hf]; exact H
theorem jl_p12 (hs : s ≤ 12) : 2 ^ s ≤ 4096 := Nat.pow_le_pow_right (n := 2) (by decide) hs
/-- the sum over the meant, beginning at the first, ending behind the last -/
theorem jl_sumf {g : Nat → Int} {co : Int} {f l : Nat} (hm : ∀ k : Nat, k < 4 → (jd_mn co k ↔ f ≤ k ∧ k ≤ l)) (hl : l < 4) (hfl : f ≤ l) : jd_sum (fun k => jd_cl (jd_mn co k) * g k) f = 0 ∧ jd_sum (fun k => jd_cl (jd_mn co k) * g k) (l + 1) = jd_sum (fun k => jd_cl (jd_mn co k) * g k) 4 := by
  constructor
  · exact jl_sum_0 _ _ fun k hk => by rw [jl_cl0 (fun z => by have := (hm k (by omega)).mp z; omega), Int.zero_mul]
  · obtain ⟨m, hm2⟩ : ∃ m, 4 = l + 1 + m := ⟨4 - (l + 1), by omega⟩
    have e := jl_sum_add (fun k => jd_cl (jd_mn co k) * g k) (l + 1) m
    rw [hm2, e, jl_sum_0 (fun i => jd_cl (jd_mn co (l + 1 + i)) * g (l + 1 + i)) m (fun k hk => by rw [jl_cl0 (fun z => by have := (hm _ (by omega)).mp z; omega), Int.zero_mul]), Int.add_zero]
theorem js_2475 {a co wh : Int} (h : jm_w nc nr lm sd th T s s1 sf sb μ) (hk : jd_w0 nc nr lm sd th T s s1 sf sb nco) (ha : qm_r32 a) (hco : qm_r32 co) (hwh : qm_r32 wh) (H : ∀ v μ', jd_fm [43] [] μ μ' → jd_wov nc lm th sf sb s a co wh v → Q v μ') : qm_CI (qb_T L) (d + 2) 2475 [qm_P 13, qm_I a, qm_I co, qm_I wh] μ Q := by
  have hs := hk.2.1.1
  have hp12 := jl_p12 hs
  have no : ((a < 0 ∨ (nc : Int) ≤ a) ∨ co < -1 ∨ 3 < co ∨ s = 0 ∨ wh < 0 ∨ 2 < wh) → ∃ r, qm_I (-1) = some (.inl r) ∧ Q r μ := fun z => ⟨_, rfl, H _ μ (jg_refl _ _ _) (Or.inl ⟨z, rfl⟩)⟩
  refine b2475_0 μ _ _ _ _ (js_2438 h.1 hk.1 ha (fun c hac hc => ⟨by decide, fun q => absurd q (by decide), fun _ => ?_⟩) (fun h0 => ⟨by decide, fun _ => no (Or.inl h0), fun q => absurd rfl q⟩))
  subst hac
  refine js_2472 hco (fun hcr => ⟨by decide, fun q => absurd q (by decide), fun _ => ?_⟩) (fun h0 => ⟨by decide, fun _ => no (by omega), fun q => absurd rfl q⟩)
  have hs1 : μ 69 0 = (s : Int) := h.2.1.1
  rw [hs1]
  refine ⟨by omega, fun z => no (by omega), fun z => ⟨hwh, js_2401 hwh (by decide) (fun q hq hq2 => ⟨by decide, fun y => absurd y (by decide), fun _ => ?_⟩) (fun h0 => ⟨by decide, fun _ => no (by omega), fun q => absurd rfl q⟩)⟩⟩
  obtain ⟨f, l, hfl, hl4, hmn, hf0, hl0⟩ := jl_fl hcr
  refine js_2473 hco hf0 ?_
  -- the sums
  have hsf := jl_sumf (g := fun k => jd_sum (fun w => jd_cl (jd_way (jd_P lm th sf sb 0 (-1) 0 c k) s w)) (2 ^ s)) hmn hl4 hfl
  have hAl : ∀ k w, (k < l + 1 ∧ jd_mn co k ∧ w < 2 ^ s) ↔ (k < 4 ∧ jd_mn co k ∧ w < 2 ^ s) := fun k w => ⟨fun y => ⟨by omega, y.2⟩, fun y => ⟨by have := (hmn k y.1).mp y.2.1; omega, y.2⟩⟩
  refine jl_from (S := fun K => ∀ v e μ' x, jd_fm [43] [] μ μ' → (-1 ≤ v ∧ v ≤ 12) → jd_fewA (fun k w => k < K ∧ jd_mn co k ∧ w < 2 ^ s) lm th sf sb c s v → (e = 0 ∨ e = 1) → (e = 1 ↔ jd_evnA (fun k w => k < K ∧ jd_mn co k ∧ w < 2 ^ s) lm th sf sb c s) → qm_W (qb_T L) (d + 2) 2475 54 [qm_P 13, qm_I (c : Int), qm_I co, qm_I wh, qm_I (jd_sum (fun k => jd_cl (jd_mn co k) * jd_sum (fun w => jd_cl (jd_way (jd_P lm th sf sb 0 (-1) 0 c k) s w)) (2 ^ s)) K), qm_I v, qm_I e, qm_I ((K : Nat) : Int), x] [] μ' (fun v μ' => ∃ r, v = some (.inl r) ∧ Q r μ')) f (l + 1 - f) (fun K hK1 hK2 ih v e μ' x hfm hv hfew he hev => ?_) (fun v e μ' x hfm hv hfew he hev => ?_) (-1) 0 μ none (jg_refl _ _ _) (by decide) (Or.inl ⟨rfl, fun k w y => absurd ((hmn k (by omega)).mp y.2.1) (by omega)⟩) (Or.inl rfl) ⟨fun y => absurd y (by decide), fun ⟨k, w, y, _⟩ => absurd ((hmn k (by omega)).mp y.2.1) (by omega)⟩ |> fun t => by rw [hsf.1] at t; exact t
  · have hmK : jd_mn co K := (hmn K (by omega)).mpr (by omega)
    refine b2475_54 μ' _ _ _ _ _ _ _ _ _ (js_2474 hco hl0 ⟨by omega, by omega, fun y => absurd y (by omega), fun _ => ?_⟩)
    have e1 : jd_sum (fun k => jd_cl (jd_mn co k) * jd_sum (fun w => jd_cl (jd_way (jd_P lm th sf sb 0 (-1) 0 c k) s w)) (2 ^ s)) (K + 1) = jd_sum (fun k => jd_cl (jd_mn co k) * jd_sum (fun w => jd_cl (jd_way (jd_P lm th sf sb 0 (-1) 0 c k) s w)) (2 ^ s)) K + jd_sum (fun w => jd_cl (jd_way (jd_P lm th sf sb 0 (-1) 0 c K) s w)) (2 ^ s) := by
      show _ + jd_cl (jd_mn co K) * _ = _
      rw [jl_cl1 hmK, Int.one_mul]
    generalize jd_sum (fun k => jd_cl (jd_mn co k) * jd_sum (fun w => jd_cl (jd_way (jd_P lm th sf sb 0 (-1) 0 c k) s w)) (2 ^ s)) K = nK at e1 ⊢
    rw [e1] at ih
    have key : qm_W (qb_T L) (d + 2) 2475 66 [qm_P 13, qm_I (c : Int), qm_I co, qm_I wh, qm_I (nK + jd_sum (fun w => jd_cl (jd_way (jd_P lm th sf sb 0 (-1) 0 c K) s w)) 0), qm_I v, qm_I e, qm_I ((K : Nat) : Int), qm_I ((0 : Nat) : Int)] [] μ' (fun v μ' => ∃ r, v = some (.inl r) ∧ Q r μ') := by
      refine jl_loop (S := fun W => ∀ v e μ', jd_fm [43] [] μ μ' → (-1 ≤ v ∧ v ≤ 12) → jd_fewA (fun k w => (k < K ∧ jd_mn co k ∧ w < 2 ^ s) ∨ (k = K ∧ w < W)) lm th sf sb c s v → (e = 0 ∨ e = 1) → (e = 1 ↔ jd_evnA (fun k w => (k < K ∧ jd_mn co k ∧ w < 2 ^ s) ∨ (k = K ∧ w < W)) lm th sf sb c s) → qm_W (qb_T L) (d + 2) 2475 66 [qm_P 13, qm_I (c : Int), qm_I co, qm_I wh, qm_I (nK + jd_sum (fun w => jd_cl (jd_way (jd_P lm th sf sb 0 (-1) 0 c K) s w)) W), qm_I v, qm_I e, qm_I ((K : Nat) : Int), qm_I ((W : Nat) : Int)] [] μ' (fun v μ' => ∃ r, v = some (.inl r) ∧ Q r μ')) (2 ^ s) (fun W hW ih2 v e μ' hfm hv hfew he hev => ?_) (fun v e μ' hfm hv hfew he hev => ?_) v e μ' hfm hv (jl_fewe (fun k w => ⟨fun y => Or.inl y, fun y => y.resolve_right (fun y2 => absurd y2.2 (by omega))⟩) hfew) he (hev.trans (jl_evne (fun k w => ⟨fun y => Or.inl y, fun y => y.resolve_right (fun y2 => absurd y2.2 (by omega))⟩)))
      · have h' := jl_mwf h (jg_sub hfm rfl rfl)
        have hs1' : μ' 69 0 = (s : Int) := h'.2.1.1
        have e2 : jd_sum (fun w => jd_cl (jd_way (jd_P lm th sf sb 0 (-1) 0 c K) s w)) (W + 1) = jd_sum (fun w => jd_cl (jd_way (jd_P lm th sf sb 0 (-1) 0 c K) s w)) W + jd_cl (jd_way (jd_P lm th sf sb 0 (-1) 0 c K) s W) := rfl
        rw [e2, ← Int.add_assoc] at ih2
        refine b2475_66 μ' _ _ _ _ _ _ _ _ _ ?_
        rw [hs1', qa_shl1 (by omega)]
        refine ⟨by omega, by omega, fun y => absurd y (by omega), fun _ => js_2470 h' hk (fun y => absurd rfl y) (Or.inl rfl) hc (by omega) (Nat.le_refl _) (by omega) (fun μ2 hf2 hway ht => ⟨by decide, fun y => absurd y (by decide), fun _ => ?_⟩) (fun μ2 hf2 hway => ⟨by decide, fun _ => b2475_137 μ2 _ _ _ _ _ _ _ _ _ ?_, fun y => absurd rfl y⟩)⟩
        · rw [jl_cl1 hway] at ih2
          have hpnb := jl_pn_b W s
          have hpn : jd_pn W 12 = jd_pn W s := by
            have := jl_pn_hi (w := W) (n := s) hW (12 - s)
            rw [show s + (12 - s) = 12 by omega] at this; exact this
          have htb := jl_tb_b W s
          have hAW : ∀ k w, ((k < K ∧ jd_mn co k ∧ w < 2 ^ s) ∨ (k = K ∧ w < W + 1)) → ((k < K ∧ jd_mn co k ∧ w < 2 ^ s) ∨ (k = K ∧ w < W)) ∨ (k = K ∧ w = W) := fun k w y => by
            rcases y with y | y
            · exact Or.inl (Or.inl y)
            · by_cases q : w = W
              · exact Or.inr ⟨y.1, q⟩
              · exact Or.inl (Or.inr ⟨y.1, by omega⟩)
          have hAW2 : ∀ k w, ((k < K ∧ jd_mn co k ∧ w < 2 ^ s) ∨ (k = K ∧ w < W)) → ((k < K ∧ jd_mn co k ∧ w < 2 ^ s) ∨ (k = K ∧ w < W + 1)) := fun k w y => y.elim Or.inl (fun y => Or.inr ⟨y.1, by omega⟩)
          -- least
          have go2 : ∀ e', (e' = 0 ∨ e' = 1) → (e' = 1 ↔ jd_evnA (fun k w => (k < K ∧ jd_mn co k ∧ w < 2 ^ s) ∨ (k = K ∧ w < W + 1)) lm th sf sb c s) → qm_W (qb_T L) (d + 2) 2475 114 [qm_P 13, qm_I (c : Int), qm_I co, qm_I wh, qm_I (nK + jd_sum (fun w => jd_cl (jd_way (jd_P lm th sf sb 0 (-1) 0 c K) s w)) W + 1), qm_I v, qm_I e', qm_I ((K : Nat) : Int), qm_I ((W : Nat) : Int)] [] μ2 (fun v μ' => ∃ r, v = some (.inl r) ∧ Q r μ') := by
            intro e' he' hev'
            have nx : ∀ v', (-1 ≤ v' ∧ v' ≤ 12) → jd_fewA (fun k w => (k < K ∧ jd_mn co k ∧ w < 2 ^ s) ∨ (k = K ∧ w < W + 1)) lm th sf sb c s v' → qm_W (qb_T L) (d + 2) 2475 137 [qm_P 13, qm_I (c : Int), qm_I co, qm_I wh, qm_I (nK + jd_sum (fun w => jd_cl (jd_way (jd_P lm th sf sb 0 (-1) 0 c K) s w)) W + 1), qm_I v', qm_I e', qm_I ((K : Nat) : Int), qm_I ((W : Nat) : Int)] [] μ2 (fun v μ' => ∃ r, v = some (.inl r) ∧ Q r μ') := fun v' hv' hfew' => b2475_137 μ2 _ _ _ _ _ _ _ _ _ (ih2 v' e' μ2 (jg_trans hfm hf2) hv' hfew' he' hev')
            have new : (v = -1 ∨ ((jd_pn W s : Nat) : Int) < v) → qm_W (qb_T L) (d + 2) 2475 130 [qm_P 13, qm_I (c : Int), qm_I co, qm_I wh, qm_I (nK + jd_sum (fun w => jd_cl (jd_way (jd_P lm th sf sb 0 (-1) 0 c K) s w)) W + 1), qm_I v, qm_I e', qm_I ((K : Nat) : Int), qm_I ((W : Nat) : Int)] [] μ2 (fun v μ' => ∃ r, v = some (.inl r) ∧ Q r μ') := fun hnew => b2475_130 μ2 _ _ _ _ _ _ _ _ _ (js_2471 (by omega) (nx _ (by omega) (Or.inr ⟨by omega, ⟨K, W, Or.inr ⟨rfl, by omega⟩, hway, by rw [hpn]⟩, fun k w y hy => by
              rw [hpn]
              rcases hAW k w y with y2 | ⟨y2, y3⟩
              · rcases hfew with ⟨_, b⟩ | ⟨a, _, g⟩
                · exact absurd hy (b k w y2)
                · have := g k w y2 hy
                  omega
              · rw [y3]; omega⟩)))
            refine b2475_114 μ2 _ _ _ _ _ _ _ _ _ ⟨by omega, fun y => new (Or.inl y), fun y => js_2471 (by omega) ⟨by omega, by omega, fun y2 => nx v hv ?_, fun y2 => new (Or.inr (by omega))⟩⟩
            rcases hfew with ⟨a, _⟩ | ⟨a, ⟨k, w, b1, b2, b3⟩, g⟩
            · exact absurd a y
            · refine Or.inr ⟨a, ⟨k, w, hAW2 k w b1, b2, b3⟩, fun k w y3 hy => ?_⟩
              rcases hAW k w y3 with y4 | ⟨y4, y5⟩
              · exact g k w y4 hy
              · rw [y5]; omega
          rw [ht]
          refine ⟨by omega, fun y => go2 1 (Or.inr rfl) ⟨fun _ => ⟨K, W, Or.inr ⟨rfl, by omega⟩, hway, y⟩, fun _ => rfl⟩, fun y => go2 e he ⟨fun q => ?_, fun ⟨k, w, q1, q2, q3⟩ => ?_⟩⟩
          · obtain ⟨k, w, q1, q2⟩ := hev.mp q
            exact ⟨k, w, hAW2 k w q1, q2⟩
          · rcases hAW k w q1 with q4 | ⟨q4, q5⟩
            · exact hev.mpr ⟨k, w, q4, q2, q3⟩
            · rw [q5] at q3; exact absurd q3 y
        · rw [jl_cl0 hway, Int.add_zero] at ih2
          have hAW : ∀ k w, ((k < K ∧ jd_mn co k ∧ w < 2 ^ s) ∨ (k = K ∧ w < W + 1)) → jd_way (jd_P lm th sf sb 0 (-1) 0 c k) s w → ((k < K ∧ jd_mn co k ∧ w < 2 ^ s) ∨ (k = K ∧ w < W)) := fun k w y hy => by
            rcases y with y | y
            · exact Or.inl y
            · by_cases q : w = W
              · rw [y.1, q] at hy; exact absurd hy hway
              · exact Or.inr ⟨y.1, by omega⟩
          have hAW2 : ∀ k w, ((k < K ∧ jd_mn co k ∧ w < 2 ^ s) ∨ (k = K ∧ w < W)) → ((k < K ∧ jd_mn co k ∧ w < 2 ^ s) ∨ (k = K ∧ w < W + 1)) := fun k w y => y.elim Or.inl (fun y => Or.inr ⟨y.1, by omega⟩)
          refine ih2 v e μ2 (jg_trans hfm hf2) hv ?_ he ⟨fun q => ?_, fun ⟨k, w, q1, q2, q3⟩ => hev.mpr ⟨k, w, hAW k w q1 q2, q2, q3⟩⟩
          · rcases hfew with ⟨a, b⟩ | ⟨a, ⟨k, w, b1, b2, b3⟩, g⟩
            · exact Or.inl ⟨a, fun k w y hy => b k w (hAW k w y hy) hy⟩
            · exact Or.inr ⟨a, ⟨k, w, hAW2 k w b1, b2, b3⟩, fun k w y hy => g k w (hAW k w y hy) hy⟩
          · obtain ⟨k, w, q1, q2⟩ := hev.mp q
            exact ⟨k, w, hAW2 k w q1, q2⟩
      · have h' := jl_mwf h (jg_sub hfm rfl rfl)
        have hs1' : μ' 69 0 = (s : Int) := h'.2.1.1
        have hA : ∀ k w, ((k < K ∧ jd_mn co k ∧ w < 2 ^ s) ∨ (k = K ∧ w < 2 ^ s)) ↔ (k < K + 1 ∧ jd_mn co k ∧ w < 2 ^ s) := fun k w => by
          constructor
          · rintro (⟨a1, a2, a3⟩ | ⟨a1, a2⟩)
            · exact ⟨by omega, a2, a3⟩
            · exact ⟨by omega, by rw [a1]; exact hmK, a2⟩
          · rintro ⟨a1, a2, a3⟩
            by_cases q : k = K
            · exact Or.inr ⟨q, a3⟩
            · exact Or.inl ⟨by omega, a2, a3⟩
        refine b2475_66 μ' _ _ _ _ _ _ _ _ _ ?_
        rw [hs1', qa_shl1 (by omega)]
        have hp0 := jl_p0 s
        exact ⟨by omega, by omega, fun _ => ih v e μ' _ hfm hv (jl_fewe hA hfew) he (hev.trans (jl_evne hA)), fun y => absurd (Int.le_refl _) y⟩
    rw [show jd_sum (fun w => jd_cl (jd_way (jd_P lm th sf sb 0 (-1) 0 c K) s w)) 0 = 0 from rfl, Int.add_zero] at key
    exact key
  · rw [show f + (l + 1 - f) = l + 1 by omega] at hfew hev ⊢
    rw [hsf.2]
    have hfew4 := jl_fewe hAl hfew
    have hev4 := hev.trans (jl_evne hAl)
    have out : ∀ v', ((wh = 0 ∧ v' = jd_num lm th sf sb 0 (-1) 0 c s co) ∨ (wh = 1 ∧ jd_few lm th sf sb 0 (-1) 0 c s co 4 v') ∨ (wh = 2 ∧ jd_evn lm th sf sb 0 (-1) 0 c s co 4 ∧ v' = 1) ∨ (wh = 2 ∧ ¬ jd_evn lm th sf sb 0 (-1) 0 c s co 4 ∧ v' = 0)) → ∃ r, qm_I v' = some (.inl r) ∧ Q r μ' := fun v' hv' => ⟨_, rfl, H v' μ' hfm (Or.inr ⟨c, rfl, hc, hcr, by omega, hv'⟩)⟩
    refine b2475_54 μ' _ _ _ _ _ _ _ _ _ (js_2474 hco hl0 ⟨by omega, by omega, fun _ => ⟨hwh, fun y => out _ (Or.inl ⟨y, rfl⟩), fun y => ⟨hwh, fun y2 => out _ (Or.inr (Or.inl ⟨y2, ?_⟩)), fun y2 => out _ (Or.inr (Or.inr ?_))⟩⟩, fun y => absurd y (by omega)⟩)
    · rcases hfew4 with ⟨a, b⟩ | ⟨a, ⟨k, w, b1, b2, b3⟩, g⟩
      · exact Or.inl ⟨a, fun k w h1 h2 h3 => b k w ⟨h1, h2, h3⟩⟩
      · exact Or.inr ⟨a, ⟨k, w, b1.1, b1.2.1, b1.2.2, b2, b3⟩, fun k w h1 h2 h3 => g k w ⟨h1, h2, h3⟩⟩
    · have hevd : jd_evnA (fun k w => k < 4 ∧ jd_mn co k ∧ w < 2 ^ s) lm th sf sb c s ↔ jd_evn lm th sf sb 0 (-1) 0 c s co 4 := ⟨fun ⟨k, w, a1, a2, a3⟩ => ⟨k, w, a1.1, a1.2.1, a1.2.2, a2, a3⟩, fun ⟨k, w, a1, a2, a3, a4, a5⟩ => ⟨k, w, ⟨a1, a2, a3⟩, a4, a5⟩⟩
      have hh := hev4.trans hevd
      rcases he with e0 | e1
      · exact Or.inr ⟨by omega, fun q => by have := hh.mpr q; omega, e0⟩
      · exact Or.inl ⟨by omega, hh.mp e1, e1⟩
end
