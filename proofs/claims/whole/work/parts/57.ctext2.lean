/-! ===== text, the class's ===== -/
theorem jl_apid (T : Nat → Nat → Int) (i : Nat) : jd_ap T i (T i) = T := by
  funext r c
  unfold jd_ap
  split
  · rename_i h; rw [h]
  · rfl
/-- the first rows that can be woven -/
def jd_wst (nc : Nat) (lm : Int) (T : Nat → Nat → Int) (lt nr : Nat) (sp : Int) : Prop := nr ≤ lt ∧ (∀ i, i < nr → jd_can nc i lm T (T i)) ∧ ((nr = lt ∧ sp = -1) ∨ (nr < lt ∧ sp = (nr : Int) ∧ ¬ jd_can nc nr lm T (T nr)))
theorem jl_wst {nc : Nat} {lm : Int} {T : Nat → Nat → Int} {lt nr nr' : Nat} {sp sp' : Int} (h : jd_wst nc lm T lt nr sp) (h' : jd_wst nc lm T lt nr' sp') : nr = nr' ∧ sp = sp' := by
  obtain ⟨h1, h2, h3⟩ := h
  obtain ⟨g1, g2, g3⟩ := h'
  have e : nr = nr' := by
    rcases Nat.lt_trichotomy nr nr' with q | q | q
    · rcases h3 with ⟨z, _⟩ | ⟨_, _, z⟩
      · omega
      · exact absurd (g2 nr q) z
    · exact q
    · rcases g3 with ⟨z, _⟩ | ⟨_, _, z⟩
      · omega
      · exact absurd (h2 nr' q) z
  subst e
  refine ⟨rfl, ?_⟩
  omega
theorem jl_cpyr {μ : qm_M} {a b n k : Nat} (h : k < n) : jd_cpy μ a b n b k = μ a k := by unfold jd_cpy; rw [if_pos ⟨rfl, h⟩]
theorem jl_cpyo {μ : qm_M} {a b n c : Nat} (h : c ≠ b) : jd_cpy μ a b n c = μ c := by funext k; unfold jd_cpy; rw [if_neg (fun z => h z.1)]
theorem jf_cpy {l : List Nat} {μ μ' : qm_M} {a b n : Nat} (h : jd_fr l μ μ') (hb : l.contains b = true) : jd_fr l μ (jd_cpy μ' a b n) := fun c hc => by
  rw [jl_cpyo (fun z => by rw [z, hb] at hc; cases hc)]; exact h c hc
section
variable {L d n : Nat} {t : Nat → Int} {D μ0 μ : qm_M} {Q : Int → qm_M → Prop} {V : qm_M → Prop} {c0 c1 c2 : Nat}
/-- told = draft -/
def jc_told (D μ : qm_M) : Prop := (∀ k, k < 6 → μ 3 k = D 4 k) ∧ (∀ k, k < 6 → μ 15 k = D 23 k) ∧ (∀ k, k < 8 → μ 16 k = D 24 k) ∧ (∀ k, k < 6 → μ 17 k = D 25 k) ∧ (∀ k, k < 8 → μ 18 k = D 26 k) ∧ (∀ k, k < 32 → μ 19 k = D 27 k) ∧ (∀ k, k < 6 → μ 20 k = D 28 k) ∧ (∀ k, k < 60 → μ 21 k = D 29 k) ∧ (∀ k, k < 60 → μ 22 k = D 30 k)
theorem js_802 (hd : jc_dr D μ) (H : ∀ μ', jd_fr [3, 15, 16, 17, 18, 19, 20, 21, 22] μ μ' → jc_told D μ' → V μ') : qm_CV (qb_T L) (d + 1) 802 [qm_P 3, qm_P 4] μ V := by
  have e : ∀ a, jx_DC.contains a = true → ∀ k, μ a k = D a k := fun a ha k => by rw [hd a ha]
  refine b802_0 μ _ ?_
  refine js_403 (n := 6) rfl rfl (by decide) (by decide) (js_403 (n := 8) rfl rfl (by decide) (by decide) (js_403 (n := 6) rfl rfl (by decide) (by decide) (js_403 (n := 8) rfl rfl (by decide) (by decide) (js_403 (n := 32) rfl rfl (by decide) (by decide) (js_403 (n := 6) rfl rfl (by decide) (by decide) (js_403 (n := 60) rfl rfl (by decide) (by decide) (js_403 (n := 60) rfl rfl (by decide) (by decide) ⟨rfl, H _ ?_ ?_⟩)))))))
  · exact jf_cpy (jf_cpy (jf_cpy (jf_cpy (jf_cpy (jf_cpy (jf_cpy (jf_cpy (jf_set (jf_set (jf_set (jf_set (jf_set (jf_set (jf_refl _ _) rfl) rfl) rfl) rfl) rfl) rfl) rfl) rfl) rfl) rfl) rfl) rfl) rfl) rfl
  · refine ⟨fun k hk => ?_, fun k hk => ?_, fun k hk => ?_, fun k hk => ?_, fun k hk => ?_, fun k hk => ?_, fun k hk => ?_, fun k hk => ?_, fun k hk => ?_⟩
    · rw [jl_cpyo (by decide), jl_cpyo (by decide), jl_cpyo (by decide), jl_cpyo (by decide), jl_cpyo (by decide), jl_cpyo (by decide), jl_cpyo (by decide), jl_cpyo (by decide), ← e 4 rfl]
      have : k = 0 ∨ k = 1 ∨ k = 2 ∨ k = 3 ∨ k = 4 ∨ k = 5 := by omega
      rcases this with rfl | rfl | rfl | rfl | rfl | rfl
      · rw [jl_sk _ _ _ (by decide), jl_sk _ _ _ (by decide), jl_sk _ _ _ (by decide), jl_sk _ _ _ (by decide), jl_sk _ _ _ (by decide), jl_ss]
      · rw [jl_sk _ _ _ (by decide), jl_sk _ _ _ (by decide), jl_sk _ _ _ (by decide), jl_sk _ _ _ (by decide), jl_ss]
      · rw [jl_sk _ _ _ (by decide), jl_sk _ _ _ (by decide), jl_sk _ _ _ (by decide), jl_ss]
      · rw [jl_sk _ _ _ (by decide), jl_sk _ _ _ (by decide), jl_ss]
      · rw [jl_sk _ _ _ (by decide), jl_ss]
      · rw [jl_ss]
    all_goals
      (repeat (first | rw [jl_cpyr hk] | rw [jl_cpyo (by decide)] | rw [jl_sn _ _ _ (by decide)]))
      exact e _ rfl k
/-- the rows woven ahead -/
theorem js_201 {nc lt : Nat} {lm np : Int} {sd : Nat → Int} {th T : Nat → Nat → Int} {pk h w : Nat → Int} (e2 : μ 3 2 = (nc : Int)) (e4 : μ 3 4 = lm) (e5 : μ 3 5 = (lt : Int)) (hlt : lt ≤ 60) (hO : jd_ok nc 0 lm sd th T) (hsd : ∀ c, c < nc → μ 18 c = sd c) (hth : ∀ c k, c < nc → k < 4 → μ 19 (4 * c + k) = th c k) (hnp : np ≤ 6) (hP : jd_pok np pk) (hPc : ∀ p : Nat, (p : Int) < np → μ 20 p = pk p) (h21 : ∀ i, i < lt → μ 21 i = h i ∧ qm_r32 (h i)) (h22 : ∀ i, i < lt → μ 22 i = w i ∧ -1 ≤ w i ∧ w i < np) (hT : ∀ r, T r = jd_u pk (h r) (w r)) (H : ∀ nr sp μ', jd_wst nc lm T lt nr sp → jd_ok nc nr lm sd th T → jd_fr [6, 31, 32, 33, 34] μ μ' → jc_belt nc nr lm sd th T μ' → Q sp μ') : qm_CI (qb_T L) (d + 4) 201 [qm_P 6, qm_P 3] μ Q := by
  have hnc := hO.1
  refine b201_0 μ _ (js_403 (n := 8) rfl rfl (by decide) (by decide) (js_403 (n := 32) rfl rfl (by decide) (by decide) ?_))
  rw [e2, e4]
  -- where nothing is woven yet
  have f0 : jd_fr [6, 31, 32, 33, 34] μ (qm_set (jd_cpy (jd_cpy (qm_set (qm_set μ 6 0 (nc : Int)) 6 2 lm) 18 31 8) 19 32 32) 6 1 0) := jf_set (jf_cpy (jf_cpy (jf_set (jf_set (jf_refl _ _) rfl) rfl) rfl) rfl) rfl
  have hB0 : jc_belt nc 0 lm sd th T (qm_set (jd_cpy (jd_cpy (qm_set (qm_set μ 6 0 (nc : Int)) 6 2 lm) 18 31 8) 19 32 32) 6 1 0) := by
    refine ⟨?_, jl_ss _ _ _ _, ?_, fun c hc => ?_, fun c k hc hk => ?_, fun r c hr => absurd hr (by omega), fun r hr => absurd hr (by omega), fun r c hr => absurd hr (by omega)⟩
    · rw [jl_sk _ _ _ (by decide), jl_cpyo (by decide), jl_cpyo (by decide), jl_sk _ _ _ (by decide), jl_ss]
    · rw [jl_sk _ _ _ (by decide), jl_cpyo (by decide), jl_cpyo (by decide), jl_ss]
    · rw [jl_sn _ _ _ (by decide), jl_cpyo (by decide), jl_cpyr (by omega), jl_sn _ _ _ (by decide), jl_sn _ _ _ (by decide)]; exact hsd c hc
    · rw [jl_sn _ _ _ (by decide), jl_cpyr (by omega), jl_cpyo (by decide), jl_sn _ _ _ (by decide), jl_sn _ _ _ (by decide)]; exact hth c k hc hk
  generalize qm_set (jd_cpy (jd_cpy (qm_set (qm_set μ 6 0 (nc : Int)) 6 2 lm) 18 31 8) 19 32 32) 6 1 0 = μ1 at *
  refine jl_loop (S := fun i => ∀ μ', jd_fr [6, 31, 32, 33, 34] μ μ' → jd_ok nc i lm sd th T → jc_belt nc i lm sd th T μ' → (∀ j, j < i → jd_can nc j lm T (T j)) → qm_W (qb_T L) (d + 4) 201 45 [qm_P 6, qm_P 3, qm_I ((i : Nat) : Int)] [] μ' (fun v μ' => ∃ r, v = some (.inl r) ∧ Q r μ')) lt (fun i hi ih μ' ff hOi hB hcan => ?_) (fun μ' ff hOi hB hcan => ?_) μ1 f0 hO hB0 (fun j hj => absurd hj (by omega))
  · refine b201_45 μ' _ _ ?_
    rw [ff 3 rfl, e5]
    refine ⟨by omega, by omega, fun q => absurd q (by omega), fun _ => ?_⟩
    refine b810_0 μ' _ _ (js_401i (n := 60) i rfl (by decide) rfl (by omega) (js_401i (n := 60) i rfl (by decide) rfl (by omega) ?_))
    rw [ff 21 rfl, ff 22 rfl, (h21 i hi).1, (h22 i hi).1]
    refine js_811 (np := np) (pk := pk) (by rw [ff 3 rfl]; exact e2) hnc hnp hP (fun p hp => by rw [ff 20 rfl]; exact hPc p hp) (h21 i hi).2 (h22 i hi).2 ⟨_, rfl, ?_⟩
    have hu := fun c => jl_u pk (h i) (w i) c
    have hb := jl_n4b nc (u := jd_u pk (h i) (w i)) (fun c _ => by have := hu c; omega)
    have hd := jl_n4d nc (u := jd_u pk (h i) (w i)) (fun c _ => by have := hu c; omega)
    refine js_202 hB hOi hb (fun c hc => ⟨hd c hc, (hu c).2⟩) (fun μ2 f2 hn hc hB2 => ⟨by decide, fun q => absurd q (by decide), fun _ => ?_⟩) (fun μ2 f2 hn hB2 => ⟨by decide, fun _ => ⟨_, rfl, ?_⟩, fun q => absurd rfl q⟩)
    · have hO2 := jl_apok hOi hn (fun c _ => hu c) hc
      rw [← hT i] at hB2 hc hO2
      rw [jl_apid] at hB2 hO2
      rw [jl_cs]
      refine ih μ2 (jf_trans ff (jf_sub f2 rfl)) hO2 hB2 fun j hj => ?_
      by_cases z : j = i
      · subst z; exact hc
      · exact hcan j (by omega)
    · refine H i _ μ2 ⟨by omega, hcan, Or.inr ⟨hi, rfl, fun z => hn ⟨by omega, ?_⟩⟩⟩ hOi (jf_trans ff (jf_sub f2 rfl)) hB2
      rw [← hT i]; exact z
  · refine b201_45 μ' _ _ ?_
    rw [ff 3 rfl, e5]
    exact ⟨by omega, by omega, fun _ => ⟨_, rfl, H lt _ μ' ⟨Nat.le_refl _, hcan, Or.inl ⟨rfl, rfl⟩⟩ hOi ff hB⟩, fun q => absurd q (by omega)⟩
end
