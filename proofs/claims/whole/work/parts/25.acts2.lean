/-! ===== the class's acts, whole ===== -/
section
variable {L d nc ct : Nat} {lm : Int} {b : jd_B} {st : Nat → jd_B} {μ : qm_M} {Q : Int → qm_M → Prop} {V : qm_M → Prop} {np nco lt sp s0 s1 cti : Int} {pk u : Nat → Int}
theorem jl_cbf {μ' : qm_M} (h : jc_bb nc lm b μ) (h6 : μ' 6 = μ 6) (h31 : μ' 31 = μ 31) (h32 : μ' 32 = μ 32) (h33 : μ' 33 = μ 33) (h34 : μ' 34 = μ 34) : jc_bb nc lm b μ' := by
  unfold jc_bb jc_belt at *
  rw [h6, h31, h32, h33, h34]; exact h
theorem jl_mbf {μ' : qm_M} (h : jm_bb nc lm b μ) (h59 : μ' 59 4 = μ 59 4) (h13 : μ' 13 37 = μ 13 37) (h63 : μ' 63 1 = μ 63 1) (h61 : ∀ k, 40 ≤ k → μ' 61 k = μ 61 k) (h67 : μ' 67 = μ 67) : jm_bb nc lm b μ' := by
  obtain ⟨e1, e2, e3, e4, e5, e6⟩ := h
  refine ⟨by rw [h59]; exact e1, by rw [h13]; exact e2, by rw [h63]; exact e3, fun c hc => by rw [h61 _ (by omega)]; exact e4 c hc, fun c k hc hk => by rw [h61 _ (by omega)]; exact e5 c k hc hk, by rw [h67]; exact e6⟩
theorem js_2211 {how p : Int} (hB : jc_bb nc lm (st 0) μ) (hO : jd_okb nc lm (st 0)) (hA : jc_acts nc lm ct st μ) (hct : ct ≤ 20) (hN : jc_num nc nco np lm lt sp cti s0 s1 μ) (hK : jd_nok nco np lt sp cti s0 s1) (hP : jd_pok np pk) (hPc : ∀ p : Nat, (p : Int) < np → μ 20 p = pk p) (hh : qm_r32 how) (hp : qm_r32 p) (H1 : jd_tg np how p → nc ≠ 0 → (st 0).1 < 60 → jd_can nc (st 0).1 lm (st 0).2.2.2 (jd_u pk how p) → ∀ μ', jd_fr [6, 7, 31, 32, 33, 34, 35, 36] μ μ' → jc_bb nc lm (jd_bt (st 0) (jd_u pk how p)) μ' → jc_acts nc lm (jd_ct ct) (jd_cons (jd_bt (st 0) (jd_u pk how p)) st) μ' → Q (((st 0).1 + 1 : Nat) : Int) μ') (H0 : ¬ (jd_tg np how p ∧ nc ≠ 0 ∧ (st 0).1 < 60 ∧ jd_can nc (st 0).1 lm (st 0).2.2.2 (jd_u pk how p)) → ∀ μ', jd_fr [34] μ μ' → jc_bb nc lm (st 0) μ' → Q (-1) μ') : qm_CI (qb_T L) (d + 4) 2211 [qm_P 0, qm_I how, qm_I p] μ Q := by
  have h1 := hO.1
  have h2 := hO.2.1
  have h3 := hK.2.1
  have no : ¬ jd_tg np how p → ∃ r, qm_I (-1) = some (.inl r) ∧ Q r μ := fun z => ⟨_, rfl, H0 (fun y => z y.1) μ (jf_refl _ _) hB⟩
  refine b2211_0 μ _ _ _ ?_
  rw [hN.2.2.1]
  have go : jd_tg np how p → qm_W (qb_T L) (d + 4) 2211 35 [qm_P 0, qm_I how, qm_I p] [] μ (fun v μ' => ∃ r, v = some (.inl r) ∧ Q r μ') := by
    intro hT
    refine b2211_35 μ _ _ _ ?_
    rw [hN.2.1]
    refine ⟨by omega, fun z => ⟨_, rfl, H0 (fun y => y.2.1 (by omega)) μ (jf_refl _ _) hB⟩, fun z => ?_⟩
    refine js_811 hN.2.1 h1 h3.2 hP hPc hh hT.2.1 ?_
    have hu := fun c => jl_u pk how p c
    have hb := jl_n4b nc (u := jd_u pk how p) (fun c _ => by have := hu c; omega)
    have hd := jl_n4d nc (u := jd_u pk how p) (fun c _ => by have := hu c; omega)
    refine js_202 hB hO hb (fun c hc => ⟨hd c hc, (hu c).2⟩) (fun μ1 f1 hn hc hB1 => ⟨by decide, fun q => absurd q (by decide), fun _ => ?_⟩) (fun μ1 f1 hn hB1 => ⟨by decide, fun _ => ⟨_, rfl, H0 (fun y => hn y.2.2) μ1 f1 hB1⟩, fun q => absurd rfl q⟩)
    refine js_1 hct (by rw [f1 7 rfl]; exact hA.1) fun μ2 f2 a1 a2 a3 a4 => ⟨_, rfl, ?_⟩
    have hB2 : jc_bb nc lm (jd_bt (st 0) (jd_u pk how p)) μ2 := jl_cbf hB1 (f2 6 rfl) (f2 31 rfl) (f2 32 rfl) (f2 33 rfl) (f2 34 rfl)
    have e : μ2 6 1 = (((st 0).1 + 1 : Nat) : Int) := hB2.2.1
    rw [e]
    refine H1 hT (by omega) hn hc μ2 (jf_trans (jf_sub f1 rfl) (jf_sub f2 rfl)) hB2 (jl_cact hA hct (jf_sub f1 rfl) hO (Or.inl ⟨rfl, Nat.succ_pos _⟩) ?_ a1 a2 a3 a4)
    exact ⟨rfl, fun _ _ => rfl, fun _ _ _ _ => rfl, fun r c hr _ => (jl_ap0 _ _ _ _ (by omega)).symm⟩
  refine ⟨hh, fun z => no fun y => ?_, fun z => ⟨hh, fun z2 => no fun y => ?_, fun z2 => ⟨hp, fun z3 => no fun y => ?_, fun z3 => ⟨hp, by omega, fun z4 => no fun y => ?_, fun z4 => ⟨hh, fun z5 => ⟨hp, fun z6 => no fun y => ?_, fun z6 => go ⟨by omega, by omega, by omega⟩⟩, fun z5 => go ⟨by omega, by omega, by omega⟩⟩⟩⟩⟩⟩
  · have := y.1; omega
  · have := y.1; omega
  · have := y.2.1; omega
  · have := y.2.1; omega
  · exact y.2.2 ⟨z5, z6⟩
theorem js_2212 (hB : jc_bb nc lm (st 0) μ) (hO : jd_okb nc lm (st 0)) (hA : jc_acts nc lm ct st μ) (hct : ct ≤ 20) (H1 : 0 < (st 0).1 → ∀ μ', jd_fr [6, 7, 31, 32, 33, 34, 35, 36] μ μ' → jc_bb nc lm (jd_bu (st 0)) μ' → jc_acts nc lm (jd_ct ct) (jd_cons (jd_bu (st 0)) st) μ' → Q 1 μ') (H0 : (st 0).1 = 0 → Q 0 μ) : qm_CI (qb_T L) (d + 4) 2212 [qm_P 0] μ Q := by
  have h1 := hO.1
  have h2 := hO.2.1
  refine b2212_0 μ _ ?_
  have e : μ 6 1 = ((st 0).1 : Int) := hB.2.1
  rw [e]
  refine ⟨by omega, fun z => ⟨_, rfl, H0 (by omega)⟩, fun z => ?_⟩
  rw [show ((st 0).1 : Int) - 1 = (((st 0).1 - 1 : Nat) : Int) by omega]
  refine js_213 (by omega) (js_1 hct hA.1 fun μ2 f2 a1 a2 a3 a4 => ⟨_, rfl, ?_⟩)
  rw [f2 6 rfl, e]
  have f3 := jf_set (k := 1) (z := ((st 0).1 : Int) - 1) (jf_sub (l' := [6, 7, 31, 32, 33, 34, 35, 36]) f2 rfl) (show [6, 7, 31, 32, 33, 34, 35, 36].contains 6 = true from rfl)
  refine H1 (by omega) _ f3 ?_ ?_
  · obtain ⟨e1, e2, e3, e4, e5, e6, e7, e8⟩ := hB
    refine ⟨?_, ?_, ?_, ?_, ?_, ?_, ?_, ?_⟩
    · rw [jl_sk _ _ _ (by decide), f2 6 rfl]; exact e1
    · rw [jl_ss]; show ((st 0).1 : Int) - 1 = (((st 0).1 - 1 : Nat) : Int); omega
    · rw [jl_sk _ _ _ (by decide), f2 6 rfl]; exact e3
    · rw [jl_sn _ _ _ (by decide), f2 31 rfl]; exact e4
    · rw [jl_sn _ _ _ (by decide), f2 32 rfl]; exact e5
    · rw [jl_sn _ _ _ (by decide), f2 33 rfl]; exact fun r c hr hc => e6 r c (Nat.lt_of_lt_of_le hr (Nat.sub_le _ _)) hc
    · rw [jl_sn _ _ _ (by decide), f2 33 rfl]; exact fun r hr => e7 r (Nat.lt_of_lt_of_le hr (Nat.sub_le _ _))
    · rw [jl_sn _ _ _ (by decide), f2 34 rfl]; exact fun r c hr hc => e8 r c (Nat.lt_of_lt_of_le hr (Nat.sub_le _ _)) hc
  · have hd := hB.2.2.2.2.2.2.1 ((st 0).1 - 1) (by omega)
    refine jl_cact (k := 1) (w := μ 33 ((st 0).1 - 1)) (μ1 := μ) hA hct (jf_refl _ _) hO (Or.inr (Or.inl ⟨rfl, ?_, hd⟩)) ⟨?_, fun _ _ => rfl, fun _ _ _ _ => rfl, fun r c hr hc => ?_⟩ ?_ ?_ ?_ (fun j h5 h6 => ?_)
    · show (st 0).1 - 1 < 60; omega
    · show (st 0).1 = (st 0).1 - 1 + 1; omega
    · show (st 0).2.2.2 r c = jd_ap (st 0).2.2.2 ((st 0).1 - 1) (jd_dig (μ 33 ((st 0).1 - 1))) r c
      by_cases hrn : r = (st 0).1 - 1
      · rw [hrn, jl_ap1]
        exact (hB.2.2.2.2.2.1 ((st 0).1 - 1) c (by omega) hc).symm
      · rw [jl_ap0 _ _ _ _ hrn]
    · rw [jl_sn _ _ _ (by decide)]; exact a1
    · rw [jl_sn _ _ _ (by decide)]; exact a2
    · rw [jl_sn _ _ _ (by decide)]; exact a3
    · rw [jl_sn _ _ _ (by decide), jl_sn _ _ _ (by decide)]; exact a4 j h5 h6
theorem js_2213 {a : Int} (hB : jc_bb nc lm (st 0) μ) (hO : jd_okb nc lm (st 0)) (hA : jc_acts nc lm ct st μ) (hct : ct ≤ 20) (ha : qm_r32 a) (H1 : ∀ c : Nat, a = (c : Int) → c < nc → ∀ μ', jd_fr [6, 7, 31, 32, 33, 34, 35, 36] μ μ' → jc_bb nc lm (jd_bs (st 0) c 1) μ' → jc_acts nc lm (jd_ct ct) (jd_cons (jd_bs (st 0) c 1) st) μ' → Q 1 μ') (H0 : (a < 0 ∨ (nc : Int) ≤ a) → Q 0 μ) : qm_CI (qb_T L) (d + 4) 2213 [qm_P 0, qm_I a] μ Q := by
  refine b2213_0 μ _ _ (js_205 hB hO ha (fun c hac hc => ⟨by decide, fun q => absurd q (by decide), fun _ => ?_⟩) (fun h0 => ⟨by decide, fun _ => ⟨_, rfl, H0 h0⟩, fun q => absurd rfl q⟩))
  subst hac
  refine js_212 (k := 1) hB hO hc rfl fun μ1 f1 hB1 => ?_
  refine js_1 hct (by rw [f1 7 rfl]; exact hA.1) fun μ2 f2 a1 a2 a3 a4 => ⟨_, rfl, ?_⟩
  refine H1 c rfl hc μ2 (jf_trans (jf_sub f1 rfl) (jf_sub f2 rfl)) (jl_cbf hB1 (f2 6 rfl) (f2 31 rfl) (f2 32 rfl) (f2 33 rfl) (f2 34 rfl)) (jl_cact hA hct (jf_sub f1 rfl) hO (Or.inr (Or.inr ⟨Or.inl rfl, c, rfl, hc⟩)) ⟨rfl, fun _ _ => rfl, fun c' j hc' hj => ?_, fun _ _ _ _ => rfl⟩ a1 a2 a3 a4)
  show (st 0).2.2.1 c' j = (if c' = ((c : Nat) : Int).toNat then (if ((c : Nat) : Int).toNat = c then (st 0).2.2.1 c (((j + 3) % 4 + 1) % 4) else (st 0).2.2.1 ((c : Nat) : Int).toNat ((j + 3) % 4)) else (if c' = c then (st 0).2.2.1 c ((j + 1) % 4) else (st 0).2.2.1 c' j))
  rw [Int.toNat_natCast]
  by_cases h : c' = c
  · rw [if_pos h, if_pos rfl, h, show ((j + 3) % 4 + 1) % 4 = j by omega]
  · rw [if_neg h, if_neg h]
theorem js_2214 {a : Int} (hB : jc_bb nc lm (st 0) μ) (hO : jd_okb nc lm (st 0)) (hA : jc_acts nc lm ct st μ) (hct : ct ≤ 20) (ha : qm_r32 a) (H1 : ∀ c : Nat, a = (c : Int) → c < nc → ∀ μ', jd_fr [6, 7, 31, 32, 33, 34, 35, 36] μ μ' → jc_bb nc lm (jd_bz (st 0) c) μ' → jc_acts nc lm (jd_ct ct) (jd_cons (jd_bz (st 0) c) st) μ' → Q 1 μ') (H0 : (a < 0 ∨ (nc : Int) ≤ a) → Q 0 μ) : qm_CI (qb_T L) (d + 4) 2214 [qm_P 0, qm_I a] μ Q := by
  refine b2214_0 μ _ _ (js_205 hB hO ha (fun c hac hc => ⟨by decide, fun q => absurd q (by decide), fun _ => ?_⟩) (fun h0 => ⟨by decide, fun _ => ⟨_, rfl, H0 h0⟩, fun q => absurd rfl q⟩))
  subst hac
  refine js_209 hB hO hc fun μ1 f1 hB1 => ?_
  refine js_1 hct (by rw [f1 7 rfl]; exact hA.1) fun μ2 f2 a1 a2 a3 a4 => ⟨_, rfl, ?_⟩
  refine H1 c rfl hc μ2 (jf_trans (jf_sub f1 rfl) (jf_sub f2 rfl)) (jl_cbf hB1 (f2 6 rfl) (f2 31 rfl) (f2 32 rfl) (f2 33 rfl) (f2 34 rfl)) (jl_cact hA hct (jf_sub f1 rfl) hO (Or.inr (Or.inr ⟨Or.inr rfl, c, rfl, hc⟩)) ⟨rfl, fun c' hc' => ?_, fun _ _ _ _ => rfl, fun _ _ _ _ => rfl⟩ a1 a2 a3 a4)
  show (st 0).2.1 c' = (if c' = ((c : Nat) : Int).toNat then 1 - (if ((c : Nat) : Int).toNat = c then 1 - (st 0).2.1 c else (st 0).2.1 ((c : Nat) : Int).toNat) else (if c' = c then 1 - (st 0).2.1 c else (st 0).2.1 c'))
  rw [Int.toNat_natCast]
  by_cases h : c' = c
  · rw [if_pos h, if_pos rfl, h]; omega
  · rw [if_neg h, if_neg h]
theorem js_3 (hB : jc_bb nc lm (st 0) μ) (hO : jd_okb nc lm (st 0)) (hA : jc_acts nc lm ct st μ) (hct : ct ≤ 20) (H1 : 0 < ct → ∀ μ', jd_fr [6, 7, 31, 32, 33, 34, 35, 36] μ μ' → jc_bb nc lm (st 1) μ' → jc_acts nc lm (ct - 1) (fun i => st (i + 1)) μ' → Q 1 μ') (H0 : ct = 0 → Q 0 μ) : qm_CI (qb_T L) (d + 3) 3 [qm_P 7] μ Q := by
  have h1 := hO.1
  have h2 := hO.2.1
  refine b3_0 μ _ ?_
  rw [hA.1]
  refine ⟨by omega, fun z => ⟨_, rfl, H0 (by omega)⟩, fun z => ?_⟩
  have fA : jd_fr [6, 7, 31, 32, 33, 34, 35, 36] μ (qm_set μ 7 3 ((ct : Int) - 1)) := jf_set (jf_refl _ _) rfl
  have hz : (qm_set μ 7 3 ((ct : Int) - 1)) 7 3 = ((ct - 1 : Nat) : Int) := by rw [jl_ss]; omega
  have hB1 : jc_bb nc lm (st 0) (qm_set μ 7 3 ((ct : Int) - 1)) := jl_cbf hB (jl_sn _ _ _ (by decide)) (jl_sn _ _ _ (by decide)) (jl_sn _ _ _ (by decide)) (jl_sn _ _ _ (by decide)) (jl_sn _ _ _ (by decide))
  have hl : ∀ μ', jd_fr [6, 31, 32, 33, 34] (qm_set μ 7 3 ((ct : Int) - 1)) μ' → jc_acts nc lm (ct - 1) (fun i => st (i + 1)) μ' := by
    intro μ' hf
    refine ⟨by rw [hf 7 rfl]; exact hz, fun i hi => ?_⟩
    rw [hf 35 rfl, hf 36 rfl, jl_sn _ _ _ (by decide), jl_sn _ _ _ (by decide), show ct - 1 - 1 - i = ct - 1 - (i + 1) by omega]
    exact hA.2 (i + 1) (by omega)
  obtain ⟨a1, a2, a3⟩ := hA.2 0 (by omega)
  refine js_401i (ct - 1) rfl (by decide) (by omega) (by omega) ?_
  refine js_401i (ct - 1) rfl (by decide) hz (by omega) ?_
  rw [jl_sn (c := 7) (c' := 36) _ _ _ (by decide), jl_sn (c := 7) (c' := 35) _ _ _ (by decide)]
  rw [Nat.sub_zero] at a2 a3
  have hkey : ∀ μ', jd_fr [6, 31, 32, 33, 34] (qm_set μ 7 3 ((ct : Int) - 1)) μ' → jc_bb nc lm (jd_undo (μ 35 (ct - 1)) (μ 36 (ct - 1)) (st 0)) μ' → Q 1 μ' := fun μ' hf hb => H1 (by omega) μ' (jf_trans fA (jf_sub hf rfl)) (jl_cbe a3 hb) (hl μ' hf)
  generalize hk : μ 35 (ct - 1) = k at *
  generalize hw : μ 36 (ct - 1) = w at *
  rcases a2 with ⟨rfl, q2⟩ | ⟨rfl, q2, q3⟩ | ⟨q1, c, rfl, q3⟩
  · refine ⟨by decide, fun _ => ⟨_, rfl, hkey _ (jf_set (jf_refl _ _) rfl) ?_⟩, fun q => absurd q (by decide), fun q => absurd q (by decide), fun q => absurd q (by decide)⟩
    obtain ⟨e1, e2, e3, e4, e5, e6, e7, e8⟩ := hB1
    refine ⟨?_, ?_, ?_, ?_, ?_, ?_, ?_, ?_⟩
    · rw [jl_sk _ _ _ (by decide)]; exact e1
    · rw [jl_ss, e2]; show ((st 0).1 : Int) - 1 = (((st 0).1 - 1 : Nat) : Int); omega
    · rw [jl_sk _ _ _ (by decide)]; exact e3
    · rw [jl_sn (c' := 31) _ _ _ (by decide)]; exact e4
    · rw [jl_sn (c' := 32) _ _ _ (by decide)]; exact e5
    · rw [jl_sn (c' := 33) _ _ _ (by decide)]; exact fun r c hr hc => e6 r c (Nat.lt_of_lt_of_le hr (Nat.sub_le _ _)) hc
    · rw [jl_sn (c' := 33) _ _ _ (by decide)]; exact fun r hr => e7 r (Nat.lt_of_lt_of_le hr (Nat.sub_le _ _))
    · rw [jl_sn (c' := 34) _ _ _ (by decide)]; exact fun r c hr hc => e8 r c (Nat.lt_of_lt_of_le hr (Nat.sub_le _ _)) hc
  · refine ⟨by decide, fun q => absurd q (by decide), fun _ => ?_, fun q => absurd q (by decide), fun q => absurd q (by decide)⟩
    obtain ⟨b1, b2, b3, b4⟩ := a3
    have b1' : (st 1).1 = (st 0).1 + 1 := b1
    have b4' : ∀ r c, r < (st 1).1 → c < nc → (st 1).2.2.2 r c = jd_ap (st 0).2.2.2 (st 0).1 (jd_dig w) r c := b4
    refine js_202 (u := jd_dig w) hB1 hO q3 (fun c hc => ⟨rfl, ?_⟩) (fun μ1 f1 _ _ hB2 => ⟨_, rfl, hkey μ1 (jf_sub f1 rfl) hB2⟩) (fun μ1 f1 hn hB2 => absurd ⟨q2, fun c hc => ?_⟩ hn)
    · have e := b4' (st 0).1 c (by omega) hc
      rw [jl_ap1] at e
      rw [← e]
      exact (a1.2.2.2.2.2.1 (st 0).1 c (by show (st 0).1 < (st 1).1; omega) hc).2
    · have e := a1.2.2.2.2.2.2 ((st 0).1 + 1) c (by show (st 0).1 + 1 ≤ (st 1).1; omega) hc
      rw [jl_twe (g := fun i => jd_ap (st 0).2.2.2 (st 0).1 (jd_dig w) i c) ((st 0).1 + 1) (fun i hi => b4' i c (by omega) hc), jl_apt1] at e
      exact e
  · rcases q1 with rfl | rfl
    · refine ⟨by decide, fun q => absurd q (by decide), fun q => absurd q (by decide), fun _ => ?_, fun q => absurd q (by decide)⟩
      refine js_212 (k := 3) hB1 hO q3 rfl fun μ1 f1 hB2 => ⟨_, rfl, hkey μ1 (jf_sub f1 rfl) hB2⟩
    · refine ⟨by decide, fun q => absurd q (by decide), fun q => absurd q (by decide), fun q => absurd q (by decide), fun _ => ?_⟩
      refine js_209 hB1 hO q3 fun μ1 f1 hB2 => ⟨_, rfl, hkey μ1 (jf_sub f1 rfl) hB2⟩
theorem js_2215 (hB : jc_bb nc lm (st 0) μ) (hO : jd_okb nc lm (st 0)) (hA : jc_acts nc lm ct st μ) (hct : ct ≤ 20) (H1 : 0 < ct → ∀ μ', jd_fr [6, 7, 31, 32, 33, 34, 35, 36] μ μ' → jc_bb nc lm (st 1) μ' → jc_acts nc lm (ct - 1) (fun i => st (i + 1)) μ' → Q 1 μ') (H0 : ct = 0 → Q 0 μ) : qm_CI (qb_T L) (d + 4) 2215 [qm_P 0] μ Q :=
  b2215_0 μ _ (js_3 hB hO hA hct (fun z μ' f hb ha => ⟨Or.inr rfl, _, rfl, H1 z μ' f hb ha⟩) (fun z => ⟨Or.inl rfl, _, rfl, H0 z⟩))
end
