/-! ===== a question answered ===== -/
noncomputable def je_val (nc : Nat) (sd : Nat → Int) (th T : Nat → Nat → Int) (D : qm_M) (c r : Nat) : Int := match je_run nc sd th T r D c 0 [] with
  | some (v :: _) => v
  | _ => 0
theorem je_vale {nc : Nat} {sd : Nat → Int} {th T : Nat → Nat → Int} {D : qm_M} {c r : Nat} {v : Int} (h : je_run nc sd th T r D c 0 [] = some [v]) : je_val nc sd th T D c r = v := by
  unfold je_val; rw [h]
def je_fst (f : Nat → Int) : Nat → Int
  | 0 => -1
  | n + 1 => if je_fst f n = -1 then (if f n = 0 then -1 else (n : Int)) else je_fst f n
def je_lst (f : Nat → Int) : Nat → Int
  | 0 => -1
  | n + 1 => if f n = 0 then je_lst f n else (n : Int)
def je_mst (f : Nat → Int) : Nat → Int
  | 0 => 0
  | n + 1 => if n = 0 then f n else if je_mst f n < f n then f n else je_mst f n
def je_lea (f : Nat → Int) : Nat → Int
  | 0 => 0
  | n + 1 => if n = 0 then f n else if f n < je_lea f n then f n else je_lea f n
def je_ans (k : Int) (f : Nat → Int) (n : Nat) : Int := if k = 0 then je_fst f n else if k = 1 then je_lst f n else if k = 4 then je_mst f n else if k = 5 then je_lea f n else jd_sum f n
theorem je_fstb (f : Nat → Int) : ∀ n : Nat, -1 ≤ je_fst f n ∧ je_fst f n ≤ (n : Int)
  | 0 => ⟨by show -1 ≤ (-1 : Int); decide, by show (-1 : Int) ≤ ((0 : Nat) : Int); decide⟩
  | n + 1 => by
    have := je_fstb f n
    unfold je_fst
    split
    · split <;> omega
    · omega
theorem je_lstb (f : Nat → Int) : ∀ n : Nat, -1 ≤ je_lst f n ∧ je_lst f n ≤ (n : Int)
  | 0 => ⟨by show -1 ≤ (-1 : Int); decide, by show (-1 : Int) ≤ ((0 : Nat) : Int); decide⟩
  | n + 1 => by
    have := je_lstb f n
    unfold je_lst
    split <;> omega
theorem je_mstb {f : Nat → Int} : ∀ n : Nat, (∀ i, i < n → je_n (f i)) → je_n (je_mst f n)
  | 0, _ => by unfold je_n je_mst; omega
  | n + 1, h => by
    have := je_mstb n (fun i hi => h i (by omega))
    unfold je_mst
    split
    · exact h n (by omega)
    · split
      · exact h n (by omega)
      · exact this
theorem je_leab {f : Nat → Int} : ∀ n : Nat, (∀ i, i < n → je_n (f i)) → je_n (je_lea f n)
  | 0, _ => by unfold je_n je_lea; omega
  | n + 1, h => by
    have := je_leab n (fun i hi => h i (by omega))
    unfold je_lea
    split
    · exact h n (by omega)
    · split
      · exact h n (by omega)
      · exact this
theorem je_smb {f : Nat → Int} : ∀ n : Nat, (∀ i, i < n → je_n (f i)) → -(1000000 * (n : Int)) ≤ jd_sum f n ∧ jd_sum f n ≤ 1000000 * (n : Int)
  | 0, _ => ⟨by show -(1000000 * ((0 : Nat) : Int)) ≤ 0; decide, by show (0 : Int) ≤ _; decide⟩
  | n + 1, h => by
    have := je_smb n (fun i hi => h i (by omega))
    have h2 := h n (by omega)
    unfold je_n at h2
    have e : jd_sum f (n + 1) = jd_sum f n + f n := rfl
    rw [e]
    omega
section
variable {L d : Nat} {nc nr : Nat} {lm : Int} {sd : Nat → Int} {th T : Nat → Nat → Int} {Q : Int → qm_M → Prop}
theorem js_1213 {D μ0 : qm_M} {c : Nat} {k : Int} {f : Nat → Int} (hO : jd_ok nc nr lm sd th T) (hc6 : c ≤ 1600) (hB : jc_belt nc nr lm sd th T μ0) (h42 : μ0 42 = D 42) (h43 : μ0 43 = D 43) (h5 : μ0 11 5 = (c : Int)) (h7 : μ0 11 7 = k) (hk : 0 ≤ k ∧ k ≤ 5) (hf : ∀ r, r < nr → je_run nc sd th T r D c 0 [] = some [f r] ∧ je_n (f r)) (H : ∀ μ', jc_ev μ0 μ' → Q (je_ans k f nr) μ') : qm_CL (qb_T L) (d + 7) 1213 [qm_P 11] μ0 Q := by
  have hnr := hO.2.1
  have nil : je_all [] := fun v hv => absurd hv (List.not_mem_nil)
  refine b1213_0 μ0 _ ?_
  refine jl_loop (S := fun i => ∀ (μ : qm_M) (w12 : qm_V), jc_ev μ0 μ → qm_W (qb_T L) (d + 7) 1213 20 [qm_P 11, qm_L (je_fst f i), none, qm_L (je_lst f i), none, qm_L (jd_sum f i), none, qm_L (je_mst f i), none, qm_L (je_lea f i), none, qm_I ((i : Nat) : Int), w12, none] [] μ (fun v μ' => ∃ r, v = some (.inr (.inl r)) ∧ Q r μ')) nr (fun i hi ih μ w12 hev => ?_) (fun μ w12 hev => ?_) μ0 none (jc_evr _)
  · have hfi := hf i hi
    have hfn := hfi.2
    unfold je_n at hfn
    have hb : ∀ j, j < i → je_n (f j) := fun j hj => (hf j (by omega)).2
    have b1 := je_fstb f i
    have b2 := je_mstb i hb
    have b3 := je_leab i hb
    unfold je_n at b2 b3
    have e6 : μ 6 1 = (nr : Int) := by rw [hev.1 6 (by decide) (by decide)]; exact hB.2.1
    refine b1213_20 μ _ _ _ _ _ _ _ _ ?_
    rw [e6]
    refine ⟨by omega, by omega, fun z => by omega, fun _ => b1216_0 μ _ _ ?_⟩
    refine js_1216 (μ0 := μ0) (D := D) hO hi hc6 hB h42 h43 h5 c 0 [] _ none none none (by omega) nil hfi.1 (jc_ev6 hev) (jl_ss _ _ _ _) trivial (by decide) fun μ1 hev1 => ⟨by omega, ?_⟩
    -- behind first and last
    have fin : qm_W (qb_T L) (d + 7) 1213 67 [qm_P 11, qm_L (je_fst f (i + 1)), none, qm_L (je_lst f (i + 1)), none, qm_L (jd_sum f i), none, qm_L (je_mst f i), none, qm_L (je_lea f i), none, qm_I ((i : Nat) : Int), qm_L (f i), none] [] μ1 (fun v μ' => ∃ r, v = some (.inr (.inl r)) ∧ Q r μ') := by
      have emx : i ≠ 0 → qm_max (je_mst f i) (f i) = je_mst f (i + 1) := fun z => by
        unfold qm_max
        show _ = if i = 0 then f i else if je_mst f i < f i then f i else je_mst f i
        rw [if_neg z]
      have emn : i ≠ 0 → qm_min (je_lea f i) (f i) = je_lea f (i + 1) := fun z => by
        unfold qm_min
        show _ = if i = 0 then f i else if f i < je_lea f i then f i else je_lea f i
        rw [if_neg z]
      have last : ∀ m1 m2, m1 = je_mst f (i + 1) → m2 = je_lea f (i + 1) → qm_W (qb_T L) (d + 7) 1213 110 [qm_P 11, qm_L (je_fst f (i + 1)), none, qm_L (je_lst f (i + 1)), none, qm_L (jd_sum f i + f i), none, qm_L m1, none, qm_L (je_lea f i), none, qm_I ((i : Nat) : Int), qm_L (f i), none] [qm_L m2] μ1 (fun v μ' => ∃ r, v = some (.inr (.inl r)) ∧ Q r μ') := fun m1 m2 e1 e2 => by
        rw [e1, e2]
        refine b1213_110 μ1 _ _ _ _ _ _ _ _ _ ?_
        rw [jl_cs]
        exact ih μ1 _ hev1
      refine b1213_67 μ1 _ _ _ _ _ _ _ _ ⟨by omega, fun z => b1213_91 μ1 _ _ _ _ _ _ _ _ _ ⟨by omega, fun z2 => last _ _ ?_ ?_, fun z2 => absurd z z2⟩, fun z => ⟨by omega, by omega, b1213_91 μ1 _ _ _ _ _ _ _ _ _ ⟨by omega, fun z2 => absurd z2 z, fun z2 => ⟨by omega, by omega, last _ _ (emx (by omega)) (emn (by omega))⟩⟩⟩⟩
      · have : i = 0 := by omega
        subst this; rfl
      · have : i = 0 := by omega
        subst this; rfl
    have l62 : ∀ x, x = je_fst f (i + 1) → f i ≠ 0 → qm_W (qb_T L) (d + 7) 1213 62 [qm_P 11, qm_L (je_fst f i), none, qm_L (je_lst f i), none, qm_L (jd_sum f i), none, qm_L (je_mst f i), none, qm_L (je_lea f i), none, qm_I ((i : Nat) : Int), qm_L (f i), none] [qm_L x] μ1 (fun v μ' => ∃ r, v = some (.inr (.inl r)) ∧ Q r μ') := fun x ex z => by
      refine b1213_62 μ1 _ _ _ _ _ _ _ _ _ ⟨by omega, ?_⟩
      have el : je_lst f (i + 1) = ((i : Nat) : Int) := by unfold je_lst; rw [if_neg z]
      rw [el] at fin
      rw [ex]
      exact fin
    refine ⟨fun z => ?_, fun z => ⟨by omega, fun z2 => ⟨by omega, l62 _ ?_ z⟩, fun z2 => l62 _ ?_ z⟩⟩
    · have ef : je_fst f (i + 1) = je_fst f i := by
        show (if je_fst f i = -1 then (if f i = 0 then -1 else (i : Int)) else je_fst f i) = je_fst f i
        rw [if_pos z]
        by_cases q : je_fst f i = -1
        · rw [if_pos q]; exact q.symm
        · rw [if_neg q]
      have el : je_lst f (i + 1) = je_lst f i := by
        show (if f i = 0 then je_lst f i else _) = _
        rw [if_pos z]
      rw [ef, el] at fin
      exact fin
    · show _ = if je_fst f i = -1 then (if f i = 0 then -1 else (i : Int)) else je_fst f i
      rw [if_pos z2, if_neg z]
    · show _ = if je_fst f i = -1 then (if f i = 0 then -1 else (i : Int)) else je_fst f i
      rw [if_neg z2]
  · have e6 : μ 6 1 = (nr : Int) := by rw [hev.1 6 (by decide) (by decide)]; exact hB.2.1
    have e7 : μ 11 7 = k := by rw [hev.2 7 (by decide)]; exact h7
    have HH := H μ hev
    unfold je_ans at HH
    refine b1213_20 μ _ _ _ _ _ _ _ _ ?_
    rw [e6, e7]
    refine ⟨by omega, by omega, fun _ => ⟨by omega, fun q => ⟨_, rfl, ?_⟩, fun q => ⟨_, rfl, ?_⟩, fun q => ⟨_, rfl, ?_⟩, fun q => ⟨_, rfl, ?_⟩, fun q => ⟨_, rfl, ?_⟩, fun q => ⟨_, rfl, ?_⟩, fun q => by omega⟩, fun z => by omega⟩
    · rw [if_pos q] at HH; exact HH
    · rw [if_neg (by omega), if_pos q] at HH; exact HH
    · rw [if_neg (by omega), if_neg (by omega), if_neg (by omega), if_neg (by omega)] at HH; exact HH
    · rw [if_neg (by omega), if_neg (by omega), if_neg (by omega), if_neg (by omega)] at HH; exact HH
    · rw [if_neg (by omega), if_neg (by omega), if_pos q] at HH; exact HH
    · rw [if_neg (by omega), if_neg (by omega), if_neg (by omega), if_pos q] at HH; exact HH
/-- a question asked, the class's -/
theorem js_2225 {n : Nat} {t : Nat → Int} {μ : qm_M} (hk : jd_tok n t) (hT : jc_tape n t μ) (hO : jd_ok nc nr lm sd th T) (hB : jc_belt nc nr lm sd th T μ)
    (H1 : ∀ σ, jx_ask n t (jx_q0 μ (jx_qk n t)) = .inr σ → ∀ c : Nat, σ.2.2 11 5 = (c : Int) → ∀ μ', jd_fr [1, 2, 11, 42, 43, 44] μ μ' → μ' 2 6 = 0 → μ' 2 7 = -1 → jc_tape 0 t μ' → Q (je_ans (jx_qk n t) (je_val nc sd th T σ.2.2 c) nr) μ')
    (H0 : ∀ e, jx_ask n t (jx_q0 μ (jx_qk n t)) = .inl e → ∀ μ', jd_fr [1, 2, 11, 42, 43, 44] μ μ' → μ' 2 6 = e.1 → μ' 2 7 = e.2 → jc_tape 0 t μ' → Q (-1000000000000000) μ') : qm_CL (qb_T L) (d + 61) 2225 [qm_P 0] μ Q := by
  have tap : ∀ μ1 : qm_M, jc_tape 0 t (qm_set μ1 1 1 0) := fun μ1 => ⟨jl_ss _ _ _ _, fun i hi => absurd hi (by omega)⟩
  refine b2225_0 μ _ (js_1201 hk hT (fun σ hσ μ1 h1 => ⟨by decide, fun q => absurd q (by decide), fun _ => ?_⟩) (fun e he μ1 h1 => ⟨by decide, fun _ => ⟨_, rfl, ?_⟩, fun q => absurd rfl q⟩))
  · obtain ⟨g1, g2, g3, g4, g5, g6, g7⟩ := h1
    have hq5 := jx_q05 μ (jx_qk n t)
    have hB2 : jc_belt nc nr lm sd th T (qm_set μ1 1 1 0) := by
      unfold jc_belt at *
      rw [jl_sn _ _ _ (by decide), jl_sn _ _ _ (by decide), jl_sn _ _ _ (by decide), jl_sn _ _ _ (by decide), jl_sn _ _ _ (by decide), g1 6 rfl, g1 31 rfl, g1 32 rfl, g1 33 rfl, g1 34 rfl]
      exact hB
    have hk5 : 0 ≤ jx_qk n t ∧ jx_qk n t ≤ 5 := by
      have hne : jx_qk n t ≠ -1 := fun z => by
        unfold jx_ask at hσ
        rw [if_pos z] at hσ; cases hσ
      revert hne
      unfold jx_qk
      by_cases q1 : jx_isW n t 0 false qb_tx_1013
      · rw [jx_ifp q1]; omega
      rw [jx_ifn q1]
      by_cases q2 : jx_isW n t 0 false qb_tx_1014
      · rw [jx_ifp q2]; omega
      rw [jx_ifn q2]
      by_cases q3 : jx_isW n t 0 false qb_tx_1015
      · rw [jx_ifp q3]; omega
      rw [jx_ifn q3]
      by_cases q4 : jx_isW n t 0 false qb_tx_1016
      · rw [jx_ifp q4]; omega
      rw [jx_ifn q4]
      by_cases q5 : jx_isW n t 0 false qb_tx_1017
      · rw [jx_ifp q5]; omega
      rw [jx_ifn q5]
      by_cases q6 : jx_isW n t 0 false qb_tx_1018
      · rw [jx_ifp q6]; omega
      rw [jx_ifn q6]; omega
    have h7 : σ.2.2 11 7 = jx_qk n t := (je_p7a σ hσ).trans (by unfold jx_q0; exact jl_ss _ _ _ _)
    -- how many steps
    obtain ⟨c, hc, hc6⟩ : ∃ c : Nat, σ.2.2 11 5 = (c : Int) ∧ c ≤ 1600 := by
      unfold jx_ask at hσ
      split at hσ
      · cases hσ
      · obtain ⟨s1, e1, e2⟩ := jl_bdr hσ
        have hw := (jx_wes t (Nat.zero_le n)).2.1
        have hn := hk.1
        split at e2
        · have := (Sum.inr.inj e2)
          subst this
          split at e1
          · unfold jx_tst at e1
            obtain ⟨s2, k2, k3⟩ := jl_bdr e1
            obtain ⟨s0, k0, k1⟩ := jl_bdr k2
            have a0 := jl_qer 2000 0 _ (jx_we n t 0, true, jx_q0 μ (jx_qk n t)) s0 hw k0
            have a1 := jl_qer 2000 1 _ s0 s2 a0.1.2.1 k1
            have a2 := jl_qer 2000 2 _ s2 s1 a1.1.2.1 k3
            obtain ⟨c', f1, f2⟩ := jl_cleq (jl_qokt (jl_qokt a0.1 a1.1) a2.1) ⟨0, hq5, Nat.zero_le _⟩
            have := a2.1.2.1
            exact ⟨c', f1, by omega⟩
          · have a := jl_sumr (s := (jx_we n t 0, true, jx_q0 μ (jx_qk n t))) hw e1
            obtain ⟨c', f1, f2⟩ := jl_cleq a.1 ⟨0, hq5, Nat.zero_le _⟩
            have := a.1.2.1
            exact ⟨c', f1, by omega⟩
        · cases e2
    refine js_1213 (D := σ.2.2) (c := c) (k := jx_qk n t) (f := je_val nc sd th T σ.2.2 c) hO hc6 hB2 ?_ ?_ ?_ ?_ hk5 (fun r hr => ?_) (fun μ2 hev => ⟨_, rfl, H1 σ hσ c hc μ2 ?_ ?_ ?_ ?_⟩)
    · rw [jl_sn _ _ _ (by decide)]; exact g5 42 rfl
    · rw [jl_sn _ _ _ (by decide)]; exact g5 43 rfl
    · rw [jl_sn _ _ _ (by decide), g5 11 rfl]; exact hc
    · rw [jl_sn _ _ _ (by decide), g5 11 rfl]; exact h7
    · obtain ⟨c2, v, hc2, _, hrun, hv, _⟩ := je_ask hk.1 hO hr hq5 hσ
      have : c2 = c := by rw [hc] at hc2; omega
      subst this
      rw [je_vale hrun]
      exact ⟨hrun, hv⟩
    · intro a ha
      have a44 : a ≠ 44 := fun z => by subst z; cases ha
      have a11 : a ≠ 11 := fun z => by subst z; cases ha
      have a1 : a ≠ 1 := fun z => by subst z; cases ha
      rw [hev.1 a a44 a11, jl_sn _ _ _ a1]
      refine g1 a ?_
      cases q : jx_QF.contains a with
      | false => rfl
      | true =>
        have : a = 2 ∨ a = 11 ∨ a = 42 ∨ a = 43 := by
          have := List.contains_iff_mem.mp q
          simpa [jx_QF] using this
        rcases this with rfl | rfl | rfl | rfl <;> cases ha
    · rw [hev.1 2 (by decide) (by decide), jl_sn _ _ _ (by decide)]; exact g3
    · rw [hev.1 2 (by decide) (by decide), jl_sn _ _ _ (by decide)]; exact g4
    · refine ⟨?_, fun i hi => absurd hi (by omega)⟩
      rw [hev.1 1 (by decide) (by decide)]; exact jl_ss _ _ _ _
  · refine H0 e he _ (jf_set (jf_sub h1.1 rfl) rfl) ?_ ?_ (tap μ1)
    · rw [jl_sn _ _ _ (by decide)]; exact h1.2.1
    · rw [jl_sn _ _ _ (by decide)]; exact h1.2.2
end
