/-! ===== a question's parts, the class's: any ===== -/
section
variable {L n : Nat} {t : Nat → Int} {μ0 : qm_M}
theorem jl_P (hk : jd_tok n t) {F : Nat} (hP : jc_P L n t μ0 F) (hR : jc_R1 L n t μ0 F) (hR2 : jc_R2 L n t μ0 F) : jc_P L n t μ0 (F + 1) := fun o b m D μ dd Q ho hd hF hc h H1 H0 => by
  have hn := hk.1
  obtain ⟨d, rfl⟩ : ∃ e, dd = e + 5 := ⟨dd - 5, by omega⟩
  obtain ⟨h1, h2, h3, h4, h5, h6, h7⟩ := id h
  have hc0 := hc
  obtain ⟨c, hc1, hc2⟩ := hc
  have hst := jx_stb (t := t) h6
  have hcr : qm_r32 (D 11 5) := by rw [hc1]; exact ⟨by omega, by omega⟩
  have wok : ∀ l, jx_isW n t b m l → b < jx_we n t b ∧ jx_we n t b ≤ n := fun l z => by
    have := jx_wlt h6 z.1.1 z.1.2.1
    exact ⟨by omega, (jx_wes t h6).2.1⟩
  unfold jx_qs at H1 H0
  have plain : ∀ (k : Int) l, jx_isW n t b m l → k ≠ -1 → (-2147483648 ≤ k ∧ k < 2147483648) → (∀ μ', jc_qt μ0 n t (jx_we n t b) true (jx_qa D k 0) μ' → Q 1 μ') → qm_W (qb_T L) (d + 5) 1211 90 [qm_P 11, qm_I ((o : Nat) : Int), none, none] [qm_I k] μ (fun v μ' => ∃ r, v = some (.inl r) ∧ Q r μ') := fun k l hw hk1 hkr HH =>
    b1211_90 μ _ _ _ ⟨hkr, fun q => absurd q hk1, fun _ => js_1203 h hcr (fun V HV => js_stepL h7 hk h6 h2 hw.1 HV) (wok l hw).2 fun μ' h' => ⟨Or.inr rfl, _, rfl, HH μ' h'⟩⟩
  refine b1211_0 μ _ _ (js_2012 h2 (fun q1 => ⟨by decide, fun q => absurd q (by decide), fun _ => ?_⟩) (fun q1 => ⟨by decide, fun _ => ?_, fun q => absurd rfl q⟩))
  · rw [jx_ifp q1] at H1 H0
    refine js_2014 h3 hk h6 h2 (fun _ hle => ⟨by decide, fun q => absurd q (by decide), fun _ => ?_⟩) (fun μ' f a1 a2 => ⟨by decide, fun _ => ⟨_, rfl, ?_⟩, fun q => absurd rfl q⟩)
    · have e5 := (jl_tokN h2 q1).2.2.2
      rw [show min (jx_de n t b - jx_st n t b) 4 = jx_de n t b - jx_st n t b by omega] at e5
      rw [e5]
      exact js_1203 h hcr (fun V HV => js_stepN h7 hk h6 h2 q1 HV) (jx_des t h6).2.1 fun μ' h' => ⟨by decide, fun q => absurd q (by decide), fun _ => ⟨_, rfl, H1 _ (if_pos hle) μ' h'⟩⟩
    · rcases a2 with z | ⟨_, z, a3⟩
      · exact absurd q1 z.1
      · exact H0 _ (if_neg z) μ' (jl_qtn h f a1 a3)
  rw [jx_ifn q1] at H1 H0
  refine js_2009 (l := qb_tx_1021) rfl (jx_lw13 (84, qb_tx_1021) (by decide)) hk h6 h2 (fun q2 => ⟨by decide, fun q => absurd q (by decide), fun _ => ?_⟩) (fun q2 => ⟨by decide, fun _ => ?_, fun q => absurd rfl q⟩)
  · rw [jx_ifp q2] at H1; exact plain 1 _ q2 (by decide) (by decide) (H1 _ rfl)
  rw [jx_ifn q2] at H1 H0
  refine js_2009 (l := qb_tx_1022) rfl (jx_lw13 (85, qb_tx_1022) (by decide)) hk h6 h2 (fun q3 => ⟨by decide, fun q => absurd q (by decide), fun _ => ?_⟩) (fun q3 => ⟨by decide, fun _ => ?_, fun q => absurd rfl q⟩)
  · rw [jx_ifp q3] at H1; exact plain 2 _ q3 (by decide) (by decide) (H1 _ rfl)
  rw [jx_ifn q3] at H1 H0
  refine js_2009 (l := qb_tx_1023) rfl (jx_lw13 (86, qb_tx_1023) (by decide)) hk h6 h2 (fun q4 => ⟨by decide, fun q => absurd q (by decide), fun _ => ?_⟩) (fun q4 => ⟨by decide, fun _ => ?_, fun q => absurd rfl q⟩)
  · rw [jx_ifp q4] at H1; exact plain 3 _ q4 (by decide) (by decide) (H1 _ rfl)
  rw [jx_ifn q4] at H1 H0
  refine b1211_90 μ _ _ _ ⟨by decide, fun _ => ?_, fun q => absurd rfl q⟩
  -- the pair
  have pair : (jx_isW n t b m qb_tx_1024 ∨ jx_isW n t b m qb_tx_1025) → qm_W (qb_T L) (d + 5) 1211 127 [qm_P 11, qm_I ((o : Nat) : Int), qm_I (-1), none] [] μ (fun v μ' => ∃ r, v = some (.inl r) ∧ Q r μ') := fun hs => by
    rw [jx_ifp hs] at H1 H0
    exact b1211_127 μ _ _ _ (js_1212 (F := F) hk hP hR hR2 ho (by omega) hF hc0 h hs (fun s e μ' h' => ⟨Or.inr rfl, _, rfl, H1 s e μ' h'⟩) (fun s e μ' h' => ⟨Or.inl rfl, _, rfl, H0 s e μ' h'⟩))
  refine js_2009 (l := qb_tx_1024) rfl (jx_lw13 (82, qb_tx_1024) (by decide)) hk h6 h2 (fun q5 => ⟨by decide, fun q => absurd q (by decide), fun _ => pair (Or.inl q5)⟩) (fun q5 => ⟨by decide, fun _ => ?_, fun q => absurd rfl q⟩)
  refine js_2009 (l := qb_tx_1025) rfl (jx_lw13 (83, qb_tx_1025) (by decide)) hk h6 h2 (fun q6 => ⟨by decide, fun q => absurd q (by decide), fun _ => pair (Or.inr q6)⟩) (fun q6 => ⟨by decide, fun _ => ?_, fun q => absurd rfl q⟩)
  rw [jx_ifn (fun z => z.elim q5 q6)] at H1 H0
  -- a part behind a word
  have cell : ∀ (k : Int) l, jx_isW n t b m l → (jx_isW n t b m qb_tx_1026 ∨ jx_isW n t b m qb_tx_1027 ∨ jx_isW n t b m qb_tx_1028 ∨ jx_isW n t b m qb_tx_1029) → k ≠ -1 → (-2147483648 ≤ k ∧ k < 2147483648) → jx_if (jx_isW n t b m qb_tx_1026) 4 (jx_if (jx_isW n t b m qb_tx_1027) 5 (jx_if (jx_isW n t b m qb_tx_1028) 6 7)) = k → qm_W (qb_T L) (d + 5) 1211 200 [qm_P 11, qm_I ((o : Nat) : Int), qm_I (-1), none] [qm_I k] μ (fun v μ' => ∃ r, v = some (.inl r) ∧ Q r μ') := fun k l hl hs hk1 hkr hk2 => by
    rw [jx_ifp hs] at H1 H0
    refine b1211_200 μ _ _ _ _ ⟨hkr, fun q => absurd q hk1, fun _ => b1211_227 μ _ _ _ _ ?_⟩
    refine js_1204 (by omega) h (fun y => ⟨by decide, fun q => absurd q (by decide), fun _ => ?_⟩) (fun y μ' h' => ⟨by decide, fun _ => ⟨_, rfl, H0 _ (if_pos y) μ' h'⟩, fun q => absurd rfl q⟩)
    rw [if_neg (by omega)] at H1 H0
    refine js_stepL h7 hk h6 h2 hl.1 fun μ1 f1 hx1 => ⟨hkr, fun q => absurd q hk1, fun _ => ?_⟩
    have hw := wok l hl
    have ha := jl_qts h f1 hx1 hw.2
    rw [jl_cs]
    refine hP (o + 1) (jx_we n t b) true D μ1 (d + 4) _ (by omega) (by omega) (by omega) ⟨c, hc1, by omega⟩ ha (fun s hs2 μ2 h2' => ⟨by decide, fun q => absurd q (by decide), fun _ => ?_⟩) (fun e he μ2 h2' => ⟨by decide, fun _ => ⟨_, rfl, H0 e (congrArg (fun x => jx_bd x _) he) μ2 h2'⟩, fun q => absurd rfl q⟩)
    have a := jl_qsr F 0 (o + 1) (jx_we n t b, true, D) s hw.2 hs2
    obtain ⟨c', f1', f2'⟩ := jl_cleq a.1 ⟨c, hc1, by show c ≤ jx_we n t b; omega⟩
    have a2 := a.1.2.1
    refine js_1202 h2' (by rw [f1']; exact ⟨by omega, by omega⟩) fun μ3 h3' => ⟨by decide, fun q => absurd q (by decide), fun _ => ⟨_, rfl, H1 (s.1, s.2.1, jx_qa s.2.2 k 0) ((congrArg (fun x => jx_bd x _) hs2).trans ?_) μ3 h3'⟩⟩
    show Sum.inr (s.1, s.2.1, jx_qa s.2.2 (jx_if (jx_isW n t b m qb_tx_1026) 4 (jx_if (jx_isW n t b m qb_tx_1027) 5 (jx_if (jx_isW n t b m qb_tx_1028) 6 7))) 0) = _
    rw [hk2]
  refine js_2009 (l := qb_tx_1026) rfl (jx_lw13 (87, qb_tx_1026) (by decide)) hk h6 h2 (fun q7 => ⟨by decide, fun q => absurd q (by decide), fun _ => cell 4 _ q7 (Or.inl q7) (by decide) (by decide) (jx_ifp q7)⟩) (fun q7 => ⟨by decide, fun _ => ?_, fun q => absurd rfl q⟩)
  refine js_2009 (l := qb_tx_1027) rfl (jx_lw13 (88, qb_tx_1027) (by decide)) hk h6 h2 (fun q8 => ⟨by decide, fun q => absurd q (by decide), fun _ => cell 5 _ q8 (Or.inr (Or.inl q8)) (by decide) (by decide) ((jx_ifn q7).trans (jx_ifp q8))⟩) (fun q8 => ⟨by decide, fun _ => ?_, fun q => absurd rfl q⟩)
  refine js_2009 (l := qb_tx_1028) rfl (jx_lw13 (89, qb_tx_1028) (by decide)) hk h6 h2 (fun q9 => ⟨by decide, fun q => absurd q (by decide), fun _ => cell 6 _ q9 (Or.inr (Or.inr (Or.inl q9))) (by decide) (by decide) ((jx_ifn q7).trans ((jx_ifn q8).trans (jx_ifp q9)))⟩) (fun q9 => ⟨by decide, fun _ => ?_, fun q => absurd rfl q⟩)
  refine js_2009 (l := qb_tx_1029) rfl (jx_lw13 (90, qb_tx_1029) (by decide)) hk h6 h2 (fun q10 => ⟨by decide, fun q => absurd q (by decide), fun _ => cell 7 _ q10 (Or.inr (Or.inr (Or.inr q10))) (by decide) (by decide) ((jx_ifn q7).trans ((jx_ifn q8).trans (jx_ifn q9)))⟩) (fun q10 => ⟨by decide, fun _ => ?_, fun q => absurd rfl q⟩)
  rw [jx_ifn (by rintro (z | z | z | z); exact q7 z; exact q8 z; exact q9 z; exact q10 z)] at H1 H0
  -- a bracket
  refine b1211_200 μ _ _ _ _ ⟨by decide, fun _ => ?_, fun q => absurd rfl q⟩
  refine js_2008 (by decide) (by unfold jx_le jx_di; decide) hk h2 (fun z => ⟨by decide, fun q => absurd q (by decide), fun _ => ?_⟩) (fun z => ⟨by decide, fun _ => ?_, fun q => absurd rfl q⟩)
  · rw [jx_ifp z] at H1 H0
    have hl6 := z.1
    refine b1211_227 μ _ _ _ _ (js_1204 (by omega) h (fun y => ⟨by decide, fun q => absurd q (by decide), fun _ => ?_⟩) (fun y μ' h' => ⟨by decide, fun _ => ⟨_, rfl, H0 _ (if_pos y) μ' h'⟩, fun q => absurd rfl q⟩))
    rw [if_neg (by omega)] at H1 H0
    have hnl : ¬ jx_le (t (jx_st n t b)) ∧ ¬ jx_di (t (jx_st n t b)) := by have := z.2; unfold jx_le jx_di; omega
    refine js_stepM h7 hk h6 h2 z.1 hnl.1 hnl.2 fun μ1 f1 hx1 => ⟨by decide, fun _ => ?_, fun q => absurd rfl q⟩
    have ha := jl_qts h f1 hx1 z.1
    rw [jl_cs]
    exact jl_sumt (F := F) (dd := d + 4) (o := o + 1) (d2 := d + 2) hk hP hR hR2 (by decide) (by unfold jx_le jx_di; decide) (by omega) (by omega) (by omega) ⟨c, hc1, by omega⟩ ha (fun s1 hs1 y1 g1 g2 g3 μ3 h3' => ⟨_, rfl, H1 _ ((congrArg (fun x => jx_bd x _) hs1).trans (jx_ifp y1)) μ3 h3'⟩) (fun e he μ3 h3' => ⟨_, rfl, H0 e (congrArg (fun x => jx_bd x _) he) μ3 h3'⟩) (fun s1 hs1 y1 μ3 h3' => ⟨_, rfl, H0 _ ((congrArg (fun x => jx_bd x _) hs1).trans (jx_ifn y1)) μ3 h3'⟩)
  · rw [jx_ifn z] at H1 H0
    exact js_2006 h3 h2 fun μ' f a1 a2 => ⟨Or.inl rfl, _, rfl, H0 _ rfl μ' (jl_qtn h f a1 a2)⟩
theorem jl_PR (hk : jd_tok n t) : ∀ F, jc_P L n t μ0 F ∧ jc_R1 L n t μ0 F ∧ jc_R2 L n t μ0 F
  | 0 => ⟨fun o b m D μ dd Q ho hd hF => absurd hF (by omega), fun o b m D μ dd Q j w4 ho hd hF => absurd hF (by omega), fun o b m D μ dd Q j w4 ho hd hF => absurd hF (by omega)⟩
  | F + 1 =>
    have ih := jl_PR hk F
    ⟨jl_P hk ih.1 ih.2.1 ih.2.2, jl_R1 hk ih.1 ih.2.1, jl_R2 hk ih.1 ih.2.1 ih.2.2⟩
/-- a sum, the class's -/
theorem js_1209 (hk : jd_tok n t) {F o b : Nat} {m : Bool} {D μ : qm_M} {dd : Nat} {Q : Int → qm_M → Prop} (ho : o ≤ 6) (hd : 34 ≤ dd + 4 * o) (hF : n - b < F) (hc : ∃ c : Nat, D 11 5 = (c : Int) ∧ c ≤ b) (h : jc_qt μ0 n t b m D μ) (H1 : ∀ s, jx_sum n t F o (b, m, D) = .inr s → ∀ μ', jc_qt μ0 n t s.1 s.2.1 s.2.2 μ' → Q 1 μ') (H0 : ∀ e, jx_sum n t F o (b, m, D) = .inl e → ∀ μ', jc_qn μ0 e μ' → Q 0 μ') : qm_CI (qb_T L) dd 1209 [qm_P 11, qm_I ((o : Nat) : Int)] μ Q :=
  jl_sum (jl_PR hk F).1 (jl_PR hk F).2.1 (jl_PR hk F).2.2 ho hd hF hc h H1 H0
end
