/-! ===== a question's parts of two sums, the class's ===== -/
noncomputable def jx_pr (n : Nat) (t : Nat → Int) (F o : Nat) (s : Nat × Bool × qm_M) : jx_R :=
  jx_if (jx_isM n t (jx_we n t s.1) 40)
        (if 6 ≤ o then .inl (4, ((jx_st n t (jx_we n t s.1) : Nat) : Int)) else
          jx_bd (jx_bd (jx_bd (jx_qs n t F 0 (o + 1) (jx_st n t (jx_we n t s.1) + 1, false, s.2.2)) (jx_qs n t F 1 (o + 1))) (jx_qs n t F 2 (o + 1))) fun s1 =>
            jx_if (jx_isM n t s1.1 44)
              (jx_bd (jx_bd (jx_bd (jx_qs n t F 0 (o + 1) (jx_st n t s1.1 + 1, false, s1.2.2)) (jx_qs n t F 1 (o + 1))) (jx_qs n t F 2 (o + 1))) fun s2 =>
                jx_if (jx_isM n t s2.1 41) (.inr (jx_st n t s2.1 + 1, false, jx_qa s2.2.2 (jx_if (jx_isW n t s.1 s.2.1 qb_tx_1024) 13 14) 0)) (.inl (1, ((jx_st n t s2.1 : Nat) : Int))))
              (.inl (1, ((jx_st n t s1.1 : Nat) : Int))))
        (.inl (1, ((jx_st n t (jx_we n t s.1) : Nat) : Int)))
section
variable {L n : Nat} {t : Nat → Int} {μ0 : qm_M}
theorem jl_sumq {F o : Nat} {s s3 : Nat × Bool × qm_M} (hb : s.1 ≤ n) (hc : ∃ c : Nat, s.2.2 11 5 = (c : Int) ∧ c ≤ s.1) (h : jx_sum n t F o s = .inr s3) : (∃ c : Nat, s3.2.2 11 5 = (c : Int) ∧ c ≤ s3.1) ∧ s.1 < s3.1 ∧ s3.1 ≤ n := by
  obtain ⟨s2, e2, e3⟩ := jl_bdr h
  obtain ⟨s1, e0, e1⟩ := jl_bdr e2
  have a0 := jl_qsr F 0 o s s1 hb e0
  have a1 := jl_qsr F 1 o s1 s2 a0.1.2.1 e1
  have a2 := jl_qsr F 2 o s2 s3 a1.1.2.1 e3
  have b0 := a0.2 rfl
  have b1 := a1.1.1
  have b2 := a2.1.1
  exact ⟨jl_cleq (jl_qokt (jl_qokt a0.1 a1.1) a2.1) hc, by omega, a2.1.2.1⟩
/-- a sum and a mark behind it -/
theorem jl_sumt (hk : jd_tok n t) {F : Nat} (hP : jc_P L n t μ0 F) (hR : jc_R1 L n t μ0 F) (hR2 : jc_R2 L n t μ0 F) {o b : Nat} {m : Bool} {D μ : qm_M} {dd d2 : Nat} {c : Int} {A0 A1 : qm_M → Prop} (hcc : -1 ≤ c ∧ c < 1000) (hcn : ¬ jx_le c ∧ ¬ jx_di c) (ho : o ≤ 6) (hd : 34 ≤ dd + 4 * o) (hF : n - b < F) (hc : ∃ c : Nat, D 11 5 = (c : Int) ∧ c ≤ b) (h : jc_qt μ0 n t b m D μ)
  (H1 : ∀ s, jx_sum n t F o (b, m, D) = .inr s → jx_isM n t s.1 c → (∃ c : Nat, s.2.2 11 5 = (c : Int) ∧ c ≤ s.1) → b < s.1 → s.1 ≤ n → ∀ μ', jc_qt μ0 n t (jx_st n t s.1 + 1) false s.2.2 μ' → A1 μ')
  (H0 : ∀ e, jx_sum n t F o (b, m, D) = .inl e → ∀ μ', jc_qn μ0 e μ' → A0 μ')
  (H2 : ∀ s, jx_sum n t F o (b, m, D) = .inr s → ¬ jx_isM n t s.1 c → ∀ μ', jc_qn μ0 (1, ((jx_st n t s.1 : Nat) : Int)) μ' → A0 μ') :
  qm_CI (qb_T L) dd 1209 [qm_P 11, qm_I ((o : Nat) : Int)] μ (fun r3 μ3 => (-2147483648 ≤ r3 ∧ r3 < 2147483648) ∧ ((r3 = 0 → A0 μ3) ∧ (¬ (r3 = 0) → qm_CI (qb_T L) (d2 + 2) 2015 [qm_P 2, qm_I c] μ3 (fun r4 μ4 => (-2147483648 ≤ r4 ∧ r4 < 2147483648) ∧ ((r4 = 0 → A0 μ4) ∧ (¬ (r4 = 0) → A1 μ4)))))) := by
  refine jl_sum (dd := dd) hP hR hR2 ho hd hF hc h (fun s hs μ1 h1 => ⟨by decide, fun q => absurd q (by decide), fun _ => ?_⟩) (fun e he μ1 h1 => ⟨by decide, fun _ => H0 e he μ1 h1, fun q => absurd rfl q⟩)
  obtain ⟨g1, g2, g3⟩ := jl_sumq (s := (b, m, D)) h.2.2.2.2.2.1 hc hs
  exact js_2015 hcc hcn h1.2.2.1 h1.2.2.2.2.2.2 hk g3 h1.2.1 (fun z μ2 f2 x2 => ⟨by decide, fun q => absurd q (by decide), fun _ => H1 s hs z g1 g2 g3 μ2 (jl_qts h1 f2 x2 z.1)⟩) (fun z μ2 f2 a1 a2 => ⟨by decide, fun _ => H2 s hs z μ2 (jl_qtn h1 f2 a1 a2), fun q => absurd rfl q⟩)
theorem js_1212 (hk : jd_tok n t) {F : Nat} (hP : jc_P L n t μ0 F) (hR : jc_R1 L n t μ0 F) (hR2 : jc_R2 L n t μ0 F) {o b : Nat} {m : Bool} {D μ : qm_M} {d : Nat} {Q : Int → qm_M → Prop} (ho : o ≤ 6) (hd : 32 ≤ d + 5 + 4 * o) (hF : n - b < F + 1) (hc : ∃ c : Nat, D 11 5 = (c : Int) ∧ c ≤ b) (h : jc_qt μ0 n t b m D μ) (hs : jx_isW n t b m qb_tx_1024 ∨ jx_isW n t b m qb_tx_1025) (H1 : ∀ s, jx_pr n t F o (b, m, D) = .inr s → ∀ μ', jc_qt μ0 n t s.1 s.2.1 s.2.2 μ' → Q 1 μ') (H0 : ∀ e, jx_pr n t F o (b, m, D) = .inl e → ∀ μ', jc_qn μ0 e μ' → Q 0 μ') : qm_CI (qb_T L) (d + 4) 1212 [qm_P 11, qm_I ((o : Nat) : Int)] μ Q := by
  have hn := hk.1
  obtain ⟨h1, h2, h3, h4, h5, h6, h7⟩ := id h
  obtain ⟨c, hc1, hc2⟩ := hc
  have hst := jx_stb (t := t) h6
  unfold jx_pr at H1 H0
  have hL : jx_isL n t b m := by
    rcases hs with z | z
    · exact z.1
    · exact z.1
  have hw : b < jx_we n t b ∧ jx_we n t b ≤ n := by
    have := jx_wlt h6 hL.1 hL.2.1
    exact ⟨by omega, (jx_wes t h6).2.1⟩
  have hst2 := jx_stb (t := t) hw.2
  have go : ∀ k : Int, jx_if (jx_isW n t b m qb_tx_1024) (13 : Int) 14 = k → qm_W (qb_T L) (d + 4) 1212 19 [qm_P 11, qm_I ((o : Nat) : Int), none] [qm_I k] μ (fun v μ' => ∃ r, v = some (.inl r) ∧ Q r μ') := fun k hk2 => by
    refine b1212_19 μ _ _ _ (js_stepL h7 hk h6 h2 hL fun μ1 f1 hx1 => ?_)
    have ha := jl_qts h f1 hx1 hw.2
    refine js_2008 (by decide) (by unfold jx_le jx_di; decide) hk hx1 (fun z => ⟨by decide, fun q => absurd q (by decide), fun _ => ?_⟩) (fun z => ⟨by decide, fun _ => ?_, fun q => absurd rfl q⟩)
    · rw [jx_ifp z] at H1 H0
      have hl6 := z.1
      refine js_1204 (by omega) ha (fun y => ⟨by decide, fun q => absurd q (by decide), fun _ => ?_⟩) (fun y μ' h' => ⟨by decide, fun _ => ⟨_, rfl, H0 _ (if_pos y) μ' h'⟩, fun q => absurd rfl q⟩)
      rw [if_neg (by omega)] at H1 H0
      have hnl : ¬ jx_le (t (jx_st n t (jx_we n t b))) ∧ ¬ jx_di (t (jx_st n t (jx_we n t b))) := by have := z.2; unfold jx_le jx_di; omega
      refine js_stepM ha.2.2.2.2.2.2 hk ha.2.2.2.2.2.1 ha.2.1 z.1 hnl.1 hnl.2 fun μ2 f2 hx2 => ?_
      have hb := jl_qts ha f2 hx2 z.1
      rw [jl_cs]
      refine jl_sumt (F := F) (dd := d + 3) (o := o + 1) (d2 := d + 1) hk hP hR hR2 (by decide) (by unfold jx_le jx_di; decide) (by omega) (by omega) (by omega) ⟨c, hc1, by omega⟩ hb (fun s1 hs1 y1 g1 g2 g3 μ3 h3' => ?_) (fun e he μ3 h3' => ⟨_, rfl, H0 e (by unfold jx_sum at he; show jx_bd _ _ = _; exact congrArg (fun x => jx_bd x _) he) μ3 h3'⟩) (fun s1 hs1 y1 μ3 h3' => ⟨_, rfl, H0 _ ((congrArg (fun x => jx_bd x _) hs1).trans (jx_ifn y1)) μ3 h3'⟩)
      have hy := y1.1
      have hst3 := jx_stb (t := t) g3
      obtain ⟨c1, gc1, gc2⟩ := g1
      have E1 := (congrArg (fun x => jx_bd x (fun s1 : Nat × Bool × qm_M =>
            jx_if (jx_isM n t s1.1 44)
              (jx_bd (jx_bd (jx_bd (jx_qs n t F 0 (o + 1) (jx_st n t s1.1 + 1, false, s1.2.2)) (jx_qs n t F 1 (o + 1))) (jx_qs n t F 2 (o + 1))) fun s2 =>
                jx_if (jx_isM n t s2.1 41) (.inr (jx_st n t s2.1 + 1, false, jx_qa s2.2.2 (jx_if (jx_isW n t b m qb_tx_1024) 13 14) 0)) (.inl (1, ((jx_st n t s2.1 : Nat) : Int))))
              (.inl (1, ((jx_st n t s1.1 : Nat) : Int))) : Nat × Bool × qm_M → jx_R)) hs1).trans (jx_ifp y1)
      refine jl_sumt (F := F) (dd := d + 3) (o := o + 1) (d2 := d + 1) hk hP hR hR2 (by decide) (by unfold jx_le jx_di; decide) (by omega) (by omega) (by omega) ⟨c1, gc1, by omega⟩ h3' (fun s2 hs2 y2 k1 k2 k3 μ4 h4' => ?_) (fun e he μ4 h4' => ⟨_, rfl, H0 e (E1.trans (congrArg (fun x => jx_bd x _) he)) μ4 h4'⟩) (fun s2 hs2 y2 μ4 h4' => ⟨_, rfl, H0 _ (E1.trans ((congrArg (fun x => jx_bd x _) hs2).trans (jx_ifn y2))) μ4 h4'⟩)
      have hst4 := jx_stb (t := t) k3
      obtain ⟨c2, gc3, gc4⟩ := k1
      refine js_1202 h4' (by rw [gc3]; exact ⟨by omega, by omega⟩) fun μ5 h5' => ⟨by decide, fun q => absurd q (by decide), fun _ => ⟨_, rfl, H1 (jx_st n t s2.1 + 1, false, jx_qa s2.2.2 k 0) (E1.trans ((congrArg (fun x => jx_bd x _) hs2).trans ((jx_ifp y2).trans ?_))) μ5 h5'⟩⟩
      rw [hk2]
    · rw [jx_ifn z] at H1 H0
      exact js_2006 ha.2.2.1 hx1 fun μ' f a1 a2 => ⟨Or.inl rfl, _, rfl, H0 _ rfl μ' (jl_qtn ha f a1 a2)⟩
  refine b1212_0 μ _ _ (js_2009 (l := qb_tx_1024) rfl (jx_lw13 (82, qb_tx_1024) (by decide)) hk h6 h2 (fun z => ⟨by decide, fun q => absurd q (by decide), fun _ => go 13 (jx_ifp z)⟩) (fun z => ⟨by decide, fun _ => go 14 (jx_ifn z), fun q => absurd rfl q⟩))
end
