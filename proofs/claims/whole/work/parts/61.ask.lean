/-! ===== a question's sums, pure ===== -/
def jx_qa (D : qm_M) (s x : Int) : qm_M := qm_set (jd_put (jd_put D 42 1600 (D 11 5) s) 43 1600 (D 11 5) x) 11 5 (D 11 5 + 1)
/-- part (0), what stands behind a part (1), behind a product (2) -/
noncomputable def jx_qs (n : Nat) (t : Nat → Int) : Nat → Nat → Nat → Nat × Bool × qm_M → jx_R
  | 0, _, _, _ => .inl (0, 0)
  | F + 1, 0, o, s =>
    jx_if (jx_isN n t s.1 s.2.1)
      (if jx_de n t s.1 - jx_st n t s.1 ≤ 4 then .inr (jx_de n t s.1, true, jx_qa s.2.2 0 (jd_n10 (fun i => t (jx_st n t s.1 + i) - 48) (jx_de n t s.1 - jx_st n t s.1))) else .inl (1, ((jx_st n t s.1 + 4 : Nat) : Int)))
    (jx_if (jx_isW n t s.1 s.2.1 qb_tx_1021) (.inr (jx_we n t s.1, true, jx_qa s.2.2 1 0))
    (jx_if (jx_isW n t s.1 s.2.1 qb_tx_1022) (.inr (jx_we n t s.1, true, jx_qa s.2.2 2 0))
    (jx_if (jx_isW n t s.1 s.2.1 qb_tx_1023) (.inr (jx_we n t s.1, true, jx_qa s.2.2 3 0))
    (jx_if (jx_isW n t s.1 s.2.1 qb_tx_1024 ∨ jx_isW n t s.1 s.2.1 qb_tx_1025)
      (jx_if (jx_isM n t (jx_we n t s.1) 40)
        (if 6 ≤ o then .inl (4, ((jx_st n t (jx_we n t s.1) : Nat) : Int)) else
          jx_bd (jx_bd (jx_bd (jx_qs n t F 0 (o + 1) (jx_st n t (jx_we n t s.1) + 1, false, s.2.2)) (jx_qs n t F 1 (o + 1))) (jx_qs n t F 2 (o + 1))) fun s1 =>
            jx_if (jx_isM n t s1.1 44)
              (jx_bd (jx_bd (jx_bd (jx_qs n t F 0 (o + 1) (jx_st n t s1.1 + 1, false, s1.2.2)) (jx_qs n t F 1 (o + 1))) (jx_qs n t F 2 (o + 1))) fun s2 =>
                jx_if (jx_isM n t s2.1 41) (.inr (jx_st n t s2.1 + 1, false, jx_qa s2.2.2 (jx_if (jx_isW n t s.1 s.2.1 qb_tx_1024) 13 14) 0)) (.inl (1, ((jx_st n t s2.1 : Nat) : Int))))
              (.inl (1, ((jx_st n t s1.1 : Nat) : Int))))
        (.inl (1, ((jx_st n t (jx_we n t s.1) : Nat) : Int))))
    (jx_if (jx_isW n t s.1 s.2.1 qb_tx_1026 ∨ jx_isW n t s.1 s.2.1 qb_tx_1027 ∨ jx_isW n t s.1 s.2.1 qb_tx_1028 ∨ jx_isW n t s.1 s.2.1 qb_tx_1029)
      (if 6 ≤ o then .inl (4, ((jx_st n t s.1 : Nat) : Int)) else jx_bd (jx_qs n t F 0 (o + 1) (jx_we n t s.1, true, s.2.2)) fun s1 => .inr (s1.1, s1.2.1, jx_qa s1.2.2 (jx_if (jx_isW n t s.1 s.2.1 qb_tx_1026) 4 (jx_if (jx_isW n t s.1 s.2.1 qb_tx_1027) 5 (jx_if (jx_isW n t s.1 s.2.1 qb_tx_1028) 6 7))) 0))
    (jx_if (jx_isM n t s.1 40)
      (if 6 ≤ o then .inl (4, ((jx_st n t s.1 : Nat) : Int)) else
        jx_bd (jx_bd (jx_bd (jx_qs n t F 0 (o + 1) (jx_st n t s.1 + 1, false, s.2.2)) (jx_qs n t F 1 (o + 1))) (jx_qs n t F 2 (o + 1))) fun s1 =>
          jx_if (jx_isM n t s1.1 41) (.inr (jx_st n t s1.1 + 1, false, s1.2.2)) (.inl (1, ((jx_st n t s1.1 : Nat) : Int))))
      (.inl (1, ((jx_st n t s.1 : Nat) : Int)))))))))
  | F + 1, 1, o, s =>
    jx_if (jx_isM n t s.1 42 ∨ jx_isM n t s.1 47)
      (jx_bd (jx_qs n t F 0 o (jx_st n t s.1 + 1, false, s.2.2)) fun s1 => jx_qs n t F 1 o (s1.1, s1.2.1, jx_qa s1.2.2 (jx_if (jx_isM n t s.1 42) 11 12) 0))
      (.inr s)
  | F + 1, _ + 2, o, s =>
    jx_if (jx_isM n t s.1 43 ∨ jx_isM n t s.1 45)
      (jx_bd (jx_bd (jx_qs n t F 0 o (jx_st n t s.1 + 1, false, s.2.2)) (jx_qs n t F 1 o)) fun s1 => jx_qs n t F 2 o (s1.1, s1.2.1, jx_qa s1.2.2 (jx_if (jx_isM n t s.1 43) 9 10) 0))
      (.inr s)
noncomputable def jx_sum (n : Nat) (t : Nat → Int) (F o : Nat) (s : Nat × Bool × qm_M) : jx_R := jx_bd (jx_bd (jx_qs n t F 0 o s) (jx_qs n t F 1 o)) (jx_qs n t F 2 o)
/-- what is read: from b on to s.1, and not more steps than bytes -/
def jx_qok (n b : Nat) (D : qm_M) (s : Nat × Bool × qm_M) : Prop := b ≤ s.1 ∧ s.1 ≤ n ∧ ∀ c : Nat, D 11 5 = (c : Int) → ∃ c' : Nat, s.2.2 11 5 = (c' : Int) ∧ c ≤ c' ∧ c' ≤ c + (s.1 - b)
theorem jl_qac (D : qm_M) (s x : Int) : jx_qa D s x 11 5 = D 11 5 + 1 := by unfold jx_qa; exact jl_ss _ _ _ _
section
variable {n : Nat} {t : Nat → Int}
theorem jl_bdr {A B : Type} {x : Sum (Int × Int) A} {f : A → Sum (Int × Int) B} {r : B} (h : jx_bd x f = .inr r) : ∃ a, x = .inr a ∧ f a = .inr r := by
  cases x with
  | inl e => cases h
  | inr a => exact ⟨a, rfl, h⟩
theorem jl_qok1 {b b1 : Nat} {D : qm_M} {s : Nat × Bool × qm_M} {k x : Int} (h : jx_qok n b1 D s) (hb : b < b1) : jx_qok n b D (s.1, s.2.1, jx_qa s.2.2 k x) := by
  refine ⟨by have := h.1; show b ≤ s.1; omega, h.2.1, fun c hc => ?_⟩
  obtain ⟨c', e1, e2, e3⟩ := h.2.2 c hc
  have := h.1
  exact ⟨c' + 1, by show jx_qa s.2.2 k x 11 5 = _; rw [jl_qac, e1]; rfl, by omega, by show c' + 1 ≤ c + (s.1 - b); omega⟩
theorem jl_qokt {b : Nat} {D : qm_M} {s s2 : Nat × Bool × qm_M} (h : jx_qok n b D s) (h2 : jx_qok n s.1 s.2.2 s2) : jx_qok n b D s2 := by
  refine ⟨Nat.le_trans h.1 h2.1, h2.2.1, fun c hc => ?_⟩
  obtain ⟨c', e1, e2, e3⟩ := h.2.2 c hc
  obtain ⟨c3, f1, f2, f3⟩ := h2.2.2 c' e1
  have := h.1
  have := h2.1
  exact ⟨c3, f1, by omega, by omega⟩
theorem jl_qokr {b : Nat} {m : Bool} {D : qm_M} (hb : b ≤ n) : jx_qok n b D (b, m, D) := ⟨Nat.le_refl _, hb, fun c hc => ⟨c, hc, Nat.le_refl _, by omega⟩⟩
theorem jl_qoks {b b1 b2 : Nat} {m : Bool} {D : qm_M} {s : Nat × Bool × qm_M} (h : jx_qok n b1 D s) (hb : b ≤ b1) (h2 : s.1 ≤ b2) (h3 : b2 ≤ n) : jx_qok n b D (b2, m, s.2.2) := by
  have := h.1
  refine ⟨by show b ≤ b2; omega, h3, fun c hc => ?_⟩
  obtain ⟨c', e1, e2, e3⟩ := h.2.2 c hc
  exact ⟨c', e1, e2, by show c' ≤ c + (b2 - b); omega⟩
theorem jl_qsr : ∀ (F md o : Nat) (s s' : Nat × Bool × qm_M), s.1 ≤ n → jx_qs n t F md o s = .inr s' → jx_qok n s.1 s.2.2 s' ∧ (md = 0 → s.1 < s'.1)
  | 0, _, _, _, _, _, h => by cases h
  | F + 1, 0, o, s, s', hb, h => by
    have ih := jl_qsr F
    have hst := jx_stb (t := t) hb
    have one : ∀ (b2 : Nat) (k x : Int), s.1 < b2 → b2 ≤ n → jx_qok n s.1 s.2.2 (b2, true, jx_qa s.2.2 k x) ∧ (0 = 0 → s.1 < b2) := fun b2 k x h1 h2 => by
      refine ⟨⟨by show s.1 ≤ b2; omega, h2, fun c hc => ⟨c + 1, by show jx_qa s.2.2 k x 11 5 = _; rw [jl_qac, hc]; rfl, by omega, by show c + 1 ≤ c + (b2 - s.1); omega⟩⟩, fun _ => h1⟩
    have wlt : ∀ l, jx_isW n t s.1 s.2.1 l → s.1 < jx_we n t s.1 ∧ jx_we n t s.1 ≤ n := fun l z => by
      have := jx_wlt hb z.1.1 z.1.2.1
      exact ⟨by omega, (jx_wes t hb).2.1⟩
    have sum : ∀ (o : Nat) (s0 s3 : Nat × Bool × qm_M), s0.1 ≤ n → jx_bd (jx_bd (jx_qs n t F 0 o s0) (jx_qs n t F 1 o)) (jx_qs n t F 2 o) = .inr s3 → jx_qok n s0.1 s0.2.2 s3 ∧ s0.1 < s3.1 := fun o s0 s3 h0 hs => by
      obtain ⟨s2, e2, e3⟩ := jl_bdr hs
      obtain ⟨s1, e0, e1⟩ := jl_bdr e2
      have a0 := ih 0 o s0 s1 h0 e0
      have a1 := ih 1 o s1 s2 a0.1.2.1 e1
      have a2 := ih 2 o s2 s3 a1.1.2.1 e3
      have b0 := a0.2 rfl
      have b1 := a1.1.1
      have b2 := a2.1.1
      exact ⟨jl_qokt (jl_qokt a0.1 a1.1) a2.1, by omega⟩
    unfold jx_qs at h
    by_cases q1 : jx_isN n t s.1 s.2.1
    · rw [jx_ifp q1] at h
      have hlt := jx_dlt hb q1.1 q1.2.1
      split at h
      · have := (Sum.inr.inj h).symm
        subst this
        exact one _ _ _ (by omega) (jx_des t hb).2.1
      · cases h
    rw [jx_ifn q1] at h
    by_cases q2 : jx_isW n t s.1 s.2.1 qb_tx_1021
    · rw [jx_ifp q2] at h
      have := (Sum.inr.inj h).symm
      subst this
      exact one _ _ _ (wlt _ q2).1 (wlt _ q2).2
    rw [jx_ifn q2] at h
    by_cases q3 : jx_isW n t s.1 s.2.1 qb_tx_1022
    · rw [jx_ifp q3] at h
      have := (Sum.inr.inj h).symm
      subst this
      exact one _ _ _ (wlt _ q3).1 (wlt _ q3).2
    rw [jx_ifn q3] at h
    by_cases q4 : jx_isW n t s.1 s.2.1 qb_tx_1023
    · rw [jx_ifp q4] at h
      have := (Sum.inr.inj h).symm
      subst this
      exact one _ _ _ (wlt _ q4).1 (wlt _ q4).2
    rw [jx_ifn q4] at h
    by_cases q5 : jx_isW n t s.1 s.2.1 qb_tx_1024 ∨ jx_isW n t s.1 s.2.1 qb_tx_1025
    · rw [jx_ifp q5] at h
      have hw : s.1 < jx_we n t s.1 ∧ jx_we n t s.1 ≤ n := by
        rcases q5 with z | z
        · exact wlt _ z
        · exact wlt _ z
      have hst2 := jx_stb (t := t) hw.2
      by_cases q6 : jx_isM n t (jx_we n t s.1) 40
      · rw [jx_ifp q6] at h
        have hl6 := q6.1
        split at h
        · cases h
        · obtain ⟨s1, e1, e2⟩ := jl_bdr h
          have a1 := sum _ (jx_st n t (jx_we n t s.1) + 1, false, s.2.2) s1 hl6 e1
          by_cases q7 : jx_isM n t s1.1 44
          · rw [jx_ifp q7] at e2
            obtain ⟨s2, e3, e4⟩ := jl_bdr e2
            have hs1 := jx_stb (t := t) a1.1.2.1
            have a2 := sum _ (jx_st n t s1.1 + 1, false, s1.2.2) s2 q7.1 e3
            by_cases q8 : jx_isM n t s2.1 41
            · rw [jx_ifp q8] at e4
              have := (Sum.inr.inj e4).symm
              subst this
              have hs2 := jx_stb (t := t) a2.1.2.1
              have g1 : jx_qok n (s.1 + 1) s.2.2 (jx_st n t s1.1 + 1, false, s1.2.2) := jl_qoks a1.1 (by show s.1 + 1 ≤ jx_st n t (jx_we n t s.1) + 1; omega) (by omega) q7.1
              have g2 := jl_qokt g1 a2.1
              have g3 : jx_qok n (s.1 + 1) s.2.2 (jx_st n t s2.1 + 1, false, s2.2.2) := jl_qoks g2 (Nat.le_refl _) (by omega) q8.1
              have g4 := g3.1
              exact ⟨jl_qok1 (k := jx_if (jx_isW n t s.1 s.2.1 qb_tx_1024) 13 14) (x := 0) g3 (by omega), fun _ => by show s.1 < jx_st n t s2.1 + 1; exact g4⟩
            · rw [jx_ifn q8] at e4; cases e4
          · rw [jx_ifn q7] at e2; cases e2
      · rw [jx_ifn q6] at h; cases h
    rw [jx_ifn q5] at h
    by_cases q9 : jx_isW n t s.1 s.2.1 qb_tx_1026 ∨ jx_isW n t s.1 s.2.1 qb_tx_1027 ∨ jx_isW n t s.1 s.2.1 qb_tx_1028 ∨ jx_isW n t s.1 s.2.1 qb_tx_1029
    · rw [jx_ifp q9] at h
      have hw : s.1 < jx_we n t s.1 ∧ jx_we n t s.1 ≤ n := by
        rcases q9 with z | z | z | z
        · exact wlt _ z
        · exact wlt _ z
        · exact wlt _ z
        · exact wlt _ z
      split at h
      · cases h
      · obtain ⟨s1, e1, e2⟩ := jl_bdr h
        have a1 := ih 0 _ (jx_we n t s.1, true, s.2.2) s1 hw.2 e1
        have := (Sum.inr.inj e2).symm
        subst this
        have b1 := a1.2 rfl
        exact ⟨jl_qok1 a1.1 hw.1, fun _ => by show s.1 < s1.1; exact Nat.lt_trans hw.1 b1⟩
    rw [jx_ifn q9] at h
    by_cases q10 : jx_isM n t s.1 40
    · rw [jx_ifp q10] at h
      have hl := q10.1
      split at h
      · cases h
      · obtain ⟨s1, e1, e2⟩ := jl_bdr h
        have a1 := sum _ (jx_st n t s.1 + 1, false, s.2.2) s1 hl e1
        by_cases q8 : jx_isM n t s1.1 41
        · rw [jx_ifp q8] at e2
          have := (Sum.inr.inj e2).symm
          subst this
          have hs2 := jx_stb (t := t) a1.1.2.1
          have a3 : jx_st n t s.1 + 1 < s1.1 := a1.2
          exact ⟨jl_qoks a1.1 (by show s.1 ≤ jx_st n t s.1 + 1; omega) (by omega) q8.1, fun _ => by show s.1 < jx_st n t s1.1 + 1; omega⟩
        · rw [jx_ifn q8] at e2; cases e2
    · rw [jx_ifn q10] at h; cases h
  | F + 1, 1, o, s, s', hb, h => by
    have ih := jl_qsr F
    have hst := jx_stb (t := t) hb
    unfold jx_qs at h
    by_cases q : jx_isM n t s.1 42 ∨ jx_isM n t s.1 47
    · rw [jx_ifp q] at h
      have hl : jx_st n t s.1 < n := by
        rcases q with z | z
        · exact z.1
        · exact z.1
      obtain ⟨s1, e1, e2⟩ := jl_bdr h
      have a1 := ih 0 _ (jx_st n t s.1 + 1, false, s.2.2) s1 hl e1
      have g1 := jl_qok1 (b := s.1) (k := jx_if (jx_isM n t s.1 42) 11 12) (x := 0) a1.1 (by show s.1 < jx_st n t s.1 + 1; omega)
      have a2 := ih 1 o (s1.1, s1.2.1, jx_qa s1.2.2 (jx_if (jx_isM n t s.1 42) 11 12) 0) s' a1.1.2.1 e2
      exact ⟨jl_qokt g1 a2.1, fun z => absurd z (by decide)⟩
    · rw [jx_ifn q] at h
      have := (Sum.inr.inj h).symm
      subst this
      exact ⟨jl_qokr hb, fun z => absurd z (by decide)⟩
  | F + 1, md + 2, o, s, s', hb, h => by
    have ih := jl_qsr F
    have hst := jx_stb (t := t) hb
    unfold jx_qs at h
    by_cases q : jx_isM n t s.1 43 ∨ jx_isM n t s.1 45
    · rw [jx_ifp q] at h
      have hl : jx_st n t s.1 < n := by
        rcases q with z | z
        · exact z.1
        · exact z.1
      obtain ⟨s1, e1, e2⟩ := jl_bdr h
      obtain ⟨s0, e3, e4⟩ := jl_bdr e1
      have a0 := ih 0 _ (jx_st n t s.1 + 1, false, s.2.2) s0 hl e3
      have a1 := ih 1 _ s0 s1 a0.1.2.1 e4
      have g1 := jl_qok1 (b := s.1) (k := jx_if (jx_isM n t s.1 43) 9 10) (x := 0) (jl_qokt a0.1 a1.1) (by show s.1 < jx_st n t s.1 + 1; omega)
      have a2 := ih 2 o (s1.1, s1.2.1, jx_qa s1.2.2 (jx_if (jx_isM n t s.1 43) 9 10) 0) s' a1.1.2.1 e2
      exact ⟨jl_qokt g1 a2.1, fun z => absurd z (by omega)⟩
    · rw [jx_ifn q] at h
      have := (Sum.inr.inj h).symm
      subst this
      exact ⟨jl_qokr hb, fun z => absurd z (by omega)⟩
end
