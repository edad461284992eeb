/-! ===== a question's tests, pure ===== -/
noncomputable def jx_cq (n : Nat) (t : Nat → Int) (o : Nat) (s : Nat × Bool × qm_M) : jx_R :=
  jx_bd (jx_sum n t 2000 o s) fun s1 =>
    jx_if (jx_isM n t s1.1 60 ∨ jx_isM n t s1.1 62 ∨ jx_isM n t s1.1 61)
      (jx_bd (jx_sum n t 2000 o (jx_st n t s1.1 + 1, false, s1.2.2)) fun s2 => .inr (s2.1, s2.2.1, jx_qa s2.2.2 (jx_if (jx_isM n t s1.1 60) 15 (jx_if (jx_isM n t s1.1 62) 16 17)) 0))
      (.inl (1, ((jx_st n t s1.1 : Nat) : Int)))
/-- a fact (0), what stands behind it (1), behind facts joined (2) -/
noncomputable def jx_qe (n : Nat) (t : Nat → Int) : Nat → Nat → Nat → Nat × Bool × qm_M → jx_R
  | 0, _, _, _ => .inl (0, 0)
  | F + 1, 0, o, s =>
    jx_if (jx_isW n t s.1 s.2.1 qb_tx_1019) (.inr (jx_we n t s.1, true, jx_qa s.2.2 0 1))
    (jx_if (jx_isW n t s.1 s.2.1 qb_tx_1020)
      (if 6 ≤ o then .inl (4, ((jx_st n t s.1 : Nat) : Int)) else jx_bd (jx_qe n t F 0 (o + 1) (jx_we n t s.1, true, s.2.2)) fun s1 => .inr (s1.1, s1.2.1, jx_qa s1.2.2 8 0))
    (jx_if (jx_isM n t s.1 91)
      (if 6 ≤ o then .inl (4, ((jx_st n t s.1 : Nat) : Int)) else
        jx_bd (jx_bd (jx_bd (jx_qe n t F 0 (o + 1) (jx_st n t s.1 + 1, false, s.2.2)) (jx_qe n t F 1 (o + 1))) (jx_qe n t F 2 (o + 1))) fun s1 =>
          jx_if (jx_isM n t s1.1 93) (.inr (jx_st n t s1.1 + 1, false, s1.2.2)) (.inl (1, ((jx_st n t s1.1 : Nat) : Int))))
      (jx_cq n t o s)))
  | F + 1, 1, o, s =>
    jx_if (jx_isW n t s.1 s.2.1 qb_tx_1030)
      (jx_bd (jx_qe n t F 0 o (jx_we n t s.1, true, s.2.2)) fun s1 => jx_qe n t F 1 o (s1.1, s1.2.1, jx_qa s1.2.2 18 0))
      (.inr s)
  | F + 1, _ + 2, o, s =>
    jx_if (jx_isW n t s.1 s.2.1 qb_tx_1031)
      (jx_bd (jx_bd (jx_qe n t F 0 o (jx_we n t s.1, true, s.2.2)) (jx_qe n t F 1 o)) fun s1 => jx_qe n t F 2 o (s1.1, s1.2.1, jx_qa s1.2.2 19 0))
      (.inr s)
noncomputable def jx_tst (n : Nat) (t : Nat → Int) (F o : Nat) (s : Nat × Bool × qm_M) : jx_R := jx_bd (jx_bd (jx_qe n t F 0 o s) (jx_qe n t F 1 o)) (jx_qe n t F 2 o)
section
variable {n : Nat} {t : Nat → Int}
theorem jl_sumr {F o : Nat} {s s3 : Nat × Bool × qm_M} (hb : s.1 ≤ n) (h : jx_sum n t F o s = .inr s3) : jx_qok n s.1 s.2.2 s3 ∧ s.1 < s3.1 := by
  obtain ⟨s2, e2, e3⟩ := jl_bdr h
  obtain ⟨s1, e0, e1⟩ := jl_bdr e2
  have a0 := jl_qsr F 0 o s s1 hb e0
  have a1 := jl_qsr F 1 o s1 s2 a0.1.2.1 e1
  have a2 := jl_qsr F 2 o s2 s3 a1.1.2.1 e3
  have b0 := a0.2 rfl
  have b1 := a1.1.1
  have b2 := a2.1.1
  exact ⟨jl_qokt (jl_qokt a0.1 a1.1) a2.1, by omega⟩
theorem jl_cqr {o : Nat} {s s3 : Nat × Bool × qm_M} (hb : s.1 ≤ n) (h : jx_cq n t o s = .inr s3) : jx_qok n s.1 s.2.2 s3 ∧ s.1 < s3.1 := by
  obtain ⟨s1, e1, e2⟩ := jl_bdr h
  have a1 := jl_sumr hb e1
  by_cases q : jx_isM n t s1.1 60 ∨ jx_isM n t s1.1 62 ∨ jx_isM n t s1.1 61
  · rw [jx_ifp q] at e2
    have hl : jx_st n t s1.1 < n := by
      rcases q with z | z | z
      · exact z.1
      · exact z.1
      · exact z.1
    have hst := jx_stb (t := t) a1.1.2.1
    obtain ⟨s2, e3, e4⟩ := jl_bdr e2
    have a2 := jl_sumr (s := (jx_st n t s1.1 + 1, false, s1.2.2)) hl e3
    have := (Sum.inr.inj e4).symm
    subst this
    have b1 := a1.2
    have b2 : jx_st n t s1.1 + 1 < s2.1 := a2.2
    have g1 : jx_qok n (s.1 + 1) s.2.2 (jx_st n t s1.1 + 1, false, s1.2.2) := by
      obtain ⟨k1, k2, k3⟩ := a1.1
      refine ⟨by show s.1 + 1 ≤ jx_st n t s1.1 + 1; omega, hl, fun c hc => ?_⟩
      obtain ⟨c', f1, f2, f3⟩ := k3 c hc
      exact ⟨c', f1, f2, by show c' ≤ c + (jx_st n t s1.1 + 1 - (s.1 + 1)); omega⟩
    exact ⟨jl_qok1 (k := jx_if (jx_isM n t s1.1 60) 15 (jx_if (jx_isM n t s1.1 62) 16 17)) (x := 0) (jl_qokt g1 a2.1) (by omega), by show s.1 < s2.1; omega⟩
  · rw [jx_ifn q] at e2; cases e2
theorem jl_qer : ∀ (F md o : Nat) (s s' : Nat × Bool × qm_M), s.1 ≤ n → jx_qe n t F md o s = .inr s' → jx_qok n s.1 s.2.2 s' ∧ (md = 0 → s.1 < s'.1)
  | 0, _, _, _, _, _, h => by cases h
  | F + 1, 0, o, s, s', hb, h => by
    have ih := jl_qer F
    have hst := jx_stb (t := t) hb
    have wlt : ∀ l, jx_isW n t s.1 s.2.1 l → s.1 < jx_we n t s.1 ∧ jx_we n t s.1 ≤ n := fun l z => by
      have := jx_wlt hb z.1.1 z.1.2.1
      exact ⟨by omega, (jx_wes t hb).2.1⟩
    unfold jx_qe at h
    by_cases q1 : jx_isW n t s.1 s.2.1 qb_tx_1019
    · rw [jx_ifp q1] at h
      have := (Sum.inr.inj h).symm
      subst this
      have w := wlt _ q1
      exact ⟨⟨by show s.1 ≤ jx_we n t s.1; omega, w.2, fun c hc => ⟨c + 1, by show jx_qa s.2.2 0 1 11 5 = _; rw [jl_qac, hc]; rfl, by omega, by show c + 1 ≤ c + (jx_we n t s.1 - s.1); omega⟩⟩, fun _ => w.1⟩
    rw [jx_ifn q1] at h
    by_cases q2 : jx_isW n t s.1 s.2.1 qb_tx_1020
    · rw [jx_ifp q2] at h
      have w := wlt _ q2
      split at h
      · cases h
      · obtain ⟨s1, e1, e2⟩ := jl_bdr h
        have a1 := ih 0 _ (jx_we n t s.1, true, s.2.2) s1 w.2 e1
        have := (Sum.inr.inj e2).symm
        subst this
        have b1 : jx_we n t s.1 < s1.1 := a1.2 rfl
        exact ⟨jl_qok1 (k := 8) (x := 0) a1.1 w.1, fun _ => by show s.1 < s1.1; omega⟩
    rw [jx_ifn q2] at h
    by_cases q3 : jx_isM n t s.1 91
    · rw [jx_ifp q3] at h
      have hl := q3.1
      split at h
      · cases h
      · obtain ⟨s1, e1, e2⟩ := jl_bdr h
        obtain ⟨s2, f2, f3⟩ := jl_bdr e1
        obtain ⟨s0, f0, f1⟩ := jl_bdr f2
        have a0 := ih 0 _ (jx_st n t s.1 + 1, false, s.2.2) s0 hl f0
        have a1 := ih 1 _ s0 s2 a0.1.2.1 f1
        have a2 := ih 2 _ s2 s1 a1.1.2.1 f3
        have b0 : jx_st n t s.1 + 1 < s0.1 := a0.2 rfl
        have b1 := a1.1.1
        have b2 := a2.1.1
        by_cases q4 : jx_isM n t s1.1 93
        · rw [jx_ifp q4] at e2
          have := (Sum.inr.inj e2).symm
          subst this
          have hs2 := jx_stb (t := t) a2.1.2.1
          exact ⟨jl_qoks (jl_qokt (jl_qokt a0.1 a1.1) a2.1) (by show s.1 ≤ jx_st n t s.1 + 1; omega) (by omega) q4.1, fun _ => by show s.1 < jx_st n t s1.1 + 1; omega⟩
        · rw [jx_ifn q4] at e2; cases e2
    · rw [jx_ifn q3] at h
      have a := jl_cqr hb h
      exact ⟨a.1, fun _ => a.2⟩
  | F + 1, 1, o, s, s', hb, h => by
    have ih := jl_qer F
    have hst := jx_stb (t := t) hb
    unfold jx_qe at h
    by_cases q : jx_isW n t s.1 s.2.1 qb_tx_1030
    · rw [jx_ifp q] at h
      have w1 := jx_wlt hb q.1.1 q.1.2.1
      have w2 := (jx_wes t hb).2.1
      obtain ⟨s1, e1, e2⟩ := jl_bdr h
      have a1 := ih 0 _ (jx_we n t s.1, true, s.2.2) s1 w2 e1
      have g1 := jl_qok1 (b := s.1) (k := 18) (x := 0) a1.1 (by show s.1 < jx_we n t s.1; omega)
      have a2 := ih 1 o (s1.1, s1.2.1, jx_qa s1.2.2 18 0) s' a1.1.2.1 e2
      exact ⟨jl_qokt g1 a2.1, fun z => absurd z (by decide)⟩
    · rw [jx_ifn q] at h
      have := (Sum.inr.inj h).symm
      subst this
      exact ⟨jl_qokr hb, fun z => absurd z (by decide)⟩
  | F + 1, md + 2, o, s, s', hb, h => by
    have ih := jl_qer F
    have hst := jx_stb (t := t) hb
    unfold jx_qe at h
    by_cases q : jx_isW n t s.1 s.2.1 qb_tx_1031
    · rw [jx_ifp q] at h
      have w1 := jx_wlt hb q.1.1 q.1.2.1
      have w2 := (jx_wes t hb).2.1
      obtain ⟨s1, e1, e2⟩ := jl_bdr h
      obtain ⟨s0, e3, e4⟩ := jl_bdr e1
      have a0 := ih 0 _ (jx_we n t s.1, true, s.2.2) s0 w2 e3
      have a1 := ih 1 _ s0 s1 a0.1.2.1 e4
      have g1 := jl_qok1 (b := s.1) (k := 19) (x := 0) (jl_qokt a0.1 a1.1) (by show s.1 < jx_we n t s.1; omega)
      have a2 := ih 2 o (s1.1, s1.2.1, jx_qa s1.2.2 19 0) s' a1.1.2.1 e2
      exact ⟨jl_qokt g1 a2.1, fun z => absurd z (by omega)⟩
    · rw [jx_ifn q] at h
      have := (Sum.inr.inj h).symm
      subst this
      exact ⟨jl_qokr hb, fun z => absurd z (by omega)⟩
end
