/-! ===== tests that are read can be told ===== -/
section
variable {nc nr : Nat} {lm : Int} {sd : Nat → Int} {th T : Nat → Nat → Int} {r n : Nat} {t : Nat → Int}
theorem je_sum (hn : n ≤ 1600) (hO : jd_ok nc nr lm sd th T) (hr : r < nr) {F o : Nat} {s0 s3 : Nat × Bool × qm_M} {c0 : Nat} (h0 : s0.1 ≤ n) (ho1 : o ≤ 6) (hc0 : s0.2.2 11 5 = (c0 : Int)) (hcb0 : c0 ≤ s0.1) (hs : jx_sum n t F o s0 = .inr s3) : ∃ c3 : Nat, s3.2.2 11 5 = (c3 : Int) ∧ c3 ≤ s3.1 ∧ c0 ≤ c3 ∧ je_pre s0.2.2 s3.2.2 c0 ∧ je_seg nc sd th T r s3.2.2 c0 c3 (21 - 3 * o) je_n := by
  obtain ⟨s2, e2, e3⟩ := jl_bdr hs
  obtain ⟨s1, e0, e1⟩ := jl_bdr e2
  have a0 := (jl_qsr F 0 o s0 s1 h0 e0).1.2.1
  have a1 := (jl_qsr F 1 o s1 s2 a0 e1).1.2.1
  obtain ⟨c1, f1, f2, g1, g2, g3, _, _⟩ := je_qs hn hO hr F 0 o s0 s1 c0 h0 ho1 hc0 hcb0 e0
  obtain ⟨c2, f3, f4, g4, g5, _, g6, _⟩ := je_qs hn hO hr F 1 o s1 s2 c1 a0 ho1 f1 f2 e1
  obtain ⟨c3, f5, f6, g7, g8, _, _, g9⟩ := je_qs hn hO hr F 2 o s2 s3 c2 a1 ho1 f3 f4 e3
  exact ⟨c3, f5, f6, by omega, je_pret (je_pret g2 g5 g1) g8 (by omega), g9 (Nat.le_refl _) c0 (by omega) (je_segm (g6 rfl c0 g1 (je_segm (g3 rfl) (by omega))) (by omega))⟩
theorem je_cq (hn : n ≤ 1600) (hO : jd_ok nc nr lm sd th T) (hr : r < nr) {o : Nat} {s0 s3 : Nat × Bool × qm_M} {c0 : Nat} (h0 : s0.1 ≤ n) (ho1 : o ≤ 6) (hc0 : s0.2.2 11 5 = (c0 : Int)) (hcb0 : c0 ≤ s0.1) (hs : jx_cq n t o s0 = .inr s3) : ∃ c3 : Nat, s3.2.2 11 5 = (c3 : Int) ∧ c3 ≤ s3.1 ∧ c0 ≤ c3 ∧ je_pre s0.2.2 s3.2.2 c0 ∧ je_seg nc sd th T r s3.2.2 c0 c3 (22 - 3 * o) je_b := by
  unfold jx_cq at hs
  obtain ⟨s1, e1, e2⟩ := jl_bdr hs
  have a1 := jl_sumr h0 e1
  have hst := jx_stb (t := t) a1.1.2.1
  obtain ⟨c1, f1, f2, g1, g2, g3⟩ := je_sum hn hO hr h0 ho1 hc0 hcb0 e1
  by_cases q : jx_isM n t s1.1 60 ∨ jx_isM n t s1.1 62 ∨ jx_isM n t s1.1 61
  · rw [jx_ifp q] at e2
    have hl : jx_st n t s1.1 < n := by
      rcases q with z | z | z
      · exact z.1
      · exact z.1
      · exact z.1
    obtain ⟨s2, e3, e4⟩ := jl_bdr e2
    have a2 := jl_sumr (s := (jx_st n t s1.1 + 1, false, s1.2.2)) hl e3
    obtain ⟨c2, f3, f4, g4, g5, g6⟩ := je_sum hn hO hr (s0 := (jx_st n t s1.1 + 1, false, s1.2.2)) hl ho1 f1 (by show c1 ≤ jx_st n t s1.1 + 1; omega) e3
    have hlc := jl_qlt (b := s1.1) ⟨c1, f1, f2⟩ (show s1.1 < jx_st n t s1.1 + 1 by omega) a2.1 c2 f3
    have gn := a2.1.2.1
    have := (Sum.inr.inj e4).symm
    subst this
    have hcode : 15 ≤ jx_if (jx_isM n t s1.1 60) (15 : Int) (jx_if (jx_isM n t s1.1 62) 16 17) ∧ jx_if (jx_isM n t s1.1 60) (15 : Int) (jx_if (jx_isM n t s1.1 62) 16 17) ≤ 17 := by
      by_cases w1 : jx_isM n t s1.1 60
      · rw [jx_ifp w1]; decide
      rw [jx_ifn w1]
      by_cases w2 : jx_isM n t s1.1 62
      · rw [jx_ifp w2]; decide
      · rw [jx_ifn w2]; decide
    refine ⟨c2 + 1, jl_qac5 (x := jx_if (jx_isM n t s1.1 60) (15 : Int) (jx_if (jx_isM n t s1.1 62) 16 17)) (y := 0) f3, by show c2 + 1 ≤ s2.1; omega, by omega, je_pret (je_pret g2 g5 g1) (je_preq f3 (by omega) (Nat.le_refl _) _ _) (by omega), ?_⟩
    exact je_seg2 (h1 := 21 - 3 * o) (h2 := 21 - 3 * o) (fun v hv => hv) (je_segc g3 g5) g6 f3 (by omega) (by omega) (by omega) (fun a b P _ _ => je_opb hcode a b P)
  · rw [jx_ifn q] at e2; cases e2
theorem je_qe (hn : n ≤ 1600) (hO : jd_ok nc nr lm sd th T) (hr : r < nr) : ∀ (F md o : Nat) (s σ : Nat × Bool × qm_M) (c : Nat), s.1 ≤ n → o ≤ 6 → s.2.2 11 5 = (c : Int) → c ≤ s.1 → jx_qe n t F md o s = .inr σ → ∃ c' : Nat, σ.2.2 11 5 = (c' : Int) ∧ c' ≤ σ.1 ∧ je_res nc sd th T r md (22 - 3 * o) (23 - 3 * o) (24 - 3 * o) je_b c s.2.2 σ.2.2 c'
  | 0, _, _, _, _, _, _, _, _, _, h => by cases h
  | F + 1, 0, o, s, σ, c, hb, ho, hc, hcb, h => by
    have ih := je_qe hn hO hr F
    have hst := jx_stb (t := t) hb
    have wlt : ∀ l, jx_isW n t s.1 s.2.1 l → s.1 < jx_we n t s.1 ∧ jx_we n t s.1 ≤ n := fun l z => by
      have := jx_wlt hb z.1.1 z.1.2.1
      exact ⟨by omega, (jx_wes t hb).2.1⟩
    unfold jx_qe at h
    by_cases q1 : jx_isW n t s.1 s.2.1 qb_tx_1019
    · rw [jx_ifp q1] at h
      have := (Sum.inr.inj h).symm
      subst this
      have w := wlt _ q1
      refine ⟨c + 1, jl_qac5 (x := 0) (y := 1) hc, by show c + 1 ≤ jx_we n t s.1; omega, by omega, je_preq hc (by omega) (Nat.le_refl _) 0 1, fun _ => je_segp hc (by omega) (fun P hP => ?_) (by omega), fun z => absurd z (by decide), fun z => absurd z (by decide)⟩
      obtain ⟨v, hv, e⟩ := je_say (nc := nc) (sd := sd) (th := th) (T := T) (r := r) (y := 1) (by decide) P hP
      exact ⟨v, Or.inr hv.2, e⟩
    rw [jx_ifn q1] at h
    by_cases q2 : jx_isW n t s.1 s.2.1 qb_tx_1020
    · rw [jx_ifp q2] at h
      have w := wlt _ q2
      split at h
      · cases h
      · obtain ⟨s1, e1, e2⟩ := jl_bdr h
        have a1 := jl_qer F 0 _ (jx_we n t s.1, true, s.2.2) s1 w.2 e1
        obtain ⟨c1, f1, f2, g1, g2, g3, _, _⟩ := ih 0 (o + 1) (jx_we n t s.1, true, s.2.2) s1 c w.2 (by omega) hc (by show c ≤ jx_we n t s.1; omega) e1
        have hlc := jl_qlt ⟨c, hc, hcb⟩ w.1 a1.1 c1 f1
        have gn := a1.1.2.1
        have := (Sum.inr.inj e2).symm
        subst this
        refine ⟨c1 + 1, jl_qac5 (x := 8) (y := 0) f1, by show c1 + 1 ≤ s1.1; omega, by omega, je_pret g2 (je_preq f1 (by omega) (Nat.le_refl _) 8 0) g1, fun _ => ?_, fun z => absurd z (by decide), fun z => absurd z (by decide)⟩
        exact je_segm (je_seg1 (g3 rfl) f1 (by omega) (fun v P hv => je_not1 v P hv)) (by omega)
    rw [jx_ifn q2] at h
    by_cases q3 : jx_isM n t s.1 91
    · rw [jx_ifp q3] at h
      have hl := q3.1
      split at h
      · cases h
      · obtain ⟨s1, e1, e2⟩ := jl_bdr h
        obtain ⟨s2, k2, k3⟩ := jl_bdr e1
        obtain ⟨s0, k0, k1⟩ := jl_bdr k2
        have a0 := jl_qer F 0 _ (jx_st n t s.1 + 1, false, s.2.2) s0 hl k0
        have a1 := jl_qer F 1 _ s0 s2 a0.1.2.1 k1
        have a2 := jl_qer F 2 _ s2 s1 a1.1.2.1 k3
        obtain ⟨c1, f1, f2, g1, g2, g3, _, _⟩ := ih 0 (o + 1) (jx_st n t s.1 + 1, false, s.2.2) s0 c hl (by omega) hc (by show c ≤ jx_st n t s.1 + 1; omega) k0
        obtain ⟨c2, f3, f4, g4, g5, _, g6, _⟩ := ih 1 (o + 1) s0 s2 c1 a0.1.2.1 (by omega) f1 f2 k1
        obtain ⟨c3, f5, f6, g7, g8, _, _, g9⟩ := ih 2 (o + 1) s2 s1 c2 a1.1.2.1 (by omega) f3 f4 k3
        by_cases q4 : jx_isM n t s1.1 93
        · rw [jx_ifp q4] at e2
          have := (Sum.inr.inj e2).symm
          subst this
          have hs2 := jx_stb (t := t) a2.1.2.1
          refine ⟨c3, f5, by show c3 ≤ jx_st n t s1.1 + 1; omega, by omega, je_pret (je_pret g2 g5 g1) g8 (by omega), fun _ => ?_, fun z => absurd z (by decide), fun z => absurd z (by decide)⟩
          exact je_segm (g9 (Nat.le_refl _) c (by omega) (je_segm (g6 rfl c g1 (je_segm (g3 rfl) (by omega))) (by omega))) (by omega)
        · rw [jx_ifn q4] at e2; cases e2
    · rw [jx_ifn q3] at h
      obtain ⟨c1, f1, f2, g1, g2, g3⟩ := je_cq hn hO hr hb ho hc hcb h
      exact ⟨c1, f1, f2, g1, g2, fun _ => g3, fun z => absurd z (by decide), fun z => absurd z (by decide)⟩
  | F + 1, 1, o, s, σ, c, hb, ho, hc, hcb, h => by
    have ih := je_qe hn hO hr F
    have hst := jx_stb (t := t) hb
    unfold jx_qe at h
    by_cases q : jx_isW n t s.1 s.2.1 qb_tx_1030
    · rw [jx_ifp q] at h
      have w1 := jx_wlt hb q.1.1 q.1.2.1
      have w2 := (jx_wes t hb).2.1
      obtain ⟨s1, e1, e2⟩ := jl_bdr h
      have a1 := jl_qer F 0 _ (jx_we n t s.1, true, s.2.2) s1 w2 e1
      obtain ⟨c1, f1, f2, g1, g2, g3, _, _⟩ := ih 0 o (jx_we n t s.1, true, s.2.2) s1 c w2 ho hc (by show c ≤ jx_we n t s.1; omega) e1
      have hlc := jl_qlt ⟨c, hc, hcb⟩ (show s.1 < jx_we n t s.1 by omega) a1.1 c1 f1
      have gn := a1.1.2.1
      obtain ⟨c2, f3, f4, g4, g5, _, g6, _⟩ := ih 1 o (s1.1, s1.2.1, jx_qa s1.2.2 18 0) σ (c1 + 1) gn ho (jl_qac5 (x := 18) (y := 0) f1) hlc e2
      refine ⟨c2, f3, f4, by omega, je_pret (je_pret g2 (je_preq f1 (by omega) (Nat.le_refl _) 18 0) g1) g5 (by omega), fun z => absurd z (by decide), fun _ c0 hc0 hs0 => g6 rfl c0 (by omega) ?_, fun z => absurd z (by decide)⟩
      exact je_seg2 (h1 := 23 - 3 * o) (h2 := 22 - 3 * o) (fun v hv => je_bn hv) (je_segc hs0 g2) (g3 rfl) f1 (by omega) (by omega) (by omega) (fun a b P ha hb => je_opj (by decide) a b P ha hb)
    · rw [jx_ifn q] at h
      have := (Sum.inr.inj h).symm
      subst this
      exact ⟨c, hc, hcb, Nat.le_refl _, fun j hj => ⟨rfl, rfl⟩, fun z => absurd z (by decide), fun _ c0 hc0 hs0 => hs0, fun z => absurd z (by decide)⟩
  | F + 1, md + 2, o, s, σ, c, hb, ho, hc, hcb, h => by
    have ih := je_qe hn hO hr F
    have hst := jx_stb (t := t) hb
    unfold jx_qe at h
    by_cases q : jx_isW n t s.1 s.2.1 qb_tx_1031
    · rw [jx_ifp q] at h
      have w1 := jx_wlt hb q.1.1 q.1.2.1
      have w2 := (jx_wes t hb).2.1
      obtain ⟨s1, e1, e2⟩ := jl_bdr h
      obtain ⟨s0, e3, e4⟩ := jl_bdr e1
      have a0 := jl_qer F 0 _ (jx_we n t s.1, true, s.2.2) s0 w2 e3
      have a1 := jl_qer F 1 _ s0 s1 a0.1.2.1 e4
      obtain ⟨c1, f1, f2, g1, g2, g3, _, _⟩ := ih 0 o (jx_we n t s.1, true, s.2.2) s0 c w2 ho hc (by show c ≤ jx_we n t s.1; omega) e3
      obtain ⟨c2, f3, f4, g4, g5, _, g6, _⟩ := ih 1 o s0 s1 c1 a0.1.2.1 ho f1 f2 e4
      have hlc := jl_qlt ⟨c, hc, hcb⟩ (show s.1 < jx_we n t s.1 by omega) (jl_qokt a0.1 a1.1) c2 f3
      have gn := a1.1.2.1
      obtain ⟨c3, f5, f6, g7, g8, _, _, g9⟩ := ih 2 o (s1.1, s1.2.1, jx_qa s1.2.2 19 0) σ (c2 + 1) gn ho (jl_qac5 (x := 19) (y := 0) f3) hlc e2
      have gp := je_pret g2 g5 g1
      refine ⟨c3, f5, f6, by omega, je_pret (je_pret gp (je_preq f3 (by omega) (Nat.le_refl _) 19 0) (by omega)) g8 (by omega), fun z => absurd z (by omega), fun z => absurd z (by omega), fun _ c0 hc0 hs0 => g9 (Nat.le_refl _) c0 (by omega) ?_⟩
      exact je_seg2 (h1 := 24 - 3 * o) (h2 := 23 - 3 * o) (fun v hv => je_bn hv) (je_segc hs0 gp) (g6 rfl c g1 (je_segm (g3 rfl) (by omega))) f3 (by omega) (by omega) (by omega) (fun a b P ha hb => je_opj (by decide) a b P ha hb)
    · rw [jx_ifn q] at h
      have := (Sum.inr.inj h).symm
      subst this
      exact ⟨c, hc, hcb, Nat.le_refl _, fun j hj => ⟨rfl, rfl⟩, fun z => absurd z (by omega), fun z => absurd z (by omega), fun _ c0 hc0 hs0 => hs0⟩
/-- a whole question can be told of each row -/
theorem je_ask (hn : n ≤ 1600) (hO : jd_ok nc nr lm sd th T) (hr : r < nr) {D : qm_M} {σ : Nat × Bool × qm_M} (hD : D 11 5 = ((0 : Nat) : Int)) (h : jx_ask n t D = .inr σ) : ∃ (c : Nat) (v : Int), σ.2.2 11 5 = (c : Int) ∧ c ≤ 1600 ∧ je_run nc sd th T r σ.2.2 c 0 [] = some [v] ∧ je_n v ∧ (jx_qk n t ≤ 2 → je_b v) := by
  unfold jx_ask at h
  have hw := (jx_wes t (Nat.zero_le n)).2.1
  have nil : je_all [] := fun v hv => absurd hv (List.not_mem_nil)
  split at h
  · cases h
  · obtain ⟨s1, e1, e2⟩ := jl_bdr h
    split at e2
    · have := (Sum.inr.inj e2).symm
      subst this
      split at e1
      · unfold jx_tst at e1
        obtain ⟨s2, k2, k3⟩ := jl_bdr e1
        obtain ⟨s0, k0, k1⟩ := jl_bdr k2
        have a0 := jl_qer 2000 0 _ (jx_we n t 0, true, D) s0 hw k0
        have a1 := jl_qer 2000 1 _ s0 s2 a0.1.2.1 k1
        have a2 := jl_qer 2000 2 _ s2 σ a1.1.2.1 k3
        have a3 := a2.1.2.1
        obtain ⟨c1, f1, f2, g1, g2, g3, _, _⟩ := je_qe hn hO hr 2000 0 0 (jx_we n t 0, true, D) s0 0 hw (by decide) hD (Nat.zero_le _) k0
        obtain ⟨c2, f3, f4, g4, g5, _, g6, _⟩ := je_qe hn hO hr 2000 1 0 s0 s2 c1 a0.1.2.1 (by decide) f1 f2 k1
        obtain ⟨c3, f5, f6, g7, g8, _, _, g9⟩ := je_qe hn hO hr 2000 2 0 s2 σ c2 a1.1.2.1 (by decide) f3 f4 k3
        obtain ⟨v, hv, e⟩ := (g9 (Nat.le_refl _) 0 (by omega) (je_segm (g6 rfl 0 g1 (je_segm (g3 rfl) (by omega))) (by omega))).2 [] nil (by decide)
        exact ⟨c3, v, f5, by omega, e, je_bn hv, fun _ => hv⟩
      · rename_i q1 q2 q3
        have a := jl_sumr (s := (jx_we n t 0, true, D)) hw e1
        have a3 := a.1.2.1
        obtain ⟨c1, f1, f2, g1, g2, g3⟩ := je_sum hn hO hr (s0 := (jx_we n t 0, true, D)) hw (by decide) hD (Nat.zero_le _) e1
        obtain ⟨v, hv, e⟩ := g3.2 [] nil (by decide)
        exact ⟨c1, v, f1, by omega, e, hv, fun z => absurd z q3⟩
    · cases e2
end
