/-! ===== a loom's statements, pure: packs, twist, weave, the whole text ===== -/
section
variable {n : Nat} {t : Nat → Int} {D : qm_M} {c0 c1 c2 : Nat}
theorem jl_bit8 {x : Int} {k : Nat} (hk : k < 8) (hx : 0 ≤ x ∧ x < 256) (h : ¬ x / ((2 ^ k : Nat) : Int) % 2 = 1) : 0 ≤ x + ((2 ^ k : Nat) : Int) ∧ x + ((2 ^ k : Nat) : Int) < 256 := by
  have : k = 0 ∨ k = 1 ∨ k = 2 ∨ k = 3 ∨ k = 4 ∨ k = 5 ∨ k = 6 ∨ k = 7 := by omega
  rcases this with e | e | e | e | e | e | e | e <;> subst e <;> simp only [Nat.reducePow, Int.cast_ofNat_Int] at * <;> omega
theorem jl_pcr {b : Nat} {s : Nat × Bool × qm_M} (hI : jx_inw D c0 c1 c2) (hb : b ≤ n) (hc2 : c2 < 6) (h : jx_pc n t b D = .inr s) : b < s.1 ∧ s.1 ≤ n ∧ s.2.1 = true ∧ jx_inw s.2.2 c0 c1 c2 ∧ (∀ c, c ≠ 28 → s.2.2 c = D c) := by
  unfold jx_pc at h
  obtain ⟨⟨d1, d2, d3, d4, d5, d6, d7⟩, i2, i3, i4, i5, i6, i7, i8, i9, i10⟩ := hI
  rw [d2, d3, Int.toNat_natCast, Int.toNat_natCast] at h
  cases q : jx_knq n t b true (D 24) c1 with
  | inl e => rw [q] at h; cases h
  | inr r =>
    rw [q] at h
    obtain ⟨e1, e2, e3, e4, _⟩ := jl_knqr hb q
    have h' : (if D 28 c2 / ((2 ^ r.2.toNat : Nat) : Int) % 2 = 1 then .inl (3, ((jx_st n t b : Nat) : Int)) else .inr (r.1, true, qm_set D 28 c2 (D 28 c2 + ((2 ^ r.2.toNat : Nat) : Int)))) = (Sum.inr s : jx_R) := h
    split at h'
    · cases h'
    · rename_i hbit
      have hs := (Sum.inr.inj h').symm
      subst hs
      have g : ∀ c, c ≠ 28 → qm_set D 28 c2 (D 28 c2 + ((2 ^ r.2.toNat : Nat) : Int)) c = D c := fun c hc => jl_sn _ _ _ hc
      refine ⟨e1, e2, rfl, ?_, g⟩
      show jx_inw (qm_set D 28 c2 (D 28 c2 + ((2 ^ r.2.toNat : Nat) : Int))) _ _ _
      unfold jx_inw jx_dok jx_lv
      rw [g 4 (by decide), g 5 (by decide), g 23 (by decide), g 24 (by decide), g 25 (by decide), g 26 (by decide), g 27 (by decide), g 29 (by decide), g 30 (by decide)]
      refine ⟨⟨d1, d2, d3, d4, d5, d6, d7⟩, i2, i3, i4, i5, i6, i7, i8, fun p hp => ?_, fun p h1 h2 => ?_⟩
      · by_cases z : p = c2
        · subst z; rw [jl_ss]; exact jl_bit8 (by omega) (i9 p hp) hbit
        · rw [jl_sk _ _ _ z]; exact i9 p hp
      · rw [jl_sk _ _ _ (by omega)]; exact i10 p h1 h2
theorem jl_pksr : ∀ (F b : Nat) (D : qm_M) (s : Nat × Bool × qm_M), jx_inw D c0 c1 c2 → b ≤ n → c2 < 6 → jx_pks n t F b D = .inr s → b ≤ s.1 ∧ s.1 ≤ n ∧ s.2.1 = true ∧ jx_inw s.2.2 c0 c1 c2 ∧ (∀ c, c ≠ 28 → s.2.2 c = D c)
  | 0, b, D, s, _, _, _, h => by cases h
  | F + 1, b, D, s, hI, hb, hc2, h => by
    unfold jx_pks at h
    by_cases q : jx_isL n t b true ∧ ¬ jx_own n t b
    · rw [jx_ifp q] at h
      cases e : jx_pc n t b D with
      | inl z => rw [e] at h; cases h
      | inr s1 =>
        rw [e] at h
        have h2 : jx_pks n t F s1.1 s1.2.2 = .inr s := h
        obtain ⟨a1, a2, a3, a4, a5⟩ := jl_pcr hI hb hc2 e
        obtain ⟨f1, f2, f3, f4, f5⟩ := jl_pksr F s1.1 s1.2.2 s a4 a2 hc2 h2
        exact ⟨by omega, f2, f3, f4, fun c hc => (f5 c hc).trans (a5 c hc)⟩
    · rw [jx_ifn q] at h
      have hs := (Sum.inr.inj h).symm
      subst hs
      exact ⟨Nat.le_refl _, hb, rfl, hI, fun _ _ => rfl⟩
theorem jl_pckr {b : Nat} {s : Nat × Bool × qm_M} (hI : jx_inv D c0 c1 c2) (hb : jx_we n t b ≤ n) (h : jx_pckq n t b D = .inr s) : jx_we n t b < s.1 ∧ s.1 ≤ n ∧ s.2.1 = true ∧ jx_inv s.2.2 c0 c1 (c2 + 1) ∧ s.2.2 4 0 = D 4 0 := by
  unfold jx_pckq at h
  have d3 := hI.1.2.2.1
  rw [d3, Int.toNat_natCast] at h
  split at h
  · cases h
  · rename_i hlt
    cases q : jx_newq n t (jx_we n t b) true D with
    | inl e => rw [q] at h; cases h
    | inr r =>
      rw [q] at h
      obtain ⟨e1, e2, _, e4⟩ := jl_newqr hb q
      obtain ⟨y, hy⟩ := jl_newnm hb e4
      have h2 : jx_bd (jx_pc n t r.1 D) (fun s => jx_bd (jx_pks n t 2000 s.1 s.2.2) fun s => .inr (s.1, s.2.1, qm_set (qm_set s.2.2 25 c2 r.2) 4 3 ((c2 : Int) + 1))) = (Sum.inr s : jx_R) := h
      cases e : jx_pc n t r.1 D with
      | inl z => rw [e] at h2; cases h2
      | inr s1 =>
        rw [e] at h2
        obtain ⟨a1, a2, a3, a4, a5⟩ := jl_pcr (jl_invw hI) e2 (by omega) e
        have h3 : jx_bd (jx_pks n t 2000 s1.1 s1.2.2) (fun s => .inr (s.1, s.2.1, qm_set (qm_set s.2.2 25 c2 r.2) 4 3 ((c2 : Int) + 1))) = (Sum.inr s : jx_R) := h2
        cases e3 : jx_pks n t 2000 s1.1 s1.2.2 with
        | inl z => rw [e3] at h3; cases h3
        | inr s2 =>
          rw [e3] at h3
          obtain ⟨f1, f2, f3, f4, f5⟩ := jl_pksr 2000 s1.1 s1.2.2 s2 a4 a2 (by omega) e3
          have hs := (Sum.inr.inj h3).symm
          subst hs
          obtain ⟨⟨k1, k2, k3, k4, k5, k6, k7⟩, j2, j3, j4, j5, j6, j7, j8, j9, j10⟩ := f4
          obtain ⟨g1, g2, g3, g4, g5⟩ := jl_two (D := s2.2.2) (a := 25) (k := c2) (f := 3) (x := r.2) (v := (c2 : Int) + 1) (by decide)
          refine ⟨by show jx_we n t b < s2.1; omega, f2, f3, ?_, ?_⟩
          · show jx_inv (qm_set (qm_set s2.2.2 25 c2 r.2) 4 3 ((c2 : Int) + 1)) _ _ _
            unfold jx_inv jx_dok
            rw [g1 23 (by decide) (by decide), g1 24 (by decide) (by decide), g1 26 (by decide) (by decide), g1 27 (by decide) (by decide), g1 28 (by decide) (by decide), g2 0 (by decide), g2 1 (by decide), g2 2 (by decide), g2 4 (by decide), g2 5 (by decide), g1 5 (by decide) (by decide), g3]
            refine ⟨⟨k1, k2, rfl, by omega, k5, k6, fun i hi => ?_⟩, fun j hj hj2 => ?_, j3, j4, j5, j6, j7, j8, j9, fun p h1 h2 => j10 p (by omega) h2⟩
            · by_cases q2 : i = c2
              · subst q2; rw [g4]; exact ⟨y, hy⟩
              · rw [g5 i q2]; exact k7 i (by omega)
            · rw [g2 5 (by decide)] at hj2
              rw [g1 29 (by decide) (by decide), g1 30 (by decide) (by decide), g3]
              have := j2 j hj hj2
              rw [k3] at this
              omega
          · show qm_set (qm_set s2.2.2 25 c2 r.2) 4 3 ((c2 : Int) + 1) 4 0 = D 4 0
            rw [g2 0 (by decide), f5 4 (by decide), a5 4 (by decide)]
theorem jl_inv4 {k : Nat} {v : Int} (hI : jx_inv D c0 c1 c2) (h : (k = 4 ∧ 1 ≤ v ∧ v ≤ 40) ∨ (k = 0 ∧ 0 ≤ v ∧ v ≤ 70)) : jx_inv (qm_set D 4 k v) c0 c1 c2 := by
  obtain ⟨⟨d1, d2, d3, d4, d5, d6, d7⟩, i2, i3, i4, i5, i6, i7, i8, i9, i10⟩ := hI
  have g : ∀ c, c ≠ 4 → qm_set D 4 k v c = D c := fun c hc => jl_sn _ _ _ hc
  unfold jx_inv jx_dok jx_lv
  rw [g 5 (by decide), g 23 (by decide), g 24 (by decide), g 25 (by decide), g 26 (by decide), g 27 (by decide), g 28 (by decide), g 29 (by decide), g 30 (by decide)]
  rcases h with ⟨rfl, h⟩ | ⟨rfl, h⟩
  · rw [jl_ss]
    rw [jl_sk _ _ _ (show (0 : Nat) ≠ 4 by decide), jl_sk _ _ _ (show (1 : Nat) ≠ 4 by decide), jl_sk _ _ _ (show (2 : Nat) ≠ 4 by decide), jl_sk _ _ _ (show (3 : Nat) ≠ 4 by decide), jl_sk _ _ _ (show (5 : Nat) ≠ 4 by decide)]
    exact ⟨⟨d1, d2, d3, d4, d5, d6, d7⟩, i2, i3, i4, h, i6, i7, i8, i9, i10⟩
  · rw [jl_ss]
    rw [jl_sk _ _ _ (show (1 : Nat) ≠ 0 by decide), jl_sk _ _ _ (show (2 : Nat) ≠ 0 by decide), jl_sk _ _ _ (show (3 : Nat) ≠ 0 by decide), jl_sk _ _ _ (show (5 : Nat) ≠ 0 by decide), jl_sk _ _ _ (show (4 : Nat) ≠ 0 by decide)]
    exact ⟨⟨d1, d2, d3, d4, d5, d6, d7⟩, i2, i3, h, i5, i6, i7, i8, i9, i10⟩
/-- a weave has been told -/
theorem jl_inv5 (hI : jx_inv D c0 c1 c2) : jx_inv (qm_set D 5 2 1) c0 c1 c2 := by
  obtain ⟨⟨d1, d2, d3, d4, d5, d6, d7⟩, i2, i3, i4, i5, i6, i7, i8, i9, i10⟩ := hI
  have g : ∀ c, c ≠ 5 → qm_set D 5 2 1 c = D c := fun c hc => jl_sn _ _ _ hc
  unfold jx_inv jx_dok jx_lv
  rw [g 4 (by decide), g 23 (by decide), g 24 (by decide), g 25 (by decide), g 26 (by decide), g 27 (by decide), g 28 (by decide), g 29 (by decide), g 30 (by decide), jl_ss]
  exact ⟨⟨d1, d2, d3, d4, d5, d6, d7⟩, i2, i3, i4, i5, Or.inr rfl, i7, i8, i9, i10⟩
theorem jl_twsr {b : Nat} {s : Nat × Bool × qm_M} (hI : jx_inv D c0 c1 c2) (hb : b ≤ n) (h : jx_twsq n t b D = .inr s) : b < s.1 ∧ s.1 ≤ n ∧ s.2.1 = true ∧ jx_inv s.2.2 c0 c1 c2 ∧ s.2.2 4 0 = D 4 0 := by
  unfold jx_twsq at h
  by_cases q : jx_isN n t b true
  · rw [jx_ifp q] at h
    have hlt := jx_dlt hb q.1 q.2.1
    have hst := jx_stb (t := t) hb
    split at h
    · split at h
      · rename_i h1 h2
        have hs := (Sum.inr.inj h).symm
        subst hs
        exact ⟨by show b < jx_de n t b; omega, (jx_des t hb).2.1, rfl, jl_inv4 hI (Or.inl ⟨rfl, h2⟩), (by show qm_set D 4 4 (jd_n10 (fun i => t (jx_st n t b + i) - 48) (jx_de n t b - jx_st n t b)) 4 0 = D 4 0; exact jl_sk _ _ _ (by decide))⟩
      · cases h
    · cases h
  · rw [jx_ifn q] at h; cases h
theorem jl_invsm {D' : qm_M} (h : jx_sm D D') (hl : jx_lv D') (hc : ∃ c : Nat, D' 4 5 = (c : Int) ∧ c ≤ 60) (hI : jx_inv D c0 c1 c2) : jx_inv D' c0 c1 c2 := by
  obtain ⟨d, i2, i3, i4, i5, i6, i7, i8, i9, i10⟩ := hI
  have e26 : D' 26 = D 26 := funext fun k => h 26 (by decide) (by decide) k (fun z => absurd z.1 (by decide))
  have e27 : D' 27 = D 27 := funext fun k => h 27 (by decide) (by decide) k (fun z => absurd z.1 (by decide))
  have e28 : D' 28 = D 28 := funext fun k => h 28 (by decide) (by decide) k (fun z => absurd z.1 (by decide))
  refine ⟨jl_doksm h d, hl, hc, ?_, ?_, ?_, ?_, ?_, ?_, ?_⟩
  · rw [h 4 (by decide) (by decide) 0 (fun z => absurd z.2 (by decide))]; exact i4
  · rw [h 4 (by decide) (by decide) 4 (fun z => absurd z.2 (by decide))]; exact i5
  · rw [h 5 (by decide) (by decide) 2 (fun z => absurd z.1 (by decide))]; exact i6
  · rw [e26]; exact i7
  · rw [e27]; exact i8
  · rw [e28]; exact i9
  · rw [e28]; exact i10
theorem jl_turn0 {s s1 : Nat × Bool × qm_M} (hn : n ≤ 1600) (hI : jx_inv s.2.2 c0 c1 c2) (hb : s.1 ≤ n) (h : jx_turn n t 4000 false 0 s = .inr s1) : s.1 < s1.1 ∧ s1.1 ≤ n ∧ (¬ 60 < s1.2.2 4 5 → jx_inv s1.2.2 c0 c1 c2) ∧ s1.2.2 4 0 = s.2.2 4 0 ∧ qm_r32 (s1.2.2 4 5) := by
  obtain ⟨⟨d1, d2, d3, d4, d5, d6, d7⟩, i2, ⟨c, i3, i3b⟩, i4, i5, i6, i7, i8, i9, i10⟩ := id hI
  obtain ⟨a1, a2, a3, a4, a5⟩ := (jl_turnqr (t := t) 4000).1 0 s s1 (by decide) hb (by rw [d3]; omega) (by rw [i3]; omega) i2 h
  obtain ⟨c', f1, f2, f3⟩ := a5 c i3
  refine ⟨a1, a2, fun hc => jl_invsm a3 a4 ⟨c', f1, by omega⟩ hI, a3 4 (by decide) (by decide) 0 (fun z => absurd z.2 (by decide)), ?_⟩
  rw [f1]
  have e7 : (s1.1 - s.1) * 2 ^ (7 - 0) = (s1.1 - s.1) * 128 := rfl
  rw [e7] at f3
  exact ⟨by omega, by omega⟩
theorem jl_tnsr (hn : n ≤ 1600) : ∀ (F : Nat) (s s' : Nat × Bool × qm_M), jx_inv s.2.2 c0 c1 c2 → s.1 ≤ n → jx_tns n t F s = .inr s' → s.1 < s'.1 ∧ s'.1 ≤ n ∧ jx_inv s'.2.2 c0 c1 c2 ∧ s'.2.2 4 0 = s.2.2 4 0
  | 0, s, s', _, _, h => by cases h
  | F + 1, s, s', hI, hb, h => by
    unfold jx_tns at h
    cases e : jx_turn n t 4000 false 0 s with
    | inl z => rw [e] at h; cases h
    | inr s1 =>
      rw [e] at h
      obtain ⟨a1, a2, a3, a4, _⟩ := jl_turn0 hn hI hb e
      have h2 : (if 60 < s1.2.2 4 5 then .inl (5, ((jx_st n t s.1 : Nat) : Int)) else jx_if (jx_bgn n t s1.1 s1.2.1) (jx_tns n t F s1) (.inr s1)) = (Sum.inr s' : jx_R) := h
      split at h2
      · cases h2
      · rename_i hc
        by_cases q : jx_bgn n t s1.1 s1.2.1
        · rw [jx_ifp q] at h2
          obtain ⟨f1, f2, f3, f4⟩ := jl_tnsr hn F s1 s' (a3 hc) a2 h2
          exact ⟨by omega, f2, f3, f4.trans a4⟩
        · rw [jx_ifn q] at h2
          have hs := (Sum.inr.inj h2).symm
          subst hs
          exact ⟨a1, a2, a3 hc, a4⟩
theorem jl_wvr {b : Nat} {s : Nat × Bool × qm_M} (hn : n ≤ 1600) (hI : jx_inv D c0 c1 c2) (hb : jx_we n t b ≤ n) (h : jx_wvq n t b D = .inr s) : jx_we n t b < s.1 ∧ s.1 ≤ n ∧ jx_inv s.2.2 c0 c1 c2 ∧ s.2.2 4 0 = D 4 0 := by
  unfold jx_wvq at h
  split at h
  · obtain ⟨f1, f2, f3, f4⟩ := jl_tnsr hn 2000 (jx_we n t b, true, qm_set D 5 2 1) s (jl_inv5 hI) hb h
    refine ⟨f1, f2, f3, f4.trans ?_⟩
    show qm_set D 5 2 1 4 0 = D 4 0
    rw [jl_sn _ _ _ (by decide)]
  · cases h
/-- a statement, sound -/
theorem jl_stqr {b : Nat} {m : Bool} {s : Nat × Bool × qm_M} (hn : n ≤ 1600) (hI : jx_inv D c0 c1 c2) (hb : b ≤ n) (h : jx_stq n t b m D = .inr s) : b < s.1 ∧ s.1 ≤ n ∧ (∃ e0 e1 e2, jx_inv s.2.2 e0 e1 e2) ∧ s.2.2 4 0 = D 4 0 := by
  have hst := jx_stb (t := t) hb
  have hwe := jx_wes t hb
  unfold jx_stq at h
  by_cases q1 : jx_isW n t b m qb_tx_1000
  · rw [jx_ifp q1] at h
    obtain ⟨f1, f2, f3, f4, f5⟩ := jl_colr hI hwe.2.1 h
    have := hwe.1
    exact ⟨by omega, f2, ⟨_, _, _, f4⟩, f5⟩
  · rw [jx_ifn q1] at h
    by_cases q2 : jx_isW n t b m qb_tx_1002
    · rw [jx_ifp q2] at h
      obtain ⟨f1, f2, f3, f4, f5⟩ := jl_crdr hI hwe.2.1 h
      have := hwe.1
      exact ⟨by omega, f2, ⟨_, _, _, f4⟩, f5⟩
    · rw [jx_ifn q2] at h
      by_cases q3 : jx_isW n t b m qb_tx_1006
      · rw [jx_ifp q3] at h
        obtain ⟨f1, f2, f3, f4, f5⟩ := jl_pckr hI hwe.2.1 h
        have := hwe.1
        exact ⟨by omega, f2, ⟨_, _, _, f4⟩, f5⟩
      · rw [jx_ifn q3] at h
        by_cases q4 : jx_isW n t b m qb_tx_1007
        · rw [jx_ifp q4] at h
          obtain ⟨f1, f2, f3, f4, f5⟩ := jl_twsr hI hwe.2.1 h
          have := hwe.1
          exact ⟨by omega, f2, ⟨_, _, _, f4⟩, f5⟩
        · rw [jx_ifn q4] at h
          by_cases q5 : jx_isW n t b m qb_tx_1008
          · rw [jx_ifp q5] at h
            obtain ⟨f1, f2, f4, f5⟩ := jl_wvr hn hI hwe.2.1 h
            have := hwe.1
            exact ⟨by omega, f2, ⟨_, _, _, f4⟩, f5⟩
          · rw [jx_ifn q5] at h; cases h
theorem jl_semr {s s' : Nat × Bool × qm_M} (hI : jx_inv s.2.2 c0 c1 c2) (hs : s.2.2 4 0 < 70) (hb : s.1 ≤ n) (h : jx_semq n t s = .inr s') : s.1 < s'.1 ∧ s'.1 ≤ n ∧ jx_inv s'.2.2 c0 c1 c2 ∧ s'.2.2 4 0 = s.2.2 4 0 + 1 := by
  unfold jx_semq at h
  have hst := jx_stb (t := t) hb
  by_cases q : jx_isM n t s.1 59
  · rw [jx_ifp q] at h
    have h2 := (Sum.inr.inj h).symm
    subst h2
    have := hI.2.2.2.1
    exact ⟨by show s.1 < jx_st n t s.1 + 1; omega, q.1, jl_inv4 hI (Or.inr ⟨rfl, by omega⟩), (by show qm_set s.2.2 4 0 (s.2.2 4 0 + 1) 4 0 = _; exact jl_ss _ _ _ _)⟩
  · rw [jx_ifn q] at h; cases h
end
