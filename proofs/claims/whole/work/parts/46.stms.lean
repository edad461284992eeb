/-! ===== a loom's statements, pure ===== -/
abbrev jx_R : Type := Sum (Int × Int) (Nat × Bool × qm_M)
noncomputable def jx_colq (n : Nat) (t : Nat → Int) (b : Nat) (D : qm_M) : jx_R :=
  if 6 ≤ D 4 1 then .inl (5, ((jx_st n t b : Nat) : Int)) else jx_bd (jx_newq n t (jx_we n t b) true D) fun r => .inr (r.1, true, qm_set (qm_set D 23 (D 4 1).toNat r.2) 4 1 (D 4 1 + 1))
noncomputable def jx_cor (n : Nat) (t : Nat → Int) : Nat → Nat → qm_M → jx_R
  | 0, b, D => .inr (b, true, D)
  | k + 1, b, D => jx_bd (jx_knq n t b true (D 23) (D 4 1).toNat) fun r => jx_cor n t k r.1 (qm_set D 27 (4 * (D 4 2).toNat + (3 - k)) r.2)
noncomputable def jx_sidq (n : Nat) (t : Nat → Int) (b : Nat) (D : qm_M) (x : Int) : jx_R :=
  jx_if (jx_isW n t b true qb_tx_1004 ∨ jx_isW n t b true qb_tx_1005)
    (jx_bd (jx_cor n t 4 (jx_we n t b) (qm_set D 26 (D 4 2).toNat (jx_if (jx_isW n t b true qb_tx_1005) 1 0))) fun s => .inr (s.1, s.2.1, qm_set (qm_set s.2.2 24 (D 4 2).toNat x) 4 2 (D 4 2 + 1)))
    (.inl (1, ((jx_st n t b : Nat) : Int)))
noncomputable def jx_crdq (n : Nat) (t : Nat → Int) (b : Nat) (D : qm_M) : jx_R :=
  if 8 ≤ D 4 2 then .inl (5, ((jx_st n t b : Nat) : Int)) else jx_bd (jx_newq n t (jx_we n t b) true D) fun r => jx_if (jx_isW n t r.1 true qb_tx_1003) (jx_sidq n t (jx_we n t r.1) D r.2) (.inl (1, ((jx_st n t r.1 : Nat) : Int)))
noncomputable def jx_pc (n : Nat) (t : Nat → Int) (b : Nat) (D : qm_M) : jx_R :=
  jx_bd (jx_knq n t b true (D 24) (D 4 2).toNat) fun r => if D 28 (D 4 3).toNat / ((2 ^ r.2.toNat : Nat) : Int) % 2 = 1 then .inl (3, ((jx_st n t b : Nat) : Int)) else .inr (r.1, true, qm_set D 28 (D 4 3).toNat (D 28 (D 4 3).toNat + ((2 ^ r.2.toNat : Nat) : Int)))
noncomputable def jx_pks (n : Nat) (t : Nat → Int) : Nat → Nat → qm_M → jx_R
  | 0, _, _ => .inl (0, 0)
  | F + 1, b, D => jx_if (jx_isL n t b true ∧ ¬ jx_own n t b) (jx_bd (jx_pc n t b D) fun s => jx_pks n t F s.1 s.2.2) (.inr (b, true, D))
noncomputable def jx_pckq (n : Nat) (t : Nat → Int) (b : Nat) (D : qm_M) : jx_R :=
  if 6 ≤ D 4 3 then .inl (5, ((jx_st n t b : Nat) : Int)) else jx_bd (jx_newq n t (jx_we n t b) true D) fun r => jx_bd (jx_pc n t r.1 D) fun s => jx_bd (jx_pks n t 2000 s.1 s.2.2) fun s => .inr (s.1, s.2.1, qm_set (qm_set s.2.2 25 (D 4 3).toNat r.2) 4 3 (D 4 3 + 1))
noncomputable def jx_twsq (n : Nat) (t : Nat → Int) (b : Nat) (D : qm_M) : jx_R :=
  jx_if (jx_isN n t b true)
    (if jx_de n t b - jx_st n t b ≤ 4 then
      (if 1 ≤ jd_n10 (fun i => t (jx_st n t b + i) - 48) (jx_de n t b - jx_st n t b) ∧ jd_n10 (fun i => t (jx_st n t b + i) - 48) (jx_de n t b - jx_st n t b) ≤ 40 then .inr (jx_de n t b, true, qm_set D 4 4 (jd_n10 (fun i => t (jx_st n t b + i) - 48) (jx_de n t b - jx_st n t b)))
       else .inl (2, ((jx_st n t b : Nat) : Int)))
     else .inl (1, ((jx_st n t b + 4 : Nat) : Int)))
    (.inl (1, ((jx_st n t b : Nat) : Int)))
noncomputable def jx_tns (n : Nat) (t : Nat → Int) : Nat → Nat × Bool × qm_M → jx_R
  | 0, _ => .inl (0, 0)
  | F + 1, s => jx_bd (jx_turn n t 4000 false 0 s) fun s1 => if 60 < s1.2.2 4 5 then .inl (5, ((jx_st n t s.1 : Nat) : Int)) else jx_if (jx_bgn n t s1.1 s1.2.1) (jx_tns n t F s1) (.inr s1)
noncomputable def jx_wvq (n : Nat) (t : Nat → Int) (b : Nat) (D : qm_M) : jx_R :=
  if D 5 2 = 0 then jx_tns n t 2000 (jx_we n t b, true, qm_set D 5 2 1) else .inl (5, ((jx_st n t b : Nat) : Int))
noncomputable def jx_stq (n : Nat) (t : Nat → Int) (b : Nat) (m : Bool) (D : qm_M) : jx_R :=
  jx_if (jx_isW n t b m qb_tx_1000) (jx_colq n t b D) (jx_if (jx_isW n t b m qb_tx_1002) (jx_crdq n t b D) (jx_if (jx_isW n t b m qb_tx_1006) (jx_pckq n t b D) (jx_if (jx_isW n t b m qb_tx_1007) (jx_twsq n t (jx_we n t b) D) (jx_if (jx_isW n t b m qb_tx_1008) (jx_wvq n t b D) (.inl (1, ((jx_st n t b : Nat) : Int)))))))
noncomputable def jx_semq (n : Nat) (t : Nat → Int) (s : Nat × Bool × qm_M) : jx_R :=
  jx_if (jx_isM n t s.1 59) (.inr (jx_st n t s.1 + 1, false, qm_set s.2.2 4 0 (s.2.2 4 0 + 1))) (.inl (1, ((jx_st n t s.1 : Nat) : Int)))
noncomputable def jx_txq (n : Nat) (t : Nat → Int) : Nat → Nat × Bool × qm_M → jx_R
  | 0, _ => .inl (0, 0)
  | F + 1, s => if jx_st n t s.1 = n then .inr s else if 70 ≤ s.2.2 4 0 then .inl (5, ((jx_st n t s.1 : Nat) : Int)) else jx_bd (jx_bd (jx_stq n t s.1 s.2.1 s.2.2) (jx_semq n t)) (jx_txq n t F)
/-- a draft, sound -/
def jx_inv (D : qm_M) (c0 c1 c2 : Nat) : Prop := jx_dok D c0 c1 c2 ∧ jx_lv D ∧ (∃ c : Nat, D 4 5 = (c : Int) ∧ c ≤ 60) ∧ (0 ≤ D 4 0 ∧ D 4 0 ≤ 70) ∧ (1 ≤ D 4 4 ∧ D 4 4 ≤ 40) ∧ (D 5 2 = 0 ∨ D 5 2 = 1) ∧ (∀ i, i < c1 → D 26 i = 0 ∨ D 26 i = 1) ∧ (∀ i k, i < c1 → k < 4 → 0 ≤ D 27 (4 * i + k) ∧ D 27 (4 * i + k) < (c0 : Int)) ∧ (∀ p, p < 6 → 0 ≤ D 28 p ∧ D 28 p < 256) ∧ (∀ p, c2 ≤ p → p < 6 → D 28 p = 0)
/-- the same while a card, a pack is told -/
def jx_inw (D : qm_M) (c0 c1 c2 : Nat) : Prop := jx_dok D c0 c1 c2 ∧ jx_lv D ∧ (∃ c : Nat, D 4 5 = (c : Int) ∧ c ≤ 60) ∧ (0 ≤ D 4 0 ∧ D 4 0 ≤ 70) ∧ (1 ≤ D 4 4 ∧ D 4 4 ≤ 40) ∧ (D 5 2 = 0 ∨ D 5 2 = 1) ∧ (∀ i, i < c1 → D 26 i = 0 ∨ D 26 i = 1) ∧ (∀ i k, i < c1 → k < 4 → 0 ≤ D 27 (4 * i + k) ∧ D 27 (4 * i + k) < (c0 : Int)) ∧ (∀ p, p < 6 → 0 ≤ D 28 p ∧ D 28 p < 256) ∧ (∀ p, c2 < p → p < 6 → D 28 p = 0)
theorem jl_invw {D : qm_M} {c0 c1 c2 : Nat} (h : jx_inv D c0 c1 c2) : jx_inw D c0 c1 c2 :=
  ⟨h.1, h.2.1, h.2.2.1, h.2.2.2.1, h.2.2.2.2.1, h.2.2.2.2.2.1, h.2.2.2.2.2.2.1, h.2.2.2.2.2.2.2.1, h.2.2.2.2.2.2.2.2.1, fun p h1 h2 => h.2.2.2.2.2.2.2.2.2 p (by omega) h2⟩
/-- cells 4 (by fields) and one more are written -/
theorem jl_two {D : qm_M} {a k f : Nat} {x v : Int} (ha : a ≠ 4) : (∀ c, c ≠ a → c ≠ 4 → qm_set (qm_set D a k x) 4 f v c = D c) ∧ (∀ j, j ≠ f → qm_set (qm_set D a k x) 4 f v 4 j = D 4 j) ∧ qm_set (qm_set D a k x) 4 f v 4 f = v ∧ qm_set (qm_set D a k x) 4 f v a k = x ∧ ∀ j, j ≠ k → qm_set (qm_set D a k x) 4 f v a j = D a j := by
  refine ⟨fun c h1 h2 => ?_, fun j h => ?_, jl_ss _ _ _ _, ?_, fun j h => ?_⟩
  · rw [jl_sn _ _ _ h2, jl_sn _ _ _ h1]
  · rw [jl_sk _ _ _ h, jl_sn _ _ _ (Ne.symm ha)]
  · rw [jl_sn _ _ _ ha, jl_ss]
  · rw [jl_sn _ _ _ ha, jl_sk _ _ _ h]
section
variable {n : Nat} {t : Nat → Int} {D : qm_M} {c0 c1 c2 : Nat}
theorem jl_newqr {b : Nat} {m : Bool} {r : Nat × Int} (hb : b ≤ n) (h : jx_newq n t b m D = .inr r) : b < r.1 ∧ r.1 ≤ n ∧ r.1 = jx_we n t b ∧ jx_nmq n t b m = .inr r := by
  unfold jx_newq at h
  cases q : jx_nmq n t b m with
  | inl e => rw [q] at h; cases h
  | inr r0 =>
    rw [q] at h
    obtain ⟨_, _, _, e, e2, e3⟩ := jx_nmqr hb q
    have h' : (if jd_pl (D 23) r0.2 (D 4 1).toNat = -1 ∧ jd_pl (D 24) r0.2 (D 4 2).toNat = -1 ∧ jd_pl (D 25) r0.2 (D 4 3).toNat = -1 then .inr (r0.1, r0.2) else .inl (3, ((jx_st n t b : Nat) : Int))) = (Sum.inr r : Sum (Int × Int) (Nat × Int)) := h
    split at h'
    · have := (Sum.inr.inj h').symm
      subst this
      exact ⟨by rw [e]; exact e2, by rw [e]; exact e3, by rw [e], rfl⟩
    · cases h'
theorem jl_newnm {b : Nat} {m : Bool} {r : Nat × Int} (hb : b ≤ n) (h : jx_nmq n t b m = .inr r) : ∃ y, jx_nm r.2 y := by
  obtain ⟨a1, a2, a3, a4, _⟩ := jx_nmqr hb h
  rw [a4]
  exact ⟨_, jx_nmk hb a1 a3⟩
theorem jl_colr {b : Nat} {s : Nat × Bool × qm_M} (hI : jx_inv D c0 c1 c2) (hb : jx_we n t b ≤ n) (h : jx_colq n t b D = .inr s) : jx_we n t b < s.1 ∧ s.1 ≤ n ∧ s.2.1 = true ∧ jx_inv s.2.2 (c0 + 1) c1 c2 ∧ s.2.2 4 0 = D 4 0 := by
  unfold jx_colq at h
  obtain ⟨⟨d1, d2, d3, d4, d5, d6, d7⟩, i2, i3, i4, i5, i6, i7, i8, i9, i10⟩ := hI
  rw [d1, Int.toNat_natCast] at h
  split at h
  · cases h
  · rename_i hlt
    cases q : jx_newq n t (jx_we n t b) true D with
    | inl e => rw [q] at h; cases h
    | inr r =>
      rw [q] at h
      have hs := (Sum.inr.inj h).symm
      subst hs
      obtain ⟨e1, e2, _, e4⟩ := jl_newqr hb q
      obtain ⟨y, hy⟩ := jl_newnm hb e4
      obtain ⟨g1, g2, g3, g4, g5⟩ := jl_two (D := D) (a := 23) (k := c0) (f := 1) (x := r.2) (v := (c0 : Int) + 1) (by decide)
      refine ⟨e1, e2, rfl, ?_, g2 0 (by decide)⟩
      show jx_inv (qm_set (qm_set D 23 c0 r.2) 4 1 ((c0 : Int) + 1)) _ _ _
      unfold jx_inv jx_dok jx_lv
      rw [g1 24 (by decide) (by decide), g1 25 (by decide) (by decide), g1 26 (by decide) (by decide), g1 27 (by decide) (by decide), g1 28 (by decide) (by decide), g1 29 (by decide) (by decide), g1 30 (by decide) (by decide), g2 0 (by decide), g2 2 (by decide), g2 3 (by decide), g2 4 (by decide), g2 5 (by decide), g1 5 (by decide) (by decide), g3]
      refine ⟨⟨rfl, d2, d3, by omega, fun i hi => ?_, d6, d7⟩, i2, i3, i4, i5, i6, i7, fun i k hi hk => ?_, i9, i10⟩
      · by_cases q2 : i = c0
        · subst q2; rw [g4]; exact ⟨y, hy⟩
        · rw [g5 i q2]; exact d5 i (by omega)
      · have := i8 i k hi hk; omega
theorem jl_corr : ∀ (k b : Nat) (D : qm_M) (s : Nat × Bool × qm_M), k ≤ 4 → b ≤ n → jx_inv D c0 c1 c2 → c1 < 8 → (∀ i, i < 4 - k → 0 ≤ D 27 (4 * c1 + i) ∧ D 27 (4 * c1 + i) < (c0 : Int)) → jx_cor n t k b D = .inr s → b ≤ s.1 ∧ s.1 ≤ n ∧ s.2.1 = true ∧ jx_inv s.2.2 c0 c1 c2 ∧ (∀ i, i < 4 → 0 ≤ s.2.2 27 (4 * c1 + i) ∧ s.2.2 27 (4 * c1 + i) < (c0 : Int)) ∧ (∀ c, c ≠ 27 → s.2.2 c = D c)
  | 0, b, D, s, _, hb, hI, hc, hT, h => by
    have hs := (Sum.inr.inj h).symm
    subst hs
    exact ⟨Nat.le_refl _, hb, rfl, hI, hT, fun _ _ => rfl⟩
  | k + 1, b, D, s, hk, hb, hI, hc, hT, h => by
    unfold jx_cor at h
    obtain ⟨⟨d1, d2, d3, d4, d5, d6, d7⟩, i2, i3, i4, i5, i6, i7, i8, i9, i10⟩ := hI
    rw [d1, d2, Int.toNat_natCast, Int.toNat_natCast] at h
    cases q : jx_knq n t b true (D 23) c0 with
    | inl e => rw [q] at h; cases h
    | inr r =>
      rw [q] at h
      have h2 : jx_cor n t k r.1 (qm_set D 27 (4 * c1 + (3 - k)) r.2) = .inr s := h
      obtain ⟨e1, e2, e3, e4, _⟩ := jl_knqr hb q
      have g : ∀ c, c ≠ 27 → qm_set D 27 (4 * c1 + (3 - k)) r.2 c = D c := fun c hc => jl_sn _ _ _ hc
      have hi : jx_inv (qm_set D 27 (4 * c1 + (3 - k)) r.2) c0 c1 c2 := by
        unfold jx_inv jx_dok jx_lv
        rw [g 4 (by decide), g 5 (by decide), g 23 (by decide), g 24 (by decide), g 25 (by decide), g 26 (by decide), g 28 (by decide), g 29 (by decide), g 30 (by decide)]
        refine ⟨⟨d1, d2, d3, d4, d5, d6, d7⟩, i2, i3, i4, i5, i6, i7, fun i k2 hi hk2 => ?_, i9, i10⟩
        rw [jl_sk _ _ _ (by omega)]; exact i8 i k2 hi hk2
      obtain ⟨f1, f2, f3, f4, f5, f6⟩ := jl_corr k r.1 _ s (by omega) e2 hi hc (fun i hi2 => by
        by_cases q2 : i = 3 - k
        · subst q2; rw [jl_ss]; exact ⟨e3, e4⟩
        · rw [jl_sk _ _ _ (by omega)]; exact hT i (by omega)) h2
      exact ⟨by omega, f2, f3, f4, f5, fun c hc => (f6 c hc).trans (g c hc)⟩
theorem jl_sidr {b : Nat} {x : Int} {s : Nat × Bool × qm_M} (hI : jx_inv D c0 c1 c2) (hb : b ≤ n) (hc1 : c1 < 8) (hx : ∃ y, jx_nm x y) (h : jx_sidq n t b D x = .inr s) : b < s.1 ∧ s.1 ≤ n ∧ s.2.1 = true ∧ jx_inv s.2.2 c0 (c1 + 1) c2 ∧ s.2.2 4 0 = D 4 0 := by
  unfold jx_sidq at h
  obtain ⟨⟨d1, d2, d3, d4, d5, d6, d7⟩, i2, i3, i4, i5, i6, i7, i8, i9, i10⟩ := hI
  rw [d2, Int.toNat_natCast] at h
  by_cases q : jx_isW n t b true qb_tx_1004 ∨ jx_isW n t b true qb_tx_1005
  · rw [jx_ifp q] at h
    have hL : jx_isL n t b true := by
      rcases q with q | q
      · exact q.1
      · exact q.1
    have hlt := jx_wlt hb hL.1 hL.2.1
    have hst := jx_stb (t := t) hb
    generalize hv : jx_if (jx_isW n t b true qb_tx_1005) (1 : Int) 0 = v at h
    have hv2 : v = 0 ∨ v = 1 := by
      rw [← hv]
      by_cases z : jx_isW n t b true qb_tx_1005
      · rw [jx_ifp z]; exact Or.inr rfl
      · rw [jx_ifn z]; exact Or.inl rfl
    have g : ∀ c, c ≠ 26 → qm_set D 26 c1 v c = D c := fun c hc => jl_sn _ _ _ hc
    have hi : jx_inv (qm_set D 26 c1 v) c0 c1 c2 := by
      unfold jx_inv jx_dok jx_lv
      rw [g 4 (by decide), g 5 (by decide), g 23 (by decide), g 24 (by decide), g 25 (by decide), g 27 (by decide), g 28 (by decide), g 29 (by decide), g 30 (by decide)]
      refine ⟨⟨d1, d2, d3, d4, d5, d6, d7⟩, i2, i3, i4, i5, i6, fun i hi => ?_, i8, i9, i10⟩
      rw [jl_sk _ _ _ (by omega)]; exact i7 i hi
    cases e : jx_cor n t 4 (jx_we n t b) (qm_set D 26 c1 v) with
    | inl z => rw [e] at h; cases h
    | inr s1 =>
      rw [e] at h
      have hs := (Sum.inr.inj h).symm
      obtain ⟨f1, f2, f3, f4, f5, f6⟩ := jl_corr 4 _ _ s1 (Nat.le_refl _) (jx_wes t hb).2.1 hi hc1 (fun i hi => by omega) e
      subst hs
      obtain ⟨⟨k1, k2, k3, k4, k5, k6, k7⟩, j2, j3, j4, j5, j6, j7, j8, j9, j10⟩ := f4
      obtain ⟨g1, g2, g3, g4, g5⟩ := jl_two (D := s1.2.2) (a := 24) (k := c1) (f := 2) (x := x) (v := (c1 : Int) + 1) (by decide)
      refine ⟨by show b < s1.1; omega, f2, f3, ?_, ?_⟩
      · show jx_inv (qm_set (qm_set s1.2.2 24 c1 x) 4 2 ((c1 : Int) + 1)) _ _ _
        unfold jx_inv jx_dok jx_lv
        rw [g1 23 (by decide) (by decide), g1 25 (by decide) (by decide), g1 26 (by decide) (by decide), g1 27 (by decide) (by decide), g1 28 (by decide) (by decide), g1 29 (by decide) (by decide), g1 30 (by decide) (by decide), g2 0 (by decide), g2 1 (by decide), g2 3 (by decide), g2 4 (by decide), g2 5 (by decide), g1 5 (by decide) (by decide), g3]
        refine ⟨⟨k1, rfl, k3, by omega, k5, fun i hi => ?_, k7⟩, j2, j3, j4, j5, j6, fun i hi => ?_, fun i k hi hk => ?_, j9, j10⟩
        · by_cases q2 : i = c1
          · subst q2; rw [g4]; exact hx
          · rw [g5 i q2]; exact k6 i (by omega)
        · by_cases q2 : i = c1
          · subst q2; rw [f6 26 (by decide), jl_ss]; exact hv2
          · exact j7 i (by omega)
        · by_cases q2 : i = c1
          · subst q2; exact f5 k hk
          · exact j8 i k (by omega) hk
      · show qm_set (qm_set s1.2.2 24 c1 x) 4 2 ((c1 : Int) + 1) 4 0 = D 4 0
        rw [g2 0 (by decide), f6 4 (by decide), g 4 (by decide)]
  · rw [jx_ifn q] at h; cases h
theorem jl_crdr {b : Nat} {s : Nat × Bool × qm_M} (hI : jx_inv D c0 c1 c2) (hb : jx_we n t b ≤ n) (h : jx_crdq n t b D = .inr s) : jx_we n t b < s.1 ∧ s.1 ≤ n ∧ s.2.1 = true ∧ jx_inv s.2.2 c0 (c1 + 1) c2 ∧ s.2.2 4 0 = D 4 0 := by
  unfold jx_crdq at h
  have d2 := hI.1.2.1
  rw [d2] at h
  split at h
  · cases h
  · rename_i hlt
    cases q : jx_newq n t (jx_we n t b) true D with
    | inl e => rw [q] at h; cases h
    | inr r =>
      rw [q] at h
      have h2 : jx_if (jx_isW n t r.1 true qb_tx_1003) (jx_sidq n t (jx_we n t r.1) D r.2) (.inl (1, ((jx_st n t r.1 : Nat) : Int))) = .inr s := h
      obtain ⟨e1, e2, _, e4⟩ := jl_newqr hb q
      by_cases q2 : jx_isW n t r.1 true qb_tx_1003
      · rw [jx_ifp q2] at h2
        have hlt := jx_wlt e2 q2.1.1 q2.1.2.1
        have hst := jx_stb (t := t) e2
        obtain ⟨f1, f2, f3, f4, f5⟩ := jl_sidr hI (jx_wes t e2).2.1 (by omega) (jl_newnm hb e4) h2
        exact ⟨by omega, f2, f3, f4, f5⟩
      · rw [jx_ifn q2] at h2; cases h2
end
