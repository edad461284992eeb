/-! ===== turns of a text, pure, and the class's ===== -/
def jx_add (D : qm_M) (how w : Int) : qm_M := qm_set (jd_put (jd_put D 29 60 (D 4 5) how) 30 60 (D 4 5) w) 4 5 (D 4 5 + 1)
def jx_dup (D : qm_M) (f : Nat) : qm_M := fun a k => if (a = 29 ∨ a = 30) ∧ (D 4 5).toNat ≤ k ∧ k < 60 ∧ k < 2 * (D 4 5).toNat - f then D a (f + (k - (D 4 5).toNat)) else if a = 4 ∧ k = 5 then 2 * D 4 5 - (f : Int) else D a k
noncomputable def jx_pkq (n : Nat) (t : Nat → Int) (b : Nat) (m : Bool) (D : qm_M) (how : Int) : Sum (Int × Int) (Nat × Bool × qm_M) :=
  jx_bd (jx_knq n t b m (D 25) (D 4 3).toNat) fun r => .inr (r.1, true, jx_add D how r.2)
noncomputable def jx_ltq (n : Nat) (t : Nat → Int) (b : Nat) (m : Bool) (D : qm_M) : Sum (Int × Int) (Nat × Bool × qm_M) :=
  jx_if (jx_isW n t b m qb_tx_1011) (jx_pkq n t (jx_we n t b) true D 2)
    (jx_if (jx_isW n t b m qb_tx_1009 ∨ jx_isW n t b m qb_tx_1010)
      (jx_if (jx_isL n t (jx_we n t b) true ∧ ¬ jx_own n t (jx_we n t b)) (jx_pkq n t (jx_we n t b) true D (jx_if (jx_isW n t b m qb_tx_1009) 0 1))
        (.inr (jx_we n t b, true, jx_add D (jx_if (jx_isW n t b m qb_tx_1009) 0 1) (-1))))
      (.inl (1, ((jx_st n t b : Nat) : Int))))
def jx_bgn (n : Nat) (t : Nat → Int) (b : Nat) (m : Bool) : Prop := jx_isW n t b m qb_tx_1009 ∨ jx_isW n t b m qb_tx_1010 ∨ jx_isW n t b m qb_tx_1011 ∨ jx_isW n t b m qb_tx_1012 ∨ jx_isM n t b 91
/-- a turn (false), or the rest of a row of turns in brackets (true) -/
noncomputable def jx_turn (n : Nat) (t : Nat → Int) : Nat → Bool → Nat → Nat × Bool × qm_M → Sum (Int × Int) (Nat × Bool × qm_M)
  | 0, _, _, _ => .inl (0, 0)
  | F + 1, false, o, s =>
    jx_if (jx_isW n t s.1 s.2.1 qb_tx_1012)
      (jx_if (7 ≤ o) (.inl (4, ((jx_st n t s.1 : Nat) : Int))) (jx_bd (jx_turn n t F false (o + 1) (jx_we n t s.1, true, s.2.2)) fun s1 => .inr (s1.1, s1.2.1, jx_dup s1.2.2 (s.2.2 4 5).toNat)))
      (jx_if (jx_isM n t s.1 91)
        (jx_if (7 ≤ o) (.inl (4, ((jx_st n t s.1 : Nat) : Int))) (jx_bd (jx_turn n t F false (o + 1) (jx_st n t s.1 + 1, false, s.2.2)) fun s1 => jx_turn n t F true o s1))
        (jx_ltq n t s.1 s.2.1 s.2.2))
  | F + 1, true, o, s =>
    jx_if (jx_bgn n t s.1 s.2.1) (jx_bd (jx_turn n t F false (o + 1) s) fun s1 => jx_turn n t F true o s1)
      (jx_if (jx_isM n t s.1 93) (.inr (jx_st n t s.1 + 1, false, s.2.2)) (.inl (1, ((jx_st n t s.1 : Nat) : Int))))
def jx_sm (D D' : qm_M) : Prop := ∀ a, a ≠ 29 → a ≠ 30 → ∀ k, ¬ (a = 4 ∧ k = 5) → D' a k = D a k
def jx_lv (D : qm_M) : Prop := ∀ j : Nat, j < 60 → (j : Int) < D 4 5 → (0 ≤ D 29 j ∧ D 29 j ≤ 2) ∧ (-1 ≤ D 30 j ∧ D 30 j < D 4 3) ∧ (D 29 j = 2 → 0 ≤ D 30 j)
theorem jx_smr (D : qm_M) : jx_sm D D := fun _ _ _ _ _ => rfl
theorem jx_smt {D D1 D2 : qm_M} (h : jx_sm D D1) (h2 : jx_sm D1 D2) : jx_sm D D2 := fun a h1 h3 k h4 => (h2 a h1 h3 k h4).trans (h a h1 h3 k h4)
theorem jl_doksm {D D' : qm_M} {c0 c1 c2 : Nat} (h : jx_sm D D') (hD : jx_dok D c0 c1 c2) : jx_dok D' c0 c1 c2 := by
  have e23 : D' 23 = D 23 := funext fun k => h 23 (by decide) (by decide) k (fun z => absurd z.1 (by decide))
  have e24 : D' 24 = D 24 := funext fun k => h 24 (by decide) (by decide) k (fun z => absurd z.1 (by decide))
  have e25 : D' 25 = D 25 := funext fun k => h 25 (by decide) (by decide) k (fun z => absurd z.1 (by decide))
  unfold jx_dok at *
  rw [e23, e24, e25, h 4 (by decide) (by decide) 1 (fun z => absurd z.2 (by decide)), h 4 (by decide) (by decide) 2 (fun z => absurd z.2 (by decide)), h 4 (by decide) (by decide) 3 (fun z => absurd z.2 (by decide))]
  exact hD
theorem jl_putn {μ : qm_M} {c c' n : Nat} {i z : Int} (h : c' ≠ c) : jd_put μ c n i z c' = μ c' := by
  unfold jd_put; split
  · exact jl_sn _ _ _ h
  · rfl
theorem jl_puts {μ : qm_M} {c n : Nat} {i z : Int} {k : Nat} : jd_put μ c n i z c k = if (0 ≤ i ∧ i < (n : Int)) ∧ i = (k : Int) then z else μ c k := by
  unfold jd_put
  by_cases q : 0 ≤ i ∧ i < (n : Int)
  · rw [if_pos q]
    by_cases q2 : i = (k : Int)
    · rw [if_pos ⟨q, q2⟩, show i.toNat = k by omega, jl_ss]
    · rw [if_neg (fun z => q2 z.2), jl_sk _ _ _ (by omega)]
  · rw [if_neg q, if_neg (fun z => q z.1)]
theorem jl_addc (D : qm_M) (how w : Int) : jx_add D how w 4 5 = D 4 5 + 1 := by unfold jx_add; exact jl_ss _ _ _ _
theorem jl_addsm (D : qm_M) (how w : Int) : jx_sm D (jx_add D how w) := fun a h1 h2 k h3 => by
  unfold jx_add
  by_cases q : a = 4
  · subst q
    rw [jl_sk _ _ _ (fun z => h3 ⟨rfl, z⟩), jl_putn (by decide), jl_putn (by decide)]
  · rw [jl_sn _ _ _ q, jl_putn h2, jl_putn h1]
theorem jl_addv {D : qm_M} {how w : Int} (h : jx_lv D) (hc : 0 ≤ D 4 5) (h1 : (0 ≤ how ∧ how ≤ 2) ∧ (-1 ≤ w ∧ w < D 4 3) ∧ (how = 2 → 0 ≤ w)) : jx_lv (jx_add D how w) := fun j hj hj2 => by
  rw [jl_addc] at hj2
  rw [jl_addsm D how w 4 (by decide) (by decide) 3 (fun z => absurd z.2 (by decide))]
  have e1 : jx_add D how w 29 j = if (0 ≤ D 4 5 ∧ D 4 5 < ((60 : Nat) : Int)) ∧ D 4 5 = (j : Int) then how else D 29 j := by
    unfold jx_add
    rw [jl_sn _ _ _ (by decide), jl_putn (by decide), jl_puts]
  have e2 : jx_add D how w 30 j = if (0 ≤ D 4 5 ∧ D 4 5 < ((60 : Nat) : Int)) ∧ D 4 5 = (j : Int) then w else D 30 j := by
    unfold jx_add
    rw [jl_sn _ _ _ (by decide), jl_puts, jl_putn (by decide)]
  rw [e1, e2]
  by_cases q : D 4 5 = (j : Int)
  · rw [if_pos (by omega), if_pos (by omega)]; exact h1
  · rw [if_neg (fun z => q z.2), if_neg (fun z => q z.2)]; exact h j hj (by omega)
theorem jl_dupc (D : qm_M) (f : Nat) : jx_dup D f 4 5 = 2 * D 4 5 - (f : Int) := by
  unfold jx_dup; rw [if_neg (fun z => by rcases z.1 with q | q <;> exact absurd q (by decide)), if_pos ⟨rfl, rfl⟩]
theorem jl_dupsm (D : qm_M) (f : Nat) : jx_sm D (jx_dup D f) := fun a h1 h2 k h3 => by
  unfold jx_dup
  rw [if_neg (fun z => by rcases z.1 with q | q; exact h1 q; exact h2 q), if_neg h3]
theorem jl_dupv {D : qm_M} {f c : Nat} (h : jx_lv D) (hc : D 4 5 = (c : Int)) (hf : f ≤ c) : jx_lv (jx_dup D f) := fun j hj hj2 => by
  rw [jl_dupc, hc] at hj2
  rw [jl_dupsm D f 4 (by decide) (by decide) 3 (fun z => absurd z.2 (by decide))]
  have e : ∀ a, a = 29 ∨ a = 30 → jx_dup D f a j = if c ≤ j then D a (f + (j - c)) else D a j := fun a ha => by
    unfold jx_dup
    rw [hc, Int.toNat_natCast]
    by_cases q : c ≤ j
    · rw [if_pos ⟨ha, q, hj, by omega⟩, if_pos q]
    · rw [if_neg (fun z => q z.2.1), if_neg q, if_neg (fun z => by rcases ha with q2 | q2 <;> omega)]
  rw [e 29 (Or.inl rfl), e 30 (Or.inr rfl)]
  by_cases q : c ≤ j
  · rw [if_pos q, if_pos q]; exact h _ (by omega) (by omega)
  · rw [if_neg q, if_neg q]; exact h j hj (by omega)
/-- what a turn may do -/
def jx_tok (n : Nat) (b : Nat) (D : qm_M) (P : Nat) (s : Nat × Bool × qm_M) : Prop := b < s.1 ∧ s.1 ≤ n ∧ jx_sm D s.2.2 ∧ jx_lv s.2.2 ∧ ∀ c : Nat, D 4 5 = (c : Int) → ∃ c' : Nat, s.2.2 4 5 = (c' : Int) ∧ c ≤ c' ∧ c' ≤ c + (s.1 - b) * P
section
variable {n : Nat} {t : Nat → Int} {D : qm_M} {c0 c1 c2 : Nat}
theorem jl_knqr {b : Nat} {m : Bool} {N : Nat → Int} {c : Nat} {r : Nat × Int} (hb : b ≤ n) (h : jx_knq n t b m N c = .inr r) : b < r.1 ∧ r.1 ≤ n ∧ 0 ≤ r.2 ∧ r.2 < (c : Int) ∧ r.1 = jx_we n t b := by
  unfold jx_knq at h
  cases q : jx_nmq n t b m with
  | inl e => rw [q] at h; cases h
  | inr r0 =>
    rw [q] at h
    have h' : (if jd_pl N r0.2 c = -1 then Sum.inl (3, ((jx_st n t b : Nat) : Int)) else Sum.inr (r0.1, jd_pl N r0.2 c)) = (Sum.inr r : Sum (Int × Int) (Nat × Int)) := h
    obtain ⟨_, _, _, e, e2, e3⟩ := jx_nmqr hb q
    by_cases q2 : jd_pl N r0.2 c = -1
    · rw [if_pos q2] at h'; cases h'
    · rw [if_neg q2] at h'
      have h2 := (Sum.inr.inj h').symm
      subst h2
      subst e
      rcases jl_plb (N := N) (x := jd_n5 (fun i => t (jx_st n t b + i) - 96) (jx_we n t b - jx_st n t b)) c with z | ⟨k, k1, k2, _⟩
      · exact absurd z q2
      · exact ⟨e2, e3, by show 0 ≤ jd_pl N _ c; rw [k2]; omega, by show jd_pl N _ c < _; rw [k2]; omega, rfl⟩
theorem jl_pkqr {b : Nat} {m : Bool} {how : Int} {s : Nat × Bool × qm_M} (hb : b ≤ n) (hD : 0 ≤ D 4 3) (hc : 0 ≤ D 4 5) (hl : jx_lv D) (hh : 0 ≤ how ∧ how ≤ 2) (h : jx_pkq n t b m D how = .inr s) : b < s.1 ∧ s.1 ≤ n ∧ ∃ w, s.2.2 = jx_add D how w ∧ jx_lv s.2.2 := by
  unfold jx_pkq at h
  cases q : jx_knq n t b m (D 25) (D 4 3).toNat with
  | inl e => rw [q] at h; cases h
  | inr r =>
    rw [q] at h
    obtain ⟨e1, e2, e3, e4, _⟩ := jl_knqr hb q
    have h2 : (r.1, true, jx_add D how r.2) = s := Sum.inr.inj h
    subst h2
    exact ⟨e1, e2, r.2, rfl, jl_addv hl hc ⟨hh, by omega, fun _ => e3⟩⟩
theorem jl_ltqr {b : Nat} {m : Bool} {s : Nat × Bool × qm_M} (hb : b ≤ n) (hD : 0 ≤ D 4 3) (hc : 0 ≤ D 4 5) (hl : jx_lv D) (h : jx_ltq n t b m D = .inr s) (P : Nat) (hP : 0 < P) : jx_tok n b D P s := by
  have hw : ∀ l, jx_isW n t b m l → b < jx_we n t b ∧ jx_we n t b ≤ n := fun l hW => by
    have := jx_wlt hb hW.1.1 hW.1.2.1
    have h2 := jx_stb (t := t) hb
    exact ⟨by omega, (jx_wes t hb).2.1⟩
  have fin : ∀ how w, b < s.1 → s.1 ≤ n → s.2.2 = jx_add D how w → jx_lv s.2.2 → jx_tok n b D P s := fun how w h1 h2 h3 h4 => by
    refine ⟨h1, h2, by rw [h3]; exact jl_addsm D how w, h4, fun c hc => ⟨c + 1, by rw [h3, jl_addc, hc]; rfl, by omega, ?_⟩⟩
    have : 1 * 1 ≤ (s.1 - b) * P := Nat.mul_le_mul (by omega) hP
    omega
  have hh : ∀ X : Prop, (0 : Int) ≤ jx_if X 0 1 ∧ jx_if X (0 : Int) 1 ≤ 2 := fun X => by
    by_cases q : X
    · rw [jx_ifp q]; decide
    · rw [jx_ifn q]; decide
  have hh2 : ∀ X : Prop, jx_if X (0 : Int) 1 ≠ 2 := fun X => by
    by_cases q : X
    · rw [jx_ifp q]; decide
    · rw [jx_ifn q]; decide
  unfold jx_ltq at h
  by_cases q1 : jx_isW n t b m qb_tx_1011
  · rw [jx_ifp q1] at h
    obtain ⟨a1, a2, w, a3, a4⟩ := jl_pkqr (hw _ q1).2 hD hc hl (by decide) h
    exact fin _ _ (by have := (hw _ q1).1; omega) a2 a3 a4
  · rw [jx_ifn q1] at h
    by_cases q2 : jx_isW n t b m qb_tx_1009 ∨ jx_isW n t b m qb_tx_1010
    · rw [jx_ifp q2] at h
      have hwe : b < jx_we n t b ∧ jx_we n t b ≤ n := by
        rcases q2 with q2 | q2
        · exact hw _ q2
        · exact hw _ q2
      by_cases q3 : jx_isL n t (jx_we n t b) true ∧ ¬ jx_own n t (jx_we n t b)
      · rw [jx_ifp q3] at h
        obtain ⟨a1, a2, w, a3, a4⟩ := jl_pkqr hwe.2 hD hc hl (hh _) h
        exact fin _ _ (by omega) a2 a3 a4
      · rw [jx_ifn q3] at h
        have h2 := (Sum.inr.inj h).symm
        subst h2
        exact fin _ _ hwe.1 hwe.2 rfl (jl_addv hl hc ⟨hh _, by omega, fun z => absurd z (hh2 _)⟩)
    · rw [jx_ifn q2] at h; cases h
theorem jl_turnqr : ∀ F : Nat, (∀ o s s', o ≤ 7 → s.1 ≤ n → 0 ≤ s.2.2 4 3 → 0 ≤ s.2.2 4 5 → jx_lv s.2.2 → jx_turn n t F false o s = .inr s' → jx_tok n s.1 s.2.2 (2 ^ (7 - o)) s') ∧ (∀ o s s', o < 7 → s.1 ≤ n → 0 ≤ s.2.2 4 3 → 0 ≤ s.2.2 4 5 → jx_lv s.2.2 → jx_turn n t F true o s = .inr s' → jx_tok n s.1 s.2.2 (2 ^ (6 - o)) s')
  | 0 => ⟨fun o s s' _ _ _ _ _ h => (by cases h), fun o s s' _ _ _ _ _ h => (by cases h)⟩
  | F + 1 => by
    obtain ⟨ih1, ih2⟩ := jl_turnqr F
    have chain : ∀ (b b1 : Nat) (D : qm_M) (P : Nat) (s1 s2 : Nat × Bool × qm_M), b ≤ b1 → 0 ≤ D 4 5 → jx_tok n b1 D P s1 → jx_tok n s1.1 s1.2.2 P s2 → jx_tok n b D P s2 := fun b b1 D P s1 s2 hb1 hc0 h1 h2 => by
      obtain ⟨a1, a2, a3, a4, a5⟩ := h1
      obtain ⟨d1, d2, d3, d4, d5⟩ := h2
      refine ⟨by omega, d2, jx_smt a3 d3, d4, fun c hc => ?_⟩
      obtain ⟨c', e1, e2, e3⟩ := a5 c hc
      obtain ⟨c3, f1, f2, f3⟩ := d5 c' e1
      refine ⟨c3, f1, by omega, ?_⟩
      have : (s1.1 - b1) * P + (s2.1 - s1.1) * P ≤ (s2.1 - b) * P := by rw [← Nat.add_mul]; exact Nat.mul_le_mul_right _ (by omega)
      omega
    have wide : ∀ (b b1 : Nat) (D : qm_M) (P P2 : Nat) (s : Nat × Bool × qm_M), b ≤ b1 → P ≤ P2 → jx_tok n b1 D P s → jx_tok n b D P2 s := fun b b1 D P P2 s hb1 hP h => by
      obtain ⟨a1, a2, a3, a4, a5⟩ := h
      refine ⟨by omega, a2, a3, a4, fun c hc => ?_⟩
      obtain ⟨c', e1, e2, e3⟩ := a5 c hc
      exact ⟨c', e1, e2, Nat.le_trans e3 (Nat.add_le_add_left (Nat.mul_le_mul (by omega) hP) _)⟩
    refine ⟨fun o s s' ho hb hD hc hl h => ?_, fun o s s' ho hb hD hc hl h => ?_⟩
    · unfold jx_turn at h
      by_cases q1 : jx_isW n t s.1 s.2.1 qb_tx_1012
      · rw [jx_ifp q1] at h
        by_cases q2 : 7 ≤ o
        · rw [jx_ifp q2] at h; cases h
        · rw [jx_ifn q2] at h
          have hwe := jx_wlt hb q1.1.1 q1.1.2.1
          have hst := jx_stb (t := t) hb
          cases e : jx_turn n t F false (o + 1) (jx_we n t s.1, true, s.2.2) with
          | inl z => rw [e] at h; cases h
          | inr s1 =>
            rw [e] at h
            have h2 : (s1.1, s1.2.1, jx_dup s1.2.2 (s.2.2 4 5).toNat) = s' := Sum.inr.inj h
            subst h2
            obtain ⟨a1, a2, a3, a4, a5⟩ := ih1 (o + 1) (jx_we n t s.1, true, s.2.2) s1 (by omega) (jx_wes t hb).2.1 hD hc hl e
            obtain ⟨c', e1, e2, e3⟩ := a5 (s.2.2 4 5).toNat (by show s.2.2 4 5 = _; omega)
            have a1' : jx_we n t s.1 < s1.1 := a1
            refine ⟨by show s.1 < s1.1; omega, a2, jx_smt a3 (jl_dupsm _ _), jl_dupv a4 e1 e2, fun c hc2 => ⟨2 * c' - c, ?_, ?_, ?_⟩⟩
            · show jx_dup s1.2.2 _ 4 5 = _
              rw [jl_dupc, e1, hc2, Int.toNat_natCast]; omega
            · omega
            · show _ ≤ c + (s1.1 - s.1) * 2 ^ (7 - o)
              rw [show 7 - o = (7 - (o + 1)) + 1 by omega, Nat.pow_succ]
              have e3' : c' ≤ (s.2.2 4 5).toNat + (s1.1 - jx_we n t s.1) * 2 ^ (7 - (o + 1)) := e3
              have : (s1.1 - jx_we n t s.1) * 2 ^ (7 - (o + 1)) ≤ (s1.1 - s.1) * 2 ^ (7 - (o + 1)) := Nat.mul_le_mul_right _ (by omega)
              rw [← Nat.mul_assoc]
              generalize (s1.1 - jx_we n t s.1) * 2 ^ (7 - (o + 1)) = X at *
              generalize (s1.1 - s.1) * 2 ^ (7 - (o + 1)) = Y at *
              omega
      · rw [jx_ifn q1] at h
        by_cases q3 : jx_isM n t s.1 91
        · rw [jx_ifp q3] at h
          by_cases q2 : 7 ≤ o
          · rw [jx_ifp q2] at h; cases h
          · rw [jx_ifn q2] at h
            have hst := jx_stb (t := t) hb
            have hlt := q3.1
            cases e : jx_turn n t F false (o + 1) (jx_st n t s.1 + 1, false, s.2.2) with
            | inl z => rw [e] at h; cases h
            | inr s1 =>
              rw [e] at h
              have h2 : jx_turn n t F true o s1 = .inr s' := h
              have a := ih1 (o + 1) (jx_st n t s.1 + 1, false, s.2.2) s1 (by omega) hlt hD hc hl e
              obtain ⟨a1, a2, a3, a4, a5⟩ := id a
              have hD' : 0 ≤ s1.2.2 4 3 := by rw [a3 4 (by decide) (by decide) 3 (fun z => absurd z.2 (by decide))]; exact hD
              have hc' : 0 ≤ s1.2.2 4 5 := by
                obtain ⟨c', e1, _⟩ := a5 (s.2.2 4 5).toNat (by show s.2.2 4 5 = _; omega)
                rw [e1]; omega
              have g := ih2 o s1 s' (by omega) a2 hD' hc' a4 h2
              rw [show 7 - (o + 1) = 6 - o by omega] at a
              exact wide s.1 s.1 _ (2 ^ (6 - o)) _ _ (Nat.le_refl _) (Nat.pow_le_pow_right (by decide) (by omega)) (chain s.1 (jx_st n t s.1 + 1) _ _ s1 s' (by omega) hc a g)
        · rw [jx_ifn q3] at h
          exact jl_ltqr hb hD hc hl h _ (Nat.pow_pos (by decide))
    · unfold jx_turn at h
      by_cases q1 : jx_bgn n t s.1 s.2.1
      · rw [jx_ifp q1] at h
        cases e : jx_turn n t F false (o + 1) s with
        | inl z => rw [e] at h; cases h
        | inr s1 =>
          rw [e] at h
          have h2 : jx_turn n t F true o s1 = .inr s' := h
          have a := ih1 (o + 1) s s1 (by omega) hb hD hc hl e
          obtain ⟨a1, a2, a3, a4, a5⟩ := id a
          have hD' : 0 ≤ s1.2.2 4 3 := by rw [a3 4 (by decide) (by decide) 3 (fun z => absurd z.2 (by decide))]; exact hD
          have hc' : 0 ≤ s1.2.2 4 5 := by
            obtain ⟨c', e1, _⟩ := a5 (s.2.2 4 5).toNat (by omega)
            rw [e1]; omega
          have g := ih2 o s1 s' ho a2 hD' hc' a4 h2
          rw [show 7 - (o + 1) = 6 - o by omega] at a
          exact chain s.1 s.1 _ _ s1 s' (Nat.le_refl _) hc a g
      · rw [jx_ifn q1] at h
        by_cases q3 : jx_isM n t s.1 93
        · rw [jx_ifp q3] at h
          have hst := jx_stb (t := t) hb
          have h2 := (Sum.inr.inj h).symm
          subst h2
          exact ⟨by show s.1 < jx_st n t s.1 + 1; omega, q3.1, jx_smr _, hl, fun c hc2 => ⟨c, hc2, Nat.le_refl _, by omega⟩⟩
        · rw [jx_ifn q3] at h; cases h
end
