/-! ===== what is read can be told ===== -/
def je_seg (nc : Nat) (sd : Nat → Int) (th T : Nat → Nat → Int) (r : Nat) (D : qm_M) (c c' h : Nat) (B : Int → Prop) : Prop := c ≤ c' ∧ ∀ P : List Int, je_all P → P.length + h ≤ 100 → ∃ v, B v ∧ je_run nc sd th T r D (c' - c) c P = some (v :: P)
theorem jl_qac5 {D : qm_M} {c : Nat} {x y : Int} (h : D 11 5 = (c : Int)) : jx_qa D x y 11 5 = ((c + 1 : Nat) : Int) := by rw [jl_qac, h]; rfl
def je_pre (D D' : qm_M) (c : Nat) : Prop := ∀ j, j < c → D' 42 j = D 42 j ∧ D' 43 j = D 43 j
section
variable {nc : Nat} {sd : Nat → Int} {th T : Nat → Nat → Int} {r : Nat} {D D' : qm_M} {c c1 c2 h h1 h2 : Nat} {B B' : Int → Prop}
theorem je_pret {D1 D2 D3 : qm_M} (h : je_pre D1 D2 c) (h' : je_pre D2 D3 c1) (hc : c ≤ c1) : je_pre D1 D3 c := fun j hj => ⟨((h' j (by omega)).1).trans (h j hj).1, ((h' j (by omega)).2).trans (h j hj).2⟩
theorem je_preq (hc : D 11 5 = (c1 : Int)) (h : c1 < 1600) (hcc : c ≤ c1) (x y : Int) : je_pre D (jx_qa D x y) c := fun j hj => by
  have g := jl_qag hc h x y j
  rw [if_neg (by omega), if_neg (by omega)] at g
  exact g
theorem je_segm (hs : je_seg nc sd th T r D c c1 h B) (hh : h ≤ h1) : je_seg nc sd th T r D c c1 h1 B := ⟨hs.1, fun P hP hl => hs.2 P hP (by omega)⟩
theorem je_segc (hs : je_seg nc sd th T r D c c1 h B) (hp : je_pre D D' c1) : je_seg nc sd th T r D' c c1 h B := ⟨hs.1, fun P hP hl => by
  obtain ⟨v, hv, e⟩ := hs.2 P hP hl
  have := hs.1
  exact ⟨v, hv, (je_runc (c1 - c) c P (fun j j1 j2 => hp j (by omega))).trans e⟩⟩
theorem je_run1 (x y : Int) (hc : D 11 5 = (c : Int)) (h : c < 1600) (P : List Int) : je_run nc sd th T r (jx_qa D x y) 1 c P = je_step nc sd th T r x y P := by
  have g := jl_qag hc h x y c
  rw [if_pos rfl, if_pos rfl] at g
  show (je_step nc sd th T r (jx_qa D x y 42 c) (jx_qa D x y 43 c) P).bind _ = _
  rw [g.1, g.2]
  cases je_step nc sd th T r x y P with
  | none => rfl
  | some P' => rfl
theorem je_segp {x y : Int} (hc : D 11 5 = (c : Int)) (h : c < 1600) (hst : ∀ P : List Int, P.length < 100 → ∃ v, B v ∧ je_step nc sd th T r x y P = some (v :: P)) (h1 : 1 ≤ h2) : je_seg nc sd th T r (jx_qa D x y) c (c + 1) h2 B := ⟨by omega, fun P hP hl => by
  obtain ⟨v, hv, e⟩ := hst P (by omega)
  refine ⟨v, hv, ?_⟩
  rw [show c + 1 - c = 1 by omega, je_run1 x y hc h]
  exact e⟩
theorem je_seg1 {x y : Int} (hs : je_seg nc sd th T r D c c1 h B) (hc : D 11 5 = (c1 : Int)) (h6 : c1 < 1600) (hst : ∀ (v : Int) (P : List Int), B v → ∃ w, B' w ∧ je_step nc sd th T r x y (v :: P) = some (w :: P)) : je_seg nc sd th T r (jx_qa D x y) c (c1 + 1) h B' := ⟨by have := hs.1; omega, fun P hP hl => by
  have hp : je_pre D (jx_qa D x y) c1 := je_preq hc h6 (Nat.le_refl _) x y
  obtain ⟨v, hv, e⟩ := (je_segc hs hp).2 P hP hl
  obtain ⟨w, hw, e2⟩ := hst v P hv
  have := hs.1
  refine ⟨w, hw, ?_⟩
  rw [show c1 + 1 - c = (c1 - c) + 1 by omega, je_runa, e]
  show je_run nc sd th T r (jx_qa D x y) 1 (c + (c1 - c)) (v :: P) = _
  rw [show c + (c1 - c) = c1 by omega, je_run1 x y hc h6]
  exact e2⟩
theorem je_seg2 {x y : Int} (hB : ∀ v, B v → je_n v) (hs : je_seg nc sd th T r D c c1 h1 B) (hs2 : je_seg nc sd th T r D c1 c2 h2 B) (hc : D 11 5 = (c2 : Int)) (h6 : c2 < 1600) (hh1 : h1 ≤ h) (hh2 : h2 + 1 ≤ h) (hst : ∀ (a b : Int) (P : List Int), B a → B b → ∃ w, B' w ∧ je_step nc sd th T r x y (b :: a :: P) = some (w :: P)) : je_seg nc sd th T r (jx_qa D x y) c (c2 + 1) h B' := ⟨by have := hs.1; have := hs2.1; omega, fun P hP hl => by
  have q1 := hs.1
  have q2 := hs2.1
  obtain ⟨a, ha, e⟩ := (je_segc hs (je_preq hc h6 q2 x y)).2 P hP (by omega)
  have hP2 : je_all (a :: P) := fun v hv => by
    rcases List.mem_cons.mp hv with rfl | hv
    · exact hB v ha
    · exact hP v hv
  obtain ⟨b, hb, e2⟩ := (je_segc hs2 (je_preq hc h6 (Nat.le_refl _) x y)).2 (a :: P) hP2 (by show P.length + 1 + h2 ≤ 100; omega)
  obtain ⟨w, hw, e3⟩ := hst a b P ha hb
  refine ⟨w, hw, ?_⟩
  rw [show c2 + 1 - c = (c1 - c) + ((c2 - c1) + 1) by omega, je_runa, e]
  show je_run nc sd th T r (jx_qa D x y) ((c2 - c1) + 1) (c + (c1 - c)) (a :: P) = _
  rw [show c + (c1 - c) = c1 by omega, je_runa, e2]
  show je_run nc sd th T r (jx_qa D x y) 1 (c1 + (c2 - c1)) (b :: a :: P) = _
  rw [show c1 + (c2 - c1) = c2 by omega, je_run1 x y hc h6]
  exact e3⟩
theorem je_say {y : Int} (hy : 0 ≤ y ∧ y ≤ 9999) (P : List Int) (hl : P.length < 100) : ∃ v, (je_n v ∧ v = y) ∧ je_step nc sd th T r 0 y P = some (v :: P) := ⟨y, ⟨by unfold je_n; omega, rfl⟩, by
  unfold je_step
  rw [if_pos rfl, if_pos (by omega)]⟩
theorem je_op {x : Int} (hx : 9 ≤ x ∧ x ≤ 17) (a b : Int) (P : List Int) (ha : je_n a) (hb : je_n b) : ∃ w, je_n w ∧ je_step nc sd th T r x 0 (b :: a :: P) = some (w :: P) := ⟨je_two x a b, je_twon ha hb (Or.inl hx.2) hx.1, by
  unfold je_step
  rw [if_neg (by omega), if_neg (by omega), if_neg (by omega), if_neg (by omega)]
  exact if_pos (Or.inl hx.2)⟩
theorem je_opb {x : Int} (hx : 15 ≤ x ∧ x ≤ 17) (a b : Int) (P : List Int) : ∃ w, je_b w ∧ je_step nc sd th T r x 0 (b :: a :: P) = some (w :: P) := ⟨je_two x a b, je_twob hx.1 (Or.inl hx.2), by
  unfold je_step
  rw [if_neg (by omega), if_neg (by omega), if_neg (by omega), if_neg (by omega)]
  exact if_pos (Or.inl hx.2)⟩
theorem je_opj {x : Int} (hx : 18 ≤ x ∧ x ≤ 19) (a b : Int) (P : List Int) (ha : je_b a) (hb : je_b b) : ∃ w, je_b w ∧ je_step nc sd th T r x 0 (b :: a :: P) = some (w :: P) := ⟨je_two x a b, je_twob (by omega) (Or.inr ⟨hx.2, ha, hb⟩), by
  unfold je_step
  rw [if_neg (by omega), if_neg (by omega), if_neg (by omega), if_neg (by omega)]
  exact if_pos (Or.inr ⟨hx.2, ha, hb⟩)⟩
end
section
variable {nc nr : Nat} {lm : Int} {sd : Nat → Int} {th T : Nat → Nat → Int} {r n : Nat} {t : Nat → Int}
theorem je_row1 (hO : jd_ok nc nr lm sd th T) (hr : r < nr) {x : Int} (hx : 1 ≤ x ∧ x ≤ 3) (P : List Int) (hl : P.length < 100) : ∃ v, je_n v ∧ je_step nc sd th T r x 0 P = some (v :: P) := ⟨je_row nc T r x, by have := je_rown hO hr x; unfold je_n; omega, by
  unfold je_step
  rw [if_neg (by omega), if_pos (by omega), if_pos (by omega)]⟩
theorem je_of1 (hO : jd_ok nc nr lm sd th T) (hr : r < nr) {x : Int} (hx : 4 ≤ x ∧ x ≤ 7) (v : Int) (P : List Int) : ∃ w, je_n w ∧ je_step nc sd th T r x 0 (v :: P) = some (w :: P) := ⟨je_of nc sd th T r x v, by have := je_ofn (sd := sd) hO hr x v; unfold je_n; omega, by
  unfold je_step
  rw [if_neg (by omega), if_neg (by omega), if_pos (by omega)]⟩
theorem je_not1 (v : Int) (P : List Int) (hv : je_b v) : ∃ w, je_b w ∧ je_step nc sd th T r 8 0 (v :: P) = some (w :: P) := ⟨1 - v, by unfold je_b at *; omega, by
  unfold je_step
  rw [if_neg (by decide), if_neg (by decide), if_neg (by decide), if_pos rfl]
  exact if_pos hv⟩
def je_res (nc : Nat) (sd : Nat → Int) (th T : Nat → Nat → Int) (r md h0 h1 h2 : Nat) (B : Int → Prop) (c : Nat) (D : qm_M) (D' : qm_M) (c' : Nat) : Prop :=
  c ≤ c' ∧ je_pre D D' c ∧ (md = 0 → je_seg nc sd th T r D' c c' h0 B) ∧ (md = 1 → ∀ c0, c0 ≤ c → je_seg nc sd th T r D c0 c h1 B → je_seg nc sd th T r D' c0 c' h1 B) ∧ (2 ≤ md → ∀ c0, c0 ≤ c → je_seg nc sd th T r D c0 c h2 B → je_seg nc sd th T r D' c0 c' h2 B)
theorem je_qs (hn : n ≤ 1600) (hO : jd_ok nc nr lm sd th T) (hr : r < nr) : ∀ (F md o : Nat) (s σ : Nat × Bool × qm_M) (c : Nat), s.1 ≤ n → o ≤ 6 → s.2.2 11 5 = (c : Int) → c ≤ s.1 → jx_qs n t F md o s = .inr σ → ∃ c' : Nat, σ.2.2 11 5 = (c' : Int) ∧ c' ≤ σ.1 ∧ je_res nc sd th T r md (19 - 3 * o) (20 - 3 * o) (21 - 3 * o) je_n c s.2.2 σ.2.2 c'
  | 0, _, _, _, _, _, _, _, _, _, h => by cases h
  | F + 1, 0, o, s, σ, c, hb, ho, hc, hcb, h => by
    have ih := je_qs hn hO hr F
    have hok := (jl_qsr (F + 1) 0 o s σ hb h).1
    have hst := jx_stb (t := t) hb
    have rng : ∀ (b' : Nat) (s1 : Nat × Bool × qm_M), s.1 < b' → jx_qok n b' s.2.2 s1 → ∀ c1 : Nat, s1.2.2 11 5 = (c1 : Int) → c1 < s1.1 ∧ s1.1 ≤ n := fun b' s1 hb1 hk1 c1 e1 => ⟨jl_qlt ⟨c, hc, hcb⟩ hb1 hk1 c1 e1, hk1.2.1⟩
    have one : ∀ (b2 : Nat) (x y : Int), s.1 < b2 → b2 ≤ n → (∀ P : List Int, P.length < 100 → ∃ v, je_n v ∧ je_step nc sd th T r x y P = some (v :: P)) → ∃ c' : Nat, jx_qa s.2.2 x y 11 5 = (c' : Int) ∧ c' ≤ b2 ∧ je_res nc sd th T r 0 (19 - 3 * o) (20 - 3 * o) (21 - 3 * o) je_n c s.2.2 (jx_qa s.2.2 x y) c' := fun b2 x y q1 q2 hst => ⟨c + 1, jl_qac5 hc, by omega, by omega, je_preq hc (by omega) (Nat.le_refl _) x y, fun _ => je_segp hc (by omega) hst (by omega), fun z => absurd z (by decide), fun z => absurd z (by decide)⟩
    have wlt : ∀ l, jx_isW n t s.1 s.2.1 l → s.1 < jx_we n t s.1 ∧ jx_we n t s.1 ≤ n := fun l z => by
      have := jx_wlt hb z.1.1 z.1.2.1
      exact ⟨by omega, (jx_wes t hb).2.1⟩
    have sum : ∀ (s0 s3 : Nat × Bool × qm_M) (c0 : Nat), s0.1 ≤ n → o + 1 ≤ 6 → s0.2.2 11 5 = (c0 : Int) → c0 ≤ s0.1 → jx_bd (jx_bd (jx_qs n t F 0 (o + 1) s0) (jx_qs n t F 1 (o + 1))) (jx_qs n t F 2 (o + 1)) = .inr s3 → ∃ c3 : Nat, s3.2.2 11 5 = (c3 : Int) ∧ c3 ≤ s3.1 ∧ c0 ≤ c3 ∧ je_pre s0.2.2 s3.2.2 c0 ∧ je_seg nc sd th T r s3.2.2 c0 c3 (18 - 3 * o) je_n := fun s0 s3 c0 h0 ho1 hc0 hcb0 hs => by
      obtain ⟨s2, e2, e3⟩ := jl_bdr hs
      obtain ⟨s1, e0, e1⟩ := jl_bdr e2
      have a0 := (jl_qsr F 0 (o + 1) s0 s1 h0 e0).1.2.1
      have a1 := (jl_qsr F 1 (o + 1) s1 s2 a0 e1).1.2.1
      obtain ⟨c1, f1, f2, g1, g2, g3, _, _⟩ := ih 0 (o + 1) s0 s1 c0 h0 ho1 hc0 hcb0 e0
      obtain ⟨c2, f3, f4, g4, g5, _, g6, _⟩ := ih 1 (o + 1) s1 s2 c1 a0 ho1 f1 f2 e1
      obtain ⟨c3, f5, f6, g7, g8, _, _, g9⟩ := ih 2 (o + 1) s2 s3 c2 a1 ho1 f3 f4 e3
      refine ⟨c3, f5, f6, by omega, je_pret (je_pret g2 g5 g1) g8 (by omega), ?_⟩
      have k := g9 (Nat.le_refl _) c0 (by omega) (je_segm (g6 rfl c0 g1 (je_segm (g3 rfl) (by omega))) (by omega))
      rw [show 21 - 3 * (o + 1) = 18 - 3 * o by omega] at k
      exact k
    unfold jx_qs at h
    by_cases q1 : jx_isN n t s.1 s.2.1
    · rw [jx_ifp q1] at h
      have hlt := jx_dlt hb q1.1 q1.2.1
      obtain ⟨d1, d2, d3, d4⟩ := jx_des t hb
      split at h
      · rename_i q
        have := (Sum.inr.inj h).symm
        subst this
        have hd := jl_n10b (f := fun i => t (jx_st n t s.1 + i) - 48) (jx_de n t s.1 - jx_st n t s.1) (fun i hi => by
          have := d3 (jx_st n t s.1 + i) (by omega) (by omega)
          unfold jx_di at this
          omega) q
        refine one _ _ _ (by omega) d2 fun P hP => ?_
        obtain ⟨v, hv, e⟩ := je_say (nc := nc) (sd := sd) (th := th) (T := T) (r := r) (y := jd_n10 (fun i => t (jx_st n t s.1 + i) - 48) (jx_de n t s.1 - jx_st n t s.1)) ⟨hd.1, by
          have h2 := hd.2
          split at h2
          · omega
          · split at h2
            · omega
            · split at h2
              · omega
              · split at h2 <;> omega⟩ P hP
        exact ⟨v, hv.1, e⟩
      · cases h
    rw [jx_ifn q1] at h
    by_cases q2 : jx_isW n t s.1 s.2.1 qb_tx_1021
    · rw [jx_ifp q2] at h
      have := (Sum.inr.inj h).symm
      subst this
      exact one _ 1 0 (wlt _ q2).1 (wlt _ q2).2 (je_row1 hO hr (by decide))
    rw [jx_ifn q2] at h
    by_cases q3 : jx_isW n t s.1 s.2.1 qb_tx_1022
    · rw [jx_ifp q3] at h
      have := (Sum.inr.inj h).symm
      subst this
      exact one _ 2 0 (wlt _ q3).1 (wlt _ q3).2 (je_row1 hO hr (by decide))
    rw [jx_ifn q3] at h
    by_cases q4 : jx_isW n t s.1 s.2.1 qb_tx_1023
    · rw [jx_ifp q4] at h
      have := (Sum.inr.inj h).symm
      subst this
      exact one _ 3 0 (wlt _ q4).1 (wlt _ q4).2 (je_row1 hO hr (by decide))
    rw [jx_ifn q4] at h
    by_cases q5 : jx_isW n t s.1 s.2.1 qb_tx_1024 ∨ jx_isW n t s.1 s.2.1 qb_tx_1025
    · rw [jx_ifp q5] at h
      have hw : s.1 < jx_we n t s.1 ∧ jx_we n t s.1 ≤ n := by
        rcases q5 with z | z
        · exact wlt _ z
        · exact wlt _ z
      have hst2 := jx_stb (t := t) hw.2
      by_cases q6 : jx_isM n t (jx_we n t s.1) 40
      · rw [jx_ifp q6] at h
        have hl6 := q6.1
        split at h
        · cases h
        · obtain ⟨s1, e1, e2⟩ := jl_bdr h
          have a1 := jl_sumr (s := (jx_st n t (jx_we n t s.1) + 1, false, s.2.2)) hl6 e1
          by_cases q7 : jx_isM n t s1.1 44
          · rw [jx_ifp q7] at e2
            obtain ⟨s2, e3, e4⟩ := jl_bdr e2
            have hs1 := jx_stb (t := t) a1.1.2.1
            have a2 := jl_sumr (s := (jx_st n t s1.1 + 1, false, s1.2.2)) q7.1 e3
            by_cases q8 : jx_isM n t s2.1 41
            · rw [jx_ifp q8] at e4
              have := (Sum.inr.inj e4).symm
              subst this
              have hs2 := jx_stb (t := t) a2.1.2.1
              obtain ⟨c1, f1, f2, g1, g2, g3⟩ := sum (jx_st n t (jx_we n t s.1) + 1, false, s.2.2) s1 c hl6 (by omega) hc (by show c ≤ jx_st n t (jx_we n t s.1) + 1; omega) e1
              obtain ⟨c2, f3, f4, g4, g5, g6⟩ := sum (jx_st n t s1.1 + 1, false, s1.2.2) s2 c1 q7.1 (by omega) f1 (by show c1 ≤ jx_st n t s1.1 + 1; omega) e3
              have hl8 := q8.1
              have hc2 : c2 < 1600 := by omega
              refine ⟨c2 + 1, jl_qac5 (x := jx_if (jx_isW n t s.1 s.2.1 qb_tx_1024) 13 14) (y := 0) f3, by show c2 + 1 ≤ jx_st n t s2.1 + 1; omega, by omega, je_pret (je_pret g2 g5 g1) (je_preq f3 hc2 (Nat.le_refl _) _ _) (by omega), fun _ => ?_, fun z => absurd z (by decide), fun z => absurd z (by decide)⟩
              refine je_seg2 (h1 := 18 - 3 * o) (h2 := 18 - 3 * o) (fun v hv => hv) (je_segc g3 g5) g6 f3 hc2 (by omega) (by omega) (fun a b P ha hb => je_op ?_ a b P ha hb)
              by_cases q9 : jx_isW n t s.1 s.2.1 qb_tx_1024
              · rw [jx_ifp q9]; decide
              · rw [jx_ifn q9]; decide
            · rw [jx_ifn q8] at e4; cases e4
          · rw [jx_ifn q7] at e2; cases e2
      · rw [jx_ifn q6] at h; cases h
    rw [jx_ifn q5] at h
    by_cases q9 : jx_isW n t s.1 s.2.1 qb_tx_1026 ∨ jx_isW n t s.1 s.2.1 qb_tx_1027 ∨ jx_isW n t s.1 s.2.1 qb_tx_1028 ∨ jx_isW n t s.1 s.2.1 qb_tx_1029
    · rw [jx_ifp q9] at h
      have hw : s.1 < jx_we n t s.1 ∧ jx_we n t s.1 ≤ n := by
        rcases q9 with z | z | z | z
        all_goals exact wlt _ z
      split at h
      · cases h
      · obtain ⟨s1, e1, e2⟩ := jl_bdr h
        have a1 := jl_qsr F 0 _ (jx_we n t s.1, true, s.2.2) s1 hw.2 e1
        have := (Sum.inr.inj e2).symm
        subst this
        obtain ⟨c1, f1, f2, g1, g2, g3, _, _⟩ := ih 0 (o + 1) (jx_we n t s.1, true, s.2.2) s1 c hw.2 (by omega) hc (by show c ≤ jx_we n t s.1; omega) e1
        have hr1 := rng _ s1 hw.1 a1.1 c1 f1
        have hcode : 4 ≤ jx_if (jx_isW n t s.1 s.2.1 qb_tx_1026) (4 : Int) (jx_if (jx_isW n t s.1 s.2.1 qb_tx_1027) 5 (jx_if (jx_isW n t s.1 s.2.1 qb_tx_1028) 6 7)) ∧ jx_if (jx_isW n t s.1 s.2.1 qb_tx_1026) (4 : Int) (jx_if (jx_isW n t s.1 s.2.1 qb_tx_1027) 5 (jx_if (jx_isW n t s.1 s.2.1 qb_tx_1028) 6 7)) ≤ 7 := by
          by_cases w1 : jx_isW n t s.1 s.2.1 qb_tx_1026
          · rw [jx_ifp w1]; decide
          rw [jx_ifn w1]
          by_cases w2 : jx_isW n t s.1 s.2.1 qb_tx_1027
          · rw [jx_ifp w2]; decide
          rw [jx_ifn w2]
          by_cases w3 : jx_isW n t s.1 s.2.1 qb_tx_1028
          · rw [jx_ifp w3]; decide
          · rw [jx_ifn w3]; decide
        refine ⟨c1 + 1, jl_qac5 (x := jx_if (jx_isW n t s.1 s.2.1 qb_tx_1026) (4 : Int) (jx_if (jx_isW n t s.1 s.2.1 qb_tx_1027) 5 (jx_if (jx_isW n t s.1 s.2.1 qb_tx_1028) 6 7))) (y := 0) f1, by show c1 + 1 ≤ s1.1; omega, by omega, je_pret g2 (je_preq f1 (by omega) (Nat.le_refl _) _ _) g1, fun _ => ?_, fun z => absurd z (by decide), fun z => absurd z (by decide)⟩
        exact je_segm (je_seg1 (g3 rfl) f1 (by omega) (fun v P _ => je_of1 hO hr hcode v P)) (by omega)
    rw [jx_ifn q9] at h
    by_cases q10 : jx_isM n t s.1 40
    · rw [jx_ifp q10] at h
      have hl := q10.1
      split at h
      · cases h
      · obtain ⟨s1, e1, e2⟩ := jl_bdr h
        have a1 := jl_sumr (s := (jx_st n t s.1 + 1, false, s.2.2)) hl e1
        by_cases q8 : jx_isM n t s1.1 41
        · rw [jx_ifp q8] at e2
          have := (Sum.inr.inj e2).symm
          subst this
          have hs2 := jx_stb (t := t) a1.1.2.1
          obtain ⟨c1, f1, f2, g1, g2, g3⟩ := sum (jx_st n t s.1 + 1, false, s.2.2) s1 c hl (by omega) hc (by show c ≤ jx_st n t s.1 + 1; omega) e1
          exact ⟨c1, f1, by show c1 ≤ jx_st n t s1.1 + 1; omega, g1, g2, fun _ => je_segm g3 (by omega), fun z => absurd z (by decide), fun z => absurd z (by decide)⟩
        · rw [jx_ifn q8] at e2; cases e2
    · rw [jx_ifn q10] at h; cases h
  | F + 1, 1, o, s, σ, c, hb, ho, hc, hcb, h => by
    have ih := je_qs hn hO hr F
    have hst := jx_stb (t := t) hb
    unfold jx_qs at h
    by_cases q : jx_isM n t s.1 42 ∨ jx_isM n t s.1 47
    · rw [jx_ifp q] at h
      have hl : jx_st n t s.1 < n := by
        rcases q with z | z
        · exact z.1
        · exact z.1
      obtain ⟨s1, e1, e2⟩ := jl_bdr h
      have a1 := jl_qsr F 0 _ (jx_st n t s.1 + 1, false, s.2.2) s1 hl e1
      obtain ⟨c1, f1, f2, g1, g2, g3, _, _⟩ := ih 0 o (jx_st n t s.1 + 1, false, s.2.2) s1 c hl ho hc (by show c ≤ jx_st n t s.1 + 1; omega) e1
      have hlc := jl_qlt ⟨c, hc, hcb⟩ (show s.1 < jx_st n t s.1 + 1 by omega) a1.1 c1 f1
      have gn := a1.1.2.1
      obtain ⟨c2, f3, f4, g4, g5, _, g6, _⟩ := ih 1 o (s1.1, s1.2.1, jx_qa s1.2.2 (jx_if (jx_isM n t s.1 42) 11 12) 0) σ (c1 + 1) gn ho (jl_qac5 (x := jx_if (jx_isM n t s.1 42) 11 12) (y := 0) f1) hlc e2
      refine ⟨c2, f3, f4, by omega, je_pret (je_pret g2 (je_preq f1 (by omega) (Nat.le_refl _) _ _) g1) g5 (by omega), fun z => absurd z (by decide), fun _ c0 hc0 hs0 => g6 rfl c0 (by omega) ?_, fun z => absurd z (by decide)⟩
      refine je_seg2 (h1 := 20 - 3 * o) (h2 := 19 - 3 * o) (fun v hv => hv) (je_segc hs0 g2) (g3 rfl) f1 (by omega) (by omega) (by omega) (fun a b P ha hb => je_op ?_ a b P ha hb)
      by_cases q9 : jx_isM n t s.1 42
      · rw [jx_ifp q9]; decide
      · rw [jx_ifn q9]; decide
    · rw [jx_ifn q] at h
      have := (Sum.inr.inj h).symm
      subst this
      exact ⟨c, hc, hcb, Nat.le_refl _, fun j hj => ⟨rfl, rfl⟩, fun z => absurd z (by decide), fun _ c0 hc0 hs0 => hs0, fun z => absurd z (by decide)⟩
  | F + 1, md + 2, o, s, σ, c, hb, ho, hc, hcb, h => by
    have ih := je_qs hn hO hr F
    have hst := jx_stb (t := t) hb
    unfold jx_qs at h
    by_cases q : jx_isM n t s.1 43 ∨ jx_isM n t s.1 45
    · rw [jx_ifp q] at h
      have hl : jx_st n t s.1 < n := by
        rcases q with z | z
        · exact z.1
        · exact z.1
      obtain ⟨s1, e1, e2⟩ := jl_bdr h
      obtain ⟨s0, e3, e4⟩ := jl_bdr e1
      have a0 := jl_qsr F 0 _ (jx_st n t s.1 + 1, false, s.2.2) s0 hl e3
      have a1 := jl_qsr F 1 _ s0 s1 a0.1.2.1 e4
      obtain ⟨c1, f1, f2, g1, g2, g3, _, _⟩ := ih 0 o (jx_st n t s.1 + 1, false, s.2.2) s0 c hl ho hc (by show c ≤ jx_st n t s.1 + 1; omega) e3
      obtain ⟨c2, f3, f4, g4, g5, _, g6, _⟩ := ih 1 o s0 s1 c1 a0.1.2.1 ho f1 f2 e4
      have hlc := jl_qlt ⟨c, hc, hcb⟩ (show s.1 < jx_st n t s.1 + 1 by omega) (jl_qokt a0.1 a1.1) c2 f3
      have gn := a1.1.2.1
      obtain ⟨c3, f5, f6, g7, g8, _, _, g9⟩ := ih 2 o (s1.1, s1.2.1, jx_qa s1.2.2 (jx_if (jx_isM n t s.1 43) 9 10) 0) σ (c2 + 1) gn ho (jl_qac5 (x := jx_if (jx_isM n t s.1 43) 9 10) (y := 0) f3) hlc e2
      have gp := je_pret g2 g5 g1
      refine ⟨c3, f5, f6, by omega, je_pret (je_pret gp (je_preq f3 (by omega) (Nat.le_refl _) _ _) (by omega)) g8 (by omega), fun z => absurd z (by omega), fun z => absurd z (by omega), fun _ c0 hc0 hs0 => g9 (Nat.le_refl _) c0 (by omega) ?_⟩
      refine je_seg2 (h1 := 21 - 3 * o) (h2 := 20 - 3 * o) (fun v hv => hv) (je_segc hs0 gp) (g6 rfl c g1 (je_segm (g3 rfl) (by omega))) f3 (by omega) (by omega) (by omega) (fun a b P ha hb => je_op ?_ a b P ha hb)
      by_cases q9 : jx_isM n t s.1 43
      · rw [jx_ifp q9]; decide
      · rw [jx_ifn q9]; decide
    · rw [jx_ifn q] at h
      have := (Sum.inr.inj h).symm
      subst this
      exact ⟨c, hc, hcb, Nat.le_refl _, fun j hj => ⟨rfl, rfl⟩, fun z => absurd z (by omega), fun z => absurd z (by omega), fun _ c0 hc0 hs0 => hs0⟩
end
