/-! ===== what is asked stays while it is read ===== -/
def je_p7 (D : qm_M) (x : jx_R) : Prop := ∀ σ : Nat × Bool × qm_M, x = .inr σ → σ.2.2 11 7 = D 11 7
theorem je_p7i {D : qm_M} {c : Prop} {a b : jx_R} (h1 : je_p7 D a) (h2 : je_p7 D b) : je_p7 D (jx_if c a b) := by
  by_cases q : c
  · rw [jx_ifp q]; exact h1
  · rw [jx_ifn q]; exact h2
theorem je_p7t {D : qm_M} {c : Prop} [Decidable c] {a b : jx_R} (h1 : je_p7 D a) (h2 : je_p7 D b) : je_p7 D (if c then a else b) := by
  split
  · exact h1
  · exact h2
theorem je_p7l {D : qm_M} {e : Int × Int} : je_p7 D (.inl e) := fun σ h => by cases h
theorem je_p7r {D : qm_M} {s : Nat × Bool × qm_M} (h : s.2.2 11 7 = D 11 7) : je_p7 D (.inr s) := fun σ e => by cases e; exact h
theorem je_p7b {D : qm_M} {x : jx_R} {f : Nat × Bool × qm_M → jx_R} (h : je_p7 D x) (h2 : ∀ s : Nat × Bool × qm_M, s.2.2 11 7 = D 11 7 → je_p7 D (f s)) : je_p7 D (jx_bd x f) := fun σ e => by
  obtain ⟨a, e1, e2⟩ := jl_bdr e
  exact h2 a (h a e1) σ e2
theorem je_p7q (D : qm_M) (x y : Int) : jx_qa D x y 11 7 = D 11 7 := by
  unfold jx_qa
  rw [jl_sk _ _ _ (by decide), jl_putn (by decide), jl_putn (by decide)]
theorem je_p7s {n : Nat} {t : Nat → Int} {D : qm_M} : ∀ (F md o : Nat) (s : Nat × Bool × qm_M), s.2.2 11 7 = D 11 7 → je_p7 D (jx_qs n t F md o s)
  | 0, _, _, _, _ => je_p7l
  | F + 1, 0, o, s, h => by
    have ih := je_p7s (n := n) (t := t) (D := D) F
    have q : ∀ x y, jx_qa s.2.2 x y 11 7 = D 11 7 := fun x y => (je_p7q _ x y).trans h
    unfold jx_qs
    refine je_p7i (je_p7t (je_p7r (q _ _)) je_p7l) (je_p7i (je_p7r (q _ _)) (je_p7i (je_p7r (q _ _)) (je_p7i (je_p7r (q _ _)) (je_p7i (je_p7i (je_p7t je_p7l (je_p7b (je_p7b (je_p7b (ih _ _ _ h) fun s1 h1 => ih _ _ _ h1) fun s1 h1 => ih _ _ _ h1) fun s1 h1 => je_p7i (je_p7b (je_p7b (je_p7b (ih _ _ _ h1) fun s1 h1 => ih _ _ _ h1) fun s1 h1 => ih _ _ _ h1) fun s2 h2 => je_p7i (je_p7r ((je_p7q _ _ _).trans h2)) je_p7l) je_p7l)) je_p7l) (je_p7i (je_p7t je_p7l (je_p7b (ih _ _ _ h) fun s1 h1 => je_p7r ((je_p7q _ _ _).trans h1))) (je_p7i (je_p7t je_p7l (je_p7b (je_p7b (je_p7b (ih _ _ _ h) fun s1 h1 => ih _ _ _ h1) fun s1 h1 => ih _ _ _ h1) fun s1 h1 => je_p7i (je_p7r h1) je_p7l)) je_p7l))))))
  | F + 1, 1, o, s, h => by
    have ih := je_p7s (n := n) (t := t) (D := D) F
    unfold jx_qs
    exact je_p7i (je_p7b (ih _ _ _ h) fun s1 h1 => ih _ _ _ ((je_p7q _ _ _).trans h1)) (je_p7r h)
  | F + 1, md + 2, o, s, h => by
    have ih := je_p7s (n := n) (t := t) (D := D) F
    unfold jx_qs
    exact je_p7i (je_p7b (je_p7b (ih _ _ _ h) fun s1 h1 => ih _ _ _ h1) fun s1 h1 => ih _ _ _ ((je_p7q _ _ _).trans h1)) (je_p7r h)
theorem je_p7m {n : Nat} {t : Nat → Int} {D : qm_M} {F o : Nat} {s : Nat × Bool × qm_M} (h : s.2.2 11 7 = D 11 7) : je_p7 D (jx_sum n t F o s) := by
  unfold jx_sum
  exact je_p7b (je_p7b (je_p7s _ _ _ _ h) fun s1 h1 => je_p7s _ _ _ _ h1) fun s1 h1 => je_p7s _ _ _ _ h1
theorem je_p7e {n : Nat} {t : Nat → Int} {D : qm_M} : ∀ (F md o : Nat) (s : Nat × Bool × qm_M), s.2.2 11 7 = D 11 7 → je_p7 D (jx_qe n t F md o s)
  | 0, _, _, _, _ => je_p7l
  | F + 1, 0, o, s, h => by
    have ih := je_p7e (n := n) (t := t) (D := D) F
    unfold jx_qe jx_cq
    exact je_p7i (je_p7r ((je_p7q _ _ _).trans h)) (je_p7i (je_p7t je_p7l (je_p7b (ih _ _ _ h) fun s1 h1 => je_p7r ((je_p7q _ _ _).trans h1))) (je_p7i (je_p7t je_p7l (je_p7b (je_p7b (je_p7b (ih _ _ _ h) fun s1 h1 => ih _ _ _ h1) fun s1 h1 => ih _ _ _ h1) fun s1 h1 => je_p7i (je_p7r h1) je_p7l)) (je_p7b (je_p7m h) fun s1 h1 => je_p7i (je_p7b (je_p7m h1) fun s2 h2 => je_p7r ((je_p7q _ _ _).trans h2)) je_p7l)))
  | F + 1, 1, o, s, h => by
    have ih := je_p7e (n := n) (t := t) (D := D) F
    unfold jx_qe
    exact je_p7i (je_p7b (ih _ _ _ h) fun s1 h1 => ih _ _ _ ((je_p7q _ _ _).trans h1)) (je_p7r h)
  | F + 1, md + 2, o, s, h => by
    have ih := je_p7e (n := n) (t := t) (D := D) F
    unfold jx_qe
    exact je_p7i (je_p7b (je_p7b (ih _ _ _ h) fun s1 h1 => ih _ _ _ h1) fun s1 h1 => ih _ _ _ ((je_p7q _ _ _).trans h1)) (je_p7r h)
theorem je_p7a {n : Nat} {t : Nat → Int} {D : qm_M} : je_p7 D (jx_ask n t D) := by
  unfold jx_ask jx_tst
  exact je_p7t je_p7l (je_p7b (je_p7t (je_p7b (je_p7b (je_p7e _ _ _ _ rfl) fun s1 h1 => je_p7e _ _ _ _ h1) fun s1 h1 => je_p7e _ _ _ _ h1) (je_p7m rfl)) fun s1 h1 => je_p7t (je_p7r h1) je_p7l)
/-! ===== a row told, the class's, whole ===== -/
section
variable {L d : Nat} {nc nr : Nat} {lm : Int} {sd : Nat → Int} {th T : Nat → Nat → Int} {r : Nat} {Q : Int → qm_M → Prop}
theorem js_1216 {D μ0 : qm_M} {c : Nat} {v : Int} (hO : jd_ok nc nr lm sd th T) (hr : r < nr) (hc6 : c ≤ 1600) (hB : jc_belt nc nr lm sd th T μ0) (h42 : μ0 42 = D 42) (h43 : μ0 43 = D 43) (h5 : μ0 11 5 = (c : Int)) : ∀ (k i : Nat) (P : List Int) (μ : qm_M) (w3 w4 w6 : qm_V), i + k = c → je_all P → je_run nc sd th T r D k i P = some [v] → jc_ev μ0 μ → μ 11 6 = (P.length : Int) → jd_pile (μ 44) P → P.length ≤ 100 → (∀ μ', jc_ev μ0 μ' → Q v μ') → qm_W (qb_T L) (d + 6) 1216 7 [qm_P 11, qm_I (r : Int), qm_I (i : Int), w3, w4, none, w6, none] [] μ (fun v μ' => ∃ r, v = some (.inr (.inl r)) ∧ Q r μ')
  | 0, i, P, μ, w3, w4, w6, hi, hP, hrun, hev, h6, hp, hl, H => by
    have e : P = [v] := Option.some.inj hrun
    subst e
    refine b1216_7 μ _ _ _ _ _ _ ?_
    rw [hev.2 5 (by decide), h5]
    exact ⟨by omega, by omega, fun _ => js_1215 (P := []) h6 hp (by decide) fun μ' e1 _ _ => ⟨_, rfl, H μ' (jc_evt hev e1)⟩, fun q => by omega⟩
  | k + 1, i, P, μ, w3, w4, w6, hi, hP, hrun, hev, h6, hp, hl, H => by
    have hnr := hO.2.1
    have hrun' : (je_step nc sd th T r (D 42 i) (D 43 i) P).bind (je_run nc sd th T r D k (i + 1)) = some [v] := hrun
    cases hst : je_step nc sd th T r (D 42 i) (D 43 i) P with
    | none => rw [hst] at hrun'; cases hrun'
    | some P1 =>
      rw [hst] at hrun'
      have hP1 := je_stepn hO hr hst hP
      have ih := fun (μ' : qm_M) (w3 w4 w6 : qm_V) (hev' : jc_ev μ0 μ') (h6' : μ' 11 6 = (P1.length : Int)) (hp' : jd_pile (μ' 44) P1) (hl' : P1.length ≤ 100) => js_1216 hO hr hc6 hB h42 h43 h5 k (i + 1) P1 μ' w3 w4 w6 (by omega) hP1 hrun' hev' h6' hp' hl' H
      have e42 : μ 42 i = D 42 i := by rw [hev.1 42 (by decide) (by decide), h42]
      have e43 : μ 43 i = D 43 i := by rw [hev.1 43 (by decide) (by decide), h43]
      have hB' := jc_evb hev hB
      have nx : ∀ (μ' : qm_M) (x3 : Int) (w4 w6 : qm_V), jc_ev μ0 μ' → μ' 11 6 = (P1.length : Int) → jd_pile (μ' 44) P1 → P1.length ≤ 100 → qm_W (qb_T L) (d + 6) 1216 109 [qm_P 11, qm_I (r : Int), qm_I (i : Int), qm_I x3, w4, none, w6, none] [] μ' (fun v μ' => ∃ r, v = some (.inr (.inl r)) ∧ Q r μ') := fun μ' x3 w4 w6 a1 a2 a3 a4 => b1216_109 μ' _ _ _ _ _ _ (by rw [jl_cs]; exact ih μ' _ _ _ a1 a2 a3 a4)
      refine b1216_7 μ _ _ _ _ _ _ ?_
      rw [hev.2 5 (by decide), h5]
      refine ⟨by omega, by omega, fun q => by omega, fun _ => js_401i i rfl (by decide) rfl (by omega) ?_⟩
      rw [e42]
      generalize hx : D 42 i = x at hst ⊢
      generalize hy : D 43 i = y at hst e43
      unfold je_step at hst
      by_cases c0 : x = 0
      · rw [if_pos c0] at hst
        by_cases g : P.length < 100 ∧ 0 ≤ y ∧ y ≤ 9999
        · rw [if_pos g] at hst
          have e := Option.some.inj hst
          subst e
          refine ⟨by omega, fun _ => js_401i i rfl (by decide) rfl (by omega) ?_, fun q => absurd c0 q⟩
          rw [e43]
          exact ⟨by omega, js_1214 h6 hp g.1 fun μ1 e1 a6 ap => nx μ1 _ _ _ (jc_evt hev e1) a6 ap (by show P.length + 1 ≤ 100; omega)⟩
        · rw [if_neg g] at hst; cases hst
      rw [if_neg c0] at hst
      by_cases c3 : x ≤ 3
      · rw [if_pos c3] at hst
        by_cases g : P.length < 100 ∧ 1 ≤ x
        · rw [if_pos g] at hst
          have e := Option.some.inj hst
          subst e
          exact ⟨by omega, fun q => absurd q c0, fun _ => ⟨by omega, fun q => by omega, fun _ => js_1217 hB' hO hr ⟨g.2, c3⟩ (js_1214 h6 hp g.1 fun μ1 e1 a6 ap => nx μ1 _ _ _ (jc_evt hev e1) a6 ap (by show P.length + 1 ≤ 100; omega))⟩⟩
        · rw [if_neg g] at hst; cases hst
      rw [if_neg c3] at hst
      by_cases c7 : x ≤ 7
      · rw [if_pos c7] at hst
        cases P with
        | nil => cases hst
        | cons u P =>
          have e := Option.some.inj hst
          subst e
          have hl' : P.length + 1 ≤ 100 := hl
          have hu := hP u (List.mem_cons_self ..)
          refine ⟨by omega, fun q => absurd q c0, fun _ => ⟨by omega, fun _ => ⟨by omega, fun q => by omega, fun _ => js_1215 h6 hp (by omega) fun μ1 e1 a6 ap => ?_⟩, fun q => by omega⟩⟩
          have hev1 := jc_evt hev e1
          exact js_1218 (jc_evb hev1 hB) hO hr ⟨by omega, c7⟩ hu (js_1214 a6 ap (by omega) fun μ2 e2 b6 bp => nx μ2 _ _ _ (jc_evt hev1 e2) b6 bp hl')
      rw [if_neg c7] at hst
      by_cases c8 : x = 8
      · rw [if_pos c8] at hst
        cases P with
        | nil => cases hst
        | cons u P =>
          dsimp only at hst
          by_cases g : je_b u
          · rw [if_pos g] at hst
            have e := Option.some.inj hst
            subst e
            have hl' : P.length + 1 ≤ 100 := hl
            refine ⟨by omega, fun q => absurd q c0, fun _ => ⟨by omega, fun _ => ⟨by omega, fun q => by omega, fun _ => js_1215 h6 hp (by omega) fun μ1 e1 a6 ap => ?_⟩, fun q => by omega⟩⟩
            have hev1 := jc_evt hev e1
            rw [c8]
            exact js_1218n g (js_1214 a6 ap (by omega) fun μ2 e2 b6 bp => nx μ2 _ _ _ (jc_evt hev1 e2) b6 bp hl')
          · rw [if_neg g] at hst; cases hst
      rw [if_neg c8] at hst
      cases P with
      | nil => cases hst
      | cons w P =>
        cases P with
        | nil => cases hst
        | cons u P =>
          dsimp only at hst
          by_cases g : x ≤ 17 ∨ (x ≤ 19 ∧ je_b u ∧ je_b w)
          · rw [if_pos g] at hst
            have e := Option.some.inj hst
            subst e
            have hl' : P.length + 1 + 1 ≤ 100 := hl
            have hw := hP w (List.mem_cons_self ..)
            have hu := hP u (List.mem_cons_of_mem _ (List.mem_cons_self ..))
            have hx19 : x ≤ 19 := by rcases g with g | g <;> omega
            refine ⟨by omega, fun q => absurd q c0, fun _ => ⟨by omega, fun _ => ⟨by omega, fun _ => js_1215 (P := u :: P) h6 hp (by show P.length + 1 < 100; omega) fun μ1 e1 a6 ap => ?_, fun q => by omega⟩, fun q => by omega⟩⟩
            refine js_1215 (P := P) a6 ap (by omega) fun μ2 e2 b6 bp => ?_
            have hev2 := jc_evt (jc_evt hev e1) e2
            exact js_1220 hu hw (by omega) g (js_1214 b6 bp (by omega) fun μ3 e3 c6 cp => nx μ3 _ _ _ (jc_evt hev2 e3) c6 cp (by show P.length + 1 ≤ 100; omega))
          · rw [if_neg g] at hst; cases hst
end
