/-! ===== a row told, the reference's, whole ===== -/
theorem jm_evb {nc nr : Nat} {lm : Int} {sd : Nat → Int} {th T : Nat → Nat → Int} {fs l : List Nat} {μ0 μ : qm_M} (hM : jm_belt nc nr lm sd th T μ0) (hf : jd_fm fs l μ0 μ) (h1 : fs.contains 37 = false) (h2 : (l.contains 59 || l.contains 61 || l.contains 63 || l.contains 67) = false) : jm_belt nc nr lm sd th T μ := by
  rw [Bool.or_eq_false_iff, Bool.or_eq_false_iff, Bool.or_eq_false_iff] at h2
  obtain ⟨⟨⟨a, b⟩, c⟩, d⟩ := h2
  unfold jm_belt at *
  rw [hf.1 59 rfl a, hf.1 61 rfl b, hf.1 63 rfl c, hf.1 67 rfl d, hf.2 37 h1]
  exact hM
section
variable {L d : Nat} {nc nr : Nat} {lm : Int} {sd : Nat → Int} {th T : Nat → Nat → Int} {r : Nat} {μ : qm_M} {Q : Int → qm_M → Prop}
theorem js_2514 {x : Int} (hM : jm_belt nc nr lm sd th T μ) (hO : jd_ok nc nr lm sd th T) (hr : r < nr) (hx : 1 ≤ x ∧ x ≤ 3) (H : Q (je_row nc T r x) μ) : qm_CL (qb_T L) (d + 4) 2514 [qm_P 13, qm_I (x - 1), qm_I (r : Int)] μ Q := by
  have hn := hO.2.1
  unfold je_row at H
  refine b2514_0 μ _ _ _ ⟨by omega, fun q => ⟨by omega, _, rfl, ?_⟩, fun q => ?_, fun q1 q2 => ?_⟩
  · rw [if_neg (by omega), if_neg (by omega)] at H; exact H
  · rw [if_pos (by omega)] at H
    exact js_2520 hM hO hr (by decide) ⟨_, rfl, H⟩
  · rw [if_neg (by omega), if_pos (by omega)] at H
    exact js_2520 hM hO hr (by decide) ⟨_, rfl, H⟩
theorem js_2515 {x v : Int} (hM : jm_belt nc nr lm sd th T μ) (hO : jd_ok nc nr lm sd th T) (hr : r < nr) (hx : 4 ≤ x ∧ x ≤ 7) (hv : je_n v) (H : Q (je_of nc sd th T r x v) μ) : qm_CL (qb_T L) (d + 4) 2515 [qm_P 13, qm_I (x - 4), qm_L v, qm_I (r : Int)] μ Q := by
  have hn := hO.2.1
  have hn1 := hO.1
  have hofn := je_ofn (sd := sd) hO hr x v
  unfold je_n at hv
  unfold je_of at H hofn
  have hr64 : qm_r64 v ∧ qm_r64 0 ∧ qm_r64 ((nc : Int) - 1) := ⟨⟨by omega, by omega⟩, by decide, ⟨by omega, by omega⟩⟩
  have key : (0 ≤ v ∧ v ≤ (nc : Int) - 1) → ∃ k : Nat, v = (k : Int) ∧ k < nc ∧ v.toNat = k := fun z => ⟨v.toNat, by omega, by omega, rfl⟩
  refine b2515_0 μ _ _ _ _ ⟨by omega, fun q => js_2436 hM ⟨by omega, js_2401g hr64 (fun z => ⟨by decide, fun y => absurd y (by decide), fun _ => ?_⟩) (fun z => ⟨by decide, fun _ => ⟨_, rfl, ?_⟩, fun y => absurd rfl y⟩)⟩, fun q => js_2436 hM ⟨by omega, js_2401g hr64 (fun z => ⟨by decide, fun y => absurd y (by decide), fun _ => ?_⟩) (fun z => ⟨by decide, fun _ => ⟨_, rfl, ?_⟩, fun y => absurd rfl y⟩)⟩, fun q => js_2436 hM ⟨by omega, js_2401g hr64 (fun z => ⟨by decide, fun y => absurd y (by decide), fun _ => ?_⟩) (fun z => ⟨by decide, fun _ => ⟨_, rfl, ?_⟩, fun y => absurd rfl y⟩)⟩, fun q => js_2436 hM ⟨by omega, js_2401g hr64 (fun z => ⟨by decide, fun y => absurd y (by decide), fun _ => ?_⟩) (fun z => ⟨by decide, fun _ => ⟨_, rfl, ?_⟩, fun y => absurd rfl y⟩)⟩⟩
  · rw [if_pos (by omega), if_pos (by omega)] at H hofn
    obtain ⟨k, k1, k2, k3⟩ := key z
    rw [k3] at H hofn
    rw [k1]
    exact js_2448 hM hO hr k2 (by decide) ⟨by have e : jd_cell th T r k (2 * jd_is (¬ (0 : Int) = 0)) = jd_cell th T r k 0 := rfl; rw [e]; omega, _, rfl, H⟩
  · rw [if_neg (by omega), if_pos (by omega)] at H; exact H
  · rw [if_pos (by omega), if_neg (by omega), if_pos (by omega)] at H hofn
    obtain ⟨k, k1, k2, k3⟩ := key z
    rw [k3] at H hofn
    rw [k1]
    exact js_2448 hM hO hr k2 (by decide) ⟨by have e : jd_cell th T r k (2 * jd_is (¬ (1 : Int) = 0)) = jd_cell th T r k 2 := rfl; rw [e]; omega, _, rfl, H⟩
  · rw [if_neg (by omega), if_neg (by omega), if_pos (by omega)] at H; exact H
  · rw [if_pos (by omega), if_neg (by omega), if_neg (by omega), if_pos (by omega)] at H hofn
    obtain ⟨k, k1, k2, k3⟩ := key z
    rw [k3] at H hofn
    rw [k1]
    exact js_2449 hM hO hr k2 ⟨by omega, _, rfl, H⟩
  · rw [if_neg (by omega), if_neg (by omega), if_neg (by omega)] at H; exact H
  · rw [if_pos (by omega), if_neg (by omega), if_neg (by omega), if_neg (by omega)] at H hofn
    obtain ⟨k, k1, k2, k3⟩ := key z
    rw [k3] at H hofn
    rw [k1]
    exact js_2442 (m := r + 1) hM hO k2 rfl (by omega) ⟨by omega, _, rfl, H⟩
  · rw [if_neg (by omega), if_neg (by omega), if_neg (by omega)] at H; exact H
theorem js_2516 {D μ0 : qm_M} {c : Nat} {v : Int} (hO : jd_ok nc nr lm sd th T) (hr : r < nr) (hc6 : c ≤ 1600) (hM : jm_belt nc nr lm sd th T μ0) (hcod : ∀ i, i < c → jx_rel (D 42 i) (D 43 i) (μ0 91 i)) (h65 : μ0 13 65 = (c : Int)) : ∀ (k i : Nat) (P : List Int) (μ : qm_M) (w3 : qm_V), i + k = c → je_all P → je_run nc sd th T r D k i P = some [v] → jd_fm [71] [93] μ0 μ → μ 13 71 = (P.length : Int) → jd_pile (μ 93) P → P.length ≤ 100 → (∀ μ', jd_fm [71] [93] μ0 μ' → Q v μ') → qm_W (qb_T L) (d + 6) 2516 7 [qm_P 13, qm_I (r : Int), qm_I (i : Int), w3] [] μ (fun v μ' => ∃ r, v = some (.inr (.inl r)) ∧ Q r μ')
  | 0, i, P, μ, w3, hi, hP, hrun, hev, h6, hp, hl, H => by
    have e : P = [v] := Option.some.inj hrun
    subst e
    refine b2516_7 μ _ _ _ _ ?_
    rw [hev.2 65 rfl, h65]
    have p0 : μ 93 0 = v := hp.1
    exact ⟨by omega, by omega, fun _ => ⟨_, rfl, by rw [p0]; exact H μ hev⟩, fun q => by omega⟩
  | k + 1, i, P, μ, w3, hi, hP, hrun, hev, h6, hp, hl, H => by
    have hnr := hO.2.1
    have hrun' : (je_step nc sd th T r (D 42 i) (D 43 i) P).bind (je_run nc sd th T r D k (i + 1)) = some [v] := hrun
    cases hst : je_step nc sd th T r (D 42 i) (D 43 i) P with
    | none => rw [hst] at hrun'; cases hrun'
    | some P1 =>
      rw [hst] at hrun'
      have hP1 := je_stepn hO hr hst hP
      have nx : ∀ (μ' : qm_M) (x3 : Int), jd_fm [71] [93] μ0 μ' → μ' 13 71 = (P1.length : Int) → jd_pile (μ' 93) P1 → P1.length ≤ 100 → qm_W (qb_T L) (d + 6) 2516 162 [qm_P 13, qm_I (r : Int), qm_I (i : Int), qm_I x3] [] μ' (fun v μ' => ∃ r, v = some (.inr (.inl r)) ∧ Q r μ') := fun μ' x3 a1 a2 a3 a4 => b2516_162 μ' _ _ _ _ (by rw [jl_cs]; exact js_2516 hO hr hc6 hM hcod h65 k (i + 1) P1 μ' _ (by omega) hP1 hrun' a1 a2 a3 a4 H)
      have hrel := hcod i (by omega)
      have e91 : μ 91 i = μ0 91 i := by rw [hev.1 91 rfl rfl]
      have hM' := jm_evb hM hev rfl rfl
      refine b2516_7 μ _ _ _ _ ?_
      rw [hev.2 65 rfl, h65, Int.toNat_natCast, e91]
      generalize μ0 91 i = z at hrel e91 ⊢
      generalize D 42 i = x at hst hrel
      generalize D 43 i = y at hst hrel
      refine ⟨by omega, by omega, fun q => by omega, fun _ => ⟨by omega, ?_⟩⟩
      unfold je_step at hst
      unfold jx_rel at hrel
      have zr : -2147483648 ≤ z ∧ z < 2147483648 := by rcases hrel with q | q | q | q | q | q <;> omega
      by_cases c0 : x = 0
      · rw [if_pos c0] at hst
        by_cases g : P.length < 100 ∧ 0 ≤ y ∧ y ≤ 9999
        · rw [if_pos g] at hst
          have e := Option.some.inj hst
          subst e
          have fin : ∀ μ', jd_fm [71] [93] μ μ' → μ' 13 71 = ((y :: P).length : Int) → jd_pile (μ' 93) (y :: P) → qm_W (qb_T L) (d + 6) 2516 162 [qm_P 13, qm_I (r : Int), qm_I (i : Int), qm_I z] [] μ' (fun v μ' => ∃ r, v = some (.inr (.inl r)) ∧ Q r μ') := fun μ' f a6 ap => nx μ' _ (jg_trans hev f) a6 ap (by show P.length + 1 ≤ 100; omega)
          refine ⟨zr, fun q => ⟨zr, fun _ => ⟨zr, fun _ => ⟨zr, fun _ => js_2512 (v := 1) h6 hp (by omega) fun μ' f a6 ap => ?_, fun q2 => by omega⟩, fun q2 => by omega⟩, fun q2 => by omega⟩, fun q => ⟨by omega, js_2512 (v := z - 1000) h6 hp (by omega) fun μ' f a6 ap => ?_⟩⟩
          · have : y = 1 := by omega
            subst this
            exact fin μ' f a6 ap
          · have : y = z - 1000 := by omega
            rw [this] at fin
            exact fin μ' f a6 ap
        · rw [if_neg g] at hst; cases hst
      rw [if_neg c0] at hst
      by_cases c3 : x ≤ 3
      · rw [if_pos c3] at hst
        by_cases g : P.length < 100 ∧ 1 ≤ x
        · rw [if_pos g] at hst
          have e := Option.some.inj hst
          subst e
          have hz : z = 39 + x := by omega
          have hrw := je_rown hO hr x
          have ecl : je_cl (je_row nc T r x) = je_row nc T r x := by unfold je_cl; rw [if_neg (by omega), if_neg (by omega)]
          have ez : z - 40 = x - 1 := by omega
          rw [ez]
          refine ⟨zr, fun q => ⟨zr, fun _ => ⟨zr, fun q2 => by omega, fun _ => js_2514 hM' hO hr ⟨g.2, c3⟩ (js_2510 (by omega) ?_)⟩, fun q2 => by omega⟩, fun q => by omega⟩
          rw [ecl]
          exact js_2512 h6 hp (by omega) fun μ' f a6 ap => nx μ' _ (jg_trans hev f) a6 ap (by show P.length + 1 ≤ 100; omega)
        · rw [if_neg g] at hst; cases hst
      rw [if_neg c3] at hst
      by_cases c7 : x ≤ 7
      · rw [if_pos c7] at hst
        cases P with
        | nil => cases hst
        | cons u P =>
          have e := Option.some.inj hst
          subst e
          have hl' : P.length + 1 ≤ 100 := hl
          have hu := hP u (List.mem_cons_self ..)
          have hz : z = 56 + x := by omega
          have hofn := je_ofn (sd := sd) hO hr x u
          have ecl : je_cl (je_of nc sd th T r x u) = je_of nc sd th T r x u := by unfold je_cl; rw [if_neg (by omega), if_neg (by omega)]
          have ez : z - 60 = x - 4 := by omega
          have e1 : μ 13 71 - 1 = (P.length : Int) := by rw [h6]; show ((P.length + 1 : Nat) : Int) - 1 = _; omega
          have p1 : μ 93 P.length = u := hp.1
          rw [e1, Int.toNat_natCast, p1, ez]
          refine ⟨zr, fun q => ⟨zr, fun q2 => by omega, fun _ => ⟨by omega, js_2515 hM' hO hr ⟨by omega, c7⟩ hu (js_2510 (by omega) ⟨by omega, ?_⟩)⟩⟩, fun q => by omega⟩
          rw [ecl]
          refine nx _ _ (jg_c hev rfl rfl) ?_ ⟨jl_ss _ _ _ _, jd_pilec P (fun i hi => ?_) hp.2⟩ hl'
          · rw [jl_sn _ _ _ (by decide)]; exact h6
          · rw [jl_sk _ _ _ (by omega)]
      rw [if_neg c7] at hst
      by_cases c8 : x = 8
      · rw [if_pos c8] at hst
        cases P with
        | nil => cases hst
        | cons u P =>
          dsimp only at hst
          by_cases g : je_b u
          · rw [if_pos g] at hst
            have e := Option.some.inj hst
            subst e
            have hl' : P.length + 1 ≤ 100 := hl
            have hz : z = 12 := by omega
            have e1 : μ 13 71 - 1 = (P.length : Int) := by rw [h6]; show ((P.length + 1 : Nat) : Int) - 1 = _; omega
            have p1 : μ 93 P.length = u := hp.1
            rw [e1, Int.toNat_natCast, p1]
            refine ⟨zr, fun q => ⟨zr, fun _ => ⟨zr, fun _ => ⟨zr, fun q2 => by omega, fun _ => ⟨zr, fun _ => ⟨by omega, by omega, ?_⟩, fun q2 => by omega⟩⟩, fun q2 => by omega⟩, fun q2 => by omega⟩, fun q => by omega⟩
            refine nx _ _ (jg_c hev rfl rfl) ?_ ⟨jl_ss _ _ _ _, jd_pilec P (fun i hi => ?_) hp.2⟩ hl'
            · rw [jl_sn _ _ _ (by decide)]; exact h6
            · rw [jl_sk _ _ _ (by omega)]
          · rw [if_neg g] at hst; cases hst
      rw [if_neg c8] at hst
      cases P with
      | nil => cases hst
      | cons w P =>
        cases P with
        | nil => cases hst
        | cons u P =>
          dsimp only at hst
          by_cases g : x ≤ 17 ∨ (x ≤ 19 ∧ je_b u ∧ je_b w)
          · rw [if_pos g] at hst
            have e := Option.some.inj hst
            subst e
            have hl' : P.length + 1 + 1 ≤ 100 := hl
            have hw := hP w (List.mem_cons_self ..)
            have hu := hP u (List.mem_cons_of_mem _ (List.mem_cons_self ..))
            have hx19 : x ≤ 19 := by rcases g with g | g <;> omega
            have hz : z = x - 8 := by omega
            have h62 : μ 13 71 = (P.length : Int) + 2 := by rw [h6]; show ((P.length + 1 + 1 : Nat) : Int) = _; omega
            refine ⟨zr, fun q => ⟨zr, fun _ => ⟨zr, fun _ => ⟨zr, fun q2 => by omega, fun _ => ⟨zr, fun q2 => by omega, fun _ => ?_⟩⟩, fun q2 => by omega⟩, fun q2 => by omega⟩, fun q => by omega⟩
            have := js_2513 (L := L) (d := d + 4) (V := fun μ1 => qm_W (qb_T L) (d + 6) 2516 162 [qm_P 13, qm_I (r : Int), qm_I (i : Int), qm_I z] [] μ1 (fun v μ' => ∃ r, v = some (.inr (.inl r)) ∧ Q r μ')) hu hw (by omega) g h62 hp (by omega) fun μ' f a6 ap => nx μ' _ (jg_trans hev f) a6 ap (by show P.length + 1 ≤ 100; omega)
            rw [← hz] at this
            exact this
          · rw [if_neg g] at hst; cases hst
end
