/-! ===== text, the reference's, whole ===== -/
def jd_cpi (μ : qm_M) (a o i : Nat) : qm_M := fun c k => if c = a ∧ o ≤ k ∧ k < o + i then μ a (k - o) else μ c k
theorem jl_cpi0 (μ : qm_M) (a o : Nat) : jd_cpi μ a o 0 = μ := by funext c k; unfold jd_cpi; rw [if_neg (by omega)]
theorem jl_cpin {μ : qm_M} {a o i c : Nat} (h : c ≠ a) : jd_cpi μ a o i c = μ c := by funext k; unfold jd_cpi; rw [if_neg (fun z => h z.1)]
theorem jl_cpir {μ : qm_M} {a o i k : Nat} (h : k < i) : jd_cpi μ a o i a (o + k) = μ a k := by unfold jd_cpi; rw [if_pos ⟨rfl, by omega, by omega⟩, show o + k - o = k by omega]
theorem jl_cpil {μ : qm_M} {a o i k : Nat} (h : k < o) : jd_cpi μ a o i a k = μ a k := by unfold jd_cpi; rw [if_neg (by omega)]
theorem jl_cpi1 (μ : qm_M) {a o i : Nat} (h : i < o) : qm_set (jd_cpi μ a o i) a (o + i) (jd_cpi μ a o i a i) = jd_cpi μ a o (i + 1) := by
  rw [jl_cpil h]
  funext c k
  by_cases q : c = a
  · subst q
    by_cases q2 : k = o + i
    · subst q2
      rw [jl_ss, jl_cpir (by omega)]
    · rw [jl_sk _ _ _ q2]
      unfold jd_cpi
      by_cases q3 : o ≤ k ∧ k < o + i
      · rw [if_pos ⟨rfl, q3⟩, if_pos ⟨rfl, by omega, by omega⟩]
      · rw [if_neg (fun z => q3 z.2), if_neg (fun z => q3 (by omega))]
  · rw [jl_sn _ _ _ q, jl_cpin q, jl_cpin q]
theorem jg_cpi {fs l : List Nat} {μ μ' : qm_M} {a o i : Nat} (h : jd_fm fs l μ μ') (ha : l.contains a = true) (h13 : Nat.beq 13 a = false) : jd_fm fs l μ (jd_cpi μ' a o i) := by
  have n13 : (13 : Nat) ≠ a := fun z => by rw [← z] at h13; exact absurd h13 (by decide)
  refine ⟨fun c hc hl => ?_, fun k hk => ?_⟩
  · rw [jl_cpin (fun z => by rw [z, ha] at hl; cases hl)]; exact h.1 c hc hl
  · rw [jl_cpin n13]; exact h.2 k hk
section
variable {L d n : Nat} {t : Nat → Int} {b : Nat} {m : Bool} {D μ0 μ : qm_M} {Q : Int → qm_M → Prop} {V : qm_M → Prop} {c0 c1 c2 : Nat}
theorem js_2433 (hI : jx_inv D c0 c1 c2) (h : jm_at μ0 n t b m D c0 c1 c2 μ) (H : ∀ nr sp μ', jd_wst c1 (D 4 4) (jx_T D) (D 4 5).toNat nr sp → jd_ok c1 nr (D 4 4) (D 26) (jx_th D) (jx_T D) → jd_fm [30, 35, 37, 39] [59, 60, 61, 62, 63, 67, 69] μ μ' → jm_belt c1 nr (D 4 4) (D 26) (jx_th D) (jx_T D) μ' → (μ' 59 3 = (c0 : Int) ∧ μ' 59 4 = (c1 : Int) ∧ μ' 59 5 = (c2 : Int)) → ((∀ i, i < c0 → jx_nm (D 23 i) (μ' 60 (24 + (8 * 0 + i)))) ∧ (∀ i, i < c1 → jx_nm (D 24 i) (μ' 60 (24 + (8 * 1 + i)))) ∧ ∀ i, i < c2 → jx_nm (D 25 i) (μ' 60 (24 + (8 * 2 + i)))) → (∀ p, p < c2 → μ' 62 (6 + p) = D 28 p) → μ' 13 30 = D 4 5 → μ' 13 39 = 0 → μ' 69 0 = 0 → μ' 69 1 = 0 → μ' 13 35 = sp → V μ') : qm_CV (qb_T L) (d + 3) 2433 [qm_P 13] μ V := by
  obtain ⟨⟨d1, d2, d3, d4, d5, d6, d7⟩, i2, ⟨c, i3, i3b⟩, i4, i5, i6, i7, i8, i9, i10⟩ := id hI
  obtain ⟨h1, h2, h3, ⟨⟨e0, e1, e2⟩, n0, n1, n2⟩, ⟨k1, k2⟩, ⟨l1, l2⟩, ⟨f1, f2, f3⟩, h8⟩ := id h
  have ei : (D 4 5).toNat = c := by rw [i3, Int.toNat_natCast]
  rw [ei] at H
  refine b2433_0 μ _ ?_
  refine jl_loop (S := fun i => qm_W (qb_T L) (d + 3) 2433 2 [qm_P 13, qm_I ((i : Nat) : Int)] [] (jd_cpi μ 59 3 i) (fun v μ' => v = none ∧ V μ')) 3 (fun i hi ih => ?_) ?_ |> fun z => by rw [jl_cpi0] at z; exact z
  · refine b2433_2 _ _ _ ⟨by omega, fun q => absurd q (by omega), fun _ => ⟨by omega, by omega, ?_⟩⟩
    rw [show ((3 : Int) + (i : Int)).toNat = 3 + i by omega, Int.toNat_natCast, jl_cpi1 μ hi, jl_cs]
    exact ih
  refine b2433_2 _ _ _ ⟨by decide, fun _ => ?_, fun q => absurd (by decide) q⟩
  refine jl_loop (S := fun i => qm_W (qb_T L) (d + 3) 2433 29 [qm_P 13, qm_I ((i : Nat) : Int)] [] (jd_cpi (jd_cpi μ 59 3 3) 60 24 i) (fun v μ' => v = none ∧ V μ')) 24 (fun i hi ih => ?_) ?_ |> fun z => by rw [jl_cpi0] at z; exact z
  · refine b2433_29 _ _ _ ⟨by omega, fun q => absurd q (by omega), fun _ => ⟨by omega, by omega, ?_⟩⟩
    rw [show ((24 : Int) + (i : Int)).toNat = 24 + i by omega, Int.toNat_natCast, jl_cpi1 _ hi, jl_cs]
    exact ih
  refine b2433_29 _ _ _ ⟨by decide, fun _ => ?_, fun q => absurd (by decide) q⟩
  refine jl_loop (S := fun i => qm_W (qb_T L) (d + 3) 2433 58 [qm_P 13, qm_I ((i : Nat) : Int)] [] (jd_cpi (jd_cpi (jd_cpi μ 59 3 3) 60 24 24) 61 40 i) (fun v μ' => v = none ∧ V μ')) 40 (fun i hi ih => ?_) ?_ |> fun z => by rw [jl_cpi0] at z; exact z
  · refine b2433_58 _ _ _ ⟨by omega, fun q => absurd q (by omega), fun _ => ⟨by omega, by omega, ?_⟩⟩
    rw [show ((40 : Int) + (i : Int)).toNat = 40 + i by omega, Int.toNat_natCast, jl_cpi1 _ hi, jl_cs]
    exact ih
  refine b2433_58 _ _ _ ⟨by decide, fun _ => ?_, fun q => absurd (by decide) q⟩
  refine jl_loop (S := fun i => qm_W (qb_T L) (d + 3) 2433 87 [qm_P 13, qm_I ((i : Nat) : Int)] [] (jd_cpi (jd_cpi (jd_cpi (jd_cpi μ 59 3 3) 60 24 24) 61 40 40) 62 6 i) (fun v μ' => v = none ∧ V μ')) 6 (fun i hi ih => ?_) ?_ |> fun z => by rw [jl_cpi0] at z; exact z
  · refine b2433_87 _ _ _ ⟨by omega, fun q => absurd q (by omega), fun _ => ⟨by omega, by omega, ?_⟩⟩
    rw [show ((6 : Int) + (i : Int)).toNat = 6 + i by omega, Int.toNat_natCast, jl_cpi1 _ hi, jl_cs]
    exact ih
  refine b2433_87 _ _ _ ⟨by decide, fun _ => ?_, fun q => absurd (by decide) q⟩
  have fr4 : jd_fm [] [59, 60, 61, 62] μ (jd_cpi (jd_cpi (jd_cpi (jd_cpi μ 59 3 3) 60 24 24) 61 40 40) 62 6 6) := jg_cpi (jg_cpi (jg_cpi (jg_cpi (jg_refl _ _ _) rfl rfl) rfl rfl) rfl rfl) rfl rfl
  have v59 : ∀ k, k < 3 → (jd_cpi (jd_cpi (jd_cpi (jd_cpi μ 59 3 3) 60 24 24) 61 40 40) 62 6 6) 59 (3 + k) = μ 59 k := fun k hk => by
    rw [jl_cpin (by decide), jl_cpin (by decide), jl_cpin (by decide), jl_cpir hk]
  have v60 : ∀ k, k < 24 → (jd_cpi (jd_cpi (jd_cpi (jd_cpi μ 59 3 3) 60 24 24) 61 40 40) 62 6 6) 60 (24 + k) = μ 60 k := fun k hk => by
    rw [jl_cpin (by decide), jl_cpin (by decide), jl_cpir hk, jl_cpin (by decide)]
  have v61 : ∀ k, k < 40 → (jd_cpi (jd_cpi (jd_cpi (jd_cpi μ 59 3 3) 60 24 24) 61 40 40) 62 6 6) 61 (40 + k) = μ 61 k := fun k hk => by
    rw [jl_cpin (by decide), jl_cpir hk, jl_cpin (by decide), jl_cpin (by decide)]
  have v62 : ∀ k, k < 6 → (jd_cpi (jd_cpi (jd_cpi (jd_cpi μ 59 3 3) 60 24 24) 61 40 40) 62 6 6) 62 (6 + k) = μ 62 k := fun k hk => by
    rw [jl_cpir hk, jl_cpin (by decide), jl_cpin (by decide), jl_cpin (by decide)]
  generalize jd_cpi (jd_cpi (jd_cpi (jd_cpi μ 59 3 3) 60 24 24) 61 40 40) 62 6 6 = μ4 at *
  rw [fr4.1 63 rfl rfl, f1, fr4.2 29 rfl, l1]
  -- all is told, nothing is woven yet
  have fr5 : jd_fm [30, 35, 37, 39] [59, 60, 61, 62, 63, 67, 69] μ (qm_set (qm_set (qm_set (qm_set (qm_set (qm_set (qm_set μ4 63 1 (D 4 4)) 13 30 (D 4 5)) 13 39 0) 69 0 0) 69 1 0) 13 37 0) 13 35 (-1)) := jg_f (jg_f (jg_c (jg_c (jg_f (jg_f (jg_c (jg_sub fr4 rfl rfl) rfl rfl) rfl) rfl) rfl rfl) rfl rfl) rfl) rfl
  have hB5 : jm_belt c1 0 (D 4 4) (D 26) (jx_th D) (jx_T D) (qm_set (qm_set (qm_set (qm_set (qm_set (qm_set (qm_set μ4 63 1 (D 4 4)) 13 30 (D 4 5)) 13 39 0) 69 0 0) 69 1 0) 13 37 0) 13 35 (-1)) := by
    have g : ∀ c, c ≠ 63 → c ≠ 13 → c ≠ 69 → (qm_set (qm_set (qm_set (qm_set (qm_set (qm_set (qm_set μ4 63 1 (D 4 4)) 13 30 (D 4 5)) 13 39 0) 69 0 0) 69 1 0) 13 37 0) 13 35 (-1)) c = μ4 c := fun c a1 a2 a3 => by
      rw [jl_sn _ _ _ a2, jl_sn _ _ _ a2, jl_sn _ _ _ a3, jl_sn _ _ _ a3, jl_sn _ _ _ a2, jl_sn _ _ _ a2, jl_sn _ _ _ a1]
    unfold jm_belt
    rw [g 59 (by decide) (by decide) (by decide), g 61 (by decide) (by decide) (by decide)]
    refine ⟨(v59 1 (by decide)).trans e1, ?_, Or.inl ?_, fun c hc => ?_, fun c k hc hk => ?_, fun r c hr => absurd hr (by omega)⟩
    · rw [jl_sk _ _ _ (by decide), jl_ss]; rfl
    · rw [jl_sn _ _ _ (by decide), jl_sn _ _ _ (by decide), jl_sn _ _ _ (by decide), jl_sn _ _ _ (by decide), jl_sn _ _ _ (by decide), jl_sn _ _ _ (by decide), jl_ss]
    · rw [v61 _ (by omega)]; exact (k1 c hc).1
    · rw [show 41 + 5 * c + k = 40 + (5 * c + 1 + k) by omega, v61 _ (by omega)]; exact (k1 c hc).2 k hk
  have w5 : ∀ (X : qm_M), X = (qm_set (qm_set (qm_set (qm_set (qm_set (qm_set (qm_set μ4 63 1 (D 4 4)) 13 30 (D 4 5)) 13 39 0) 69 0 0) 69 1 0) 13 37 0) 13 35 (-1)) → (X 13 30 = D 4 5 ∧ X 13 39 = 0 ∧ X 69 0 = 0 ∧ X 69 1 = 0 ∧ X 13 35 = -1 ∧ X 59 = μ4 59 ∧ X 60 = μ4 60 ∧ X 62 = μ4 62 ∧ X 64 = μ4 64 ∧ X 65 = μ4 65 ∧ X 13 29 = μ4 13 29) := fun X hX => by
    subst hX
    refine ⟨?_, ?_, ?_, ?_, jl_ss _ _ _ _, ?_, ?_, ?_, ?_, ?_, ?_⟩
    · rw [jl_sk _ _ _ (by decide), jl_sk _ _ _ (by decide), jl_sn _ _ _ (by decide), jl_sn _ _ _ (by decide), jl_sk _ _ _ (by decide), jl_ss]
    · rw [jl_sk _ _ _ (by decide), jl_sk _ _ _ (by decide), jl_sn _ _ _ (by decide), jl_sn _ _ _ (by decide), jl_ss]
    · rw [jl_sn _ _ _ (by decide), jl_sn _ _ _ (by decide), jl_sk _ _ _ (by decide), jl_ss]
    · rw [jl_sn _ _ _ (by decide), jl_sn _ _ _ (by decide), jl_ss]
    · rw [jl_sn _ _ _ (by decide), jl_sn _ _ _ (by decide), jl_sn _ _ _ (by decide), jl_sn _ _ _ (by decide), jl_sn _ _ _ (by decide), jl_sn _ _ _ (by decide), jl_sn _ _ _ (by decide)]
    · rw [jl_sn _ _ _ (by decide), jl_sn _ _ _ (by decide), jl_sn _ _ _ (by decide), jl_sn _ _ _ (by decide), jl_sn _ _ _ (by decide), jl_sn _ _ _ (by decide), jl_sn _ _ _ (by decide)]
    · rw [jl_sn _ _ _ (by decide), jl_sn _ _ _ (by decide), jl_sn _ _ _ (by decide), jl_sn _ _ _ (by decide), jl_sn _ _ _ (by decide), jl_sn _ _ _ (by decide), jl_sn _ _ _ (by decide)]
    · rw [jl_sn _ _ _ (by decide), jl_sn _ _ _ (by decide), jl_sn _ _ _ (by decide), jl_sn _ _ _ (by decide), jl_sn _ _ _ (by decide), jl_sn _ _ _ (by decide), jl_sn _ _ _ (by decide)]
    · rw [jl_sn _ _ _ (by decide), jl_sn _ _ _ (by decide), jl_sn _ _ _ (by decide), jl_sn _ _ _ (by decide), jl_sn _ _ _ (by decide), jl_sn _ _ _ (by decide), jl_sn _ _ _ (by decide)]
    · rw [jl_sk _ _ _ (by decide), jl_sk _ _ _ (by decide), jl_sn _ _ _ (by decide), jl_sn _ _ _ (by decide), jl_sk _ _ _ (by decide), jl_sk _ _ _ (by decide), jl_sn _ _ _ (by decide)]
  obtain ⟨w30, w39, w690, w691, w35, w59, w60, w62, w64, w65, w29⟩ := w5 _ rfl
  generalize qm_set (qm_set (qm_set (qm_set (qm_set (qm_set (qm_set μ4 63 1 (D 4 4)) 13 30 (D 4 5)) 13 39 0) 69 0 0) 69 1 0) 13 37 0) 13 35 (-1) = μ5 at *
  have fin : ∀ (nr : Nat) (sp : Int) (μ' : qm_M), jd_wst c1 (D 4 4) (jx_T D) c nr sp → jd_ok c1 nr (D 4 4) (D 26) (jx_th D) (jx_T D) → jd_fm [35, 37] [67] μ5 μ' → jm_belt c1 nr (D 4 4) (D 26) (jx_th D) (jx_T D) μ' → μ' 13 35 = sp → V μ' := fun nr sp μ' hw hO ff hB hsp => by
    refine H nr sp μ' hw hO (jg_trans fr5 (jg_sub ff rfl rfl)) hB ?_ ?_ ?_ ?_ ?_ ?_ ?_ hsp
    · rw [ff.1 59 rfl rfl, w59]; exact ⟨(v59 0 (by decide)).trans e0, (v59 1 (by decide)).trans e1, (v59 2 (by decide)).trans e2⟩
    · rw [ff.1 60 rfl rfl, w60]
      refine ⟨fun i hi => ?_, fun i hi => ?_, fun i hi => ?_⟩
      · rw [v60 _ (by omega)]; exact n0 i hi
      · rw [v60 _ (by omega)]; exact n1 i hi
      · rw [v60 _ (by omega)]; exact n2 i hi
    · intro p hp
      rw [ff.1 62 rfl rfl, w62, v62 _ (by omega)]; exact k2 p hp
    · rw [ff.2 30 rfl]; exact w30
    · rw [ff.2 39 rfl]; exact w39
    · rw [ff.1 69 rfl rfl]; exact w690
    · rw [ff.1 69 rfl rfl]; exact w691
  have x29 : μ5 13 29 = (c : Int) := by rw [w29, fr4.2 29 rfl, l1]; exact i3
  have hP : jd_pok (c2 : Int) (D 28) := fun p hp => i9 p (by omega)
  refine jl_loop (S := fun i => ∀ μ', jd_fm [35, 37] [67] μ5 μ' → jd_ok c1 i (D 4 4) (D 26) (jx_th D) (jx_T D) → jm_belt c1 i (D 4 4) (D 26) (jx_th D) (jx_T D) μ' → μ' 13 35 = -1 → (∀ j, j < i → jd_can c1 j (D 4 4) (jx_T D) (jx_T D j)) → qm_W (qb_T L) (d + 3) 2433 165 [qm_P 13, qm_I ((i : Nat) : Int)] [] μ' (fun v μ' => v = none ∧ V μ')) c (fun i hi ih μ' ff hOi hB hsp hcan => ?_) (fun μ' ff hOi hB hsp hcan => ?_) μ5 (jg_refl _ _ _) (jl_ok0 hI) hB5 w35 (fun j hj => absurd hj (by omega))
  · have hli := i2 i (by omega) (by rw [i3]; omega)
    rw [d3] at hli
    have e64 : μ' 64 i = D 29 i := by rw [ff.1 64 rfl rfl, w64, fr4.1 64 rfl rfl]; exact (l2 i (by omega) (by rw [i3]; omega)).1
    have e65 : μ' 65 i = D 30 i := by rw [ff.1 65 rfl rfl, w65, fr4.1 65 rfl rfl]; exact (l2 i (by omega) (by rw [i3]; omega)).2
    have hPm : ∀ p : Nat, (p : Int) < (c2 : Int) → μ' 62 (6 + p) = D 28 p := fun p hp => by rw [ff.1 62 rfl rfl, w62, v62 _ (by omega)]; exact k2 p (by omega)
    refine b2433_165 μ' _ _ ?_
    rw [ff.2 29 rfl, x29, hsp, Int.toNat_natCast, e64, e65]
    refine ⟨by omega, by omega, fun q => absurd q (by omega), fun _ => ⟨by decide, fun _ => ⟨by omega, by omega, ?_⟩, fun q => absurd rfl q⟩⟩
    refine js_2444 hB hOi (by omega) hP hPm ⟨by omega, by omega⟩ hli.2.1 (fun hc => ⟨by decide, fun q => absurd q (by decide), fun _ => ⟨by omega, by omega, ?_⟩⟩) (fun hc => ⟨by decide, fun _ => b2433_224 _ _ _ ?_, fun q => absurd rfl q⟩)
    · rw [e64, e65]
      refine js_2445 hB hOi (by omega) (by omega) hP hPm ⟨by omega, by omega⟩ hli.2.1 fun μ2 f2 hB2 => b2433_224 μ2 _ _ ?_
      have hO2 := jl_apok (u := jd_u (D 28) (D 29 i) (D 30 i)) hOi (by omega) (fun c _ => jl_u _ _ _ c) hc
      have eT : jd_u (D 28) (D 29 i) (D 30 i) = jx_T D i := rfl
      rw [eT] at hB2 hO2 hc
      rw [jl_apid] at hB2 hO2
      rw [jl_cs]
      refine ih μ2 (jg_trans ff (jg_sub f2 rfl rfl)) hO2 hB2 (by rw [f2.2 35 rfl]; exact hsp) fun j hj => ?_
      by_cases z : j = i
      · subst z; exact hc
      · exact hcan j (by omega)
    · have f7 : jd_fm [35] [] μ' (qm_set μ' 13 35 ((i : Nat) : Int)) := jg_f (jg_refl _ _ _) rfl
      have hB7 : jm_belt c1 i (D 4 4) (D 26) (jx_th D) (jx_T D) (qm_set μ' 13 35 ((i : Nat) : Int)) := by
        unfold jm_belt at *
        rw [f7.1 59 rfl rfl, f7.2 37 rfl, f7.1 63 rfl rfl, f7.1 61 rfl rfl, f7.1 67 rfl rfl]; exact hB
      have res : V (qm_set μ' 13 35 ((i : Nat) : Int)) := fin i _ _ ⟨by omega, hcan, Or.inr ⟨hi, rfl, hc⟩⟩ hOi (jg_trans ff (jg_sub f7 rfl rfl)) hB7 (jl_ss _ _ _ _)
      refine b2433_165 _ _ _ ?_
      rw [f7.2 29 rfl, ff.2 29 rfl, x29, jl_ss]
      exact ⟨by omega, by omega, fun q => ⟨rfl, res⟩, fun q => ⟨by omega, fun q2 => by omega, fun q2 => ⟨rfl, res⟩⟩⟩
  · refine b2433_165 μ' _ _ ?_
    rw [ff.2 29 rfl, x29]
    exact ⟨by omega, by omega, fun _ => ⟨rfl, fin c (-1) μ' ⟨Nat.le_refl _, hcan, Or.inl ⟨rfl, rfl⟩⟩ hOi ff hB hsp⟩, fun q => absurd q (by omega)⟩
end
