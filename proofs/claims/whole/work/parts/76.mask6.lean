/-! ===== a question's parts, the reference's ===== -/
section
variable {L d n : Nat} {t : Nat → Int} {B a b : Nat} {m : Bool} {D μ0 μ : qm_M} {o s : Nat} {S : Nat → Int} {V : qm_M → Prop} {x1 : Int} {e : Int × Int} {R : qm_V → qm_M → Prop}
/-- what a part begins with -/
theorem jl_Pscan {w2 w3 w4 w5 : qm_V} (hk : jd_tok n t) (h : jm_qt μ0 n t a b m D o s S 0 jd_z μ)
    (Ho : jx_isM n t b 40 → ∀ (r2 : Int) μ2, jm_qt μ0 n t a b m D o s S 0 jd_z μ2 → μ2 13 2 = ((jx_st n t b : Nat) : Int) → qm_CV (qb_T L) (d + 4) 2492 [qm_P 13, qm_I 20, qm_I ((jx_st n t b : Nat) : Int)] μ2 (fun μ3 => qm_W (qb_T L) (d + 5) 2502 181 [qm_P 13, qm_I 1, qm_I 40, qm_I r2, w4, w5] [] (qm_set μ3 13 2 (μ3 13 2 + 1)) R))
    (Hp : (jx_isW n t b m qb_tx_1024 ∨ jx_isW n t b m qb_tx_1025) → ∀ (r1 r2 : Int) μ2, jm_qt μ0 n t a b m D o s S 0 jd_z μ2 → μ2 13 2 = ((jx_st n t b : Nat) : Int) → qm_W (qb_T L) (d + 5) 2502 77 [qm_P 13, qm_I 1, qm_I r1, qm_I r2, w4, w5] [] μ2 R)
    (Hc : ¬ (jx_isW n t b m qb_tx_1024 ∨ jx_isW n t b m qb_tx_1025) → ∀ (r1 r2 : Int) μ2, 3 ≤ r2 → jx_w7 n t b m r2 → jm_qt μ0 n t a b m D o s S 0 jd_z μ2 → μ2 13 2 = ((jx_st n t b : Nat) : Int) → qm_CV (qb_T L) (d + 4) 2492 [qm_P 13, qm_I ((60 + r2) - 3), qm_I ((jx_st n t b : Nat) : Int)] μ2 (fun μ5 => qm_CV (qb_T L) (d + 4) 2500 [qm_P 13, qm_I r2] μ5 (fun μ6 => qm_W (qb_T L) (d + 5) 2502 181 [qm_P 13, qm_I 1, qm_I r1, qm_I r2, w4, w5] [] μ6 R)))
    (Hn : ¬ jx_isM n t b 40 → ¬ (jx_isW n t b m qb_tx_1024 ∨ jx_isW n t b m qb_tx_1025) → ¬ (jx_isW n t b m qb_tx_1026 ∨ jx_isW n t b m qb_tx_1027 ∨ jx_isW n t b m qb_tx_1028 ∨ jx_isW n t b m qb_tx_1029) → ∀ (r1 r2 : Int) μ2, jm_qt μ0 n t a b m D o s S 0 jd_z μ2 → μ2 13 2 = ((jx_st n t b : Nat) : Int) → qm_W (qb_T L) (d + 5) 2502 184 [qm_P 13, qm_I 0, qm_I r1, qm_I r2, w4, w5] [] μ2 R) :
    qm_W (qb_T L) (d + 5) 2502 2 [qm_P 13, qm_I 1, w2, w3, w4, w5] [] μ R := by
  have hn := hk.1
  have hb := h.2.2.1
  have cont : ∀ (x : Int) μ1, jm_qt μ0 n t a b m D o s S 0 jd_z μ1 → (x = 40 ↔ jx_isM n t b 40) → qm_r32 x → qm_CI (qb_T L) (d + 4) 2499 [qm_P 13, qm_I 3, qm_I 7] μ1 (fun r2 μ2 => (-2147483648 ≤ x ∧ x < 2147483648) ∧ ((x = 40 → (qm_CV (qb_T L) (d + 4) 2492 [qm_P 13, qm_I 20, qm_I (μ2 13 2)] μ2 (fun μ3 => qm_W (qb_T L) (d + 5) 2502 181 [qm_P 13, qm_I 1, qm_I x, qm_I r2, w4, w5] [] (qm_set μ3 13 2 ((μ3 13 2) + 1)) R))) ∧ (¬ (x = 40) → (qm_CI (qb_T L) (d + 4) 2408 [qm_P 13, qm_P 82] μ2 (fun r3 μ3 => (-2147483648 ≤ r3 ∧ r3 < 2147483648) ∧ ((r3 = 0 → (qm_CI (qb_T L) (d + 4) 2408 [qm_P 13, qm_P 83] μ3 (fun r4 μ4 => (-2147483648 ≤ r4 ∧ r4 < 2147483648) ∧ ((r4 = 0 → ((-2147483648 ≤ r2 ∧ r2 < 2147483648) ∧ ((r2 = (-1) → (qm_W (qb_T L) (d + 5) 2502 181 [qm_P 13, qm_I 0, qm_I x, qm_I r2, w4, w5] [] μ4 R)) ∧ (¬ (r2 = (-1)) → (qm_CV (qb_T L) (d + 4) 2492 [qm_P 13, qm_I ((60 + r2) - 3), qm_I (μ4 13 2)] μ4 (fun μ5 => qm_CV (qb_T L) (d + 4) 2500 [qm_P 13, qm_I r2] μ5 (fun μ6 => qm_W (qb_T L) (d + 5) 2502 181 [qm_P 13, qm_I 1, qm_I x, qm_I r2, w4, w5] [] μ6 R))))))) ∧ (¬ (r4 = 0) → (qm_W (qb_T L) (d + 5) 2502 77 [qm_P 13, qm_I 1, qm_I x, qm_I r2, w4, w5] [] μ4 R)))))) ∧ (¬ (r3 = 0) → (qm_W (qb_T L) (d + 5) 2502 77 [qm_P 13, qm_I 1, qm_I x, qm_I r2, w4, w5] [] μ3 R)))))))) := fun x μ1 h1 hx hxr => by
    refine js_2499 (d := d + 1) (by decide) (by decide) hk h1 fun k μ2 hw h2 a2 => ⟨hxr, fun q => ?_, fun q => ?_⟩
    · subst q
      rw [a2]
      exact Ho (hx.mp rfl) _ μ2 h2 a2
    · have hM : ¬ jx_isM n t b 40 := fun z => q (hx.mpr z)
      have hkb := jl_w7b hw
      refine js_2408q (d := d + 3) (l' := qb_tx_1024) (by decide) rfl rfl hk h2 (fun z μ3 h3 a3 => ⟨by decide, fun q => absurd q (by decide), fun _ => Hp (Or.inl z) _ _ μ3 h3 a3⟩) (fun z μ3 h3 a3 => ⟨by decide, fun _ => ?_, fun q => absurd rfl q⟩)
      refine js_2408q (d := d + 3) (l' := qb_tx_1025) (by decide) rfl rfl hk h3 (fun z μ4 h4 a4 => ⟨by decide, fun q => absurd q (by decide), fun _ => Hp (Or.inr z) _ _ μ4 h4 a4⟩) (fun z' μ4 h4 a4 => ⟨by decide, fun _ => ?_, fun q => absurd rfl q⟩)
      have hno : ¬ (jx_isW n t b m qb_tx_1024 ∨ jx_isW n t b m qb_tx_1025) := by rintro (y | y); exact z y; exact z' y
      by_cases y : 3 ≤ k ∧ k < 7
      · rw [if_pos y, a4]
        exact ⟨by omega, fun w => by omega, fun _ => Hc hno x k μ4 y.1 hw h4 a4⟩
      · rw [if_neg y]
        refine ⟨by decide, fun _ => b2502_181 μ4 _ _ _ _ _ _ (b2502_2 μ4 _ _ _ _ _ _ ⟨by decide, fun _ => Hn hM hno ?_ x _ μ4 h4 a4, fun w => absurd rfl w⟩), fun w => absurd rfl w⟩
        unfold jx_w7 at hw
        rcases hw with w | w | w | w | w | w | w | w
        · rintro (v | v | v | v)
          · exact w.2.2.2.2.1 v
          · exact w.2.2.2.2.2.1 v
          · exact w.2.2.2.2.2.2.1 v
          · exact w.2.2.2.2.2.2.2 v
        · rintro (v | v | v | v) <;> exact absurd (jx_isWu w.2 v) (by decide)
        · rintro (v | v | v | v) <;> exact absurd (jx_isWu w.2 v) (by decide)
        · rintro (v | v | v | v) <;> exact absurd (jx_isWu w.2 v) (by decide)
        · have := w.1; omega
        · have := w.1; omega
        · have := w.1; omega
        · have := w.1; omega
  refine b2502_2 μ _ _ _ _ _ _ ⟨by decide, fun q => absurd q (by decide), fun _ => ?_⟩
  rw [h.2.1.2.2.2.2.1]
  refine ⟨by decide, fun _ => js_2407 hk hb h.2.1 (fun hlt μ1 f1 hp1 a1 => ?_) (fun hen μ1 f1 hp1 a1 => ?_), fun z => absurd rfl z⟩
  · have hbx := hk.2 _ hlt
    exact cont _ μ1 (jl_qtm h (jg_sub f1 rfl rfl) hp1 (Nat.le_refl _) hb) ⟨fun q => ⟨hlt, q⟩, fun z => z.2⟩ (by omega)
  · exact cont _ μ1 (jl_qtm h (jg_sub f1 rfl rfl) hp1 (Nat.le_refl _) hb) ⟨fun q => absurd q (by decide), fun z => by have := z.1; omega⟩ (by decide)
/-- a part that opens nothing -/
theorem jl_P184 {w2 w3 w4 w5 : qm_V} {x : Int} (hk : jd_tok n t) (h : jm_qt μ0 n t a b m D o s S 0 jd_z μ)
    (HN : jx_isN n t b m → jx_de n t b - jx_st n t b ≤ 4 → ∀ μ', jm_qt μ0 n t a (jx_de n t b) true (jx_qa D 0 (jd_n10 (fun i => t (jx_st n t b + i) - 48) (jx_de n t b - jx_st n t b))) o s S 0 jd_z μ' → jq_E L d x1 V μ')
    (HW : ∀ k, 0 ≤ k → k < 3 → jx_w7 n t b m k → ∀ μ', jm_qt μ0 n t a (jx_we n t b) true (jx_qa D (k + 1) 0) o s S 0 jd_z μ' → jq_E L d x1 V μ')
    (H0 : ∀ p, ((¬ jx_isN n t b m ∧ ¬ (jx_isW n t b m qb_tx_1021 ∨ jx_isW n t b m qb_tx_1022 ∨ jx_isW n t b m qb_tx_1023) ∧ p = ((jx_st n t b : Nat) : Int)) ∨ (jx_isN n t b m ∧ ¬ jx_de n t b - jx_st n t b ≤ 4 ∧ p = ((jx_st n t b + 4 : Nat) : Int))) → ∀ μ', jm_qn μ0 n t (1, p) μ' → V μ') :
    qm_W (qb_T L) (d + 5) 2502 184 [qm_P 13, qm_I x, w2, w3, w4, w5] [] μ (fun v μ1 => v = none ∧ jq_V2 L d x1 V μ1) := by
  have hn := hk.1
  have hb := h.2.2.1
  have hst := jx_stb (t := t) hb
  -- a code told
  have fin : ∀ (b' : Nat) (x' y' v' : Int) (r1 : Int) μ2, b < b' → b' ≤ n → jm_qt μ0 n t a b' true D o s S 0 jd_z μ2 → jx_rel x' y' v' → (∀ μ', jm_qt μ0 n t a b' true (jx_qa D x' y') o s S 0 jd_z μ' → jq_E L d x1 V μ') → qm_W (qb_T L) (d + 5) 2502 234 [qm_P 13, qm_I x, qm_I r1, w3, w4, w5] [qm_I v', qm_P 13] μ2 (fun v μ1 => v = none ∧ jq_V2 L d x1 V μ1) := fun b' x' y' v' r1 μ2 hb1 hb2 h2 hr HE => by
    obtain ⟨⟨c0, c1, c2⟩, _, _⟩ := jl_qtc h
    exact b2502_234 μ2 _ _ _ _ _ _ _ (js_2491a h2 (by omega) (fun c hc => by omega) hr fun μ3 h3 _ => HE μ3 h3 _ fun μ4 e5 hG => ⟨rfl, jl_qV2 e5 hG⟩)
  refine b2502_184 μ _ _ _ _ _ _ ?_
  rw [h.2.1.2.2.2.2.1]
  refine ⟨by decide, fun _ => js_2499 (d := d + 1) (by decide) (by decide) hk h fun k μ1 hw h1 a1 => ?_, fun z => absurd rfl z⟩
  have hkb := jl_w7b hw
  by_cases y : 0 ≤ k ∧ k < 3
  · rw [if_pos y]
    refine ⟨by omega, fun q => by omega, fun _ => js_2500 hk (by omega) h1 hw y.1 fun μ2 h2 => b2502_209 μ2 _ _ _ _ _ _ ⟨by omega, fun q => by omega, fun _ => ?_⟩⟩
    have hwb : b < jx_we n t b := by
      have hL : jx_isL n t b m := by
        unfold jx_w7 at hw
        rcases hw with w | w | w | w | w | w | w | w
        · have := w.1; omega
        all_goals exact w.2.1
      have := jx_wlt hb hL.1 hL.2.1
      omega
    exact fin _ (k + 1) 0 (40 + k) _ μ2 hwb h2.2.2.1 h2 (by unfold jx_rel; omega) (HW k y.1 y.2 hw)
  · rw [if_neg y]
    have hno : ¬ (jx_isW n t b m qb_tx_1021 ∨ jx_isW n t b m qb_tx_1022 ∨ jx_isW n t b m qb_tx_1023) := by
      unfold jx_w7 at hw
      rcases hw with w | w | w | w | w | w | w | w
      · rintro (v | v | v)
        · exact w.2.1 v
        · exact w.2.2.1 v
        · exact w.2.2.2.1 v
      · have := w.1; omega
      · have := w.1; omega
      · have := w.1; omega
      · rintro (v | v | v) <;> exact absurd (jx_isWu w.2 v) (by decide)
      · rintro (v | v | v) <;> exact absurd (jx_isWu w.2 v) (by decide)
      · rintro (v | v | v) <;> exact absurd (jx_isWu w.2 v) (by decide)
      · rintro (v | v | v) <;> exact absurd (jx_isWu w.2 v) (by decide)
    refine ⟨by decide, fun _ => b2502_209 μ1 _ _ _ _ _ _ ⟨by decide, fun _ => js_2413 (by decide) hk hb h1.2.1 (fun u1 u2 u3 μ2 f2 hp2 => ?_) (fun kf pf v μ2 f2 hv hb2 hw2 => ?_), fun q => absurd rfl q⟩, fun q => absurd rfl q⟩
    · have hdb := jx_dlt hb u1.1 u1.2.1
      have hdn := (jx_des t hb).2.1
      exact fin _ 0 _ _ _ μ2 (by omega) hdn (jl_qtm h1 f2 hp2 (by omega) hdn) (Or.inl ⟨rfl, rfl, u3.1, u3.2⟩) (HN u1 u2)
    · obtain ⟨_, _, _, _, _, _, k0, ⟨k1, k2, k3, k4, k5⟩, _, _, _⟩ := id h1
      have e65 : μ2 13 65 = (k0 : Int) := by rw [f2.2 65 rfl]; exact k1
      have h2 := jl_qtb h1 f2 hb2
      have hkf : kf = 1 ∧ ((¬ jx_isN n t b m ∧ ¬ (jx_isW n t b m qb_tx_1021 ∨ jx_isW n t b m qb_tx_1022 ∨ jx_isW n t b m qb_tx_1023) ∧ pf = ((jx_st n t b : Nat) : Int)) ∨ (jx_isN n t b m ∧ ¬ jx_de n t b - jx_st n t b ≤ 4 ∧ pf = ((jx_st n t b + 4 : Nat) : Int))) := by
        rcases hw2 with ⟨w1, w2, w3⟩ | ⟨w1, w2, w3, w4⟩ | ⟨w1, w2, w3, w4, w5⟩
        · exact ⟨w2, Or.inl ⟨w1, hno, w3⟩⟩
        · exact ⟨w3, Or.inr ⟨w1, w2, w4⟩⟩
        · exfalso
          obtain ⟨d1, d2, d3, d4⟩ := jx_des t hb
          have hd := jl_n10b (f := fun i => t (jx_st n t b + i) - 48) (jx_de n t b - jx_st n t b) (fun i hi => by
            have := d3 (jx_st n t b + i) (by omega) (by omega)
            unfold jx_di at this
            omega) w2
          refine w3 ⟨hd.1, ?_⟩
          have h2 := hd.2
          split at h2
          · omega
          · split at h2
            · omega
            · split at h2
              · omega
              · split at h2 <;> omega
      obtain ⟨rfl, hpf⟩ := hkf
      refine b2502_234 μ2 _ _ _ _ _ _ _ (b2491_0 _ _ _ ?_)
      rw [e65, Int.toNat_natCast]
      refine ⟨by omega, rfl, b2501_0 _ _ ?_⟩
      have ff : jd_fm [65] [91] μ2 (qm_set (qm_set μ2 91 k0 (1000 + v)) 13 65 ((k0 : Int) + 1)) := jg_f (jg_c (jg_refl _ _ _) rfl rfl) rfl
      have h3 : jm_qn μ0 n t (1, pf) (qm_set (qm_set μ2 91 k0 (1000 + v)) 13 65 ((k0 : Int) + 1)) := ⟨⟨by rw [jl_ss]; omega, jg_trans h2.1.2 (jg_sub ff rfl rfl)⟩, jl_badf h2.2 ff rfl rfl rfl rfl rfl⟩
      have e5 : (qm_set (qm_set μ2 91 k0 (1000 + v)) 13 65 ((k0 : Int) + 1)) 13 5 = 1 := h3.2.2.2.1
      rw [e5]
      exact ⟨by decide, fun z => absurd z (by decide), fun _ => ⟨rfl, rfl, jl_qV2b h3 (H0 pf hpf)⟩⟩
end
