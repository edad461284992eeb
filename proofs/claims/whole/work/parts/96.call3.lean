/-! ===== strips taken, acts, images brought ===== -/
section
variable {L d : Nat} {ξ : Nat → Int} {μ : qm_M} {a b : Int}
theorem jw_sok {nc n : Nat} {nco : Int} {t : Nat → Int} (hk : jd_tok n t) (h : jd_isst nc n nco t) : jd_sok nc (n / nc) nco (fun r c => t (nc * r + c)) := ⟨h.2.2.2.1, fun r c hr hc => by
  have h1 := jl_rcn h.2.2.1 hr hc
  have h2 := hk.2 _ h1
  have h3 := h.2.2.2.2 _ h1
  exact ⟨h2.1, h3⟩⟩
theorem jp_strip {w : Nat} (h : jq_inv ξ μ) (hw : w = 0 ∨ w = 1) : jp L (d + 80) ξ 2216 2468 [qm_P 0, qm_I ((w : Nat) : Int)] [qm_P 13, qm_I ((w : Nat) : Int)] μ := by
  obtain ⟨n, t, nc, nco, np, lm, lt, sp, pk, cn, N, M, ct, st, s, s1, sf, sb, im, o, f, p, hI, hc, hm, hx⟩ := h
  obtain ⟨i1, i2, i3, i4, i5, i6, i7, i8, i9, i10, i11, i12⟩ := hI
  obtain ⟨c1, c2, c3, c4, c5, c6, c7, c8, c9, c10, c11⟩ := hc
  have i4' := i4
  obtain ⟨k1, k2, k3, k4, k5, k6, k7⟩ := i4
  have tk0 : jd_tok 0 t := ⟨by decide, fun i hi => absurd hi (by omega)⟩
  have hdd : jd_isst nc n nco t → 0 ≤ ((n / nc : Nat) : Int) ∧ ((n / nc : Nat) : Int) ≤ 12 := fun z => by
    have h12 := z.2.2.2.1
    generalize n / nc = q at *
    omega
  have hr : jd_isst nc n nco t → qm_r32 ((n / nc : Nat) : Int) := fun z => by
    have h12 := hdd z
    exact ⟨by omega, by omega⟩
  refine js_2216 (nr := 0) c1 i1 i2.1 k1 c4 (by omega) (fun hb μ1 f1 his h11 hst => ⟨by rw [f1 999 rfl]; exact hx, ?_⟩) (fun hb μ1 f1 his h11 hst => ⟨by rw [f1 999 rfl]; exact hx, ?_⟩) (fun μ1 f1 hno h11 => ⟨by rw [f1 999 rfl]; exact hx, ?_⟩)
  · have hw0 : w = 0 := by omega
    subst hw0
    have hm1 := jm_Is hm (jl_sam f1 rfl)
    have hc1 : jc_I 0 t nc nco np lm lt sp pk cn N ct st (n / nc) s1 (fun r c => t (nc * r + c)) sb im o f p μ1 := by
      obtain ⟨n1, n2, n3, n4, n5, n6, n7, n8, n9⟩ := c4
      refine ⟨⟨h11, fun i hi => absurd hi (by omega)⟩, jl_cbf c2 (f1 6 rfl) (f1 31 rfl) (f1 32 rfl) (f1 33 rfl) (f1 34 rfl), jv_acts c3 (f1 7 rfl) (f1 35 rfl) (f1 36 rfl), ?_, by rw [f1 20 rfl]; exact c5, jv_nms c6 (f1 3 rfl) (f1 15 rfl) (f1 16 rfl) (f1 17 rfl), hst, jv_st c8 (f1 9 rfl) (f1 38 rfl), jv_img c9 (f1 12 rfl) (f1 45 rfl), by rw [f1 2 rfl]; exact c10, by rw [f1 10 rfl]; exact c11⟩
      unfold jc_num
      rw [f1 3 rfl, f1 0 rfl, f1 7 rfl, f1 9 rfl]
      exact ⟨n1, n2, n3, n4, n5, n6, n7, hst.1, n9⟩
    obtain ⟨m1, m2, m3, m4, m5, m6, m7, m8, m9, m10, m11, m12⟩ := hm1
    refine js_2468 (b := 0) m1 i1 i2.1 k1 m12 m4.1 (Or.inl rfl) (fun μ2 f2 _ h21 hst2 e69 e70 => ⟨rfl, hr his, jq_mk ⟨tk0, i2, i3, ⟨k1, k2, k3, k4, k5, hdd his, k7⟩, i5, i6, jw_sok i1 his, i8, fun _ => his.1, i10, i11, i12⟩ (jc_Is hc1 (jl_sac f2 rfl)) ⟨⟨h21, fun i hi => absurd hi (by omega)⟩, jm_evb m2 f2 rfl rfl, jw_acts m3 f2 rfl rfl, ?_, by rw [f2.1 62 rfl rfl]; exact m5, jw_mnms m6 f2 rfl, hst2, ?_, jw_mimg m9 f2 rfl rfl, by rw [f2.2 7 rfl, f2.2 8 rfl]; exact m10, jm_cstf m11 f2 rfl, by rw [f2.1 59 rfl rfl]; exact m12⟩ ?_⟩) (fun μ2 f2 hno => absurd his hno)
    · obtain ⟨n1, n2, n3, n4, n5, n6, n7⟩ := m4
      unfold jm_num
      rw [f2.1 59 rfl rfl, f2.2 30 rfl, f2.2 35 rfl, f2.2 39 rfl]
      exact ⟨n1, n2, n3, n4, n5, hst2.1, e69.trans n7⟩
    · refine ⟨e69.trans m8.1, fun r c hr hc => ?_⟩
      have hs := i8.1
      have hn := i2.1
      rw [show 96 * 1 + 8 * r + c = 96 * (1 - 0) + (8 * r + c) by omega, e70 (8 * r + c) (by omega), show 96 * (1 - 0) + (8 * r + c) = 96 * 1 + 8 * r + c by omega]
      exact m8.2 r c hr hc
    · rw [f2.1 999 rfl rfl, f1 999 rfl]; exact hx
  · have hw1 : w = 1 := by omega
    subst hw1
    have hm1 := jm_Is hm (jl_sam f1 rfl)
    have hc1 : jc_I 0 t nc nco np lm lt sp pk cn N ct st s (n / nc) sf (fun r c => t (nc * r + c)) im o f p μ1 := by
      obtain ⟨n1, n2, n3, n4, n5, n6, n7, n8, n9⟩ := c4
      refine ⟨⟨h11, fun i hi => absurd hi (by omega)⟩, jl_cbf c2 (f1 6 rfl) (f1 31 rfl) (f1 32 rfl) (f1 33 rfl) (f1 34 rfl), jv_acts c3 (f1 7 rfl) (f1 35 rfl) (f1 36 rfl), ?_, by rw [f1 20 rfl]; exact c5, jv_nms c6 (f1 3 rfl) (f1 15 rfl) (f1 16 rfl) (f1 17 rfl), jv_st c7 (f1 8 rfl) (f1 37 rfl), hst, jv_img c9 (f1 12 rfl) (f1 45 rfl), by rw [f1 2 rfl]; exact c10, by rw [f1 10 rfl]; exact c11⟩
      unfold jc_num
      rw [f1 3 rfl, f1 0 rfl, f1 7 rfl, f1 8 rfl]
      exact ⟨n1, n2, n3, n4, n5, n6, n7, n8, hst.1⟩
    obtain ⟨m1, m2, m3, m4, m5, m6, m7, m8, m9, m10, m11, m12⟩ := hm1
    refine js_2468 (b := 1) m1 i1 i2.1 k1 m12 m4.1 (Or.inr rfl) (fun μ2 f2 _ h21 hst2 e69 e70 => ⟨rfl, hr his, jq_mk ⟨tk0, i2, i3, ⟨k1, k2, k3, k4, k5, k6, hdd his⟩, i5, i6, i7, jw_sok i1 his, i9, i10, i11, i12⟩ (jc_Is hc1 (jl_sac f2 rfl)) ⟨⟨h21, fun i hi => absurd hi (by omega)⟩, jm_evb m2 f2 rfl rfl, jw_acts m3 f2 rfl rfl, ?_, by rw [f2.1 62 rfl rfl]; exact m5, jw_mnms m6 f2 rfl, ?_, hst2, jw_mimg m9 f2 rfl rfl, by rw [f2.2 7 rfl, f2.2 8 rfl]; exact m10, jm_cstf m11 f2 rfl, by rw [f2.1 59 rfl rfl]; exact m12⟩ ?_⟩) (fun μ2 f2 hno => absurd his hno)
    · obtain ⟨n1, n2, n3, n4, n5, n6, n7⟩ := m4
      unfold jm_num
      rw [f2.1 59 rfl rfl, f2.2 30 rfl, f2.2 35 rfl, f2.2 39 rfl]
      exact ⟨n1, n2, n3, n4, n5, e69.trans n6, hst2.1⟩
    · refine ⟨e69.trans m7.1, fun r c hr hc => ?_⟩
      have hs := i7.1
      have hn := i2.1
      rw [show 96 * 0 + 8 * r + c = 96 * (1 - 1) + (8 * r + c) by omega, e70 (8 * r + c) (by omega), show 96 * (1 - 1) + (8 * r + c) = 96 * 0 + 8 * r + c by omega]
      exact m7.2 r c hr hc
    · rw [f2.1 999 rfl rfl, f1 999 rfl]; exact hx
  · have hm1 := jm_Is hm (jl_sam f1 rfl)
    have hc1 : jc_I 0 t nc nco np lm lt sp pk cn N ct st s s1 sf sb im o f p μ1 := ⟨⟨h11, fun i hi => absurd hi (by omega)⟩, jl_cbf c2 (f1 6 rfl) (f1 31 rfl) (f1 32 rfl) (f1 33 rfl) (f1 34 rfl), jv_acts c3 (f1 7 rfl) (f1 35 rfl) (f1 36 rfl), jw_num c4 (f1 0 rfl) (f1 3 rfl) (f1 7 rfl) (f1 8 rfl) (f1 9 rfl), by rw [f1 20 rfl]; exact c5, jv_nms c6 (f1 3 rfl) (f1 15 rfl) (f1 16 rfl) (f1 17 rfl), jv_st c7 (f1 8 rfl) (f1 37 rfl), jv_st c8 (f1 9 rfl) (f1 38 rfl), jv_img c9 (f1 12 rfl) (f1 45 rfl), by rw [f1 2 rfl]; exact c10, by rw [f1 10 rfl]; exact c11⟩
    obtain ⟨m1, m2, m3, m4, m5, m6, m7, m8, m9, m10, m11, m12⟩ := hm1
    refine js_2468 (b := w) m1 i1 i2.1 k1 m12 m4.1 hw (fun μ2 f2 his => absurd his hno) (fun μ2 f2 _ h21 => ⟨rfl, by decide, jq_mk ⟨tk0, i2, i3, i4', i5, i6, i7, i8, i9, i10, i11, i12⟩ (jc_Is hc1 (jl_sac f2 rfl)) ⟨⟨h21, fun i hi => absurd hi (by omega)⟩, jm_evb m2 f2 rfl rfl, jw_acts m3 f2 rfl rfl, jw_mnum m4 f2 rfl rfl, by rw [f2.1 62 rfl rfl]; exact m5, jw_mnms m6 f2 rfl, jw_mst m7 f2 rfl, jw_mst m8 f2 rfl, jw_mimg m9 f2 rfl rfl, by rw [f2.2 7 rfl, f2.2 8 rfl]; exact m10, jm_cstf m11 f2 rfl, by rw [f2.1 59 rfl rfl]; exact m12⟩ ?_⟩)
    rw [f2.1 999 rfl rfl, f1 999 rfl]; exact hx
end
