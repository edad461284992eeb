/-! ===== acts, images brought ===== -/
section
variable {n : Nat} {t : Nat → Int} {nc : Nat} {nco np lm lt sp : Int} {pk : Nat → Int} {cn : Nat → Nat} {N M : Nat → Nat → Int} {ct ct' : Nat} {st st' : Nat → jd_B} {s s1 : Nat} {sf sb : Nat → Nat → Int} {im : Nat} {o : Nat → Int} {f p : Int} {μ μ' : qm_M}
theorem jc_Ia (h : jc_I n t nc nco np lm lt sp pk cn N ct st s s1 sf sb im o f p μ) (f1 : jd_fr [6, 7, 31, 32, 33, 34, 35, 36] μ μ') (hB : jc_bb nc lm (st' 0) μ') (hA : jc_acts nc lm ct' st' μ') : jc_I n t nc nco np lm lt sp pk cn N ct' st' s s1 sf sb im o f p μ' := by
  obtain ⟨c1, c2, c3, c4, c5, c6, c7, c8, c9, c10, c11⟩ := h
  refine ⟨jl_tapc c1 (f1 1 rfl) (f1 14 rfl), hB, hA, ?_, by rw [f1 20 rfl]; exact c5, jv_nms c6 (f1 3 rfl) (f1 15 rfl) (f1 16 rfl) (f1 17 rfl), jv_st c7 (f1 8 rfl) (f1 37 rfl), jv_st c8 (f1 9 rfl) (f1 38 rfl), jv_img c9 (f1 12 rfl) (f1 45 rfl), by rw [f1 2 rfl]; exact c10, by rw [f1 10 rfl]; exact c11⟩
  obtain ⟨n1, n2, n3, n4, n5, n6, n7, n8, n9⟩ := c4
  unfold jc_num
  rw [f1 3 rfl, f1 0 rfl, f1 8 rfl, f1 9 rfl]
  exact ⟨n1, n2, n3, n4, n5, n6, hA.1, n8, n9⟩
theorem jm_Ia {l : List Nat} (h : jm_I n t nc nco np lm lt sp pk cn M ct st s s1 sf sb im o f p μ) (f2 : jd_fm [37, 39, 40] l μ μ') (hl : l.all (fun c => [61, 67, 68].contains c) = true) (hB : jm_bb nc lm (st' 0) μ') (hA : jm_acts nc ct' st' μ') : jm_I n t nc nco np lm lt sp pk cn M ct' st' s s1 sf sb im o f p μ' := by
  obtain ⟨m1, m2, m3, m4, m5, m6, m7, m8, m9, m10, m11, m12⟩ := h
  have f3 : jd_fm [37, 39, 40] [61, 67, 68] μ μ' := jg_sub f2 rfl hl
  refine ⟨?_, hB, hA, ?_, by rw [f3.1 62 rfl rfl]; exact m5, jw_mnms m6 f3 rfl, jw_mst m7 f3 rfl, jw_mst m8 f3 rfl, jw_mimg m9 f3 rfl rfl, by rw [f3.2 7 rfl, f3.2 8 rfl]; exact m10, jm_cstf m11 f3 rfl, by rw [f3.1 59 rfl rfl]; exact m12⟩
  · unfold jm_tape; rw [f3.2 1 rfl, f3.1 46 rfl rfl]; exact m1
  · obtain ⟨n1, n2, n3, n4, n5, n6, n7⟩ := m4
    unfold jm_num
    rw [f3.1 59 rfl rfl, f3.1 69 rfl rfl, f3.2 30 rfl, f3.2 35 rfl]
    exact ⟨n1, n2, n3, n4, hA.1, n6, n7⟩
theorem jd_Ia (h : jd_I n t nc nco np lm lt sp pk cn N M ct st s s1 sf sb im o f p) (hO : jd_okb nc lm (st' 0)) (hct : ct' ≤ 20) : jd_I n t nc nco np lm lt sp pk cn N M ct' st' s s1 sf sb im o f p := by
  obtain ⟨i1, i2, i3, ⟨k1, k2, k3, k4, k5, k6, k7⟩, i5⟩ := h
  exact ⟨i1, hO, hct, ⟨k1, k2, k3, k4, ⟨by omega, by omega⟩, k6, k7⟩, i5⟩
theorem jl_ct20 (ct : Nat) (h : ct ≤ 20) : jd_ct ct ≤ 20 := by unfold jd_ct; split <;> omega
end
section
variable {L d : Nat} {ξ : Nat → Int} {μ : qm_M} {a b : Int}
theorem jp_turn (h : jq_inv ξ μ) (ha : qm_r32 a) (hb : qm_r32 b) : jp L (d + 80) ξ 2211 2464 [qm_P 0, qm_I a, qm_I b] [qm_P 13, qm_I a, qm_I b] μ := by
  obtain ⟨n, t, nc, nco, np, lm, lt, sp, pk, cn, N, M, ct, st, s, s1, sf, sb, im, o, f, p, hI, hc, hm, hx⟩ := h
  have hII := hI
  obtain ⟨i1, i2, i3, i4, i5, i6, i7, i8, i9, i10, i11, i12⟩ := hI
  refine js_2211 hc.2.1 i2 hc.2.2.1 i3 hc.2.2.2.1 i4 i5 hc.2.2.2.2.1 ha hb (fun h1 h2 h3 h4 μ1 f1 hB hA => ⟨by rw [f1 999 rfl]; exact hx, ?_⟩) (fun hno μ1 f1 hB => ⟨by rw [f1 999 rfl]; exact hx, ?_⟩)
  · have hm1 := jm_Is hm (jl_sam f1 rfl)
    refine js_2464 hm1.2.1 i2 hm1.2.2.1 i3 hm1.2.2.2.1 i4 i5 hm1.2.2.2.2.1 ha hb (fun _ _ _ _ μ2 f2 hM2 hA2 => ⟨rfl, ⟨by omega, by omega⟩, jq_mk (jd_Ia hII ?_ (jl_ct20 ct i3)) (jc_Is (jc_Ia (st' := jd_cons (jd_bt (st 0) (jd_u pk a b)) st) hc f1 hB hA) (jl_sac f2 rfl)) (jm_Ia hm1 f2 rfl hM2 hA2) ?_⟩) (fun hno => absurd ⟨h1, h2, h3, h4⟩ hno)
    · exact jl_apok i2 h3 (fun c _ => jl_u pk a b c) h4
    · rw [f2.1 999 rfl rfl, f1 999 rfl]; exact hx
  · have hm1 := jm_Is hm (jl_sam f1 rfl)
    have hc1 : jc_I n t nc nco np lm lt sp pk cn N ct st s s1 sf sb im o f p μ1 := jc_Ia hc (jf_sub f1 rfl) hB (jv_acts hc.2.2.1 (f1 7 rfl) (f1 35 rfl) (f1 36 rfl))
    exact js_2464 hm1.2.1 i2 hm1.2.2.1 i3 hm1.2.2.2.1 i4 i5 hm1.2.2.2.2.1 ha hb (fun g1 g2 g3 g4 => absurd ⟨g1, g2, g3, g4⟩ hno) (fun _ => ⟨rfl, by decide, jq_mk hII hc1 hm1 (by rw [f1 999 rfl]; exact hx)⟩)
theorem jp_unweave (h : jq_inv ξ μ) : jp L (d + 80) ξ 2212 2465 [qm_P 0] [qm_P 13] μ := by
  have hh := h
  obtain ⟨n, t, nc, nco, np, lm, lt, sp, pk, cn, N, M, ct, st, s, s1, sf, sb, im, o, f, p, hI, hc, hm, hx⟩ := h
  have hII := hI
  obtain ⟨i1, i2, i3, i4, i5, i6, i7, i8, i9, i10, i11, i12⟩ := hI
  refine js_2212 hc.2.1 i2 hc.2.2.1 i3 (fun h1 μ1 f1 hB hA => ⟨by rw [f1 999 rfl]; exact hx, ?_⟩) (fun h0 => ⟨hx, js_2465 hm.2.1 i2 hm.2.2.1 i3 (fun h1 => by omega) (fun _ => ⟨rfl, by decide, hh⟩)⟩)
  have hm1 := jm_Is hm (jl_sam f1 rfl)
  refine js_2465 hm1.2.1 i2 hm1.2.2.1 i3 (fun _ μ2 f2 hM2 hA2 => ⟨rfl, by decide, jq_mk (jd_Ia hII (jl_okbu i2) (jl_ct20 ct i3)) (jc_Is (jc_Ia (st' := jd_cons (jd_bu (st 0)) st) hc f1 hB hA) (jl_sac f2 rfl)) (jm_Ia hm1 f2 rfl hM2 hA2) ?_⟩) (fun h0 => by omega)
  rw [f2.1 999 rfl rfl, f1 999 rfl]; exact hx
theorem jp_shift (h : jq_inv ξ μ) (ha : qm_r32 a) : jp L (d + 80) ξ 2213 2466 [qm_P 0, qm_I a] [qm_P 13, qm_I a] μ := by
  have hh := h
  obtain ⟨n, t, nc, nco, np, lm, lt, sp, pk, cn, N, M, ct, st, s, s1, sf, sb, im, o, f, p, hI, hc, hm, hx⟩ := h
  have hII := hI
  obtain ⟨i1, i2, i3, i4, i5, i6, i7, i8, i9, i10, i11, i12⟩ := hI
  refine js_2213 hc.2.1 i2 hc.2.2.1 i3 ha (fun c hac hcn μ1 f1 hB hA => ⟨by rw [f1 999 rfl]; exact hx, ?_⟩) (fun h0 => ⟨hx, js_2466 hm.2.1 i2 hm.2.2.1 i3 ha (fun c h1 h2 => by omega) (fun _ => ⟨rfl, by decide, hh⟩)⟩)
  have hm1 := jm_Is hm (jl_sam f1 rfl)
  refine js_2466 hm1.2.1 i2 hm1.2.2.1 i3 ha (fun c' hac' hcn' μ2 f2 hM2 hA2 _ => ⟨rfl, by decide, ?_⟩) (fun h0 => by omega)
  obtain rfl : c' = c := by omega
  refine jq_mk (jd_Ia (st' := jd_cons (jd_bs (st 0) c' 1) st) hII (jl_okbs i2 hcn) (jl_ct20 ct i3)) (jc_Is (jc_Ia (st' := jd_cons (jd_bs (st 0) c' 1) st) hc f1 hB hA) (jl_sac f2 rfl)) (jm_Ia (st' := jd_cons (jd_bs (st 0) c' 1) st) hm1 f2 rfl hM2 hA2) ?_
  rw [f2.1 999 rfl rfl, f1 999 rfl]; exact hx
theorem jp_string (h : jq_inv ξ μ) (ha : qm_r32 a) : jp L (d + 80) ξ 2214 2467 [qm_P 0, qm_I a] [qm_P 13, qm_I a] μ := by
  have hh := h
  obtain ⟨n, t, nc, nco, np, lm, lt, sp, pk, cn, N, M, ct, st, s, s1, sf, sb, im, o, f, p, hI, hc, hm, hx⟩ := h
  have hII := hI
  obtain ⟨i1, i2, i3, i4, i5, i6, i7, i8, i9, i10, i11, i12⟩ := hI
  refine js_2214 hc.2.1 i2 hc.2.2.1 i3 ha (fun c hac hcn μ1 f1 hB hA => ⟨by rw [f1 999 rfl]; exact hx, ?_⟩) (fun h0 => ⟨hx, js_2467 hm.2.1 i2 hm.2.2.1 i3 ha (fun c h1 h2 => by omega) (fun _ => ⟨rfl, by decide, hh⟩)⟩)
  have hm1 := jm_Is hm (jl_sam f1 rfl)
  refine js_2467 hm1.2.1 i2 hm1.2.2.1 i3 ha (fun c' hac' hcn' μ2 f2 hM2 hA2 _ => ⟨rfl, by decide, ?_⟩) (fun h0 => by omega)
  obtain rfl : c' = c := by omega
  refine jq_mk (jd_Ia (st' := jd_cons (jd_bz (st 0) c') st) hII (jl_okbz i2 hcn) (jl_ct20 ct i3)) (jc_Is (jc_Ia (st' := jd_cons (jd_bz (st 0) c') st) hc f1 hB hA) (jl_sac f2 rfl)) (jm_Ia (st' := jd_cons (jd_bz (st 0) c') st) hm1 f2 rfl hM2 hA2) ?_
  rw [f2.1 999 rfl rfl, f1 999 rfl]; exact hx
theorem jp_undo (h : jq_inv ξ μ) : jp L (d + 80) ξ 2215 2463 [qm_P 0] [qm_P 13] μ := by
  have hh := h
  obtain ⟨n, t, nc, nco, np, lm, lt, sp, pk, cn, N, M, ct, st, s, s1, sf, sb, im, o, f, p, hI, hc, hm, hx⟩ := h
  have hII := hI
  obtain ⟨i1, i2, i3, i4, i5, i6, i7, i8, i9, i10, i11, i12⟩ := hI
  refine js_2215 hc.2.1 i2 hc.2.2.1 i3 (fun h1 μ1 f1 hB hA => ⟨by rw [f1 999 rfl]; exact hx, ?_⟩) (fun h0 => ⟨hx, js_2463 hm.2.1 i2 hm.2.2.1 i3 (fun h1 => by omega) (fun _ => ⟨rfl, by decide, hh⟩)⟩)
  have hm1 := jm_Is hm (jl_sam f1 rfl)
  have hO1 : jd_okb nc lm (st 1) := (hc.2.2.1.2 0 h1).1
  refine js_2463 hm1.2.1 i2 hm1.2.2.1 i3 (fun _ μ2 f2 hM2 hA2 _ => ⟨rfl, by decide, jq_mk (jd_Ia (st' := fun i => st (i + 1)) hII hO1 (by omega)) (jc_Is (jc_Ia (st' := fun i => st (i + 1)) hc f1 hB hA) (jl_sac f2 rfl)) (jm_Ia (st' := fun i => st (i + 1)) hm1 f2 rfl hM2 hA2) ?_⟩) (fun h0 => by omega)
  rw [f2.1 999 rfl rfl, f1 999 rfl]; exact hx
theorem jp_on (h : jq_inv ξ μ) : jp L (d + 80) ξ 2228 2525 [qm_P 0] [qm_P 13] μ := by
  obtain ⟨n, t, nc, nco, np, lm, lt, sp, pk, cn, N, M, ct, st, s, s1, sf, sb, im, o, f, p, hI, hc, hm, hx⟩ := h
  obtain ⟨i1, i2, i3, i4, i5, i6, i7, i8, i9, i10, i11, i12⟩ := hI
  obtain ⟨c1, c2, c3, c4, c5, c6, c7, c8, c9, c10, c11⟩ := hc
  have tk0 : jd_tok 0 t := ⟨by decide, fun i hi => absurd hi (by omega)⟩
  have i4' := i4
  obtain ⟨k1, k2, k3, k4, k5, k6, k7⟩ := i4
  refine js_2228 c2 i2 c1 i1 c4.1 k1 (fun his μ1 f1 hB h11 h73 => ⟨by rw [f1 999 rfl]; exact hx, ?_⟩) (fun hno μ1 f1 h11 => ⟨by rw [f1 999 rfl]; exact hx, ?_⟩)
  · have hm1 := jm_Is hm (jl_sam f1 rfl)
    have hok : jd_okb nc lm (jd_oib nc t (t 0).toNat) := jl_onok i2 k1.2 i1 his _ (Nat.le_refl _)
    have hc1 : jc_I 0 t nc nco np lm lt sp pk cn N 0 (fun _ => jd_oib nc t (t 0).toNat) s s1 sf sb im o f p μ1 := by
      obtain ⟨n1, n2, n3, n4, n5, n6, n7, n8, n9⟩ := c4
      refine ⟨⟨h11, fun i hi => absurd hi (by omega)⟩, hB, ⟨h73, fun i hi => absurd hi (by omega)⟩, ?_, by rw [f1 20 rfl]; exact c5, jv_nms c6 (f1 3 rfl) (f1 15 rfl) (f1 16 rfl) (f1 17 rfl), jv_st c7 (f1 8 rfl) (f1 37 rfl), jv_st c8 (f1 9 rfl) (f1 38 rfl), jv_img c9 (f1 12 rfl) (f1 45 rfl), by rw [f1 2 rfl]; exact c10, by rw [f1 10 rfl]; exact c11⟩
      unfold jc_num
      rw [f1 3 rfl, f1 0 rfl, f1 8 rfl, f1 9 rfl]
      exact ⟨n1, n2, n3, n4, n5, n6, h73, n8, n9⟩
    obtain ⟨m1, m2, m3, m4, m5, m6, m7, m8, m9, m10, m11, m12⟩ := hm1
    refine js_2525 m2 i2 m1 i1 m4.1 k1 (fun _ μ2 f2 hM2 h21 h39 _ => ⟨rfl, by decide, jq_mk ⟨tk0, hok, by decide, ⟨k1, k2, k3, k4, by decide, k6, k7⟩, i5, i6, i7, i8, i9, i10, i11, i12⟩ (jc_Is hc1 (jl_sac f2 rfl)) ⟨⟨h21, fun i hi => absurd hi (by omega)⟩, hM2, ⟨h39, ?_⟩, ?_, by rw [f2.1 62 rfl rfl]; exact m5, jw_mnms m6 f2 rfl, jw_mst m7 f2 rfl, jw_mst m8 f2 rfl, jw_mimg m9 f2 rfl rfl, by rw [f2.2 7 rfl, f2.2 8 rfl]; exact m10, jm_cstf m11 f2 rfl, by rw [f2.1 59 rfl rfl]; exact m12⟩ ?_⟩) (fun hno => absurd his hno)
    · obtain ⟨_, nw, w1, w2, _⟩ := m3
      exact ⟨nw, w1, by rw [f2.2 40 rfl]; exact w2, fun i hi => absurd hi (by omega)⟩
    · obtain ⟨n1, n2, n3, n4, n5, n6, n7⟩ := m4
      unfold jm_num
      rw [f2.1 59 rfl rfl, f2.1 69 rfl rfl, f2.2 30 rfl, f2.2 35 rfl]
      exact ⟨n1, n2, n3, n4, h39, n6, n7⟩
    · rw [f2.1 999 rfl rfl, f1 999 rfl]; exact hx
  · have hm1 := jm_Is hm (jl_sam f1 rfl)
    have hc1 : jc_I 0 t nc nco np lm lt sp pk cn N ct st s s1 sf sb im o f p μ1 := ⟨⟨h11, fun i hi => absurd hi (by omega)⟩, jl_cbf c2 (f1 6 rfl) (f1 31 rfl) (f1 32 rfl) (f1 33 rfl) (f1 34 rfl), jv_acts c3 (f1 7 rfl) (f1 35 rfl) (f1 36 rfl), jw_num c4 (f1 0 rfl) (f1 3 rfl) (f1 7 rfl) (f1 8 rfl) (f1 9 rfl), by rw [f1 20 rfl]; exact c5, jv_nms c6 (f1 3 rfl) (f1 15 rfl) (f1 16 rfl) (f1 17 rfl), jv_st c7 (f1 8 rfl) (f1 37 rfl), jv_st c8 (f1 9 rfl) (f1 38 rfl), jv_img c9 (f1 12 rfl) (f1 45 rfl), by rw [f1 2 rfl]; exact c10, by rw [f1 10 rfl]; exact c11⟩
    obtain ⟨m1, m2, m3, m4, m5, m6, m7, m8, m9, m10, m11, m12⟩ := hm1
    refine js_2525 m2 i2 m1 i1 m4.1 k1 (fun his => absurd his hno) (fun _ μ2 f2 h21 => ⟨rfl, by decide, jq_mk ⟨tk0, i2, i3, i4', i5, i6, i7, i8, i9, i10, i11, i12⟩ (jc_Is hc1 (jl_sac f2 rfl)) ⟨⟨h21, fun i hi => absurd hi (by omega)⟩, jm_evb m2 f2 rfl rfl, jw_acts m3 f2 rfl rfl, jw_mnum m4 f2 rfl rfl, by rw [f2.1 62 rfl rfl]; exact m5, jw_mnms m6 f2 rfl, jw_mst m7 f2 rfl, jw_mst m8 f2 rfl, jw_mimg m9 f2 rfl rfl, by rw [f2.2 7 rfl, f2.2 8 rfl]; exact m10, jm_cstf m11 f2 rfl, by rw [f2.1 59 rfl rfl]; exact m12⟩ ?_⟩)
    rw [f2.1 999 rfl rfl, f1 999 rfl]; exact hx
end
