/-! ===== calls of the tape, of ways, of images ===== -/
section
variable {n : Nat} {t : Nat → Int} {nc : Nat} {nco np lm lt sp : Int} {cn : Nat → Nat} {M : Nat → Nat → Int} {ct : Nat} {st : Nat → jd_B} {s : Nat} {s0 s1 : Int} {sf : Nat → Nat → Int} {im : Nat} {o : Nat → Int} {fs l : List Nat} {μ μ' : qm_M}
theorem jw_num {nco np lm lt sp ct s0 s1 : Int} (h : jc_num nc nco np lm lt sp ct s0 s1 μ) (h0 : μ' 0 = μ 0) (h3 : μ' 3 = μ 3) (h7 : μ' 7 = μ 7) (h8 : μ' 8 = μ 8) (h9 : μ' 9 = μ 9) : jc_num nc nco np lm lt sp ct s0 s1 μ' := by
  unfold jc_num at *; rw [h0, h3, h7, h8, h9]; exact h
theorem jw_acts (h : jm_acts nc ct st μ) (f : jd_fm fs l μ μ') (h1 : (fs.contains 39 || fs.contains 40) = false) (h2 : l.contains 68 = false) : jm_acts nc ct st μ' := by
  rw [Bool.or_eq_false_iff] at h1
  unfold jm_acts jm_snap at *; rw [f.2 39 h1.1, f.2 40 h1.2, f.1 68 rfl h2]; exact h
theorem jw_mnum {ct : Int} (h : jm_num nco np lt sp ct s0 s1 μ) (f : jd_fm fs l μ μ') (h1 : (fs.contains 30 || fs.contains 35 || fs.contains 39) = false) (h2 : (l.contains 59 || l.contains 69) = false) : jm_num nco np lt sp ct s0 s1 μ' := by
  rw [Bool.or_eq_false_iff, Bool.or_eq_false_iff] at h1
  rw [Bool.or_eq_false_iff] at h2
  unfold jm_num at *; rw [f.2 30 h1.1.1, f.2 35 h1.1.2, f.2 39 h1.2, f.1 59 rfl h2.1, f.1 69 rfl h2.2]; exact h
theorem jw_mnms (h : jm_nms cn M μ) (f : jd_fm fs l μ μ') (h2 : (l.contains 59 || l.contains 60) = false) : jm_nms cn M μ' := by
  rw [Bool.or_eq_false_iff] at h2
  unfold jm_nms at *; rw [f.1 59 rfl h2.1, f.1 60 rfl h2.2]; exact h
theorem jw_mst {b : Nat} (h : jm_st b nc s sf μ) (f : jd_fm fs l μ μ') (h2 : (l.contains 69 || l.contains 70) = false) : jm_st b nc s sf μ' := by
  rw [Bool.or_eq_false_iff] at h2
  unfold jm_st at *; rw [f.1 69 rfl h2.1, f.1 70 rfl h2.2]; exact h
theorem jw_mimg (h : jm_img im o μ) (f : jd_fm fs l μ μ') (h1 : fs.contains 75 = false) (h2 : l.contains 94 = false) : jm_img im o μ' := by
  unfold jm_img at *; rw [f.2 75 h1, f.1 94 rfl h2]; exact h
end
theorem jw_fd {n : Nat} {t ar : Nat → Int} (h : jd_tok n t) (hn : n + 20 ≤ 1600) : jd_tok (n + 20) (jd_fd t n ar) := ⟨hn, fun i hi => by
  unfold jd_fd
  split
  · exact h.2 i (by assumption)
  · unfold jd_byte; omega⟩
section
variable {L d : Nat} {ξ : Nat → Int} {μ : qm_M} {a b c e g : Int}
theorem jp_feed (h : jq_inv ξ μ) (h1 : qm_r32 a) (h2 : qm_r32 b) (h3 : qm_r32 c) (h4 : qm_r32 e) (h5 : qm_r32 g) : jp L (d + 80) ξ 2201 2402 [qm_P 0, qm_I a, qm_I b, qm_I c, qm_I e, qm_I g] [qm_P 13, qm_I a, qm_I b, qm_I c, qm_I e, qm_I g] μ := by
  have hh := h
  obtain ⟨n, t, nc, nco, np, lm, lt, sp, pk, cn, N, M, ct, st, s, s1, sf, sb, im, o, f, p, hI, hc, hm, hx⟩ := h
  obtain ⟨i1, i2, i3, i4, i5, i6, i7, i8, i9, i10, i11, i12⟩ := hI
  obtain ⟨c1, c2, c3, c4, c5, c6, c7, c8, c9, c10, c11⟩ := hc
  refine js_2201 c1 i1 h1 h2 h3 h4 h5 (fun μ1 f1 hle ht1 => ⟨by rw [f1 999 rfl]; exact hx, ?_⟩) (fun hno => ⟨hx, js_2402 hm.1 i1 h1 h2 h3 h4 h5 (fun μ2 f2 hle => absurd hle hno) (fun _ => ⟨rfl, by decide, hh⟩)⟩)
  have hm1 := jm_Is hm (jl_sam f1 rfl)
  have hc1 : jc_I (n + 20) (jd_fd t n (jd_5 a b c e g)) nc nco np lm lt sp pk cn N ct st s s1 sf sb im o f p μ1 := ⟨ht1, jl_cbf c2 (f1 6 rfl) (f1 31 rfl) (f1 32 rfl) (f1 33 rfl) (f1 34 rfl), jv_acts c3 (f1 7 rfl) (f1 35 rfl) (f1 36 rfl), jw_num c4 (f1 0 rfl) (f1 3 rfl) (f1 7 rfl) (f1 8 rfl) (f1 9 rfl), by rw [f1 20 rfl]; exact c5, jv_nms c6 (f1 3 rfl) (f1 15 rfl) (f1 16 rfl) (f1 17 rfl), jv_st c7 (f1 8 rfl) (f1 37 rfl), jv_st c8 (f1 9 rfl) (f1 38 rfl), jv_img c9 (f1 12 rfl) (f1 45 rfl), by rw [f1 2 rfl]; exact c10, by rw [f1 10 rfl]; exact c11⟩
  obtain ⟨m1, m2, m3, m4, m5, m6, m7, m8, m9, m10, m11, m12⟩ := hm1
  refine js_2402 m1 i1 h1 h2 h3 h4 h5 (fun μ2 f2 _ ht2 => ⟨rfl, ⟨by omega, by omega⟩, jq_mk ⟨jw_fd i1 hle, i2, i3, i4, i5, i6, i7, i8, i9, i10, i11, i12⟩ (jc_Is hc1 (jl_sac f2 rfl)) ⟨ht2, jm_evb m2 f2 rfl rfl, jw_acts m3 f2 rfl rfl, jw_mnum m4 f2 rfl rfl, by rw [f2.1 62 rfl rfl]; exact m5, jw_mnms m6 f2 rfl, jw_mst m7 f2 rfl, jw_mst m8 f2 rfl, jw_mimg m9 f2 rfl rfl, by rw [f2.2 7 rfl, f2.2 8 rfl]; exact m10, jm_cstf m11 f2 rfl, by rw [f2.1 59 rfl rfl]; exact m12⟩ ?_⟩) (fun hno => absurd hle hno)
  rw [f2.1 999 rfl rfl, f1 999 rfl]; exact hx
theorem jp_end (h : jq_inv ξ μ) (ha : qm_r32 a) : jp L (d + 80) ξ 2202 2403 [qm_P 0, qm_I a] [qm_P 13, qm_I a] μ := by
  have hh := h
  obtain ⟨n, t, nc, nco, np, lm, lt, sp, pk, cn, N, M, ct, st, s, s1, sf, sb, im, o, f, p, hI, hc, hm, hx⟩ := h
  obtain ⟨i1, i2, i3, i4, i5, i6, i7, i8, i9, i10, i11, i12⟩ := hI
  obtain ⟨c1, c2, c3, c4, c5, c6, c7, c8, c9, c10, c11⟩ := hc
  refine js_2202 c1 i1 ha (fun k μ1 ek hk f1 ht1 => ⟨by rw [f1 999 rfl]; exact hx, ?_⟩) (fun hno => ⟨hx, js_2403 hm.1 i1 ha (fun k μ2 ek hk => by omega) (fun _ => ⟨rfl, by decide, hh⟩)⟩)
  have hm1 := jm_Is hm (jl_sam f1 rfl)
  have hc1 : jc_I k t nc nco np lm lt sp pk cn N ct st s s1 sf sb im o f p μ1 := ⟨ht1, jl_cbf c2 (f1 6 rfl) (f1 31 rfl) (f1 32 rfl) (f1 33 rfl) (f1 34 rfl), jv_acts c3 (f1 7 rfl) (f1 35 rfl) (f1 36 rfl), jw_num c4 (f1 0 rfl) (f1 3 rfl) (f1 7 rfl) (f1 8 rfl) (f1 9 rfl), by rw [f1 20 rfl]; exact c5, jv_nms c6 (f1 3 rfl) (f1 15 rfl) (f1 16 rfl) (f1 17 rfl), jv_st c7 (f1 8 rfl) (f1 37 rfl), jv_st c8 (f1 9 rfl) (f1 38 rfl), jv_img c9 (f1 12 rfl) (f1 45 rfl), by rw [f1 2 rfl]; exact c10, by rw [f1 10 rfl]; exact c11⟩
  obtain ⟨m1, m2, m3, m4, m5, m6, m7, m8, m9, m10, m11, m12⟩ := hm1
  refine js_2403 m1 i1 ha (fun k' μ2 ek' hk' f2 ht2 => ⟨rfl, by decide, ?_⟩) (fun hno => by omega)
  have : k' = k := by omega
  subst this
  refine jq_mk ⟨⟨by have := i1.1; omega, fun i hi => i1.2 i (by omega)⟩, i2, i3, i4, i5, i6, i7, i8, i9, i10, i11, i12⟩ (jc_Is hc1 (jl_sac f2 rfl)) ⟨ht2, jm_evb m2 f2 rfl rfl, jw_acts m3 f2 rfl rfl, jw_mnum m4 f2 rfl rfl, by rw [f2.1 62 rfl rfl]; exact m5, jw_mnms m6 f2 rfl, jw_mst m7 f2 rfl, jw_mst m8 f2 rfl, jw_mimg m9 f2 rfl rfl, by rw [f2.2 7 rfl, f2.2 8 rfl]; exact m10, jm_cstf m11 f2 rfl, by rw [f2.1 59 rfl rfl]; exact m12⟩ ?_
  rw [f2.1 999 rfl rfl, f1 999 rfl]; exact hx
/-- ways: one value on both sides -/
theorem jp_woven (h : jq_inv ξ μ) (ha : qm_r32 a) (hb : qm_r32 b) (hc' : qm_r32 c) : jp L (d + 80) ξ 2217 2475 [qm_P 0, qm_I a, qm_I b, qm_I c] [qm_P 13, qm_I a, qm_I b, qm_I c] μ := by
  obtain ⟨n, t, nc, nco, np, lm, lt, sp, pk, cn, N, M, ct, st, s, s1, sf, sb, im, o, f, p, hI, hc, hm, hx⟩ := h
  have hII := hI
  obtain ⟨i1, i2, i3, i4, i5, i6, i7, i8, i9, i10, i11, i12⟩ := hI
  have hk : jd_w0 nc (st 0).1 lm (st 0).2.1 (st 0).2.2.1 (st 0).2.2.2 s s1 sf sb nco := ⟨i2, i7, i8, i4.1.2⟩
  refine js_2217 (nco := nco) ⟨hc.2.1, hc.2.2.2.2.2.2.1, hc.2.2.2.2.2.2.2.1, hc.2.2.2.2.2.2.2.2.2.2⟩ hk ha hb hc' fun v μ1 hv f1 h1 => ⟨by rw [f1 999 rfl]; exact hx, ?_⟩
  have hm1 := jm_Is hm (jl_sam f1 rfl)
  refine js_2475 (nco := nco) ⟨hm1.2.1, hm1.2.2.2.2.2.2.1, hm1.2.2.2.2.2.2.2.1⟩ hk ha hb hc' fun v' μ2 f2 h2 => ⟨(jl_wov h1 h2).symm, hv, jq_mk hII (jc_Is (jc_If hc f1 rfl) (jl_sac f2 rfl)) (jm_If hm1 f2 rfl rfl) ?_⟩
  rw [f2.1 999 rfl rfl, f1 999 rfl]; exact hx
theorem jp_barred (h : jq_inv ξ μ) (ha : qm_r32 a) : jp L (d + 80) ξ 2218 2477 [qm_P 0, qm_I a] [qm_P 13, qm_I a] μ := by
  obtain ⟨n, t, nc, nco, np, lm, lt, sp, pk, cn, N, M, ct, st, s, s1, sf, sb, im, o, f, p, hI, hc, hm, hx⟩ := h
  have hII := hI
  obtain ⟨i1, i2, i3, i4, i5, i6, i7, i8, i9, i10, i11, i12⟩ := hI
  have hk : jd_w0 nc (st 0).1 lm (st 0).2.1 (st 0).2.2.1 (st 0).2.2.2 s s1 sf sb nco := ⟨i2, i7, i8, i4.1.2⟩
  refine js_2218 (nco := nco) ⟨hc.2.1, hc.2.2.2.2.2.2.1, hc.2.2.2.2.2.2.2.1, hc.2.2.2.2.2.2.2.2.2.2⟩ hk ha fun v μ1 hv f1 h1 => ⟨by rw [f1 999 rfl]; exact hx, ?_⟩
  have hm1 := jm_Is hm (jl_sam f1 rfl)
  refine js_2477 (nco := nco) ⟨hm1.2.1, hm1.2.2.2.2.2.2.1, hm1.2.2.2.2.2.2.2.1⟩ hk ha fun v' μ2 f2 h2 => ⟨(jl_brd h1 h2).symm, hv, jq_mk hII (jc_Is (jc_If hc f1 rfl) (jl_sac f2 rfl)) (jm_If hm1 f2 rfl rfl) ?_⟩
  rw [f2.1 999 rfl rfl, f1 999 rfl]; exact hx
theorem jp_apart (h : jq_inv ξ μ) : jp L (d + 80) ξ 2219 2480 [qm_P 0] [qm_P 13] μ := by
  obtain ⟨n, t, nc, nco, np, lm, lt, sp, pk, cn, N, M, ct, st, s, s1, sf, sb, im, o, f, p, hI, hc, hm, hx⟩ := h
  have hII := hI
  obtain ⟨i1, i2, i3, i4, i5, i6, i7, i8, i9, i10, i11, i12⟩ := hI
  have hk : jd_w0 nc (st 0).1 lm (st 0).2.1 (st 0).2.2.1 (st 0).2.2.2 s s1 sf sb nco := ⟨i2, i7, i8, i4.1.2⟩
  refine js_2219 (nco := nco) ⟨hc.2.1, hc.2.2.2.2.2.2.1, hc.2.2.2.2.2.2.2.1, hc.2.2.2.2.2.2.2.2.2.2⟩ hk i9 fun v μ1 hv f1 h1 => ⟨by rw [f1 999 rfl]; exact hx, ?_⟩
  have hm1 := jm_Is hm (jl_sam f1 rfl)
  refine js_2480 (nco := nco) ⟨hm1.2.1, hm1.2.2.2.2.2.2.1, hm1.2.2.2.2.2.2.2.1⟩ hk fun v' μ2 f2 h2 => ⟨(jl_apt' h1 h2).symm, hv, jq_mk hII (jc_Is (jc_If hc f1 rfl) (jl_sac f2 rfl)) (jm_If hm1 f2 rfl rfl) ?_⟩
  rw [f2.1 999 rfl rfl, f1 999 rfl]; exact hx
theorem jp_both (h : jq_inv ξ μ) (ha : qm_r32 a) (hb : qm_r32 b) : jp L (d + 80) ξ 2220 2481 [qm_P 0, qm_I a, qm_I b] [qm_P 13, qm_I a, qm_I b] μ := by
  obtain ⟨n, t, nc, nco, np, lm, lt, sp, pk, cn, N, M, ct, st, s, s1, sf, sb, im, o, f, p, hI, hc, hm, hx⟩ := h
  have hII := hI
  obtain ⟨i1, i2, i3, i4, i5, i6, i7, i8, i9, i10, i11, i12⟩ := hI
  have hk : jd_w0 nc (st 0).1 lm (st 0).2.1 (st 0).2.2.1 (st 0).2.2.2 s s1 sf sb nco := ⟨i2, i7, i8, i4.1.2⟩
  refine js_2220 (nco := nco) ⟨hc.2.1, hc.2.2.2.2.2.2.1, hc.2.2.2.2.2.2.2.1, hc.2.2.2.2.2.2.2.2.2.2⟩ hk ha hb fun v μ1 hv f1 h1 => ⟨by rw [f1 999 rfl]; exact hx, ?_⟩
  have hm1 := jm_Is hm (jl_sam f1 rfl)
  refine js_2481 (nco := nco) ⟨hm1.2.1, hm1.2.2.2.2.2.2.1, hm1.2.2.2.2.2.2.2.1⟩ hk ha hb fun v' μ2 f2 h2 => ⟨(jl_both h1 h2).symm, hv, jq_mk hII (jc_Is (jc_If hc f1 rfl) (jl_sac f2 rfl)) (jm_If hm1 f2 rfl rfl) ?_⟩
  rw [f2.1 999 rfl rfl, f1 999 rfl]; exact hx
theorem jp_near (h : jq_inv ξ μ) (ha : qm_r32 a) : jp L (d + 80) ξ 2221 2484 [qm_P 0, qm_I a] [qm_P 13, qm_I a] μ := by
  obtain ⟨n, t, nc, nco, np, lm, lt, sp, pk, cn, N, M, ct, st, s, s1, sf, sb, im, o, f, p, hI, hc, hm, hx⟩ := h
  have hII := hI
  obtain ⟨i1, i2, i3, i4, i5, i6, i7, i8, i9, i10, i11, i12⟩ := hI
  have hk : jd_w0 nc (st 0).1 lm (st 0).2.1 (st 0).2.2.1 (st 0).2.2.2 s s1 sf sb nco := ⟨i2, i7, i8, i4.1.2⟩
  refine js_2221 (nco := nco) ⟨hc.2.1, hc.2.2.2.2.2.2.1, hc.2.2.2.2.2.2.2.1, hc.2.2.2.2.2.2.2.2.2.2⟩ hk ha fun v μ1 hv f1 h1 => ⟨by rw [f1 999 rfl]; exact hx, ?_⟩
  have hm1 := jm_Is hm (jl_sam f1 rfl)
  refine js_2484 (nco := nco) ⟨hm1.2.1, hm1.2.2.2.2.2.2.1, hm1.2.2.2.2.2.2.2.1⟩ hk ha fun v' h2 => ⟨(jl_nea h1 h2).symm, hv, jq_mk hII (jc_If hc f1 rfl) hm1 ?_⟩
  rw [f1 999 rfl]; exact hx
theorem jp_sure (h : jq_inv ξ μ) (ha : qm_r32 a) (hb : qm_r32 b) : jp L (d + 80) ξ 2224 2490 [qm_P 0, qm_I a, qm_I b] [qm_P 13, qm_I a, qm_I b] μ := by
  obtain ⟨n, t, nc, nco, np, lm, lt, sp, pk, cn, N, M, ct, st, s, s1, sf, sb, im, o, f, p, hI, hc, hm, hx⟩ := h
  have hII := hI
  obtain ⟨i1, i2, i3, i4, i5, i6, i7, i8, i9, i10, i11, i12⟩ := hI
  obtain ⟨c1, c2, c3, c4, c5, c6, c7, c8, c9, c10, c11⟩ := hc
  have hk : jd_w0 nc (st 0).1 lm (st 0).2.1 (st 0).2.2.1 (st 0).2.2.2 s s1 sf sb nco := ⟨i2, i7, i8, i4.1.2⟩
  refine js_2224 (nco := nco) ⟨c2, c7, c8, c11⟩ hk ha hb fun v μ1 hv f1 hw1 h1 => ⟨by rw [f1 999 rfl]; exact hx, ?_⟩
  have hm1 := jm_Is hm (jl_sam f1 rfl)
  have hc1 : jc_I n t nc nco np lm lt sp pk cn N ct st s s1 sf sb im o f p μ1 := ⟨jl_tapc c1 (f1 1 rfl) (f1 14 rfl), hw1.1, jv_acts c3 (f1 7 rfl) (f1 35 rfl) (f1 36 rfl), jw_num c4 (f1 0 rfl) (f1 3 rfl) (f1 7 rfl) (f1 8 rfl) (f1 9 rfl), by rw [f1 20 rfl]; exact c5, jv_nms c6 (f1 3 rfl) (f1 15 rfl) (f1 16 rfl) (f1 17 rfl), hw1.2.1, hw1.2.2.1, jv_img c9 (f1 12 rfl) (f1 45 rfl), by rw [f1 2 rfl]; exact c10, hw1.2.2.2⟩
  refine js_2490 (nco := nco) ⟨hm1.2.1, hm1.2.2.2.2.2.2.1, hm1.2.2.2.2.2.2.2.1⟩ hk ha hb fun v' μ2 f2 h2 => ⟨(jl_sur h1 h2).symm, hv, jq_mk hII (jc_Is hc1 (jl_sac f2 rfl)) (jm_If hm1 f2 rfl rfl) ?_⟩
  rw [f2.1 999 rfl rfl, f1 999 rfl]; exact hx
theorem jp_image (h : jq_inv ξ μ) : jp L (d + 80) ξ 2226 2522 [qm_P 0] [qm_P 13] μ := by
  obtain ⟨n, t, nc, nco, np, lm, lt, sp, pk, cn, N, M, ct, st, s, s1, sf, sb, im, o, f, p, hI, hc, hm, hx⟩ := h
  obtain ⟨i1, i2, i3, i4, i5, i6, i7, i8, i9, i10, i11, i12⟩ := hI
  obtain ⟨c1, c2, c3, c4, c5, c6, c7, c8, c9, c10, c11⟩ := hc
  refine js_2226 c2 i2 fun μ1 f1 hi1 => ⟨by rw [f1 999 rfl]; exact hx, ?_⟩
  have hm1 := jm_Is hm (jl_sam f1 rfl)
  have hc1 : jc_I n t nc nco np lm lt sp pk cn N ct st s s1 sf sb (jd_im nc (st 0).1 + 1) (jd_io nc (st 0).1 (st 0).2.1 (st 0).2.2.1 (st 0).2.2.2) f p μ1 := ⟨jl_tapc c1 (f1 1 rfl) (f1 14 rfl), jl_cbf c2 (f1 6 rfl) (f1 31 rfl) (f1 32 rfl) (f1 33 rfl) (f1 34 rfl), jv_acts c3 (f1 7 rfl) (f1 35 rfl) (f1 36 rfl), jw_num c4 (f1 0 rfl) (f1 3 rfl) (f1 7 rfl) (f1 8 rfl) (f1 9 rfl), by rw [f1 20 rfl]; exact c5, jv_nms c6 (f1 3 rfl) (f1 15 rfl) (f1 16 rfl) (f1 17 rfl), jv_st c7 (f1 8 rfl) (f1 37 rfl), jv_st c8 (f1 9 rfl) (f1 38 rfl), hi1, by rw [f1 2 rfl]; exact c10, by rw [f1 10 rfl]; exact c11⟩
  obtain ⟨m1, m2, m3, m4, m5, m6, m7, m8, m9, m10, m11, m12⟩ := hm1
  have him : jd_im nc (st 0).1 + 1 ≤ 522 := by
    have := jl_imb i2.1 i2.2.1
    have := i2.1
    unfold jd_im; omega
  have hT : ∀ μ2 : qm_M, jd_fm [75] [94] μ1 μ2 → jm_tape n t μ2 := fun μ2 f2 => by
    unfold jm_tape; rw [f2.2 1 rfl, f2.1 46 rfl rfl]; exact m1
  refine js_2522 m2 i2 fun μ2 f2 hi2 => ⟨rfl, ⟨by omega, by omega⟩, jq_mk ⟨i1, i2, i3, i4, i5, i6, i7, i8, i9, ⟨him, fun i hi => ?_⟩, i11, i12⟩ (jc_Is hc1 (jl_sac f2 rfl)) ⟨hT μ2 f2, jm_evb m2 f2 rfl rfl, jw_acts m3 f2 rfl rfl, jw_mnum m4 f2 rfl rfl, by rw [f2.1 62 rfl rfl]; exact m5, jw_mnms m6 f2 rfl, jw_mst m7 f2 rfl, jw_mst m8 f2 rfl, hi2, by rw [f2.2 7 rfl, f2.2 8 rfl]; exact m10, jm_cstf m11 f2 rfl, by rw [f2.1 59 rfl rfl]; exact m12⟩ ?_⟩
  · have := jl_iob i2 i (by omega)
    exact ⟨by omega, by omega⟩
  · rw [f2.1 999 rfl rfl, f1 999 rfl]; exact hx
end
