/-! ===== answers are ints ===== -/
section
variable {nc nr : Nat} {lm : Int} {sd : Nat → Int} {th T : Nat → Nat → Int}
theorem jr_tw (hO : jd_ok nc nr lm sd th T) {r c : Nat} (hr : r ≤ nr) (hc : c < nc) : -40 ≤ jd_tw (fun i => T i c) r ∧ jd_tw (fun i => T i c) r ≤ 40 := by
  have h1 := hO.2.2.1
  have h2 := hO.2.2.2.2.2.2 r c hr hc
  omega
theorem jr_th (hO : jd_ok nc nr lm sd th T) {c : Nat} (x : Int) (hc : c < nc) : 0 ≤ th c (jd_c4 x) ∧ th c (jd_c4 x) < 6 := hO.2.2.2.2.1 c _ hc (jl_c4 x)
end
theorem jr_flt {f p : Int} (hf : qm_r32 f) (hp : qm_r32 p) (a : Int) : qm_r32 (jd_flt f p a) := by
  unfold jd_flt
  split
  · exact hf
  · split
    · exact hp
    · decide
theorem jr_let (cn : Nat → Nat) (N : Nat → Nat → Int) (a w k : Int) : qm_r32 (jd_let cn N a w k) := by
  unfold jd_let
  split
  · unfold qm_r32; omega
  · decide
theorem jr_oct {n : Nat} {o : Nat → Int} (h : ∀ i, i < n → qm_r32 (o i)) (a : Int) : qm_r32 (jd_oct n o a) := by
  unfold jd_oct
  split
  · decide
  · exact h a.toNat (by omega)
/-! ===== calls that read ===== -/
section
variable {L d : Nat} {ξ : Nat → Int} {μ : qm_M} {n : Nat} {t : Nat → Int} {nc : Nat} {nco np lm lt sp : Int} {pk : Nat → Int} {cn : Nat → Nat} {N M : Nat → Nat → Int} {ct : Nat} {st : Nat → jd_B} {s s1 : Nat} {sf sb : Nat → Nat → Int} {im : Nat} {o : Nat → Int} {f p : Int}
theorem jq_mk (hI : jd_I n t nc nco np lm lt sp pk cn N M ct st s s1 sf sb im o f p) (hc : jc_I n t nc nco np lm lt sp pk cn N ct st s s1 sf sb im o f p μ) (hm : jm_I n t nc nco np lm lt sp pk cn M ct st s s1 sf sb im o f p μ) (hx : ∀ k, μ 999 k = ξ k) : jq_inv ξ μ :=
  ⟨n, t, nc, nco, np, lm, lt, sp, pk, cn, N, M, ct, st, s, s1, sf, sb, im, o, f, p, hI, hc, hm, hx⟩
end
section
variable {L d : Nat} {ξ : Nat → Int} {μ : qm_M} {a b c : Int}
theorem jp_fault (h : jq_inv ξ μ) (ha : qm_r32 a) : jp L (d + 80) ξ 2204 2434 [qm_P 0, qm_I a] [qm_P 13, qm_I a] μ := by
  have hh := h
  obtain ⟨n, t, nc, nco, np, lm, lt, sp, pk, cn, N, M, ct, st, s, s1, sf, sb, im, o, f, p, hI, hc, hm, hx⟩ := h
  obtain ⟨i1, i2, i3, i4, i5, i6, i7, i8, i9, i10, i11, i12⟩ := hI
  obtain ⟨c1, c2, c3, c4, c5, c6, c7, c8, c9, c10, c11⟩ := hc
  obtain ⟨m1, m2, m3, m4, m5, m6, m7, m8, m9, m10, m11, m12⟩ := hm
  exact js_2204 c10.1 c10.2 ha ⟨hx, js_2434 m10.1 m10.2 ha ⟨rfl, jr_flt i11 i12 a, hh⟩⟩
theorem jp_loom (h : jq_inv ξ μ) (ha : qm_r32 a) : jp L (d + 80) ξ 2205 2455 [qm_P 0, qm_I a] [qm_P 13, qm_I a] μ := by
  have hh := h
  obtain ⟨n, t, nc, nco, np, lm, lt, sp, pk, cn, N, M, ct, st, s, s1, sf, sb, im, o, f, p, hI, hc, hm, hx⟩ := h
  obtain ⟨i1, i2, i3, i4, i5, i6, i7, i8, i9, i10, i11, i12⟩ := hI
  obtain ⟨c1, c2, c3, c4, c5, c6, c7, c8, c9, c10, c11⟩ := hc
  obtain ⟨m1, m2, m3, m4, m5, m6, m7, m8, m9, m10, m11, m12⟩ := hm
  refine js_2205 c2 i2 c4 ha fun v hv hr => ⟨hx, js_2455 m2 i2 m4 ha fun v' hv' hr' => ⟨?_, jr_loom i2 i4 ⟨by omega, by omega⟩, hh⟩⟩
  rw [jl_rh hr hr']
theorem jp_letter (h : jq_inv ξ μ) (ha : qm_r32 a) (hb : qm_r32 b) (hc' : qm_r32 c) : jp L (d + 80) ξ 2206 2456 [qm_P 0, qm_I a, qm_I b, qm_I c] [qm_P 13, qm_I a, qm_I b, qm_I c] μ := by
  have hh := h
  obtain ⟨n, t, nc, nco, np, lm, lt, sp, pk, cn, N, M, ct, st, s, s1, sf, sb, im, o, f, p, hI, hc, hm, hx⟩ := h
  obtain ⟨i1, i2, i3, i4, i5, i6, i7, i8, i9, i10, i11, i12⟩ := hI
  obtain ⟨c1, c2, c3, c4, c5, c6, c7, c8, c9, c10, c11⟩ := hc
  obtain ⟨m1, m2, m3, m4, m5, m6, m7, m8, m9, m10, m11, m12⟩ := hm
  exact js_2206 i6 c6 ⟨ha, hb, hc'⟩ ⟨hx, js_2456 i6 m6 ⟨ha, hb, hc'⟩ ⟨rfl, jr_let cn N a b c, hh⟩⟩
theorem jp_card (h : jq_inv ξ μ) (ha : qm_r32 a) (hb : qm_r32 b) : jp L (d + 80) ξ 2207 2458 [qm_P 0, qm_I a, qm_I b] [qm_P 13, qm_I a, qm_I b] μ := by
  have hh := h
  obtain ⟨n, t, nc, nco, np, lm, lt, sp, pk, cn, N, M, ct, st, s, s1, sf, sb, im, o, f, p, hI, hc, hm, hx⟩ := h
  obtain ⟨i1, i2, i3, i4, i5, i6, i7, i8, i9, i10, i11, i12⟩ := hI
  obtain ⟨c1, c2, c3, c4, c5, c6, c7, c8, c9, c10, c11⟩ := hc
  obtain ⟨m1, m2, m3, m4, m5, m6, m7, m8, m9, m10, m11, m12⟩ := hm
  exact js_2207 c2 i2 ha hb ⟨hx, js_2458 m2 i2 ha hb ⟨rfl, jr_card i2, hh⟩⟩
theorem jp_pack (h : jq_inv ξ μ) (ha : qm_r32 a) (hb : qm_r32 b) : jp L (d + 80) ξ 2208 2459 [qm_P 0, qm_I a, qm_I b] [qm_P 13, qm_I a, qm_I b] μ := by
  have hh := h
  obtain ⟨n, t, nc, nco, np, lm, lt, sp, pk, cn, N, M, ct, st, s, s1, sf, sb, im, o, f, p, hI, hc, hm, hx⟩ := h
  obtain ⟨i1, i2, i3, i4, i5, i6, i7, i8, i9, i10, i11, i12⟩ := hI
  obtain ⟨c1, c2, c3, c4, c5, c6, c7, c8, c9, c10, c11⟩ := hc
  obtain ⟨m1, m2, m3, m4, m5, m6, m7, m8, m9, m10, m11, m12⟩ := hm
  exact js_2208 c2 i2 c4 i4 i5 c5 ha hb ⟨hx, js_2459 m2 i2 m4 i4 i5 m5 ha hb ⟨rfl, jr_pack, hh⟩⟩
theorem jp_belt (h : jq_inv ξ μ) (ha : qm_r32 a) (hb : qm_r32 b) (hc' : qm_r32 c) : jp L (d + 80) ξ 2209 2460 [qm_P 0, qm_I a, qm_I b, qm_I c] [qm_P 13, qm_I a, qm_I b, qm_I c] μ := by
  have hh := h
  obtain ⟨n, t, nc, nco, np, lm, lt, sp, pk, cn, N, M, ct, st, s, s1, sf, sb, im, o, f, p, hI, hc, hm, hx⟩ := h
  obtain ⟨i1, i2, i3, i4, i5, i6, i7, i8, i9, i10, i11, i12⟩ := hI
  obtain ⟨c1, c2, c3, c4, c5, c6, c7, c8, c9, c10, c11⟩ := hc
  obtain ⟨m1, m2, m3, m4, m5, m6, m7, m8, m9, m10, m11, m12⟩ := hm
  exact js_2209 c2 i2 ha hb hc' ⟨hx, js_2460 m2 i2 ha hb hc' ⟨rfl, jr_belt i2, hh⟩⟩
theorem jp_shown (h : jq_inv ξ μ) (ha : qm_r32 a) (hb : b = 0 ∨ b = 1) : jp L (d + 80) ξ 2210 2461 [qm_P 0, qm_I a, qm_I b] [qm_P 13, qm_I a, qm_I b] μ := by
  have hh := h
  obtain ⟨n, t, nc, nco, np, lm, lt, sp, pk, cn, N, M, ct, st, s, s1, sf, sb, im, o, f, p, hI, hc, hm, hx⟩ := h
  obtain ⟨i1, i2, i3, i4, i5, i6, i7, i8, i9, i10, i11, i12⟩ := hI
  obtain ⟨c1, c2, c3, c4, c5, c6, c7, c8, c9, c10, c11⟩ := hc
  obtain ⟨m1, m2, m3, m4, m5, m6, m7, m8, m9, m10, m11, m12⟩ := hm
  exact js_2210 c2 i2 c4 i4 ha hb ⟨hx, js_2461 m2 i2 m4 i4 ha hb ⟨rfl, jr_shown i2, hh⟩⟩
theorem jp_octet (h : jq_inv ξ μ) (ha : qm_r32 a) : jp L (d + 80) ξ 2227 2523 [qm_P 0, qm_I a] [qm_P 13, qm_I a] μ := by
  have hh := h
  obtain ⟨n, t, nc, nco, np, lm, lt, sp, pk, cn, N, M, ct, st, s, s1, sf, sb, im, o, f, p, hI, hc, hm, hx⟩ := h
  obtain ⟨i1, i2, i3, i4, i5, i6, i7, i8, i9, i10, i11, i12⟩ := hI
  obtain ⟨c1, c2, c3, c4, c5, c6, c7, c8, c9, c10, c11⟩ := hc
  obtain ⟨m1, m2, m3, m4, m5, m6, m7, m8, m9, m10, m11, m12⟩ := hm
  exact js_2227 i10.1 c9.1 c9.2 ha ⟨hx, js_2523 i10.1 m9.1 m9.2 ha ⟨rfl, jr_oct i10.2 a, hh⟩⟩
theorem jp_wrong (h : jq_inv ξ μ) (ha : qm_r32 a) : jp L (d + 80) ξ 2222 2487 [qm_P 0, qm_I a] [qm_P 13, qm_I a] μ := by
  have hh := h
  obtain ⟨n, t, nc, nco, np, lm, lt, sp, pk, cn, N, M, ct, st, s, s1, sf, sb, im, o, f, p, hI, hc, hm, hx⟩ := h
  obtain ⟨i1, i2, i3, i4, i5, i6, i7, i8, i9, i10, i11, i12⟩ := hI
  obtain ⟨c1, c2, c3, c4, c5, c6, c7, c8, c9, c10, c11⟩ := hc
  obtain ⟨m1, m2, m3, m4, m5, m6, m7, m8, m9, m10, m11, m12⟩ := hm
  exact js_2222 c2 i2 c7 i7 i4.1.2 ha ⟨hx, js_2487 m2 i2 m7 i7 i4.1.2 ha ⟨rfl, jr_wrong i7.1 i2.1, hh⟩⟩
theorem jp_mend (h : jq_inv ξ μ) : jp L (d + 80) ξ 2223 2489 [qm_P 0] [qm_P 13] μ := by
  have hh := h
  obtain ⟨n, t, nc, nco, np, lm, lt, sp, pk, cn, N, M, ct, st, s, s1, sf, sb, im, o, f, p, hI, hc, hm, hx⟩ := h
  obtain ⟨i1, i2, i3, i4, i5, i6, i7, i8, i9, i10, i11, i12⟩ := hI
  obtain ⟨c1, c2, c3, c4, c5, c6, c7, c8, c9, c10, c11⟩ := hc
  obtain ⟨m1, m2, m3, m4, m5, m6, m7, m8, m9, m10, m11, m12⟩ := hm
  refine js_2223 c2 i2 c7 i7 i4.1.2 fun v hv => ⟨hx, js_2489 m2 i2 m7 i7 i4.1.2 ⟨v, hv⟩ fun v' hv' => ⟨by rw [jl_md hv hv'], ?_, hh⟩⟩
  have h1 := hv.1
  have h2 := i2.2.1
  unfold jd_mend qm_r32
  split
  · decide
  · omega
end
