/-! ===== questions asked, texts read: both sides ===== -/
theorem je_ansb {k : Int} {f : Nat → Int} {n : Nat} (hn : n ≤ 60) (h : ∀ i, i < n → je_n (f i)) : qm_r64 (je_ans k f n) := by
  have b1 := je_fstb f n
  have b2 := je_lstb f n
  have b3 := je_mstb n h
  have b4 := je_leab n h
  have b5 := je_smb n h
  unfold je_n at b3 b4
  unfold je_ans qm_r64
  repeat' split
  all_goals omega
def jpL (L d : Nat) (ξ : Nat → Int) (a b : Nat) (as bs : List qm_V) (μ : qm_M) : Prop := qm_CL (qb_T L) d a as μ (fun r1 μ1 => (∀ k, μ1 999 k = ξ k) ∧ qm_CL (qb_T L) d b bs μ1 (fun r2 μ2 => r2 = r1 ∧ qm_r64 r1 ∧ jq_inv ξ μ2))
section
variable {L d : Nat} {ξ : Nat → Int} {μ : qm_M}
theorem jp_ask (h : jq_inv ξ μ) : jpL L (d + 80) ξ 2225 2519 [qm_P 0] [qm_P 13] μ := by
  obtain ⟨n, t, nc, nco, np, lm, lt, sp, pk, cn, N, M, ct, st, s, s1, sf, sb, im, o, f, p, hI, hc, hm, hx⟩ := h
  obtain ⟨i1, i2, i3, i4, i5, i6, i7, i8, i9, i10, i11, i12⟩ := hI
  obtain ⟨c1, c2, c3, c4, c5, c6, c7, c8, c9, c10, c11⟩ := hc
  have hn := i1.1
  have tk0 : jd_tok 0 t := ⟨by decide, fun i hi => absurd hi (by omega)⟩
  -- the class's side afterwards
  have hc1 : ∀ (μ1 : qm_M) (f' p' : Int), jd_fr [1, 2, 11, 42, 43, 44] μ μ1 → jc_tape 0 t μ1 → μ1 2 6 = f' → μ1 2 7 = p' → jc_I 0 t nc nco np lm lt sp pk cn N ct st s s1 sf sb im o f' p' μ1 := fun μ1 f' p' f1 ht e6 e7 => ⟨ht, jl_cbf c2 (f1 6 rfl) (f1 31 rfl) (f1 32 rfl) (f1 33 rfl) (f1 34 rfl), jv_acts c3 (f1 7 rfl) (f1 35 rfl) (f1 36 rfl), jw_num c4 (f1 0 rfl) (f1 3 rfl) (f1 7 rfl) (f1 8 rfl) (f1 9 rfl), by rw [f1 20 rfl]; exact c5, jv_nms c6 (f1 3 rfl) (f1 15 rfl) (f1 16 rfl) (f1 17 rfl), jv_st c7 (f1 8 rfl) (f1 37 rfl), jv_st c8 (f1 9 rfl) (f1 38 rfl), jv_img c9 (f1 12 rfl) (f1 45 rfl), ⟨e6, e7⟩, by rw [f1 10 rfl]; exact c11⟩
  -- the reference's
  have hm2 : ∀ (μ1 μ2 : qm_M) (f' p' : Int), jm_I n t nc nco np lm lt sp pk cn M ct st s s1 sf sb im o f p μ1 → jd_fm jx_AF jx_AC μ1 μ2 → μ2 13 1 = 0 → μ2 13 7 = f' → μ2 13 8 = p' → jm_I 0 t nc nco np lm lt sp pk cn M ct st s s1 sf sb im o f' p' μ2 := fun μ1 μ2 f' p' hm1 f2 e1 e7 e8 => by
    obtain ⟨m1, m2, m3, m4, m5, m6, m7, m8, m9, m10, m11, m12⟩ := hm1
    exact ⟨⟨e1, fun i hi => absurd hi (by omega)⟩, jm_evb m2 f2 rfl rfl, jw_acts m3 f2 rfl rfl, jw_mnum m4 f2 rfl rfl, by rw [f2.1 62 rfl rfl]; exact m5, jw_mnms m6 f2 rfl, jw_mst m7 f2 rfl, jw_mst m8 f2 rfl, jw_mimg m9 f2 rfl rfl, ⟨e7, e8⟩, jm_cstf m11 f2 rfl, by rw [f2.1 59 rfl rfl]; exact m12⟩
  refine js_2225 (d := d + 19) i1 c1 i2 c2 (fun σ hσ c hcc μ1 f1 e6 e7 ht1 => ⟨by rw [f1 999 rfl]; exact hx, ?_⟩) (fun e he μ1 f1 e6 e7 ht1 => ⟨by rw [f1 999 rfl]; exact hx, ?_⟩)
  · have hm1 := jm_Is hm (jl_sam f1 rfl)
    have hb : qm_r64 (je_ans (jx_qk n t) (je_val nc (st 0).2.1 (st 0).2.2.1 (st 0).2.2.2 σ.2.2 c) (st 0).1) := je_ansb i2.2.1 fun r hr => by
      obtain ⟨c', v, hc', _, hrun, hv, _⟩ := je_ask hn i2 hr (jx_q05 μ (jx_qk n t)) hσ
      have : c' = c := by rw [hcc] at hc'; omega
      subst this
      rw [je_vale hrun]; exact hv
    refine js_2519 (d := d + 68) (D := jx_q0 μ (jx_qk n t)) i1 hm1.1 hm1.2.2.2.2.2.2.2.2.2.2.1 i2 hm1.2.1 (jx_q05 μ (jx_qk n t)) (fun σ' hσ' c' hc' μ2 f2 e1 e7' e8' => ?_) (fun e he => by rw [hσ] at he; cases he)
    have e := Sum.inr.inj (hσ.symm.trans hσ')
    subst e
    have : c' = c := by rw [hcc] at hc'; omega
    subst this
    refine ⟨rfl, hb, jq_mk ⟨tk0, i2, i3, i4, i5, i6, i7, i8, i9, i10, by decide, by decide⟩ (jc_Is (hc1 μ1 0 (-1) f1 ht1 e6 e7) (jl_sac f2 rfl)) (hm2 μ1 μ2 0 (-1) hm1 f2 e1 e7' e8') ?_⟩
    rw [f2.1 999 rfl rfl, f1 999 rfl]; exact hx
  · have hm1 := jm_Is hm (jl_sam f1 rfl)
    have hbd := (je_askb (n := n) (t := t) (D := jx_q0 μ (jx_qk n t))).1 e he
    refine js_2519 (d := d + 68) (D := jx_q0 μ (jx_qk n t)) i1 hm1.1 hm1.2.2.2.2.2.2.2.2.2.2.1 i2 hm1.2.1 (jx_q05 μ (jx_qk n t)) (fun σ' hσ' => by rw [he] at hσ'; cases hσ') (fun e' he' μ2 f2 e1 e7' e8' => ?_)
    have ee := Sum.inl.inj (he.symm.trans he')
    subst ee
    refine ⟨rfl, by decide, jq_mk ⟨tk0, i2, i3, i4, i5, i6, i7, i8, i9, i10, ⟨by omega, by omega⟩, ⟨by omega, by omega⟩⟩ (jc_Is (hc1 μ1 e.1 e.2 f1 ht1 e6 e7) (jl_sac f2 rfl)) (hm2 μ1 μ2 e.1 e.2 hm1 f2 e1 e7' e8') ?_⟩
    rw [f2.1 999 rfl rfl, f1 999 rfl]; exact hx
theorem jp_text (h : jq_inv ξ μ) : jp L (d + 80) ξ 2203 2432 [qm_P 0] [qm_P 13] μ := by
  obtain ⟨n, t, nc, nco, np, lm, lt, sp, pk, cn, N, M, ct, st, s, s1, sf, sb, im, o, f, p, hI, hc, hm, hx⟩ := h
  obtain ⟨i1, i2, i3, i4, i5, i6, i7, i8, i9, i10, i11, i12⟩ := hI
  obtain ⟨c1, c2, c3, c4, c5, c6, c7, c8, c9, c10, c11⟩ := hc
  have hn := i1.1
  have tk0 : jd_tok 0 t := ⟨by decide, fun i hi => absurd hi (by omega)⟩
  obtain ⟨e0, e1, e2, e3, e4, e5, e6⟩ := jl_e0f μ
  refine js_2203 i1 c1 (fun σ k0 k1 k2 hσ hinv nr sp' μ1 hws hok f1 hB htold h11 h012 h73 h80 h90 h26 h27 => ⟨by rw [f1 999 rfl]; exact hx, ?_⟩) (fun e he μ1 f1 h11 h26 h27 => ⟨by rw [f1 999 rfl]; exact hx, ?_⟩)
  · have hm1 := jm_Is hm (jl_sam f1 rfl)
    obtain ⟨m1, m2, m3, m4, m5, m6, m7, m8, m9, m10, m11, m12⟩ := hm1
    refine js_2432 i1 m1 m11 (jl_inv0 μ) ⟨e0, e4, e5, e6⟩ (fun σ' l0 l1 l2 hσ' hinv' nr' sp2 μ2 hws' hok' f2 hM h59 hnm h62 h1330 h1339 h690 h691 h1335 h131 h137 h138 => ?_) (fun e he => by rw [hσ] at he; cases he)
    have e := Sum.inr.inj (hσ.symm.trans hσ')
    subst e
    obtain ⟨⟨q1, q2, q3, q4, q5, q6, q7⟩, _, ⟨cl, hcl, hcl60⟩, h40, h44, _, h26', h27', h28, _⟩ := id hinv
    obtain ⟨⟨r1, r2, r3, _⟩, _⟩ := id hinv'
    obtain rfl : l0 = k0 := by omega
    obtain rfl : l1 = k1 := by omega
    obtain rfl : l2 = k2 := by omega
    obtain ⟨w1, w2⟩ := jl_wst hws hws'
    subst w1
    subst w2
    have hsp : -1 ≤ sp' ∧ sp' ≤ 60 := by
      obtain ⟨_, _, hw⟩ := hws
      rw [hcl, Int.toNat_natCast] at hw
      rcases hw with ⟨_, z⟩ | ⟨z1, z2, _⟩ <;> omega
    obtain ⟨t1, t2, t3, t4, t5, t6, t7, t8, t9⟩ := htold
    refine ⟨rfl, ⟨by omega, by omega⟩, jq_mk (n := 0) (t := t) (nc := l1) (nco := (l0 : Int)) (np := (l2 : Int)) (lm := σ.2.2 4 4) (lt := σ.2.2 4 5) (sp := sp') (pk := σ.2.2 28) (cn := fun q => if q = 0 then l0 else if q = 1 then l1 else l2) (N := fun q => if q = 0 then σ.2.2 23 else if q = 1 then σ.2.2 24 else σ.2.2 25) (M := fun q i => μ2 60 (24 + 8 * q + i)) (ct := 0) (st := fun _ => (nr, σ.2.2 26, jx_th σ.2.2, jx_T σ.2.2)) (s := 0) (s1 := 0) (sf := sf) (sb := sb) (im := im) (o := o) (f := 0) (p := -1) ⟨tk0, hok, by decide, ⟨⟨by omega, by omega⟩, ⟨by omega, by omega⟩, ⟨by omega, by omega⟩, hsp, by decide, by decide, by decide⟩, ?_, ⟨q4, ?_⟩, ⟨by decide, fun r c hr => absurd hr (by omega)⟩, ⟨by decide, fun r c hr => absurd hr (by omega)⟩, fun z => absurd z (by decide), i10, by decide, by decide⟩ (jc_Is (μ := μ1) ?_ (jl_sac f2 rfl)) ?_ ?_⟩
    · exact fun p hp => h28 p (by omega)
    · intro q i hq hi
      have hq3 : q = 0 ∨ q = 1 ∨ q = 2 := by omega
      rcases hq3 with rfl | rfl | rfl
      · have := hnm.1 i hi
        rw [show 24 + (8 * 0 + i) = 24 + 8 * 0 + i by omega] at this
        exact this
      · have := hnm.2.1 i hi
        rw [show 24 + (8 * 1 + i) = 24 + 8 * 1 + i by omega] at this
        exact this
      · have := hnm.2.2 i hi
        rw [show 24 + (8 * 2 + i) = 24 + 8 * 2 + i by omega] at this
        exact this
    · refine ⟨⟨h11, fun i hi => absurd hi (by omega)⟩, hB, ⟨h73, fun i hi => absurd hi (by omega)⟩, ⟨(t1 1 (by decide)).trans q1, (t1 2 (by decide)).trans q2, (t1 3 (by decide)).trans q3, t1 4 (by decide), t1 5 (by decide), h012, h73, h80, h90⟩, fun p hp => t7 p (by omega), ⟨⟨(t1 1 (by decide)).trans q1, (t1 2 (by decide)).trans q2, (t1 3 (by decide)).trans q3⟩, fun i hi => t2 i ?_, fun i hi => t3 i ?_, fun i hi => t4 i ?_⟩, ⟨h80, fun r c hr => absurd hr (by omega)⟩, ⟨h90, fun r c hr => absurd hr (by omega)⟩, jv_img c9 (f1 12 rfl) (f1 45 rfl), ⟨h26, h27⟩, by rw [f1 10 rfl]; exact c11⟩
      · have hi' : i < l0 := hi
        omega
      · have hi' : i < l1 := hi
        omega
      · have hi' : i < l2 := hi
        omega
    · refine ⟨⟨h131, fun i hi => absurd hi (by omega)⟩, hM, ⟨h1339, ?_⟩, ⟨h59.1, h59.2.2, h1330, h1335, h1339, h690, h691⟩, fun p hp => h62 p (by omega), ⟨fun q hq => ?_, fun q i hq hi => rfl⟩, ⟨h690, fun r c hr => absurd hr (by omega)⟩, ⟨h691, fun r c hr => absurd hr (by omega)⟩, jw_mimg m9 f2 rfl rfl, ⟨h137, h138⟩, jm_cstf m11 f2 rfl, h59.2.1⟩
      · obtain ⟨_, nw, x1, x2, _⟩ := m3
        exact ⟨nw, x1, by rw [f2.2 40 rfl]; exact x2, fun i hi => absurd hi (by omega)⟩
      · have hq3 : q = 0 ∨ q = 1 ∨ q = 2 := by omega
        rcases hq3 with rfl | rfl | rfl
        · exact h59.1
        · exact h59.2.1
        · exact h59.2.2
    · rw [f2.1 999 rfl rfl, f1 999 rfl]; exact hx
  · have hm1 := jm_Is hm (jl_sam f1 rfl)
    obtain ⟨m1, m2, m3, m4, m5, m6, m7, m8, m9, m10, m11, m12⟩ := hm1
    have hbd := (je_txq (n := n) (t := t) 72 (0, false, jx_e0 μ) (Nat.zero_le n)).1 e he
    have hc1 : jc_I 0 t nc nco np lm lt sp pk cn N ct st s s1 sf sb im o e.1 e.2 μ1 := ⟨⟨h11, fun i hi => absurd hi (by omega)⟩, jl_cbf c2 (f1 6 rfl) (f1 31 rfl) (f1 32 rfl) (f1 33 rfl) (f1 34 rfl), jv_acts c3 (f1 7 rfl) (f1 35 rfl) (f1 36 rfl), jw_num c4 (f1 0 rfl) (f1 3 rfl) (f1 7 rfl) (f1 8 rfl) (f1 9 rfl), by rw [f1 20 rfl]; exact c5, jv_nms c6 (f1 3 rfl) (f1 15 rfl) (f1 16 rfl) (f1 17 rfl), jv_st c7 (f1 8 rfl) (f1 37 rfl), jv_st c8 (f1 9 rfl) (f1 38 rfl), jv_img c9 (f1 12 rfl) (f1 45 rfl), ⟨h26, h27⟩, by rw [f1 10 rfl]; exact c11⟩
    refine js_2432 i1 m1 m11 (jl_inv0 μ) ⟨e0, e4, e5, e6⟩ (fun σ' l0 l1 l2 hσ' => by rw [he] at hσ'; cases hσ') (fun e' he' μ2 f2 hup h131 h137 h138 => ?_)
    have ee := Sum.inl.inj (he.symm.trans he')
    subst ee
    obtain ⟨u1, u2, u3, u4, u5⟩ := hup
    refine ⟨rfl, by decide, jq_mk ⟨tk0, i2, i3, i4, i5, i6, i7, i8, i9, i10, ⟨by omega, by omega⟩, ⟨by omega, by omega⟩⟩ (jc_Is hc1 (jl_sac f2 rfl)) ⟨⟨h131, fun i hi => absurd hi (by omega)⟩, jl_mbf m2 (u1 4 (by decide)) (f2.2 37 rfl) (u5 1 (by decide)) u3 (f2.1 67 rfl rfl), jw_acts m3 f2 rfl rfl, ?_, fun p hp => by rw [u4 (6 + p) (by omega)]; exact m5 p hp, ⟨fun q hq => by rw [u1 (3 + q) (by omega)]; exact m6.1 q hq, fun q i hq hi => by rw [u2 (24 + 8 * q + i) (by omega)]; exact m6.2 q i hq hi⟩, jw_mst m7 f2 rfl, jw_mst m8 f2 rfl, jw_mimg m9 f2 rfl rfl, ⟨h137, h138⟩, jm_cstf m11 f2 rfl, by rw [u1 4 (by decide)]; exact m12⟩ ?_⟩
    · obtain ⟨n1, n2, n3, n4, n5, n6, n7⟩ := m4
      unfold jm_num
      rw [u1 3 (by decide), u1 5 (by decide), f2.2 30 rfl, f2.2 35 rfl, f2.2 39 rfl, f2.1 69 rfl rfl]
      exact ⟨n1, n2, n3, n4, n5, n6, n7⟩
    · rw [f2.1 999 rfl rfl, f1 999 rfl]; exact hx
end
