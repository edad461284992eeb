/-! ===== a loom's text, pure ===== -/
noncomputable def jx_if {α : Type} (P : Prop) (a b : α) : α := @ite α P (Classical.propDecidable P) a b
theorem jx_ifp {α : Type} {P : Prop} {a b : α} (h : P) : jx_if P a b = a := by unfold jx_if; rw [if_pos h]
theorem jx_ifn {α : Type} {P : Prop} {a b : α} (h : ¬ P) : jx_if P a b = b := by unfold jx_if; rw [if_neg h]
def jx_bd {A B : Type} (x : Sum (Int × Int) A) (f : A → Sum (Int × Int) B) : Sum (Int × Int) B := match x with
  | .inl e => .inl e
  | .inr a => f a
noncomputable def jx_nmq (n : Nat) (t : Nat → Int) (b : Nat) (m : Bool) : Sum (Int × Int) (Nat × Int) :=
  jx_if (jx_isL n t b m ∧ ¬ jx_own n t b) (jx_if (jx_we n t b - jx_st n t b ≤ 6) (.inr (jx_we n t b, jd_n5 (fun i => t (jx_st n t b + i) - 96) (jx_we n t b - jx_st n t b))) (.inl (1, ((jx_st n t b + 6 : Nat) : Int)))) (.inl (1, ((jx_st n t b : Nat) : Int)))
noncomputable def jx_knq (n : Nat) (t : Nat → Int) (b : Nat) (m : Bool) (N : Nat → Int) (c : Nat) : Sum (Int × Int) (Nat × Int) :=
  jx_bd (jx_nmq n t b m) fun r => if jd_pl N r.2 c = -1 then .inl (3, ((jx_st n t b : Nat) : Int)) else .inr (r.1, jd_pl N r.2 c)
noncomputable def jx_newq (n : Nat) (t : Nat → Int) (b : Nat) (m : Bool) (D : qm_M) : Sum (Int × Int) (Nat × Int) :=
  jx_bd (jx_nmq n t b m) fun r => if jd_pl (D 23) r.2 (D 4 1).toNat = -1 ∧ jd_pl (D 24) r.2 (D 4 2).toNat = -1 ∧ jd_pl (D 25) r.2 (D 4 3).toNat = -1 then .inr (r.1, r.2) else .inl (3, ((jx_st n t b : Nat) : Int))
/-- what the class keeps of a text -/
def jx_DF : List Nat := [2, 4, 5, 23, 24, 25, 26, 27, 28, 29, 30]
def jx_DC : List Nat := [4, 5, 23, 24, 25, 26, 27, 28, 29, 30]
def jc_dr (D μ : qm_M) : Prop := ∀ a, jx_DC.contains a = true → μ a = D a
def jc_at (μ0 : qm_M) (n : Nat) (t : Nat → Int) (b : Nat) (m : Bool) (D μ : qm_M) : Prop := jd_fr jx_DF μ0 μ ∧ jc_tok n t b m μ ∧ μ 2 6 = 0 ∧ μ 2 7 = -1 ∧ jc_dr D μ ∧ b ≤ n ∧ jc_tape n t μ
def jc_no (μ0 : qm_M) (e : Int × Int) (μ : qm_M) : Prop := jd_fr jx_DF μ0 μ ∧ μ 2 6 = e.1 ∧ μ 2 7 = e.2
/-- the draft's numbers -/
def jx_dok (D : qm_M) (c0 c1 c2 : Nat) : Prop := D 4 1 = (c0 : Int) ∧ D 4 2 = (c1 : Int) ∧ D 4 3 = (c2 : Int) ∧ (c0 ≤ 6 ∧ c1 ≤ 8 ∧ c2 ≤ 6) ∧ (∀ i, i < c0 → ∃ y, jx_nm (D 23 i) y) ∧ (∀ i, i < c1 → ∃ y, jx_nm (D 24 i) y) ∧ (∀ i, i < c2 → ∃ y, jx_nm (D 25 i) y)
section
variable {L d n : Nat} {t : Nat → Int} {b : Nat} {m : Bool} {D μ0 μ : qm_M} {Q : Int → qm_M → Prop} {V : qm_M → Prop} {c0 c1 c2 : Nat}
theorem jx_nmk (hb : b ≤ n) (h1 : jx_isL n t b m) (h3 : jx_we n t b - jx_st n t b ≤ 6) : jx_nm (jd_n5 (fun i => t (jx_st n t b + i) - 96) (jx_we n t b - jx_st n t b)) (jd_n27 (fun i => t (jx_st n t b + i) - 96) (jx_we n t b - jx_st n t b)) := by
  have hw := jx_wes t hb
  have hlt := jx_wlt hb h1.1 h1.2.1
  refine ⟨jx_we n t b - jx_st n t b, _, by omega, h3, fun i hi => ?_, rfl, rfl⟩
  have := hw.2.2.1 (jx_st n t b + i) (by omega) (by omega)
  unfold jx_le at this
  omega
theorem jx_nmq1 (h1 : jx_isL n t b m) (h2 : ¬ jx_own n t b) (h3 : jx_we n t b - jx_st n t b ≤ 6) : jx_nmq n t b m = .inr (jx_we n t b, jd_n5 (fun i => t (jx_st n t b + i) - 96) (jx_we n t b - jx_st n t b)) := by
  unfold jx_nmq; rw [jx_ifp ⟨h1, h2⟩, jx_ifp h3]
theorem jx_nmq2 (h1 : jx_isL n t b m) (h2 : ¬ jx_own n t b) (h3 : ¬ jx_we n t b - jx_st n t b ≤ 6) : jx_nmq n t b m = .inl (1, ((jx_st n t b + 6 : Nat) : Int)) := by
  unfold jx_nmq; rw [jx_ifp ⟨h1, h2⟩, jx_ifn h3]
theorem jx_nmq3 (h1 : ¬ (jx_isL n t b m ∧ ¬ jx_own n t b)) : jx_nmq n t b m = .inl (1, ((jx_st n t b : Nat) : Int)) := by
  unfold jx_nmq; rw [jx_ifn h1]
theorem jx_nmqr {r : Nat × Int} (hb : b ≤ n) (h : jx_nmq n t b m = .inr r) : jx_isL n t b m ∧ ¬ jx_own n t b ∧ jx_we n t b - jx_st n t b ≤ 6 ∧ r = (jx_we n t b, jd_n5 (fun i => t (jx_st n t b + i) - 96) (jx_we n t b - jx_st n t b)) ∧ b < jx_we n t b ∧ jx_we n t b ≤ n := by
  by_cases q : jx_isL n t b m ∧ ¬ jx_own n t b
  · by_cases q2 : jx_we n t b - jx_st n t b ≤ 6
    · rw [jx_nmq1 q.1 q.2 q2] at h
      have hw := jx_wes t hb
      have hlt := jx_wlt hb q.1.1 q.1.2.1
      have hst := jx_stb (t := t) hb
      exact ⟨q.1, q.2, q2, (Sum.inr.inj h).symm, by omega, hw.2.1⟩
    · rw [jx_nmq2 q.1 q.2 q2] at h; cases h
  · rw [jx_nmq3 q] at h; cases h
theorem jl_drset {a k : Nat} {z : Int} (h : jc_dr D μ) : jc_dr (qm_set D a k z) (qm_set μ a k z) := fun c hc => by
  funext k'
  unfold qm_set
  rw [h c hc]
theorem jl_tokc {μ' : qm_M} (h : jc_tok n t b m μ) (e : μ' 2 = μ 2) : jc_tok n t b m μ' := by
  unfold jc_tok at *; rw [e]; exact h
theorem jl_tapc {μ' : qm_M} (h : jc_tape n t μ) (e : μ' 1 = μ 1) (e2 : μ' 14 = μ 14) : jc_tape n t μ' := by
  unfold jc_tape at *; rw [e, e2]; exact h
theorem jl_atset {a k : Nat} {z : Int} (h : jc_at μ0 n t b m D μ) (ha : jx_DC.contains a = true) : jc_at μ0 n t b m (qm_set D a k z) (qm_set μ a k z) := by
  obtain ⟨h1, h2, h3, h4, h5, h6, h7⟩ := h
  have e : ∀ c, jx_DC.contains c = false → (qm_set μ a k z) c = μ c := fun c hc => jl_sn _ _ _ (fun q => by rw [q, ha] at hc; cases hc)
  have hD : jx_DF.contains a = true := by
    have : a ∈ jx_DC := List.contains_iff_mem.mp ha
    exact List.contains_iff_mem.mpr (List.mem_cons_of_mem _ this)
  refine ⟨jf_set h1 hD, jl_tokc h2 (e 2 rfl), ?_, ?_, jl_drset h5, h6, jl_tapc h7 (e 1 rfl) (e 14 rfl)⟩
  · rw [e 2 rfl]; exact h3
  · rw [e 2 rfl]; exact h4
theorem jl_atput {a n0 : Nat} {i z : Int} (h : jc_at μ0 n t b m D μ) (ha : jx_DC.contains a = true) : jc_at μ0 n t b m (jd_put D a n0 i z) (jd_put μ a n0 i z) := by
  unfold jd_put
  split
  · exact jl_atset h ha
  · exact h
theorem jl_ats {μ' : qm_M} {b' : Nat} {m' : Bool} (h : jc_at μ0 n t b m D μ) (hf : jd_f2 μ μ') (hx : jc_tok n t b' m' μ') (hb : b' ≤ n) : jc_at μ0 n t b' m' D μ' := by
  obtain ⟨h1, h2, h3, h4, h5, h6, h7⟩ := h
  obtain ⟨f1, f2, f3⟩ := hf
  refine ⟨jf_trans h1 (jf_sub f1 rfl), hx, f2.trans h3, f3.trans h4, fun a ha => ?_, hb, jl_tapc h7 (f1 1 rfl) (f1 14 rfl)⟩
  rw [f1 a ?_]
  · exact h5 a ha
  · cases q : [2].contains a with
    | false => rfl
    | true =>
      have : a = 2 := by simpa using q
      rw [this] at ha; exact absurd ha (by decide)
theorem jl_atn {μ' : qm_M} {k p : Int} (h : jc_at μ0 n t b m D μ) (hf : jd_fr [2] μ μ') (h6 : μ' 2 6 = k) (h7 : μ' 2 7 = p) : jc_no μ0 (k, p) μ' :=
  ⟨jf_trans h.1 (jf_sub hf rfl), h6, h7⟩
theorem js_804 {x : Int} (h : jc_dr D μ) (hD : jx_dok D c0 c1 c2) (hx : qm_r32 x) (H0 : jd_pl (D 23) x (D 4 1).toNat = -1 ∧ jd_pl (D 24) x (D 4 2).toNat = -1 ∧ jd_pl (D 25) x (D 4 3).toNat = -1 → Q 0 μ) (H1 : ¬ (jd_pl (D 23) x (D 4 1).toNat = -1 ∧ jd_pl (D 24) x (D 4 2).toNat = -1 ∧ jd_pl (D 25) x (D 4 3).toNat = -1) → Q 1 μ) : qm_CI (qb_T L) (d + 2) 804 [qm_P 4, qm_I x] μ Q := by
  obtain ⟨d1, d2, d3, d4, d5, d6, d7⟩ := hD
  have r32 : ∀ z, (∃ y, jx_nm z y) → qm_r32 z := fun z ⟨y, hy⟩ => by have := (jl_nmb hy).1; unfold qm_r32; omega
  have plr : ∀ (N : Nat → Int) (c : Nat), c ≤ 8 → qm_r32 (jd_pl N x c) := fun N c hc => by
    rcases jl_plb (N := N) (x := x) c with e | ⟨k, k1, k2, _⟩
    · rw [e]; decide
    · rw [k2]; unfold qm_r32; omega
  rw [d1, d2, d3, Int.toNat_natCast, Int.toNat_natCast, Int.toNat_natCast] at H0 H1
  have e4 := h 4 rfl
  have one : ¬ (jd_pl (D 23) x c0 = -1 ∧ jd_pl (D 24) x c1 = -1 ∧ jd_pl (D 25) x c2 = -1) → qm_W (qb_T L) (d + 2) 804 48 [qm_P 4, qm_I x] [] μ (fun v μ' => ∃ r, v = some (.inl r) ∧ Q r μ') := fun z => b804_48 μ _ _ ⟨_, rfl, H1 z⟩
  refine b804_0 μ _ _ ?_
  rw [e4, d1]
  refine js_803 (n0 := 6) rfl (by decide) d4.1 (fun i hi => by rw [h 23 rfl]; exact r32 _ (d5 i hi)) hx ?_
  rw [h 23 rfl]
  refine ⟨plr _ _ (by omega), fun q => ?_, fun q => one fun z => q z.1⟩
  rw [e4, d2]
  refine js_803 (n0 := 8) rfl (by decide) d4.2.1 (fun i hi => by rw [h 24 rfl]; exact r32 _ (d6 i hi)) hx ?_
  rw [h 24 rfl]
  refine ⟨plr _ _ (by omega), fun q2 => ?_, fun q2 => one fun z => q2 z.2.1⟩
  rw [e4, d3]
  refine js_803 (n0 := 6) rfl (by decide) d4.2.2 (fun i hi => by rw [h 25 rfl]; exact r32 _ (d7 i hi)) hx ?_
  rw [h 25 rfl]
  exact ⟨plr _ _ (by omega), fun q3 => ⟨_, rfl, H0 ⟨q, q2, q3⟩⟩, fun q3 => one fun z => q3 z.2.2⟩
/-- a name read by the class, kept in 5 bits a letter -/
theorem js_2013d (hk : jd_tok n t) (h : jc_at μ0 n t b m D μ) (H1 : jx_isL n t b m → jx_nmq n t b m = .inr (jx_we n t b, jd_n5 (fun i => t (jx_st n t b + i) - 96) (jx_we n t b - jx_st n t b)) → μ 2 5 = jd_n5 (fun i => t (jx_st n t b + i) - 96) (jx_we n t b - jx_st n t b) → Q 1 μ) (H0 : ∀ e μ', jx_nmq n t b m = .inl e → jc_no μ0 e μ' → Q 0 μ') : qm_CI (qb_T L) (d + 2) 2013 [qm_P 2] μ Q := by
  obtain ⟨h1, h2, h3, h4, h5, h6, h7⟩ := id h
  refine js_2013 h3 hk h6 h2 (fun a1 a2 a3 => H1 a1 (jx_nmq1 a1 a2 a3) ?_) (fun μ' f a1 a2 => ?_)
  · have := (jl_tokL h2 a1).2.2.2
    rw [Nat.min_eq_left a3] at this; exact this
  · rcases a2 with ⟨z1, z2⟩ | ⟨z1, z2, z3, z4⟩
    · exact H0 _ μ' (jx_nmq3 z1) (jl_atn h f a1 z2)
    · exact H0 _ μ' (jx_nmq2 z1 z2 z3) (jl_atn h f a1 z4)
theorem js_1002 (hk : jd_tok n t) (hD : jx_dok D c0 c1 c2) (h : jc_at μ0 n t b m D μ) (H1 : ∀ r, jx_newq n t b m D = .inr r → ∀ μ', jc_at μ0 n t r.1 true D μ' → Q r.2 μ') (H0 : ∀ e, jx_newq n t b m D = .inl e → ∀ μ', jc_no μ0 e μ' → Q (-1) μ') : qm_CI (qb_T L) (d + 3) 1002 [qm_P 5] μ Q := by
  obtain ⟨h1, h2, h3, h4, h5, h6, h7⟩ := id h
  unfold jx_newq at H1 H0
  refine b1002_0 μ _ (js_2013d hk h (fun hL e1 e2 => ⟨by decide, fun q => absurd q (by decide), fun _ => ?_⟩) (fun e μ' he hn => ⟨by decide, fun _ => ⟨_, rfl, ?_⟩, fun q => absurd rfl q⟩))
  · rw [e2]
    have hb := jl_nmb (jx_nmk (t := t) h6 hL (by
      by_cases q : jx_we n t b - jx_st n t b ≤ 6
      · exact q
      · exfalso
        have := jx_nmqr h6 e1
        exact q this.2.2.1))
    rw [e1] at H1 H0
    refine js_804 h5 hD ⟨by omega, by omega⟩ (fun z => ⟨by decide, fun _ => ?_, fun q => absurd rfl q⟩) (fun z => ⟨by decide, fun q => absurd q (by decide), fun _ => ?_⟩)
    · refine js_stepL h7 hk h6 h2 hL fun μ' f hx => ⟨_, rfl, H1 (jx_we n t b, _) ?_ μ' (jl_ats h f hx (jx_wes t h6).2.1)⟩
      show (if _ then _ else _) = _
      exact if_pos z
    · refine js_2006 h3 h2 fun μ' f a1 a2 => ⟨_, rfl, H0 _ ?_ μ' (jl_atn h f a1 a2)⟩
      show (if _ then _ else _) = _
      exact if_neg z
  · rw [he] at H0
    exact H0 e rfl μ' hn
theorem js_1003 {a n0 c : Nat} (h0 : qm_sh (qb_T L) a = some (.inr (0, n0))) (hn0 : n0 ≤ 20000) (hc : c ≤ n0 ∧ c ≤ 8) (ha : jx_DC.contains a = true) (hN : ∀ i, i < c → ∃ y, jx_nm (D a i) y) (hk : jd_tok n t) (h : jc_at μ0 n t b m D μ) (H1 : ∀ r, jx_knq n t b m (D a) c = .inr r → ∀ μ', jc_at μ0 n t r.1 true D μ' → Q r.2 μ') (H0 : ∀ e, jx_knq n t b m (D a) c = .inl e → ∀ μ', jc_no μ0 e μ' → Q (-1) μ') : qm_CI (qb_T L) (d + 3) 1003 [qm_P 5, qm_P a, qm_I ((c : Nat) : Int)] μ Q := by
  obtain ⟨h1, h2, h3, h4, h5, h6, h7⟩ := id h
  unfold jx_knq at H1 H0
  have r32 : ∀ z, (∃ y, jx_nm z y) → qm_r32 z := fun z ⟨y, hy⟩ => by have := (jl_nmb hy).1; unfold qm_r32; omega
  refine b1003_0 h0 μ _ _ (js_2013d hk h (fun hL e1 e2 => ⟨by decide, fun q => absurd q (by decide), fun _ => ?_⟩) (fun e μ' he hn => ⟨by decide, fun _ => ⟨_, rfl, ?_⟩, fun q => absurd rfl q⟩))
  · rw [e2]
    have hb := jl_nmb (jx_nmk (t := t) h6 hL (jx_nmqr h6 e1).2.2.1)
    rw [e1] at H1 H0
    refine js_803 h0 hn0 hc.1 (fun i hi => by rw [h5 a ha]; exact r32 _ (hN i hi)) ⟨by omega, by omega⟩ ?_
    rw [h5 a ha]
    have plr : qm_r32 (jd_pl (D a) (jd_n5 (fun i => t (jx_st n t b + i) - 96) (jx_we n t b - jx_st n t b)) c) := by
      rcases jl_plb (N := D a) (x := jd_n5 (fun i => t (jx_st n t b + i) - 96) (jx_we n t b - jx_st n t b)) c with e | ⟨k, k1, k2, _⟩
      · rw [e]; decide
      · rw [k2]; unfold qm_r32; omega
    refine ⟨plr, fun q => ?_, fun q => ?_⟩
    · refine js_2006 h3 h2 fun μ' f a1 a2 => ⟨_, rfl, H0 _ ?_ μ' (jl_atn h f a1 a2)⟩
      show (if _ then _ else _) = _
      exact if_pos q
    · refine js_stepL h7 hk h6 h2 hL fun μ' f hx => ⟨_, rfl, H1 (jx_we n t b, _) ?_ μ' (jl_ats h f hx (jx_wes t h6).2.1)⟩
      show (if _ then _ else _) = _
      exact if_neg q
  · rw [he] at H0
    exact H0 e rfl μ' hn
end
