/-! ===== turns of a text, the class's ===== -/
section
variable {L d n : Nat} {t : Nat → Int} {b : Nat} {m : Bool} {D μ0 μ : qm_M} {Q : Int → qm_M → Prop} {V : qm_M → Prop} {c0 c1 c2 : Nat}
theorem jl_atg {μ' D' : qm_M} (h : jc_at μ0 n t b m D μ) (hf : ∀ c, jx_DC.contains c = false → μ' c = μ c) (hd : jc_dr D' μ') : jc_at μ0 n t b m D' μ' := by
  obtain ⟨h1, h2, h3, h4, h5, h6, h7⟩ := h
  refine ⟨fun c hc => ?_, jl_tokc h2 (hf 2 rfl), ?_, ?_, hd, h6, jl_tapc h7 (hf 1 rfl) (hf 14 rfl)⟩
  · rw [hf c (jl_has (l := jx_DC) (l' := jx_DF) rfl hc)]; exact h1 c hc
  · rw [hf 2 rfl]; exact h3
  · rw [hf 2 rfl]; exact h4
theorem js_808 {how w : Int} (h : jc_at μ0 n t b m D μ) (hc : qm_r32 (D 4 5)) (H : ∀ μ', jc_at μ0 n t b m (jx_add D how w) μ' → V μ') : qm_CV (qb_T L) (d + 1) 808 [qm_P 4, qm_I how, qm_I w] μ V := by
  have hd := h.2.2.2.2.1
  have e4 : ∀ k, μ 4 k = D 4 k := fun k => by rw [hd 4 rfl]
  refine b808_0 μ _ _ _ ?_
  rw [e4]
  refine js_402 (n := 60) rfl (by decide) hc ?_
  rw [jl_putn (c := 29) (c' := 4) (by decide), e4]
  refine js_402 (n := 60) rfl (by decide) hc ⟨rfl, H _ ?_⟩
  rw [jl_putn (c := 30) (c' := 4) (by decide), jl_putn (c := 29) (c' := 4) (by decide), e4]
  exact jl_atset (jl_atput (jl_atput h rfl) rfl) rfl
def jd_dpi (μ : qm_M) (c f i : Nat) : qm_M := fun a k => if (a = 29 ∨ a = 30) ∧ c ≤ k ∧ k < c + i then μ a (f + (k - c)) else μ a k
theorem jl_dpi0 (μ : qm_M) (c f : Nat) : jd_dpi μ c f 0 = μ := by
  funext a k; unfold jd_dpi; rw [if_neg (by omega)]
theorem jl_dpin (μ : qm_M) (c f i : Nat) {a : Nat} (h : a ≠ 29 ∧ a ≠ 30) : jd_dpi μ c f i a = μ a := by
  funext k; unfold jd_dpi; rw [if_neg (fun z => by rcases z.1 with q | q; exact h.1 q; exact h.2 q)]
theorem jl_dpi1 (μ : qm_M) {c f i : Nat} (h : f + i < c) : qm_set (qm_set (jd_dpi μ c f i) 29 (c + i) (jd_dpi μ c f i 29 (f + i))) 30 (c + i) (jd_dpi μ c f i 30 (f + i)) = jd_dpi μ c f (i + 1) := by
  have e : ∀ a, jd_dpi μ c f i a (f + i) = μ a (f + i) := fun a => by unfold jd_dpi; rw [if_neg (by omega)]
  rw [e, e]
  funext a k
  by_cases h30 : a = 30
  · subst h30
    by_cases q : k = c + i
    · subst q
      rw [jl_ss]; unfold jd_dpi
      rw [if_pos ⟨Or.inr rfl, by omega, by omega⟩, show f + (c + i - c) = f + i by omega]
    · rw [jl_sk _ _ _ q, jl_sn _ _ _ (by decide)]
      unfold jd_dpi
      by_cases q2 : c ≤ k ∧ k < c + i
      · rw [if_pos ⟨Or.inr rfl, q2⟩, if_pos ⟨Or.inr rfl, by omega, by omega⟩]
      · rw [if_neg (fun z => q2 z.2), if_neg (fun z => q2 (by omega))]
  · rw [jl_sn _ _ _ h30]
    by_cases h29 : a = 29
    · subst h29
      by_cases q : k = c + i
      · subst q
        rw [jl_ss]; unfold jd_dpi
        rw [if_pos ⟨Or.inl rfl, by omega, by omega⟩, show f + (c + i - c) = f + i by omega]
      · rw [jl_sk _ _ _ q]
        unfold jd_dpi
        by_cases q2 : c ≤ k ∧ k < c + i
        · rw [if_pos ⟨Or.inl rfl, q2⟩, if_pos ⟨Or.inl rfl, by omega, by omega⟩]
        · rw [if_neg (fun z => q2 z.2), if_neg (fun z => q2 (by omega))]
    · rw [jl_sn _ _ _ h29, jl_dpin _ _ _ _ ⟨h29, h30⟩, jl_dpin _ _ _ _ ⟨h29, h30⟩]
theorem js_809 {c f : Nat} (h : jc_at μ0 n t b m D μ) (hc : D 4 5 = (c : Int)) (hf : f ≤ c) (hc2 : c ≤ 1000000) (H : ∀ μ', jc_at μ0 n t b m (jx_dup D f) μ' → V μ') : qm_CV (qb_T L) (d + 1) 809 [qm_P 4, qm_I ((f : Nat) : Int)] μ V := by
  have hd := h.2.2.2.2.1
  have e4 : μ 4 5 = (c : Int) := by rw [hd 4 rfl]; exact hc
  have e4i : ∀ i, jd_dpi μ c f i 4 5 = (c : Int) := fun i => by rw [jl_dpin _ _ _ _ (by decide)]; exact e4
  have fin : ∀ i x3, (i = min (c - f) (60 - c)) → qm_W (qb_T L) (d + 1) 809 77 [qm_P 4, qm_I ((f : Nat) : Int), qm_I (((c : Nat) : Int) - ((f : Nat) : Int)), qm_I x3] [] (jd_dpi μ c f i) (fun v μ' => v = none ∧ V μ') := fun i x3 hi => by
    refine b809_77 _ _ _ _ _ ⟨rfl, H _ (jl_atg h (fun a ha => ?_) (fun a ha => ?_))⟩
    · have h1 : a ≠ 4 := fun q => by rw [q] at ha; exact absurd ha (by decide)
      have h2 : a ≠ 29 := fun q => by rw [q] at ha; exact absurd ha (by decide)
      have h3 : a ≠ 30 := fun q => by rw [q] at ha; exact absurd ha (by decide)
      rw [jl_sn _ _ _ h1, jl_dpin _ _ _ _ ⟨h2, h3⟩]
    · have hda := hd a ha
      funext k
      rw [e4i]
      unfold jx_dup
      rw [hc, Int.toNat_natCast]
      by_cases q : a = 4
      · subst q
        rw [if_neg (fun z => by rcases z.1 with q | q <;> exact absurd q (by decide))]
        by_cases q2 : k = 5
        · subst q2
          rw [jl_ss, if_pos ⟨rfl, rfl⟩]; omega
        · rw [jl_sk _ _ _ q2, if_neg (fun z => q2 z.2), jl_dpin _ _ _ _ (by decide), hda]
      · rw [jl_sn _ _ _ q]
        unfold jd_dpi
        by_cases q2 : (a = 29 ∨ a = 30) ∧ c ≤ k ∧ k < c + i
        · rw [if_pos q2, if_pos ⟨q2.1, q2.2.1, by omega, by omega⟩, hda]
        · rw [if_neg q2, hda]
          rw [if_neg (fun z => q2 ⟨z.1, z.2.1, by omega⟩), if_neg (fun z => q z.1)]
  refine b809_0 μ _ _ ?_
  rw [e4]
  refine jl_loop (S := fun i => qm_W (qb_T L) (d + 1) 809 9 [qm_P 4, qm_I ((f : Nat) : Int), qm_I (((c : Nat) : Int) - ((f : Nat) : Int)), qm_I ((i : Nat) : Int)] [] (jd_dpi μ c f i) (fun v μ' => v = none ∧ V μ')) (min (c - f) (60 - c)) (fun i hi ih => ?_) ?_ |> fun z => by rw [jl_dpi0] at z; exact z
  · refine b809_9 _ _ _ _ _ ?_
    rw [e4i]
    refine ⟨by omega, by omega, fun q => absurd q (by omega), fun _ => ⟨by omega, fun q => absurd q (by omega), fun _ => ?_⟩⟩
    refine js_401i (n := 60) (f + i) rfl (by decide) (by omega) (by omega) ?_
    refine js_402i (n := 60) (c + i) rfl (by decide) (by omega) (by omega) ?_
    refine js_401i (n := 60) (f + i) rfl (by decide) (by omega) (by omega) ?_
    rw [jl_sn (c := 29) (c' := 4) _ _ _ (by decide), e4i]
    refine js_402i (n := 60) (c + i) rfl (by decide) (by omega) (by omega) ?_
    rw [jl_sn (c := 29) (c' := 30) _ _ _ (by decide), jl_dpi1 μ (by omega), jl_cs]
    exact ih
  · refine b809_9 _ _ _ _ _ ?_
    rw [e4i]
    refine ⟨by omega, by omega, fun q => fin _ _ rfl, fun q => ⟨by omega, fun q2 => fin _ _ rfl, fun q2 => absurd q2 (by omega)⟩⟩
theorem js_1010 (hk : jd_tok n t) (hb : b ≤ n) (hx : jc_tok n t b m μ) (H1 : jx_bgn n t b m → Q 1 μ) (H0 : ¬ jx_bgn n t b m → Q 0 μ) : qm_CI (qb_T L) (d + 2) 1010 [qm_P 5] μ Q := by
  unfold jx_bgn at *
  have y60 : (jx_isW n t b m qb_tx_1009 ∨ jx_isW n t b m qb_tx_1010 ∨ jx_isW n t b m qb_tx_1011 ∨ jx_isW n t b m qb_tx_1012 ∨ jx_isM n t b 91) → qm_W (qb_T L) (d + 2) 1010 60 [qm_P 5] [] μ (fun v μ' => ∃ r, v = some (.inl r) ∧ Q r μ') := fun z => b1010_60 μ _ ⟨_, rfl, H1 z⟩
  refine b1010_0 μ _ (js_2009 (l := qb_tx_1009) rfl (jx_lw12 qb_tx_1009 (by decide)) hk hb hx (fun z => ⟨by decide, fun q => absurd q (by decide), fun _ => y60 (Or.inl z)⟩) (fun z1 => ⟨by decide, fun _ => ?_, fun q => absurd rfl q⟩))
  refine js_2009 (l := qb_tx_1010) rfl (jx_lw12 qb_tx_1010 (by decide)) hk hb hx (fun z => ⟨by decide, fun q => absurd q (by decide), fun _ => y60 (Or.inr (Or.inl z))⟩) (fun z2 => ⟨by decide, fun _ => ?_, fun q => absurd rfl q⟩)
  refine js_2009 (l := qb_tx_1011) rfl (jx_lw12 qb_tx_1011 (by decide)) hk hb hx (fun z => ⟨by decide, fun q => absurd q (by decide), fun _ => y60 (Or.inr (Or.inr (Or.inl z)))⟩) (fun z3 => ⟨by decide, fun _ => ?_, fun q => absurd rfl q⟩)
  refine js_2009 (l := qb_tx_1012) rfl (jx_lw12 qb_tx_1012 (by decide)) hk hb hx (fun z => ⟨by decide, fun q => absurd q (by decide), fun _ => y60 (Or.inr (Or.inr (Or.inr (Or.inl z))))⟩) (fun z4 => ⟨by decide, fun _ => ?_, fun q => absurd rfl q⟩)
  refine js_2008 (by decide) (by unfold jx_le jx_di; decide) hk hx (fun z => ⟨by decide, fun q => absurd q (by decide), fun _ => y60 (Or.inr (Or.inr (Or.inr (Or.inr z))))⟩) (fun z5 => ⟨by decide, fun _ => ⟨_, rfl, H0 fun z => ?_⟩, fun q => absurd rfl q⟩)
  rcases z with z | z | z | z | z
  · exact z1 z
  · exact z2 z
  · exact z3 z
  · exact z4 z
  · exact z5 z
theorem js_1012 (hk : jd_tok n t) (hD : jx_dok D c0 c1 c2) (hc : qm_r32 (D 4 5)) (h : jc_at μ0 n t b m D μ) (H1 : ∀ s, jx_ltq n t b m D = .inr s → ∀ μ', jc_at μ0 n t s.1 s.2.1 s.2.2 μ' → Q 1 μ') (H0 : ∀ e, jx_ltq n t b m D = .inl e → ∀ μ', jc_no μ0 e μ' → Q 0 μ') : qm_CI (qb_T L) (d + 4) 1012 [qm_P 5] μ Q := by
  obtain ⟨h1, h2, h3, h4, h5, h6, h7⟩ := id h
  have ap : ∀ (x1 x2 how w : Int) (b1 : Nat) (μ1 : qm_M), jc_at μ0 n t b1 true D μ1 → ((x1 = 0 ∧ x2 = 0 ∧ how = 1) ∨ (x1 = 0 ∧ x2 = 1 ∧ how = 0) ∨ (x1 = 1 ∧ how = 2)) → qm_r32 x2 → jx_ltq n t b m D = .inr (b1, true, jx_add D how w) → qm_W (qb_T L) (d + 4) 1012 98 [qm_P 5, qm_I x1, qm_I x2, qm_I w] [] μ1 (fun v μ' => ∃ r, v = some (.inl r) ∧ Q r μ') := fun x1 x2 how w b1 μ1 ha hx hx2 hr => by
    have go : qm_W (qb_T L) (d + 4) 1012 119 [qm_P 5, qm_I x1, qm_I x2, qm_I w] [qm_I how, qm_P 4] μ1 (fun v μ' => ∃ r, v = some (.inl r) ∧ Q r μ') := b1012_119 μ1 _ _ _ _ _ (js_808 ha hc fun μ' ha' => ⟨_, rfl, H1 _ hr μ' ha'⟩)
    rcases hx with ⟨e1, e2, e3⟩ | ⟨e1, e2, e3⟩ | ⟨e1, e3⟩
    · subst e1; subst e2; subst e3
      exact b1012_98 μ1 _ _ _ _ ⟨by decide, fun _ => ⟨by decide, fun _ => go, fun q => absurd rfl q⟩, fun q => absurd rfl q⟩
    · subst e1; subst e2; subst e3
      exact b1012_98 μ1 _ _ _ _ ⟨by decide, fun _ => ⟨by decide, fun q => absurd q (by decide), fun _ => go⟩, fun q => absurd rfl q⟩
    · subst e1; subst e3
      exact b1012_98 μ1 _ _ _ _ ⟨by decide, fun q => absurd q (by decide), fun _ => go⟩
  have pk : ∀ (x1 x2 how : Int) (b1 : Nat) (μ1 : qm_M), jc_at μ0 n t b1 true D μ1 → ((x1 = 0 ∧ x2 = 0 ∧ how = 1) ∨ (x1 = 0 ∧ x2 = 1 ∧ how = 0) ∨ (x1 = 1 ∧ how = 2)) → qm_r32 x2 → jx_ltq n t b m D = jx_pkq n t b1 true D how → qm_W (qb_T L) (d + 4) 1012 72 [qm_P 5, qm_I x1, qm_I x2, qm_I (-1)] [] μ1 (fun v μ' => ∃ r, v = some (.inl r) ∧ Q r μ') := fun x1 x2 how b1 μ1 ha hx hx2 hr => by
    obtain ⟨dd1, dd2, dd3, dd4, dd5, dd6, dd7⟩ := hD
    refine b1012_72 μ1 _ _ _ _ ?_
    have e43 : μ1 4 3 = (c2 : Int) := by rw [ha.2.2.2.2.1 4 rfl]; exact dd3
    rw [e43]
    unfold jx_pkq at hr
    rw [dd3, Int.toNat_natCast] at hr
    refine js_1003 (n0 := 6) rfl (by decide) ⟨dd4.2.2, by omega⟩ rfl dd7 hk ha (fun r er μ' ha' => ?_) (fun e ee μ' hn => ?_)
    · have hq := jl_knqr ha.2.2.2.2.2.1 er
      rw [er] at hr
      exact ⟨by omega, fun q => absurd q (by omega), fun _ => ap x1 x2 how r.2 r.1 μ' ha' hx hx2 hr⟩
    · rw [ee] at hr
      exact ⟨by decide, fun _ => ⟨_, rfl, H0 e hr μ' hn⟩, fun q => absurd rfl q⟩
  -- a letter that is there: step over it
  have stp : ∀ (x1 x2 how : Int) (l : List Nat), jx_isW n t b m l → ((x1 = 0 ∧ x2 = 0 ∧ how = 1) ∨ (x1 = 0 ∧ x2 = 1 ∧ how = 0) ∨ (x1 = 1 ∧ how = 2)) → qm_r32 x1 → qm_r32 x2 → (x1 = 1 → jx_ltq n t b m D = jx_pkq n t (jx_we n t b) true D how) → (x1 = 0 → (jx_isL n t (jx_we n t b) true ∧ ¬ jx_own n t (jx_we n t b)) → jx_ltq n t b m D = jx_pkq n t (jx_we n t b) true D how) → (x1 = 0 → ¬ (jx_isL n t (jx_we n t b) true ∧ ¬ jx_own n t (jx_we n t b)) → jx_ltq n t b m D = .inr (jx_we n t b, true, jx_add D how (-1))) → qm_W (qb_T L) (d + 4) 1012 49 [qm_P 5, qm_I x1, qm_I x2, none] [] μ (fun v μ' => ∃ r, v = some (.inl r) ∧ Q r μ') := fun x1 x2 how l hW hx hx1 hx2 g1 g2 g3 => by
    have hwe := (jx_wes t h6).2.1
    refine b1012_49 μ _ _ _ (js_stepL h7 hk h6 h2 hW.1 fun μ' f hx' => ?_)
    have ha := jl_ats h f hx' hwe
    refine ⟨hx1, fun q => ?_, fun q => pk x1 x2 how _ μ' ha hx hx2 (g1 (by omega))⟩
    refine js_2011 hk hwe hx' (fun y1 y2 => ⟨by decide, fun q => absurd q (by decide), fun _ => pk x1 x2 how _ μ' ha hx hx2 (g2 q ⟨y1, y2⟩)⟩) (fun y => ⟨by decide, fun _ => ap x1 x2 how (-1) _ μ' ha hx hx2 (g3 q y), fun q => absurd rfl q⟩)
  refine b1012_0 μ _ ?_
  refine js_2009 (l := qb_tx_1011) rfl (jx_lw12 qb_tx_1011 (by decide)) hk h6 h2 (fun z1 => ?_) (fun z1 => ?_)
  · have e1 : jx_ltq n t b m D = jx_pkq n t (jx_we n t b) true D 2 := by unfold jx_ltq; rw [jx_ifp z1]
    refine js_2009 (l := qb_tx_1009) rfl (jx_lw12 qb_tx_1009 (by decide)) hk h6 h2 (fun z2 => ⟨by decide, fun q => absurd q (by decide), fun _ => ?_⟩) (fun z2 => ⟨by decide, fun q => absurd q (by decide), fun _ => ?_⟩)
    · exact stp 1 1 2 _ z1 (Or.inr (Or.inr ⟨rfl, rfl⟩)) (by decide) (by decide) (fun _ => e1) (fun q => absurd q (by decide)) (fun q => absurd q (by decide))
    · exact stp 1 0 2 _ z1 (Or.inr (Or.inr ⟨rfl, rfl⟩)) (by decide) (by decide) (fun _ => e1) (fun q => absurd q (by decide)) (fun q => absurd q (by decide))
  · refine js_2009 (l := qb_tx_1009) rfl (jx_lw12 qb_tx_1009 (by decide)) hk h6 h2 (fun z2 => ⟨by decide, fun _ => ⟨by decide, fun q => absurd q (by decide), fun _ => ?_⟩, fun q => absurd rfl q⟩) (fun z2 => ⟨by decide, fun _ => ⟨by decide, fun _ => ?_, fun q => absurd rfl q⟩, fun q => absurd rfl q⟩)
    · refine stp 0 1 0 _ z2 (Or.inr (Or.inl ⟨rfl, rfl, rfl⟩)) (by decide) (by decide) (fun q => absurd q (by decide)) (fun _ y => ?_) (fun _ y => ?_)
      · unfold jx_ltq; rw [jx_ifn z1, jx_ifp (Or.inl z2), jx_ifp y, jx_ifp z2]
      · unfold jx_ltq; rw [jx_ifn z1, jx_ifp (Or.inl z2), jx_ifn y, jx_ifp z2]
    · refine js_2009 (l := qb_tx_1010) rfl (jx_lw12 qb_tx_1010 (by decide)) hk h6 h2 (fun z3 => ⟨by decide, fun q => absurd q (by decide), fun _ => ?_⟩) (fun z3 => ⟨by decide, fun _ => ?_, fun q => absurd rfl q⟩)
      · refine stp 0 0 1 _ z3 (Or.inl ⟨rfl, rfl, rfl⟩) (by decide) (by decide) (fun q => absurd q (by decide)) (fun _ y => ?_) (fun _ y => ?_)
        · unfold jx_ltq; rw [jx_ifn z1, jx_ifp (Or.inr z3), jx_ifp y, jx_ifn z2]
        · unfold jx_ltq; rw [jx_ifn z1, jx_ifp (Or.inr z3), jx_ifn y, jx_ifn z2]
      · refine js_2006 h3 h2 fun μ' f a1 a2 => ⟨Or.inl rfl, _, rfl, H0 _ ?_ μ' (jl_atn h f a1 a2)⟩
        unfold jx_ltq; rw [jx_ifn z1, jx_ifn (fun z => by rcases z with z | z; exact z2 z; exact z3 z)]
end
