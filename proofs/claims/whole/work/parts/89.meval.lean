/-! ===== a row told, the reference's ===== -/
section
variable {L d : Nat} {μ μ0 : qm_M} {Q : Int → qm_M → Prop} {V : qm_M → Prop} {a b v u w : Int} {P : List Int}
theorem js_2510 (ha : -9000000000000000000 ≤ a ∧ a ≤ 9000000000000000000) (H : Q (je_cl a) μ) : qm_CL (qb_T L) d 2510 [qm_L a] μ Q := by
  unfold je_cl at H
  refine b2510_0 μ _ _ ⟨by omega, fun z => ⟨by omega, fun z2 => ⟨_, rfl, ?_⟩, fun z2 => ⟨_, rfl, ?_⟩⟩, fun z => ⟨_, rfl, ?_⟩⟩
  · rw [if_neg (by omega), if_neg (by omega)] at H; exact H
  · rw [if_neg (by omega), if_pos (by omega)] at H; exact H
  · rw [if_pos (by omega)] at H; exact H
theorem js_2511 (ha : je_n a) (hb : je_n b) (H : Q (je_fl a b) μ) : qm_CL (qb_T L) d 2511 [qm_L a, qm_L b] μ Q := by
  have ha' := ha
  have hb' := hb
  unfold je_n at ha' hb'
  have hra : qm_r64 a := ⟨by omega, by omega⟩
  have hrb : qm_r64 b := ⟨by omega, by omega⟩
  have hd : ql_div a b = a.tdiv b := ql_tdiv ⟨by omega, by omega⟩ hrb
  have hm : ql_rem a b = a.tmod b := ql_tmod ⟨by omega, by omega⟩ hrb
  obtain ⟨m1, m2⟩ := je_tdb (b := b) ha
  refine b2511_0 μ _ _ _ ?_
  rw [hd, hm]
  refine ⟨by omega, fun z => ⟨_, rfl, ?_⟩, fun h0 => ?_⟩
  · rw [show je_fl a b = 0 from if_pos z] at H; exact H
  rw [je_flt h0] at H
  have go : ∀ s : Int, ((s = 0 ∧ 0 ≤ a) ∨ (s = 1 ∧ a < 0)) → a.tmod b ≠ 0 → qm_W (qb_T L) d 2511 32 [qm_L a, none, qm_L b, none, qm_L (a.tdiv b), none] [qm_I s] μ (fun v μ' => ∃ r, v = some (.inr (.inl r)) ∧ Q r μ') := fun s hs hmz => by
    have fin : ∀ s2 : Int, ((s2 = 0 ∧ 0 ≤ b) ∨ (s2 = 1 ∧ b < 0)) → qm_W (qb_T L) d 2511 43 [qm_L a, none, qm_L b, none, qm_L (a.tdiv b), none] [qm_I s2, qm_I s] μ (fun v μ' => ∃ r, v = some (.inr (.inl r)) ∧ Q r μ') := fun s2 hs2 => by
      refine b2511_43 μ _ _ _ _ _ _ ⟨by omega, by omega, fun z => ⟨_, rfl, ?_⟩, fun z => ⟨_, rfl, ?_⟩⟩
      · rw [if_pos (Or.inr (by omega))] at H; exact H
      · rw [if_neg (fun y => y.elim hmz (by omega))] at H; exact H
    exact b2511_32 μ _ _ _ _ _ ⟨by omega, fun z => fin 0 (by omega), fun z => fin 1 (by omega)⟩
  refine ⟨by omega, h0, by omega, h0, by omega, fun z => ⟨_, rfl, ?_⟩, fun z => ⟨by omega, fun y => go 0 (by omega) z, fun y => go 1 (by omega) z⟩⟩
  rw [if_pos (Or.inl z)] at H; exact H
theorem js_2512 (h6 : μ 13 71 = (P.length : Int)) (hp : jd_pile (μ 93) P) (hl : P.length < 1700) (H : ∀ μ', jd_fm [71] [93] μ μ' → μ' 13 71 = ((v :: P).length : Int) → jd_pile (μ' 93) (v :: P) → V μ') : qm_CV (qb_T L) d 2512 [qm_P 13, qm_L v] μ V := by
  refine b2512_0 μ _ _ ?_
  rw [h6, Int.toNat_natCast]
  refine ⟨by omega, rfl, H _ (jg_f (jg_c (jg_refl _ _ _) rfl rfl) rfl) ?_ ⟨?_, jd_pilec P (fun i hi => ?_) hp⟩⟩
  · rw [jl_ss]; rfl
  · rw [jl_sn _ _ _ (by decide), jl_ss]
  · rw [jl_sn _ _ _ (by decide), jl_sk _ _ _ (by omega)]
/-- something told instead of the two on top -/
theorem js_2512t (hp : jd_pile (μ 93) (w :: u :: P)) (hl : P.length < 1000) (H : ∀ μ', jd_fm [71] [93] μ μ' → μ' 13 71 = ((v :: P).length : Int) → jd_pile (μ' 93) (v :: P) → V μ') : qm_CV (qb_T L) d 2512 [qm_P 13, qm_L v] (qm_set μ 13 71 (P.length : Int)) V :=
  js_2512 (jl_ss _ _ _ _) (by rw [jl_sn _ _ _ (by decide)]; exact hp.2.2) (by omega) fun μ' f h6 hp' => H μ' (jg_trans (jg_f (jg_refl _ _ _) rfl) f) h6 hp'
theorem js_2513_1 (hu : je_n u) (hw : je_n w) (h6 : μ 13 71 = (P.length : Int) + 2) (hp : jd_pile (μ 93) (w :: u :: P)) (hl : P.length < 1000) (H : ∀ μ', jd_fm [71] [93] μ μ' → μ' 13 71 = ((je_cl (u + w) :: P).length : Int) → jd_pile (μ' 93) (je_cl (u + w) :: P) → V μ') : qm_CV (qb_T L) (d + 1) 2513 [qm_P 13, qm_I 1] μ V := by
  have hu' := hu
  have hw' := hw
  unfold je_n at hu' hw'
  have e1 : (P.length : Int) + 2 - 1 = ((P.length + 1 : Nat) : Int) := by omega
  have e2 : (P.length : Int) + 2 - 2 = (P.length : Int) := by omega
  have p1 : μ 93 (P.length + 1) = w := hp.1
  have p2 : μ 93 P.length = u := hp.2.1
  refine b2513_0 μ _ _ ?_
  rw [h6, e1, e2, Int.toNat_natCast, Int.toNat_natCast, p1, p2]
  exact ⟨by omega, by omega, by decide, fun _ => js_2510 (by omega) (js_2512t hp hl fun μ' f a6 ap => ⟨rfl, H μ' f a6 ap⟩), fun q => absurd q (by decide), fun q => absurd q (by decide), fun q => absurd q (by decide), fun q => absurd q (by decide), fun q => absurd q (by decide), fun q => absurd q (by decide), fun q => absurd q (by decide), fun q => absurd q (by decide), fun q => absurd q (by decide), fun q => q.elim (fun z => absurd z (by decide)) (fun z => absurd z (by decide))⟩
theorem js_2513_2 (hu : je_n u) (hw : je_n w) (h6 : μ 13 71 = (P.length : Int) + 2) (hp : jd_pile (μ 93) (w :: u :: P)) (hl : P.length < 1000) (H : ∀ μ', jd_fm [71] [93] μ μ' → μ' 13 71 = ((je_cl (u - w) :: P).length : Int) → jd_pile (μ' 93) (je_cl (u - w) :: P) → V μ') : qm_CV (qb_T L) (d + 1) 2513 [qm_P 13, qm_I 2] μ V := by
  have hu' := hu
  have hw' := hw
  unfold je_n at hu' hw'
  have e1 : (P.length : Int) + 2 - 1 = ((P.length + 1 : Nat) : Int) := by omega
  have e2 : (P.length : Int) + 2 - 2 = (P.length : Int) := by omega
  have p1 : μ 93 (P.length + 1) = w := hp.1
  have p2 : μ 93 P.length = u := hp.2.1
  refine b2513_0 μ _ _ ?_
  rw [h6, e1, e2, Int.toNat_natCast, Int.toNat_natCast, p1, p2]
  exact ⟨by omega, by omega, by decide, fun q => absurd q (by decide), fun _ => js_2510 (by omega) (js_2512t hp hl fun μ' f a6 ap => ⟨rfl, H μ' f a6 ap⟩), fun q => absurd q (by decide), fun q => absurd q (by decide), fun q => absurd q (by decide), fun q => absurd q (by decide), fun q => absurd q (by decide), fun q => absurd q (by decide), fun q => absurd q (by decide), fun q => absurd q (by decide), fun q => q.elim (fun z => absurd z (by decide)) (fun z => absurd z (by decide))⟩
theorem js_2513_3 (hu : je_n u) (hw : je_n w) (h6 : μ 13 71 = (P.length : Int) + 2) (hp : jd_pile (μ 93) (w :: u :: P)) (hl : P.length < 1000) (H : ∀ μ', jd_fm [71] [93] μ μ' → μ' 13 71 = ((je_cl (u * w) :: P).length : Int) → jd_pile (μ' 93) (je_cl (u * w) :: P) → V μ') : qm_CV (qb_T L) (d + 1) 2513 [qm_P 13, qm_I 3] μ V := by
  have hu' := hu
  have hw' := hw
  unfold je_n at hu' hw'
  have hm := je_mul hu hw
  have e1 : (P.length : Int) + 2 - 1 = ((P.length + 1 : Nat) : Int) := by omega
  have e2 : (P.length : Int) + 2 - 2 = (P.length : Int) := by omega
  have p1 : μ 93 (P.length + 1) = w := hp.1
  have p2 : μ 93 P.length = u := hp.2.1
  refine b2513_0 μ _ _ ?_
  rw [h6, e1, e2, Int.toNat_natCast, Int.toNat_natCast, p1, p2]
  exact ⟨by omega, by omega, by decide, fun q => absurd q (by decide), fun q => absurd q (by decide), fun _ => js_2510 (by omega) (js_2512t hp hl fun μ' f a6 ap => ⟨rfl, H μ' f a6 ap⟩), fun q => absurd q (by decide), fun q => absurd q (by decide), fun q => absurd q (by decide), fun q => absurd q (by decide), fun q => absurd q (by decide), fun q => absurd q (by decide), fun q => absurd q (by decide), fun q => q.elim (fun z => absurd z (by decide)) (fun z => absurd z (by decide))⟩
theorem js_2513_4 (hu : je_n u) (hw : je_n w) (h6 : μ 13 71 = (P.length : Int) + 2) (hp : jd_pile (μ 93) (w :: u :: P)) (hl : P.length < 1000) (H : ∀ μ', jd_fm [71] [93] μ μ' → μ' 13 71 = ((je_fl u w :: P).length : Int) → jd_pile (μ' 93) (je_fl u w :: P) → V μ') : qm_CV (qb_T L) (d + 1) 2513 [qm_P 13, qm_I 4] μ V := by
  have hu' := hu
  have hw' := hw
  unfold je_n at hu' hw'
  have e1 : (P.length : Int) + 2 - 1 = ((P.length + 1 : Nat) : Int) := by omega
  have e2 : (P.length : Int) + 2 - 2 = (P.length : Int) := by omega
  have p1 : μ 93 (P.length + 1) = w := hp.1
  have p2 : μ 93 P.length = u := hp.2.1
  refine b2513_0 μ _ _ ?_
  rw [h6, e1, e2, Int.toNat_natCast, Int.toNat_natCast, p1, p2]
  exact ⟨by omega, by omega, by decide, fun q => absurd q (by decide), fun q => absurd q (by decide), fun q => absurd q (by decide), fun _ => js_2511 hu hw (js_2512t hp hl fun μ' f a6 ap => ⟨rfl, H μ' f a6 ap⟩), fun q => absurd q (by decide), fun q => absurd q (by decide), fun q => absurd q (by decide), fun q => absurd q (by decide), fun q => absurd q (by decide), fun q => absurd q (by decide), fun q => q.elim (fun z => absurd z (by decide)) (fun z => absurd z (by decide))⟩
theorem js_2513_5 (hu : je_n u) (hw : je_n w) (h6 : μ 13 71 = (P.length : Int) + 2) (hp : jd_pile (μ 93) (w :: u :: P)) (hl : P.length < 1000) (H : ∀ μ', jd_fm [71] [93] μ μ' → μ' 13 71 = (((if u < w then u else w) :: P).length : Int) → jd_pile (μ' 93) ((if u < w then u else w) :: P) → V μ') : qm_CV (qb_T L) (d + 1) 2513 [qm_P 13, qm_I 5] μ V := by
  have hu' := hu
  have hw' := hw
  unfold je_n at hu' hw'
  have e1 : (P.length : Int) + 2 - 1 = ((P.length + 1 : Nat) : Int) := by omega
  have e2 : (P.length : Int) + 2 - 2 = (P.length : Int) := by omega
  have p1 : μ 93 (P.length + 1) = w := hp.1
  have p2 : μ 93 P.length = u := hp.2.1
  have K1 : w ≤ u → ∀ μ', jd_fm [71] [93] μ μ' → μ' 13 71 = (((w : Int) :: P).length : Int) → jd_pile (μ' 93) ((w : Int) :: P) → V μ' := fun z => by
    rw [show (if u < w then u else w) = w from if_neg (by omega)] at H
    exact H
  have K2 : ¬ (w ≤ u) → ∀ μ', jd_fm [71] [93] μ μ' → μ' 13 71 = (((u : Int) :: P).length : Int) → jd_pile (μ' 93) ((u : Int) :: P) → V μ' := fun z => by
    rw [show (if u < w then u else w) = u from if_pos (by omega)] at H
    exact H
  refine b2513_0 μ _ _ ?_
  rw [h6, e1, e2, Int.toNat_natCast, Int.toNat_natCast, p1, p2]
  exact ⟨by omega, by omega, by decide, fun q => absurd q (by decide), fun q => absurd q (by decide), fun q => absurd q (by decide), fun q => absurd q (by decide), fun _ => ⟨by omega, by omega, fun z => b2513_161 _ _ _ _ _ _ (js_2512t hp hl fun μ' f a6 ap => ⟨rfl, K1 z μ' f a6 ap⟩), fun z => b2513_161 _ _ _ _ _ _ (js_2512t hp hl fun μ' f a6 ap => ⟨rfl, K2 z μ' f a6 ap⟩)⟩, fun q => absurd q (by decide), fun q => absurd q (by decide), fun q => absurd q (by decide), fun q => absurd q (by decide), fun q => absurd q (by decide), fun q => q.elim (fun z => absurd z (by decide)) (fun z => absurd z (by decide))⟩
theorem js_2513_6 (hu : je_n u) (hw : je_n w) (h6 : μ 13 71 = (P.length : Int) + 2) (hp : jd_pile (μ 93) (w :: u :: P)) (hl : P.length < 1000) (H : ∀ μ', jd_fm [71] [93] μ μ' → μ' 13 71 = (((if w < u then u else w) :: P).length : Int) → jd_pile (μ' 93) ((if w < u then u else w) :: P) → V μ') : qm_CV (qb_T L) (d + 1) 2513 [qm_P 13, qm_I 6] μ V := by
  have hu' := hu
  have hw' := hw
  unfold je_n at hu' hw'
  have e1 : (P.length : Int) + 2 - 1 = ((P.length + 1 : Nat) : Int) := by omega
  have e2 : (P.length : Int) + 2 - 2 = (P.length : Int) := by omega
  have p1 : μ 93 (P.length + 1) = w := hp.1
  have p2 : μ 93 P.length = u := hp.2.1
  have K1 : u ≤ w → ∀ μ', jd_fm [71] [93] μ μ' → μ' 13 71 = (((w : Int) :: P).length : Int) → jd_pile (μ' 93) ((w : Int) :: P) → V μ' := fun z => by
    rw [show (if w < u then u else w) = w from if_neg (by omega)] at H
    exact H
  have K2 : ¬ (u ≤ w) → ∀ μ', jd_fm [71] [93] μ μ' → μ' 13 71 = (((u : Int) :: P).length : Int) → jd_pile (μ' 93) ((u : Int) :: P) → V μ' := fun z => by
    rw [show (if w < u then u else w) = u from if_pos (by omega)] at H
    exact H
  refine b2513_0 μ _ _ ?_
  rw [h6, e1, e2, Int.toNat_natCast, Int.toNat_natCast, p1, p2]
  exact ⟨by omega, by omega, by decide, fun q => absurd q (by decide), fun q => absurd q (by decide), fun q => absurd q (by decide), fun q => absurd q (by decide), fun q => absurd q (by decide), fun _ => ⟨by omega, by omega, fun z => b2513_181 _ _ _ _ _ _ (js_2512t hp hl fun μ' f a6 ap => ⟨rfl, K1 z μ' f a6 ap⟩), fun z => b2513_181 _ _ _ _ _ _ (js_2512t hp hl fun μ' f a6 ap => ⟨rfl, K2 z μ' f a6 ap⟩)⟩, fun q => absurd q (by decide), fun q => absurd q (by decide), fun q => absurd q (by decide), fun q => absurd q (by decide), fun q => q.elim (fun z => absurd z (by decide)) (fun z => absurd z (by decide))⟩
theorem js_2513_7 (hu : je_n u) (hw : je_n w) (h6 : μ 13 71 = (P.length : Int) + 2) (hp : jd_pile (μ 93) (w :: u :: P)) (hl : P.length < 1000) (H : ∀ μ', jd_fm [71] [93] μ μ' → μ' 13 71 = ((jd_is (u < w) :: P).length : Int) → jd_pile (μ' 93) (jd_is (u < w) :: P) → V μ') : qm_CV (qb_T L) (d + 1) 2513 [qm_P 13, qm_I 7] μ V := by
  have hu' := hu
  have hw' := hw
  unfold je_n at hu' hw'
  have e1 : (P.length : Int) + 2 - 1 = ((P.length + 1 : Nat) : Int) := by omega
  have e2 : (P.length : Int) + 2 - 2 = (P.length : Int) := by omega
  have p1 : μ 93 (P.length + 1) = w := hp.1
  have p2 : μ 93 P.length = u := hp.2.1
  have K1 : w ≤ u → ∀ μ', jd_fm [71] [93] μ μ' → μ' 13 71 = (((0 : Int) :: P).length : Int) → jd_pile (μ' 93) ((0 : Int) :: P) → V μ' := fun z => by
    rw [show jd_is (u < w) = 0 from if_neg (by omega)] at H
    exact H
  have K2 : ¬ (w ≤ u) → ∀ μ', jd_fm [71] [93] μ μ' → μ' 13 71 = (((1 : Int) :: P).length : Int) → jd_pile (μ' 93) ((1 : Int) :: P) → V μ' := fun z => by
    rw [show jd_is (u < w) = 1 from if_pos (by omega)] at H
    exact H
  refine b2513_0 μ _ _ ?_
  rw [h6, e1, e2, Int.toNat_natCast, Int.toNat_natCast, p1, p2]
  exact ⟨by omega, by omega, by decide, fun q => absurd q (by decide), fun q => absurd q (by decide), fun q => absurd q (by decide), fun q => absurd q (by decide), fun q => absurd q (by decide), fun q => absurd q (by decide), fun _ => ⟨by omega, by omega, fun z => b2513_200 _ _ _ _ _ _ (js_2512t hp hl fun μ' f a6 ap => ⟨rfl, K1 z μ' f a6 ap⟩), fun z => b2513_200 _ _ _ _ _ _ (js_2512t hp hl fun μ' f a6 ap => ⟨rfl, K2 z μ' f a6 ap⟩)⟩, fun q => absurd q (by decide), fun q => absurd q (by decide), fun q => absurd q (by decide), fun q => q.elim (fun z => absurd z (by decide)) (fun z => absurd z (by decide))⟩
theorem js_2513_8 (hu : je_n u) (hw : je_n w) (h6 : μ 13 71 = (P.length : Int) + 2) (hp : jd_pile (μ 93) (w :: u :: P)) (hl : P.length < 1000) (H : ∀ μ', jd_fm [71] [93] μ μ' → μ' 13 71 = ((jd_is (w < u) :: P).length : Int) → jd_pile (μ' 93) (jd_is (w < u) :: P) → V μ') : qm_CV (qb_T L) (d + 1) 2513 [qm_P 13, qm_I 8] μ V := by
  have hu' := hu
  have hw' := hw
  unfold je_n at hu' hw'
  have e1 : (P.length : Int) + 2 - 1 = ((P.length + 1 : Nat) : Int) := by omega
  have e2 : (P.length : Int) + 2 - 2 = (P.length : Int) := by omega
  have p1 : μ 93 (P.length + 1) = w := hp.1
  have p2 : μ 93 P.length = u := hp.2.1
  have K1 : u ≤ w → ∀ μ', jd_fm [71] [93] μ μ' → μ' 13 71 = (((0 : Int) :: P).length : Int) → jd_pile (μ' 93) ((0 : Int) :: P) → V μ' := fun z => by
    rw [show jd_is (w < u) = 0 from if_neg (by omega)] at H
    exact H
  have K2 : ¬ (u ≤ w) → ∀ μ', jd_fm [71] [93] μ μ' → μ' 13 71 = (((1 : Int) :: P).length : Int) → jd_pile (μ' 93) ((1 : Int) :: P) → V μ' := fun z => by
    rw [show jd_is (w < u) = 1 from if_pos (by omega)] at H
    exact H
  refine b2513_0 μ _ _ ?_
  rw [h6, e1, e2, Int.toNat_natCast, Int.toNat_natCast, p1, p2]
  exact ⟨by omega, by omega, by decide, fun q => absurd q (by decide), fun q => absurd q (by decide), fun q => absurd q (by decide), fun q => absurd q (by decide), fun q => absurd q (by decide), fun q => absurd q (by decide), fun q => absurd q (by decide), fun _ => ⟨by omega, by omega, fun z => b2513_219 _ _ _ _ _ _ (js_2512t hp hl fun μ' f a6 ap => ⟨rfl, K1 z μ' f a6 ap⟩), fun z => b2513_219 _ _ _ _ _ _ (js_2512t hp hl fun μ' f a6 ap => ⟨rfl, K2 z μ' f a6 ap⟩)⟩, fun q => absurd q (by decide), fun q => absurd q (by decide), fun q => q.elim (fun z => absurd z (by decide)) (fun z => absurd z (by decide))⟩
theorem js_2513_9 (hu : je_n u) (hw : je_n w) (h6 : μ 13 71 = (P.length : Int) + 2) (hp : jd_pile (μ 93) (w :: u :: P)) (hl : P.length < 1000) (H : ∀ μ', jd_fm [71] [93] μ μ' → μ' 13 71 = ((jd_is (u = w) :: P).length : Int) → jd_pile (μ' 93) (jd_is (u = w) :: P) → V μ') : qm_CV (qb_T L) (d + 1) 2513 [qm_P 13, qm_I 9] μ V := by
  have hu' := hu
  have hw' := hw
  unfold je_n at hu' hw'
  have e1 : (P.length : Int) + 2 - 1 = ((P.length + 1 : Nat) : Int) := by omega
  have e2 : (P.length : Int) + 2 - 2 = (P.length : Int) := by omega
  have p1 : μ 93 (P.length + 1) = w := hp.1
  have p2 : μ 93 P.length = u := hp.2.1
  have K1 : u = w → ∀ μ', jd_fm [71] [93] μ μ' → μ' 13 71 = (((1 : Int) :: P).length : Int) → jd_pile (μ' 93) ((1 : Int) :: P) → V μ' := fun z => by
    rw [show jd_is (u = w) = 1 from if_pos z] at H
    exact H
  have K2 : ¬ (u = w) → ∀ μ', jd_fm [71] [93] μ μ' → μ' 13 71 = (((0 : Int) :: P).length : Int) → jd_pile (μ' 93) ((0 : Int) :: P) → V μ' := fun z => by
    rw [show jd_is (u = w) = 0 from if_neg z] at H
    exact H
  refine b2513_0 μ _ _ ?_
  rw [h6, e1, e2, Int.toNat_natCast, Int.toNat_natCast, p1, p2]
  exact ⟨by omega, by omega, by decide, fun q => absurd q (by decide), fun q => absurd q (by decide), fun q => absurd q (by decide), fun q => absurd q (by decide), fun q => absurd q (by decide), fun q => absurd q (by decide), fun q => absurd q (by decide), fun q => absurd q (by decide), fun _ => ⟨by omega, by omega, fun z => b2513_238 _ _ _ _ _ _ (js_2512t hp hl fun μ' f a6 ap => ⟨rfl, K1 z μ' f a6 ap⟩), fun z => b2513_238 _ _ _ _ _ _ (js_2512t hp hl fun μ' f a6 ap => ⟨rfl, K2 z μ' f a6 ap⟩)⟩, fun q => absurd q (by decide), fun q => q.elim (fun z => absurd z (by decide)) (fun z => absurd z (by decide))⟩
theorem js_2513_10 (hu : je_n u) (hw : je_n w) (h6 : μ 13 71 = (P.length : Int) + 2) (hp : jd_pile (μ 93) (w :: u :: P)) (hl : P.length < 1000) (H : ∀ μ', jd_fm [71] [93] μ μ' → μ' 13 71 = ((u * w :: P).length : Int) → jd_pile (μ' 93) (u * w :: P) → V μ') : qm_CV (qb_T L) (d + 1) 2513 [qm_P 13, qm_I 10] μ V := by
  have hu' := hu
  have hw' := hw
  unfold je_n at hu' hw'
  have e1 : (P.length : Int) + 2 - 1 = ((P.length + 1 : Nat) : Int) := by omega
  have e2 : (P.length : Int) + 2 - 2 = (P.length : Int) := by omega
  have p1 : μ 93 (P.length + 1) = w := hp.1
  have p2 : μ 93 P.length = u := hp.2.1
  refine b2513_0 μ _ _ ?_
  rw [h6, e1, e2, Int.toNat_natCast, Int.toNat_natCast, p1, p2]
  exact ⟨by omega, by omega, by decide, fun q => absurd q (by decide), fun q => absurd q (by decide), fun q => absurd q (by decide), fun q => absurd q (by decide), fun q => absurd q (by decide), fun q => absurd q (by decide), fun q => absurd q (by decide), fun q => absurd q (by decide), fun q => absurd q (by decide), fun _ => js_2512t hp hl fun μ' f a6 ap => ⟨rfl, H μ' f a6 ap⟩, fun q => q.elim (fun z => absurd z (by decide)) (fun z => absurd z (by decide))⟩
theorem js_2513_11 (hu : je_n u) (hw : je_n w) (h6 : μ 13 71 = (P.length : Int) + 2) (hp : jd_pile (μ 93) (w :: u :: P)) (hl : P.length < 1000) (H : ∀ μ', jd_fm [71] [93] μ μ' → μ' 13 71 = ((jd_is (0 < u + w) :: P).length : Int) → jd_pile (μ' 93) (jd_is (0 < u + w) :: P) → V μ') : qm_CV (qb_T L) (d + 1) 2513 [qm_P 13, qm_I 11] μ V := by
  have hu' := hu
  have hw' := hw
  unfold je_n at hu' hw'
  have e1 : (P.length : Int) + 2 - 1 = ((P.length + 1 : Nat) : Int) := by omega
  have e2 : (P.length : Int) + 2 - 2 = (P.length : Int) := by omega
  have p1 : μ 93 (P.length + 1) = w := hp.1
  have p2 : μ 93 P.length = u := hp.2.1
  have K1 : u + w ≤ 0 → ∀ μ', jd_fm [71] [93] μ μ' → μ' 13 71 = (((0 : Int) :: P).length : Int) → jd_pile (μ' 93) ((0 : Int) :: P) → V μ' := fun z => by
    rw [show jd_is (0 < u + w) = 0 from if_neg (by omega)] at H
    exact H
  have K2 : ¬ (u + w ≤ 0) → ∀ μ', jd_fm [71] [93] μ μ' → μ' 13 71 = (((1 : Int) :: P).length : Int) → jd_pile (μ' 93) ((1 : Int) :: P) → V μ' := fun z => by
    rw [show jd_is (0 < u + w) = 1 from if_pos (by omega)] at H
    exact H
  refine b2513_0 μ _ _ ?_
  rw [h6, e1, e2, Int.toNat_natCast, Int.toNat_natCast, p1, p2]
  exact ⟨by omega, by omega, by decide, fun q => absurd q (by decide), fun q => absurd q (by decide), fun q => absurd q (by decide), fun q => absurd q (by decide), fun q => absurd q (by decide), fun q => absurd q (by decide), fun q => absurd q (by decide), fun q => absurd q (by decide), fun q => absurd q (by decide), fun q => absurd q (by decide), fun _ => ⟨by omega, fun z => b2513_270 _ _ _ _ _ _ (js_2512t hp hl fun μ' f a6 ap => ⟨rfl, K1 z μ' f a6 ap⟩), fun z => b2513_270 _ _ _ _ _ _ (js_2512t hp hl fun μ' f a6 ap => ⟨rfl, K2 z μ' f a6 ap⟩)⟩⟩
theorem js_2513 {x : Int} (hu : je_n u) (hw : je_n w) (hx : 9 ≤ x) (h : x ≤ 17 ∨ (x ≤ 19 ∧ je_b u ∧ je_b w)) (h6 : μ 13 71 = (P.length : Int) + 2) (hp : jd_pile (μ 93) (w :: u :: P)) (hl : P.length < 1000) (H : ∀ μ', jd_fm [71] [93] μ μ' → μ' 13 71 = ((je_two x u w :: P).length : Int) → jd_pile (μ' 93) (je_two x u w :: P) → V μ') : qm_CV (qb_T L) (d + 1) 2513 [qm_P 13, qm_I (x - 8)] μ V := by
  have hx19 : x ≤ 19 := by rcases h with h | h <;> omega
  have hc : x = 9 ∨ x = 10 ∨ x = 11 ∨ x = 12 ∨ x = 13 ∨ x = 14 ∨ x = 15 ∨ x = 16 ∨ x = 17 ∨ x = 18 ∨ x = 19 := by omega
  rcases hc with rfl | rfl | rfl | rfl | rfl | rfl | rfl | rfl | rfl | rfl | rfl
  · rw [je_two_9] at H; exact js_2513_1 hu hw h6 hp hl H
  · rw [je_two_10] at H; exact js_2513_2 hu hw h6 hp hl H
  · rw [je_two_11] at H; exact js_2513_3 hu hw h6 hp hl H
  · rw [je_two_12] at H; exact js_2513_4 hu hw h6 hp hl H
  · rw [je_two_13] at H; exact js_2513_5 hu hw h6 hp hl H
  · rw [je_two_14] at H; exact js_2513_6 hu hw h6 hp hl H
  · rw [je_two_15] at H; exact js_2513_7 hu hw h6 hp hl H
  · rw [je_two_16] at H; exact js_2513_8 hu hw h6 hp hl H
  · rw [je_two_17] at H; exact js_2513_9 hu hw h6 hp hl H
  · rw [je_two_18] at H; exact js_2513_10 hu hw h6 hp hl H
  · rw [je_two_19] at H; exact js_2513_11 hu hw h6 hp hl H
end
