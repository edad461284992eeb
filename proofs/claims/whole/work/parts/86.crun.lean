/-! ===== a row told, the class's ===== -/
/-- a pile of numbers, its top first -/
def jd_pile (f : Nat → Int) : List Int → Prop
  | [] => True
  | v :: P => f P.length = v ∧ jd_pile f P
theorem jd_pilec {f g : Nat → Int} : ∀ P : List Int, (∀ i, i < P.length → f i = g i) → jd_pile g P → jd_pile f P
  | [], _, _ => trivial
  | v :: P, h, hp => ⟨(h P.length (Nat.lt_succ_self _)).trans hp.1, jd_pilec P (fun i hi => h i (Nat.lt_succ_of_lt hi)) hp.2⟩
/-- the class's pile has changed, nothing else -/
def jc_ev (μ0 μ : qm_M) : Prop := (∀ c, c ≠ 44 → c ≠ 11 → μ c = μ0 c) ∧ ∀ k, k ≠ 6 → μ 11 k = μ0 11 k
theorem jc_evr (μ : qm_M) : jc_ev μ μ := ⟨fun _ _ _ => rfl, fun _ _ => rfl⟩
theorem jc_evt {μ0 μ1 μ2 : qm_M} (h : jc_ev μ0 μ1) (h2 : jc_ev μ1 μ2) : jc_ev μ0 μ2 := ⟨fun c a b => (h2.1 c a b).trans (h.1 c a b), fun k a => (h2.2 k a).trans (h.2 k a)⟩
theorem jc_ev44 {μ0 μ : qm_M} {k : Nat} {z : Int} (h : jc_ev μ0 μ) : jc_ev μ0 (qm_set μ 44 k z) := ⟨fun c a b => by rw [jl_sn _ _ _ a]; exact h.1 c a b, fun k' a => by rw [jl_sn _ _ _ (by decide)]; exact h.2 k' a⟩
theorem jc_ev6 {μ0 μ : qm_M} {z : Int} (h : jc_ev μ0 μ) : jc_ev μ0 (qm_set μ 11 6 z) := ⟨fun c a b => by rw [jl_sn _ _ _ b]; exact h.1 c a b, fun k' a => by rw [jl_sk _ _ _ a]; exact h.2 k' a⟩
theorem jc_evb {nc nr : Nat} {lm : Int} {sd : Nat → Int} {th T : Nat → Nat → Int} {μ0 μ : qm_M} (h : jc_ev μ0 μ) (hB : jc_belt nc nr lm sd th T μ0) : jc_belt nc nr lm sd th T μ := by
  unfold jc_belt at *
  rw [h.1 6 (by decide) (by decide), h.1 31 (by decide) (by decide), h.1 32 (by decide) (by decide), h.1 33 (by decide) (by decide), h.1 34 (by decide) (by decide)]
  exact hB
section
variable {L d : Nat} {μ μ0 : qm_M} {Q : Int → qm_M → Prop} {V : qm_M → Prop} {v : Int} {P : List Int}
theorem js_1214 (h6 : μ 11 6 = (P.length : Int)) (hp : jd_pile (μ 44) P) (hl : P.length < 100) (H : ∀ μ', jc_ev μ μ' → μ' 11 6 = ((v :: P).length : Int) → jd_pile (μ' 44) (v :: P) → V μ') : qm_CV (qb_T L) d 1214 [qm_P 11, qm_L v] μ V := by
  refine b1214_0 μ _ _ ?_
  rw [h6, Int.toNat_natCast]
  refine ⟨by omega, fun z => by omega, fun z => ⟨by omega, fun z2 => by omega, fun z2 => ⟨by omega, rfl, H _ (jc_ev6 (jc_ev44 (jc_evr _))) ?_ ⟨?_, jd_pilec P (fun i hi => ?_) hp⟩⟩⟩⟩
  · rw [jl_ss]; rfl
  · rw [jl_sn _ _ _ (by decide), jl_ss]
  · rw [jl_sn _ _ _ (by decide), jl_sk _ _ _ (by omega)]
theorem js_1215 (h6 : μ 11 6 = ((v :: P).length : Int)) (hp : jd_pile (μ 44) (v :: P)) (hl : P.length < 100) (H : ∀ μ', jc_ev μ μ' → μ' 11 6 = (P.length : Int) → jd_pile (μ' 44) P → Q v μ') : qm_CL (qb_T L) d 1215 [qm_P 11] μ Q := by
  have e : ((v :: P).length : Int) = (P.length : Int) + 1 := rfl
  have e2 : (P.length : Int) + 1 - 1 = (P.length : Int) := by omega
  refine b1215_0 μ _ ?_
  rw [h6, e, e2, Int.toNat_natCast, hp.1]
  refine ⟨by omega, fun z => by omega, fun z => ⟨by omega, fun z2 => ⟨by omega, _, rfl, H _ (jc_ev6 (jc_evr _)) (jl_ss _ _ _ _) ?_⟩, fun z2 => by omega⟩⟩
  rw [jl_sn _ _ _ (by decide)]; exact hp.2
end
section
variable {L d : Nat} {nc nr : Nat} {lm : Int} {sd : Nat → Int} {th T : Nat → Nat → Int} {r : Nat} {μ : qm_M} {Q : Int → qm_M → Prop}
theorem js_1217 {x : Int} (hB : jc_belt nc nr lm sd th T μ) (hO : jd_ok nc nr lm sd th T) (hr : r < nr) (hx : 1 ≤ x ∧ x ≤ 3) (H : Q (je_row nc T r x) μ) : qm_CL (qb_T L) (d + 4) 1217 [qm_P 11, qm_I x, qm_I (r : Int)] μ Q := by
  have hn := hO.2.1
  have s2 := je_sumn (r := r) hO 2
  have s0 := je_sumn (r := r) hO 0
  unfold je_row at H
  refine b1217_0 μ _ _ _ ⟨by omega, fun q => ?_, fun q => ?_, fun q1 q2 => ⟨by omega, _, rfl, ?_⟩⟩
  · rw [if_pos q] at H
    exact js_220 hB hO hr (by decide) ⟨by omega, _, rfl, H⟩
  · rw [if_neg (by omega), if_pos q] at H
    exact js_220 hB hO hr (by decide) ⟨by omega, _, rfl, H⟩
  · rw [if_neg q1, if_neg q2] at H; exact H
theorem js_1218 {x v : Int} (hB : jc_belt nc nr lm sd th T μ) (hO : jd_ok nc nr lm sd th T) (hr : r < nr) (hx : 4 ≤ x ∧ x ≤ 7) (hv : je_n v) (H : Q (je_of nc sd th T r x v) μ) : qm_CL (qb_T L) (d + 4) 1218 [qm_P 11, qm_I x, qm_I (r : Int), qm_L v] μ Q := by
  have hn := hO.2.1
  have hn1 := hO.1
  have hofn := je_ofn (sd := sd) hO hr x v
  unfold je_n at hv
  have e6 := hB.1
  unfold je_of at H hofn
  have go : ∀ z : Int, (z = 1 ↔ (0 ≤ v ∧ v < (nc : Int))) → (z = 0 ∨ z = 1) → qm_W (qb_T L) (d + 4) 1218 42 [qm_P 11, qm_I x, qm_I (r : Int), qm_L v, none, none, none] [qm_I z] μ (fun v μ' => ∃ r, v = some (.inr (.inl r)) ∧ Q r μ') := fun z hz hz2 => by
    refine b1218_42 μ _ _ _ _ _ ⟨by omega, fun q => b1218_55 μ _ _ _ _ _ _ ⟨by omega, fun q2 => ⟨by omega, fun _ => ⟨_, rfl, ?_⟩, fun q3 => absurd q q3⟩, fun q2 => ⟨by omega, fun _ => ⟨_, rfl, ?_⟩, fun q3 => absurd q q3⟩, fun q2 => ⟨by omega, fun _ => ⟨_, rfl, ?_⟩, fun q3 => absurd q q3⟩, fun q2 => ⟨by omega, fun _ => ⟨_, rfl, ?_⟩, fun q3 => absurd q q3⟩⟩, fun q => ?_⟩
    · rw [if_neg (by omega), if_pos q2] at H; exact H
    · rw [if_neg (by omega), if_neg (by omega), if_pos q2] at H; exact H
    · rw [if_neg (by omega), if_neg (by omega), if_neg (by omega)] at H; exact H
    · rw [if_neg (by omega), if_neg (by omega), if_neg (by omega)] at H; exact H
    · have hvn : 0 ≤ v ∧ v < (nc : Int) := hz.mp (by omega)
      rw [if_pos hvn] at H hofn
      obtain ⟨k, hk⟩ : ∃ k : Nat, v = (k : Int) := ⟨v.toNat, by omega⟩
      have hkn : k < nc := by omega
      have e2 : v.toNat = k := by omega
      rw [e2] at H hofn
      rw [hk]
      refine b1218_55 μ _ _ _ _ _ _ ⟨by omega, fun q2 => ⟨by omega, fun q3 => absurd q3 q, fun _ => ?_⟩, fun q2 => ⟨by omega, fun q3 => absurd q3 q, fun _ => ?_⟩, fun q2 => ⟨by omega, fun q3 => absurd q3 q, fun _ => ?_⟩, fun q2 => ⟨by omega, fun q3 => absurd q3 q, fun _ => ?_⟩⟩
      · rw [if_pos q2] at H hofn
        exact js_216 hB hO hr hkn ⟨by omega, _, rfl, H⟩
      · rw [if_neg (by omega), if_pos q2] at H hofn
        exact js_217 hB hO hr hkn ⟨by omega, _, rfl, H⟩
      · rw [if_neg (by omega), if_neg (by omega), if_pos q2] at H hofn
        exact js_218 hB hO hr hkn ⟨by omega, _, rfl, H⟩
      · rw [if_neg (by omega), if_neg (by omega), if_neg (by omega)] at H hofn
        exact js_215 (r + 1) hB hO hkn (by omega) (by omega) ⟨by omega, _, rfl, H⟩
  have no : ¬ (0 ≤ v ∧ v < (nc : Int)) → qm_W (qb_T L) (d + 4) 1218 41 [qm_P 11, qm_I x, qm_I (r : Int), qm_L v, none, none, none] [] μ (fun v μ' => ∃ r, v = some (.inr (.inl r)) ∧ Q r μ') := fun hno => b1218_41 μ _ _ _ _ (go 0 ⟨fun q => absurd q (by decide), fun q => absurd q hno⟩ (Or.inl rfl))
  refine b1218_0 μ _ _ _ _ ⟨by omega, fun q => by omega, fun _ => ⟨by omega, fun q => no (by omega), fun q => ?_⟩⟩
  rw [e6]
  exact ⟨by omega, by omega, by omega, fun q2 => no (by omega), fun q2 => go 1 ⟨fun _ => ⟨by omega, by omega⟩, fun _ => rfl⟩ (Or.inr rfl)⟩
theorem js_1218n {v : Int} (hv : je_b v) (H : Q (1 - v) μ) : qm_CL (qb_T L) (d + 1) 1218 [qm_P 11, qm_I 8, qm_I (r : Int), qm_L v] μ Q := by
  have hv' := hv
  unfold je_b at hv'
  refine b1218_0 μ _ _ _ _ ⟨by decide, fun _ => ⟨by omega, fun q => ⟨_, rfl, ?_⟩, fun q => ⟨_, rfl, ?_⟩⟩, fun q => absurd rfl q⟩
  · rw [q] at H; exact H
  · have : v = 1 := by omega
    rw [this] at H; exact H
end
