/-! ===== what holds between two calls ===== -/
def jd_I (n : Nat) (t : Nat → Int) (nc : Nat) (nco np lm lt sp : Int) (pk : Nat → Int) (cn : Nat → Nat) (N M : Nat → Nat → Int) (ct : Nat) (st : Nat → jd_B) (s s1 : Nat) (sf sb : Nat → Nat → Int) (im : Nat) (o : Nat → Int) (f p : Int) : Prop :=
  jd_tok n t ∧ jd_okb nc lm (st 0) ∧ ct ≤ 20 ∧ jd_nok nco np lt sp (ct : Int) (s : Int) (s1 : Int) ∧ jd_pok np pk ∧ jd_nko cn N M ∧ jd_sok nc s nco sf ∧ jd_sok nc s1 nco sb ∧ (0 < s → 0 < nc) ∧ (im ≤ 522 ∧ ∀ i, i < im → qm_r32 (o i)) ∧ qm_r32 f ∧ qm_r32 p
def jc_I (n : Nat) (t : Nat → Int) (nc : Nat) (nco np lm lt sp : Int) (pk : Nat → Int) (cn : Nat → Nat) (N : Nat → Nat → Int) (ct : Nat) (st : Nat → jd_B) (s s1 : Nat) (sf sb : Nat → Nat → Int) (im : Nat) (o : Nat → Int) (f p : Int) (μ : qm_M) : Prop :=
  jc_tape n t μ ∧ jc_bb nc lm (st 0) μ ∧ jc_acts nc lm ct st μ ∧ jc_num nc nco np lm lt sp (ct : Int) (s : Int) (s1 : Int) μ ∧ (∀ p : Nat, (p : Int) < np → μ 20 p = pk p) ∧ jc_nms cn N μ ∧ jc_st 8 37 nc s sf μ ∧ jc_st 9 38 nc s1 sb μ ∧ jc_img im o μ ∧ (μ 2 6 = f ∧ μ 2 7 = p) ∧ (μ 10 6 = -1 ∧ qm_r32 (μ 10 7))
def jm_I (n : Nat) (t : Nat → Int) (nc : Nat) (nco np lm lt sp : Int) (pk : Nat → Int) (cn : Nat → Nat) (M : Nat → Nat → Int) (ct : Nat) (st : Nat → jd_B) (s s1 : Nat) (sf sb : Nat → Nat → Int) (im : Nat) (o : Nat → Int) (f p : Int) (μ : qm_M) : Prop :=
  jm_tape n t μ ∧ jm_bb nc lm (st 0) μ ∧ jm_acts nc ct st μ ∧ jm_num nco np lt sp (ct : Int) (s : Int) (s1 : Int) μ ∧ (∀ p : Nat, (p : Int) < np → μ 62 (6 + p) = pk p) ∧ jm_nms cn M μ ∧ jm_st 0 nc s sf μ ∧ jm_st 1 nc s1 sb μ ∧ jm_img im o μ ∧ (μ 13 7 = f ∧ μ 13 8 = p) ∧ jm_cst μ ∧ μ 59 4 = (nc : Int)
def jq_inv (ξ : Nat → Int) (μ : qm_M) : Prop := ∃ (n : Nat) (t : Nat → Int) (nc : Nat) (nco np lm lt sp : Int) (pk : Nat → Int) (cn : Nat → Nat) (N M : Nat → Nat → Int) (ct : Nat) (st : Nat → jd_B) (s s1 : Nat) (sf sb : Nat → Nat → Int) (im : Nat) (o : Nat → Int) (f p : Int), jd_I n t nc nco np lm lt sp pk cn N M ct st s s1 sf sb im o f p ∧ jc_I n t nc nco np lm lt sp pk cn N ct st s s1 sf sb im o f p μ ∧ jm_I n t nc nco np lm lt sp pk cn M ct st s s1 sf sb im o f p μ ∧ ∀ k, μ 999 k = ξ k
/-- nothing of the reference's has changed, nothing of the class's -/
def jm_same (μ μ' : qm_M) : Prop := ∀ c, (c = 13 ∨ 46 ≤ c) → μ' c = μ c
def jc_same (μ μ' : qm_M) : Prop := ∀ c, c < 46 → c ≠ 13 → μ' c = μ c
theorem jl_sam {l : List Nat} {μ μ' : qm_M} (hf : jd_fr l μ μ') (hl : l.all (fun c => decide (c < 46) && !decide (c = 13)) = true) : jm_same μ μ' := fun c hc => hf c (by
  cases q : l.contains c with
  | false => rfl
  | true =>
    have := List.all_eq_true.mp hl c (List.contains_iff_mem.mp q)
    rw [Bool.and_eq_true, decide_eq_true_eq, Bool.not_eq_true', decide_eq_false_iff_not] at this
    omega)
theorem jl_sac {fs l : List Nat} {μ μ' : qm_M} (hf : jd_fm fs l μ μ') (hl : l.all (fun c => decide (46 ≤ c)) = true) : jc_same μ μ' := fun c hc h13 => hf.1 c (by
  cases q : Nat.beq c 13 with
  | false => rfl
  | true => exact absurd (Nat.eq_of_beq_eq_true q) h13) (by
  cases q : l.contains c with
  | false => rfl
  | true =>
    have := List.all_eq_true.mp hl c (List.contains_iff_mem.mp q)
    rw [decide_eq_true_eq] at this
    omega)
section
variable {n : Nat} {t : Nat → Int} {nc : Nat} {nco np lm lt sp : Int} {pk : Nat → Int} {cn : Nat → Nat} {N M : Nat → Nat → Int} {ct : Nat} {st : Nat → jd_B} {s s1 : Nat} {sf sb : Nat → Nat → Int} {im : Nat} {o : Nat → Int} {f p : Int} {μ μ' : qm_M}
theorem jc_Is (h : jc_I n t nc nco np lm lt sp pk cn N ct st s s1 sf sb im o f p μ) (hs : jc_same μ μ') : jc_I n t nc nco np lm lt sp pk cn N ct st s s1 sf sb im o f p μ' := by
  unfold jc_I jc_tape jc_bb jc_belt jc_acts jc_num jc_nms jc_st jc_img at *
  rw [hs 0 (by decide) (by decide), hs 1 (by decide) (by decide), hs 2 (by decide) (by decide), hs 3 (by decide) (by decide), hs 6 (by decide) (by decide), hs 7 (by decide) (by decide), hs 8 (by decide) (by decide), hs 9 (by decide) (by decide), hs 10 (by decide) (by decide), hs 12 (by decide) (by decide), hs 14 (by decide) (by decide), hs 15 (by decide) (by decide), hs 16 (by decide) (by decide), hs 17 (by decide) (by decide), hs 20 (by decide) (by decide), hs 31 (by decide) (by decide), hs 32 (by decide) (by decide), hs 33 (by decide) (by decide), hs 34 (by decide) (by decide), hs 35 (by decide) (by decide), hs 36 (by decide) (by decide), hs 37 (by decide) (by decide), hs 38 (by decide) (by decide), hs 45 (by decide) (by decide)]
  exact h
theorem jm_csts (h : jm_cst μ) (hs : ∀ e, e ∈ jx_TW → μ' e.1 = μ e.1) : jm_cst μ' := fun e he i hi => by rw [hs e he]; exact h e he i hi
theorem jx_TW46 : ∀ e, e ∈ jx_TW → 46 ≤ e.1 := by decide
theorem jm_Is (h : jm_I n t nc nco np lm lt sp pk cn M ct st s s1 sf sb im o f p μ) (hs : jm_same μ μ') : jm_I n t nc nco np lm lt sp pk cn M ct st s s1 sf sb im o f p μ' := by
  have hc : jm_cst μ' := jm_csts h.2.2.2.2.2.2.2.2.2.2.1 fun e he => hs e.1 (Or.inr (jx_TW46 e he))
  unfold jm_I jm_tape jm_bb jm_belt jm_acts jm_snap jm_num jm_nms jm_st jm_img at *
  rw [hs 13 (Or.inl rfl), hs 46 (by decide), hs 59 (by decide), hs 60 (by decide), hs 61 (by decide), hs 62 (by decide), hs 63 (by decide), hs 67 (by decide), hs 68 (by decide), hs 69 (by decide), hs 70 (by decide), hs 94 (by decide)]
  obtain ⟨h1, h2, h3, h4, h5, h6, h7, h8, h9, h10, h11, h12⟩ := h
  exact ⟨h1, h2, h3, h4, h5, h6, h7, h8, h9, h10, hc, h12⟩
/-- parts of it stay -/
theorem jv_acts (h : jc_acts nc lm ct st μ) (h7 : μ' 7 = μ 7) (h35 : μ' 35 = μ 35) (h36 : μ' 36 = μ 36) : jc_acts nc lm ct st μ' := by
  unfold jc_acts at *; rw [h7, h35, h36]; exact h
theorem jv_nms (h : jc_nms cn N μ) (h3 : μ' 3 = μ 3) (h15 : μ' 15 = μ 15) (h16 : μ' 16 = μ 16) (h17 : μ' 17 = μ 17) : jc_nms cn N μ' := by
  unfold jc_nms at *; rw [h3, h15, h16, h17]; exact h
theorem jv_st {o' a : Nat} (h : jc_st o' a nc s sf μ) (h1 : μ' o' = μ o') (h2 : μ' a = μ a) : jc_st o' a nc s sf μ' := by
  unfold jc_st at *; rw [h1, h2]; exact h
theorem jv_img (h : jc_img im o μ) (h1 : μ' 12 = μ 12) (h2 : μ' 45 = μ 45) : jc_img im o μ' := by
  unfold jc_img at *; rw [h1, h2]; exact h
/-- frames of calls that change nothing between calls -/
theorem jc_If {l : List Nat} (h : jc_I n t nc nco np lm lt sp pk cn N ct st s s1 sf sb im o f p μ) (hf : jd_fr l μ μ') (hl : l.all (fun c => [39, 40, 41, 44, 42, 43, 4, 5, 11, 18, 19, 21, 22, 23, 24, 25, 26, 27, 28, 29, 30].contains c) = true) : jc_I n t nc nco np lm lt sp pk cn N ct st s s1 sf sb im o f p μ' := by
  have no : ∀ c, [39, 40, 41, 44, 42, 43, 4, 5, 11, 18, 19, 21, 22, 23, 24, 25, 26, 27, 28, 29, 30].contains c = false → μ' c = μ c := fun c hc => hf c (by
    cases q : l.contains c with
    | false => rfl
    | true =>
      have := List.all_eq_true.mp hl c (List.contains_iff_mem.mp q)
      rw [hc] at this; cases this)
  unfold jc_I jc_tape jc_bb jc_belt jc_acts jc_num jc_nms jc_st jc_img at *
  rw [no 0 rfl, no 1 rfl, no 2 rfl, no 3 rfl, no 6 rfl, no 7 rfl, no 8 rfl, no 9 rfl, no 10 rfl, no 12 rfl, no 14 rfl, no 15 rfl, no 16 rfl, no 17 rfl, no 20 rfl, no 31 rfl, no 32 rfl, no 33 rfl, no 34 rfl, no 35 rfl, no 36 rfl, no 37 rfl, no 38 rfl, no 45 rfl]
  exact h
theorem jm_If {fs l : List Nat} (h : jm_I n t nc nco np lm lt sp pk cn M ct st s s1 sf sb im o f p μ) (hf : jd_fm fs l μ μ') (hfs : fs.all (fun k => [2, 3, 4, 5, 6, 21, 29, 31, 32, 34, 43, 65, 67, 68, 69, 71, 72, 73].contains k) = true) (hl : l.all (fun c => [71, 91, 92, 93].contains c) = true) : jm_I n t nc nco np lm lt sp pk cn M ct st s s1 sf sb im o f p μ' := by
  have no : ∀ c, Nat.beq c 13 = false → [71, 91, 92, 93].contains c = false → μ' c = μ c := fun c h13 hc => hf.1 c h13 (by
    cases q : l.contains c with
    | false => rfl
    | true =>
      have := List.all_eq_true.mp hl c (List.contains_iff_mem.mp q)
      rw [hc] at this; cases this)
  have nf : ∀ k, [2, 3, 4, 5, 6, 21, 29, 31, 32, 34, 43, 65, 67, 68, 69, 71, 72, 73].contains k = false → μ' 13 k = μ 13 k := fun k hk => hf.2 k (by
    cases q : fs.contains k with
    | false => rfl
    | true =>
      have := List.all_eq_true.mp hfs k (List.contains_iff_mem.mp q)
      rw [hk] at this; cases this)
  have hc : jm_cst μ' := jm_csts h.2.2.2.2.2.2.2.2.2.2.1 fun e he => by
    have h13 : ∀ e, e ∈ jx_TW → Nat.beq e.1 13 = false ∧ [71, 91, 92, 93].contains e.1 = false := by decide
    exact no e.1 (h13 e he).1 (h13 e he).2
  unfold jm_I jm_tape jm_bb jm_belt jm_acts jm_snap jm_num jm_nms jm_st jm_img at *
  rw [nf 1 rfl, nf 37 rfl, nf 39 rfl, nf 40 rfl, nf 30 rfl, nf 35 rfl, nf 75 rfl, nf 7 rfl, nf 8 rfl, no 46 rfl rfl, no 59 rfl rfl, no 60 rfl rfl, no 61 rfl rfl, no 62 rfl rfl, no 63 rfl rfl, no 67 rfl rfl, no 68 rfl rfl, no 69 rfl rfl, no 70 rfl rfl, no 94 rfl rfl]
  obtain ⟨h1, h2, h3, h4, h5, h6, h7, h8, h9, h10, h11, h12⟩ := h
  exact ⟨h1, h2, h3, h4, h5, h6, h7, h8, h9, h10, hc, h12⟩
end
/-- a call on both sides -/
def jp (L d : Nat) (ξ : Nat → Int) (a b : Nat) (as bs : List qm_V) (μ : qm_M) : Prop := qm_CI (qb_T L) d a as μ (fun r1 μ1 => (∀ k, μ1 999 k = ξ k) ∧ qm_CI (qb_T L) d b bs μ1 (fun r2 μ2 => r2 = r1 ∧ qm_r32 r1 ∧ jq_inv ξ μ2))
