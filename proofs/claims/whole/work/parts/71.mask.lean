/-! ===== a question's codes, the reference's ===== -/
def jx_QMF : List Nat := [2, 4, 5, 6, 65, 67, 68, 69]
def jx_QMC : List Nat := [91, 92]
/-- a step of the class's is a code of the reference's -/
def jx_rel (x y v : Int) : Prop := (x = 0 ∧ v = 1000 + y ∧ 0 ≤ y ∧ y ≤ 9999) ∨ (x = 0 ∧ y = 1 ∧ v = 13) ∨ (1 ≤ x ∧ x ≤ 3 ∧ v = 39 + x) ∨ (4 ≤ x ∧ x ≤ 7 ∧ v = 56 + x) ∨ (x = 8 ∧ v = 12) ∨ (9 ≤ x ∧ x ≤ 19 ∧ v = x - 8)
/-- codes told, what waits (S), and above it what the class has told already (pd, the first told last) -/
def jm_qc (B : Nat) (D : qm_M) (s : Nat) (S : Nat → Int) (l : Nat) (pd : Nat → Int) (μ : qm_M) : Prop :=
  ∃ k : Nat, (μ 13 65 = (k : Int) ∧ μ 13 67 = ((s + l : Nat) : Int) ∧ D 11 5 = ((k + l : Nat) : Int) ∧ k + l ≤ B ∧ s + l ≤ B) ∧ (∀ i, i < k → jx_rel (D 42 i) (D 43 i) (μ 91 i)) ∧ (∀ i, i < s → μ 92 i = S i ∧ 1 ≤ S i ∧ S i ≤ 63) ∧ ∀ j, j < l → μ 92 (s + (l - 1 - j)) = pd j ∧ jx_rel (D 42 (k + j)) (D 43 (k + j)) (pd j) ∧ 1 ≤ pd j ∧ pd j ≤ 63
def jm_qg (μ0 : qm_M) (n : Nat) (t : Nat → Int) (B a b : Nat) (m : Bool) (D : qm_M) (o s : Nat) (S : Nat → Int) (l : Nat) (pd : Nat → Int) (μ : qm_M) : Prop :=
  jd_fm jx_QMF jx_QMC μ0 μ ∧ jm_pos n t b m μ ∧ b ≤ n ∧ jm_cst μ ∧ μ 13 68 = (o : Int) ∧ μ 13 69 = (a : Int) ∧ jm_qc B D s S l pd μ
def jm_qt (μ0 : qm_M) (n : Nat) (t : Nat → Int) (a b : Nat) (m : Bool) (D : qm_M) (o s : Nat) (S : Nat → Int) (l : Nat) (pd : Nat → Int) (μ : qm_M) : Prop := jm_qg μ0 n t b a b m D o s S l pd μ
def jm_qn (μ0 : qm_M) (n : Nat) (t : Nat → Int) (e : Int × Int) (μ : qm_M) : Prop := ((0 ≤ μ 13 65 ∧ μ 13 65 ≤ (n : Int) + 5) ∧ jd_fm jx_QMF jx_QMC μ0 μ) ∧ jm_bad n t e.1 e.2 μ
def jd_z : Nat → Int := fun _ => 0
def jx_ps (S : Nat → Int) (s : Nat) (v : Int) : Nat → Int := fun i => if i = s then v else S i
theorem jl_qag {D : qm_M} {c : Nat} (hc : D 11 5 = (c : Int)) (h : c < 1600) (x y : Int) (i : Nat) : jx_qa D x y 42 i = (if i = c then x else D 42 i) ∧ jx_qa D x y 43 i = (if i = c then y else D 43 i) := by
  have e1 : jd_put D 42 1600 (D 11 5) x = qm_set D 42 c x := by
    unfold jd_put
    rw [hc, if_pos (by omega), Int.toNat_natCast]
  have e2 : jd_put (jd_put D 42 1600 (D 11 5) x) 43 1600 (D 11 5) y = qm_set (qm_set D 42 c x) 43 c y := by
    rw [e1]
    unfold jd_put
    rw [hc, if_pos (by omega), Int.toNat_natCast]
  unfold jx_qa
  rw [e2]
  constructor
  · rw [jl_sn _ _ _ (by decide), jl_sn _ _ _ (by decide)]
    by_cases q : i = c
    · subst q; rw [jl_ss, if_pos rfl]
    · rw [jl_sk _ _ _ q, if_neg q]
  · rw [jl_sn _ _ _ (by decide)]
    by_cases q : i = c
    · subst q; rw [jl_ss, if_pos rfl]
    · rw [jl_sk _ _ _ q, if_neg q, jl_sn _ _ _ (by decide)]
section
variable {L d n : Nat} {t : Nat → Int} {B a b : Nat} {m : Bool} {D μ0 μ : qm_M} {o s : Nat} {S : Nat → Int} {l : Nat} {pd : Nat → Int} {Q : Int → qm_M → Prop} {V : qm_M → Prop}
theorem jl_qcf {B' : Nat} {fs ls : List Nat} {μ' : qm_M} (h : jm_qc B D s S l pd μ) (hf : jd_fm fs ls μ μ') (h1 : fs.contains 65 = false) (h2 : fs.contains 67 = false) (h3 : ls.contains 91 = false) (h4 : ls.contains 92 = false) (hb : B ≤ B') : jm_qc B' D s S l pd μ' := by
  obtain ⟨k, ⟨k1, k2, k3, k4, k5⟩, k6, k7, k8⟩ := h
  refine ⟨k, ⟨?_, ?_, k3, by omega, by omega⟩, ?_, ?_, ?_⟩
  · rw [hf.2 65 h1]; exact k1
  · rw [hf.2 67 h2]; exact k2
  · rw [hf.1 91 rfl h3]; exact k6
  · rw [hf.1 92 rfl h4]; exact k7
  · rw [hf.1 92 rfl h4]; exact k8
theorem jl_qtm {b' : Nat} {m' : Bool} {μ' : qm_M} (h : jm_qg μ0 n t B a b m D o s S l pd μ) (hf : jd_fm [2, 4] [] μ μ') (hp : jm_pos n t b' m' μ') (hb : B ≤ b') (hb' : b' ≤ n) : jm_qt μ0 n t a b' m' D o s S l pd μ' := by
  obtain ⟨h1, h2, h3, h4, h5, h6, h7⟩ := h
  refine ⟨jg_trans h1 (jg_sub hf rfl rfl), hp, hb', jm_cstf h4 hf rfl, ?_, ?_, jl_qcf h7 hf rfl rfl rfl rfl hb⟩
  · rw [hf.2 68 rfl]; exact h5
  · rw [hf.2 69 rfl]; exact h6
theorem jl_qtb {k p : Int} {μ' : qm_M} (h : jm_qt μ0 n t a b m D o s S l pd μ) (hf : jd_fm [2, 4, 5, 6] [] μ μ') (hp : jm_bad n t k p μ') : jm_qn μ0 n t (k, p) μ' := by
  obtain ⟨h1, h2, h3, h4, h5, h6, k, ⟨k1, k2, k3, k4, k5⟩, h8, h9, h10⟩ := h
  refine ⟨⟨?_, jg_trans h1 (jg_sub hf rfl rfl)⟩, hp⟩
  rw [hf.2 65 rfl, k1]; omega
/-- a sign has been passed -/
theorem jl_qtM (h : jm_qg μ0 n t B a b m D o s S l pd μ) (h2 : μ 13 2 = ((jx_st n t b : Nat) : Int)) (hlt : jx_st n t b < n) (hB : B ≤ jx_st n t b + 1) : jm_qt μ0 n t a (jx_st n t b + 1) false D o s S l pd (qm_set μ 13 2 (μ 13 2 + 1)) := by
  have hst := jx_stb (t := t) h.2.2.1
  have ff : jd_fm [2, 4] [] μ (qm_set μ 13 2 (μ 13 2 + 1)) := jg_f (jg_refl _ _ _) rfl
  refine jl_qtm h ff (jl_adv h.2.1 (by rw [jl_ss, h2]; rfl) hlt ⟨fun z => (by cases z), fun _ => ?_⟩ ff) hB hlt
  rw [jl_sk _ _ _ (by decide)]
  obtain ⟨_, _, h3, h4, _, _, _⟩ := h.2.1
  cases m with
  | true => have := h3 rfl; omega
  | false => have := h4 rfl; omega
theorem jl_qt0 {pd' : Nat → Int} (h : jm_qg μ0 n t B a b m D o s S 0 pd μ) : jm_qg μ0 n t B a b m D o s S 0 pd' μ := by
  obtain ⟨h1, h2, h3, h4, h5, h6, k, h7, h8, h9, h10⟩ := h
  exact ⟨h1, h2, h3, h4, h5, h6, k, h7, h8, h9, fun j hj => absurd hj (by omega)⟩
theorem jl_qtS {S' : Nat → Int} (h : jm_qg μ0 n t B a b m D o s S l pd μ) (hS : ∀ i, i < s → S' i = S i) : jm_qg μ0 n t B a b m D o s S' l pd μ := by
  obtain ⟨h1, h2, h3, h4, h5, h6, k, h7, h8, h9, h10⟩ := h
  exact ⟨h1, h2, h3, h4, h5, h6, k, h7, h8, fun i hi => by rw [hS i hi]; exact h9 i hi, h10⟩
theorem jl_psn (S : Nat → Int) (s : Nat) (v : Int) : jx_ps S s v s = v := if_pos rfl
theorem jl_pso (S : Nat → Int) (s : Nat) (v : Int) : ∀ i, i < s → S i = jx_ps S s v i := fun i hi => (if_neg (by omega)).symm
/-- a code told -/
theorem js_2491a {x y v : Int} (h : jm_qg μ0 n t B a b m D o s S 0 pd μ) (hB : B ≤ 1600) (hc : ∀ c : Nat, D 11 5 = (c : Int) → c < B) (hr : jx_rel x y v) (H : ∀ μ', jm_qg μ0 n t B a b m (jx_qa D x y) o s S 0 jd_z μ' → μ' 13 2 = μ 13 2 → V μ') : qm_CV (qb_T L) d 2491 [qm_P 13, qm_I v] μ V := by
  obtain ⟨h1, h2, h3, h4, h5, h6, k, ⟨k1, k2, k3, k4, k5⟩, h8, h9, h10⟩ := h
  have hk := hc _ k3
  refine b2491_0 μ _ _ ?_
  rw [k1, Int.toNat_natCast]
  have ff : jd_fm [65] [91] μ (qm_set (qm_set μ 91 k v) 13 65 ((k : Int) + 1)) := jg_f (jg_c (jg_refl _ _ _) rfl rfl) rfl
  refine ⟨by omega, rfl, H _ ⟨jg_trans h1 (jg_sub ff rfl rfl), jl_posf h2 ff rfl rfl rfl rfl rfl rfl, h3, jm_cstf h4 ff rfl, ?_, ?_, k + 1, ⟨jl_ss _ _ _ _, ?_, ?_, by omega, k5⟩, fun i hi => ?_, ?_, fun j hj => absurd hj (by omega)⟩ (ff.2 2 rfl)⟩
  · rw [ff.2 68 rfl]; exact h5
  · rw [ff.2 69 rfl]; exact h6
  · rw [ff.2 67 rfl]; exact k2
  · rw [jl_qac, k3]; rfl
  · have g := jl_qag k3 (by omega) x y i
    rw [g.1, g.2, jl_sn _ _ _ (by decide)]
    by_cases q : i = k
    · rw [if_pos (by omega), if_pos (by omega), q, jl_ss]; exact hr
    · rw [if_neg (by omega), if_neg (by omega), jl_sk _ _ _ q]; exact h8 i (by omega)
  · rw [ff.1 92 rfl rfl]; exact h9
/-- what waits last is told -/
theorem js_2494 (h : jm_qg μ0 n t B a b m D o s S (l + 1) pd μ) (hB : B ≤ 1600) (H : ∀ μ', jm_qg μ0 n t B a b m D o s S l (fun j => pd (j + 1)) μ' → μ' 13 2 = μ 13 2 → V μ') : qm_CV (qb_T L) (d + 1) 2494 [qm_P 13] μ V := by
  obtain ⟨h1, h2, h3, h4, h5, h6, k, ⟨k1, k2, k3, k4, k5⟩, h8, h9, h10⟩ := h
  have p0 := h10 0 (by omega)
  have e1 : μ 13 67 - 1 = ((s + l : Nat) : Int) := by rw [k2]; omega
  rw [show s + (l + 1 - 1 - 0) = s + l by omega] at p0
  refine b2494_0 μ _ ?_
  rw [e1, Int.toNat_natCast, p0.1]
  refine ⟨by omega, b2491_0 _ _ _ ?_⟩
  rw [jl_sk _ _ _ (by decide), k1, Int.toNat_natCast]
  have ff : jd_fm [65, 67] [91] μ (qm_set (qm_set (qm_set μ 13 67 ((s + l : Nat) : Int)) 91 k (pd 0)) 13 65 ((k : Int) + 1)) := jg_f (jg_c (jg_f (jg_refl _ _ _) rfl) rfl rfl) rfl
  refine ⟨by omega, rfl, rfl, H _ ⟨jg_trans h1 (jg_sub ff rfl rfl), jl_posf h2 ff rfl rfl rfl rfl rfl rfl, h3, jm_cstf h4 ff rfl, ?_, ?_, k + 1, ⟨jl_ss _ _ _ _, ?_, ?_, by omega, by omega⟩, fun i hi => ?_, ?_, fun j hj => ?_⟩ (ff.2 2 rfl)⟩
  · rw [ff.2 68 rfl]; exact h5
  · rw [ff.2 69 rfl]; exact h6
  · rw [jl_sk _ _ _ (by decide), jl_sn _ _ _ (by decide), jl_ss]
  · rw [k3]; omega
  · rw [jl_sn _ _ _ (by decide)]
    by_cases q : i = k
    · subst q; rw [jl_ss]; exact p0.2.1
    · rw [jl_sk _ _ _ q, jl_sn _ _ _ (by decide)]; exact h8 i (by omega)
  · rw [ff.1 92 rfl rfl]; exact h9
  · have pj := h10 (j + 1) (by omega)
    rw [ff.1 92 rfl rfl, show s + (l - 1 - j) = s + (l + 1 - 1 - (j + 1)) by omega, show k + 1 + j = k + (j + 1) by omega]
    exact pj
/-- the class has told what waits last -/
theorem jl_qop {x y : Int} (h : jm_qg μ0 n t B a b m D o (s + 1) S l pd μ) (hB : B ≤ 1600) (hc : ∀ c : Nat, D 11 5 = (c : Int) → c < B) (hr : jx_rel x y (S s)) : jm_qg μ0 n t B a b m (jx_qa D x y) o s S (l + 1) (fun j => if j < l then pd j else S s) μ := by
  obtain ⟨h1, h2, h3, h4, h5, h6, k, ⟨k1, k2, k3, k4, k5⟩, h8, h9, h10⟩ := h
  have hk := hc _ k3
  refine ⟨h1, h2, h3, h4, h5, h6, k, ⟨k1, ?_, ?_, by omega, by omega⟩, fun i hi => ?_, fun i hi => h9 i (by omega), fun j hj => ?_⟩
  · rw [k2]; omega
  · rw [jl_qac, k3]; rfl
  · have g := jl_qag k3 (by omega) x y i
    rw [g.1, g.2, if_neg (by omega), if_neg (by omega)]; exact h8 i hi
  · have g := jl_qag k3 (by omega) x y (k + j)
    rw [g.1, g.2]
    by_cases q : j < l
    · have := h10 j q
      show μ 92 (s + (l + 1 - 1 - j)) = (if j < l then pd j else S s) ∧ jx_rel _ _ (if j < l then pd j else S s) ∧ 1 ≤ (if j < l then pd j else S s) ∧ (if j < l then pd j else S s) ≤ 63
      rw [if_pos q, if_neg (by omega), if_neg (by omega), show s + (l + 1 - 1 - j) = s + 1 + (l - 1 - j) by omega]
      exact this
    · have e : j = l := by omega
      subst e
      have := h9 s (by omega)
      show μ 92 (s + (j + 1 - 1 - j)) = (if j < j then pd j else S s) ∧ jx_rel _ _ (if j < j then pd j else S s) ∧ 1 ≤ (if j < j then pd j else S s) ∧ (if j < j then pd j else S s) ≤ 63
      rw [if_neg q, if_pos rfl, if_pos rfl, show s + (j + 1 - 1 - j) = s by omega]
      exact ⟨this.1, hr, this.2⟩
/-- all that the class has told is told -/
theorem js_2494s {x y : Int} (h : jm_qg μ0 n t B a b m D o (s + 1) S 0 pd μ) (hB : B ≤ 1600) (hc : ∀ c : Nat, D 11 5 = (c : Int) → c < B) (hr : jx_rel x y (S s)) (H : ∀ μ', jm_qg μ0 n t B a b m (jx_qa D x y) o s S 0 jd_z μ' → μ' 13 2 = μ 13 2 → V μ') : qm_CV (qb_T L) (d + 1) 2494 [qm_P 13] μ V :=
  js_2494 (jl_qop h hB hc hr) hB fun μ' h' a2 => H μ' (jl_qt0 h') a2
/-- something more waits -/
theorem jl_qpush {v : Int} (h : jm_qg μ0 n t B a b m D o s S 0 pd μ) (hs : s < B) (hv : 1 ≤ v ∧ v ≤ 63) : jm_qg μ0 n t B a b m D o (s + 1) (jx_ps S s v) 0 jd_z (qm_set (qm_set μ 92 s v) 13 67 ((s : Int) + 1)) := by
  obtain ⟨h1, h2, h3, h4, h5, h6, k, ⟨k1, k2, k3, k4, k5⟩, h8, h9, h10⟩ := h
  have ff : jd_fm [67] [92] μ (qm_set (qm_set μ 92 s v) 13 67 ((s : Int) + 1)) := jg_f (jg_c (jg_refl _ _ _) rfl rfl) rfl
  refine ⟨jg_trans h1 (jg_sub ff rfl rfl), jl_posf h2 ff rfl rfl rfl rfl rfl rfl, h3, jm_cstf h4 ff rfl, ?_, ?_, k, ⟨?_, ?_, k3, k4, by omega⟩, ?_, fun i hi => ?_, fun j hj => absurd hj (by omega)⟩
  · rw [ff.2 68 rfl]; exact h5
  · rw [ff.2 69 rfl]; exact h6
  · rw [ff.2 65 rfl]; exact k1
  · rw [jl_ss]; rfl
  · rw [ff.1 91 rfl rfl]; exact h8
  · rw [jl_sn _ _ _ (by decide)]
    by_cases q : i = s
    · subst q; rw [jl_ss, jl_psn]; exact ⟨rfl, hv⟩
    · rw [jl_sk _ _ _ q, ← jl_pso S s v i (by omega)]; exact h9 i (by omega)
theorem jl_q67 (h : jm_qg μ0 n t B a b m D o s S l pd μ) : μ 13 67 = ((s + l : Nat) : Int) ∧ s + l ≤ B ∧ ∀ i, i < s + l → 1 ≤ μ 92 i ∧ μ 92 i ≤ 63 := by
  obtain ⟨h1, h2, h3, h4, h5, h6, k, ⟨k1, k2, k3, k4, k5⟩, h8, h9, h10⟩ := h
  refine ⟨k2, k5, fun i hi => ?_⟩
  by_cases q : i < s
  · rw [(h9 i q).1]; exact (h9 i q).2
  · have := h10 (s + l - 1 - i) (by omega)
    rw [show s + (l - 1 - (s + l - 1 - i)) = i by omega] at this
    rw [this.1]; exact this.2.2
/-- something opens -/
theorem js_2492 {v pl : Int} (hk : jd_tok n t) (h : jm_qg μ0 n t b a b m D o s S 0 pd μ) (ho : o ≤ 6) (hv : 1 ≤ v ∧ v ≤ 63) (H1 : o < 6 → ∀ μ', jm_qg μ0 n t (b + 1) a b m D (o + 1) (s + 1) (jx_ps S s v) 0 jd_z μ' → μ' 13 2 = μ 13 2 → V μ') (H0 : 6 ≤ o → ∀ μ', jm_qn μ0 n t (4, pl) μ' → μ' 13 2 = μ 13 2 → V μ') : qm_CV (qb_T L) (d + 1) 2492 [qm_P 13, qm_I v, qm_I pl] μ V := by
  have hn := hk.1
  have hb := h.2.2.1
  have e5 := h.2.1.2.2.2.2.1
  have e68 := h.2.2.2.2.1
  obtain ⟨e67, q1, q2⟩ := jl_q67 h
  refine b2492_0 μ _ _ _ ?_
  rw [e5, e68, e67]
  refine ⟨by decide, fun _ => ⟨by omega, fun z => ?_, fun z => ?_⟩, fun z => absurd rfl z⟩
  · exact js_2404 h.2.1 (by decide) hb fun μ1 f1 hb1 => ⟨rfl, H0 (by omega) μ1 (jl_qtb h (jg_sub f1 rfl rfl) hb1) (f1.2 2 rfl)⟩
  · rw [Int.toNat_natCast]
    refine ⟨by omega, rfl, H1 (by omega) _ ?_ ?_⟩
    · have ff : jd_fm [68] [] μ (qm_set μ 13 68 ((o : Int) + 1)) := jg_f (jg_refl _ _ _) rfl
      obtain ⟨h1, h2, h3, h4, h5, h6, h7⟩ := h
      have h' : jm_qg μ0 n t (b + 1) a b m D (o + 1) s S 0 pd (qm_set μ 13 68 ((o : Int) + 1)) := ⟨jg_trans h1 (jg_sub ff rfl rfl), jl_posf h2 ff rfl rfl rfl rfl rfl rfl, h3, jm_cstf h4 ff rfl, jl_ss _ _ _ _, by rw [ff.2 69 rfl]; exact h6, jl_qcf h7 ff rfl rfl rfl rfl (by omega)⟩
      exact jl_qpush h' (by omega) hv
    · rw [jl_sk _ _ _ (by decide), jl_sn _ _ _ (by decide), jl_sk _ _ _ (by decide)]
theorem js_2492b {v pl k p : Int} (h : jm_bad n t k p μ) (H : V μ) : qm_CV (qb_T L) (d + 1) 2492 [qm_P 13, qm_I v, qm_I pl] μ V := by
  refine b2492_0 μ _ _ _ ?_
  rw [h.2.2.1]
  have := h.2.2.2.1
  exact ⟨by omega, fun q => by omega, fun _ => ⟨rfl, H⟩⟩
theorem js_2493 {w : Nat} {x : Int} (h67 : μ 13 67 = (w : Int)) (hw : w ≤ 1700) (hr : ∀ i, i < w → 1 ≤ μ 92 i ∧ μ 92 i ≤ 63) (hx : qm_r32 x) (H1 : ∀ w', w = w' + 1 → μ 92 w' = x → Q 1 μ) (H0 : (∀ w', w = w' + 1 → μ 92 w' ≠ x) → Q 0 μ) : qm_CI (qb_T L) d 2493 [qm_P 13, qm_I x] μ Q := by
  refine b2493_0 μ _ _ ?_
  rw [h67]
  refine ⟨by omega, fun z => ⟨_, rfl, H0 fun w' e => by omega⟩, fun z => ?_⟩
  obtain ⟨w', rfl⟩ : ∃ w', w = w' + 1 := ⟨w - 1, by omega⟩
  have e : ((w' + 1 : Nat) : Int) - 1 = (w' : Int) := by omega
  have := hr w' (by omega)
  rw [e, Int.toNat_natCast]
  refine ⟨by omega, by omega, hx, fun q => ⟨_, rfl, H1 w' rfl q⟩, fun q => ⟨_, rfl, H0 fun w2 e2 => ?_⟩⟩
  have : w2 = w' := by omega
  rw [this]; exact q
theorem js_2495 {x : Int} (hx : qm_r32 x) (H1 : 20 ≤ x → x ≤ 24 → Q 1 μ) (H0 : ¬ (20 ≤ x ∧ x ≤ 24) → Q 0 μ) : qm_CI (qb_T L) d 2495 [qm_I x] μ Q :=
  b2495_0 μ _ _ ⟨hx, fun y => ⟨_, rfl, H0 (by omega)⟩, fun y => ⟨hx, fun y2 => ⟨_, rfl, H0 (by omega)⟩, fun y2 => ⟨_, rfl, H1 (by omega) (by omega)⟩⟩⟩
/-- a sum's end: nothing waits in it, or a bracket does -/
def jx_ctx (a s : Nat) (S : Nat → Int) : Prop := s = a ∨ (a < s ∧ 20 ≤ S (s - 1) ∧ S (s - 1) ≤ 24)
/-- the bracket that is open last in a sum -/
theorem js_2496 (h : jm_qg μ0 n t B a b m D o s S l pd μ) (hB : B ≤ 1600) (hpd : ∀ j, j < l → pd j < 20) (hc : jx_ctx a s S) (H : ∀ v, ((s = a ∧ v = -1) ∨ (a < s ∧ v = S (s - 1))) → Q v μ) : qm_CI (qb_T L) (d + 1) 2496 [qm_P 13] μ Q := by
  obtain ⟨h1, h2, h3, h4, h5, h6, k, ⟨k1, k2, k3, k4, k5⟩, h8, h9, h10⟩ := h
  refine b2496_0 μ _ ?_
  rw [k2]
  have hsa : a ≤ s := by rcases hc with z | z <;> omega
  refine jl_loop (S := fun i => qm_W (qb_T L) (d + 1) 2496 7 [qm_P 13, qm_I (((s + (l - i) : Nat) : Int) - 1)] [] μ (fun v μ' => ∃ r, v = some (.inl r) ∧ Q r μ')) l (fun i hi ih => ?_) ?_
  · have p := h10 i hi
    have pb := hpd i hi
    have e : (((s + (l - i) : Nat) : Int) - 1).toNat = s + (l - 1 - i) := by omega
    refine b2496_7 μ _ _ ?_
    rw [h6, e, p.1]
    refine ⟨by omega, by omega, fun z => by omega, fun z => ⟨by omega, js_2495 (by omega) (fun q1 q2 => by omega) (fun _ => ⟨by decide, fun _ => ?_, fun q => absurd rfl q⟩)⟩⟩
    rw [show (((s + (l - i) : Nat) : Int) - 1) + (-1) = ((s + (l - (i + 1)) : Nat) : Int) - 1 by omega]
    exact ih
  · rw [show s + (l - l) = s by omega]
    rcases hc with z | ⟨z1, z2, z3⟩
    · refine b2496_7 μ _ _ ?_
      rw [h6]
      refine ⟨by omega, by omega, fun _ => b2496_33 μ _ _ ?_, fun q => absurd q (by omega)⟩
      rw [h6]
      exact ⟨by omega, by omega, fun _ => ⟨_, rfl, H _ (Or.inl ⟨z, rfl⟩)⟩, fun q => absurd q (by omega)⟩
    · have p := h9 (s - 1) (by omega)
      have e : (((s : Nat) : Int) - 1).toNat = s - 1 := by omega
      refine b2496_7 μ _ _ ?_
      rw [h6, e, p.1]
      refine ⟨by omega, by omega, fun q => absurd q (by omega), fun _ => ⟨by omega, js_2495 (by omega) (fun _ _ => ⟨by decide, fun q => absurd q (by decide), fun _ => b2496_33 μ _ _ ?_⟩) (fun q => absurd ⟨z2, z3⟩ q)⟩⟩
      rw [h6, e, p.1]
      exact ⟨by omega, by omega, fun q => absurd q (by omega), fun _ => ⟨by omega, _, rfl, H _ (Or.inr ⟨z1, rfl⟩)⟩⟩
/-- all down to it is told -/
theorem js_2497 (hB : B ≤ 1600) (hc : jx_ctx a s S) : ∀ (l : Nat) (pd : Nat → Int) (μ : qm_M), jm_qg μ0 n t B a b m D o s S l pd μ → (∀ j, j < l → pd j < 20) → (∀ μ', jm_qg μ0 n t B a b m D o s S 0 jd_z μ' → μ' 13 2 = μ 13 2 → V μ') → qm_CV (qb_T L) (d + 2) 2497 [qm_P 13] μ V
  | 0, pd, μ, h, _, H => by
    have e69 := h.2.2.2.2.2.1
    have q := jl_q67 h
    have hsa : a ≤ s := by rcases hc with z | z <;> omega
    refine b2497_0 μ _ ?_
    rw [e69, q.1]
    refine ⟨by omega, by omega, fun _ => ⟨rfl, H μ (jl_qt0 h) rfl⟩, fun z => ?_⟩
    rcases hc with w | ⟨w1, w2, w3⟩
    · omega
    · obtain ⟨_, _, _, _, _, _, k, _, h8, h9, h10⟩ := id h
      have p := h9 (s - 1) (by omega)
      rw [show (((s + 0 : Nat) : Int) - 1).toNat = s - 1 by omega, p.1]
      exact ⟨by omega, js_2495 (by omega) (fun _ _ => ⟨by decide, fun q => absurd q (by decide), fun _ => ⟨rfl, H μ (jl_qt0 h) rfl⟩⟩) (fun q => absurd ⟨w2, w3⟩ q)⟩
  | l + 1, pd, μ, h, hpd, H => by
    have e69 := h.2.2.2.2.2.1
    have q := jl_q67 h
    have hsa : a ≤ s := by rcases hc with z | z <;> omega
    have p0 := hpd 0 (by omega)
    obtain ⟨_, _, _, _, _, _, k, _, h8, h9, h10⟩ := id h
    have p := h10 0 (by omega)
    refine b2497_0 μ _ ?_
    rw [e69, q.1, show (((s + (l + 1) : Nat) : Int) - 1).toNat = s + (l + 1 - 1 - 0) by omega, p.1]
    refine ⟨by omega, by omega, fun z => by omega, fun z => ⟨by omega, js_2495 (by omega) (fun q1 q2 => by omega) (fun _ => ⟨by decide, fun _ => ?_, fun q => absurd rfl q⟩)⟩⟩
    exact js_2494 h hB fun μ1 h1 a1 => js_2497 hB hc l _ μ1 h1 (fun j hj => hpd (j + 1) (by omega)) fun μ2 h2 a2 => H μ2 h2 (a2.trans a1)
end
