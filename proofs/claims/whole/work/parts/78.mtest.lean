/-! ===== where the reference goes on in a test ===== -/
def jt_R (L d : Nat) (V : qm_M → Prop) (r : Int) (μ : qm_M) : Prop := (-2147483648 ≤ r ∧ r < 2147483648) ∧ ((r = 0 → ∀ c : Int, qm_W (qb_T L) (d + 8) 2508 105 [qm_P 13, qm_I 1, qm_I c] [] μ (fun v μ' => v = none ∧ V μ')) ∧ (¬ (r = 0) → ∀ c : Int, qm_W (qb_T L) (d + 8) 2508 106 [qm_P 13, qm_I 1, qm_I c] [qm_I 1] μ (fun v μ' => v = none ∧ V μ')))
/-- behind a fact -/
def jt_G (L d : Nat) (V : qm_M → Prop) (μ : qm_M) : Prop := qm_CI (qb_T L) (d + 7) 2509 [qm_P 13] μ (jt_R L d V)
/-- a fact has ended -/
def jt_N (L d : Nat) (V : qm_M → Prop) (μ : qm_M) : Prop := ∀ (dd : Nat) (V2 : qm_M → Prop), 5 ≤ dd → (∀ μ', μ' 13 5 = 0 → jt_G L d V μ' → V2 μ') → qm_CV (qb_T L) dd 2507 [qm_P 13] μ V2
/-- a fact begins -/
def jt_T (L d : Nat) (V : qm_M → Prop) (μ : qm_M) : Prop := ∀ w2, qm_W (qb_T L) (d + 8) 2508 2 [qm_P 13, qm_I 1, w2] [] μ (fun v μ' => v = none ∧ V μ')
def jm_qb (μ0 : qm_M) (n : Nat) (t : Nat → Int) (e : Int × Int) (μ : qm_M) : Prop := jd_fm jx_QMF jx_QMC μ0 μ ∧ jm_bad n t e.1 e.2 μ
section
variable {L d n : Nat} {t : Nat → Int} {b : Nat} {m : Bool} {D μ0 μ : qm_M} {o s : Nat} {S : Nat → Int} {l : Nat} {pd : Nat → Int} {V : qm_M → Prop} {e : Int × Int}
theorem jl_t105b {c : Int} (h : jm_qb μ0 n t e μ) (H : ∀ μ', jm_qb μ0 n t e μ' → V μ') : qm_W (qb_T L) (d + 8) 2508 105 [qm_P 13, qm_I 1, qm_I c] [] μ (fun v μ' => v = none ∧ V μ') := by
  have e5 := h.2.2.2.1
  have ek := h.2.2.2.2.1
  refine b2508_105 μ _ _ _ (b2508_106 μ _ _ _ _ (b2508_2 μ _ _ _ ⟨by decide, fun _ => b2508_110 μ _ _ _ ?_, fun q => absurd rfl q⟩))
  rw [e5]
  exact ⟨by omega, fun z => by omega, fun _ => ⟨rfl, H μ h⟩⟩
theorem jl_tTb (h : jm_qb μ0 n t e μ) (H : ∀ μ', jm_qb μ0 n t e μ' → V μ') : jt_T L d V μ := fun w2 => by
  have e5 := h.2.2.2.1
  have ek := h.2.2.2.2.1
  refine b2508_2 μ _ _ _ ⟨by decide, fun q => absurd q (by decide), fun _ => ?_⟩
  rw [e5]
  refine ⟨by omega, fun z => by omega, fun _ => b2508_110 μ _ _ _ ?_⟩
  rw [e5]
  exact ⟨by omega, fun z => by omega, fun _ => ⟨rfl, H μ h⟩⟩
/-- a test has ended: what waits is told -/
theorem jl_t110 {w2 : qm_V} (hn : n ≤ 1600) : ∀ (l : Nat) (pd : Nat → Int) (μ : qm_M), jm_qt μ0 n t 0 b m D o 0 S l pd μ → (∀ μ', jm_qt μ0 n t 0 b m D o 0 S 0 jd_z μ' → V μ') → qm_W (qb_T L) (d + 8) 2508 110 [qm_P 13, qm_I 0, w2] [] μ (fun v μ' => v = none ∧ V μ')
  | 0, pd, μ, h, H => by
    refine b2508_110 μ _ _ _ ?_
    rw [h.2.1.2.2.2.2.1, (jl_q67 h).1]
    exact ⟨by decide, fun _ => ⟨by decide, fun _ => ⟨rfl, H _ (jl_qt0 h)⟩, fun z => absurd (by decide) z⟩, fun z => absurd rfl z⟩
  | l + 1, pd, μ, h, H => by
    refine b2508_110 μ _ _ _ ?_
    rw [h.2.1.2.2.2.2.1, (jl_q67 h).1]
    have := (jl_q67 h).2.1
    have hb := h.2.2.1
    refine ⟨by decide, fun _ => ⟨by omega, fun z => by omega, fun _ => js_2494 (d := d + 6) h (by omega) fun μ1 h1 _ => jl_t110 hn l _ μ1 h1 H⟩, fun z => absurd rfl z⟩
theorem jl_t105 {c : Int} (hn : n ≤ 1600) (h : jm_qt μ0 n t 0 b m D o 0 S l pd μ) (H : ∀ μ', jm_qt μ0 n t 0 b m D o 0 S 0 jd_z μ' → V μ') : qm_W (qb_T L) (d + 8) 2508 105 [qm_P 13, qm_I 1, qm_I c] [] μ (fun v μ' => v = none ∧ V μ') :=
  b2508_105 μ _ _ _ (b2508_106 μ _ _ _ _ (b2508_2 μ _ _ _ ⟨by decide, fun _ => jl_t110 hn l pd μ h H, fun q => absurd rfl q⟩))
theorem jl_N0 (hn : n ≤ 1600) (h : jm_qt μ0 n t 0 b m D o s S 0 pd μ) (hS : s = 0 ∨ S (s - 1) ≠ 12) (H : jt_G L d V μ) : jt_N L d V μ := fun dd V2 hdd K => by
  obtain ⟨d1, rfl⟩ : ∃ x, dd = x + 5 := ⟨dd - 5, by omega⟩
  have e5 := h.2.1.2.2.2.2.1
  have hb := h.2.2.1
  obtain ⟨q1, q2, q3⟩ := jl_q67 h
  obtain ⟨_, _, _, _, _, _, k, _, h8, h9, h10⟩ := id h
  refine b2507_0 μ _ ?_
  rw [e5]
  refine ⟨by decide, fun _ => js_2493 q1 (by omega) q3 (by decide) (fun w' e1 e2 => ?_) (fun _ => ⟨by decide, fun _ => ⟨rfl, K μ e5 H⟩, fun q => absurd rfl q⟩), fun z => absurd rfl z⟩
  have p := h9 w' (by omega)
  exfalso
  rcases hS with z | z
  · omega
  · rw [show s - 1 = w' by omega] at z; omega
theorem jl_N1 (hn : n ≤ 1600) (h : jm_qt μ0 n t 0 b m D (o + 1) (s + 1) S 0 pd μ) (hS : S s = 12) (hc : ∀ c : Nat, D 11 5 = (c : Int) → c < b) (H : ∀ μ', jm_qt μ0 n t 0 b m (jx_qa D 8 0) o s S 0 jd_z μ' → jt_N L d V μ') : jt_N L d V μ := fun dd V2 hdd K => by
  obtain ⟨d1, rfl⟩ : ∃ x, dd = x + 5 := ⟨dd - 5, by omega⟩
  have e5 := h.2.1.2.2.2.2.1
  have hb := h.2.2.1
  obtain ⟨q1, q2, q3⟩ := jl_q67 h
  obtain ⟨_, _, _, _, _, _, k, _, h8, h9, h10⟩ := id h
  refine b2507_0 μ _ ?_
  rw [e5]
  refine ⟨by decide, fun _ => js_2493 q1 (by omega) q3 (by decide) (fun w' e1 e2 => ⟨by decide, fun q => absurd q (by decide), fun _ => ?_⟩) (fun z => absurd (show μ 92 s = 12 by rw [(h9 s (by omega)).1]; exact hS) (z s (by omega))), fun z => absurd rfl z⟩
  exact js_2494s (d := d1 + 3) (jl_q68 h) (by omega) hc (by rw [hS]; unfold jx_rel; omega) fun μ1 h1 _ => H μ1 h1 (d1 + 5) V2 hdd K
/-- is a square bracket open? -/
theorem js_2506 {B : Nat} {Q : Int → qm_M → Prop} (hB : B ≤ 1600) (h : jm_qg μ0 n t B 0 b m D o s S l pd μ) (hpd : ∀ j, j < l → pd j < 20) (H1 : (∃ i, i < s ∧ S i = 25) → Q 1 μ) (H0 : (∀ i, i < s → S i ≠ 25) → Q 0 μ) : qm_CI (qb_T L) d 2506 [qm_P 13] μ Q := by
  obtain ⟨q1, q2, q3⟩ := jl_q67 h
  obtain ⟨_, _, _, _, _, _, k, _, h8, h9, h10⟩ := id h
  refine b2506_0 μ _ ?_
  refine jl_loop (S := fun i => (∀ j, j < i → μ 92 j ≠ 25) → qm_W (qb_T L) d 2506 2 [qm_P 13, qm_I ((i : Nat) : Int)] [] μ (fun v μ' => ∃ r, v = some (.inl r) ∧ Q r μ')) (s + l) (fun i hi ih hj => ?_) (fun hj => ?_) (fun j hj => absurd hj (by omega))
  · have q := q3 i hi
    refine b2506_2 μ _ _ ?_
    rw [q1, Int.toNat_natCast]
    refine ⟨by omega, by omega, fun z => by omega, fun _ => ⟨by omega, by omega, fun z => ⟨_, rfl, H1 ?_⟩, fun z => ?_⟩⟩
    · by_cases y : i < s
      · exact ⟨i, y, by rw [← (h9 i y).1]; exact z⟩
      · have p := h10 (s + l - 1 - i) (by omega)
        have p2 := hpd (s + l - 1 - i) (by omega)
        rw [show s + (l - 1 - (s + l - 1 - i)) = i by omega] at p
        omega
    · rw [jl_cs]
      refine ih fun j hj2 => ?_
      by_cases y : j = i
      · rw [y]; exact z
      · exact hj j (by omega)
  · refine b2506_2 μ _ _ ?_
    rw [q1]
    exact ⟨by omega, by omega, fun _ => ⟨_, rfl, H0 fun i hi => by rw [← (h9 i hi).1]; exact hj i (by omega)⟩, fun z => by omega⟩
/-- down to the square bracket all is told, it goes -/
theorem jl_t33 {R : qm_V → qm_M → Prop} (hn : n ≤ 1600) (hS : S s = 25) : ∀ (l : Nat) (pd : Nat → Int) (μ : qm_M), jm_qt μ0 n t 0 b m D (o + 1) (s + 1) S l pd μ → (∀ j, j < l → pd j < 20) → (∀ μ', jm_qt μ0 n t 0 b m D o s S 0 jd_z μ' → qm_CV (qb_T L) (d + 6) 2507 [qm_P 13] μ' (fun μ2 => qm_W (qb_T L) (d + 7) 2509 0 [qm_P 13] [] μ2 R)) → qm_W (qb_T L) (d + 7) 2509 33 [qm_P 13] [] μ R
  | 0, pd, μ, h, _, H => by
    have hb := h.2.2.1
    obtain ⟨q1, q2, q3⟩ := jl_q67 h
    obtain ⟨_, _, _, _, _, _, k, _, h8, h9, h10⟩ := id h
    refine b2509_33 μ _ (js_2493 q1 (by omega) q3 (by decide) (fun w' e1 e2 => ⟨by decide, fun q => absurd q (by decide), fun _ => H _ (jl_qpop h)⟩) (fun z => absurd (show μ 92 s = 25 by rw [(h9 s (by omega)).1]; exact hS) (z s (by omega))))
  | l + 1, pd, μ, h, hpd, H => by
    have hb := h.2.2.1
    obtain ⟨q1, q2, q3⟩ := jl_q67 h
    obtain ⟨_, _, _, _, _, _, k, _, h8, h9, h10⟩ := id h
    have p := (h10 0 (by omega)).1
    have p2 := hpd 0 (by omega)
    refine b2509_33 μ _ (js_2493 q1 (by omega) q3 (by decide) (fun w' e1 e2 => ?_) (fun z => ⟨by decide, fun _ => ?_, fun q => absurd rfl q⟩))
    · rw [show w' = s + 1 + (l + 1 - 1 - 0) by omega] at e2; omega
    · exact js_2494 (d := d + 5) h (by omega) fun μ1 h1 _ => jl_t33 hn hS l _ μ1 h1 (fun j hj => hpd (j + 1) (by omega)) H
/-- ands that wait are told -/
theorem jl_t87 {R : qm_V → qm_M → Prop} (hn : n ≤ 1600) (hs : s < b) (ht : s = 0 ∨ S (s - 1) ≠ 10) : ∀ (l : Nat) (pd : Nat → Int) (μ : qm_M), jm_qt μ0 n t 0 b m D o s S l pd μ → (∀ j, j < l → pd j = 10) → (∀ μ', jm_qt μ0 n t 0 b m D o (s + 1) (jx_ps S s 10) 0 jd_z μ' → R (qm_I 1) μ') → qm_W (qb_T L) (d + 7) 2509 87 [qm_P 13] [] μ R
  | 0, pd, μ, h, _, H => by
    have hb := h.2.2.1
    obtain ⟨q1, q2, q3⟩ := jl_q67 h
    obtain ⟨_, _, _, _, _, _, k, _, h8, h9, h10⟩ := id h
    refine b2509_87 μ _ (js_2493 q1 (by omega) q3 (by decide) (fun w' e1 e2 => ?_) (fun _ => ⟨by decide, fun _ => ?_, fun q => absurd rfl q⟩))
    · have p := h9 w' (by omega)
      exfalso
      rcases ht with z | z
      · omega
      · rw [show s - 1 = w' by omega] at z; omega
    · rw [q1, Int.toNat_natCast]
      exact ⟨by omega, H _ (jl_qpush h hs (by decide))⟩
  | l + 1, pd, μ, h, hpd, H => by
    have hb := h.2.2.1
    obtain ⟨q1, q2, q3⟩ := jl_q67 h
    obtain ⟨_, _, _, _, _, _, k, _, h8, h9, h10⟩ := id h
    have p := (h10 0 (by omega)).1
    have p2 := hpd 0 (by omega)
    refine b2509_87 μ _ (js_2493 q1 (by omega) q3 (by decide) (fun w' e1 e2 => ⟨by decide, fun q => absurd q (by decide), fun _ => js_2494 (d := d + 5) h (by omega) fun μ1 h1 _ => jl_t87 hn hs ht l _ μ1 h1 (fun j hj => hpd (j + 1) (by omega)) H⟩) (fun z => ?_))
    have := z (s + (l + 1 - 1 - 0)) (by omega)
    omega
/-- ors and ands that wait are told -/
theorem jl_t137 {R : qm_V → qm_M → Prop} (hn : n ≤ 1600) (hs : s < b) (ht : s = 0 ∨ (S (s - 1) ≠ 10 ∧ S (s - 1) ≠ 11)) : ∀ (l : Nat) (pd : Nat → Int) (μ : qm_M), jm_qt μ0 n t 0 b m D o s S l pd μ → (∀ j, j < l → pd j = 10 ∨ pd j = 11) → (∀ μ', jm_qt μ0 n t 0 b m D o (s + 1) (jx_ps S s 11) 0 jd_z μ' → R (qm_I 1) μ') → qm_W (qb_T L) (d + 7) 2509 137 [qm_P 13] [] μ R
  | 0, pd, μ, h, _, H => by
    have hb := h.2.2.1
    obtain ⟨q1, q2, q3⟩ := jl_q67 h
    obtain ⟨_, _, _, _, _, _, k, _, h8, h9, h10⟩ := id h
    have no : ∀ x : Int, (x = 10 ∨ x = 11) → ∀ w', s + 0 = w' + 1 → μ 92 w' = x → False := fun x hx w' e1 e2 => by
      have p := h9 w' (by omega)
      rcases ht with z | z
      · omega
      · rw [show s - 1 = w' by omega] at z; omega
    refine b2509_137 μ _ (js_2493 q1 (by omega) q3 (by decide) (fun w' e1 e2 => (no 10 (Or.inl rfl) w' e1 e2).elim) (fun _ => ⟨by decide, fun _ => ?_, fun q => absurd rfl q⟩))
    refine js_2493 q1 (by omega) q3 (by decide) (fun w' e1 e2 => (no 11 (Or.inr rfl) w' e1 e2).elim) (fun _ => ⟨by decide, fun _ => ?_, fun q => absurd rfl q⟩)
    rw [q1, Int.toNat_natCast]
    exact ⟨by omega, H _ (jl_qpush h hs (by decide))⟩
  | l + 1, pd, μ, h, hpd, H => by
    have hb := h.2.2.1
    obtain ⟨q1, q2, q3⟩ := jl_q67 h
    obtain ⟨_, _, _, _, _, _, k, _, h8, h9, h10⟩ := id h
    have p := (h10 0 (by omega)).1
    have p2 := hpd 0 (by omega)
    have nx : qm_W (qb_T L) (d + 7) 2509 155 [qm_P 13] [] μ R := b2509_155 μ _ (js_2494 (d := d + 5) h (by omega) fun μ1 h1 _ => jl_t137 hn hs ht l _ μ1 h1 (fun j hj => hpd (j + 1) (by omega)) H)
    refine b2509_137 μ _ (js_2493 q1 (by omega) q3 (by decide) (fun w' e1 e2 => ⟨by decide, fun q => absurd q (by decide), fun _ => nx⟩) (fun z => ⟨by decide, fun _ => ?_, fun q => absurd rfl q⟩))
    refine js_2493 q1 (by omega) q3 (by decide) (fun w' e1 e2 => ⟨by decide, fun q => absurd q (by decide), fun _ => nx⟩) (fun z2 => ?_)
    have := z (s + (l + 1 - 1 - 0)) (by omega)
    have := z2 (s + (l + 1 - 1 - 0)) (by omega)
    omega
end
