/-! ===== what a run comes to: rules ===== -/
theorem qm_run_mono {T : qm_T} : ∀ (n d k pc : Nat) (ls st : List qm_V) (μ : qm_M) (r : qm_V × qm_M), qm_run T n d k pc ls st μ = some r → ∀ n' d', n ≤ n' → d ≤ d' → qm_run T n' d' k pc ls st μ = some r := by
  intro n
  induction n with
  | zero => intro d k pc ls st μ r h; cases h
  | succ n ih =>
    intro d k pc ls st μ r h n' d' hn hd
    obtain ⟨m, rfl⟩ : ∃ m, n' = m + 1 := ⟨n' - 1, by omega⟩
    have hm : n ≤ m := by omega
    rw [qm_run] at h ⊢
    cases hst : (qm_at T k pc).bind (qm_step T k pc ls st μ) with
    | none => rw [hst] at h; cases h
    | some o =>
      rw [hst] at h
      rcases o with ⟨pc', ls', st', μ1⟩ | v1 | ⟨k', as, rest⟩
      · exact ih d k pc' ls' st' μ1 r h m d' hm hd
      · exact h
      · have h2 : (if d = 0 then none else if 100000 ≤ k' then (match qm_intr T k' as with
            | none => none
            | some v => qm_run T n d k (pc + 3) ls (v :: rest) μ)
            else if (qm_ent as (qm_mxl T k')).length = qm_mxl T k' then (match qm_run T n (d - 1) k' 0 (qm_ent as (qm_mxl T k')) [] μ with
            | none => none
            | some (v, μ') => qm_run T n d k (pc + 3) ls (qm_push v rest) μ') else none) = some r := h
        show (if d' = 0 then none else if 100000 ≤ k' then (match qm_intr T k' as with
            | none => none
            | some v => qm_run T m d' k (pc + 3) ls (v :: rest) μ)
            else if (qm_ent as (qm_mxl T k')).length = qm_mxl T k' then (match qm_run T m (d' - 1) k' 0 (qm_ent as (qm_mxl T k')) [] μ with
            | none => none
            | some (v, μ') => qm_run T m d' k (pc + 3) ls (qm_push v rest) μ') else none) = some r
        by_cases hd0 : d = 0
        · rw [if_pos hd0] at h2; cases h2
        · rw [if_neg hd0] at h2
          rw [if_neg (show ¬ d' = 0 by omega)]
          by_cases hb : 100000 ≤ k'
          · rw [if_pos hb] at h2 ⊢
            cases hi : qm_intr T k' as with
            | none => rw [hi] at h2; cases h2
            | some w =>
              rw [hi] at h2
              exact ih d k (pc + 3) ls (w :: rest) μ r h2 m d' hm hd
          · rw [if_neg hb] at h2 ⊢
            by_cases he : (qm_ent as (qm_mxl T k')).length = qm_mxl T k'
            · rw [if_pos he] at h2 ⊢
              cases hr : qm_run T n (d - 1) k' 0 (qm_ent as (qm_mxl T k')) [] μ with
              | none => rw [hr] at h2; cases h2
              | some q =>
                obtain ⟨v1, μ1⟩ := q
                rw [hr] at h2
                rw [ih (d - 1) k' 0 _ [] μ _ hr m (d' - 1) hm (by omega)]
                exact ih d k (pc + 3) ls (qm_push v1 rest) μ1 r h2 m d' hm hd
            · rw [if_neg he] at h2
              cases h2
def qm_W (T : qm_T) (d k pc : Nat) (ls st : List qm_V) (μ : qm_M) (Q : qm_V → qm_M → Prop) : Prop := ∃ n v μ', qm_run T n d k pc ls st μ = some (v, μ') ∧ Q v μ'
def qm_C (T : qm_T) (d k : Nat) (as : List qm_V) (μ : qm_M) (Q : qm_V → qm_M → Prop) : Prop := qm_W T d k 0 (qm_ent as (qm_mxl T k)) [] μ Q
def qm_CI (T : qm_T) (d k : Nat) (as : List qm_V) (μ : qm_M) (Q : Int → qm_M → Prop) : Prop := qm_C T d k as μ fun v μ' => ∃ r, v = some (.inl r) ∧ Q r μ'
def qm_CL (T : qm_T) (d k : Nat) (as : List qm_V) (μ : qm_M) (Q : Int → qm_M → Prop) : Prop := qm_C T d k as μ fun v μ' => ∃ r, v = some (.inr (.inl r)) ∧ Q r μ'
def qm_CV (T : qm_T) (d k : Nat) (as : List qm_V) (μ : qm_M) (Q : qm_M → Prop) : Prop := qm_C T d k as μ fun v μ' => v = none ∧ Q μ'
section QW
variable {T : qm_T} {d d' k pc : Nat} {ls st r : List qm_V} {μ : qm_M} {Q : qm_V → qm_M → Prop}
theorem qw_mono {Q' : qm_V → qm_M → Prop} (h : qm_W T d k pc ls st μ Q) (hd : d ≤ d') (hQ : ∀ v μ', Q v μ' → Q' v μ') : qm_W T d' k pc ls st μ Q' := by
  obtain ⟨n, v, μ', h1, h2⟩ := h
  exact ⟨n, v, μ', qm_run_mono n d k pc ls st μ _ h1 n d' (Nat.le_refl _) hd, hQ _ _ h2⟩
theorem qc_I {as : List qm_V} {Q Q' : Int → qm_M → Prop} (h : qm_CI T d k as μ Q) (hd : d ≤ d') (hQ : ∀ v μ', Q v μ' → Q' v μ') : qm_CI T d' k as μ Q' := qw_mono h hd fun _ _ ⟨r, h1, h2⟩ => ⟨r, h1, hQ _ _ h2⟩
theorem qc_L {as : List qm_V} {Q Q' : Int → qm_M → Prop} (h : qm_CL T d k as μ Q) (hd : d ≤ d') (hQ : ∀ v μ', Q v μ' → Q' v μ') : qm_CL T d' k as μ Q' := qw_mono h hd fun _ _ ⟨r, h1, h2⟩ => ⟨r, h1, hQ _ _ h2⟩
theorem qc_V {as : List qm_V} {Q Q' : qm_M → Prop} (h : qm_CV T d k as μ Q) (hd : d ≤ d') (hQ : ∀ μ', Q μ' → Q' μ') : qm_CV T d' k as μ Q' := qw_mono h hd fun _ _ ⟨h1, h2⟩ => ⟨h1, hQ _ h2⟩
theorem qw_nx {i : Instr} {pc' : Nat} {ls' st' : List qm_V} {μ' : qm_M} (hat : qm_at T k pc = some i) (hs : qm_step T k pc ls st μ i = some (.inl (pc', ls', st', μ'))) (H : qm_W T d k pc' ls' st' μ' Q) : qm_W T d k pc ls st μ Q := by
  obtain ⟨n, v, μ2, h1, h2⟩ := H
  refine ⟨n + 1, v, μ2, ?_, h2⟩
  rw [qm_run, hat, Option.bind_some, hs]
  exact h1
theorem qw_ret {i : Instr} {v : qm_V} (hat : qm_at T k pc = some i) (hs : qm_step T k pc ls st μ i = some (.inr (.inl v))) (H : Q v μ) : qm_W T d k pc ls st μ Q :=
  ⟨1, v, μ, by rw [qm_run, hat, Option.bind_some, hs], H⟩
theorem qw_call {i : Instr} {k' : Nat} {as rest : List qm_V} (hat : qm_at T k pc = some i) (hs : qm_step T k pc ls st μ i = some (.inr (.inr (k', as, rest)))) (hd : 0 < d) (hk : Nat.ble 100000 k' = false) (he : (qm_ent as (qm_mxl T k')).length = qm_mxl T k')
    (H : qm_C T (d - 1) k' as μ fun v μ' => qm_W T d k (pc + 3) ls (qm_push v rest) μ' Q) : qm_W T d k pc ls st μ Q := by
  obtain ⟨n, v, μ1, h1, n2, v2, μ2, h2, h3⟩ := H
  refine ⟨max n n2 + 1, v2, μ2, ?_, h3⟩
  have hk2 : ¬ 100000 ≤ k' := fun q => by rw [Nat.ble_eq_true_of_le q] at hk; cases hk
  rw [qm_run, hat, Option.bind_some, hs]
  show (if d = 0 then none else if 100000 ≤ k' then _ else if (qm_ent as (qm_mxl T k')).length = qm_mxl T k' then _ else none) = _
  rw [if_neg (by omega), if_neg hk2, if_pos he, qm_run_mono n (d - 1) k' 0 _ [] μ _ h1 (max n n2) (d - 1) (by omega) (Nat.le_refl _)]
  exact qm_run_mono n2 d k _ _ _ _ _ h2 (max n n2) d (by omega) (Nat.le_refl _)
theorem qw_callI {i : Instr} {k' : Nat} {as rest : List qm_V} {F : Int → qm_M → Prop} (hat : qm_at T k pc = some i) (hs : qm_step T k pc ls st μ i = some (.inr (.inr (k', as, rest)))) (hd : 0 < d) (hk : Nat.ble 100000 k' = false) (he : (qm_ent as (qm_mxl T k')).length = qm_mxl T k')
    (H : qm_CI T (d - 1) k' as μ F) (K : ∀ z μ1, F z μ1 → qm_W T d k (pc + 3) ls (some (.inl z) :: rest) μ1 Q) : qm_W T d k pc ls st μ Q :=
  qw_call hat hs hd hk he (qw_mono H (Nat.le_refl _) fun v μ1 h => by obtain ⟨z, rfl, h⟩ := h; exact K z μ1 h)
theorem qw_callL {i : Instr} {k' : Nat} {as rest : List qm_V} {F : Int → qm_M → Prop} (hat : qm_at T k pc = some i) (hs : qm_step T k pc ls st μ i = some (.inr (.inr (k', as, rest)))) (hd : 0 < d) (hk : Nat.ble 100000 k' = false) (he : (qm_ent as (qm_mxl T k')).length = qm_mxl T k')
    (H : qm_CL T (d - 1) k' as μ F) (K : ∀ z μ1, F z μ1 → qm_W T d k (pc + 3) ls (some (.inr (.inl z)) :: rest) μ1 Q) : qm_W T d k pc ls st μ Q :=
  qw_call hat hs hd hk he (qw_mono H (Nat.le_refl _) fun v μ1 h => by obtain ⟨z, rfl, h⟩ := h; exact K z μ1 h)
theorem qw_callV {i : Instr} {k' : Nat} {as rest : List qm_V} {F : qm_M → Prop} (hat : qm_at T k pc = some i) (hs : qm_step T k pc ls st μ i = some (.inr (.inr (k', as, rest)))) (hd : 0 < d) (hk : Nat.ble 100000 k' = false) (he : (qm_ent as (qm_mxl T k')).length = qm_mxl T k')
    (H : qm_CV T (d - 1) k' as μ F) (K : ∀ μ1, F μ1 → qm_W T d k (pc + 3) ls rest μ1 Q) : qm_W T d k pc ls st μ Q :=
  qw_call hat hs hd hk he (qw_mono H (Nat.le_refl _) fun v μ1 h => by obtain ⟨rfl, h⟩ := h; exact K μ1 h)
theorem qw_intr {i : Instr} {k' : Nat} {as rest : List qm_V} {v : qm_V} (hat : qm_at T k pc = some i) (hs : qm_step T k pc ls st μ i = some (.inr (.inr (k', as, rest)))) (hd : 0 < d) (hk : Nat.ble 100000 k' = true) (hi : qm_intr T k' as = some v)
    (H : qm_W T d k (pc + 3) ls (v :: rest) μ Q) : qm_W T d k pc ls st μ Q := by
  obtain ⟨n, v2, μ2, h2, h3⟩ := H
  refine ⟨n + 1, v2, μ2, ?_, h3⟩
  rw [qm_run, hat, Option.bind_some, hs]
  show (if d = 0 then none else if 100000 ≤ k' then (match qm_intr T k' as with
    | none => none
    | some v => qm_run T n d k (pc + 3) ls (v :: rest) μ) else _) = _
  rw [if_neg (by omega), if_pos (Nat.le_of_ble_eq_true hk), hi]
  exact h2
theorem qw_i2l {x : Int} (hat : qm_at T k pc = some .i2l) (hr : qm_r32 x) (H : qm_W T d k (pc + 1) ls (some (.inr (.inl x)) :: r) μ Q) : qm_W T d k pc ls (some (.inl x) :: r) μ Q :=
  qw_nx hat (by show (if qm_r32 x then _ else none) = _; rw [if_pos hr]) H
theorem qw_lcmp {x y : Int} (hat : qm_at T k pc = some .lcmp) (h1 : qm_r64 x) (h2 : qm_r64 y) (H : qm_W T d k (pc + 1) ls (some (.inl (if y < x then 1 else if x = y then 0 else -1)) :: r) μ Q) : qm_W T d k pc ls (some (.inr (.inl y)) :: some (.inr (.inl x)) :: r) μ Q :=
  qw_nx hat (by show (if qm_r64 x ∧ qm_r64 y then _ else none) = _; rw [if_pos ⟨h1, h2⟩]) H
theorem qw_idiv {x y : Int} (hat : qm_at T k pc = some .idiv) (h1 : qm_r32 y) (h2 : ¬ y = 0) (H : qm_W T d k (pc + 1) ls (some (.inl (Int32.ofInt x / Int32.ofInt y).toInt) :: r) μ Q) : qm_W T d k pc ls (some (.inl y) :: some (.inl x) :: r) μ Q :=
  qw_nx hat (by show (if qm_r32 y ∧ ¬ y = 0 then _ else none) = _; rw [if_pos ⟨h1, h2⟩]) H
theorem qw_irem {x y : Int} (hat : qm_at T k pc = some .irem) (h1 : qm_r32 y) (h2 : ¬ y = 0) (H : qm_W T d k (pc + 1) ls (some (.inl (Int32.ofInt x - Int32.ofInt x / Int32.ofInt y * Int32.ofInt y).toInt) :: r) μ Q) : qm_W T d k pc ls (some (.inl y) :: some (.inl x) :: r) μ Q :=
  qw_nx hat (by show (if qm_r32 y ∧ ¬ y = 0 then _ else none) = _; rw [if_pos ⟨h1, h2⟩]) H
theorem qw_ldiv {x y : Int} (hat : qm_at T k pc = some .ldiv) (h1 : qm_r64 y) (h2 : ¬ y = 0) (H : qm_W T d k (pc + 1) ls (some (.inr (.inl (Int64.ofInt x / Int64.ofInt y).toInt)) :: r) μ Q) : qm_W T d k pc ls (some (.inr (.inl y)) :: some (.inr (.inl x)) :: r) μ Q :=
  qw_nx hat (by show (if qm_r64 y ∧ ¬ y = 0 then _ else none) = _; rw [if_pos ⟨h1, h2⟩]) H
theorem qw_lrem {x y : Int} (hat : qm_at T k pc = some .lrem) (h1 : qm_r64 y) (h2 : ¬ y = 0) (H : qm_W T d k (pc + 1) ls (some (.inr (.inl (Int64.ofInt x - Int64.ofInt x / Int64.ofInt y * Int64.ofInt y).toInt)) :: r) μ Q) : qm_W T d k pc ls (some (.inr (.inl y)) :: some (.inr (.inl x)) :: r) μ Q :=
  qw_nx hat (by show (if qm_r64 y ∧ ¬ y = 0 then _ else none) = _; rw [if_pos ⟨h1, h2⟩]) H
theorem qw_iald {c t n : Nat} {i : Int} (hat : qm_at T k pc = some .iaload) (hsh : qm_sh T c = some (.inr (t, n))) (ht : t = 0 ∨ t = 9) (h : 0 ≤ i ∧ i < (n : Int)) (H : qm_W T d k (pc + 1) ls (some (.inl (μ c i.toNat)) :: r) μ Q) : qm_W T d k pc ls (some (.inl i) :: some (.inr (.inr c)) :: r) μ Q :=
  qw_nx hat (by show qm_arr (qm_sh T c) _ = _; rw [hsh]; show (if (t = 0 ∨ t = 9) ∧ 0 ≤ i ∧ i < (n : Int) then _ else none) = _; rw [if_pos ⟨ht, h⟩]) H
theorem qw_lald {c n : Nat} {i : Int} (hat : qm_at T k pc = some .laload) (hsh : qm_sh T c = some (.inr (1, n))) (h : 0 ≤ i ∧ i < (n : Int)) (H : qm_W T d k (pc + 1) ls (some (.inr (.inl (μ c i.toNat))) :: r) μ Q) : qm_W T d k pc ls (some (.inl i) :: some (.inr (.inr c)) :: r) μ Q :=
  qw_nx hat (by show qm_arr (qm_sh T c) _ = _; rw [hsh]; show (if 1 = 1 ∧ 0 ≤ i ∧ i < (n : Int) then _ else none) = _; rw [if_pos ⟨rfl, h⟩]) H
theorem qw_zald {c n : Nat} {i : Int} (hat : qm_at T k pc = some .baload) (hsh : qm_sh T c = some (.inr (2, n))) (h : 0 ≤ i ∧ i < (n : Int)) (H : qm_W T d k (pc + 1) ls (some (.inl (μ c i.toNat)) :: r) μ Q) : qm_W T d k pc ls (some (.inl i) :: some (.inr (.inr c)) :: r) μ Q :=
  qw_nx hat (by show qm_arr (qm_sh T c) _ = _; rw [hsh]; show (if 2 = 2 ∧ 0 ≤ i ∧ i < (n : Int) then _ else none) = _; rw [if_pos ⟨rfl, h⟩]) H
theorem qw_cald {c n : Nat} {i : Int} (hat : qm_at T k pc = some .caload) (hsh : qm_sh T c = some (.inr (3, n))) (h : 0 ≤ i ∧ i < (n : Int)) (H : qm_W T d k (pc + 1) ls (some (.inl (μ c i.toNat)) :: r) μ Q) : qm_W T d k pc ls (some (.inl i) :: some (.inr (.inr c)) :: r) μ Q :=
  qw_nx hat (by show qm_arr (qm_sh T c) _ = _; rw [hsh]; show (if 3 = 3 ∧ 0 ≤ i ∧ i < (n : Int) then _ else none) = _; rw [if_pos ⟨rfl, h⟩]) H
theorem qw_iast {c n : Nat} {i z : Int} (hat : qm_at T k pc = some .iastore) (hsh : qm_sh T c = some (.inr (0, n))) (h : 0 ≤ i ∧ i < (n : Int)) (H : qm_W T d k (pc + 1) ls r (qm_set μ c i.toNat z) Q) : qm_W T d k pc ls (some (.inl z) :: some (.inl i) :: some (.inr (.inr c)) :: r) μ Q :=
  qw_nx hat (by show qm_arr (qm_sh T c) _ = _; rw [hsh]; show (if 0 ≤ i ∧ i < (n : Int) then _ else none) = _; rw [if_pos h]) H
theorem qw_last {c n : Nat} {i z : Int} (hat : qm_at T k pc = some .lastore) (hsh : qm_sh T c = some (.inr (1, n))) (h : 0 ≤ i ∧ i < (n : Int)) (H : qm_W T d k (pc + 1) ls r (qm_set μ c i.toNat z) Q) : qm_W T d k pc ls (some (.inr (.inl z)) :: some (.inl i) :: some (.inr (.inr c)) :: r) μ Q :=
  qw_nx hat (by show qm_arr (qm_sh T c) _ = _; rw [hsh]; show (if 0 ≤ i ∧ i < (n : Int) then _ else none) = _; rw [if_pos h]) H
theorem qw_zast {c n : Nat} {i z : Int} (hat : qm_at T k pc = some .bastore) (hsh : qm_sh T c = some (.inr (2, n))) (hz : z = 0 ∨ z = 1) (h : 0 ≤ i ∧ i < (n : Int)) (H : qm_W T d k (pc + 1) ls r (qm_set μ c i.toNat z) Q) : qm_W T d k pc ls (some (.inl z) :: some (.inl i) :: some (.inr (.inr c)) :: r) μ Q :=
  qw_nx hat (by show qm_arr (qm_sh T c) _ = _; rw [hsh]; show (if 2 = 2 ∧ (z = 0 ∨ z = 1) then (if 0 ≤ i ∧ i < (n : Int) then _ else none) else none) = _; rw [if_pos ⟨rfl, hz⟩, if_pos h]) H
theorem qw_alen {c t n : Nat} (hat : qm_at T k pc = some .arraylength) (hsh : qm_sh T c = some (.inr (t, n))) (H : qm_W T d k (pc + 1) ls (some (.inl (n : Int)) :: r) μ Q) : qm_W T d k pc ls (some (.inr (.inr c)) :: r) μ Q :=
  qw_nx hat (by show qm_arr (qm_sh T c) _ = _; rw [hsh]; rfl) H
theorem qw_putz {j c ci q : Nat} {fl : List (Nat ⊕ Nat)} {z : Int} (hat : qm_at T k pc = some (.putfield j)) (hsh : qm_sh T c = some (.inl (ci, fl))) (hf : qm_fld T k j = some (ci, q)) (he : fl[q]? = some (.inr 2)) (hw : qm_wr T ci q = true) (hz : z = 0 ∨ z = 1) (H : qm_W T d k (pc + 3) ls r (qm_set μ c q z) Q) : qm_W T d k pc ls (some (.inl z) :: some (.inr (.inr c)) :: r) μ Q :=
  qw_nx hat (by
    show qm_obj (qm_sh T c) (qm_fld T k j) _ = _
    rw [hsh, hf]
    show (if ci = ci then _ else none) = _
    rw [if_pos rfl, he]
    show (if qm_wr T ci q = true then _ else none) = _
    rw [if_pos hw]
    show (match (if z = 0 ∨ z = 1 then some (qm_set μ c q z) else none) with | some μ' => qm_nx (pc + 3) ls r μ' | none => none) = _
    rw [if_pos hz]) H
theorem qw_retz {z : Int} (hat : qm_at T k pc = some .ireturn) (hr : qm_rt T k = 2) (hz : z = 0 ∨ z = 1) (H : Q (some (.inl z)) μ) : qm_W T d k pc ls [some (.inl z)] μ Q :=
  qw_ret hat (by show (if qm_rt T k = 1 ∨ (qm_rt T k = 2 ∧ (z = 0 ∨ z = 1)) then _ else none) = _; rw [if_pos (Or.inr ⟨hr, hz⟩)]) H
theorem qw_reti {z : Int} (hat : qm_at T k pc = some .ireturn) (hr : qm_rt T k = 1) (H : Q (some (.inl z)) μ) : qm_W T d k pc ls [some (.inl z)] μ Q :=
  qw_ret hat (by show (if qm_rt T k = 1 ∨ (qm_rt T k = 2 ∧ (z = 0 ∨ z = 1)) then _ else none) = _; rw [if_pos (Or.inl hr)]) H
theorem qw_retl {z : Int} (hat : qm_at T k pc = some .lreturn) (hr : qm_rt T k = 3) (H : Q (some (.inr (.inl z))) μ) : qm_W T d k pc ls [some (.inr (.inl z))] μ Q :=
  qw_ret hat (by show (if qm_rt T k = 3 then _ else none) = _; rw [if_pos hr]) H
theorem qw_retv (hat : qm_at T k pc = some .return_) (hr : qm_rt T k = 0) (H : Q none μ) : qm_W T d k pc ls [] μ Q :=
  qw_ret hat (by show (if qm_rt T k = 0 then _ else none) = _; rw [if_pos hr]) H
theorem qw_goto {off : Int} {tgt : Nat} (hat : qm_at T k pc = some (.goto off)) (ht : (pc : Int) + off = (tgt : Int)) (H : qm_W T d k tgt ls st μ Q) : qm_W T d k pc ls st μ Q :=
  qw_nx hat (by show (if 0 ≤ (pc : Int) + off then _ else none) = _; rw [ht, if_pos (by omega)]; rfl) H
theorem qw_ifg {cd : Jvm.ClassFile.Cond} {off : Int} {tgt : Nat} {x : Int} {P : Prop} (hat : qm_at T k pc = some (.ifCond cd off)) (hP : qm_cmp cd x 0 = true ↔ P) (ht : (pc : Int) + off = (tgt : Int)) (hr : qm_r32 x) (H1 : P → qm_W T d k tgt ls r μ Q) (H2 : ¬ P → qm_W T d k (pc + 3) ls r μ Q) : qm_W T d k pc ls (some (.inl x) :: r) μ Q := by
  have hs : qm_step T k pc ls (some (.inl x) :: r) μ (.ifCond cd off) = qm_nx (if qm_cmp cd x 0 = true then tgt else pc + 3) ls r μ := by
    show (if qm_r32 x ∧ 0 ≤ (pc : Int) + off then _ else none) = _
    rw [ht, if_pos ⟨hr, by omega⟩]
    rfl
  refine qw_nx hat hs ?_
  by_cases h : qm_cmp cd x 0 = true
  · rw [if_pos h]; exact H1 (hP.mp h)
  · rw [if_neg h]; exact H2 (fun q => h (hP.mpr q))
theorem qw_icg {cd : Jvm.ClassFile.Cond} {off : Int} {tgt : Nat} {x y : Int} {P : Prop} (hat : qm_at T k pc = some (.if_icmp cd off)) (hP : qm_cmp cd x y = true ↔ P) (ht : (pc : Int) + off = (tgt : Int)) (hx : qm_r32 x) (hy : qm_r32 y) (H1 : P → qm_W T d k tgt ls r μ Q) (H2 : ¬ P → qm_W T d k (pc + 3) ls r μ Q) : qm_W T d k pc ls (some (.inl y) :: some (.inl x) :: r) μ Q := by
  have hs : qm_step T k pc ls (some (.inl y) :: some (.inl x) :: r) μ (.if_icmp cd off) = qm_nx (if qm_cmp cd x y = true then tgt else pc + 3) ls r μ := by
    show (if (qm_r32 x ∧ qm_r32 y) ∧ 0 ≤ (pc : Int) + off then _ else none) = _
    rw [ht, if_pos ⟨⟨hx, hy⟩, by omega⟩]
    rfl
  refine qw_nx hat hs ?_
  by_cases h : qm_cmp cd x y = true
  · rw [if_pos h]; exact H1 (hP.mp h)
  · rw [if_neg h]; exact H2 (fun q => h (hP.mpr q))
theorem qw_tsw {dflt lo hi : Int} {offs : Array Int} {x off : Int} {tgt : Nat} (hat : qm_at T k pc = some (.tableswitch dflt lo hi offs)) (hr : qm_r32 x) (hx : qm_tsw x dflt lo hi offs = some off) (ht : (pc : Int) + off = (tgt : Int)) (H : qm_W T d k tgt ls r μ Q) : qm_W T d k pc ls (some (.inl x) :: r) μ Q :=
  qw_nx hat (by
    show (if qm_r32 x then (match qm_tsw x dflt lo hi offs with | some off => qm_jmp pc off ls r μ | none => none) else none) = _
    rw [if_pos hr, hx]
    show (if 0 ≤ (pc : Int) + off then _ else none) = _
    rw [ht, if_pos (by omega)]
    rfl) H
theorem qw_lsw {dflt : Int} {ps : Array (Int × Int)} {x off : Int} {tgt : Nat} (hat : qm_at T k pc = some (.lookupswitch dflt ps)) (hp : (ps.toList.zip (ps.toList.drop 1)).all (fun (a, next) => a.1 < next.1) = true) (hr : qm_r32 x) (hx : Op.lookupswitch.offset ps.toList dflt x = off) (ht : (pc : Int) + off = (tgt : Int)) (H : qm_W T d k tgt ls r μ Q) : qm_W T d k pc ls (some (.inl x) :: r) μ Q :=
  qw_nx hat (by
    show (if qm_r32 x ∧ (ps.toList.zip (ps.toList.drop 1)).all (fun (a, next) => a.1 < next.1) = true then qm_jmp pc (Op.lookupswitch.offset ps.toList dflt x) ls r μ else none) = _
    rw [if_pos ⟨hr, hp⟩, hx]
    show (if 0 ≤ (pc : Int) + off then _ else none) = _
    rw [ht, if_pos (by omega)]
    rfl) H
end QW
theorem qp_eq (x y : Int) : qm_cmp .eq x y = true ↔ x = y := decide_eq_true_iff
theorem qp_ne (x y : Int) : qm_cmp .ne x y = true ↔ ¬ x = y := decide_eq_true_iff
theorem qp_lt (x y : Int) : qm_cmp .lt x y = true ↔ x < y := decide_eq_true_iff
theorem qp_ge (x y : Int) : qm_cmp .ge x y = true ↔ y ≤ x := decide_eq_true_iff
theorem qp_gt (x y : Int) : qm_cmp .gt x y = true ↔ y < x := decide_eq_true_iff
theorem qp_le (x y : Int) : qm_cmp .le x y = true ↔ x ≤ y := decide_eq_true_iff
