/-! ===== the making machine is right ===== -/
theorem qk_run_le {T : qk_T} : ∀ (n d k pc : Nat) (ls st : List qm_V) (G : List qk_E) (pc' : Nat) (ls' st' : List qm_V) (G' : List qk_E), qk_run T n d k pc ls st G = some (pc', ls', st', G') → G.length ≤ G'.length ∧ qk_sz G ≤ qk_sz G' := by
  intro n
  induction n with
  | zero => intro d k pc ls st G pc' ls' st' G' h; cases h
  | succ n ih =>
    intro d k pc ls st G pc' ls' st' G' h
    rw [qk_run] at h
    by_cases hs : qk_stop (qk_at T k pc) = true
    · rw [if_pos hs] at h; cases h; exact ⟨Nat.le_refl _, Nat.le_refl _⟩
    · rw [if_neg hs] at h
      cases hat : qk_at T k pc with
      | none => rw [hat] at h; cases h
      | some i =>
        rw [hat, Option.bind_some] at h
        cases hst : qk_step T k pc ls st G i with
        | none => rw [hst] at h; cases h
        | some o =>
          rw [hst] at h
          rcases o with ⟨pc1, ls1, st1, G1⟩ | ⟨k1, as, rest⟩
          · have h1 := qk_step_le hst
            have h2 := ih _ _ _ _ _ _ _ _ _ _ h
            exact ⟨Nat.le_trans h1.1 h2.1, Nat.le_trans h1.2 h2.2⟩
          · simp only at h
            split at h
            · cases h
            split at h
            · obtain ⟨-, h⟩ := qk_if h
              exact ih _ _ _ _ _ _ _ _ _ _ h
            · obtain ⟨-, h⟩ := qk_if h
              split at h
              · cases h
              · next hr =>
                obtain ⟨-, h⟩ := qk_if h
                have h1 := ih _ _ _ _ _ _ _ _ _ _ hr
                have h2 := ih _ _ _ _ _ _ _ _ _ _ h
                exact ⟨Nat.le_trans h1.1 h2.1, Nat.le_trans h1.2 h2.2⟩
theorem qk_step_call {T : qk_T} {k pc : Nat} {ls st : List qm_V} {G : List qk_E} {i : Instr} {k' : Nat} {as rest : List qm_V} (h : qk_step T k pc ls st G i = some (.inr (k', as, rest))) : ∃ idx n c as', i = .invokespecial idx ∧ qk_isp T k idx = some (k', n) ∧ as = some (.inr (.inr c)) :: as' ∧ st = as'.reverse ++ some (.inr (.inr c)) :: rest ∧ as'.length = n ∧ qm_cat rest ≤ 8 ∧ qk_wfs ls st G = true := by
  cases i with
  | invokespecial idx =>
    simp only [qk_step] at h
    split at h
    · next k1 n hi =>
      obtain ⟨⟨h1, h2, h3⟩, h⟩ := qk_if h
      split at h
      · next c as1 hta =>
        cases h
        have hta2 : st.take (n + 1) = (some (.inr (.inr c)) :: as1).reverse := by rw [← hta, List.reverse_reverse]
        refine ⟨idx, n, c, as1, rfl, hi, rfl, ?_, ?_, h2, h3⟩
        · conv => lhs; rw [← List.take_append_drop (n + 1) st, hta2]
          simp
        · have := congrArg List.length hta2
          simp at this
          omega
      · cases h
    · cases h
  | _ =>
    simp only [qk_step] at h
    repeat' split at h
    all_goals (first | (cases h; done) | (obtain ⟨-, h⟩ := qk_if h; cases h))
theorem qk_wfs_and {ls st : List qm_V} {G : List qk_E} (h : qk_wfs ls st G = true) : ls.all (qk_wf G.length) = true ∧ st.all (qk_wf G.length) = true ∧ G.all (qk_wfE G.length) = true ∧ G.length < 999 := by
  unfold qk_wfs at h
  rw [Bool.and_eq_true, Bool.and_eq_true, Bool.and_eq_true] at h
  exact ⟨h.1, h.2.1, h.2.2.1, Nat.le_of_ble_eq_true h.2.2.2⟩
theorem qk_tyat {ac : Nat → ClassId} {t : ArrayType} {kd : Nat} (h : qk_atk t = some kd) : ∃ ty, newarray.typeOf t = ty ∧ (qm_tys ac)[kd]? = some (ac kd, ty) ∧ (∀ cA : ClassId, ∀ U : State, va_RA U cA ty → va_RA U (ac kd) ty → cA = ac kd) ∧ componentBytes ty ≤ 8 ∧ (defaultValue ty = (if kd = 1 then Value.long 0 else Value.int 0)) := by
  cases t <;> cases h
  all_goals refine ⟨_, rfl, rfl, ?_, by decide, rfl⟩
  all_goals exact fun cA U h1 h2 => Option.some.inj (h1.symm.trans h2)
