/-! ===== the world that the loop begins with ===== -/
def qs_mu (ξ : Nat → Int) : qm_M := fun c k => if c = 999 then ξ k else match qs_E[c]? with
  | some (.inl (_, fs)) => (match fs[k]? with
    | some (some (.inl z)) => z
    | some (some (.inr (.inl z))) => z
    | _ => 0)
  | some (.inr (_, _, w)) => qk_f w k
  | none => 0
theorem qs_chk_gen {x : Option qk_C} (h : qs_chkO x = true) : ∃ G, x = some (18, [qm_P 999, qm_P 0, qm_P 45, qm_I 0], [], G) ∧ (∀ c, c < 95 → ∃ e s, qs_E[c]? = some e ∧ qb_shs[c]? = some s ∧ qs_shp e s = true ∧ G[qs_pi c]? = some (qs_rn e)) ∧ G.length = 95 ∧ qk_sz G = 26060 := by
  unfold qs_chkO at h
  cases x with
  | none => cases h
  | some q =>
    obtain ⟨pc, ls, st, G⟩ := q
    simp only [Bool.and_eq_true, decide_eq_true_eq] at h
    obtain ⟨⟨h1, h2, h3⟩, h4, h5, h6⟩ := h
    subst h1 h2 h3
    refine ⟨G, rfl, fun c hc => ?_, Nat.eq_of_beq_eq_true h5, Nat.eq_of_beq_eq_true h6⟩
    have a1 := List.all_eq_true.mp h4 c (List.mem_range.mpr hc)
    have a2 := List.all_eq_true.mp qs_shp_ok c (List.mem_range.mpr hc)
    cases he : qs_E[c]? with
    | none => rw [he] at a1; cases a1
    | some e =>
      rw [he] at a1 a2
      cases hs : qb_shs[c]? with
      | none => rw [hs] at a2; cases a2
      | some s =>
        rw [hs] at a2
        exact ⟨e, s, rfl, rfl, a2, qs_eq_ok a1⟩
theorem qs_run : ∃ G, qk_run qz_T 3000 4 3001 0 [qm_P 999, none, none, none] [] [] = some (18, [qm_P 999, qm_P 0, qm_P 45, qm_I 0], [], G) ∧ (∀ c, c < 95 → ∃ e s, qs_E[c]? = some e ∧ qb_shs[c]? = some s ∧ qs_shp e s = true ∧ G[qs_pi c]? = some (qs_rn e)) ∧ G.length = 95 ∧ qk_sz G = 26060 := qs_chk_gen qs_chk_ok
theorem qs_fls_at : ∀ (fs : List qm_V) (fl : List (Nat ⊕ Nat)), qs_fls fs fl = true → fs.length = fl.length ∧ ∀ (j : Nat) (v : qm_V) (e : Nat ⊕ Nat), fs[j]? = some v → fl[j]? = some e → qs_fld v e = true
  | [], [], _ => ⟨rfl, fun j v e h => by cases h⟩
  | v0 :: r, e0 :: t, h => by
    have h : (qs_fld v0 e0 && qs_fls r t) = true := h
    rw [Bool.and_eq_true] at h
    obtain ⟨h1, h2⟩ := qs_fls_at r t h.2
    refine ⟨by rw [List.length_cons, List.length_cons, h1], fun j v e a b => ?_⟩
    cases j with
    | zero => cases a; cases b; exact h.1
    | succ j => exact h2 j v e a b
  | [], _ :: _, h => by cases h
  | _ :: _, [], h => by cases h
theorem qs_pi_lt {c : Nat} (h : c < 95) : qs_pi c < 95 := by
  have a := List.all_eq_true.mp qs_pi_ok c (List.mem_range.mpr h)
  rw [Bool.and_eq_true] at a
  exact Nat.le_of_ble_eq_true a.1
theorem qs_pi_inj {c c' : Nat} (h : c < 95) (h' : c' < 95) (e : qs_pi c = qs_pi c') : c = c' := by
  have a := List.all_eq_true.mp qs_pi_ok c (List.mem_range.mpr h)
  rw [Bool.and_eq_true] at a
  have b := List.all_eq_true.mp a.2 c' (List.mem_range.mpr h')
  have hb : Nat.beq (qs_pi c) (qs_pi c') = true := by rw [e]; exact Nat.beq_refl _
  rw [hb, cond_true] at b
  exact Nat.eq_of_beq_eq_true b
theorem qs_world {D : va_G} {ac : Nat → ClassId} {ad' ad : Nat → Nat} {G : List qk_E} {H : Heap} {L : Nat} {ξ : Nat → Int} (hG : ∀ c, c < 95 → ∃ e s, qs_E[c]? = some e ∧ qb_shs[c]? = some s ∧ qs_shp e s = true ∧ G[qs_pi c]? = some (qs_rn e)) (had : ∀ c, c < 95 → ad c = ad' (qs_pi c)) (hP : va_P D vwCl (qk_ws ad' ac G) H) : va_P D vwCl (qm_ws ad ac (qb_sh L) 95 (qs_mu ξ)) H := by
  intro c q hq
  have hc : c < 95 := by
    have := (List.getElem?_eq_some_iff.mp hq).1
    simpa [qm_ws] using this
  rw [qm_ws_at hc] at hq
  cases hq
  obtain ⟨e, s, h1, h2, h3, h4⟩ := hG c hc
  have key : qm_E ad ac (qb_sh L) (qs_mu ξ) c = (ad' (qs_pi c), qk_en ad' ac (qs_rn e)) := by
    have hsh : qb_sh L c = some s := by
      unfold qb_sh
      have : Nat.beq c 999 = false := by
        cases hb : Nat.beq c 999 with
        | false => rfl
        | true => have := Nat.eq_of_beq_eq_true hb; omega
      rw [this]
      exact h2
    have h999 : ¬ c = 999 := by omega
    rcases e with ⟨ci, fs⟩ | ⟨t, n, w⟩ <;> rcases s with ⟨ci', fl⟩ | ⟨t', n'⟩
    · have h3 : (Nat.beq ci ci' && qs_fls fs fl) = true := h3
      rw [Bool.and_eq_true] at h3
      obtain rfl := Nat.eq_of_beq_eq_true h3.1
      rw [qm_E_obj hsh, had c hc]
      refine congrArg (fun x => (ad' (qs_pi c), Sum.inr (ci, x))) ?_
      obtain ⟨h5, h6⟩ := qs_fls_at fs fl h3.2
      apply List.ext_getElem?
      intro j
      unfold qm_fs
      rw [List.getElem?_mapIdx, List.getElem?_map, List.getElem?_map]
      cases hv : fs[j]? with
      | none =>
        have : fl[j]? = none := by
          rw [List.getElem?_eq_none_iff] at hv ⊢
          omega
        rw [this]
        rfl
      | some v =>
        cases hf : fl[j]? with
        | none =>
          rw [List.getElem?_eq_none_iff] at hf
          have := (List.getElem?_eq_some_iff.mp hv).1
          omega
        | some e0 =>
          have h7 := h6 j v e0 hv hf
          have hmu : qs_mu ξ c j = (match fs[j]? with
            | some (some (.inl z)) => z
            | some (some (.inr (.inl z))) => z
            | _ => 0) := by
            unfold qs_mu
            rw [if_neg h999, h1]
          rw [hv] at hmu
          simp only [Option.map_some]
          refine congrArg some ?_
          rcases v with _ | (z | z | i)
          · cases h7
          · rcases e0 with c' | k
            · cases h7
            · have h7 : (Nat.beq k 0 || Nat.beq k 2) = true := h7
              rw [Bool.or_eq_true] at h7
              have : k = 0 ∨ k = 2 := h7.imp Nat.eq_of_beq_eq_true Nat.eq_of_beq_eq_true
              rcases this with rfl | rfl
              · show Value.int (Int32.ofInt (qs_mu ξ c j)) = Value.int (Int32.ofInt z)
                rw [hmu]
              · show Value.int (Int32.ofInt (qs_mu ξ c j)) = Value.int (Int32.ofInt z)
                rw [hmu]
          · rcases e0 with c' | k
            · cases h7
            · obtain rfl := Nat.eq_of_beq_eq_true (show Nat.beq k 1 = true from h7)
              show Value.long (Int64.ofInt (qs_mu ξ c j)) = Value.long (Int64.ofInt z)
              rw [hmu]
          · rcases e0 with c' | k
            · have h7 : (Nat.beq i c' && Nat.blt c' 95) = true := h7
              rw [Bool.and_eq_true] at h7
              obtain rfl := Nat.eq_of_beq_eq_true h7.1
              show Value.ref (ad i) = Value.ref (ad' (qs_pi i))
              rw [had i (Nat.le_of_ble_eq_true h7.2)]
            · cases h7
    · cases h3
    · cases h3
    · have h3 : (Nat.beq t t' && Nat.beq n n') = true := h3
      rw [Bool.and_eq_true] at h3
      obtain rfl := Nat.eq_of_beq_eq_true h3.1
      obtain rfl := Nat.eq_of_beq_eq_true h3.2
      rw [qm_E_arr hsh, had c hc]
      have hmu : qs_mu ξ c = qk_f w := by
        funext k
        unfold qs_mu
        rw [if_neg h999, h1]
      unfold qm_ar
      rw [hmu]
      rfl
  rw [key]
  exact hP (qs_pi c) _ (qk_ws_at h4)
theorem qs_inj {ac : Nat → ClassId} {ad' ad : Nat → Nat} {G : List qk_E} {A : Nat → Prop} (hl : G.length = 95) (had : ∀ c, c < 95 → ad c = ad' (qs_pi c)) (hD : va_D A (qk_ws ad' ac G)) : ∀ i j, i < 95 → j < 95 → ad i = ad j → i = j := by
  intro i j hi hj h
  rw [had i hi, had j hj] at h
  obtain ⟨x, hx⟩ : ∃ x, G[qs_pi i]? = some x := ⟨_, List.getElem?_eq_getElem (by rw [hl]; exact qs_pi_lt hi)⟩
  obtain ⟨y, hy⟩ : ∃ y, G[qs_pi j]? = some y := ⟨_, List.getElem?_eq_getElem (by rw [hl]; exact qs_pi_lt hj)⟩
  exact qs_pi_inj hi hj (hD.1 _ _ _ _ (qk_ws_at hx) (qk_ws_at hy) h)
theorem qs_own {ac : Nat → ClassId} {ad' ad : Nat → Nat} {G : List qk_E} {A : Nat → Prop} (hl : G.length = 95) (had : ∀ c, c < 95 → ad c = ad' (qs_pi c)) (hD : va_D A (qk_ws ad' ac G)) : ∀ q, qm_Ac ad 95 q → A q := by
  rintro q ⟨c, hc, rfl⟩
  rw [had c hc]
  obtain ⟨x, hx⟩ : ∃ x, G[qs_pi c]? = some x := ⟨_, List.getElem?_eq_getElem (by rw [hl]; exact qs_pi_lt hc)⟩
  exact hD.2 _ _ (qk_ws_at hx)
theorem qs_inst : ∀ (ci : Nat) (q : vw_C), vwCl[ci]? = some q → Jvm.Cond.instantiable q.1 q.2.2 ∈ qb_TB := by
  intro ci q h
  have hc : ci < 12 := (List.getElem?_eq_some_iff.mp h).1
  have h2 : ∃ k i, qk_ncl qz_T k i = some ci := by
    have h3 : (List.range 12).all (fun ci => qz_ncls.any fun e => decide (qz_ncl e.1 e.2.1 = some ci)) = true := by decide +kernel
    obtain ⟨e, -, h4⟩ := List.any_eq_true.mp (List.all_eq_true.mp h3 ci (List.mem_range.mpr hc))
    exact ⟨e.1, e.2.1, of_decide_eq_true h4⟩
  obtain ⟨k, i, h2⟩ := h2
  obtain ⟨C, F, g1, g2, g3, g4, g5, g6⟩ := qz_vNcl k i ci h2
  rw [h] at g1
  cases g1
  exact g5
