/-! ===== the small machine's world in the heap ===== -/
def qm_fs (ad : Nat → Nat) (μ : qm_M) (c : Nat) (fl : List (Nat ⊕ Nat)) : List Value := fl.mapIdx fun j e => qm_cv ad (qm_fv μ c j e)
def qm_ar (μ : qm_M) (c t : Nat) : (Nat → Int32) ⊕ (Nat → Int64) ⊕ (Nat → UInt32) ⊕ (Nat → UInt64) ⊕ (Nat → Option Nat) := if t = 1 then .inr (.inl fun i => Int64.ofInt (μ c i)) else .inl fun i => Int32.ofInt (μ c i)
def qm_E (ad : Nat → Nat) (ac : Nat → ClassId) (sh : Nat → Option qm_S) (μ : qm_M) (c : Nat) : Nat × va_E := (ad c, match sh c with
  | some (.inl (ci, fl)) => .inr (ci, qm_fs ad μ c fl)
  | some (.inr (t, n)) => .inl (ac t, n, qm_ar μ c t)
  | none => .inr (0, []))
def qm_ws (ad : Nat → Nat) (ac : Nat → ClassId) (sh : Nat → Option qm_S) (N : Nat) (μ : qm_M) : va_W := (List.range N).map (qm_E ad ac sh μ)
def qm_tys (ac : Nat → ClassId) : List (ClassId × FieldType) := [(ac 0, .int), (ac 1, .long), (ac 2, .boolean), (ac 3, .char)]
def qm_Ac (ad : Nat → Nat) (N : Nat) : Nat → Prop := fun q => ∃ c, c < N ∧ q = ad c
theorem qm_ws_at {ad : Nat → Nat} {ac : Nat → ClassId} {sh : Nat → Option qm_S} {N : Nat} {μ : qm_M} {c : Nat} (h : c < N) : (qm_ws ad ac sh N μ)[c]? = some (qm_E ad ac sh μ c) := by
  simp [qm_ws, h]
theorem qm_E_obj {ad : Nat → Nat} {ac : Nat → ClassId} {sh : Nat → Option qm_S} {μ : qm_M} {c ci : Nat} {fl : List (Nat ⊕ Nat)} (h : sh c = some (.inl (ci, fl))) : qm_E ad ac sh μ c = (ad c, .inr (ci, qm_fs ad μ c fl)) := by
  simp [qm_E, h]
theorem qm_E_arr {ad : Nat → Nat} {ac : Nat → ClassId} {sh : Nat → Option qm_S} {μ : qm_M} {c t n : Nat} (h : sh c = some (.inr (t, n))) : qm_E ad ac sh μ c = (ad c, .inl (ac t, n, qm_ar μ c t)) := by
  simp [qm_E, h]
theorem qm_fv_congr {μ μ' : qm_M} {c : Nat} (h : μ c = μ' c) (j : Nat) (e : Nat ⊕ Nat) : qm_fv μ c j e = qm_fv μ' c j e := by
  unfold qm_fv
  simp only [h]
theorem qm_E_congr {ad : Nat → Nat} {ac : Nat → ClassId} {sh : Nat → Option qm_S} {μ μ' : qm_M} {c : Nat} (h : μ c = μ' c) : qm_E ad ac sh μ c = qm_E ad ac sh μ' c := by
  unfold qm_E qm_fs qm_ar
  simp only [qm_fv_congr h, h]
theorem qm_set_ne {μ : qm_M} {c k : Nat} {z : Int} {i : Nat} (h : i ≠ c) : qm_set μ c k z i = μ i := by
  funext j
  simp [qm_set, h]
theorem qm_set_eq {μ : qm_M} {c k : Nat} {z : Int} {j : Nat} : qm_set μ c k z c j = if j = k then z else μ c j := by
  simp [qm_set]
theorem qm_ws_set {ad : Nat → Nat} {ac : Nat → ClassId} {sh : Nat → Option qm_S} {N : Nat} {μ : qm_M} {c j : Nat} {z : Int} {e : va_E} (h : c < N) (he : qm_E ad ac sh (qm_set μ c j z) c = (ad c, e)) : (qm_ws ad ac sh N μ).set c (ad c, e) = qm_ws ad ac sh N (qm_set μ c j z) := by
  apply List.ext_getElem?
  intro i
  rw [List.getElem?_set]
  by_cases hi : c = i
  · subst hi
    rw [if_pos rfl, qm_ws_at h, he, if_pos (by simp [qm_ws, h])]
  · rw [if_neg hi]
    by_cases hN : i < N
    · rw [qm_ws_at hN, qm_ws_at hN, qm_E_congr (qm_set_ne (fun q => hi q.symm))]
    · have h1 : ∀ ν : qm_M, (qm_ws ad ac sh N ν)[i]? = none := fun ν => by simp [qm_ws]; omega
      rw [h1, h1]
theorem qm_ws_D {ad : Nat → Nat} {ac : Nat → ClassId} {sh : Nat → Option qm_S} {N : Nat} {μ : qm_M} {A : Nat → Prop} (hi : ∀ i j, i < N → j < N → ad i = ad j → i = j) (hA : ∀ q, qm_Ac ad N q → A q) : va_D A (qm_ws ad ac sh N μ) := by
  have key : ∀ (k : Nat) (q : Nat × va_E), (qm_ws ad ac sh N μ)[k]? = some q → k < N ∧ q.1 = ad k := by
    intro k q hk
    by_cases hN : k < N
    · rw [qm_ws_at hN] at hk
      cases hk
      exact ⟨hN, rfl⟩
    · have h1 := (List.getElem?_eq_some_iff.mp hk).1
      simp [qm_ws] at h1
      omega
  refine ⟨fun i j p q h1 h2 e => ?_, fun k q h => ?_⟩
  · obtain ⟨a1, a2⟩ := key i p h1
    obtain ⟨b1, b2⟩ := key j q h2
    exact hi i j a1 b1 (by rw [← a2, ← b2]; exact e)
  · obtain ⟨a1, a2⟩ := key k q h
    exact hA _ ⟨k, a1, a2⟩
/-- the locals -/
def qm_LH (ad : Nat → Nat) (lsA : Array Slot) (nL : Nat) (L : List qm_V) : Prop := L.length = nL ∧ lsA.size = nL ∧ lv_wf lsA ∧ ∀ (i : Nat) (x : Int ⊕ Int ⊕ Nat), L[i]? = some (some x) → lsA[i]? = some (.val (qm_cv ad (some x)))
def qm_al (ad : Nat → Nat) (L : List qm_V) : List (Nat × Value) := (List.range L.length).filterMap fun i => match L[i]? with
  | some (some x) => some (i, qm_cv ad (some x))
  | _ => none
theorem qm_al_mem {ad : Nat → Nat} {L : List qm_V} {i : Nat} {x : Int ⊕ Int ⊕ Nat} (h : L[i]? = some (some x)) : (i, qm_cv ad (some x)) ∈ qm_al ad L := by
  refine List.mem_filterMap.mpr ⟨i, List.mem_range.mpr (List.getElem?_eq_some_iff.mp h).1, ?_⟩
  simp [h]
theorem qm_LH.has {ad : Nat → Nat} {lsA : Array Slot} {nL : Nat} {L : List qm_V} (h : qm_LH ad lsA nL L) : lv_has lsA nL (qm_al ad L) := by
  refine ⟨h.2.1, h.2.2.1, fun q hq => ?_⟩
  obtain ⟨i, -, h2⟩ := List.mem_filterMap.mp hq
  split at h2
  next x hx =>
    cases h2
    exact h.2.2.2 i x hx
  next => cases h2
theorem qm_cat1 {ad : Nat → Nat} {v : qm_V} (h : qm_isL v = false) : (qm_cv ad v).category = 1 := by
  rcases v with _ | (x | x | x)
  · rfl
  · rfl
  · cases h
  · rfl
theorem qm_cat2 {ad : Nat → Nat} {v : qm_V} (h : qm_isL v = true) : (qm_cv ad v).category = 2 := by
  rcases v with _ | (x | x | x)
  · cases h
  · cases h
  · rfl
  · cases h
theorem qm_pre_at {L : List qm_V} {i j : Nat} {x : Int ⊕ Int ⊕ Nat} (h : (qm_pre L i)[j]? = some (some x)) : L[j]? = some (some x) ∧ ¬ (j + 1 = i ∧ qm_isL (some x) = true) := by
  cases i with
  | zero => exact ⟨h, fun q => by omega⟩
  | succ i =>
    unfold qm_pre at h
    simp only at h
    split at h
    next z hz =>
      by_cases hj : i = j
      · subst hj
        rw [List.getElem?_set_self (List.getElem?_eq_some_iff.mp hz).1] at h
        cases h
      · rw [List.getElem?_set_ne hj] at h
        exact ⟨h, fun q => by omega⟩
    next hz =>
      refine ⟨h, fun q => ?_⟩
      obtain ⟨q1, q2⟩ := q
      have : j = i := by omega
      subst this
      rcases x with x | x | x
      · cases q2
      · exact hz x h
      · cases q2
theorem qm_pre_len {L : List qm_V} {i : Nat} : (qm_pre L i).length = L.length := by
  unfold qm_pre
  split
  · rfl
  · split
    · simp
    · rfl
theorem qm_LH.st1 {ad : Nat → Nat} {lsA lsB : Array Slot} {nL : Nat} {L : List qm_V} {i : Nat} {v : Int ⊕ Int ⊕ Nat} {lv : List (Nat × Value)} (h : qm_LH ad lsA nL L) (hs : ∀ j x, j ≠ i → L[j]? = some (some x) → (j, qm_cv ad (some x)) ∈ lv)
    (h1 : lv_has lsB nL ((i, qm_cv ad (some v)) :: lv.filter (fun q => !(q.1 == i) && !(q.1 + 1 == i && q.2.category == 2)))) : qm_LH ad lsB nL (qm_st1 L i (some v)) := by
  refine ⟨by simp [qm_st1, qm_pre_len, h.1], h1.1, h1.2.1, fun j x hj => ?_⟩
  by_cases hji : j = i
  · subst hji
    have hl : j < (qm_pre L j).length := by
      have := (List.getElem?_eq_some_iff.mp hj).1
      simpa [qm_st1] using this
    rw [qm_st1, List.getElem?_set_self hl] at hj
    cases hj
    exact h1.2.2 _ List.mem_cons_self
  · rw [qm_st1, List.getElem?_set_ne (fun q => hji q.symm)] at hj
    obtain ⟨a1, a2⟩ := qm_pre_at hj
    refine h1.2.2 _ (List.mem_cons_of_mem _ (List.mem_filter.mpr ⟨hs j x hji a1, ?_⟩))
    cases hx : qm_isL (some x) with
    | true =>
      have : ¬ j + 1 = i := fun q => a2 ⟨q, hx⟩
      simp [hji, this]
    | false => simp [hji, qm_cat1 (ad := ad) hx]
theorem qm_LH.st2 {ad : Nat → Nat} {lsA lsB : Array Slot} {nL : Nat} {L : List qm_V} {i : Nat} {v : Int ⊕ Int ⊕ Nat} {lv : List (Nat × Value)} (h : qm_LH ad lsA nL L) (hs : ∀ j x, L[j]? = some (some x) → (j, qm_cv ad (some x)) ∈ lv)
    (h1 : lv_has lsB nL ((i, qm_cv ad (some v)) :: lv.filter (fun q => !(q.1 == i) && (!(q.1 == i + 1) && !(q.1 + 1 == i && q.2.category == 2))))) : qm_LH ad lsB nL (qm_st2 L i (some v)) := by
  refine ⟨by simp [qm_st2, qm_pre_len, h.1], h1.1, h1.2.1, fun j x hj => ?_⟩
  have hlj := (List.getElem?_eq_some_iff.mp hj).1
  by_cases hj1 : i + 1 = j
  · subst hj1
    rw [qm_st2, List.getElem?_set_self (by simpa [qm_st2] using hlj)] at hj
    cases hj
  · rw [qm_st2, List.getElem?_set_ne hj1] at hj
    by_cases hji : j = i
    · subst hji
      rw [List.getElem?_set_self (by simpa [qm_st2] using hlj)] at hj
      cases hj
      exact h1.2.2 _ List.mem_cons_self
    · rw [List.getElem?_set_ne (fun q => hji q.symm)] at hj
      obtain ⟨a1, a2⟩ := qm_pre_at hj
      refine h1.2.2 _ (List.mem_cons_of_mem _ (List.mem_filter.mpr ⟨hs j x a1, ?_⟩))
      have hj2 : ¬ j = i + 1 := fun q => hj1 q.symm
      cases hx : qm_isL (some x) with
      | true =>
        have : ¬ j + 1 = i := fun q => a2 ⟨q, hx⟩
        simp [hji, this, hj2]
      | false => simp [hji, hj2, qm_cat1 (ad := ad) hx]
theorem qm_ent_args {ad : Nat → Nat} : ∀ (As : List qm_V) (o i : Nat) (x : Int ⊕ Int ⊕ Nat), (As.flatMap fun v => if qm_isL v = true then [v, none] else [v])[i]? = some (some x) → (o + i, qm_cv ad (some x)) ∈ lv_args o (As.map (qm_cv ad))
  | [], o, i, x, h => by simp at h
  | v :: vs, o, i, x, h => by
    rw [List.flatMap_cons] at h
    cases hv : qm_isL v with
    | true =>
      rw [if_pos hv] at h
      show _ ∈ (o, qm_cv ad v) :: lv_args (if (qm_cv ad v).category = 2 then o + 2 else o + 1) (vs.map (qm_cv ad))
      rw [if_pos (qm_cat2 hv)]
      match i, h with
      | 0, h =>
        have h : some v = some (some x) := h
        cases h
        exact List.mem_cons_self
      | 1, h =>
        have h : some (none : qm_V) = some (some x) := h
        cases h
      | i + 2, h =>
        have h := qm_ent_args (ad := ad) vs (o + 2) i x h
        refine List.mem_cons_of_mem _ ?_
        rw [show o + (i + 2) = o + 2 + i by omega]
        exact h
    | false =>
      rw [if_neg (by rw [hv]; decide)] at h
      show _ ∈ (o, qm_cv ad v) :: lv_args (if (qm_cv ad v).category = 2 then o + 2 else o + 1) (vs.map (qm_cv ad))
      rw [if_neg (by rw [qm_cat1 hv]; decide)]
      match i, h with
      | 0, h =>
        have h : some v = some (some x) := h
        cases h
        exact List.mem_cons_self
      | i + 1, h =>
        have h := qm_ent_args (ad := ad) vs (o + 1) i x h
        refine List.mem_cons_of_mem _ ?_
        rw [show o + (i + 1) = o + 1 + i by omega]
        exact h
theorem qm_sl_len {ad : Nat → Nat} (As : List qm_V) : (lg_sl (As.map (qm_cv ad))).length = (As.flatMap fun v => if qm_isL v = true then [v, none] else [v]).length := by
  induction As with
  | nil => rfl
  | cons v vs ih =>
    show (((qm_cv ad v) :: vs.map (qm_cv ad)).flatMap _).length = _
    rw [List.flatMap_cons, List.flatMap_cons, List.length_append, List.length_append]
    have ih' : ((vs.map (qm_cv ad)).flatMap fun v => if v.category = 2 then [Slot.val v, Slot.second] else [Slot.val v]).length = _ := ih
    rw [ih']
    cases hv : qm_isL v with
    | true => rw [if_pos (qm_cat2 hv)]; simp
    | false => rw [if_neg (by rw [qm_cat1 hv]; decide)]; simp
theorem qm_ent_LH {ad : Nat → Nat} {As : List qm_V} {n : Nat} (h : (qm_ent As n).length = n) : qm_LH ad ((lg_sl (As.map (qm_cv ad)) ++ List.replicate (n - (lg_sl (As.map (qm_cv ad))).length) Slot.unset).toArray) n (qm_ent As n) := by
  have h2 : (lg_sl (As.map (qm_cv ad))).length ≤ n := by
    rw [qm_sl_len]
    simp only [qm_ent, List.length_append, List.length_replicate] at h
    omega
  have hl := lv_entry (As.map (qm_cv ad)) h2
  refine ⟨h, hl.1, hl.2.1, fun i x hi => ?_⟩
  unfold qm_ent at hi
  by_cases hlt : i < (As.flatMap fun v => if qm_isL v = true then [v, none] else [v]).length
  · rw [List.getElem?_append_left hlt] at hi
    have := qm_ent_args (ad := ad) As 0 i x hi
    rw [Nat.zero_add] at this
    exact hl.2.2 _ this
  · rw [List.getElem?_append_right (by omega)] at hi
    have := List.mem_of_getElem? hi
    have := (List.mem_replicate.mp this).2
    cases this
theorem qm_catSum {ad : Nat → Nat} (st : List qm_V) : ((st.map (qm_cv ad)).map fun v => v.category).sum = qm_cat st := by
  induction st with
  | nil => rfl
  | cons v vs ih =>
    simp only [List.map_cons, List.sum_cons, qm_cat] at ih ⊢
    rw [ih]
    cases hv : qm_isL v with
    | true => rw [qm_cat2 hv]; simp
    | false => rw [qm_cat1 hv]; simp
/-- numbers -/
theorem qm_lt {x y : Int} (hx : qm_r32 x) (hy : qm_r32 y) : Int32.ofInt x < Int32.ofInt y ↔ x < y := by
  rw [Int32.lt_iff_toInt_lt, Int32.toInt_ofInt_of_le (by omega) (by omega), Int32.toInt_ofInt_of_le (by omega) (by omega)]
theorem qm_le {x y : Int} (hx : qm_r32 x) (hy : qm_r32 y) : Int32.ofInt x ≤ Int32.ofInt y ↔ x ≤ y := by
  rw [Int32.le_iff_toInt_le, Int32.toInt_ofInt_of_le (by omega) (by omega), Int32.toInt_ofInt_of_le (by omega) (by omega)]
theorem qm_eq {x y : Int} (hx : qm_r32 x) (hy : qm_r32 y) : Int32.ofInt x = Int32.ofInt y ↔ x = y := by
  rw [← Int32.toInt_inj, Int32.toInt_ofInt_of_le (by omega) (by omega), Int32.toInt_ofInt_of_le (by omega) (by omega)]
theorem qm_ltL {x y : Int} (hx : qm_r64 x) (hy : qm_r64 y) : Int64.ofInt x < Int64.ofInt y ↔ x < y := by
  rw [Int64.lt_iff_toInt_lt, Int64.toInt_ofInt_of_le (by omega) (by omega), Int64.toInt_ofInt_of_le (by omega) (by omega)]
theorem qm_eqL {x y : Int} (hx : qm_r64 x) (hy : qm_r64 y) : Int64.ofInt x = Int64.ofInt y ↔ x = y := by
  rw [← Int64.toInt_inj, Int64.toInt_ofInt_of_le (by omega) (by omega), Int64.toInt_ofInt_of_le (by omega) (by omega)]
theorem qm_0 : Int32.ofInt 0 = 0 := by decide
theorem qm_idx {i : Int} {n : Nat} (h0 : 0 ≤ i) (h1 : i < (n : Int)) (hn : n < 2147483648) : vp_in (Int32.ofInt i) n ∧ (Int32.ofInt i).toNatClampNeg = i.toNat := by
  have e : (Int32.ofInt i).toInt = i := Int32.toInt_ofInt_of_le (by omega) (by omega)
  refine ⟨vp_in_iff.mpr ⟨by rw [e]; exact h0, by rw [e]; exact h1⟩, ?_⟩
  show (Int32.ofInt i).toInt.toNat = i.toNat
  rw [e]
