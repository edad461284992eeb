/-! ===== a plain step of the small machine is a step of the machine ===== -/
theorem qm_nx_inj {a : Nat} {b c : List qm_V} {d : qm_M} {pc' : Nat} {ls' st' : List qm_V} {μ' : qm_M} (h : qm_nx a b c d = some (.inl (pc', ls', st', μ'))) : a = pc' ∧ b = ls' ∧ c = st' ∧ d = μ' := by
  cases h
  exact ⟨rfl, rfl, rfl, rfl⟩
theorem qm_b8 {n : Int} (h : -128 ≤ n ∧ n < 128) : (Int8.ofInt n).toInt32 = Int32.ofInt n := by
  rw [← Int32.toInt_inj, Int8.toInt_toInt32, Int8.toInt_ofInt_of_le (by omega) (by omega), Int32.toInt_ofInt_of_le (by omega) (by omega)]
theorem qm_b16 {n : Int} (h : -32768 ≤ n ∧ n < 32768) : (Int16.ofInt n).toInt32 = Int32.ofInt n := by
  rw [← Int32.toInt_inj, Int16.toInt_toInt32, Int16.toInt_ofInt_of_le (by omega) (by omega), Int32.toInt_ofInt_of_le (by omega) (by omega)]
theorem qm_i64 {x : Int} (h : qm_r32 x) : (Int32.ofInt x).toInt64 = Int64.ofInt x := by
  rw [← Int64.toInt_inj, Int32.toInt_toInt64, Int32.toInt_ofInt_of_le (by omega) (by omega), Int64.toInt_ofInt_of_le (by omega) (by omega)]
theorem qm_l32 (x : Int) : (Int64.ofInt x).toInt32 = Int32.ofInt x := by
  simp
theorem qm_ti {x : Int} (h : qm_r32 x) : (Int32.ofInt x).toInt = x := Int32.toInt_ofInt_of_le (by omega) (by omega)
theorem qm_fs_at {ad : Nat → Nat} {μ : qm_M} {c j : Nat} {fl : List (Nat ⊕ Nat)} {e : Nat ⊕ Nat} (h : fl[j]? = some e) : (qm_fs ad μ c fl)[j]? = some (qm_cv ad (qm_fv μ c j e)) := by
  simp [qm_fs, h]
theorem qm_fv_ne {μ : qm_M} {c j i : Nat} {z : Int} (h : i ≠ j) (e : Nat ⊕ Nat) : qm_fv (qm_set μ c j z) c i e = qm_fv μ c i e := by
  have h1 : qm_set μ c j z c i = μ c i := by rw [qm_set_eq, if_neg h]
  unfold qm_fv
  simp only [h1]
theorem qm_fs_set {ad : Nat → Nat} {μ : qm_M} {c j : Nat} {fl : List (Nat ⊕ Nat)} {e : Nat ⊕ Nat} {z : Int} {v : Value} (h : fl[j]? = some e) (hv : qm_cv ad (qm_fv (qm_set μ c j z) c j e) = v) : qm_fs ad (qm_set μ c j z) c fl = (qm_fs ad μ c fl).set j v := by
  apply List.ext_getElem?
  intro i
  rw [List.getElem?_set]
  by_cases hi : j = i
  · subst hi
    rw [if_pos rfl, qm_fs_at h, hv, if_pos]
    simpa [qm_fs] using (List.getElem?_eq_some_iff.mp h).1
  · rw [if_neg hi]
    simp only [qm_fs, List.getElem?_mapIdx, qm_fv_ne (fun q => hi q.symm)]
theorem qm_putv_some {μ μ' : qm_M} {c j : Nat} {e : Nat ⊕ Nat} {v : qm_V} (h : qm_putv μ c j e v = some μ') : (∃ z, e = .inr 0 ∧ v = some (.inl z) ∧ μ' = qm_set μ c j z) ∨ (∃ z, e = .inr 1 ∧ v = some (.inr (.inl z)) ∧ μ' = qm_set μ c j z) ∨ (∃ z, e = .inr 2 ∧ v = some (.inl z) ∧ (z = 0 ∨ z = 1) ∧ μ' = qm_set μ c j z) := by
  unfold qm_putv at h
  split at h
  · cases h; exact Or.inl ⟨_, rfl, rfl, rfl⟩
  · cases h; exact Or.inr (Or.inl ⟨_, rfl, rfl, rfl⟩)
  · split at h
    next hz => cases h; exact Or.inr (Or.inr ⟨_, rfl, rfl, hz, rfl⟩)
    next => cases h
  · cases h
theorem qm_nar01 {z : Int} (h : z = 0 ∨ z = 1) : narrow .boolean (.int (Int32.ofInt z)) = .int (Int32.ofInt z) ∧ fits .boolean (.int (Int32.ofInt z)) = true ∧ vp_nar .boolean (Int32.ofInt z) = Int32.ofInt z := by
  rcases h with rfl | rfl <;> decide +kernel
theorem qm_upd32 (μ : qm_M) (c k : Nat) (z : Int) : (fun i => Int32.ofInt (qm_set μ c k z c i)) = upd (fun i => Int32.ofInt (μ c i)) k (Int32.ofInt z) := by
  funext i
  rw [qm_set_eq]
  unfold upd
  split <;> rfl
theorem qm_upd64 (μ : qm_M) (c k : Nat) (z : Int) : (fun i => Int64.ofInt (qm_set μ c k z c i)) = vp_updL (fun i => Int64.ofInt (μ c i)) k (Int64.ofInt z) := by
  funext i
  rw [qm_set_eq]
  unfold vp_updL
  split <;> rfl
theorem qm_astv_some {μ : qm_M} {c n : Nat} {i z : Int} {pc : Nat} {ls r : List qm_V} {o} (h : qm_astv μ c n i z pc ls r = some o) : (0 ≤ i ∧ i < (n : Int)) ∧ qm_nx (pc + 1) ls r (qm_set μ c i.toNat z) = some o := qm_if_some h
theorem qm_cmp_t {cd : Jvm.ClassFile.Cond} {x y : Int} {a b : Nat} (h : qm_cmp cd x y = true) : (if qm_cmp cd x y = true then a else b) = a := if_pos h
theorem qm_cmp_f {cd : Jvm.ClassFile.Cond} {x y : Int} {a b : Nat} (h : qm_cmp cd x y = false) : (if qm_cmp cd x y = true then a else b) = b := if_neg (by rw [h]; decide)
theorem qm_call_inl {v : Option (Nat × Nat × Option Nat)} {sh : Nat → Option qm_S} {st : List qm_V} {inst : Bool} {x} : qm_call v sh st inst ≠ some (.inl x) := by
  intro h
  unfold qm_call at h
  repeat' split at h
  all_goals first | cases h | (split at h <;> cases h)
section QPL
variable {p : Program} {l : Launch} {e : Env} {R : Room} {s : State} {m : MethodId} {args : Array Value} {below : List Frame} {meth : Method} {c : Code} {H : Heap} {locs : List Loc} {cells slots : Nat} {Q : State → Prop}
variable {T : qm_T} {bs : Nat → ByteArray} {ow : Nat → String} {cl : List vw_C} {TB : List Jvm.Cond} {N : Nat} {ad : Nat → Nat} {ac : Nat → ClassId} {D : va_G} {ξ : Nat → Int} {A : Nat → Prop} {H0 : Heap}
set_option maxHeartbeats 4000000 in
theorem qm_plain (vSh : qm_vSh T N) (vFld : qm_vFld T ow cl TB) (vCst : qm_vCst T ow TB) (hinj : ∀ i j, i < N → j < N → ad i = ad j → i = j) (hAc : ∀ q, qm_Ac ad N q → A q)
    {k pc : Nat} {ls st : List qm_V} {μ : qm_M} {i : Instr} {len pc' : Nat} {ls' st' : List qm_V} {μ' : qm_M} {lsA : Array Slot}
    (hF : qm_Fr T bs ow cl TB ad ac D ξ p s m args c k A H0) (hd : decode (bs k) pc = .ok (i, len)) (hlen : qm_len i = 0 ∨ len = qm_len i) (hs : qm_step T k pc ls st μ i = some (.inl (pc', ls', st', μ')))
    (hξ : μ 999 = ξ) (hP : va_P D cl (qm_ws ad ac (qm_sh T) N μ) H) (hS : va_S A H0 H locs) (hL : qm_LH ad lsA (qm_mxl T k) ls)
    (kk : ∀ (H1 : Heap) (locs1 : List Loc) (lsB : Array Slot), μ' 999 = ξ → va_P D cl (qm_ws ad ac (qm_sh T) N μ') H1 → va_S A H0 H1 locs1 → qm_LH ad lsB (qm_mxl T k) ls' → W p l e R s m args below meth c H1 locs1 cells slots Q (F0 m pc' lsB (st'.map (qm_cv ad)))) :
    W p l e R s m args below meth c H locs cells slots Q (F0 m pc lsA (st.map (qm_cv ad))) := by
  obtain ⟨hx, hb, hml, hown, hts, hK, hEx⟩ := hF
  have shO : ∀ {c ci : Nat} {fl : List (Nat ⊕ Nat)}, qm_sh T c = some (.inl (ci, fl)) → c < N := by
    intro c ci fl h
    rcases vSh.1 c _ h with ⟨h1, -⟩ | ⟨-, L, h1⟩
    · exact h1
    · cases h1
  have shA : ∀ {c t n : Nat}, qm_sh T c = some (.inr (t, n)) → t ≠ 9 → c < N := by
    intro c t n h ht
    rcases vSh.1 c _ h with ⟨h1, -⟩ | ⟨-, L, h1⟩
    · exact h1
    · cases h1; exact absurd rfl ht
  have n999 : ∀ {c : Nat} {j : Nat} {z : Int}, c < N → (qm_set μ c j z) 999 = ξ := by
    intro c j z h
    rw [qm_set_ne (by have := vSh.2.1; omega)]
    exact hξ
  have hD : ∀ ν : qm_M, va_D A (qm_ws ad ac (qm_sh T) N ν) := fun ν => qm_ws_D hinj hAc
  have arr32 : ∀ {c t n : Nat}, qm_sh T c = some (.inr (t, n)) → t ≠ 9 → t ≠ 1 → (qm_ws ad ac (qm_sh T) N μ)[c]? = some (ad c, .inl (ac t, n, .inl fun i => Int32.ofInt (μ c i))) := by
    intro c t n h h9 h1
    rw [qm_ws_at (shA h h9), qm_E_arr h, qm_ar, if_neg h1]
  have arr64 : ∀ {c n : Nat}, qm_sh T c = some (.inr (1, n)) → (qm_ws ad ac (qm_sh T) N μ)[c]? = some (ad c, .inl (ac 1, n, .inr (.inl fun i => Int64.ofInt (μ c i)))) := by
    intro c n h
    rw [qm_ws_at (shA h (by decide)), qm_E_arr h, qm_ar, if_pos rfl]
  have ldk : ∀ {j : Nat} {x : Int ⊕ Int ⊕ Nat}, ls[j]? = some (some x) → lsA[j]? = some (.val (qm_cv ad (some x))) := fun h => hL.2.2.2 _ _ h
  have hLl : ls.length = qm_mxl T k := hL.1
  cases i with
  | iconst n =>
    obtain rfl : len = 1 := hlen.resolve_left (show ¬ (1 : Nat) = 0 by decide)
    obtain ⟨rfl, rfl, rfl, rfl⟩ := qm_nx_inj hs
    exact lv_iconst hx hb hd rfl (kk _ _ _ hξ hP hS hL)
  | bipush n =>
    obtain rfl : len = 2 := hlen.resolve_left (show ¬ (2 : Nat) = 0 by decide)
    obtain ⟨hr, hs⟩ := qm_if_some hs
    obtain ⟨rfl, rfl, rfl, rfl⟩ := qm_nx_inj hs
    exact lv_bipush hx hb hd (qm_b8 hr) (kk _ _ _ hξ hP hS hL)
  | sipush n =>
    obtain rfl : len = 3 := hlen.resolve_left (show ¬ (3 : Nat) = 0 by decide)
    obtain ⟨hr, hs⟩ := qm_if_some hs
    obtain ⟨rfl, rfl, rfl, rfl⟩ := qm_nx_inj hs
    exact lv_sipush hx hb hd (qm_b16 hr) (kk _ _ _ hξ hP hS hL)
  | lconst n =>
    obtain rfl : len = 1 := hlen.resolve_left (show ¬ (1 : Nat) = 0 by decide)
    obtain ⟨rfl, rfl, rfl, rfl⟩ := qm_nx_inj hs
    exact lv_lconst hx hb hd Int64.ofInt_eq_ofNat.symm (kk _ _ _ hξ hP hS hL)
  | ldc n =>
    obtain rfl : len = 2 := hlen.resolve_left (show ¬ (2 : Nat) = 0 by decide)
    obtain ⟨v, hv, hs⟩ := qm_cst1_some hs
    rcases v with _ | (z | z | q)
    · cases hs
    · obtain ⟨rfl, rfl, rfl, rfl⟩ := qm_nx_inj hs
      exact lv_ldc hx hb hown (hts _ ((vCst k n).1 z hv)) hd (kk _ _ _ hξ hP hS hL)
    · cases hs
    · obtain ⟨rfl, rfl, rfl, rfl⟩ := qm_nx_inj hs
      obtain ⟨tx, ht⟩ := hEx.2.2.1 k n q hv
      exact va_ldcS hx hb hown ht hd (kk _ _ _ hξ hP hS hL)
  | ldc_w n =>
    obtain rfl : len = 3 := hlen.resolve_left (show ¬ (3 : Nat) = 0 by decide)
    obtain ⟨v, hv, hs⟩ := qm_cst1_some hs
    rcases v with _ | (z | z | q)
    · cases hs
    · obtain ⟨rfl, rfl, rfl, rfl⟩ := qm_nx_inj hs
      exact lv_ldcw hx hb hown (hts _ ((vCst k n).1 z hv)) hd (kk _ _ _ hξ hP hS hL)
    · cases hs
    · cases hs
  | ldc2_w n =>
    obtain rfl : len = 3 := hlen.resolve_left (show ¬ (3 : Nat) = 0 by decide)
    obtain ⟨v, hv, hs⟩ := qm_cst1_some hs
    rcases v with _ | (z | z | q)
    · cases hs
    · cases hs
    · obtain ⟨rfl, rfl, rfl, rfl⟩ := qm_nx_inj hs
      exact lv_ldc2 hx hb hown (hts _ ((vCst k n).2 z hv)) hd (kk _ _ _ hξ hP hS hL)
    · cases hs
  | iload n =>
    obtain rfl : len = 2 := hlen.resolve_left (show ¬ (2 : Nat) = 0 by decide)
    obtain ⟨z, hz, hs⟩ := qm_ldI_some hs
    obtain ⟨rfl, rfl, rfl, rfl⟩ := qm_nx_inj hs
    exact lv_iload hx hb hd (ldk hz) (kk _ _ _ hξ hP hS hL)
  | iload_n n =>
    obtain rfl : len = 1 := hlen.resolve_left (show ¬ (1 : Nat) = 0 by decide)
    obtain ⟨z, hz, hs⟩ := qm_ldI_some hs
    obtain ⟨rfl, rfl, rfl, rfl⟩ := qm_nx_inj hs
    exact lv_iload_n hx hb hd rfl (ldk hz) (kk _ _ _ hξ hP hS hL)
  | lload n =>
    obtain rfl : len = 2 := hlen.resolve_left (show ¬ (2 : Nat) = 0 by decide)
    obtain ⟨z, hz, hs⟩ := qm_ldL_some hs
    obtain ⟨rfl, rfl, rfl, rfl⟩ := qm_nx_inj hs
    exact lv_lload hx hb hd (ldk hz) (kk _ _ _ hξ hP hS hL)
  | lload_n n =>
    obtain rfl : len = 1 := hlen.resolve_left (show ¬ (1 : Nat) = 0 by decide)
    obtain ⟨z, hz, hs⟩ := qm_ldL_some hs
    obtain ⟨rfl, rfl, rfl, rfl⟩ := qm_nx_inj hs
    exact lv_lload_n hx hb hd rfl (ldk hz) (kk _ _ _ hξ hP hS hL)
  | aload n =>
    obtain rfl : len = 2 := hlen.resolve_left (show ¬ (2 : Nat) = 0 by decide)
    obtain ⟨z, hz, hs⟩ := qm_ldP_some hs
    obtain ⟨rfl, rfl, rfl, rfl⟩ := qm_nx_inj hs
    exact lv_aload hx hb hd (ldk hz) (kk _ _ _ hξ hP hS hL)
  | aload_n n =>
    obtain rfl : len = 1 := hlen.resolve_left (show ¬ (1 : Nat) = 0 by decide)
    obtain ⟨z, hz, hs⟩ := qm_ldP_some hs
    obtain ⟨rfl, rfl, rfl, rfl⟩ := qm_nx_inj hs
    exact lv_aload_n hx hb hd rfl (ldk hz) (kk _ _ _ hξ hP hS hL)
  | istore n =>
    obtain rfl : len = 2 := hlen.resolve_left (show ¬ (2 : Nat) = 0 by decide)
    obtain ⟨z, r, rfl, hs⟩ := qm_i1_some hs
    obtain ⟨hl, hs⟩ := qm_if_some hs
    obtain ⟨rfl, rfl, rfl, rfl⟩ := qm_nx_inj hs
    exact lv_istore hx hb hd hL.has (by omega) rfl (fun lsB h => kk _ _ _ hξ hP hS (hL.st1 (fun j x _ h => qm_al_mem h) h))
  | istore_n n =>
    obtain rfl : len = 1 := hlen.resolve_left (show ¬ (1 : Nat) = 0 by decide)
    obtain ⟨z, r, rfl, hs⟩ := qm_i1_some hs
    obtain ⟨hl, hs⟩ := qm_if_some hs
    obtain ⟨rfl, rfl, rfl, rfl⟩ := qm_nx_inj hs
    exact lv_istore_n hx hb hd rfl hL.has (by omega) rfl (fun lsB h => kk _ _ _ hξ hP hS (hL.st1 (fun j x _ h => qm_al_mem h) h))
  | lstore n =>
    obtain rfl : len = 2 := hlen.resolve_left (show ¬ (2 : Nat) = 0 by decide)
    obtain ⟨z, r, rfl, hs⟩ := qm_l1_some hs
    obtain ⟨hl, hs⟩ := qm_if_some hs
    obtain ⟨rfl, rfl, rfl, rfl⟩ := qm_nx_inj hs
    exact lv_lstore hx hb hd hL.has (by omega) rfl (fun lsB h => kk _ _ _ hξ hP hS (hL.st2 (fun j x h => qm_al_mem h) h))
  | lstore_n n =>
    obtain rfl : len = 1 := hlen.resolve_left (show ¬ (1 : Nat) = 0 by decide)
    obtain ⟨z, r, rfl, hs⟩ := qm_l1_some hs
    obtain ⟨hl, hs⟩ := qm_if_some hs
    obtain ⟨rfl, rfl, rfl, rfl⟩ := qm_nx_inj hs
    exact lv_lstore_n hx hb hd rfl hL.has (by omega) rfl (fun lsB h => kk _ _ _ hξ hP hS (hL.st2 (fun j x h => qm_al_mem h) h))
  | astore n =>
    obtain rfl : len = 2 := hlen.resolve_left (show ¬ (2 : Nat) = 0 by decide)
    obtain ⟨z, r, rfl, hs⟩ := qm_p1_some hs
    obtain ⟨hl, hs⟩ := qm_if_some hs
    obtain ⟨rfl, rfl, rfl, rfl⟩ := qm_nx_inj hs
    exact lv_astore hx hb hd hL.has (by omega) rfl (fun lsB h => kk _ _ _ hξ hP hS (hL.st1 (fun j x _ h => qm_al_mem h) h))
  | astore_n n =>
    obtain rfl : len = 1 := hlen.resolve_left (show ¬ (1 : Nat) = 0 by decide)
    obtain ⟨z, r, rfl, hs⟩ := qm_p1_some hs
    obtain ⟨hl, hs⟩ := qm_if_some hs
    obtain ⟨rfl, rfl, rfl, rfl⟩ := qm_nx_inj hs
    exact lv_astore_n hx hb hd rfl hL.has (by omega) rfl (fun lsB h => kk _ _ _ hξ hP hS (hL.st1 (fun j x _ h => qm_al_mem h) h))
  | iinc n y =>
    obtain rfl : len = 3 := hlen.resolve_left (show ¬ (3 : Nat) = 0 by decide)
    obtain ⟨z, hz, hs⟩ := qm_ldI_some hs
    obtain ⟨rfl, rfl, rfl, rfl⟩ := qm_nx_inj hs
    have hl : n < ls.length := (List.getElem?_eq_some_iff.mp hz).1
    refine lv_iinc (k := 0) (lv := (n, .int (Int32.ofInt z)) :: qm_al ad ls) (x := Int32.ofInt z) (v := Int32.ofInt (z + y)) hx hb hd ⟨hL.2.1, hL.2.2.1, fun q hq => ?_⟩ rfl (Int32.ofInt_add z y).symm (by omega) rfl (fun lsB h => kk _ _ _ hξ hP hS (hL.st1 (fun j x _ h => List.mem_cons_of_mem _ (qm_al_mem h)) h))
    rcases List.mem_cons.mp hq with rfl | hq
    · exact ldk hz
    · exact hL.has.2.2 q hq
  | iadd =>
    obtain rfl : len = 1 := hlen.resolve_left (show ¬ (1 : Nat) = 0 by decide)
    obtain ⟨x, y, r, rfl, hs⟩ := qm_i2_some hs
    obtain ⟨rfl, rfl, rfl, rfl⟩ := qm_nx_inj hs
    exact lv_iadd hx hb hd (by rw [← Int32.ofInt_add]; exact kk _ _ _ hξ hP hS hL)
  | isub =>
    obtain rfl : len = 1 := hlen.resolve_left (show ¬ (1 : Nat) = 0 by decide)
    obtain ⟨x, y, r, rfl, hs⟩ := qm_i2_some hs
    obtain ⟨rfl, rfl, rfl, rfl⟩ := qm_nx_inj hs
    exact lv_isub hx hb hd (by rw [← Int32.ofInt_sub]; exact kk _ _ _ hξ hP hS hL)
  | imul =>
    obtain rfl : len = 1 := hlen.resolve_left (show ¬ (1 : Nat) = 0 by decide)
    obtain ⟨x, y, r, rfl, hs⟩ := qm_i2_some hs
    obtain ⟨rfl, rfl, rfl, rfl⟩ := qm_nx_inj hs
    exact lv_imul hx hb hd (by rw [← Int32.ofInt_mul]; exact kk _ _ _ hξ hP hS hL)
  | ineg =>
    obtain rfl : len = 1 := hlen.resolve_left (show ¬ (1 : Nat) = 0 by decide)
    obtain ⟨x, r, rfl, hs⟩ := qm_i1_some hs
    obtain ⟨rfl, rfl, rfl, rfl⟩ := qm_nx_inj hs
    exact lv_ineg hx hb hd (by rw [← Int32.ofInt_neg]; exact kk _ _ _ hξ hP hS hL)
  | idiv =>
    obtain rfl : len = 1 := hlen.resolve_left (show ¬ (1 : Nat) = 0 by decide)
    obtain ⟨x, y, r, rfl, hs⟩ := qm_i2_some hs
    obtain ⟨⟨hr, hy⟩, hs⟩ := qm_if_some hs
    obtain ⟨rfl, rfl, rfl, rfl⟩ := qm_nx_inj hs
    refine lv_idiv hx hb hd (fun q => hy ((qm_eq hr (by omega)).mp (q.trans qm_0.symm))) ?_
    have h1 := kk _ _ _ hξ hP hS hL
    simp only [List.map_cons, qm_cv, Int32.ofInt_toInt] at h1
    exact h1
  | irem =>
    obtain rfl : len = 1 := hlen.resolve_left (show ¬ (1 : Nat) = 0 by decide)
    obtain ⟨x, y, r, rfl, hs⟩ := qm_i2_some hs
    obtain ⟨⟨hr, hy⟩, hs⟩ := qm_if_some hs
    obtain ⟨rfl, rfl, rfl, rfl⟩ := qm_nx_inj hs
    refine lv_irem hx hb hd (fun q => hy ((qm_eq hr (by omega)).mp (q.trans qm_0.symm))) ?_
    have h1 := kk _ _ _ hξ hP hS hL
    simp only [List.map_cons, qm_cv, Int32.ofInt_toInt] at h1
    exact h1
  | iand =>
    obtain rfl : len = 1 := hlen.resolve_left (show ¬ (1 : Nat) = 0 by decide)
    obtain ⟨x, y, r, rfl, hs⟩ := qm_i2_some hs
    obtain ⟨rfl, rfl, rfl, rfl⟩ := qm_nx_inj hs
    refine lv_iand hx hb hd ?_
    have h1 := kk _ _ _ hξ hP hS hL
    simp only [List.map_cons, qm_cv, Int32.ofInt_toInt] at h1
    exact h1
  | ior =>
    obtain rfl : len = 1 := hlen.resolve_left (show ¬ (1 : Nat) = 0 by decide)
    obtain ⟨x, y, r, rfl, hs⟩ := qm_i2_some hs
    obtain ⟨rfl, rfl, rfl, rfl⟩ := qm_nx_inj hs
    refine lv_ior hx hb hd ?_
    have h1 := kk _ _ _ hξ hP hS hL
    simp only [List.map_cons, qm_cv, Int32.ofInt_toInt] at h1
    exact h1
  | ixor =>
    obtain rfl : len = 1 := hlen.resolve_left (show ¬ (1 : Nat) = 0 by decide)
    obtain ⟨x, y, r, rfl, hs⟩ := qm_i2_some hs
    obtain ⟨rfl, rfl, rfl, rfl⟩ := qm_nx_inj hs
    refine lv_ixor hx hb hd ?_
    have h1 := kk _ _ _ hξ hP hS hL
    simp only [List.map_cons, qm_cv, Int32.ofInt_toInt] at h1
    exact h1
  | ishl =>
    obtain rfl : len = 1 := hlen.resolve_left (show ¬ (1 : Nat) = 0 by decide)
    obtain ⟨x, y, r, rfl, hs⟩ := qm_i2_some hs
    obtain ⟨rfl, rfl, rfl, rfl⟩ := qm_nx_inj hs
    refine lv_ishl hx hb hd ?_
    have h1 := kk _ _ _ hξ hP hS hL
    simp only [List.map_cons, qm_cv, Int32.ofInt_toInt] at h1
    exact h1
  | ishr =>
    obtain rfl : len = 1 := hlen.resolve_left (show ¬ (1 : Nat) = 0 by decide)
    obtain ⟨x, y, r, rfl, hs⟩ := qm_i2_some hs
    obtain ⟨rfl, rfl, rfl, rfl⟩ := qm_nx_inj hs
    refine lv_ishr hx hb hd ?_
    have h1 := kk _ _ _ hξ hP hS hL
    simp only [List.map_cons, qm_cv, Int32.ofInt_toInt] at h1
    exact h1
  | iushr =>
    obtain rfl : len = 1 := hlen.resolve_left (show ¬ (1 : Nat) = 0 by decide)
    obtain ⟨x, y, r, rfl, hs⟩ := qm_i2_some hs
    obtain ⟨rfl, rfl, rfl, rfl⟩ := qm_nx_inj hs
    refine lv_iushr hx hb hd rfl ?_
    have h1 := kk _ _ _ hξ hP hS hL
    simp only [List.map_cons, qm_cv, Int32.ofInt_toInt] at h1
    exact h1
  | ladd =>
    obtain rfl : len = 1 := hlen.resolve_left (show ¬ (1 : Nat) = 0 by decide)
    obtain ⟨x, y, r, rfl, hs⟩ := qm_l2_some hs
    obtain ⟨rfl, rfl, rfl, rfl⟩ := qm_nx_inj hs
    exact lv_ladd hx hb hd (by rw [← Int64.ofInt_add]; exact kk _ _ _ hξ hP hS hL)
  | lsub =>
    obtain rfl : len = 1 := hlen.resolve_left (show ¬ (1 : Nat) = 0 by decide)
    obtain ⟨x, y, r, rfl, hs⟩ := qm_l2_some hs
    obtain ⟨rfl, rfl, rfl, rfl⟩ := qm_nx_inj hs
    exact lv_lsub hx hb hd (by rw [← Int64.ofInt_sub]; exact kk _ _ _ hξ hP hS hL)
  | lmul =>
    obtain rfl : len = 1 := hlen.resolve_left (show ¬ (1 : Nat) = 0 by decide)
    obtain ⟨x, y, r, rfl, hs⟩ := qm_l2_some hs
    obtain ⟨rfl, rfl, rfl, rfl⟩ := qm_nx_inj hs
    exact lv_lmul hx hb hd (by rw [← Int64.ofInt_mul]; exact kk _ _ _ hξ hP hS hL)
  | ldiv =>
    obtain rfl : len = 1 := hlen.resolve_left (show ¬ (1 : Nat) = 0 by decide)
    obtain ⟨x, y, r, rfl, hs⟩ := qm_l2_some hs
    obtain ⟨⟨hr, hy⟩, hs⟩ := qm_if_some hs
    obtain ⟨rfl, rfl, rfl, rfl⟩ := qm_nx_inj hs
    refine lv_ldiv hx hb hd (fun q => hy ((qm_eqL (y := 0) hr (by omega)).mp q)) ?_
    have h1 := kk _ _ _ hξ hP hS hL
    simp only [List.map_cons, qm_cv, Int64.ofInt_toInt] at h1
    exact h1
  | lrem =>
    obtain rfl : len = 1 := hlen.resolve_left (show ¬ (1 : Nat) = 0 by decide)
    obtain ⟨x, y, r, rfl, hs⟩ := qm_l2_some hs
    obtain ⟨⟨hr, hy⟩, hs⟩ := qm_if_some hs
    obtain ⟨rfl, rfl, rfl, rfl⟩ := qm_nx_inj hs
    refine lv_lrem hx hb hd (fun q => hy ((qm_eqL (y := 0) hr (by omega)).mp q)) ?_
    have h1 := kk _ _ _ hξ hP hS hL
    simp only [List.map_cons, qm_cv, Int64.ofInt_toInt] at h1
    exact h1
  | land =>
    obtain rfl : len = 1 := hlen.resolve_left (show ¬ (1 : Nat) = 0 by decide)
    obtain ⟨x, y, r, rfl, hs⟩ := qm_l2_some hs
    obtain ⟨rfl, rfl, rfl, rfl⟩ := qm_nx_inj hs
    refine lv_land hx hb hd ?_
    have h1 := kk _ _ _ hξ hP hS hL
    simp only [List.map_cons, qm_cv, Int64.ofInt_toInt] at h1
    exact h1
  | lor =>
    obtain rfl : len = 1 := hlen.resolve_left (show ¬ (1 : Nat) = 0 by decide)
    obtain ⟨x, y, r, rfl, hs⟩ := qm_l2_some hs
    obtain ⟨rfl, rfl, rfl, rfl⟩ := qm_nx_inj hs
    refine lv_lor hx hb hd ?_
    have h1 := kk _ _ _ hξ hP hS hL
    simp only [List.map_cons, qm_cv, Int64.ofInt_toInt] at h1
    exact h1
  | lxor =>
    obtain rfl : len = 1 := hlen.resolve_left (show ¬ (1 : Nat) = 0 by decide)
    obtain ⟨x, y, r, rfl, hs⟩ := qm_l2_some hs
    obtain ⟨rfl, rfl, rfl, rfl⟩ := qm_nx_inj hs
    refine lv_lxor hx hb hd ?_
    have h1 := kk _ _ _ hξ hP hS hL
    simp only [List.map_cons, qm_cv, Int64.ofInt_toInt] at h1
    exact h1
  | lshl =>
    obtain rfl : len = 1 := hlen.resolve_left (show ¬ (1 : Nat) = 0 by decide)
    obtain ⟨x, y, r, rfl, hs⟩ := qm_li_some hs
    obtain ⟨rfl, rfl, rfl, rfl⟩ := qm_nx_inj hs
    refine lv_lshl hx hb hd rfl ?_
    have h1 := kk _ _ _ hξ hP hS hL
    simp only [List.map_cons, qm_cv, Int64.ofInt_toInt] at h1
    exact h1
  | lshr =>
    obtain rfl : len = 1 := hlen.resolve_left (show ¬ (1 : Nat) = 0 by decide)
    obtain ⟨x, y, r, rfl, hs⟩ := qm_li_some hs
    obtain ⟨rfl, rfl, rfl, rfl⟩ := qm_nx_inj hs
    refine lv_lshr hx hb hd rfl ?_
    have h1 := kk _ _ _ hξ hP hS hL
    simp only [List.map_cons, qm_cv, Int64.ofInt_toInt] at h1
    exact h1
  | i2l =>
    obtain rfl : len = 1 := hlen.resolve_left (show ¬ (1 : Nat) = 0 by decide)
    obtain ⟨x, r, rfl, hs⟩ := qm_i1_some hs
    obtain ⟨hr, hs⟩ := qm_if_some hs
    obtain ⟨rfl, rfl, rfl, rfl⟩ := qm_nx_inj hs
    exact lv_i2l hx hb hd (qm_i64 hr) (kk _ _ _ hξ hP hS hL)
  | l2i =>
    obtain rfl : len = 1 := hlen.resolve_left (show ¬ (1 : Nat) = 0 by decide)
    obtain ⟨x, r, rfl, hs⟩ := qm_l1_some hs
    obtain ⟨rfl, rfl, rfl, rfl⟩ := qm_nx_inj hs
    exact lv_l2i hx hb hd (qm_l32 x) (kk _ _ _ hξ hP hS hL)
  | lcmp =>
    obtain rfl : len = 1 := hlen.resolve_left (show ¬ (1 : Nat) = 0 by decide)
    obtain ⟨x, y, r, rfl, hs⟩ := qm_l2_some hs
    obtain ⟨⟨h1, h2⟩, hs⟩ := qm_if_some hs
    obtain ⟨rfl, rfl, rfl, rfl⟩ := qm_nx_inj hs
    refine W.lcmp hx hb hd ?_
    have he : lg_cmp (Int64.ofInt x) (Int64.ofInt y) = Int32.ofInt (if y < x then 1 else if x = y then 0 else -1) := by
      unfold lg_cmp
      simp only [gt_iff_lt, qm_ltL h2 h1, qm_eqL h1 h2]
      split
      · rfl
      · split <;> rfl
    rw [he]
    exact kk _ _ _ hξ hP hS hL
  | dup =>
    obtain rfl : len = 1 := hlen.resolve_left (show ¬ (1 : Nat) = 0 by decide)
    simp only [qm_step] at hs
    split at hs
    · obtain ⟨rfl, rfl, rfl, rfl⟩ := qm_nx_inj hs
      exact lv_dup hx hb hd rfl (kk _ _ _ hξ hP hS hL)
    · obtain ⟨rfl, rfl, rfl, rfl⟩ := qm_nx_inj hs
      exact lv_dup hx hb hd rfl (kk _ _ _ hξ hP hS hL)
    · cases hs
  | dup_x1 =>
    obtain rfl : len = 1 := hlen.resolve_left (show ¬ (1 : Nat) = 0 by decide)
    simp only [qm_step] at hs
    split at hs
    · obtain ⟨rfl, rfl, rfl, rfl⟩ := qm_nx_inj hs
      exact lv_dup_x1 hx hb hd rfl rfl (kk _ _ _ hξ hP hS hL)
    · cases hs
  | dup2 =>
    obtain rfl : len = 1 := hlen.resolve_left (show ¬ (1 : Nat) = 0 by decide)
    simp only [qm_step] at hs
    split at hs
    · obtain ⟨rfl, rfl, rfl, rfl⟩ := qm_nx_inj hs
      exact lv_dup2_11 hx hb hd rfl rfl (kk _ _ _ hξ hP hS hL)
    · obtain ⟨rfl, rfl, rfl, rfl⟩ := qm_nx_inj hs
      exact lv_dup2_2 hx hb hd rfl (kk _ _ _ hξ hP hS hL)
    · cases hs
  | pop =>
    obtain rfl : len = 1 := hlen.resolve_left (show ¬ (1 : Nat) = 0 by decide)
    obtain ⟨x, r, rfl, hs⟩ := qm_i1_some hs
    obtain ⟨rfl, rfl, rfl, rfl⟩ := qm_nx_inj hs
    exact lv_pop hx hb hd rfl (kk _ _ _ hξ hP hS hL)
  | goto off =>
    obtain rfl : len = 3 := hlen.resolve_left (show ¬ (3 : Nat) = 0 by decide)
    obtain ⟨tgt, ht, e⟩ := qm_jmp_some hs
    cases e
    exact lv_goto hx hb hd ht (kk _ _ _ hξ hP hS hL)
  | ifCond cd off =>
    obtain rfl : len = 3 := hlen.resolve_left (show ¬ (3 : Nat) = 0 by decide)
    obtain ⟨x, r, rfl, hs⟩ := qm_i1_some hs
    obtain ⟨⟨h1, h0⟩, hs⟩ := qm_if_some hs
    have h2 : qm_r32 0 := by omega
    obtain ⟨rfl, rfl, rfl, rfl⟩ := qm_nx_inj hs
    have ht : (pc : Int) + off = ((((pc : Int) + off).toNat : Nat) : Int) := (Int.toNat_of_nonneg h0).symm
    cases cd with
    | eq =>
      have hi : (Int32.ofInt x = 0) ↔ (x = 0) := (qm_eq h1 h2)
      refine lv_if_eq hx hb hd ht (fun q => ?_) (fun q => ?_)
      · have h3 := kk _ _ _ hξ hP hS hL
        rw [qm_cmp_t (show qm_cmp .eq x 0 = true from decide_eq_true (hi.mp q))] at h3
        exact h3
      · have h3 := kk _ _ _ hξ hP hS hL
        rw [qm_cmp_f (show qm_cmp .eq x 0 = false from decide_eq_false (fun z => q (hi.mpr z)))] at h3
        exact h3
    | ne =>
      have hi : (¬ Int32.ofInt x = 0) ↔ (¬ x = 0) := not_congr (qm_eq h1 h2)
      refine lv_if_ne hx hb hd ht (fun q => ?_) (fun q => ?_)
      · have h3 := kk _ _ _ hξ hP hS hL
        rw [qm_cmp_t (show qm_cmp .ne x 0 = true from decide_eq_true (hi.mp q))] at h3
        exact h3
      · have h3 := kk _ _ _ hξ hP hS hL
        rw [qm_cmp_f (show qm_cmp .ne x 0 = false from decide_eq_false (fun z => (hi.mpr z) q))] at h3
        exact h3
    | lt =>
      have hi : (Int32.ofInt x < 0) ↔ (x < 0) := (qm_lt h1 h2)
      refine lv_if_lt hx hb hd ht (fun q => ?_) (fun q => ?_)
      · have h3 := kk _ _ _ hξ hP hS hL
        rw [qm_cmp_t (show qm_cmp .lt x 0 = true from decide_eq_true (hi.mp q))] at h3
        exact h3
      · have h3 := kk _ _ _ hξ hP hS hL
        rw [qm_cmp_f (show qm_cmp .lt x 0 = false from decide_eq_false (fun z => q (hi.mpr z)))] at h3
        exact h3
    | ge =>
      have hi : (0 ≤ Int32.ofInt x) ↔ (0 ≤ x) := (qm_le h2 h1)
      refine lv_if_ge hx hb hd ht (fun q => ?_) (fun q => ?_)
      · have h3 := kk _ _ _ hξ hP hS hL
        rw [qm_cmp_t (show qm_cmp .ge x 0 = true from decide_eq_true (hi.mp q))] at h3
        exact h3
      · have h3 := kk _ _ _ hξ hP hS hL
        rw [qm_cmp_f (show qm_cmp .ge x 0 = false from decide_eq_false (fun z => q (hi.mpr z)))] at h3
        exact h3
    | gt =>
      have hi : (0 < Int32.ofInt x) ↔ (0 < x) := (qm_lt h2 h1)
      refine lv_if_gt hx hb hd ht (fun q => ?_) (fun q => ?_)
      · have h3 := kk _ _ _ hξ hP hS hL
        rw [qm_cmp_t (show qm_cmp .gt x 0 = true from decide_eq_true (hi.mp q))] at h3
        exact h3
      · have h3 := kk _ _ _ hξ hP hS hL
        rw [qm_cmp_f (show qm_cmp .gt x 0 = false from decide_eq_false (fun z => q (hi.mpr z)))] at h3
        exact h3
    | le =>
      have hi : (Int32.ofInt x ≤ 0) ↔ (x ≤ 0) := (qm_le h1 h2)
      refine lv_if_le hx hb hd ht (fun q => ?_) (fun q => ?_)
      · have h3 := kk _ _ _ hξ hP hS hL
        rw [qm_cmp_t (show qm_cmp .le x 0 = true from decide_eq_true (hi.mp q))] at h3
        exact h3
      · have h3 := kk _ _ _ hξ hP hS hL
        rw [qm_cmp_f (show qm_cmp .le x 0 = false from decide_eq_false (fun z => q (hi.mpr z)))] at h3
        exact h3
  | if_icmp cd off =>
    obtain rfl : len = 3 := hlen.resolve_left (show ¬ (3 : Nat) = 0 by decide)
    obtain ⟨x, y, r, rfl, hs⟩ := qm_i2_some hs
    obtain ⟨⟨⟨h1, h2⟩, h0⟩, hs⟩ := qm_if_some hs
    obtain ⟨rfl, rfl, rfl, rfl⟩ := qm_nx_inj hs
    have ht : (pc : Int) + off = ((((pc : Int) + off).toNat : Nat) : Int) := (Int.toNat_of_nonneg h0).symm
    cases cd with
    | eq =>
      have hi : (Int32.ofInt x = Int32.ofInt y) ↔ (x = y) := (qm_eq h1 h2)
      refine lv_icmp_eq hx hb hd ht (fun q => ?_) (fun q => ?_)
      · have h3 := kk _ _ _ hξ hP hS hL
        rw [qm_cmp_t (show qm_cmp .eq x y = true from decide_eq_true (hi.mp q))] at h3
        exact h3
      · have h3 := kk _ _ _ hξ hP hS hL
        rw [qm_cmp_f (show qm_cmp .eq x y = false from decide_eq_false (fun z => q (hi.mpr z)))] at h3
        exact h3
    | ne =>
      have hi : (¬ Int32.ofInt x = Int32.ofInt y) ↔ (¬ x = y) := not_congr (qm_eq h1 h2)
      refine lv_icmp_ne hx hb hd ht (fun q => ?_) (fun q => ?_)
      · have h3 := kk _ _ _ hξ hP hS hL
        rw [qm_cmp_t (show qm_cmp .ne x y = true from decide_eq_true (hi.mp q))] at h3
        exact h3
      · have h3 := kk _ _ _ hξ hP hS hL
        rw [qm_cmp_f (show qm_cmp .ne x y = false from decide_eq_false (fun z => (hi.mpr z) q))] at h3
        exact h3
    | lt =>
      have hi : (Int32.ofInt x < Int32.ofInt y) ↔ (x < y) := (qm_lt h1 h2)
      refine lv_icmp_lt hx hb hd ht (fun q => ?_) (fun q => ?_)
      · have h3 := kk _ _ _ hξ hP hS hL
        rw [qm_cmp_t (show qm_cmp .lt x y = true from decide_eq_true (hi.mp q))] at h3
        exact h3
      · have h3 := kk _ _ _ hξ hP hS hL
        rw [qm_cmp_f (show qm_cmp .lt x y = false from decide_eq_false (fun z => q (hi.mpr z)))] at h3
        exact h3
    | ge =>
      have hi : (Int32.ofInt y ≤ Int32.ofInt x) ↔ (y ≤ x) := (qm_le h2 h1)
      refine lv_icmp_ge hx hb hd ht (fun q => ?_) (fun q => ?_)
      · have h3 := kk _ _ _ hξ hP hS hL
        rw [qm_cmp_t (show qm_cmp .ge x y = true from decide_eq_true (hi.mp q))] at h3
        exact h3
      · have h3 := kk _ _ _ hξ hP hS hL
        rw [qm_cmp_f (show qm_cmp .ge x y = false from decide_eq_false (fun z => q (hi.mpr z)))] at h3
        exact h3
    | gt =>
      have hi : (Int32.ofInt y < Int32.ofInt x) ↔ (y < x) := (qm_lt h2 h1)
      refine lv_icmp_gt hx hb hd ht (fun q => ?_) (fun q => ?_)
      · have h3 := kk _ _ _ hξ hP hS hL
        rw [qm_cmp_t (show qm_cmp .gt x y = true from decide_eq_true (hi.mp q))] at h3
        exact h3
      · have h3 := kk _ _ _ hξ hP hS hL
        rw [qm_cmp_f (show qm_cmp .gt x y = false from decide_eq_false (fun z => q (hi.mpr z)))] at h3
        exact h3
    | le =>
      have hi : (Int32.ofInt x ≤ Int32.ofInt y) ↔ (x ≤ y) := (qm_le h1 h2)
      refine lv_icmp_le hx hb hd ht (fun q => ?_) (fun q => ?_)
      · have h3 := kk _ _ _ hξ hP hS hL
        rw [qm_cmp_t (show qm_cmp .le x y = true from decide_eq_true (hi.mp q))] at h3
        exact h3
      · have h3 := kk _ _ _ hξ hP hS hL
        rw [qm_cmp_f (show qm_cmp .le x y = false from decide_eq_false (fun z => q (hi.mpr z)))] at h3
        exact h3
  | tableswitch dflt lo hi offs =>
    obtain ⟨x, r, rfl, hs⟩ := qm_i1_some hs
    obtain ⟨hr, hs⟩ := qm_if_some hs
    unfold qm_tsw at hs
    by_cases ho : x < lo ∨ hi < x
    · rw [if_pos ho] at hs
      obtain ⟨tgt, ht, e⟩ := qm_jmp_some hs
      cases e
      exact lv_tableOut hx hb hd (by rw [qm_ti hr]; exact ho) ht (kk _ _ _ hξ hP hS hL)
    · rw [if_neg ho] at hs
      cases hof : offs[(x - lo).toNat]? with
      | none => rw [hof] at hs; cases hs
      | some off =>
        rw [hof] at hs
        obtain ⟨tgt, ht, e⟩ := qm_jmp_some hs
        cases e
        exact lv_tableIn hx hb hd (by rw [qm_ti hr]; exact fun q => ho (Or.inl q)) (by rw [qm_ti hr]; exact fun q => ho (Or.inr q)) (by rw [qm_ti hr]; exact hof) ht (kk _ _ _ hξ hP hS hL)
  | lookupswitch dflt ps =>
    obtain ⟨x, r, rfl, hs⟩ := qm_i1_some hs
    obtain ⟨⟨hr, hp⟩, hs⟩ := qm_if_some hs
    obtain ⟨tgt, ht, e⟩ := qm_jmp_some hs
    cases e
    exact lv_lookup hx hb hd hp (by rw [qm_ti hr]) ht (kk _ _ _ hξ hP hS hL)
  | getfield n =>
    obtain rfl : len = 3 := hlen.resolve_left (show ¬ (3 : Nat) = 0 by decide)
    obtain ⟨q, r, rfl, hs⟩ := qm_p1_some hs
    obtain ⟨ci, fl, j, ek, h1, h2, h3, hs⟩ := qm_obj_some hs
    obtain ⟨rfl, rfl, rfl, rfl⟩ := qm_nx_inj hs
    obtain ⟨C, F, nF, ty, g1, g2, g3, g4, g5, g6, g7, g8⟩ := vFld k n ci j h2
    exact va_get (ref := (F j).1) hx hb hts g4 hown hK hP q (by rw [qm_ws_at (shO h1), qm_E_obj h1]) g1 j g2 (hts _ g3) (fun _ h => h) (qm_fs_at h3) hd (kk _ _ _ hξ hP hS hL)
  | putfield n =>
    obtain rfl : len = 3 := hlen.resolve_left (show ¬ (3 : Nat) = 0 by decide)
    obtain ⟨q, v, r, rfl, hs⟩ := qm_po_some hs
    obtain ⟨ci, fl, j, ek, h1, h2, h3, hs⟩ := qm_obj_some hs
    obtain ⟨hw, hs⟩ := qm_if_some hs
    obtain ⟨C, F, nF, ty, g1, g2, g3, g4, g5, g6, g7, g8⟩ := vFld k n ci j h2
    have hfl : j < (qm_fs ad μ q fl).length := by simpa [qm_fs] using (List.getElem?_eq_some_iff.mp h3).1
    have he := fun (z : Int) (w : Value) (hv : qm_cv ad (qm_fv (qm_set μ q j z) q j ek) = w) => qm_ws_set (ac := ac) (shO h1) (μ := μ) (j := j) (z := z) (e := .inr (ci, (qm_fs ad μ q fl).set j w)) (by rw [qm_E_obj h1, qm_fs_set h3 hv])
    cases hpv : qm_putv μ q j ek v with
    | none => rw [hpv] at hs; cases hs
    | some ν =>
      rw [hpv] at hs
      obtain ⟨rfl, rfl, rfl, rfl⟩ := qm_nx_inj hs
      rcases qm_putv_some hpv with ⟨z, rfl, rfl, rfl⟩ | ⟨z, rfl, rfl, rfl⟩ | ⟨z, rfl, rfl, hz, rfl⟩
      · have hty := (g8 q fl h1).1 h3
        refine va_put (ref := (F j).1) hx hb hts g4 ty g5 g6 hown hK hP (hD μ) hS q (by rw [qm_ws_at (shO h1), qm_E_obj h1]) g1 j g2 (hts _ g3) (fun _ h => h) (g7 hw) (g5 j g2) (by rw [hty]; rfl) (by rw [hty]; rfl) hfl hd (fun H1 locs1 hP1 hD1 hS1 => kk _ _ _ (n999 (shO h1)) ?_ hS1 hL)
        rw [← he z _ (by simp [qm_fv, qm_set_eq]; rfl)]
        exact hP1
      · have hty := (g8 q fl h1).2.1 h3
        refine va_put (ref := (F j).1) hx hb hts g4 ty g5 g6 hown hK hP (hD μ) hS q (by rw [qm_ws_at (shO h1), qm_E_obj h1]) g1 j g2 (hts _ g3) (fun _ h => h) (g7 hw) (g5 j g2) (by rw [hty]; rfl) (by rw [hty]; rfl) hfl hd (fun H1 locs1 hP1 hD1 hS1 => kk _ _ _ (n999 (shO h1)) ?_ hS1 hL)
        rw [← he z _ (by simp [qm_fv, qm_set_eq]; rfl)]
        exact hP1
      · have hty := (g8 q fl h1).2.2 h3
        refine va_put (ref := (F j).1) hx hb hts g4 ty g5 g6 hown hK hP (hD μ) hS q (by rw [qm_ws_at (shO h1), qm_E_obj h1]) g1 j g2 (hts _ g3) (fun _ h => h) (g7 hw) (g5 j g2) (by rw [hty]; exact (qm_nar01 hz).1) (by rw [hty]; exact (qm_nar01 hz).2.1) hfl hd (fun H1 locs1 hP1 hD1 hS1 => kk _ _ _ (n999 (shO h1)) ?_ hS1 hL)
        rw [← he z _ (by simp [qm_fv, qm_set_eq]; rfl)]
        exact hP1
  | arraylength =>
    obtain rfl : len = 1 := hlen.resolve_left (show ¬ (1 : Nat) = 0 by decide)
    obtain ⟨q, r, rfl, hs⟩ := qm_p1_some hs
    obtain ⟨t, n, h1, hs⟩ := qm_arr_some hs
    obtain ⟨rfl, rfl, rfl, rfl⟩ := qm_nx_inj hs
    rcases vSh.1 q _ h1 with ⟨a1, a2⟩ | ⟨rfl, L, a1⟩
    · have ht := a2 t n rfl
      obtain ⟨t0, ty, hty⟩ : ∃ (t0 : Nat) (ty : FieldType), (qm_tys ac)[t0]? = some (ac t, ty) := by
        match t, ht with
        | 0, _ => exact ⟨0, _, rfl⟩
        | 1, _ => exact ⟨1, _, rfl⟩
        | 2, _ => exact ⟨2, _, rfl⟩
        | 3, _ => exact ⟨3, _, rfl⟩
      exact va_alen hx hb hK hP q t0 (x := (n, qm_ar μ q t)) (by rw [qm_ws_at a1, qm_E_arr h1]) hty Int32.ofInt_eq_ofNat.symm hd (kk _ _ _ hξ hP hS hL)
    · cases a1
      obtain ⟨b1, b2, b3⟩ := hEx.1 n h1
      refine va_slen hx hb b3 b2 b1 hS hd ?_
      rw [← Int32.ofInt_eq_ofNat]
      exact kk _ _ _ hξ hP hS hL
  | iaload =>
    obtain rfl : len = 1 := hlen.resolve_left (show ¬ (1 : Nat) = 0 by decide)
    obtain ⟨q, i, r, rfl, hs⟩ := qm_pi_some hs
    obtain ⟨t, n, h1, hs⟩ := qm_arr_some hs
    obtain ⟨⟨ht, h2, h3⟩, hs⟩ := qm_if_some hs
    obtain ⟨rfl, rfl, rfl, rfl⟩ := qm_nx_inj hs
    obtain ⟨hin, hcl⟩ := qm_idx h2 h3 (vSh.2.2 q t n h1)
    rcases ht with rfl | rfl
    · refine va_iald hx hb hK hP q 0 (arr32 h1 (by decide) (by decide)) rfl hin hd ?_
      rw [hcl]
      exact kk _ _ _ hξ hP hS hL
    · rcases vSh.1 q _ h1 with ⟨a1, a2⟩ | ⟨rfl, L, a1⟩
      · exact absurd (a2 9 n rfl) (by decide)
      · obtain ⟨b1, b2, b3⟩ := hEx.1 n h1
        refine va_sld hx hb b3 b2 b1 hS hin hd ?_
        rw [hcl]
        have := kk _ _ _ hξ hP hS hL
        rw [hξ] at this
        exact this
  | laload =>
    obtain rfl : len = 1 := hlen.resolve_left (show ¬ (1 : Nat) = 0 by decide)
    obtain ⟨q, i, r, rfl, hs⟩ := qm_pi_some hs
    obtain ⟨t, n, h1, hs⟩ := qm_arr_some hs
    obtain ⟨⟨ht, h2, h3⟩, hs2⟩ := qm_if_some hs
    obtain ⟨rfl, rfl, rfl, rfl⟩ := qm_nx_inj hs2
    subst ht
    obtain ⟨hin, hcl⟩ := qm_idx h2 h3 (vSh.2.2 q _ n h1)
    refine va_lald hx hb hK hP q 1 (arr64 h1) rfl hin hd ?_
    rw [hcl]
    exact kk _ _ _ hξ hP hS hL
  | baload =>
    obtain rfl : len = 1 := hlen.resolve_left (show ¬ (1 : Nat) = 0 by decide)
    obtain ⟨q, i, r, rfl, hs⟩ := qm_pi_some hs
    obtain ⟨t, n, h1, hs⟩ := qm_arr_some hs
    obtain ⟨⟨ht, h2, h3⟩, hs2⟩ := qm_if_some hs
    obtain ⟨rfl, rfl, rfl, rfl⟩ := qm_nx_inj hs2
    subst ht
    obtain ⟨hin, hcl⟩ := qm_idx h2 h3 (vSh.2.2 q _ n h1)
    refine va_zald hx hb hK hP q 2 (arr32 h1 (by decide) (by decide)) rfl hin hd ?_
    rw [hcl]
    exact kk _ _ _ hξ hP hS hL
  | caload =>
    obtain rfl : len = 1 := hlen.resolve_left (show ¬ (1 : Nat) = 0 by decide)
    obtain ⟨q, i, r, rfl, hs⟩ := qm_pi_some hs
    obtain ⟨t, n, h1, hs⟩ := qm_arr_some hs
    obtain ⟨⟨ht, h2, h3⟩, hs2⟩ := qm_if_some hs
    obtain ⟨rfl, rfl, rfl, rfl⟩ := qm_nx_inj hs2
    subst ht
    obtain ⟨hin, hcl⟩ := qm_idx h2 h3 (vSh.2.2 q _ n h1)
    refine va_cald hx hb hK hP q 3 (arr32 h1 (by decide) (by decide)) rfl hin hd ?_
    rw [hcl]
    exact kk _ _ _ hξ hP hS hL
  | iastore =>
    obtain rfl : len = 1 := hlen.resolve_left (show ¬ (1 : Nat) = 0 by decide)
    obtain ⟨q, i, v, r, rfl, hs⟩ := qm_pv_some hs
    obtain ⟨t, n, h1, hs⟩ := qm_arr_some hs
    split at hs
    next z =>
      obtain ⟨rfl, hs⟩ := qm_if_some hs
      obtain ⟨⟨h2, h3⟩, hs⟩ := qm_astv_some hs
      obtain ⟨rfl, rfl, rfl, rfl⟩ := qm_nx_inj hs
      obtain ⟨hin, hcl⟩ := qm_idx h2 h3 (vSh.2.2 q _ n h1)
      refine va_iast hx hb hK hP (hD μ) hS q 0 (arr32 h1 (by decide) (by decide)) rfl hin hd (fun H1 locs1 hP1 hD1 hS1 => kk _ _ _ (n999 (shA h1 (by decide))) ?_ hS1 hL)
      rw [hcl, ← qm_upd32, qm_ws_set (shA h1 (by decide)) (by rw [qm_E_arr h1, qm_ar, if_neg (by decide)])] at hP1
      exact hP1
    next => cases hs
  | lastore =>
    obtain rfl : len = 1 := hlen.resolve_left (show ¬ (1 : Nat) = 0 by decide)
    obtain ⟨q, i, v, r, rfl, hs⟩ := qm_pv_some hs
    obtain ⟨t, n, h1, hs⟩ := qm_arr_some hs
    split at hs
    next z =>
      obtain ⟨rfl, hs⟩ := qm_if_some hs
      obtain ⟨⟨h2, h3⟩, hs⟩ := qm_astv_some hs
      obtain ⟨rfl, rfl, rfl, rfl⟩ := qm_nx_inj hs
      obtain ⟨hin, hcl⟩ := qm_idx h2 h3 (vSh.2.2 q _ n h1)
      refine va_last hx hb hK hP (hD μ) hS q 1 (arr64 h1) rfl hin hd (fun H1 locs1 hP1 hD1 hS1 => kk _ _ _ (n999 (shA h1 (by decide))) ?_ hS1 hL)
      rw [hcl, ← qm_upd64, qm_ws_set (shA h1 (by decide)) (by rw [qm_E_arr h1, qm_ar, if_pos rfl])] at hP1
      exact hP1
    next => cases hs
  | bastore =>
    obtain rfl : len = 1 := hlen.resolve_left (show ¬ (1 : Nat) = 0 by decide)
    obtain ⟨q, i, v, r, rfl, hs⟩ := qm_pv_some hs
    obtain ⟨t, n, h1, hs⟩ := qm_arr_some hs
    split at hs
    next z =>
      obtain ⟨⟨ht, hz⟩, hs2⟩ := qm_if_some hs
      obtain ⟨⟨h2, h3⟩, hs3⟩ := qm_astv_some hs2
      obtain ⟨rfl, rfl, rfl, rfl⟩ := qm_nx_inj hs3
      subst ht
      obtain ⟨hin, hcl⟩ := qm_idx h2 h3 (vSh.2.2 q _ n h1)
      refine va_zast hx hb hK hP (hD μ) hS q 2 (arr32 h1 (by decide) (by decide)) rfl hin hd (fun H1 locs1 hP1 hD1 hS1 => kk _ _ _ (n999 (shA h1 (by decide))) ?_ hS1 hL)
      rw [hcl, (qm_nar01 hz).2.2, ← qm_upd32, qm_ws_set (shA h1 (by decide)) (by rw [qm_E_arr h1, qm_ar, if_neg (by decide)])] at hP1
      exact hP1
    next => cases hs
  | ireturn =>
    simp only [qm_step] at hs
    split at hs
    · split at hs <;> cases hs
    · cases hs
  | lreturn =>
    simp only [qm_step] at hs
    split at hs
    · split at hs <;> cases hs
    · cases hs
  | return_ =>
    simp only [qm_step] at hs
    split at hs
    · split at hs <;> cases hs
    · cases hs
  | invokevirtual n => exact absurd hs (qm_call_inl)
  | invokestatic n => exact absurd hs (qm_call_inl)
  | _ => cases hs
end QPL
