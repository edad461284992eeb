/-! ===== what the tables must say; a frame's facts ===== -/
def qm_tyOf : Nat → Option FieldType
  | 0 => none
  | 1 => some .int
  | 2 => some .boolean
  | _ => some .long
def qm_len : Instr → Nat
  | .bipush _ => 2
  | .sipush _ => 3
  | .ldc _ => 2
  | .ldc_w _ => 3
  | .ldc2_w _ => 3
  | .iload _ => 2
  | .lload _ => 2
  | .aload _ => 2
  | .istore _ => 2
  | .lstore _ => 2
  | .astore _ => 2
  | .iinc _ _ => 3
  | .goto _ => 3
  | .ifCond _ _ => 3
  | .if_icmp _ _ => 3
  | .tableswitch _ _ _ _ => 0
  | .lookupswitch _ _ => 0
  | .getfield _ => 3
  | .putfield _ => 3
  | .invokevirtual _ => 3
  | .invokestatic _ => 3
  | _ => 1
def qm_vAt (T : qm_T) (bs : Nat → ByteArray) : Prop := ∀ k pc i, qm_at T k pc = some i → ∃ len, decode (bs k) pc = .ok (i, len) ∧ (qm_len i = 0 ∨ len = qm_len i)
def qm_vSh (T : qm_T) (N : Nat) : Prop := (∀ c s, qm_sh T c = some s → (c < N ∧ ∀ t n, s = .inr (t, n) → t < 4) ∨ (c = 999 ∧ ∃ L, s = .inr (9, L))) ∧ N ≤ 999 ∧ ∀ c t n, qm_sh T c = some (.inr (t, n)) → n < 2147483648
def qm_vFld (T : qm_T) (ow : Nat → String) (cl : List vw_C) (TB : List Jvm.Cond) : Prop := ∀ k i ci j, qm_fld T k i = some (ci, j) → ∃ (C : String) (F : u_T) (n : Nat) (ty : Nat → FieldType), cl[ci]? = some (C, F, n) ∧ j < n ∧ Jvm.Cond.fieldLink (ow k) i (F j).1 (F j).2.1 (F j).2.2.1 ∈ TB ∧ (∀ w ∈ u_ws C F n, w ∈ TB) ∧ (∀ a, a < n → parseFieldDescriptor (F a).2.2.1 = some (ty a)) ∧ (∀ a, a < n → ∀ b, b < n → a ≠ b → (F a).2.1 ≠ (F b).2.1) ∧ (qm_wr T ci j = true → (F j).2.2.2 = false) ∧ ∀ c fl, qm_sh T c = some (.inl (ci, fl)) → (fl[j]? = some (.inr 0) → ty j = .int) ∧ (fl[j]? = some (.inr 1) → ty j = .long) ∧ (fl[j]? = some (.inr 2) → ty j = .boolean)
def qm_vInv (T : qm_T) (bs : Nat → ByteArray) (ow : Nat → String) (nm : Nat → MethodName) (cl : List vw_C) (TB : List Jvm.Cond) : Prop := ∀ k i k' n o, qm_inv T k i = some (k', n, o) → k' < 100000 →
  Jvm.Cond.methodLink (ow k) i (nm k') ∈ TB ∧ Jvm.Cond.code (nm k') (bs k') (qm_mxl T k') (qm_tyOf (qm_rt T k')) ∈ TB ∧ Jvm.Cond.initialized (nm k').cls ∈ TB ∧ ((nm k').cls ≠ "java/lang/invoke/MethodHandle" ∧ (nm k').cls ≠ "java/lang/invoke/VarHandle") ∧ qm_mxl T k' ≤ 41 ∧ plainFor (nm k') = true ∧ ow k' = (nm k').cls ∧
  (o = none → Jvm.Cond.static (nm k') ∈ TB ∧ (parseMethodDescriptor (nm k').desc).map (fun d => d.parameters.length) = some n) ∧
  ∀ ci, o = some ci → Jvm.Cond.instanceMethod (nm k') ∈ TB ∧ Jvm.Cond.selects (nm k').cls (nm k') (nm k') ∈ TB ∧ (∃ (F : u_T) (q : Nat), cl[ci]? = some ((nm k').cls, F, q)) ∧ ∃ n', n = n' + 1 ∧ (parseMethodDescriptor (nm k').desc).map (fun d => d.parameters.length) = some n'
def qm_vCst (T : qm_T) (ow : Nat → String) (TB : List Jvm.Cond) : Prop := ∀ k i, (∀ z, qm_cst T k i = some (some (.inl z)) → Jvm.Cond.constant (ow k) i (Int32.ofInt z) ∈ TB) ∧ (∀ z, qm_cst T k i = some (some (.inr (.inl z))) → Jvm.Cond.constantLong (ow k) i (Int64.ofInt z) ∈ TB)
/-- a text that is there: its object, its bytes -/
def qm_Str (a : Nat) (tx : List Nat) (A : Nat → Prop) (U : State) (H : Heap) : Prop := ∃ v : Nat, va_O "java/lang/String" a A U H ∧ va_OF "java/lang/String" "coder" "B" (.int 0) a A U H ∧ va_OF "java/lang/String" "value" "[B" (.ref v) a A U H ∧ va_T .byte v tx.length (fun j => .int (Int32.ofNat (tx.getD j 0))) A U H ∧ ∀ j, j < tx.length → tx.getD j 0 < 128
/-- what lies outside the world: the script, the texts -/
def qm_Ex (T : qm_T) (ow : Nat → String) (ad : Nat → Nat) (ξ : Nat → Int) (A : Nat → Prop) (U : State) (H : Heap) : Prop :=
  (∀ L, qm_sh T 999 = some (.inr (9, L)) → ¬ A (ad 999) ∧ ad 999 < H.size ∧ va_X (ad 999) L (fun i => Int32.ofInt (ξ i)) U H) ∧
  (∀ c l, qm_txt T c = some l → qm_Str (ad c) l A U H) ∧
  (∀ k i c, qm_cst T k i = some (some (.inr (.inr c))) → ∃ tx, vk_R (ow k) i tx (ad c) U) ∧
  va_Z "java/lang/String" "COMPACT_STRINGS" "Z" (.int 1) A U H ∧ va_Zq "jdk/internal/util/Preconditions" "SIOOBE_FORMATTER" "Ljava/util/function/BiFunction;" A U H
def qm_Fr (T : qm_T) (bs : Nat → ByteArray) (ow : Nat → String) (cl : List vw_C) (TB : List Jvm.Cond) (ad : Nat → Nat) (ac : Nat → ClassId) (D : va_G) (ξ : Nat → Int) (p : Program) (s : State) (m : MethodId) (args : Array Value) (c : Code) (k : Nat) (A : Nat → Prop) (H0 : Heap) : Prop :=
  p.tables.exec = Jvm.exec ∧ c.code = bs k ∧ c.maxLocals = qm_mxl T k ∧ s.vm.findClass (ow k) = some m.cls ∧ (∀ w ∈ TB, w.before args s = true) ∧ va_K D cl (qm_tys ac) s ∧ qm_Ex T ow ad ξ A s H0
theorem qm_Str.kept {a : Nat} {tx : List Nat} {A : Nat → Prop} {U : State} {H H1 : Heap} (h : qm_Str a tx A U H) (hq : ∀ q : Nat, q < H.size → ¬ A q → H1[q]? = H[q]?) : qm_Str a tx A U H1 := by
  obtain ⟨v, h1, h2, h3, h4, h5⟩ := h
  exact ⟨v, h1.kept hq, h2.kept hq, h3.kept hq, h4.kept hq, h5⟩
theorem qm_Str.moved {a : Nat} {tx : List Nat} {A : Nat → Prop} {u U : State} {H : Heap} (hvm : u.vm.Alike U.vm) (h : qm_Str a tx A u H) : qm_Str a tx A U H := by
  obtain ⟨v, h1, h2, h3, h4, h5⟩ := h
  exact ⟨v, va_O.moved hvm h1, va_OF.moved hvm h2, va_OF.moved hvm h3, va_T.moved hvm h4, h5⟩
theorem qm_Str.narrow {a : Nat} {tx : List Nat} {A B : Nat → Prop} {U : State} {H : Heap} (h : qm_Str a tx A U H) (hAB : ∀ q, B q → A q) : qm_Str a tx B U H := by
  obtain ⟨v, h1, h2, h3, h4, h5⟩ := h
  exact ⟨v, h1.narrow hAB, h2.narrow hAB, h3.narrow hAB, h4.narrow hAB, h5⟩
theorem qm_Ex.same {T : qm_T} {ow : Nat → String} {ad : Nat → Nat} {ξ : Nat → Int} {A : Nat → Prop} {u U : State} {H : Heap} (hv : U.vm = u.vm) (h : qm_Ex T ow ad ξ A u H) : qm_Ex T ow ad ξ A U H := by
  have hvm : u.vm.Alike U.vm := by rw [hv]; exact Vm.Alike.refl _
  refine ⟨fun L hL => ?_, fun c l hl => (h.2.1 c l hl).moved hvm, fun k i c hc => ?_, va_Z.moved hvm h.2.2.2.1, va_Zq.moved hvm h.2.2.2.2⟩
  · obtain ⟨h1, h2, h3⟩ := h.1 L hL
    exact ⟨h1, h2, va_X.moved hvm h3⟩
  · obtain ⟨tx, h1⟩ := h.2.2.1 k i c hc
    exact ⟨tx, vk_R.same hv h1⟩
theorem qm_Ex.warm {T : qm_T} {ow : Nat → String} {ad : Nat → Nat} {ξ : Nat → Int} {A B : Nat → Prop} {s U : State} {H0 H : Heap} (hW : s.WarmedH U.vm) (hz : H0.size ≤ H.size) (hq : ∀ q : Nat, q < H0.size → ¬ A q → H[q]? = H0[q]?) (hAB : ∀ q, B q → A q) (h : qm_Ex T ow ad ξ A s H0) : qm_Ex T ow ad ξ B U H := by
  have hvm : s.vm.Alike U.vm := hW.alike
  refine ⟨fun L hL => ?_, fun c l hl => (((h.2.1 c l hl).kept hq).narrow hAB).moved hvm, fun k i c hc => ?_, va_Z.moved hvm ((h.2.2.2.1.kept hq).narrow hAB), va_Zq.moved hvm ((h.2.2.2.2.kept hq).narrow hAB)⟩
  · obtain ⟨h1, h2, h3⟩ := h.1 L hL
    exact ⟨fun q => h1 (hAB _ q), Nat.lt_of_lt_of_le h2 hz, va_X.moved hvm (h3.kept (hq _ h2 h1))⟩
  · obtain ⟨tx, h1⟩ := h.2.2.1 k i c hc
    exact ⟨tx, vk_R.warm hW h1⟩
/-! ===== reading a step back ===== -/
theorem qm_i1_some {st : List qm_V} {f : Int → List qm_V → qm_O} {o} (h : qm_i1 st f = some o) : ∃ x r, st = some (.inl x) :: r ∧ f x r = some o := by
  unfold qm_i1 at h
  split at h
  · exact ⟨_, _, rfl, h⟩
  · cases h
theorem qm_i2_some {st : List qm_V} {f : Int → Int → List qm_V → qm_O} {o} (h : qm_i2 st f = some o) : ∃ x y r, st = some (.inl y) :: some (.inl x) :: r ∧ f x y r = some o := by
  unfold qm_i2 at h
  split at h
  · exact ⟨_, _, _, rfl, h⟩
  · cases h
theorem qm_l1_some {st : List qm_V} {f : Int → List qm_V → qm_O} {o} (h : qm_l1 st f = some o) : ∃ x r, st = some (.inr (.inl x)) :: r ∧ f x r = some o := by
  unfold qm_l1 at h
  split at h
  · exact ⟨_, _, rfl, h⟩
  · cases h
theorem qm_l2_some {st : List qm_V} {f : Int → Int → List qm_V → qm_O} {o} (h : qm_l2 st f = some o) : ∃ x y r, st = some (.inr (.inl y)) :: some (.inr (.inl x)) :: r ∧ f x y r = some o := by
  unfold qm_l2 at h
  split at h
  · exact ⟨_, _, _, rfl, h⟩
  · cases h
theorem qm_li_some {st : List qm_V} {f : Int → Int → List qm_V → qm_O} {o} (h : qm_li st f = some o) : ∃ x y r, st = some (.inl y) :: some (.inr (.inl x)) :: r ∧ f x y r = some o := by
  unfold qm_li at h
  split at h
  · exact ⟨_, _, _, rfl, h⟩
  · cases h
theorem qm_p1_some {st : List qm_V} {f : Nat → List qm_V → qm_O} {o} (h : qm_p1 st f = some o) : ∃ x r, st = some (.inr (.inr x)) :: r ∧ f x r = some o := by
  unfold qm_p1 at h
  split at h
  · exact ⟨_, _, rfl, h⟩
  · cases h
theorem qm_pi_some {st : List qm_V} {f : Nat → Int → List qm_V → qm_O} {o} (h : qm_pi st f = some o) : ∃ c i r, st = some (.inl i) :: some (.inr (.inr c)) :: r ∧ f c i r = some o := by
  unfold qm_pi at h
  split at h
  · exact ⟨_, _, _, rfl, h⟩
  · cases h
theorem qm_pv_some {st : List qm_V} {f : Nat → Int → qm_V → List qm_V → qm_O} {o} (h : qm_pv st f = some o) : ∃ c i v r, st = v :: some (.inl i) :: some (.inr (.inr c)) :: r ∧ f c i v r = some o := by
  unfold qm_pv at h
  split at h
  · exact ⟨_, _, _, _, rfl, h⟩
  · cases h
theorem qm_po_some {st : List qm_V} {f : Nat → qm_V → List qm_V → qm_O} {o} (h : qm_po st f = some o) : ∃ c v r, st = v :: some (.inr (.inr c)) :: r ∧ f c v r = some o := by
  unfold qm_po at h
  split at h
  · exact ⟨_, _, _, rfl, h⟩
  · cases h
theorem qm_ldI_some {L : List qm_V} {i : Nat} {f : Int → qm_O} {o} (h : qm_ldI L i f = some o) : ∃ z, L[i]? = some (some (.inl z)) ∧ f z = some o := by
  unfold qm_ldI at h
  split at h
  next z hz => exact ⟨z, hz, h⟩
  next => cases h
theorem qm_ldL_some {L : List qm_V} {i : Nat} {f : Int → qm_O} {o} (h : qm_ldL L i f = some o) : ∃ z, L[i]? = some (some (.inr (.inl z))) ∧ f z = some o := by
  unfold qm_ldL at h
  split at h
  next z hz => exact ⟨z, hz, h⟩
  next => cases h
theorem qm_ldP_some {L : List qm_V} {i : Nat} {f : Nat → qm_O} {o} (h : qm_ldP L i f = some o) : ∃ z, L[i]? = some (some (.inr (.inr z))) ∧ f z = some o := by
  unfold qm_ldP at h
  split at h
  next z hz => exact ⟨z, hz, h⟩
  next => cases h
theorem qm_arr_some {s : Option qm_S} {f : Nat → Nat → qm_O} {o} (h : qm_arr s f = some o) : ∃ t n, s = some (.inr (t, n)) ∧ f t n = some o := by
  unfold qm_arr at h
  split at h
  · exact ⟨_, _, rfl, h⟩
  · cases h
theorem qm_obj_some {s : Option qm_S} {l : Option (Nat × Nat)} {f : Nat → Nat → (Nat ⊕ Nat) → qm_O} {o} (h : qm_obj s l f = some o) : ∃ ci fl j e, s = some (.inl (ci, fl)) ∧ l = some (ci, j) ∧ fl[j]? = some e ∧ f ci j e = some o := by
  unfold qm_obj at h
  split at h
  next ci fl ci' j =>
    split at h
    next hc =>
      subst hc
      split at h
      next e he => exact ⟨_, _, _, e, rfl, rfl, he, h⟩
      next => cases h
    next => cases h
  next => cases h
theorem qm_cst1_some {v : Option qm_V} {f : qm_V → qm_O} {o} (h : qm_cst1 v f = some o) : ∃ x, v = some x ∧ f x = some o := by
  unfold qm_cst1 at h
  split at h
  · exact ⟨_, rfl, h⟩
  · cases h
theorem qm_if_some {c : Prop} [Decidable c] {x : qm_O} {o} (h : (if c then x else none) = some o) : c ∧ x = some o := by
  by_cases hc : c
  · rw [if_pos hc] at h; exact ⟨hc, h⟩
  · rw [if_neg hc] at h; cases h
theorem qm_jmp_some {pc : Nat} {off : Int} {ls st : List qm_V} {μ : qm_M} {o} (h : qm_jmp pc off ls st μ = some o) : ∃ tgt : Nat, (pc : Int) + off = (tgt : Int) ∧ o = .inl (tgt, ls, st, μ) := by
  unfold qm_jmp at h
  obtain ⟨h1, h2⟩ := qm_if_some h
  cases h2
  exact ⟨_, (Int.toNat_of_nonneg h1).symm, rfl⟩
