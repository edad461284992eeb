/-! ===== a machine that makes: constructors, new cells ===== -/
/-- a cell in the making: an object (its class's place, its fields), or an array (kind, length, what was written, the last first) -/
abbrev qk_E : Type := (Nat × List qm_V) ⊕ (Nat × Nat × List (Nat × Int))
abbrev qk_C : Type := Nat × List qm_V × List qm_V × List qk_E
abbrev qk_O : Type := Option (qk_C ⊕ (Nat × List qm_V × List qm_V))
def qk_f (w : List (Nat × Int)) (i : Nat) : Int := match w with
  | [] => 0
  | (j, z) :: r => if i = j then z else qk_f r i
/-- tables: code; classes made; fields; calls (0: Object's own); locals -/
abbrev qk_T : Type := (Nat → Nat → Option Instr) × (Nat → Nat → Option Nat) × (Nat → Nat → Option (Nat × Nat)) × (Nat → Nat → Option (Nat × Nat)) × (Nat → Nat) × (Nat → Nat → FieldType) × (Nat → Nat)
abbrev qk_at (T : qk_T) := T.1
abbrev qk_ncl (T : qk_T) := T.2.1
abbrev qk_fld (T : qk_T) := T.2.2.1
abbrev qk_isp (T : qk_T) := T.2.2.2.1
abbrev qk_mxl (T : qk_T) := T.2.2.2.2.1
abbrev qk_ty (T : qk_T) := T.2.2.2.2.2.1
abbrev qk_nf (T : qk_T) := T.2.2.2.2.2.2
def qk_wf (N : Nat) : qm_V → Bool
  | some (.inr (.inr c)) => Nat.blt c N || Nat.beq c 999
  | _ => true
def qk_wfE (N : Nat) : qk_E → Bool
  | .inl (_, fs) => fs.all (qk_wf N)
  | .inr _ => true
def qk_wfs (ls st : List qm_V) (G : List qk_E) : Bool := ls.all (qk_wf G.length) && (st.all (qk_wf G.length) && (G.all (qk_wfE G.length) && Nat.blt G.length 999))
def qk_def : FieldType → Option qm_V
  | .int => some (some (.inl 0))
  | .boolean => some (some (.inl 0))
  | .long => some (some (.inr (.inl 0)))
  | .object _ => some none
  | .array _ => some none
  | _ => none
def qk_dfl (ty : Nat → FieldType) (n : Nat) : List qm_V := (List.range n).map fun j => (qk_def (ty j)).getD none
def qk_fit : FieldType → qm_V → Bool
  | .int, some (.inl _) => true
  | .long, some (.inr (.inl _)) => true
  | .boolean, some (.inl z) => decide (z = 0) || decide (z = 1)
  | .object _, some (.inr (.inr _)) => true
  | .array _, some (.inr (.inr _)) => true
  | _, _ => false
def qk_atk : ArrayType → Option Nat
  | .int => some 0
  | .long => some 1
  | .boolean => some 2
  | .char => some 3
  | _ => none
def qk_step (T : qk_T) (k pc : Nat) (ls st : List qm_V) (G : List qk_E) : Instr → qk_O
  | .iconst n => some (.inl (pc + 1, ls, some (.inl n) :: st, G))
  | .bipush n => if -128 ≤ n ∧ n < 128 then some (.inl (pc + 2, ls, some (.inl n) :: st, G)) else none
  | .sipush n => if -32768 ≤ n ∧ n < 32768 then some (.inl (pc + 3, ls, some (.inl n) :: st, G)) else none
  | .aload_n i => match ls[(i : Nat)]? with
    | some (some (.inr (.inr c))) => some (.inl (pc + 1, ls, some (.inr (.inr c)) :: st, G))
    | _ => none
  | .astore_n i => match st with
    | some (.inr (.inr c)) :: r => if (i : Nat) < ls.length then some (.inl (pc + 1, qm_st1 ls i (some (.inr (.inr c))), r, G)) else none
    | _ => none
  | .istore_n i => match st with
    | some (.inl z) :: r => if (i : Nat) < ls.length then some (.inl (pc + 1, qm_st1 ls i (some (.inl z)), r, G)) else none
    | _ => none
  | .dup => match st with
    | some (.inr (.inr c)) :: r => some (.inl (pc + 1, ls, some (.inr (.inr c)) :: some (.inr (.inr c)) :: r, G))
    | _ => none
  | .new i => match qk_ncl T k i with
    | some ci => if qk_wfs ls st G = true ∧ (List.range (qk_nf T ci)).all (fun j => (qk_def (qk_ty T ci j)).isSome) = true then some (.inl (pc + 3, ls, some (.inr (.inr G.length)) :: st, G ++ [.inl (ci, qk_dfl (qk_ty T ci) (qk_nf T ci))])) else none
    | none => none
  | .newarray t => match st, qk_atk t with
    | some (.inl z) :: r, some kd => if qk_wfs ls r G = true ∧ 0 ≤ z ∧ z < 65536 then some (.inl (pc + 2, ls, some (.inr (.inr G.length)) :: r, G ++ [.inr (kd, z.toNat, [])])) else none
    | _, _ => none
  | .putfield i => match st, qk_fld T k i with
    | v :: some (.inr (.inr c)) :: r, some (ci, j) => (match G[c]? with
      | some (.inl (ci', fs)) => if (ci' = ci ∧ j < fs.length) ∧ qk_fit (qk_ty T ci j) v = true then some (.inl (pc + 3, ls, r, G.set c (.inl (ci, fs.set j v)))) else none
      | _ => none)
    | _, _ => none
  | .getfield i => match st, qk_fld T k i with
    | some (.inr (.inr c)) :: r, some (ci, j) => (match G[c]? with
      | some (.inl (ci', fs)) => if ci' = ci then (match fs[j]? with
        | some (some x) => some (.inl (pc + 3, ls, some x :: r, G))
        | _ => none) else none
      | _ => none)
    | _, _ => none
  | .castore => match st with
    | some (.inl z) :: some (.inl i) :: some (.inr (.inr c)) :: r => (match G[c]? with
      | some (.inr (kd, n, w)) => if kd = 3 ∧ (0 ≤ i ∧ i < (n : Int)) ∧ n < 65536 ∧ 0 ≤ z ∧ z < 128 then some (.inl (pc + 1, ls, r, G.set c (.inr (3, n, (i.toNat, z) :: w)))) else none
      | _ => none)
    | _ => none
  | .invokespecial i => match qk_isp T k i with
    | some (k', n) => if n + 1 ≤ st.length ∧ qm_cat (st.drop (n + 1)) ≤ 8 ∧ qk_wfs ls st G = true then (match (st.take (n + 1)).reverse with
      | some (.inr (.inr c)) :: as => some (.inr (k', some (.inr (.inr c)) :: as, st.drop (n + 1)))
      | _ => none) else none
    | none => none
  | _ => none
def qk_stop (i : Option Instr) : Bool := match i with
  | none => true
  | some .return_ => true
  | _ => false
def qk_run (T : qk_T) : Nat → Nat → Nat → Nat → List qm_V → List qm_V → List qk_E → Option qk_C
  | 0, _, _, _, _, _, _ => none
  | n + 1, d, k, pc, ls, st, G => if qk_stop (qk_at T k pc) = true then some (pc, ls, st, G) else match (qk_at T k pc).bind (qk_step T k pc ls st G) with
    | none => none
    | some (.inl (pc', ls', st', G')) => qk_run T n d k pc' ls' st' G'
    | some (.inr (k', as, rest)) =>
      if d = 0 then none
      else if k' = 0 then (if as.length = 1 then qk_run T n d k (pc + 3) ls rest G else none)
      else if (qm_ent as (qk_mxl T k')).length = qk_mxl T k' then (match qk_run T n (d - 1) k' 0 (qm_ent as (qk_mxl T k')) [] G with
        | none => none
        | some (pc', _, st', G') => if qk_at T k' pc' = some .return_ ∧ st' = [] ∧ G.length ≤ G'.length then qk_run T n d k (pc + 3) ls rest G' else none)
      else none
/-- its world in the heap -/
def qk_en (ad : Nat → Nat) (ac : Nat → ClassId) : qk_E → va_E
  | .inl (ci, fs) => .inr (ci, fs.map (qm_cv ad))
  | .inr (t, n, w) => .inl (ac t, n, if t = 1 then .inr (.inl fun i => Int64.ofInt (qk_f w i)) else .inl fun i => Int32.ofInt (qk_f w i))
def qk_ws (ad : Nat → Nat) (ac : Nat → ClassId) (G : List qk_E) : va_W := G.mapIdx fun i e => (ad i, qk_en ad ac e)
def qk_sz (G : List qk_E) : Nat := (G.map fun e => match e with
  | .inl (_, fs) => fs.length
  | .inr (_, n, _) => n).sum
theorem qk_ws_at {ad : Nat → Nat} {ac : Nat → ClassId} {G : List qk_E} {c : Nat} {e : qk_E} (h : G[c]? = some e) : (qk_ws ad ac G)[c]? = some (ad c, qk_en ad ac e) := by
  simp [qk_ws, h]
theorem qk_ws_len {ad : Nat → Nat} {ac : Nat → ClassId} {G : List qk_E} : (qk_ws ad ac G).length = G.length := by simp [qk_ws]
theorem qk_ws_set {ad : Nat → Nat} {ac : Nat → ClassId} {G : List qk_E} {c : Nat} {e : qk_E} : (qk_ws ad ac G).set c (ad c, qk_en ad ac e) = qk_ws ad ac (G.set c e) := by
  apply List.ext_getElem?
  intro i
  simp only [qk_ws, List.getElem?_set, List.getElem?_mapIdx, List.length_mapIdx]
  by_cases hi : c = i
  · subst hi
    by_cases hl : c < G.length
    · simp [hl]
    · simp [hl]
  · simp [hi]
theorem qk_cv_congr {ad ad' : Nat → Nat} {N : Nat} (h : ∀ i, i < N ∨ i = 999 → ad' i = ad i) {v : qm_V} (hw : qk_wf N v = true) : qm_cv ad' v = qm_cv ad v := by
  rcases v with _ | (x | x | c)
  · rfl
  · rfl
  · rfl
  · show Value.ref (ad' c) = Value.ref (ad c)
    have hw : (Nat.blt c N || Nat.beq c 999) = true := hw
    rw [Bool.or_eq_true] at hw
    rw [h c (hw.imp Nat.le_of_ble_eq_true Nat.eq_of_beq_eq_true)]
theorem qk_map_congr {ad ad' : Nat → Nat} {N : Nat} (h : ∀ i, i < N ∨ i = 999 → ad' i = ad i) {l : List qm_V} (hw : l.all (qk_wf N) = true) : l.map (qm_cv ad') = l.map (qm_cv ad) :=
  List.map_congr_left fun v hv => qk_cv_congr h (List.all_eq_true.mp hw v hv)
theorem qk_en_congr {ad ad' : Nat → Nat} {ac : Nat → ClassId} {N : Nat} (h : ∀ i, i < N ∨ i = 999 → ad' i = ad i) {e : qk_E} (hw : qk_wfE N e = true) : qk_en ad' ac e = qk_en ad ac e := by
  rcases e with ⟨ci, fs⟩ | ⟨t, n, w⟩
  · show Sum.inr (ci, fs.map (qm_cv ad')) = Sum.inr (ci, fs.map (qm_cv ad))
    rw [qk_map_congr h hw]
  · rfl
theorem qk_ws_congr {ad ad' : Nat → Nat} {ac : Nat → ClassId} {G : List qk_E} (h : ∀ i, i < G.length ∨ i = 999 → ad' i = ad i) (hw : G.all (qk_wfE G.length) = true) : qk_ws ad' ac G = qk_ws ad ac G := by
  apply List.ext_getElem?
  intro i
  simp only [qk_ws, List.getElem?_mapIdx]
  cases hi : G[i]? with
  | none => rfl
  | some e =>
    have hl := (List.getElem?_eq_some_iff.mp hi).1
    simp only [Option.map_some]
    rw [h i (Or.inl hl), qk_en_congr h (List.all_eq_true.mp hw e (List.mem_of_getElem? hi))]
theorem qk_ws_push {ad : Nat → Nat} {ac : Nat → ClassId} {G : List qk_E} {e : qk_E} : qk_ws ad ac (G ++ [e]) = qk_ws ad ac G ++ [(ad G.length, qk_en ad ac e)] := by
  simp [qk_ws]
theorem qk_LH_congr {ad ad' : Nat → Nat} {N nL : Nat} {lsA : Array Slot} {L : List qm_V} (h : ∀ i, i < N ∨ i = 999 → ad' i = ad i) (hw : L.all (qk_wf N) = true) (hL : qm_LH ad lsA nL L) : qm_LH ad' lsA nL L :=
  ⟨hL.1, hL.2.1, hL.2.2.1, fun i x hx => by rw [qk_cv_congr h (List.all_eq_true.mp hw _ (List.mem_of_getElem? hx))]; exact hL.2.2.2 i x hx⟩
theorem qk_sz_push {G : List qk_E} {e : qk_E} : qk_sz (G ++ [e]) = qk_sz G + (match e with
  | .inl (_, fs) => fs.length
  | .inr (_, n, _) => n) := by simp [qk_sz]
theorem qk_fit_ok {ad : Nat → Nat} {ty : FieldType} {v : qm_V} (h : qk_fit ty v = true) : narrow ty (qm_cv ad v) = qm_cv ad v ∧ fits ty (qm_cv ad v) = true := by
  unfold qk_fit at h
  split at h
  · exact ⟨rfl, rfl⟩
  · exact ⟨rfl, rfl⟩
  · next z =>
    have hz : z = 0 ∨ z = 1 := by simpa using h
    exact ⟨(qm_nar01 hz).1, (qm_nar01 hz).2.1⟩
  · exact ⟨rfl, rfl⟩
  · exact ⟨rfl, rfl⟩
  · cases h
theorem qk_def_ok {ad : Nat → Nat} {ty : FieldType} (h : (qk_def ty).isSome = true) : defaultValue ty = qm_cv ad ((qk_def ty).getD none) := by
  cases ty <;> first | rfl | cases h
def qk_len : Instr → Nat
  | .bipush _ => 2
  | .sipush _ => 3
  | .new _ => 3
  | .newarray _ => 2
  | .putfield _ => 3
  | .getfield _ => 3
  | .invokespecial _ => 3
  | _ => 1
abbrev qk_NS : Type := List (String × Nat × MethodName × String)
def qk_Nw (NS : qk_NS) (U : State) : Prop := ∀ q ∈ NS, va_Nw (.methodLinkNest q.1 q.2.1 q.2.2.1 q.2.2.2) U
theorem qk_Nw.warm {NS : qk_NS} {s U : State} (hW : s.WarmedH U.vm) (h : qk_Nw NS s) : qk_Nw NS U := fun q hq => va_Nw.warmM hW (h q hq)
theorem qk_Nw.same {NS : qk_NS} {u U : State} (hv : u.vm = U.vm) (h : qk_Nw NS u) : qk_Nw NS U := fun q hq => va_Nw.same rfl hv (h q hq)
def qk_vAt (T : qk_T) (bs : Nat → ByteArray) : Prop := ∀ k pc i, qk_at T k pc = some i → ∃ len, decode (bs k) pc = .ok (i, len) ∧ len = qk_len i
def qk_vNcl (T : qk_T) (ow : Nat → String) (cl : List vw_C) (TB : List Jvm.Cond) : Prop := ∀ k i ci, qk_ncl T k i = some ci → ∃ (C : String) (F : u_T), cl[ci]? = some (C, F, qk_nf T ci) ∧ (∀ w ∈ u_ws C F (qk_nf T ci), w ∈ TB) ∧ (∀ a, a < qk_nf T ci → parseFieldDescriptor (F a).2.2.1 = some (qk_ty T ci a)) ∧ Jvm.Cond.classLink (ow k) i C ∈ TB ∧ Jvm.Cond.instantiable C (qk_nf T ci) ∈ TB ∧ Jvm.Cond.initialized C ∈ TB
def qk_vFld (T : qk_T) (ow : Nat → String) (cl : List vw_C) (TB : List Jvm.Cond) : Prop := ∀ k i ci j, qk_fld T k i = some (ci, j) → ∃ (C : String) (F : u_T) (n : Nat), cl[ci]? = some (C, F, n) ∧ j < n ∧ Jvm.Cond.fieldLink (ow k) i (F j).1 (F j).2.1 (F j).2.2.1 ∈ TB ∧ (∀ w ∈ u_ws C F n, w ∈ TB) ∧ (∀ a, a < n → parseFieldDescriptor (F a).2.2.1 = some (qk_ty T ci a)) ∧ (∀ a, a < n → ∀ b, b < n → a ≠ b → (F a).2.1 ≠ (F b).2.1) ∧ ((F j).2.2.2 = true → (F j).1 = ow k)
def qk_vArr (TB : List Jvm.Cond) : Prop := ∀ t kd, qk_atk t = some kd → Jvm.Cond.arrayClass (newarray.typeOf t) ∈ TB
def qk_vIsp (T : qk_T) (bs : Nat → ByteArray) (ow : Nat → String) (nm : Nat → MethodName) (TB : List Jvm.Cond) (NS : qk_NS) : Prop := ∀ k i k' n, qk_isp T k i = some (k', n) →
  (k' = 0 → Jvm.Cond.methodLink (ow k) i Lib.objectInit ∈ TB ∧ Jvm.Cond.instanceMethod Lib.objectInit ∈ TB ∧ Jvm.Cond.code Lib.objectInit ⟨#[0xb1]⟩ 1 none ∈ TB) ∧
  (k' ≠ 0 → Jvm.Cond.code (nm k') (bs k') (qk_mxl T k') none ∈ TB ∧ Jvm.Cond.initialized (nm k').cls ∈ TB ∧ ((nm k').cls ≠ "java/lang/invoke/MethodHandle" ∧ (nm k').cls ≠ "java/lang/invoke/VarHandle") ∧ Jvm.Cond.instanceMethod (nm k') ∈ TB ∧ (nm k').name = "<init>" ∧ plainFor (nm k') = true ∧ ow k' = (nm k').cls ∧ (parseMethodDescriptor (nm k').desc).map (fun d => d.parameters.length) = some n ∧ qk_mxl T k' ≤ 30 ∧
    (Jvm.Cond.methodLink (ow k) i (nm k') ∈ TB ∨ ∃ host, (ow k, i, nm k', host) ∈ NS))
def qk_PcB (ow : Nat → String) (cl : List vw_C) (NS : qk_NS) (ad : Nat → Nat) (ac : Nat → ClassId) (D : va_G) (G : List qk_E) (sz : Nat) (U : State) : Prop :=
  U.heap.size = sz ∧ va_P D cl (qk_ws ad ac G) U.heap ∧ va_K D cl (qm_tys ac) U ∧ va_D (fun _ => True) (qk_ws ad ac G) ∧ qk_Nw NS U
def qk_Qc (cl : List vw_C) (ad : Nat → Nat) (ac : Nat → ClassId) (D : va_G) (G G' : List qk_E) (sz : Nat) : Array Value → State → Outcome → State → Prop := fun _ st oc t =>
  oc = .returned none ∧ (∃ ad' : Nat → Nat, (∀ i, i < G.length ∨ i = 999 → ad' i = ad i) ∧ va_P D cl (qk_ws ad' ac G') t.heap ∧ va_D (va_A (qk_ws ad ac G) sz) (qk_ws ad' ac G')) ∧ va_F (va_A (qk_ws ad ac G) sz) st t
theorem qk_blind {ow : Nat → String} {cl : List vw_C} {NS : qk_NS} {ad : Nat → Nat} {ac : Nat → ClassId} {D : va_G} {G : List qk_E} {sz : Nat} {As : List Value} : FrameBlind (va_Pc As (qk_PcB ow cl NS ad ac D G sz)) := by
  intro a U g mk h
  obtain ⟨h1, h2, h3, h4, h5, h6⟩ := h
  exact ⟨h1, h2, h3, va_K.moved (u := U) (U := U.calling g mk a) (Vm.Alike.refl U.vm) h4, h5, qk_Nw.same (u := U) (U := U.calling g mk a) rfl h6⟩
section QKC
variable {p : Program} {l : Launch} {e : Env} {R : Room} {s : State} {m : MethodId} {args : Array Value} {below : List Frame} {meth : Method} {c : Code} {H : Heap} {locs : List Loc} {cells slots mc ms : Nat} {Q : State → Prop}
theorem qk_callg {cl : List vw_C} {ad : Nat → Nat} {ac : Nat → ClassId} {D : va_G} {G G' : List qk_E} {pc : Nat} {ls : Array Slot} {rest st0 : List Value} {a : Array Value} {A : Nat → Prop} {H0 : Heap} (hr : va_Run p l e R s m args below meth c H locs cells slots mc ms (F0 m pc ls st0) rest (qk_Qc cl ad ac D G G' H.size a) (va_A (qk_ws ad ac G) H.size)) (hS : va_S A H0 H locs) (hA : ∀ q, va_A (qk_ws ad ac G) H.size q → A q)
    (kk : ∀ (ad' : Nat → Nat) (H1 : Heap) (locs1 : List Loc), (∀ i, i < G.length ∨ i = 999 → ad' i = ad i) → va_P D cl (qk_ws ad' ac G') H1 → va_D A (qk_ws ad' ac G') → va_S A H0 H1 locs1 → W p l e R s m args below meth c H1 locs1 (cells + mc) (slots + ms) Q (F0 m (pc + 3) ls rest)) : W p l e R s m args below meth c H locs cells slots Q (F0 m pc ls st0) := by
  intro T0 hT X
  obtain ⟨v', st₀, t, T', L, h0, X', hL, e1, e2, ⟨hv, ⟨ad', ha, hp, hd⟩, hz, hk⟩, st⟩ := hr T0 hT X
  cases hv
  rw [h0] at hz hk
  obtain ⟨t2, a1, b1⟩ := kk ad' T'.heap (locs ++ L) ha (by rw [e1]; exact hp) (hd.weaken fun _ q _ h => hA q.1 h)
    ⟨Nat.le_trans hS.1 (by rw [e1]; exact hz), fun q h1 h2 => by rw [e1, hk q (Nat.lt_of_lt_of_le h1 hS.1) (fun z => h2 (hA q z))]; exact hS.2.1 q h1 h2, fun q hq => by
      rcases List.mem_append.mp hq with h | h
      · exact hS.2.2 q h
      · exact hA _ (hL q h)⟩ T' rfl X'
  exact ⟨t2, st t2 a1, b1⟩
end QKC
theorem qk_if {α : Type} {c : Prop} [Decidable c] {x : Option α} {o} (h : (if c then x else none) = some o) : c ∧ x = some o := by
  by_cases hc : c
  · rw [if_pos hc] at h; exact ⟨hc, h⟩
  · rw [if_neg hc] at h; cases h
/-- worlds only grow -/
theorem qk_step_le {T : qk_T} {k pc : Nat} {ls st : List qm_V} {G : List qk_E} {i : Instr} {pc' : Nat} {ls' st' : List qm_V} {G' : List qk_E} (h : qk_step T k pc ls st G i = some (.inl (pc', ls', st', G'))) : G.length ≤ G'.length ∧ qk_sz G ≤ qk_sz G' := by
  have hset : ∀ (c : Nat) (e e' : qk_E), G[c]? = some e → (match e with | .inl (_, fs) => fs.length | .inr (_, n, _) => n) = (match e' with | .inl (_, fs) => fs.length | .inr (_, n, _) => n) → G.length ≤ (G.set c e').length ∧ qk_sz G ≤ qk_sz (G.set c e') := by
    intro c e e' h1 h2
    refine ⟨by simp, ?_⟩
    have key : (G.set c e').map (fun e => match e with | .inl (_, fs) => fs.length | .inr (_, n, _) => n) = G.map (fun e => match e with | .inl (_, fs) => fs.length | .inr (_, n, _) => n) := by
      apply List.ext_getElem?
      intro i
      rw [List.getElem?_map, List.getElem?_map, List.getElem?_set]
      by_cases hi : c = i
      · subst hi
        have hl := (List.getElem?_eq_some_iff.mp h1).1
        rw [if_pos rfl, if_pos hl, h1]
        simp only [Option.map_some]
        exact congrArg some h2.symm
      · rw [if_neg hi]
    unfold qk_sz
    rw [key]
    exact Nat.le_refl _
  cases i with
  | new n =>
    simp only [qk_step] at h
    split at h
    · obtain ⟨-, h⟩ := qk_if h
      cases h
      exact ⟨by simp, by rw [qk_sz_push]; omega⟩
    · cases h
  | newarray t =>
    simp only [qk_step] at h
    split at h
    · obtain ⟨-, h⟩ := qk_if h
      cases h
      exact ⟨by simp, by rw [qk_sz_push]; omega⟩
    · cases h
  | putfield n =>
    simp only [qk_step] at h
    split at h
    · split at h
      next ci' fs hg =>
        obtain ⟨⟨⟨h1, -⟩, -⟩, h2⟩ := qk_if h
        cases h2
        subst h1
        exact hset _ _ _ hg (by simp)
      next => cases h
    · cases h
  | castore =>
    simp only [qk_step] at h
    split at h
    · split at h
      next kd n w hg =>
        obtain ⟨⟨h1, -⟩, h2⟩ := qk_if h
        cases h2
        subst h1
        exact hset _ _ _ hg rfl
      next => cases h
    · cases h
  | invokespecial n =>
    simp only [qk_step] at h
    repeat' split at h
    all_goals cases h
  | _ =>
    simp only [qk_step] at h
    repeat' split at h
    all_goals first | (cases h; exact ⟨Nat.le_refl _, Nat.le_refl _⟩) | cases h
