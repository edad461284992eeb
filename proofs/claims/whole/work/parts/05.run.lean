/-! ===== a run of the small machine is a run of the machine ===== -/
def qm_rv (ad : Nat → Nat) (v : qm_V) : Option Value := match v with
  | none => none
  | some x => some (qm_cv ad (some x))
def qm_PcB (T : qm_T) (ow : Nat → String) (cl : List vw_C) (N : Nat) (ad : Nat → Nat) (ac : Nat → ClassId) (D : va_G) (ξ : Nat → Int) (μ : qm_M) (U : State) : Prop :=
  va_P D cl (qm_ws ad ac (qm_sh T) N μ) U.heap ∧ va_K D cl (qm_tys ac) U ∧ qm_Ex T ow ad ξ (qm_Ac ad N) U U.heap
def qm_Qc (T : qm_T) (cl : List vw_C) (N : Nat) (ad : Nat → Nat) (ac : Nat → ClassId) (D : va_G) (ξ : Nat → Int) (v : qm_V) (μ : qm_M) : Array Value → State → Outcome → State → Prop := fun _ st oc t =>
  oc = .returned (qm_rv ad v) ∧ (va_P D cl (qm_ws ad ac (qm_sh T) N μ) t.heap ∧ μ 999 = ξ) ∧ va_F (qm_Ac ad N) st t
theorem qm_blind {T : qm_T} {ow : Nat → String} {cl : List vw_C} {N : Nat} {ad : Nat → Nat} {ac : Nat → ClassId} {D : va_G} {ξ : Nat → Int} {μ : qm_M} {As : List Value} : FrameBlind (va_Pc As (qm_PcB T ow cl N ad ac D ξ μ)) := by
  intro a U g mk h
  obtain ⟨h1, h2, h3, h4⟩ := h
  exact ⟨h1, h2, va_K.moved (u := U) (U := U.calling g mk a) (Vm.Alike.refl U.vm) h3, qm_Ex.same (u := U) (U := U.calling g mk a) rfl h4⟩
/-- where a run ends: at an instruction that returns -/
def qm_isR (T : qm_T) (k pc : Nat) (st : List qm_V) (v : qm_V) : Prop :=
  (∃ z, qm_at T k pc = some .ireturn ∧ st = [some (.inl z)] ∧ v = some (.inl z) ∧ (qm_rt T k = 1 ∨ (qm_rt T k = 2 ∧ (z = 0 ∨ z = 1)))) ∨
  (∃ z, qm_at T k pc = some .lreturn ∧ st = [some (.inr (.inl z))] ∧ v = some (.inr (.inl z)) ∧ qm_rt T k = 3) ∨
  (qm_at T k pc = some .return_ ∧ st = [] ∧ v = none ∧ qm_rt T k = 0)
theorem qm_if2 {α : Type} {c : Prop} [Decidable c] {x : Option α} {o} (h : (if c then x else none) = some o) : c ∧ x = some o := by
  by_cases hc : c
  · rw [if_pos hc] at h; exact ⟨hc, h⟩
  · rw [if_neg hc] at h; cases h
theorem qm_nr {a : Nat} {b c : List qm_V} {d : qm_M} {v : qm_V} (h : qm_nx a b c d = some (.inr (.inl v))) : False := by cases h
/-- a step that returns -/
theorem qm_step_ret {T : qm_T} {k pc : Nat} {ls st : List qm_V} {μ : qm_M} {i : Instr} {v : qm_V} (hi : qm_at T k pc = some i) (hs : qm_step T k pc ls st μ i = some (.inr (.inl v))) : qm_isR T k pc st v := by
  cases i with
  | ireturn =>
    simp only [qm_step] at hs
    split at hs
    · obtain ⟨h1, h2⟩ := qm_if2 hs
      cases h2
      exact Or.inl ⟨_, hi, rfl, rfl, h1⟩
    · cases hs
  | lreturn =>
    simp only [qm_step] at hs
    split at hs
    · obtain ⟨h1, h2⟩ := qm_if2 hs
      cases h2
      exact Or.inr (Or.inl ⟨_, hi, rfl, rfl, h1⟩)
    · cases hs
  | return_ =>
    simp only [qm_step] at hs
    split at hs
    · obtain ⟨h1, h2⟩ := qm_if2 hs
      cases h2
      exact Or.inr (Or.inr ⟨hi, rfl, rfl, h1⟩)
    · cases hs
  | invokevirtual n =>
    exfalso
    have hs : qm_call _ _ _ _ = _ := hs
    unfold qm_call at hs
    repeat' split at hs
    all_goals first | cases hs | (split at hs <;> cases hs)
  | invokestatic n =>
    exfalso
    have hs : qm_call _ _ _ _ = _ := hs
    unfold qm_call at hs
    repeat' split at hs
    all_goals first | cases hs | (split at hs <;> cases hs)
  | _ =>
    exfalso
    simp only [qm_step, qm_i1, qm_i2, qm_l1, qm_l2, qm_li, qm_p1, qm_pi, qm_pv, qm_po, qm_ldI, qm_ldL, qm_ldP, qm_arr, qm_obj, qm_cst1, qm_jmp, qm_astv, qm_nx] at hs
    repeat' split at hs
    all_goals cases hs
/-- a step that calls -/
theorem qm_step_call {T : qm_T} {k pc : Nat} {ls st : List qm_V} {μ : qm_M} {i : Instr} {k' : Nat} {as rest : List qm_V} (hs : qm_step T k pc ls st μ i = some (.inr (.inr (k', as, rest)))) : ∃ (n : Nat) (nn : Nat) (o : Option Nat), qm_inv T k n = some (k', nn, o) ∧ st = as.reverse ++ rest ∧ as.length = nn ∧ qm_cat rest ≤ 8 ∧ ((i = .invokevirtual n ∧ ((o = none ∧ 100010 ≤ k') ∨ ∃ ci c fl as', o = some ci ∧ as = some (.inr (.inr c)) :: as' ∧ qm_sh T c = some (.inl (ci, fl)))) ∨ (i = .invokestatic n ∧ o = none ∧ k' < 100010)) := by
  cases i with
  | invokevirtual n =>
    have hs : qm_call _ _ _ _ = _ := hs
    unfold qm_call at hs
    split at hs
    next k1 n1 o1 hv =>
      obtain ⟨⟨h1, h2⟩, hs⟩ := qm_if2 hs
      have hst : st = (st.take n1).reverse.reverse ++ st.drop n1 := by rw [List.reverse_reverse, List.take_append_drop]
      have hln : (st.take n1).reverse.length = n1 := by rw [List.length_reverse, List.length_take]; omega
      cases o1 with
      | none =>
        obtain ⟨h3, hs2⟩ := qm_if2 (show (if 100010 ≤ k1 then (some (.inr (.inr (k1, (st.take n1).reverse, st.drop n1))) : qm_O) else none) = _ from hs)
        cases hs2
        exact ⟨n, n1, none, hv, hst, hln, h2, Or.inl ⟨rfl, Or.inl ⟨rfl, h3⟩⟩⟩
      | some ci =>
        cases hh : (st.take n1).reverse with
        | nil => rw [hh] at hs; cases hs
        | cons a as' =>
          rw [hh] at hs hst hln
          rcases a with _ | (x | x | c)
          · cases hs
          · cases hs
          · cases hs
          · have hs3 : (match qm_sh T c with
              | some (.inl (ci', _)) => if ci = ci' then (some (.inr (.inr (k1, some (.inr (.inr c)) :: as', st.drop n1))) : qm_O) else none
              | _ => none) = some (.inr (.inr (k', as, rest))) := hs
            split at hs3
            next ci' fl hsh =>
              obtain ⟨h3, hs2⟩ := qm_if2 hs3
              subst h3
              cases hs2
              exact ⟨n, n1, _, hv, hst, hln, h2, Or.inl ⟨rfl, Or.inr ⟨_, _, _, _, rfl, rfl, hsh⟩⟩⟩
            next => cases hs3
    next => cases hs
  | invokestatic n =>
    have hs : qm_call _ _ _ _ = _ := hs
    unfold qm_call at hs
    split at hs
    next k1 n1 o1 hv =>
      obtain ⟨⟨h1, h2⟩, hs⟩ := qm_if2 hs
      have hst : st = (st.take n1).reverse.reverse ++ st.drop n1 := by rw [List.reverse_reverse, List.take_append_drop]
      have hln : (st.take n1).reverse.length = n1 := by rw [List.length_reverse, List.length_take]; omega
      cases o1 with
      | none =>
        obtain ⟨h3, hs2⟩ := qm_if2 (show (if k1 < 100010 then (some (.inr (.inr (k1, (st.take n1).reverse, st.drop n1))) : qm_O) else none) = _ from hs)
        cases hs2
        exact ⟨n, n1, none, hv, hst, hln, h2, Or.inr ⟨rfl, rfl, h3⟩⟩
      | some ci => cases hs
    next => cases hs
  | _ =>
    exfalso
    simp only [qm_step, qm_i1, qm_i2, qm_l1, qm_l2, qm_li, qm_p1, qm_pi, qm_pv, qm_po, qm_ldI, qm_ldL, qm_ldP, qm_arr, qm_obj, qm_cst1, qm_jmp, qm_astv, qm_nx] at hs
    repeat' split at hs
    all_goals cases hs
section QRN
variable {p : Program} {l : Launch} {e : Env} {R : Room} {s : State} {m : MethodId} {args : Array Value} {below : List Frame} {meth : Method} {c : Code} {H : Heap} {locs : List Loc} {cells slots : Nat} {Q : State → Prop}
variable {T : qm_T} {bs : Nat → ByteArray} {ow : Nat → String} {nm : Nat → MethodName} {cl : List vw_C} {TB : List Jvm.Cond} {N : Nat} {ad : Nat → Nat} {ac : Nat → ClassId} {D : va_G} {ξ : Nat → Int} {A : Nat → Prop} {H0 : Heap}
theorem qm_callg {v : qm_V} {μ' : qm_M} {pc : Nat} {ls : Array Slot} {rest st0 : List Value} {a : Array Value} (hr : va_Run p l e R s m args below meth c H locs cells slots 0 0 (F0 m pc ls st0) rest (qm_Qc T cl N ad ac D ξ v μ' a) (qm_Ac ad N)) (hS : va_S A H0 H locs) (hA : ∀ q, qm_Ac ad N q → A q)
    (kk : ∀ (H1 : Heap) (locs1 : List Loc), μ' 999 = ξ → va_P D cl (qm_ws ad ac (qm_sh T) N μ') H1 → va_S A H0 H1 locs1 → W p l e R s m args below meth c H1 locs1 cells slots Q (F0 m (pc + 3) ls ((qm_rv ad v).toList ++ rest))) : W p l e R s m args below meth c H locs cells slots Q (F0 m pc ls st0) := by
  intro T0 hT X
  obtain ⟨v', st₀, t, T', L, h0, X', hL, e1, e2, ⟨hv, ⟨hp, h9⟩, hz, hk⟩, st⟩ := hr T0 hT X
  cases hv
  rw [h0] at hz hk
  obtain ⟨t2, a1, b1⟩ := kk T'.heap (locs ++ L) h9 (by rw [e1]; exact hp)
    ⟨Nat.le_trans hS.1 (by rw [e1]; exact hz), fun q h1 h2 => by rw [e1, hk q (Nat.lt_of_lt_of_le h1 hS.1) (fun z => h2 (hA q z))]; exact hS.2.1 q h1 h2, fun q hq => by
      rcases List.mem_append.mp hq with h | h
      · exact hS.2.2 q h
      · exact hA _ (hL q h)⟩ T' rfl X'
  exact ⟨t2, st t2 a1, b1⟩
end QRN
/-- a contract from the body's walk, also for those of the JDK's methods that no native stands for -/
theorem qm_ofW {l : Launch} {y : MethodName} {ws ws' : List Jvm.Cond} {rm : Room} {Pc : Array Value → State → Prop} {Qc : Array Value → State → Outcome → State → Prop} {mc ms : Nat} {free : Addr → Prop} {cc : ByteArray} {maxL : Nat} {ret : Option FieldType}
    (hy : plainFor y = true) (hw : ws = Jvm.Cond.code y cc maxL ret :: ws')
    (walk : ∀ p e s m args below meth c s₁, BodyLoose p l y (headSpec ws rm) cc maxL ret e s m args below meth c s₁ → c.maxLocals = maxL → Pc args s → W p l e (headSpec ws rm).room s m args below meth c s.heap [] 0 0 (MQ below Qc args s mc ms free) (entryFrame m args maxL)) : Met l y ws rm Pc Qc mc ms free := by
  refine MetFree.of_bodySF (code := cc) (maxLocals := maxL) (ret := ret) hy (fun args s m h hn => ?_) (fun p e s m args below meth c s₁ B hml hP _ => ?_)
  · obtain ⟨meth, c, h1, h2, h3, h4, h5, h6, -⟩ := Jvm.Cond.code_spec hn (atoms_spec (ws := ws) h _ (by rw [hw]; exact List.mem_cons_self))
    exact ⟨meth, c, h1, h2, h3, h4, h5, h6⟩
  · obtain ⟨t, a1, o, b1, b2, b3, b4⟩ := walk p e s m args below meth c s₁ B hml hP s₁ (by rw [B.state]; rfl) (Stand.of_body B)
    exact ⟨t, o, a1, b1, b2, b3, b4⟩
def qm_vNone (T : qm_T) : Prop := ∀ k i k' n o, qm_inv T k i = some (k', n, o) → 100000 ≤ k' → o = none
/-- the library's own, as rows -/
def qm_vIntr (T : qm_T) (bs : Nat → ByteArray) (ow : Nat → String) (cl : List vw_C) (TB : List Jvm.Cond) (N : Nat) (ad : Nat → Nat) (ac : Nat → ClassId) (D : va_G) (ξ : Nat → Int) : Prop :=
  ∀ (p : Program) (l : Launch) (e : Env) (R : Room) (s : State) (m : MethodId) (args : Array Value) (below : List Frame) (meth : Method) (c : Code) (H : Heap) (locs : List Loc) (cells slots : Nat) (Q : State → Prop) (A : Nat → Prop) (H0 : Heap) (k pc idx : Nat) (lsA : Array Slot) (k' nn : Nat) (as rest : List qm_V) (v : qm_V),
  qm_Fr T bs ow cl TB ad ac D ξ p s m args c k A H0 → 4 ≤ R.frames → 100 ≤ R.locals → cells ≤ R.cells → slots ≤ R.slots → lsA.size = qm_mxl T k → va_S A H0 H locs → (∀ q, qm_Ac ad N q → A q) → qm_inv T k idx = some (k', nn, none) → 100000 ≤ k' → as.length = nn → qm_cat rest ≤ 8 →
  ((decode (bs k) pc = .ok (.invokevirtual idx, 3) ∧ 100010 ≤ k') ∨ (decode (bs k) pc = .ok (.invokestatic idx, 3) ∧ k' < 100010)) → qm_intr T k' as = some v →
  W p l e R s m args below meth c H locs cells slots Q (F0 m (pc + 3) lsA ((v :: rest).map (qm_cv ad))) → W p l e R s m args below meth c H locs cells slots Q (F0 m pc lsA ((as.reverse ++ rest).map (qm_cv ad)))
set_option maxHeartbeats 4000000 in
theorem qm_go {T : qm_T} {bs : Nat → ByteArray} {ow : Nat → String} {nm : Nat → MethodName} {cl : List vw_C} {TB : List Jvm.Cond} {N : Nat} {ad : Nat → Nat} {ac : Nat → ClassId} {D : va_G} {ξ : Nat → Int}
    (vAt : qm_vAt T bs) (vSh : qm_vSh T N) (vFld : qm_vFld T ow cl TB) (vInv : qm_vInv T bs ow nm cl TB) (vNone : qm_vNone T) (vCst : qm_vCst T ow TB) (vIntr : qm_vIntr T bs ow cl TB N ad ac D ξ) (hgood : ∀ w ∈ TB, goodWord w = true) (hinj : ∀ i j, i < N → j < N → ad i = ad j → i = j) :
    ∀ (n d k pc : Nat) (ls st : List qm_V) (μ : qm_M) (v : qm_V) (μ' : qm_M), qm_run T n d k pc ls st μ = some (v, μ') →
    ∀ (p : Program) (l : Launch) (e : Env) (R : Room) (s : State) (m : MethodId) (args : Array Value) (below : List Frame) (meth : Method) (c : Code) (H : Heap) (locs : List Loc) (cells slots : Nat) (Q : State → Prop) (A : Nat → Prop) (H0 : Heap) (lsA : Array Slot),
    qm_Fr T bs ow cl TB ad ac D ξ p s m args c k A H0 → 4 * d ≤ R.frames → 100 * d ≤ R.locals → cells ≤ R.cells → slots ≤ R.slots → μ 999 = ξ → va_P D cl (qm_ws ad ac (qm_sh T) N μ) H → va_S A H0 H locs → (∀ q, qm_Ac ad N q → A q) → qm_LH ad lsA (qm_mxl T k) ls →
    (∀ (H' : Heap) (locs' : List Loc) (pcr : Nat) (lsr : Array Slot) (st' : List qm_V), μ' 999 = ξ → va_P D cl (qm_ws ad ac (qm_sh T) N μ') H' → va_S A H0 H' locs' → qm_isR T k pcr st' v → W p l e R s m args below meth c H' locs' cells slots Q (F0 m pcr lsr (st'.map (qm_cv ad)))) →
    W p l e R s m args below meth c H locs cells slots Q (F0 m pc lsA (st.map (qm_cv ad))) := by
  intro n
  induction n with
  | zero => intro d k pc ls st μ v μ' h; cases h
  | succ n ih =>
    intro d k pc ls st μ v μ' hrun p l e R s m args below meth c H locs cells slots Q A H0 lsA hF hfr hlo hce hsl hξ hP hS hAc hL hret
    rw [qm_run] at hrun
    cases hat : qm_at T k pc with
    | none => rw [hat] at hrun; cases hrun
    | some i =>
      rw [hat, Option.bind_some] at hrun
      cases hst : qm_step T k pc ls st μ i with
      | none => rw [hst] at hrun; cases hrun
      | some o =>
        rw [hst] at hrun
        obtain ⟨len, hd, hlen⟩ := vAt k pc i hat
        rcases o with ⟨pc', ls', st', μ1⟩ | v1 | ⟨k', as, rest⟩
        · exact qm_plain vSh vFld vCst hinj hAc hF hd hlen hst hξ hP hS hL (fun H1 locs1 lsB a1 a2 a3 a4 => ih d k pc' ls' st' μ1 v μ' hrun p l e R s m args below meth c H1 locs1 cells slots Q A H0 lsB hF hfr hlo hce hsl a1 a2 a3 hAc a4 hret)
        · have h1 : some (v1, μ) = some (v, μ') := hrun
          cases h1
          exact hret H locs pc lsA st hξ hP hS (qm_step_ret hat hst)
        · obtain ⟨idx, nn, o, hinv, rfl, hasl, hcat, hkind⟩ := qm_step_call hst
          have hrun2 : (if d = 0 then none else if 100000 ≤ k' then (match qm_intr T k' as with
            | none => none
            | some v => qm_run T n d k (pc + 3) ls (v :: rest) μ)
            else if (qm_ent as (qm_mxl T k')).length = qm_mxl T k' then (match qm_run T n (d - 1) k' 0 (qm_ent as (qm_mxl T k')) [] μ with
            | none => none
            | some (v, μ') => qm_run T n d k (pc + 3) ls (qm_push v rest) μ') else none) = some (v, μ') := hrun
          by_cases hd0 : d = 0
          · rw [if_pos hd0] at hrun2; cases hrun2
          · rw [if_neg hd0] at hrun2
            by_cases hbig : 100000 ≤ k'
            · rw [if_pos hbig] at hrun2
              cases hintr : qm_intr T k' as with
              | none => rw [hintr] at hrun2; cases hrun2
              | some w =>
                rw [hintr] at hrun2
                have go := ih d k (pc + 3) ls (w :: rest) μ v μ' hrun2 p l e R s m args below meth c H locs cells slots Q A H0 lsA hF hfr hlo hce hsl hξ hP hS hAc hL hret
                rcases hkind with ⟨rfl, ⟨rfl, hk⟩ | ⟨ci, cc, fl, as', rfl, rfl, hsh⟩⟩ | ⟨rfl, rfl, hk⟩
                · obtain rfl : len = 3 := hlen.resolve_left (show ¬ (3 : Nat) = 0 by decide)
                  exact vIntr p l e R s m args below meth c H locs cells slots Q A H0 k pc idx lsA k' nn as rest w hF (by omega) (by omega) hce hsl hL.2.1 hS hAc hinv hbig hasl hcat (Or.inl ⟨hd, hk⟩) hintr go
                · cases vNone k idx k' nn _ hinv hbig
                · obtain rfl : len = 3 := hlen.resolve_left (show ¬ (3 : Nat) = 0 by decide)
                  exact vIntr p l e R s m args below meth c H locs cells slots Q A H0 k pc idx lsA k' nn as rest w hF (by omega) (by omega) hce hsl hL.2.1 hS hAc hinv hbig hasl hcat (Or.inr ⟨hd, hk⟩) hintr go
            · rw [if_neg hbig] at hrun2
              obtain ⟨hent, hrun3⟩ := qm_if2 hrun2
              cases hrun4 : qm_run T n (d - 1) k' 0 (qm_ent as (qm_mxl T k')) [] μ with
              | none => rw [hrun4] at hrun3; cases hrun3
              | some q =>
                obtain ⟨v1, μ1⟩ := q
                rw [hrun4] at hrun3
                have hrun5 : qm_run T n d k (pc + 3) ls (qm_push v1 rest) μ1 = some (v, μ') := hrun3
                obtain ⟨g1, g2, g3, g4, g5, g6, g7, g8, g9⟩ := vInv k idx k' nn o hinv (by omega)
                have hG : GoodIn TB (Jvm.Cond.code (nm k') (bs k') (qm_mxl T k') (qm_tyOf (qm_rt T k')) :: TB) := by
                  intro w hw
                  rcases List.mem_cons.mp hw with rfl | hw
                  · exact ⟨g2, good_of_word (hgood _ g2)⟩
                  · exact ⟨hw, good_of_word (hgood _ hw)⟩
                have hM : Met l (nm k') (Jvm.Cond.code (nm k') (bs k') (qm_mxl T k') (qm_tyOf (qm_rt T k')) :: TB) ({ frames := 4 * (d - 1), cells := 0, slots := 0, locals := 100 * (d - 1) }) (va_Pc (as.map (qm_cv ad)) (qm_PcB T ow cl N ad ac D ξ μ)) (qm_Qc T cl N ad ac D ξ v1 μ1) 0 0 (qm_Ac ad N) := by
                  refine qm_ofW (cc := bs k') (maxL := qm_mxl T k') (ret := qm_tyOf (qm_rt T k')) g6 rfl ?_
                  intro p e s m args below meth c s₁ B hml hv
                  obtain ⟨rfl, hP2, hK2, hEx2⟩ := hv
                  have hts2 := atoms_spec (ws := Jvm.Cond.code (nm k') (bs k') (qm_mxl T k') (qm_tyOf (qm_rt T k')) :: TB) B.pre
                  rw [lg_entry_eq]
                  refine ih (d - 1) k' 0 _ [] μ v1 μ1 hrun4 p l e _ s m _ below meth c s.heap [] 0 0 _ (qm_Ac ad N) s.heap _ ⟨B.exec, B.bytes, hml, by rw [g7]; exact findClass_of_methodNamed B.named, fun w hw => hts2 w (List.mem_cons_of_mem _ hw), hK2, hEx2⟩ (Nat.le_refl _) (Nat.le_refl _) (Nat.zero_le _) (Nat.zero_le _) hξ hP2 va_S.rf (fun q h => h) (qm_ent_LH hent) ?_
                  intro H' locs' pcr lsr st' h9 hP' hS' hR
                  rcases hR with ⟨z, r1, rfl, rfl, r2⟩ | ⟨z, r1, rfl, rfl, r2⟩ | ⟨r1, rfl, rfl, r2⟩
                  · obtain ⟨len, hdr, hlr⟩ := vAt k' pcr _ r1
                    obtain rfl : len = 1 := hlr.resolve_left (show ¬ (1 : Nat) = 0 by decide)
                    rcases r2 with r2 | ⟨r2, r3⟩
                    · exact W.iret B.exec B.bytes (by rw [B.returns, r2]; rfl) (fun t ht hW => ⟨rfl, ⟨by rw [ht]; exact hP', h9⟩, hS'.F ht⟩) hS'.2.2 hdr B.notSynchronized
                    · exact W.zret (ty := .boolean) B.exec B.bytes (by rw [B.returns, r2]; rfl) (qm_nar01 r3).1 (fun t ht hW => ⟨rfl, ⟨by rw [ht]; exact hP', h9⟩, hS'.F ht⟩) hS'.2.2 hdr B.notSynchronized
                  · obtain ⟨len, hdr, hlr⟩ := vAt k' pcr _ r1
                    obtain rfl : len = 1 := hlr.resolve_left (show ¬ (1 : Nat) = 0 by decide)
                    exact W.lret B.exec B.bytes (by rw [B.returns, r2]; rfl) (fun t ht hW => ⟨rfl, ⟨by rw [ht]; exact hP', h9⟩, hS'.F ht⟩) hS'.2.2 hdr B.notSynchronized
                  · obtain ⟨len, hdr, hlr⟩ := vAt k' pcr _ r1
                    obtain rfl : len = 1 := hlr.resolve_left (show ¬ (1 : Nat) = 0 by decide)
                    exact W.vret B.exec B.bytes (by rw [B.returns, r2]; rfl) (fun t ht hW => ⟨rfl, ⟨by rw [ht]; exact hP', h9⟩, hS'.F ht⟩) hS'.2.2 hdr B.notSynchronized
                have hF2 := hF
                obtain ⟨hx, hb, hml, hown, hts, hK, hEx⟩ := hF2
                have hpre : ∀ U : State, U.heap = H → s.WarmedH U.vm → va_Pc (as.map (qm_cv ad)) (qm_PcB T ow cl N ad ac D ξ μ) (as.map (qm_cv ad)).toArray U := fun U hU hW => ⟨rfl, by rw [hU]; exact hP, va_K.moved hW.alike hK, by rw [hU]; exact qm_Ex.warm hW hS.1 hS.2.1 hAc hEx⟩
                have kont : ∀ (H1 : Heap) (locs1 : List Loc), μ1 999 = ξ → va_P D cl (qm_ws ad ac (qm_sh T) N μ1) H1 → va_S A H0 H1 locs1 → W p l e R s m args below meth c H1 locs1 cells slots Q (F0 m (pc + 3) lsA ((qm_rv ad v1).toList ++ rest.map (qm_cv ad))) := by
                  intro H1 locs1 a1 a2 a3
                  have go := ih d k (pc + 3) ls (qm_push v1 rest) μ1 v μ' hrun5 p l e R s m args below meth c H1 locs1 cells slots Q A H0 lsA hF hfr hlo hce hsl a1 a2 a3 hAc hL hret
                  have e1 : (qm_push v1 rest).map (qm_cv ad) = (qm_rv ad v1).toList ++ rest.map (qm_cv ad) := by cases v1 <;> rfl
                  rw [e1] at go
                  exact go
                have hroom : 4 * (d - 1) + 1 ≤ R.frames ∧ 8 + (qm_mxl T k' + 11) + 100 * (d - 1) ≤ R.locals := ⟨by omega, by omega⟩
                have hcr : 2 * (F0 m pc lsA ((as.reverse ++ rest).map (qm_cv ad))).monitorRoom + ((rest.map (qm_cv ad)).map fun v => v.category).sum ≤ 8 := lv_room (by rw [qm_catSum]; exact hcat)
                rcases hkind with ⟨rfl, ⟨rfl, hk⟩ | ⟨ci, cc, fl, as', rfl, rfl, hsh⟩⟩ | ⟨rfl, rfl, hk⟩
                · exact absurd hk (by omega)
                · obtain rfl : len = 3 := hlen.resolve_left (show ¬ (3 : Nat) = 0 by decide)
                  obtain ⟨b1, b2, ⟨F, q, b3⟩, n', b4, b5⟩ := g9 ci rfl
                  have hcN : cc < N := by
                    rcases vSh.1 cc _ hsh with ⟨h1, -⟩ | ⟨-, L, h1⟩
                    · exact h1
                    · cases h1
                  refine qm_callg (va_runV (As := as'.map (qm_cv ad)) (rest := rest.map (qm_cv ad)) ⟨hx, hb, hml, hown, hts⟩ hM ⟨callB_of n' hts hG rfl rfl rfl (hts _ g3) (hts _ g1) ⟨g4.1, g4.2, b5⟩ hroom, hts _ b1, hts _ b2⟩ ⟨qm_blind, va_recv hK hP b3 (by rw [qm_ws_at hcN, qm_E_obj hsh]), hpre⟩ rfl ?_ hL.2.1 ?_ hcr hd ⟨hce, hsl⟩) hS hAc kont
                  · rw [List.length_map]
                    rw [List.length_cons] at hasl
                    omega
                  · simp [qm_cv]
                · obtain rfl : len = 3 := hlen.resolve_left (show ¬ (3 : Nat) = 0 by decide)
                  obtain ⟨b1, b2⟩ := g8 rfl
                  refine qm_callg (va_runS (As := as.map (qm_cv ad)) (rest := rest.map (qm_cv ad)) ⟨hx, hb, hml, hown, hts⟩ hM ⟨callB_of nn hts hG rfl rfl rfl (hts _ g3) (hts _ g1) ⟨g4.1, g4.2, b2⟩ hroom, hts _ b1⟩ ⟨qm_blind, hpre⟩ rfl ?_ hL.2.1 ?_ hcr hd ⟨hce, hsl⟩) hS hAc kont
                  · rw [List.length_map]
                    exact hasl
                  · simp
