/-! ===== the library's own methods that are called: a text's length and signs, Math ===== -/
theorem djJ0_coder_7d493_0 : decode cJ0_coder_7d493 0 = .ok ((.getstatic 38), 3) := by decide +kernel
theorem djJ0_coder_7d493_3 : decode cJ0_coder_7d493 3 = .ok ((.ifCond .eq 10), 3) := by decide +kernel
theorem djJ0_coder_7d493_6 : decode cJ0_coder_7d493 6 = .ok ((.aload_n 0), 1) := by decide +kernel
theorem djJ0_coder_7d493_7 : decode cJ0_coder_7d493 7 = .ok ((.getfield 15), 3) := by decide +kernel
theorem djJ0_coder_7d493_10 : decode cJ0_coder_7d493 10 = .ok ((.goto 4), 3) := by decide +kernel
theorem djJ0_coder_7d493_13 : decode cJ0_coder_7d493 13 = .ok ((.iconst 1), 1) := by decide +kernel
theorem djJ0_coder_7d493_14 : decode cJ0_coder_7d493 14 = .ok (.ireturn, 1) := by decide +kernel
theorem djJ0_length_8abf5_0 : decode cJ0_length_8abf5 0 = .ok ((.aload_n 0), 1) := by decide +kernel
theorem djJ0_length_8abf5_1 : decode cJ0_length_8abf5 1 = .ok ((.getfield 9), 3) := by decide +kernel
theorem djJ0_length_8abf5_4 : decode cJ0_length_8abf5 4 = .ok (.arraylength, 1) := by decide +kernel
theorem djJ0_length_8abf5_5 : decode cJ0_length_8abf5 5 = .ok ((.aload_n 0), 1) := by decide +kernel
theorem djJ0_length_8abf5_6 : decode cJ0_length_8abf5 6 = .ok ((.invokevirtual 335), 3) := by decide +kernel
theorem djJ0_length_8abf5_9 : decode cJ0_length_8abf5 9 = .ok (.ishr, 1) := by decide +kernel
theorem djJ0_length_8abf5_10 : decode cJ0_length_8abf5 10 = .ok (.ireturn, 1) := by decide +kernel
theorem djJ0_isLatin1_aae02_0 : decode cJ0_isLatin1_aae02 0 = .ok ((.getstatic 38), 3) := by decide +kernel
theorem djJ0_isLatin1_aae02_3 : decode cJ0_isLatin1_aae02 3 = .ok ((.ifCond .eq 14), 3) := by decide +kernel
theorem djJ0_isLatin1_aae02_6 : decode cJ0_isLatin1_aae02 6 = .ok ((.aload_n 0), 1) := by decide +kernel
theorem djJ0_isLatin1_aae02_7 : decode cJ0_isLatin1_aae02 7 = .ok ((.getfield 15), 3) := by decide +kernel
theorem djJ0_isLatin1_aae02_10 : decode cJ0_isLatin1_aae02 10 = .ok ((.ifCond .ne 7), 3) := by decide +kernel
theorem djJ0_isLatin1_aae02_13 : decode cJ0_isLatin1_aae02 13 = .ok ((.iconst 1), 1) := by decide +kernel
theorem djJ0_isLatin1_aae02_14 : decode cJ0_isLatin1_aae02 14 = .ok ((.goto 4), 3) := by decide +kernel
theorem djJ0_isLatin1_aae02_17 : decode cJ0_isLatin1_aae02 17 = .ok ((.iconst 0), 1) := by decide +kernel
theorem djJ0_isLatin1_aae02_18 : decode cJ0_isLatin1_aae02 18 = .ok (.ireturn, 1) := by decide +kernel
theorem djJ3_checkIndex_8e157_0 : decode cJ3_checkIndex_8e157 0 = .ok ((.iload_n 0), 1) := by decide +kernel
theorem djJ3_checkIndex_8e157_1 : decode cJ3_checkIndex_8e157 1 = .ok ((.ifCond .lt 8), 3) := by decide +kernel
theorem djJ3_checkIndex_8e157_4 : decode cJ3_checkIndex_8e157 4 = .ok ((.iload_n 0), 1) := by decide +kernel
theorem djJ3_checkIndex_8e157_5 : decode cJ3_checkIndex_8e157 5 = .ok ((.iload_n 1), 1) := by decide +kernel
theorem djJ3_checkIndex_8e157_6 : decode cJ3_checkIndex_8e157 6 = .ok ((.if_icmp .lt 10), 3) := by decide +kernel
theorem djJ3_checkIndex_8e157_9 : decode cJ3_checkIndex_8e157 9 = .ok ((.aload_n 2), 1) := by decide +kernel
theorem djJ3_checkIndex_8e157_10 : decode cJ3_checkIndex_8e157 10 = .ok ((.iload_n 0), 1) := by decide +kernel
theorem djJ3_checkIndex_8e157_11 : decode cJ3_checkIndex_8e157 11 = .ok ((.iload_n 1), 1) := by decide +kernel
theorem djJ3_checkIndex_8e157_12 : decode cJ3_checkIndex_8e157 12 = .ok ((.invokestatic 95), 3) := by decide +kernel
theorem djJ3_checkIndex_8e157_15 : decode cJ3_checkIndex_8e157 15 = .ok (.athrow, 1) := by decide +kernel
theorem djJ3_checkIndex_8e157_16 : decode cJ3_checkIndex_8e157 16 = .ok ((.iload_n 0), 1) := by decide +kernel
theorem djJ3_checkIndex_8e157_17 : decode cJ3_checkIndex_8e157 17 = .ok (.ireturn, 1) := by decide +kernel
theorem djJ0_checkIndex_df160_0 : decode cJ0_checkIndex_df160 0 = .ok ((.iload_n 0), 1) := by decide +kernel
theorem djJ0_checkIndex_df160_1 : decode cJ0_checkIndex_df160 1 = .ok ((.iload_n 1), 1) := by decide +kernel
theorem djJ0_checkIndex_df160_2 : decode cJ0_checkIndex_df160 2 = .ok ((.getstatic 1053), 3) := by decide +kernel
theorem djJ0_checkIndex_df160_5 : decode cJ0_checkIndex_df160 5 = .ok ((.invokestatic 1059), 3) := by decide +kernel
theorem djJ0_checkIndex_df160_8 : decode cJ0_checkIndex_df160 8 = .ok (.pop, 1) := by decide +kernel
theorem djJ0_checkIndex_df160_9 : decode cJ0_checkIndex_df160 9 = .ok (.return_, 1) := by decide +kernel
theorem djJ1_charAt_3b067_0 : decode cJ1_charAt_3b067 0 = .ok ((.iload_n 1), 1) := by decide +kernel
theorem djJ1_charAt_3b067_1 : decode cJ1_charAt_3b067 1 = .ok ((.aload_n 0), 1) := by decide +kernel
theorem djJ1_charAt_3b067_2 : decode cJ1_charAt_3b067 2 = .ok (.arraylength, 1) := by decide +kernel
theorem djJ1_charAt_3b067_3 : decode cJ1_charAt_3b067 3 = .ok ((.invokestatic 9), 3) := by decide +kernel
theorem djJ1_charAt_3b067_6 : decode cJ1_charAt_3b067 6 = .ok ((.aload_n 0), 1) := by decide +kernel
theorem djJ1_charAt_3b067_7 : decode cJ1_charAt_3b067 7 = .ok ((.iload_n 1), 1) := by decide +kernel
theorem djJ1_charAt_3b067_8 : decode cJ1_charAt_3b067 8 = .ok (.baload, 1) := by decide +kernel
theorem djJ1_charAt_3b067_9 : decode cJ1_charAt_3b067 9 = .ok ((.sipush 255), 3) := by decide +kernel
theorem djJ1_charAt_3b067_12 : decode cJ1_charAt_3b067 12 = .ok (.iand, 1) := by decide +kernel
theorem djJ1_charAt_3b067_13 : decode cJ1_charAt_3b067 13 = .ok (.i2c, 1) := by decide +kernel
theorem djJ1_charAt_3b067_14 : decode cJ1_charAt_3b067 14 = .ok (.ireturn, 1) := by decide +kernel
theorem djJ0_charAt_5068e_0 : decode cJ0_charAt_5068e 0 = .ok ((.aload_n 0), 1) := by decide +kernel
theorem djJ0_charAt_5068e_1 : decode cJ0_charAt_5068e 1 = .ok ((.invokevirtual 492), 3) := by decide +kernel
theorem djJ0_charAt_5068e_4 : decode cJ0_charAt_5068e 4 = .ok ((.ifCond .eq 12), 3) := by decide +kernel
theorem djJ0_charAt_5068e_7 : decode cJ0_charAt_5068e 7 = .ok ((.aload_n 0), 1) := by decide +kernel
theorem djJ0_charAt_5068e_8 : decode cJ0_charAt_5068e 8 = .ok ((.getfield 9), 3) := by decide +kernel
theorem djJ0_charAt_5068e_11 : decode cJ0_charAt_5068e 11 = .ok ((.iload_n 1), 1) := by decide +kernel
theorem djJ0_charAt_5068e_12 : decode cJ0_charAt_5068e 12 = .ok ((.invokestatic 495), 3) := by decide +kernel
theorem djJ0_charAt_5068e_15 : decode cJ0_charAt_5068e 15 = .ok (.ireturn, 1) := by decide +kernel
theorem djJ0_charAt_5068e_16 : decode cJ0_charAt_5068e 16 = .ok ((.aload_n 0), 1) := by decide +kernel
theorem djJ0_charAt_5068e_17 : decode cJ0_charAt_5068e 17 = .ok ((.getfield 9), 3) := by decide +kernel
theorem djJ0_charAt_5068e_20 : decode cJ0_charAt_5068e 20 = .ok ((.iload_n 1), 1) := by decide +kernel
theorem djJ0_charAt_5068e_21 : decode cJ0_charAt_5068e 21 = .ok ((.invokestatic 498), 3) := by decide +kernel
theorem djJ0_charAt_5068e_24 : decode cJ0_charAt_5068e 24 = .ok (.ireturn, 1) := by decide +kernel
def qj_X (L : Nat) (ad : Nat → Nat) (ξ : Nat → Int) (U : State) : Prop := qm_Ex (qb_T L) qb_ow ad ξ (qm_Ac ad 95) U U.heap
def qj_Q (v : Option Value) : Array Value → State → Outcome → State → Prop := fun _ st oc t => oc = .returned v ∧ t.heap = st.heap
theorem qj_blind {L : Nat} {ad : Nat → Nat} {ξ : Nat → Int} {As : List Value} : FrameBlind (va_Pc As (qj_X L ad ξ)) := by
  intro a U g mk h
  exact ⟨h.1, qm_Ex.same (u := U) (U := U.calling g mk a) rfl h.2⟩
abbrev qj_rm (f n : Nat) : Room := { frames := f, cells := 0, slots := 0, locals := n }
theorem qj_good {y : MethodName} {b : ByteArray} {n : Nat} {r : Option FieldType} (h : Jvm.Cond.code y b n r ∈ qb_TB) : GoodIn qb_TB (Jvm.Cond.code y b n r :: qb_TB) := by
  intro w hw
  rcases List.mem_cons.mp hw with rfl | hw
  · exact ⟨h, good_of_word (qb_good _ h)⟩
  · exact ⟨hw, good_of_word (qb_good _ hw)⟩
section QJ
variable {p : Program} {l : Launch} {e : Env} {R : Room} {s : State} {m : MethodId} {args : Array Value} {below : List Frame} {meth : Method} {c : Code} {H : Heap} {locs : List Loc} {cells slots : Nat} {Q : State → Prop}
theorem qj_call {v : Option Value} {pc : Nat} {ls : Array Slot} {rest st0 : List Value} {a : Array Value} (hr : va_Run p l e R s m args below meth c H locs cells slots 0 0 (F0 m pc ls st0) rest (qj_Q v a) (fun _ => False))
    (kk : W p l e R s m args below meth c H locs cells slots Q (F0 m (pc + 3) ls (v.toList ++ rest))) : W p l e R s m args below meth c H locs cells slots Q (F0 m pc ls st0) := by
  intro T hT X
  obtain ⟨v', st₀, t, T', L, h0, X', hL, e1, e2, ⟨hv, hh⟩, st⟩ := hr T hT X
  cases hv
  obtain ⟨t2, a1, b1⟩ := kk T' (by rw [e1, hh, h0]) (Stand.forget X' (fun q h => (hL q h).elim))
  exact ⟨t2, st t2 a1, b1⟩
end QJ
set_option maxRecDepth 100000 in
set_option maxHeartbeats 4000000 in
theorem qj_coder (l : Launch) {L : Nat} {ad : Nat → Nat} {ξ : Nat → Int} {sc : Nat} {tx : List Nat} (htx : qm_txt (qb_T L) sc = some tx) : Met l yJ0_coder_7d493 (Jvm.Cond.code yJ0_coder_7d493 cJ0_coder_7d493 1 (some .byte) :: qb_TB) (qj_rm 0 0) (va_Pc [.ref (ad sc)] (qj_X L ad ξ)) (qj_Q (some (.int 0))) 0 0 (fun _ => False) := by
  refine qm_ofW (cc := cJ0_coder_7d493) (maxL := 1) (ret := (some .byte)) (by decide +kernel) rfl ?_
  intro p e s m args below meth c s₁ B hml hv
  obtain ⟨rfl, hEx⟩ := hv
  have hx := B.exec
  have hb := B.bytes
  have hts0 := atoms_spec (ws := Jvm.Cond.code yJ0_coder_7d493 cJ0_coder_7d493 1 (some .byte) :: qb_TB) B.pre
  have hts : ∀ w ∈ qb_TB, w.before _ s = true := fun w hw => hts0 w (List.mem_cons_of_mem _ hw)
  have hown : s.vm.findClass RJ0 = some m.cls := findClass_of_methodNamed B.named
  have hS : va_S (qm_Ac ad 95) s.heap s.heap [] := va_S.rf
  have hl := lv_entry ([.ref (ad sc)]) (n := 1) (Nat.le_of_ble_eq_true rfl)
  rw [lg_entry_eq]
  generalize (lg_sl ([.ref (ad sc)]) ++ List.replicate (1 - (lg_sl ([.ref (ad sc)])).length) Slot.unset).toArray = ls at hl ⊢
  have hl : lv_has ls 1 [(0, .ref (ad sc))] := hl
  obtain ⟨v, g1, g2, g3, g4, g5⟩ := hEx.2.1 sc tx htx
  refine va_gets hx hb hEx.2.2.2.1 hS hown (hts _ (qb_memP (j := 1) (i := 191) rfl rfl)) (fun _ h => h) djJ0_coder_7d493_0 ?_
  refine lv_if_eq (tgt := 13) hx hb djJ0_coder_7d493_3 (by decide) (fun q => absurd q (by decide)) (fun _ => ?_)
  refine lv_aload_n hx hb djJ0_coder_7d493_6 rfl (lv_at hl 0 rfl) ?_
  refine vk_getf hx hb g2 hS hown (hts _ (qb_memP (j := 7) (i := 208) rfl rfl)) (fun _ h => h) djJ0_coder_7d493_7 ?_
  refine lv_goto (tgt := 14) hx hb djJ0_coder_7d493_10 (by decide) ?_
  exact W.zret (ty := .byte) hx hb B.returns rfl (fun t ht _ => ⟨rfl, ht⟩) (fun _ h => by cases h) djJ0_coder_7d493_14 B.notSynchronized
set_option maxRecDepth 100000 in
set_option maxHeartbeats 4000000 in
theorem qj_isLatin1 (l : Launch) {L : Nat} {ad : Nat → Nat} {ξ : Nat → Int} {sc : Nat} {tx : List Nat} (htx : qm_txt (qb_T L) sc = some tx) : Met l yJ0_isLatin1_aae02 (Jvm.Cond.code yJ0_isLatin1_aae02 cJ0_isLatin1_aae02 1 (some .boolean) :: qb_TB) (qj_rm 0 0) (va_Pc [.ref (ad sc)] (qj_X L ad ξ)) (qj_Q (some (.int 1))) 0 0 (fun _ => False) := by
  refine qm_ofW (cc := cJ0_isLatin1_aae02) (maxL := 1) (ret := (some .boolean)) (by decide +kernel) rfl ?_
  intro p e s m args below meth c s₁ B hml hv
  obtain ⟨rfl, hEx⟩ := hv
  have hx := B.exec
  have hb := B.bytes
  have hts0 := atoms_spec (ws := Jvm.Cond.code yJ0_isLatin1_aae02 cJ0_isLatin1_aae02 1 (some .boolean) :: qb_TB) B.pre
  have hts : ∀ w ∈ qb_TB, w.before _ s = true := fun w hw => hts0 w (List.mem_cons_of_mem _ hw)
  have hown : s.vm.findClass RJ0 = some m.cls := findClass_of_methodNamed B.named
  have hS : va_S (qm_Ac ad 95) s.heap s.heap [] := va_S.rf
  have hl := lv_entry ([.ref (ad sc)]) (n := 1) (Nat.le_of_ble_eq_true rfl)
  rw [lg_entry_eq]
  generalize (lg_sl ([.ref (ad sc)]) ++ List.replicate (1 - (lg_sl ([.ref (ad sc)])).length) Slot.unset).toArray = ls at hl ⊢
  have hl : lv_has ls 1 [(0, .ref (ad sc))] := hl
  obtain ⟨v, g1, g2, g3, g4, g5⟩ := hEx.2.1 sc tx htx
  refine va_gets hx hb hEx.2.2.2.1 hS hown (hts _ (qb_memP (j := 1) (i := 191) rfl rfl)) (fun _ h => h) djJ0_isLatin1_aae02_0 ?_
  refine lv_if_eq (tgt := 17) hx hb djJ0_isLatin1_aae02_3 (by decide) (fun q => absurd q (by decide)) (fun _ => ?_)
  refine lv_aload_n hx hb djJ0_isLatin1_aae02_6 rfl (lv_at hl 0 rfl) ?_
  refine vk_getf hx hb g2 hS hown (hts _ (qb_memP (j := 7) (i := 208) rfl rfl)) (fun _ h => h) djJ0_isLatin1_aae02_7 ?_
  refine lv_if_ne (tgt := 17) hx hb djJ0_isLatin1_aae02_10 (by decide) (fun q => absurd rfl q) (fun _ => ?_)
  refine lv_iconst (v := 1) hx hb djJ0_isLatin1_aae02_13 (by decide) ?_
  refine lv_goto (tgt := 18) hx hb djJ0_isLatin1_aae02_14 (by decide) ?_
  exact W.zret (ty := .boolean) hx hb B.returns rfl (fun t ht _ => ⟨rfl, ht⟩) (fun _ h => by cases h) djJ0_isLatin1_aae02_18 B.notSynchronized
set_option maxRecDepth 100000 in
set_option maxHeartbeats 4000000 in
theorem qj_pre (l : Launch) {L : Nat} {ad : Nat → Nat} {ξ : Nat → Int} {i k : Int32} {r : Option Nat} (h0 : ¬ i < 0) (h1 : i < k) : Met l yJ3_checkIndex_8e157 (Jvm.Cond.code yJ3_checkIndex_8e157 cJ3_checkIndex_8e157 3 (some .int) :: qb_TB) (qj_rm 0 0) (va_Pc [.int i, .int k, va_rf r] (qj_X L ad ξ)) (qj_Q (some (.int i))) 0 0 (fun _ => False) := by
  refine qm_ofW (cc := cJ3_checkIndex_8e157) (maxL := 3) (ret := (some .int)) (by decide +kernel) rfl ?_
  intro p e s m args below meth c s₁ B hml hv
  obtain ⟨rfl, hEx⟩ := hv
  have hx := B.exec
  have hb := B.bytes
  have hts0 := atoms_spec (ws := Jvm.Cond.code yJ3_checkIndex_8e157 cJ3_checkIndex_8e157 3 (some .int) :: qb_TB) B.pre
  have hts : ∀ w ∈ qb_TB, w.before _ s = true := fun w hw => hts0 w (List.mem_cons_of_mem _ hw)
  have hown : s.vm.findClass RJ3 = some m.cls := findClass_of_methodNamed B.named
  have hS : va_S (qm_Ac ad 95) s.heap s.heap [] := va_S.rf
  have hl := lv_entry ([.int i, .int k, va_rf r]) (n := 3) (by rcases r with _ | t <;> exact Nat.le_of_ble_eq_true rfl)
  rw [lg_entry_eq]
  generalize (lg_sl ([.int i, .int k, va_rf r]) ++ List.replicate (3 - (lg_sl ([.int i, .int k, va_rf r])).length) Slot.unset).toArray = ls at hl ⊢
  have hl : lv_has ls 3 [(0, .int i), (1, .int k), (2, va_rf r)] := by
    have h2 : lv_args 0 [.int i, .int k, va_rf r] = [(0, .int i), (1, .int k), (2, va_rf r)] := rfl
    rw [← h2]
    exact hl
  refine lv_iload_n hx hb djJ3_checkIndex_8e157_0 rfl (lv_at hl 0 rfl) ?_
  refine lv_if_lt (tgt := 9) hx hb djJ3_checkIndex_8e157_1 (by decide) (fun q => absurd q h0) (fun _ => ?_)
  refine lv_iload_n hx hb djJ3_checkIndex_8e157_4 rfl (lv_at hl 0 rfl) ?_
  refine lv_iload_n hx hb djJ3_checkIndex_8e157_5 rfl (lv_at hl 1 rfl) ?_
  refine lv_icmp_lt (tgt := 16) hx hb djJ3_checkIndex_8e157_6 (by decide) (fun _ => ?_) (fun q => absurd h1 q)
  refine lv_iload_n hx hb djJ3_checkIndex_8e157_16 rfl (lv_at hl 0 rfl) ?_
  exact W.iret hx hb B.returns (fun t ht _ => ⟨rfl, ht⟩) (fun _ h => by cases h) djJ3_checkIndex_8e157_17 B.notSynchronized
set_option maxRecDepth 100000 in
set_option maxHeartbeats 4000000 in
theorem qj_chk (l : Launch) {L : Nat} {ad : Nat → Nat} {ξ : Nat → Int} {i k : Int32} (h0 : ¬ i < 0) (h1 : i < k) : Met l yJ0_checkIndex_df160 (Jvm.Cond.code yJ0_checkIndex_df160 cJ0_checkIndex_df160 2 none :: qb_TB) (qj_rm 1 22) (va_Pc [.int i, .int k] (qj_X L ad ξ)) (qj_Q (none)) 0 0 (fun _ => False) := by
  refine qm_ofW (cc := cJ0_checkIndex_df160) (maxL := 2) (ret := none) (by decide +kernel) rfl ?_
  intro p e s m args below meth c s₁ B hml hv
  obtain ⟨rfl, hEx⟩ := hv
  have hx := B.exec
  have hb := B.bytes
  have hts0 := atoms_spec (ws := Jvm.Cond.code yJ0_checkIndex_df160 cJ0_checkIndex_df160 2 none :: qb_TB) B.pre
  have hts : ∀ w ∈ qb_TB, w.before _ s = true := fun w hw => hts0 w (List.mem_cons_of_mem _ hw)
  have hown : s.vm.findClass RJ0 = some m.cls := findClass_of_methodNamed B.named
  have hS : va_S (qm_Ac ad 95) s.heap s.heap [] := va_S.rf
  have hl := lv_entry ([.int i, .int k]) (n := 2) (Nat.le_of_ble_eq_true rfl)
  rw [lg_entry_eq]
  generalize (lg_sl ([.int i, .int k]) ++ List.replicate (2 - (lg_sl ([.int i, .int k])).length) Slot.unset).toArray = ls at hl ⊢
  have hl : lv_has ls 2 [(0, .int i), (1, .int k)] := hl
  refine lv_iload_n hx hb djJ0_checkIndex_df160_0 rfl (lv_at hl 0 rfl) ?_
  refine lv_iload_n hx hb djJ0_checkIndex_df160_1 rfl (lv_at hl 1 rfl) ?_
  obtain ⟨r, hZ⟩ : ∃ r : Option Nat, va_Z "jdk/internal/util/Preconditions" "SIOOBE_FORMATTER" "Ljava/util/function/BiFunction;" (va_rf r) (qm_Ac ad 95) s s.heap := by
    rcases hEx.2.2.2.2 with h | ⟨t, h⟩
    · exact ⟨none, h⟩
    · exact ⟨some t, h⟩
  refine va_gets hx hb hZ hS hown (hts _ (qb_memP (j := 1) (i := 207) rfl rfl)) (fun _ h => h) djJ0_checkIndex_df160_2 ?_
  refine qj_call (va_runS (As := [.int i, .int k, va_rf r]) (rest := []) ⟨hx, hb, hml, hown, hts⟩ (qj_pre l (L := L) (ad := ad) (ξ := ξ) h0 h1) ⟨callB_of 3 hts (qj_good (qb_memP (j := 1) (i := 211) rfl rfl)) rfl rfl rfl (hts _ (qb_memP (j := 0) (i := 16) rfl rfl)) (hts _ (qb_memP (j := 1) (i := 209) rfl rfl)) ⟨by decide +kernel, by decide +kernel, by decide +kernel⟩ ⟨Nat.le_of_ble_eq_true rfl, Nat.le_of_ble_eq_true rfl⟩, hts _ (qb_memP (j := 1) (i := 210) rfl rfl)⟩ ⟨qj_blind, fun U hU hW => ⟨rfl, by show qm_Ex _ _ _ _ _ U U.heap; rw [hU]; exact qm_Ex.warm hW (Nat.le_refl _) (fun _ _ _ => rfl) (fun _ h => h) hEx⟩⟩ rfl rfl hl.1 rfl (lv_room (Nat.le_of_ble_eq_true rfl)) djJ0_checkIndex_df160_5 ⟨Nat.le_of_ble_eq_true rfl, Nat.le_of_ble_eq_true rfl⟩) ?_
  refine lv_pop hx hb djJ0_checkIndex_df160_8 rfl ?_
  exact W.vret hx hb B.returns (fun t ht _ => ⟨rfl, ht⟩) (fun _ h => by cases h) djJ0_checkIndex_df160_9 B.notSynchronized
theorem qj_and {n : Nat} (h : n < 128) : ((Int32.ofNat n &&& 255).toUInt32 % 65536).toInt32 = Int32.ofNat n ∧ narrow .char (.int (Int32.ofNat n)) = .int (Int32.ofNat n) := by
  have key : ∀ m, m < 128 → ((Int32.ofNat m &&& 255).toUInt32 % 65536).toInt32 = Int32.ofNat m ∧ narrow .char (.int (Int32.ofNat m)) = .int (Int32.ofNat m) := by decide +kernel
  exact key n h
def qj_Y (L : Nat) (ad : Nat → Nat) (ξ : Nat → Int) (v : Nat) (tx : List Nat) (U : State) : Prop := qj_X L ad ξ U ∧ va_T .byte v tx.length (fun j => .int (Int32.ofNat (tx.getD j 0))) (qm_Ac ad 95) U U.heap
theorem qj_blindY {L : Nat} {ad : Nat → Nat} {ξ : Nat → Int} {v : Nat} {tx : List Nat} {As : List Value} : FrameBlind (va_Pc As (qj_Y L ad ξ v tx)) := by
  intro a U g mk h
  exact ⟨h.1, qm_Ex.same (u := U) (U := U.calling g mk a) rfl h.2.1, va_T.moved (u := U) (U := U.calling g mk a) (Vm.Alike.refl U.vm) h.2.2⟩
set_option maxRecDepth 100000 in
set_option maxHeartbeats 4000000 in
theorem qj_lat (l : Launch) {L : Nat} {ad : Nat → Nat} {ξ : Nat → Int} {v : Nat} {i : Int32} {tx : List Nat} (hi : vp_in i tx.length) (hn : tx.length < 2147483648) (h128 : ∀ j, j < tx.length → tx.getD j 0 < 128) : Met l yJ1_charAt_3b067 (Jvm.Cond.code yJ1_charAt_3b067 cJ1_charAt_3b067 2 (some .char) :: qb_TB) (qj_rm 2 43) (va_Pc [.ref v, .int i] (qj_Y L ad ξ v tx)) (qj_Q (some (.int (Int32.ofNat (tx.getD i.toNatClampNeg 0))))) 0 0 (fun _ => False) := by
  refine qm_ofW (cc := cJ1_charAt_3b067) (maxL := 2) (ret := (some .char)) (by decide +kernel) rfl ?_
  intro p e s m args below meth c s₁ B hml hv
  obtain ⟨rfl, hEx, g4⟩ := hv
  have hx := B.exec
  have hb := B.bytes
  have hts0 := atoms_spec (ws := Jvm.Cond.code yJ1_charAt_3b067 cJ1_charAt_3b067 2 (some .char) :: qb_TB) B.pre
  have hts : ∀ w ∈ qb_TB, w.before _ s = true := fun w hw => hts0 w (List.mem_cons_of_mem _ hw)
  have hown : s.vm.findClass RJ1 = some m.cls := findClass_of_methodNamed B.named
  have hS : va_S (qm_Ac ad 95) s.heap s.heap [] := va_S.rf
  have hl := lv_entry ([.ref v, .int i]) (n := 2) (Nat.le_of_ble_eq_true rfl)
  rw [lg_entry_eq]
  generalize (lg_sl ([.ref v, .int i]) ++ List.replicate (2 - (lg_sl ([.ref v, .int i])).length) Slot.unset).toArray = ls at hl ⊢
  have hl : lv_has ls 2 [(0, .ref v), (1, .int i)] := hl
  have hlt : i.toNatClampNeg < tx.length := Nat.not_le.mp fun q => hi (Or.inr q)
  obtain ⟨a1, a2⟩ := qj_and (h128 _ hlt)
  have h0 : ¬ i < 0 := fun q => hi (Or.inl q)
  have h1 : i < Int32.ofNat tx.length := by
    obtain ⟨j, hj, rfl⟩ := vp_in_of hi hn
    exact nI_lt hj hn
  refine lv_iload_n hx hb djJ1_charAt_3b067_0 rfl (lv_at hl 1 rfl) ?_
  refine lv_aload_n hx hb djJ1_charAt_3b067_1 rfl (lv_at hl 0 rfl) ?_
  refine va_tlen hx hb g4 hS rfl djJ1_charAt_3b067_2 ?_
  refine qj_call (va_runS (As := [.int i, .int (Int32.ofNat tx.length)]) (rest := []) ⟨hx, hb, hml, hown, hts⟩ (qj_chk l (L := L) (ad := ad) (ξ := ξ) h0 h1) ⟨callB_of 2 hts (qj_good (qb_memP (j := 1) (i := 206) rfl rfl)) rfl rfl rfl (hts _ (qb_memP (j := 0) (i := 14) rfl rfl)) (hts _ (qb_memP (j := 1) (i := 204) rfl rfl)) ⟨by decide +kernel, by decide +kernel, by decide +kernel⟩ ⟨Nat.le_of_ble_eq_true rfl, Nat.le_of_ble_eq_true rfl⟩, hts _ (qb_memP (j := 1) (i := 205) rfl rfl)⟩ ⟨qj_blind, fun U hU hW => ⟨rfl, by show qm_Ex _ _ _ _ _ U U.heap; rw [hU]; exact qm_Ex.warm hW (Nat.le_refl _) (fun _ _ _ => rfl) (fun _ h => h) hEx⟩⟩ rfl rfl hl.1 rfl (lv_room (Nat.le_of_ble_eq_true rfl)) djJ1_charAt_3b067_3 ⟨Nat.le_of_ble_eq_true rfl, Nat.le_of_ble_eq_true rfl⟩) ?_
  refine lv_aload_n hx hb djJ1_charAt_3b067_6 rfl (lv_at hl 0 rfl) ?_
  refine lv_iload_n hx hb djJ1_charAt_3b067_7 rfl (lv_at hl 1 rfl) ?_
  refine va_tb hx hb g4 hS hi rfl djJ1_charAt_3b067_8 ?_
  refine lv_sipush (v := 255) hx hb djJ1_charAt_3b067_9 (by decide) ?_
  refine lv_iand hx hb djJ1_charAt_3b067_12 ?_
  refine lv_i2c hx hb djJ1_charAt_3b067_13 a1 ?_
  exact W.zret (ty := .char) hx hb B.returns a2 (fun t ht _ => ⟨rfl, ht⟩) (fun _ h => by cases h) djJ1_charAt_3b067_14 B.notSynchronized
set_option maxRecDepth 100000 in
set_option maxHeartbeats 4000000 in
theorem qj_length (l : Launch) {L : Nat} {ad : Nat → Nat} {ξ : Nat → Int} {sc : Nat} {tx : List Nat} (htx : qm_txt (qb_T L) sc = some tx) : Met l yJ0_length_8abf5 (Jvm.Cond.code yJ0_length_8abf5 cJ0_length_8abf5 1 (some .int) :: qb_TB) (qj_rm 1 20) (va_Pc [.ref (ad sc)] (qj_X L ad ξ)) (qj_Q (some (.int (Int32.ofNat tx.length)))) 0 0 (fun _ => False) := by
  refine qm_ofW (cc := cJ0_length_8abf5) (maxL := 1) (ret := (some .int)) (by decide +kernel) rfl ?_
  intro p e s m args below meth c s₁ B hml hv
  obtain ⟨rfl, hEx⟩ := hv
  have hx := B.exec
  have hb := B.bytes
  have hts0 := atoms_spec (ws := Jvm.Cond.code yJ0_length_8abf5 cJ0_length_8abf5 1 (some .int) :: qb_TB) B.pre
  have hts : ∀ w ∈ qb_TB, w.before _ s = true := fun w hw => hts0 w (List.mem_cons_of_mem _ hw)
  have hown : s.vm.findClass RJ0 = some m.cls := findClass_of_methodNamed B.named
  have hS : va_S (qm_Ac ad 95) s.heap s.heap [] := va_S.rf
  have hl := lv_entry ([.ref (ad sc)]) (n := 1) (Nat.le_of_ble_eq_true rfl)
  rw [lg_entry_eq]
  generalize (lg_sl ([.ref (ad sc)]) ++ List.replicate (1 - (lg_sl ([.ref (ad sc)])).length) Slot.unset).toArray = ls at hl ⊢
  have hl : lv_has ls 1 [(0, .ref (ad sc))] := hl
  obtain ⟨v, g1, g2, g3, g4, g5⟩ := hEx.2.1 sc tx htx
  refine lv_aload_n hx hb djJ0_length_8abf5_0 rfl (lv_at hl 0 rfl) ?_
  refine vk_getf hx hb g3 hS hown (hts _ (qb_memP (j := 7) (i := 207) rfl rfl)) (fun _ h => h) djJ0_length_8abf5_1 ?_
  refine va_tlen hx hb g4 hS rfl djJ0_length_8abf5_4 ?_
  refine lv_aload_n hx hb djJ0_length_8abf5_5 rfl (lv_at hl 0 rfl) ?_
  refine qj_call (va_runV (As := []) (rest := [.int (Int32.ofNat tx.length)]) ⟨hx, hb, hml, hown, hts⟩ (qj_coder l (L := L) (ad := ad) (ξ := ξ) htx) ⟨callB_of 0 hts (qj_good (qb_memP (j := 1) (i := 190) rfl rfl)) rfl rfl rfl (hts _ (qb_memP (j := 0) (i := 14) rfl rfl)) (hts _ (qb_memP (j := 1) (i := 187) rfl rfl)) ⟨by decide +kernel, by decide +kernel, by decide +kernel⟩ ⟨Nat.le_of_ble_eq_true rfl, Nat.le_of_ble_eq_true rfl⟩, hts _ (qb_memP (j := 1) (i := 188) rfl rfl), hts _ (qb_memP (j := 1) (i := 189) rfl rfl)⟩ ⟨qj_blind, (by obtain ⟨cell, q1, q2, q3, -⟩ := g1; exact ⟨cell, q1, q2, q3⟩), fun U hU hW => ⟨rfl, by show qm_Ex _ _ _ _ _ U U.heap; rw [hU]; exact qm_Ex.warm hW (Nat.le_refl _) (fun _ _ _ => rfl) (fun _ h => h) hEx⟩⟩ rfl rfl hl.1 rfl (lv_room (Nat.le_of_ble_eq_true rfl)) djJ0_length_8abf5_6 ⟨Nat.le_of_ble_eq_true rfl, Nat.le_of_ble_eq_true rfl⟩) ?_
  refine lv_ishr hx hb djJ0_length_8abf5_9 ?_
  rw [sb_shr0]
  exact W.iret hx hb B.returns (fun t ht _ => ⟨rfl, ht⟩) (fun _ h => by cases h) djJ0_length_8abf5_10 B.notSynchronized
set_option maxRecDepth 100000 in
set_option maxHeartbeats 4000000 in
theorem qj_charAt (l : Launch) {L : Nat} {ad : Nat → Nat} {ξ : Nat → Int} {sc : Nat} {i : Int32} {tx : List Nat} (htx : qm_txt (qb_T L) sc = some tx) (hi : vp_in i tx.length) (hn : tx.length < 2147483648) : Met l yJ0_charAt_5068e (Jvm.Cond.code yJ0_charAt_5068e cJ0_charAt_5068e 2 (some .char) :: qb_TB) (qj_rm 3 64) (va_Pc [.ref (ad sc), .int i] (qj_X L ad ξ)) (qj_Q (some (.int (Int32.ofNat (tx.getD i.toNatClampNeg 0))))) 0 0 (fun _ => False) := by
  refine qm_ofW (cc := cJ0_charAt_5068e) (maxL := 2) (ret := (some .char)) (by decide +kernel) rfl ?_
  intro p e s m args below meth c s₁ B hml hv
  obtain ⟨rfl, hEx⟩ := hv
  have hx := B.exec
  have hb := B.bytes
  have hts0 := atoms_spec (ws := Jvm.Cond.code yJ0_charAt_5068e cJ0_charAt_5068e 2 (some .char) :: qb_TB) B.pre
  have hts : ∀ w ∈ qb_TB, w.before _ s = true := fun w hw => hts0 w (List.mem_cons_of_mem _ hw)
  have hown : s.vm.findClass RJ0 = some m.cls := findClass_of_methodNamed B.named
  have hS : va_S (qm_Ac ad 95) s.heap s.heap [] := va_S.rf
  have hl := lv_entry ([.ref (ad sc), .int i]) (n := 2) (Nat.le_of_ble_eq_true rfl)
  rw [lg_entry_eq]
  generalize (lg_sl ([.ref (ad sc), .int i]) ++ List.replicate (2 - (lg_sl ([.ref (ad sc), .int i])).length) Slot.unset).toArray = ls at hl ⊢
  have hl : lv_has ls 2 [(0, .ref (ad sc)), (1, .int i)] := hl
  obtain ⟨v, g1, g2, g3, g4, g5⟩ := hEx.2.1 sc tx htx
  have hlt : i.toNatClampNeg < tx.length := Nat.not_le.mp fun q => hi (Or.inr q)
  obtain ⟨a1, a2⟩ := qj_and (g5 _ hlt)
  refine lv_aload_n hx hb djJ0_charAt_5068e_0 rfl (lv_at hl 0 rfl) ?_
  refine qj_call (va_runV (As := []) (rest := []) ⟨hx, hb, hml, hown, hts⟩ (qj_isLatin1 l (L := L) (ad := ad) (ξ := ξ) htx) ⟨callB_of 0 hts (qj_good (qb_memP (j := 1) (i := 200) rfl rfl)) rfl rfl rfl (hts _ (qb_memP (j := 0) (i := 14) rfl rfl)) (hts _ (qb_memP (j := 1) (i := 197) rfl rfl)) ⟨by decide +kernel, by decide +kernel, by decide +kernel⟩ ⟨Nat.le_of_ble_eq_true rfl, Nat.le_of_ble_eq_true rfl⟩, hts _ (qb_memP (j := 1) (i := 198) rfl rfl), hts _ (qb_memP (j := 1) (i := 199) rfl rfl)⟩ ⟨qj_blind, (by obtain ⟨cell, q1, q2, q3, -⟩ := g1; exact ⟨cell, q1, q2, q3⟩), fun U hU hW => ⟨rfl, by show qm_Ex _ _ _ _ _ U U.heap; rw [hU]; exact qm_Ex.warm hW (Nat.le_refl _) (fun _ _ _ => rfl) (fun _ h => h) hEx⟩⟩ rfl rfl hl.1 rfl (lv_room (Nat.le_of_ble_eq_true rfl)) djJ0_charAt_5068e_1 ⟨Nat.le_of_ble_eq_true rfl, Nat.le_of_ble_eq_true rfl⟩) ?_
  refine lv_if_eq (tgt := 16) hx hb djJ0_charAt_5068e_4 (by decide) (fun q => absurd q (by decide)) (fun _ => ?_)
  refine lv_aload_n hx hb djJ0_charAt_5068e_7 rfl (lv_at hl 0 rfl) ?_
  refine vk_getf hx hb g3 hS hown (hts _ (qb_memP (j := 7) (i := 207) rfl rfl)) (fun _ h => h) djJ0_charAt_5068e_8 ?_
  refine lv_iload_n hx hb djJ0_charAt_5068e_11 rfl (lv_at hl 1 rfl) ?_
  refine qj_call (va_runS (As := [.ref v, .int i]) (rest := []) ⟨hx, hb, hml, hown, hts⟩ (qj_lat l (L := L) (ad := ad) (ξ := ξ) (v := v) hi hn g5) ⟨callB_of 2 hts (qj_good (qb_memP (j := 1) (i := 203) rfl rfl)) rfl rfl rfl (hts _ (qb_memP (j := 0) (i := 15) rfl rfl)) (hts _ (qb_memP (j := 1) (i := 201) rfl rfl)) ⟨by decide +kernel, by decide +kernel, by decide +kernel⟩ ⟨Nat.le_of_ble_eq_true rfl, Nat.le_of_ble_eq_true rfl⟩, hts _ (qb_memP (j := 1) (i := 202) rfl rfl)⟩ ⟨qj_blindY, fun U hU hW => ⟨rfl, by show qm_Ex _ _ _ _ _ U U.heap; rw [hU]; exact qm_Ex.warm hW (Nat.le_refl _) (fun _ _ _ => rfl) (fun _ h => h) hEx, by rw [hU]; exact va_T.moved hW.alike g4⟩⟩ rfl rfl hl.1 rfl (lv_room (Nat.le_of_ble_eq_true rfl)) djJ0_charAt_5068e_12 ⟨Nat.le_of_ble_eq_true rfl, Nat.le_of_ble_eq_true rfl⟩) ?_
  exact W.zret (ty := .char) hx hb B.returns a2 (fun t ht _ => ⟨rfl, ht⟩) (fun _ h => by cases h) djJ0_charAt_5068e_15 B.notSynchronized
theorem qj_txl {L c : Nat} {tx : List Nat} (h : qm_txt (qb_T L) c = some tx) : tx.length < 2147483648 := by
  have h : cond (Nat.ble 1000 c) (qb_txs[c - 1000]?) none = some tx := h
  have key : qb_txs.all (fun t => Nat.blt t.length 2147483648) = true := by decide +kernel
  cases hb : Nat.ble 1000 c with
  | false => rw [hb] at h; cases h
  | true =>
    rw [hb] at h
    have h : qb_txs[c - 1000]? = some tx := h
    exact Nat.le_of_ble_eq_true (List.all_eq_true.mp key tx (List.mem_of_getElem? h))
theorem qb_vIntr (L : Nat) (ad : Nat → Nat) (ac : Nat → ClassId) (D : va_G) (ξ : Nat → Int) : qm_vIntr (qb_T L) qb_bs qb_ow vwCl qb_TB 95 ad ac D ξ := by
  intro p l e R s m args below meth c H locs cells slots Q A H0 k pc idx lsA k' nn as rest v hF hfr hlo hce hsl hsz hS hAc hinv hbig hasl hcat hdec hintr go
  have hlnk := qb_vLnk hinv hbig
  obtain ⟨hx, hb, hml, hown, hts, hK, hEx⟩ := hF
  have hrc : ((rest.map (qm_cv ad)).map fun v => v.category).sum ≤ 8 := by rw [qm_catSum]; exact hcat
  have hmz : c.maxLocals = lsA.size := by rw [hml, hsz]
  unfold qm_intr at hintr
  split at hintr
  · next x y =>
    obtain ⟨⟨h1, h2⟩, hintr⟩ := qm_if2 hintr
    split at hintr
    · next hk =>
      cases hintr
      subst hk
      obtain ⟨hd, -⟩ : decode (qb_bs k) pc = .ok (.invokestatic idx, 3) ∧ True := by
        rcases hdec with ⟨-, q⟩ | ⟨q, -⟩
        · exact absurd q (by omega)
        · exact ⟨q, trivial⟩
      refine va_mmax (rest := rest.map (qm_cv ad)) hx hb hmz hown (hts _ hlnk) (hts _ (qb_memP (j := 2) (i := 186) rfl rfl)) (hts _ (qb_memP (j := 0) (i := 18) rfl rfl)) (hts _ (qb_memP (j := 2) (i := 187) rfl rfl)) (by omega) (by omega) hce hsl hd ?_
      have e1 : (if Int32.ofInt x < Int32.ofInt y then Int32.ofInt y else Int32.ofInt x) = Int32.ofInt (qm_max x y) := by
        unfold qm_max
        simp only [qm_lt h1 h2]
        split <;> rfl
      rw [e1]
      exact go
    · split at hintr
      · next hk =>
        cases hintr
        subst hk
        obtain ⟨hd, -⟩ : decode (qb_bs k) pc = .ok (.invokestatic idx, 3) ∧ True := by
          rcases hdec with ⟨-, q⟩ | ⟨q, -⟩
          · exact absurd q (by omega)
          · exact ⟨q, trivial⟩
        refine va_mmin (rest := rest.map (qm_cv ad)) hx hb hmz hown (hts _ hlnk) (hts _ (qb_memP (j := 3) (i := 127) rfl rfl)) (hts _ (qb_memP (j := 0) (i := 18) rfl rfl)) (hts _ (qb_memP (j := 3) (i := 128) rfl rfl)) (by omega) (by omega) hce hsl hd ?_
        have e1 : (if Int32.ofInt y < Int32.ofInt x then Int32.ofInt y else Int32.ofInt x) = Int32.ofInt (qm_min x y) := by
          unfold qm_min
          simp only [qm_lt h2 h1]
          split <;> rfl
        rw [e1]
        exact go
      · cases hintr
  · next x =>
    obtain ⟨⟨h1, hk⟩, hintr⟩ := qm_if2 hintr
    cases hintr
    subst hk
    obtain ⟨hd, -⟩ : decode (qb_bs k) pc = .ok (.invokestatic idx, 3) ∧ True := by
      rcases hdec with ⟨-, q⟩ | ⟨q, -⟩
      · exact absurd q (by omega)
      · exact ⟨q, trivial⟩
    refine va_mabs (rest := rest.map (qm_cv ad)) hx hb hmz hown (hts _ hlnk) (hts _ (qb_memP (j := 2) (i := 167) rfl rfl)) (hts _ (qb_memP (j := 0) (i := 18) rfl rfl)) (hts _ (qb_memP (j := 2) (i := 168) rfl rfl)) (by omega) (by omega) hce hsl hd ?_
    have e1 : (if 0 ≤ Int32.ofInt x then Int32.ofInt x else 0 - Int32.ofInt x) = Int32.ofInt (qm_abs x) := by
      have e0 : (0 ≤ Int32.ofInt x) ↔ 0 ≤ x := qm_le (x := 0) (by omega) h1
      unfold qm_abs
      simp only [e0]
      split
      · rfl
      · rw [Int32.ofInt_sub]; rfl
    rw [e1]
    exact go
  · next x y =>
    obtain ⟨⟨h1, h2⟩, hintr⟩ := qm_if2 hintr
    split at hintr
    · next hk =>
      cases hintr
      subst hk
      obtain ⟨hd, -⟩ : decode (qb_bs k) pc = .ok (.invokestatic idx, 3) ∧ True := by
        rcases hdec with ⟨-, q⟩ | ⟨q, -⟩
        · exact absurd q (by omega)
        · exact ⟨q, trivial⟩
      refine va_mmax_long (rest := rest.map (qm_cv ad)) hx hb hmz hown (hts _ hlnk) (hts _ (qb_memP (j := 4) (i := 130) rfl rfl)) (hts _ (qb_memP (j := 0) (i := 18) rfl rfl)) (hts _ (qb_memP (j := 4) (i := 131) rfl rfl)) (by omega) (by omega) hce hsl hd ?_
      have e1 : (if Int64.ofInt y < Int64.ofInt x then Int64.ofInt x else Int64.ofInt y) = Int64.ofInt (qm_max x y) := by
        unfold qm_max
        simp only [qm_ltL h2 h1]
        by_cases h3 : y < x
        · rw [if_pos h3, if_neg (by omega)]
        · rw [if_neg h3]
          by_cases h4 : x < y
          · rw [if_pos h4]
          · rw [if_neg h4, show x = y by omega]
      rw [e1]
      exact go
    · split at hintr
      · next hk =>
        cases hintr
        subst hk
        obtain ⟨hd, -⟩ : decode (qb_bs k) pc = .ok (.invokestatic idx, 3) ∧ True := by
          rcases hdec with ⟨-, q⟩ | ⟨q, -⟩
          · exact absurd q (by omega)
          · exact ⟨q, trivial⟩
        refine va_mmin_long (rest := rest.map (qm_cv ad)) hx hb hmz hown (hts _ hlnk) (hts _ (qb_memP (j := 4) (i := 127) rfl rfl)) (hts _ (qb_memP (j := 0) (i := 18) rfl rfl)) (hts _ (qb_memP (j := 4) (i := 128) rfl rfl)) (by omega) (by omega) hce hsl hd ?_
        have e1 : (if Int64.ofInt y < Int64.ofInt x then Int64.ofInt y else Int64.ofInt x) = Int64.ofInt (qm_min x y) := by
          unfold qm_min
          simp only [qm_ltL h2 h1]
          split <;> rfl
        rw [e1]
        exact go
      · cases hintr
  · next cc =>
    split at hintr
    next tx htx =>
      obtain ⟨hk, hintr⟩ := qm_if2 hintr
      cases hintr
      subst hk
      obtain ⟨hd, -⟩ : decode (qb_bs k) pc = .ok (.invokevirtual idx, 3) ∧ True := by
        rcases hdec with ⟨q, -⟩ | ⟨-, q⟩
        · exact ⟨q, trivial⟩
        · exact absurd q (by omega)
      obtain ⟨vv, g1, -, -, -, -⟩ := hEx.2.1 cc tx htx
      refine qj_call (va_runV (As := []) (rest := rest.map (qm_cv ad)) ⟨hx, hb, hml, hown, hts⟩ (qj_length l (L := L) (ad := ad) (ξ := ξ) htx) ⟨callB_of 0 hts (qj_good (qb_memP (j := 1) (i := 186) rfl rfl)) rfl rfl rfl (hts _ (qb_memP (j := 0) (i := 14) rfl rfl)) (hts _ hlnk) ⟨by decide +kernel, by decide +kernel, by decide +kernel⟩ ⟨by show 1 + 1 ≤ R.frames; omega, by show 8 + (1 + 11) + 20 ≤ R.locals; omega⟩, hts _ (qb_memP (j := 1) (i := 184) rfl rfl), hts _ (qb_memP (j := 1) (i := 185) rfl rfl)⟩ ⟨qj_blind, (by obtain ⟨cell, q1, q2, q3, -⟩ := g1.kept hS.2.1; exact ⟨cell, q1, q2, q3⟩), fun U hU hW => ⟨rfl, by show qm_Ex _ _ _ _ _ U U.heap; rw [hU]; exact qm_Ex.warm hW hS.1 hS.2.1 hAc hEx⟩⟩ rfl rfl hsz rfl (lv_room hrc) hd ⟨by show cells + 0 ≤ _; omega, by show slots + 0 ≤ _; omega⟩) ?_
      have e1 : Int32.ofNat tx.length = Int32.ofInt (tx.length : Int) := Int32.ofInt_eq_ofNat.symm
      rw [e1]
      exact go
    next => cases hintr
  · next cc i =>
    split at hintr
    next tx htx =>
      obtain ⟨⟨hk, h1, h2⟩, hintr⟩ := qm_if2 hintr
      cases hintr
      subst hk
      obtain ⟨hd, -⟩ : decode (qb_bs k) pc = .ok (.invokevirtual idx, 3) ∧ True := by
        rcases hdec with ⟨q, -⟩ | ⟨-, q⟩
        · exact ⟨q, trivial⟩
        · exact absurd q (by omega)
      obtain ⟨vv, g1, -, -, -, -⟩ := hEx.2.1 cc tx htx
      have hn : tx.length < 2147483648 := qj_txl htx
      obtain ⟨hin, hcl⟩ := qm_idx h1 h2 hn
      refine qj_call (va_runV (As := [.int (Int32.ofInt i)]) (rest := rest.map (qm_cv ad)) ⟨hx, hb, hml, hown, hts⟩ (qj_charAt l (L := L) (ad := ad) (ξ := ξ) htx hin hn) ⟨callB_of 1 hts (qj_good (qb_memP (j := 1) (i := 196) rfl rfl)) rfl rfl rfl (hts _ (qb_memP (j := 0) (i := 14) rfl rfl)) (hts _ hlnk) ⟨by decide +kernel, by decide +kernel, by decide +kernel⟩ ⟨by show 3 + 1 ≤ R.frames; omega, by show 8 + (2 + 11) + 64 ≤ R.locals; omega⟩, hts _ (qb_memP (j := 1) (i := 194) rfl rfl), hts _ (qb_memP (j := 1) (i := 195) rfl rfl)⟩ ⟨qj_blind, (by obtain ⟨cell, q1, q2, q3, -⟩ := g1.kept hS.2.1; exact ⟨cell, q1, q2, q3⟩), fun U hU hW => ⟨rfl, by show qm_Ex _ _ _ _ _ U U.heap; rw [hU]; exact qm_Ex.warm hW hS.1 hS.2.1 hAc hEx⟩⟩ rfl rfl hsz rfl (lv_room hrc) hd ⟨by show cells + 0 ≤ _; omega, by show slots + 0 ≤ _; omega⟩) ?_
      rw [hcl]
      have e1 : Int32.ofNat (tx.getD i.toNat 0) = Int32.ofInt ((tx.getD i.toNat 0 : Nat) : Int) := Int32.ofInt_eq_ofNat.symm
      rw [e1]
      exact go
    next => cases hintr
  · cases hintr
