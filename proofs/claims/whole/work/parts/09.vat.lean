/-! ===== the tables say what the Statement's do ===== -/
noncomputable def qb_part (j : Nat) : List Jvm.Cond := match j with
  | 0 => tables_1_1
  | 1 => tables_1_2
  | 2 => tables_1_3
  | 3 => tables_1_4
  | 4 => tables_1_5
  | 5 => tables_1_6
  | 6 => tables_1_7
  | 7 => tables_1_8
  | 8 => k2_sels lw_privs_1
  | 9 => k2_sels lw_privs_2
  | 10 => k2_sels lw_privs_3
  | 11 => k2_sels lw_privs_4
  | 12 => k2_sels lw_privs_5
  | 13 => k2_sels lw_privs_6
  | 14 => k2_sels lw_privs_7
  | 15 => k2_sels lw_privs_8
  | _ => []
theorem qb_tabm {x : Jvm.Cond} (h : x ∈ tables_1) : x ∈ lw_tbl := List.mem_append_right _ h
theorem qb_selm {l : List (MethodName × Nat)} (hl : ∀ q ∈ l, q ∈ lw_privs) {x : Jvm.Cond} (h : x ∈ k2_sels l) : x ∈ lw_tbl := by
  obtain ⟨q, hq, rfl⟩ := List.mem_map.mp h
  exact List.mem_append_left _ (List.mem_map.mpr ⟨q, hl q hq, rfl⟩)
theorem qb_partm : ∀ (j : Nat) (x : Jvm.Cond), x ∈ qb_part j → x ∈ lw_tbl
  | 0, _, h => qb_tabm (List.mem_append_left _ h)
  | 1, _, h => qb_tabm (List.mem_append_right _ (List.mem_append_left _ h))
  | 2, _, h => qb_tabm (List.mem_append_right _ (List.mem_append_right _ (List.mem_append_left _ h)))
  | 3, _, h => qb_tabm (List.mem_append_right _ (List.mem_append_right _ (List.mem_append_right _ (List.mem_append_left _ h))))
  | 4, _, h => qb_tabm (List.mem_append_right _ (List.mem_append_right _ (List.mem_append_right _ (List.mem_append_right _ (List.mem_append_left _ h)))))
  | 5, _, h => qb_tabm (List.mem_append_right _ (List.mem_append_right _ (List.mem_append_right _ (List.mem_append_right _ (List.mem_append_right _ (List.mem_append_left _ h))))))
  | 6, _, h => qb_tabm (List.mem_append_right _ (List.mem_append_right _ (List.mem_append_right _ (List.mem_append_right _ (List.mem_append_right _ (List.mem_append_right _ (List.mem_append_left _ h)))))))
  | 7, _, h => qb_tabm (List.mem_append_right _ (List.mem_append_right _ (List.mem_append_right _ (List.mem_append_right _ (List.mem_append_right _ (List.mem_append_right _ (List.mem_append_right _ h)))))))
  | 8, _, h => qb_selm (fun q hq => List.mem_append_left _ hq) h
  | 9, _, h => qb_selm (fun q hq => List.mem_append_right _ (List.mem_append_left _ hq)) h
  | 10, _, h => qb_selm (fun q hq => List.mem_append_right _ (List.mem_append_right _ (List.mem_append_left _ hq))) h
  | 11, _, h => qb_selm (fun q hq => List.mem_append_right _ (List.mem_append_right _ (List.mem_append_right _ (List.mem_append_left _ hq)))) h
  | 12, _, h => qb_selm (fun q hq => List.mem_append_right _ (List.mem_append_right _ (List.mem_append_right _ (List.mem_append_right _ (List.mem_append_left _ hq))))) h
  | 13, _, h => qb_selm (fun q hq => List.mem_append_right _ (List.mem_append_right _ (List.mem_append_right _ (List.mem_append_right _ (List.mem_append_right _ (List.mem_append_left _ hq)))))) h
  | 14, _, h => qb_selm (fun q hq => List.mem_append_right _ (List.mem_append_right _ (List.mem_append_right _ (List.mem_append_right _ (List.mem_append_right _ (List.mem_append_right _ (List.mem_append_left _ hq))))))) h
  | 15, _, h => qb_selm (fun q hq => List.mem_append_right _ (List.mem_append_right _ (List.mem_append_right _ (List.mem_append_right _ (List.mem_append_right _ (List.mem_append_right _ (List.mem_append_right _ hq))))))) h
  | _ + 16, _, h => by cases h
noncomputable def qt_w (j i : Nat) (x : Jvm.Cond) : Bool := decide ((qb_part j)[i]? = some x) && goodWord x
theorem qb_memP {j i : Nat} {x : Jvm.Cond} (h : (qb_part j)[i]? = some x) (hg : goodWord x = true) : x ∈ qb_TB := List.mem_filter.mpr ⟨qb_partm j x (List.mem_of_getElem? h), hg⟩
theorem qb_mem {j i : Nat} {x : Jvm.Cond} (h : qt_w j i x = true) : x ∈ qb_TB := by
  unfold qt_w at h
  simp only [Bool.and_eq_true, decide_eq_true_eq] at h
  exact qb_memP h.1 h.2
theorem qb_good : ∀ x ∈ qb_TB, goodWord x = true := fun x h => (List.mem_filter.mp h).2
theorem qt_c2 {α β : Type} {b : Bool} {x1 y1 : α} {x2 y2 : β} {P : α → β → Prop} (h1 : P x1 x2) (h2 : P y1 y2) : P (cond b x1 y1) (cond b x2 y2) := by
  cases b
  · exact h2
  · exact h1
theorem qv_1 : qv_A cX0_keep qc_1 := qt_chk (B := 48) (by decide +kernel) (by decide +kernel) (fun pc h => by unfold qc_1; rw [h]; rfl)
theorem qv_2 : qv_A cX0_forgetOldest qc_2 := qt_chk (B := 63) (by decide +kernel) (by decide +kernel) (fun pc h => by unfold qc_2; rw [h]; rfl)
theorem qv_3 : qv_A cX0_takeBack qc_3 := qt_chk (B := 118) (by decide +kernel) (by decide +kernel) (fun pc h => by unfold qc_3; rw [h]; rfl)
theorem qv_201 : qv_A cX1_begin qc_201 := qt_chk (B := 75) (by decide +kernel) (by decide +kernel) (fun pc h => by unfold qc_201; rw [h]; rfl)
theorem qv_202 : qv_A cX1_weave qc_202 := qt_chk (B := 105) (by decide +kernel) (by decide +kernel) (fun pc h => by unfold qc_202; rw [h]; rfl)
theorem qv_203 : qv_A cX1_turnIn qc_203 := qt_chk (B := 8) (by decide +kernel) (by decide +kernel) (fun pc h => by unfold qc_203; rw [h]; rfl)
theorem qv_204 : qv_A cX1_quarters qc_204 := qt_chk (B := 26) (by decide +kernel) (by decide +kernel) (fun pc h => by unfold qc_204; rw [h]; rfl)
theorem qv_205 : qv_A cX1_hasCard qc_205 := qt_chk (B := 18) (by decide +kernel) (by decide +kernel) (fun pc h => by unfold qc_205; rw [h]; rfl)
theorem qv_206 : qv_A cX1_hasRow qc_206 := qt_chk (B := 18) (by decide +kernel) (by decide +kernel) (fun pc h => by unfold qc_206; rw [h]; rfl)
theorem qv_207 : qv_A cX1_side qc_207 := qt_chk (B := 9) (by decide +kernel) (by decide +kernel) (fun pc h => by unfold qc_207; rw [h]; rfl)
theorem qv_208 : qv_A cX1_setSide qc_208 := qt_chk (B := 10) (by decide +kernel) (by decide +kernel) (fun pc h => by unfold qc_208; rw [h]; rfl)
theorem qv_209 : qv_A cX1_otherSide qc_209 := qt_chk (B := 16) (by decide +kernel) (by decide +kernel) (fun pc h => by unfold qc_209; rw [h]; rfl)
theorem qv_210 : qv_A cX1_thread qc_210 := qt_chk (B := 15) (by decide +kernel) (by decide +kernel) (fun pc h => by unfold qc_210; rw [h]; rfl)
theorem qv_211 : qv_A cX1_setThread qc_211 := qt_chk (B := 16) (by decide +kernel) (by decide +kernel) (fun pc h => by unfold qc_211; rw [h]; rfl)
theorem qv_212 : qv_A cX1_threadsOn qc_212 := qt_chk (B := 69) (by decide +kernel) (by decide +kernel) (fun pc h => by unfold qc_212; rw [h]; rfl)
theorem qv_213 : qv_A cX1_turningOf qc_213 := qt_chk (B := 9) (by decide +kernel) (by decide +kernel) (fun pc h => by unfold qc_213; rw [h]; rfl)
theorem qv_214 : qv_A cX1_turnOf qc_214 := qt_chk (B := 10) (by decide +kernel) (by decide +kernel) (fun pc h => by unfold qc_214; rw [h]; rfl)
theorem qv_215 : qv_A cX1_twistBehind qc_215 := qt_chk (B := 22) (by decide +kernel) (by decide +kernel) (fun pc h => by unfold qc_215; rw [h]; rfl)
theorem qv_216 : qv_A cX1_front qc_216 := qt_chk (B := 12) (by decide +kernel) (by decide +kernel) (fun pc h => by unfold qc_216; rw [h]; rfl)
theorem qv_217 : qv_A cX1_behind qc_217 := qt_chk (B := 14) (by decide +kernel) (by decide +kernel) (fun pc h => by unfold qc_217; rw [h]; rfl)
theorem qv_218 : qv_A cX1_slant qc_218 := qt_chk (B := 45) (by decide +kernel) (by decide +kernel) (fun pc h => by unfold qc_218; rw [h]; rfl)
theorem qv_219 : qv_A cX1_cells qc_219 := qt_chk (B := 70) (by decide +kernel) (by decide +kernel) (fun pc h => by unfold qc_219; rw [h]; rfl)
theorem qv_220 : qv_A cX1_turned qc_220 := qt_chk (B := 36) (by decide +kernel) (by decide +kernel) (fun pc h => by unfold qc_220; rw [h]; rfl)
theorem qv_221 : qv_A cX1_backs qc_221 := qt_chk (B := 33) (by decide +kernel) (by decide +kernel) (fun pc h => by unfold qc_221; rw [h]; rfl)
theorem qv_222 : qv_A cX1_left qc_222 := qt_chk (B := 37) (by decide +kernel) (by decide +kernel) (fun pc h => by unfold qc_222; rw [h]; rfl)
theorem qv_223 : qv_A cX1_rhyme qc_223 := qt_chk (B := 37) (by decide +kernel) (by decide +kernel) (fun pc h => by unfold qc_223; rw [h]; rfl)
theorem qv_224 : qv_A cX1_comesAgain qc_224 := qt_chk (B := 35) (by decide +kernel) (by decide +kernel) (fun pc h => by unfold qc_224; rw [h]; rfl)
theorem qv_225 : qv_A cX1_joins qc_225 := qt_chk (B := 57) (by decide +kernel) (by decide +kernel) (fun pc h => by unfold qc_225; rw [h]; rfl)
theorem qv_401 : qv_A cX2_at qc_401 := qt_chk (B := 18) (by decide +kernel) (by decide +kernel) (fun pc h => by unfold qc_401; rw [h]; rfl)
theorem qv_402 : qv_A cX2_put qc_402 := qt_chk (B := 15) (by decide +kernel) (by decide +kernel) (fun pc h => by unfold qc_402; rw [h]; rfl)
theorem qv_403 : qv_A cX2_copy qc_403 := qt_chk (B := 27) (by decide +kernel) (by decide +kernel) (fun pc h => by unfold qc_403; rw [h]; rfl)
theorem qv_404 : qv_A cX2_clear qc_404 := qt_chk (B := 19) (by decide +kernel) (by decide +kernel) (fun pc h => by unfold qc_404; rw [h]; rfl)
theorem qv_601 : qv_A cX3_octetAt qc_601 := qt_chk (B := 9) (by decide +kernel) (by decide +kernel) (fun pc h => by unfold qc_601; rw [h]; rfl)
theorem qv_602 : qv_A cX3_add qc_602 := qt_chk (B := 23) (by decide +kernel) (by decide +kernel) (fun pc h => by unfold qc_602; rw [h]; rfl)
theorem qv_603 : qv_A cX3_summed qc_603 := qt_chk (B := 10) (by decide +kernel) (by decide +kernel) (fun pc h => by unfold qc_603; rw [h]; rfl)
theorem qv_604 : qv_A cX3_write qc_604 := qt_chk (B := 138) (by decide +kernel) (by decide +kernel) (fun pc h => by unfold qc_604; rw [h]; rfl)
theorem qv_605 : qv_A cX3_isOne qc_605 := qt_chk (B := 136) (by decide +kernel) (by decide +kernel) (fun pc h => by unfold qc_605; rw [h]; rfl)
theorem qv_606 : qv_A cX3_isCard qc_606 := qt_chk (B := 47) (by decide +kernel) (by decide +kernel) (fun pc h => by unfold qc_606; rw [h]; rfl)
theorem qv_607 : qv_A cX3_turnAt qc_607 := qt_chk (B := 16) (by decide +kernel) (by decide +kernel) (fun pc h => by unfold qc_607; rw [h]; rfl)
theorem qv_608 : qv_A cX3_canTurn qc_608 := qt_chk (B := 72) (by decide +kernel) (by decide +kernel) (fun pc h => by unfold qc_608; rw [h]; rfl)
theorem qv_609 : qv_A cX3_bring qc_609 := qt_chk (B := 128) (by decide +kernel) (by decide +kernel) (fun pc h => by unfold qc_609; rw [h]; rfl)
theorem qv_801 : qv_A cX4_empty qc_801 := qt_chk (B := 39) (by decide +kernel) (by decide +kernel) (fun pc h => by unfold qc_801; rw [h]; rfl)
theorem qv_802 : qv_A cX4_take qc_802 := qt_chk (B := 137) (by decide +kernel) (by decide +kernel) (fun pc h => by unfold qc_802; rw [h]; rfl)
theorem qv_803 : qv_A cX4_place qc_803 := qt_chk (B := 26) (by decide +kernel) (by decide +kernel) (fun pc h => by unfold qc_803; rw [h]; rfl)
theorem qv_804 : qv_A cX4_knows qc_804 := qt_chk (B := 54) (by decide +kernel) (by decide +kernel) (fun pc h => by unfold qc_804; rw [h]; rfl)
theorem qv_805 : qv_A cX4_nameOf qc_805 := qt_chk (B := 105) (by decide +kernel) (by decide +kernel) (fun pc h => by unfold qc_805; rw [h]; rfl)
theorem qv_806 : qv_A cX4_isOfPack qc_806 := qt_chk (B := 32) (by decide +kernel) (by decide +kernel) (fun pc h => by unfold qc_806; rw [h]; rfl)
theorem qv_807 : qv_A cX4_addToPack qc_807 := qt_chk (B := 31) (by decide +kernel) (by decide +kernel) (fun pc h => by unfold qc_807; rw [h]; rfl)
theorem qv_808 : qv_A cX4_addLetter qc_808 := qt_chk (B := 35) (by decide +kernel) (by decide +kernel) (fun pc h => by unfold qc_808; rw [h]; rfl)
theorem qv_809 : qv_A cX4_tellAgain qc_809 := qt_chk (B := 88) (by decide +kernel) (by decide +kernel) (fun pc h => by unfold qc_809; rw [h]; rfl)
theorem qv_810 : qv_A cX4_turningOfLetter qc_810 := qt_chk (B := 21) (by decide +kernel) (by decide +kernel) (fun pc h => by unfold qc_810; rw [h]; rfl)
theorem qv_811 : qv_A cX4_turning qc_811 := qt_chk (B := 58) (by decide +kernel) (by decide +kernel) (fun pc h => by unfold qc_811; rw [h]; rfl)
theorem qv_812 : qv_A cX4_oneTurn qc_812 := qt_chk (B := 34) (by decide +kernel) (by decide +kernel) (fun pc h => by unfold qc_812; rw [h]; rfl)
theorem qv_1001 : qv_A cX5_read qc_1001 := qt_chk (B := 201) (by decide +kernel) (by decide +kernel) (fun pc h => by unfold qc_1001; rw [h]; rfl)
theorem qv_1002 : qv_A cX5_newName qc_1002 := qt_chk (B := 51) (by decide +kernel) (by decide +kernel) (fun pc h => by unfold qc_1002; rw [h]; rfl)
theorem qv_1003 : qv_A cX5_knownName qc_1003 := qt_chk (B := 50) (by decide +kernel) (by decide +kernel) (fun pc h => by unfold qc_1003; rw [h]; rfl)
theorem qv_1004 : qv_A cX5_readColour qc_1004 := qt_chk (B := 73) (by decide +kernel) (by decide +kernel) (fun pc h => by unfold qc_1004; rw [h]; rfl)
theorem qv_1005 : qv_A cX5_readCard qc_1005 := qt_chk (B := 213) (by decide +kernel) (by decide +kernel) (fun pc h => by unfold qc_1005; rw [h]; rfl)
theorem qv_1006 : qv_A cX5_readPack qc_1006 := qt_chk (B := 118) (by decide +kernel) (by decide +kernel) (fun pc h => by unfold qc_1006; rw [h]; rfl)
theorem qv_1007 : qv_A cX5_readPackCard qc_1007 := qt_chk (B := 67) (by decide +kernel) (by decide +kernel) (fun pc h => by unfold qc_1007; rw [h]; rfl)
theorem qv_1008 : qv_A cX5_readTwist qc_1008 := qt_chk (B := 74) (by decide +kernel) (by decide +kernel) (fun pc h => by unfold qc_1008; rw [h]; rfl)
theorem qv_1009 : qv_A cX5_readWeave qc_1009 := qt_chk (B := 96) (by decide +kernel) (by decide +kernel) (fun pc h => by unfold qc_1009; rw [h]; rfl)
theorem qv_1010 : qv_A cX5_beginsTurn qc_1010 := qt_chk (B := 66) (by decide +kernel) (by decide +kernel) (fun pc h => by unfold qc_1010; rw [h]; rfl)
theorem qv_1011 : qv_A cX5_readTurn qc_1011 := qt_chk (B := 130) (by decide +kernel) (by decide +kernel) (fun pc h => by unfold qc_1011; rw [h]; rfl)
theorem qv_1012 : qv_A cX5_readLetter qc_1012 := qt_chk (B := 125) (by decide +kernel) (by decide +kernel) (fun pc h => by unfold qc_1012; rw [h]; rfl)
theorem qv_1201 : qv_A cX6_read qc_1201 := qt_chk (B := 190) (by decide +kernel) (by decide +kernel) (fun pc h => by unfold qc_1201; rw [h]; rfl)
theorem qv_1202 : qv_A cX6_add qc_1202 := qt_chk (B := 36) (by decide +kernel) (by decide +kernel) (fun pc h => by unfold qc_1202; rw [h]; rfl)
theorem qv_1203 : qv_A cX6_stepAndAdd qc_1203 := qt_chk (B := 14) (by decide +kernel) (by decide +kernel) (fun pc h => by unfold qc_1203; rw [h]; rfl)
theorem qv_1204 : qv_A cX6_mayOpen qc_1204 := qt_chk (B := 23) (by decide +kernel) (by decide +kernel) (fun pc h => by unfold qc_1204; rw [h]; rfl)
theorem qv_1205 : qv_A cX6_readTest qc_1205 := qt_chk (B := 70) (by decide +kernel) (by decide +kernel) (fun pc h => by unfold qc_1205; rw [h]; rfl)
theorem qv_1206 : qv_A cX6_readBoth qc_1206 := qt_chk (B := 70) (by decide +kernel) (by decide +kernel) (fun pc h => by unfold qc_1206; rw [h]; rfl)
theorem qv_1207 : qv_A cX6_readFact qc_1207 := qt_chk (B := 126) (by decide +kernel) (by decide +kernel) (fun pc h => by unfold qc_1207; rw [h]; rfl)
theorem qv_1208 : qv_A cX6_readCompared qc_1208 := qt_chk (B := 107) (by decide +kernel) (by decide +kernel) (fun pc h => by unfold qc_1208; rw [h]; rfl)
theorem qv_1209 : qv_A cX6_readSum qc_1209 := qt_chk (B := 103) (by decide +kernel) (by decide +kernel) (fun pc h => by unfold qc_1209; rw [h]; rfl)
theorem qv_1210 : qv_A cX6_readProduct qc_1210 := qt_chk (B := 103) (by decide +kernel) (by decide +kernel) (fun pc h => by unfold qc_1210; rw [h]; rfl)
theorem qv_1211 : qv_A cX6_readPart qc_1211 := qt_chk (B := 302) (by decide +kernel) (by decide +kernel) (fun pc h => by unfold qc_1211; rw [h]; rfl)
theorem qv_1212 : qv_A cX6_readPair qc_1212 := qt_chk (B := 124) (by decide +kernel) (by decide +kernel) (fun pc h => by unfold qc_1212; rw [h]; rfl)
theorem qv_1213 : qv_A cX6_answer qc_1213 := qt_chk (B := 173) (by decide +kernel) (by decide +kernel) (fun pc h => by unfold qc_1213; rw [h]; rfl)
theorem qv_1214 : qv_A cX6_push qc_1214 := qt_chk (B := 40) (by decide +kernel) (by decide +kernel) (fun pc h => by unfold qc_1214; rw [h]; rfl)
theorem qv_1215 : qv_A cX6_pop qc_1215 := qt_chk (B := 41) (by decide +kernel) (by decide +kernel) (fun pc h => by unfold qc_1215; rw [h]; rfl)
theorem qv_1216 : qv_A cX6_valueIn qc_1216 := qt_chk (B := 120) (by decide +kernel) (by decide +kernel) (fun pc h => by unfold qc_1216; rw [h]; rfl)
theorem qv_1217 : qv_A cX6_ofRow qc_1217 := qt_chk (B := 53) (by decide +kernel) (by decide +kernel) (fun pc h => by unfold qc_1217; rw [h]; rfl)
theorem qv_1218 : qv_A cX6_ofOne qc_1218 := qt_chk (B := 172) (by decide +kernel) (by decide +kernel) (fun pc h => by unfold qc_1218; rw [h]; rfl)
theorem qv_1219 : qv_A cX6_held qc_1219 := qt_chk (B := 14) (by decide +kernel) (by decide +kernel) (fun pc h => by unfold qc_1219; rw [h]; rfl)
theorem qv_1220 : qv_A cX6_ofTwo qc_1220 := qt_chk (B := 149) (by decide +kernel) (by decide +kernel) (fun pc h => by unfold qc_1220; rw [h]; rfl)
theorem qv_1401 : qv_A cX7_take qc_1401 := qt_chk (B := 118) (by decide +kernel) (by decide +kernel) (fun pc h => by unfold qc_1401; rw [h]; rfl)
theorem qv_1402 : qv_A cX7_known qc_1402 := qt_chk (B := 22) (by decide +kernel) (by decide +kernel) (fun pc h => by unfold qc_1402; rw [h]; rfl)
theorem qv_1403 : qv_A cX7_fits qc_1403 := qt_chk (B := 34) (by decide +kernel) (by decide +kernel) (fun pc h => by unfold qc_1403; rw [h]; rfl)
theorem qv_1404 : qv_A cX7_rowsAlike qc_1404 := qt_chk (B := 69) (by decide +kernel) (by decide +kernel) (fun pc h => by unfold qc_1404; rw [h]; rfl)
theorem qv_1405 : qv_A cX7_cardFits qc_1405 := qt_chk (B := 35) (by decide +kernel) (by decide +kernel) (fun pc h => by unfold qc_1405; rw [h]; rfl)
theorem qv_1406 : qv_A cX7_othersFit qc_1406 := qt_chk (B := 34) (by decide +kernel) (by decide +kernel) (fun pc h => by unfold qc_1406; rw [h]; rfl)
theorem qv_1407 : qv_A cX7_fitsOtherwise qc_1407 := qt_chk (B := 70) (by decide +kernel) (by decide +kernel) (fun pc h => by unfold qc_1407; rw [h]; rfl)
theorem qv_1601 : qv_A cX8_add qc_1601 := qt_chk (B := 52) (by decide +kernel) (by decide +kernel) (fun pc h => by unfold qc_1601; rw [h]; rfl)
theorem qv_1602 : qv_A cX8_byteAt qc_1602 := qt_chk (B := 32) (by decide +kernel) (by decide +kernel) (fun pc h => by unfold qc_1602; rw [h]; rfl)
theorem qv_1801 : qv_A cX9_inReach qc_1801 := qt_chk (B := 29) (by decide +kernel) (by decide +kernel) (fun pc h => by unfold qc_1801; rw [h]; rfl)
theorem qv_1802 : qv_A cX9_mayTurn qc_1802 := qt_chk (B := 22) (by decide +kernel) (by decide +kernel) (fun pc h => by unfold qc_1802; rw [h]; rfl)
theorem qv_1803 : qv_A cX9_shows qc_1803 := qt_chk (B := 55) (by decide +kernel) (by decide +kernel) (fun pc h => by unfold qc_1803; rw [h]; rfl)
theorem qv_1804 : qv_A cX9_count qc_1804 := qt_chk (B := 61) (by decide +kernel) (by decide +kernel) (fun pc h => by unfold qc_1804; rw [h]; rfl)
theorem qv_1805 : qv_A cX9_countRow qc_1805 := qt_chk (B := 156) (by decide +kernel) (by decide +kernel) (fun pc h => by unfold qc_1805; rw [h]; rfl)
theorem qv_1806 : qv_A cX9_isMeant qc_1806 := qt_chk (B := 16) (by decide +kernel) (by decide +kernel) (fun pc h => by unfold qc_1806; rw [h]; rfl)
theorem qv_1807 : qv_A cX9_number qc_1807 := qt_chk (B := 93) (by decide +kernel) (by decide +kernel) (fun pc h => by unfold qc_1807; rw [h]; rfl)
theorem qv_1808 : qv_A cX9_fewestBacks qc_1808 := qt_chk (B := 112) (by decide +kernel) (by decide +kernel) (fun pc h => by unfold qc_1808; rw [h]; rfl)
theorem qv_1809 : qv_A cX9_leaveNoTwist qc_1809 := qt_chk (B := 54) (by decide +kernel) (by decide +kernel) (fun pc h => by unfold qc_1809; rw [h]; rfl)
theorem qv_1810 : qv_A cX9_barredRow qc_1810 := qt_chk (B := 44) (by decide +kernel) (by decide +kernel) (fun pc h => by unfold qc_1810; rw [h]; rfl)
theorem qv_1811 : qv_A cX9_firstBarred qc_1811 := qt_chk (B := 32) (by decide +kernel) (by decide +kernel) (fun pc h => by unfold qc_1811; rw [h]; rfl)
theorem qv_1812 : qv_A cX9_canBe qc_1812 := qt_chk (B := 34) (by decide +kernel) (by decide +kernel) (fun pc h => by unfold qc_1812; rw [h]; rfl)
theorem qv_1813 : qv_A cX9_mostRight qc_1813 := qt_chk (B := 134) (by decide +kernel) (by decide +kernel) (fun pc h => by unfold qc_1813; rw [h]; rfl)
theorem qv_1814 : qv_A cX9_rightWith qc_1814 := qt_chk (B := 110) (by decide +kernel) (by decide +kernel) (fun pc h => by unfold qc_1814; rw [h]; rfl)
theorem qv_1815 : qv_A cX9_fewestApart qc_1815 := qt_chk (B := 92) (by decide +kernel) (by decide +kernel) (fun pc h => by unfold qc_1815; rw [h]; rfl)
theorem qv_1816 : qv_A cX9_putPattern qc_1816 := qt_chk (B := 21) (by decide +kernel) (by decide +kernel) (fun pc h => by unfold qc_1816; rw [h]; rfl)
theorem qv_1817 : qv_A cX9_patternOf qc_1817 := qt_chk (B := 24) (by decide +kernel) (by decide +kernel) (fun pc h => by unfold qc_1817; rw [h]; rfl)
theorem qv_1818 : qv_A cX9_patternsOf qc_1818 := qt_chk (B := 53) (by decide +kernel) (by decide +kernel) (fun pc h => by unfold qc_1818; rw [h]; rfl)
theorem qv_1819 : qv_A cX9_isWay qc_1819 := qt_chk (B := 72) (by decide +kernel) (by decide +kernel) (fun pc h => by unfold qc_1819; rw [h]; rfl)
theorem qv_1820 : qv_A cX9_agree qc_1820 := qt_chk (B := 87) (by decide +kernel) (by decide +kernel) (fun pc h => by unfold qc_1820; rw [h]; rfl)
theorem qv_2001 : qv_A cX10_begin qc_2001 := qt_chk (B := 25) (by decide +kernel) (by decide +kernel) (fun pc h => by unfold qc_2001; rw [h]; rfl)
theorem qv_2002 : qv_A cX10_step qc_2002 := qt_chk (B := 250) (by decide +kernel) (by decide +kernel) (fun pc h => by unfold qc_2002; rw [h]; rfl)
theorem qv_2003 : qv_A cX10_kindOf qc_2003 := qt_chk (B := 39) (by decide +kernel) (by decide +kernel) (fun pc h => by unfold qc_2003; rw [h]; rfl)
theorem qv_2004 : qv_A cX10_take qc_2004 := qt_chk (B := 101) (by decide +kernel) (by decide +kernel) (fun pc h => by unfold qc_2004; rw [h]; rfl)
theorem qv_2005 : qv_A cX10_fail qc_2005 := qt_chk (B := 19) (by decide +kernel) (by decide +kernel) (fun pc h => by unfold qc_2005; rw [h]; rfl)
theorem qv_2006 : qv_A cX10_failHere qc_2006 := qt_chk (B := 22) (by decide +kernel) (by decide +kernel) (fun pc h => by unfold qc_2006; rw [h]; rfl)
theorem qv_2007 : qv_A cX10_ended qc_2007 := qt_chk (B := 13) (by decide +kernel) (by decide +kernel) (fun pc h => by unfold qc_2007; rw [h]; rfl)
theorem qv_2008 : qv_A cX10_isMark qc_2008 := qt_chk (B := 22) (by decide +kernel) (by decide +kernel) (fun pc h => by unfold qc_2008; rw [h]; rfl)
theorem qv_2009 : qv_A cX10_isWord qc_2009 := qt_chk (B := 65) (by decide +kernel) (by decide +kernel) (fun pc h => by unfold qc_2009; rw [h]; rfl)
theorem qv_2010 : qv_A cX10_isOwnWord qc_2010 := qt_chk (B := 80) (by decide +kernel) (by decide +kernel) (fun pc h => by unfold qc_2010; rw [h]; rfl)
theorem qv_2011 : qv_A cX10_meansName qc_2011 := qt_chk (B := 21) (by decide +kernel) (by decide +kernel) (fun pc h => by unfold qc_2011; rw [h]; rfl)
theorem qv_2012 : qv_A cX10_isNumber qc_2012 := qt_chk (B := 14) (by decide +kernel) (by decide +kernel) (fun pc h => by unfold qc_2012; rw [h]; rfl)
theorem qv_2013 : qv_A cX10_mustBeName qc_2013 := qt_chk (B := 51) (by decide +kernel) (by decide +kernel) (fun pc h => by unfold qc_2013; rw [h]; rfl)
theorem qv_2014 : qv_A cX10_mustBeNumber qc_2014 := qt_chk (B := 42) (by decide +kernel) (by decide +kernel) (fun pc h => by unfold qc_2014; rw [h]; rfl)
theorem qv_2015 : qv_A cX10_takeMark qc_2015 := qt_chk (B := 20) (by decide +kernel) (by decide +kernel) (fun pc h => by unfold qc_2015; rw [h]; rfl)
theorem qv_2016 : qv_A cX10_takeWord qc_2016 := qt_chk (B := 20) (by decide +kernel) (by decide +kernel) (fun pc h => by unfold qc_2016; rw [h]; rfl)
theorem qv_2201 : qv_A cX11_feed qc_2201 := qt_chk (B := 65) (by decide +kernel) (by decide +kernel) (fun pc h => by unfold qc_2201; rw [h]; rfl)
theorem qv_2202 : qv_A cX11_end qc_2202 := qt_chk (B := 27) (by decide +kernel) (by decide +kernel) (fun pc h => by unfold qc_2202; rw [h]; rfl)
theorem qv_2203 : qv_A cX11_text qc_2203 := qt_chk (B := 80) (by decide +kernel) (by decide +kernel) (fun pc h => by unfold qc_2203; rw [h]; rfl)
theorem qv_2204 : qv_A cX11_fault qc_2204 := qt_chk (B := 46) (by decide +kernel) (by decide +kernel) (fun pc h => by unfold qc_2204; rw [h]; rfl)
theorem qv_2205 : qv_A cX11_loom qc_2205 := qt_chk (B := 171) (by decide +kernel) (by decide +kernel) (fun pc h => by unfold qc_2205; rw [h]; rfl)
theorem qv_2206 : qv_A cX11_letter qc_2206 := qt_chk (B := 43) (by decide +kernel) (by decide +kernel) (fun pc h => by unfold qc_2206; rw [h]; rfl)
theorem qv_2207 : qv_A cX11_card qc_2207 := qt_chk (B := 131) (by decide +kernel) (by decide +kernel) (fun pc h => by unfold qc_2207; rw [h]; rfl)
theorem qv_2208 : qv_A cX11_pack qc_2208 := qt_chk (B := 46) (by decide +kernel) (by decide +kernel) (fun pc h => by unfold qc_2208; rw [h]; rfl)
theorem qv_2209 : qv_A cX11_belt qc_2209 := qt_chk (B := 115) (by decide +kernel) (by decide +kernel) (fun pc h => by unfold qc_2209; rw [h]; rfl)
theorem qv_2210 : qv_A cX11_shown qc_2210 := qt_chk (B := 27) (by decide +kernel) (by decide +kernel) (fun pc h => by unfold qc_2210; rw [h]; rfl)
theorem qv_2211 : qv_A cX11_turn qc_2211 := qt_chk (B := 85) (by decide +kernel) (by decide +kernel) (fun pc h => by unfold qc_2211; rw [h]; rfl)
theorem qv_2212 : qv_A cX11_unweave qc_2212 := qt_chk (B := 51) (by decide +kernel) (by decide +kernel) (fun pc h => by unfold qc_2212; rw [h]; rfl)
theorem qv_2213 : qv_A cX11_shift qc_2213 := qt_chk (B := 33) (by decide +kernel) (by decide +kernel) (fun pc h => by unfold qc_2213; rw [h]; rfl)
theorem qv_2214 : qv_A cX11_string qc_2214 := qt_chk (B := 32) (by decide +kernel) (by decide +kernel) (fun pc h => by unfold qc_2214; rw [h]; rfl)
theorem qv_2215 : qv_A cX11_undo qc_2215 := qt_chk (B := 8) (by decide +kernel) (by decide +kernel) (fun pc h => by unfold qc_2215; rw [h]; rfl)
theorem qv_2216 : qv_A cX11_strip qc_2216 := qt_chk (B := 60) (by decide +kernel) (by decide +kernel) (fun pc h => by unfold qc_2216; rw [h]; rfl)
theorem qv_2217 : qv_A cX11_woven qc_2217 := qt_chk (B := 101) (by decide +kernel) (by decide +kernel) (fun pc h => by unfold qc_2217; rw [h]; rfl)
theorem qv_2218 : qv_A cX11_barred qc_2218 := qt_chk (B := 51) (by decide +kernel) (by decide +kernel) (fun pc h => by unfold qc_2218; rw [h]; rfl)
theorem qv_2219 : qv_A cX11_apart qc_2219 := qt_chk (B := 43) (by decide +kernel) (by decide +kernel) (fun pc h => by unfold qc_2219; rw [h]; rfl)
theorem qv_2220 : qv_A cX11_both qc_2220 := qt_chk (B := 61) (by decide +kernel) (by decide +kernel) (fun pc h => by unfold qc_2220; rw [h]; rfl)
theorem qv_2221 : qv_A cX11_nearest qc_2221 := qt_chk (B := 76) (by decide +kernel) (by decide +kernel) (fun pc h => by unfold qc_2221; rw [h]; rfl)
theorem qv_2222 : qv_A cX11_wrong qc_2222 := qt_chk (B := 141) (by decide +kernel) (by decide +kernel) (fun pc h => by unfold qc_2222; rw [h]; rfl)
theorem qv_2223 : qv_A cX11_mend qc_2223 := qt_chk (B := 34) (by decide +kernel) (by decide +kernel) (fun pc h => by unfold qc_2223; rw [h]; rfl)
theorem qv_2224 : qv_A cX11_sure qc_2224 := qt_chk (B := 74) (by decide +kernel) (by decide +kernel) (fun pc h => by unfold qc_2224; rw [h]; rfl)
theorem qv_2225 : qv_A cX11_ask qc_2225 := qt_chk (B := 34) (by decide +kernel) (by decide +kernel) (fun pc h => by unfold qc_2225; rw [h]; rfl)
theorem qv_2226 : qv_A cX11_image qc_2226 := qt_chk (B := 19) (by decide +kernel) (by decide +kernel) (fun pc h => by unfold qc_2226; rw [h]; rfl)
theorem qv_2227 : qv_A cX11_octet qc_2227 := qt_chk (B := 28) (by decide +kernel) (by decide +kernel) (fun pc h => by unfold qc_2227; rw [h]; rfl)
theorem qv_2228 : qv_A cX11_on qc_2228 := qt_chk (B := 52) (by decide +kernel) (by decide +kernel) (fun pc h => by unfold qc_2228; rw [h]; rfl)
theorem qv_2401 : qv_A cX12_isIn qc_2401 := qt_chk (B := 19) (by decide +kernel) (by decide +kernel) (fun pc h => by unfold qc_2401; rw [h]; rfl)
theorem qv_2402 : qv_A cX12_feed qc_2402 := qt_chk (B := 119) (by decide +kernel) (by decide +kernel) (fun pc h => by unfold qc_2402; rw [h]; rfl)
theorem qv_2403 : qv_A cX12_end qc_2403 := qt_chk (B := 21) (by decide +kernel) (by decide +kernel) (fun pc h => by unfold qc_2403; rw [h]; rfl)
theorem qv_2404 : qv_A cX12_fail qc_2404 := qt_chk (B := 19) (by decide +kernel) (by decide +kernel) (fun pc h => by unfold qc_2404; rw [h]; rfl)
theorem qv_2405 : qv_A cX12_isLetter qc_2405 := qt_chk (B := 18) (by decide +kernel) (by decide +kernel) (fun pc h => by unfold qc_2405; rw [h]; rfl)
theorem qv_2406 : qv_A cX12_isDigit qc_2406 := qt_chk (B := 18) (by decide +kernel) (by decide +kernel) (fun pc h => by unfold qc_2406; rw [h]; rfl)
theorem qv_2407 : qv_A cX12_look qc_2407 := qt_chk (B := 77) (by decide +kernel) (by decide +kernel) (fun pc h => by unfold qc_2407; rw [h]; rfl)
theorem qv_2408 : qv_A cX12_isHere qc_2408 := qt_chk (B := 109) (by decide +kernel) (by decide +kernel) (fun pc h => by unfold qc_2408; rw [h]; rfl)
theorem qv_2409 : qv_A cX12_takes qc_2409 := qt_chk (B := 31) (by decide +kernel) (by decide +kernel) (fun pc h => by unfold qc_2409; rw [h]; rfl)
theorem qv_2410 : qv_A cX12_asks qc_2410 := qt_chk (B := 25) (by decide +kernel) (by decide +kernel) (fun pc h => by unfold qc_2410; rw [h]; rfl)
theorem qv_2411 : qv_A cX12_takesSign qc_2411 := qt_chk (B := 29) (by decide +kernel) (by decide +kernel) (fun pc h => by unfold qc_2411; rw [h]; rfl)
theorem qv_2412 : qv_A cX12_asksSign qc_2412 := qt_chk (B := 25) (by decide +kernel) (by decide +kernel) (fun pc h => by unfold qc_2412; rw [h]; rfl)
theorem qv_2413 : qv_A cX12_number qc_2413 := qt_chk (B := 159) (by decide +kernel) (by decide +kernel) (fun pc h => by unfold qc_2413; rw [h]; rfl)
theorem qv_2414 : qv_A cX12_isOwnHere qc_2414 := qt_chk (B := 150) (by decide +kernel) (by decide +kernel) (fun pc h => by unfold qc_2414; rw [h]; rfl)
theorem qv_2415 : qv_A cX12_name qc_2415 := qt_chk (B := 155) (by decide +kernel) (by decide +kernel) (fun pc h => by unfold qc_2415; rw [h]; rfl)
theorem qv_2416 : qv_A cX12_isFull qc_2416 := qt_chk (B := 36) (by decide +kernel) (by decide +kernel) (fun pc h => by unfold qc_2416; rw [h]; rfl)
theorem qv_2417 : qv_A cX12_nameOf qc_2417 := qt_chk (B := 42) (by decide +kernel) (by decide +kernel) (fun pc h => by unfold qc_2417; rw [h]; rfl)
theorem qv_2418 : qv_A cX12_newName qc_2418 := qt_chk (B := 46) (by decide +kernel) (by decide +kernel) (fun pc h => by unfold qc_2418; rw [h]; rfl)
theorem qv_2419 : qv_A cX12_oneOf qc_2419 := qt_chk (B := 49) (by decide +kernel) (by decide +kernel) (fun pc h => by unfold qc_2419; rw [h]; rfl)
theorem qv_2420 : qv_A cX12_colourTold qc_2420 := qt_chk (B := 48) (by decide +kernel) (by decide +kernel) (fun pc h => by unfold qc_2420; rw [h]; rfl)
theorem qv_2421 : qv_A cX12_cardTold qc_2421 := qt_chk (B := 133) (by decide +kernel) (by decide +kernel) (fun pc h => by unfold qc_2421; rw [h]; rfl)
theorem qv_2422 : qv_A cX12_packTold qc_2422 := qt_chk (B := 124) (by decide +kernel) (by decide +kernel) (fun pc h => by unfold qc_2422; rw [h]; rfl)
theorem qv_2423 : qv_A cX12_opens qc_2423 := qt_chk (B := 45) (by decide +kernel) (by decide +kernel) (fun pc h => by unfold qc_2423; rw [h]; rfl)
theorem qv_2424 : qv_A cX12_letterIs qc_2424 := qt_chk (B := 40) (by decide +kernel) (by decide +kernel) (fun pc h => by unfold qc_2424; rw [h]; rfl)
theorem qv_2425 : qv_A cX12_turnEnds qc_2425 := qt_chk (B := 98) (by decide +kernel) (by decide +kernel) (fun pc h => by unfold qc_2425; rw [h]; rfl)
theorem qv_2426 : qv_A cX12_isNameAhead qc_2426 := qt_chk (B := 30) (by decide +kernel) (by decide +kernel) (fun pc h => by unfold qc_2426; rw [h]; rfl)
theorem qv_2427 : qv_A cX12_isPartTold qc_2427 := qt_chk (B := 154) (by decide +kernel) (by decide +kernel) (fun pc h => by unfold qc_2427; rw [h]; rfl)
theorem qv_2428 : qv_A cX12_isTurnAhead qc_2428 := qt_chk (B := 68) (by decide +kernel) (by decide +kernel) (fun pc h => by unfold qc_2428; rw [h]; rfl)
theorem qv_2429 : qv_A cX12_turnTold qc_2429 := qt_chk (B := 120) (by decide +kernel) (by decide +kernel) (fun pc h => by unfold qc_2429; rw [h]; rfl)
theorem qv_2430 : qv_A cX12_weaveTold qc_2430 := qt_chk (B := 38) (by decide +kernel) (by decide +kernel) (fun pc h => by unfold qc_2430; rw [h]; rfl)
theorem qv_2431 : qv_A cX12_statementTold qc_2431 := qt_chk (B := 142) (by decide +kernel) (by decide +kernel) (fun pc h => by unfold qc_2431; rw [h]; rfl)
theorem qv_2432 : qv_A cX12_text qc_2432 := qt_chk (B := 132) (by decide +kernel) (by decide +kernel) (fun pc h => by unfold qc_2432; rw [h]; rfl)
theorem qv_2433 : qv_A cX12_stands qc_2433 := qt_chk (B := 231) (by decide +kernel) (by decide +kernel) (fun pc h => by unfold qc_2433; rw [h]; rfl)
theorem qv_2434 : qv_A cX12_fault qc_2434 := qt_chk (B := 25) (by decide +kernel) (by decide +kernel) (fun pc h => by unfold qc_2434; rw [h]; rfl)
theorem qv_2435 : qv_A cX12_colourMany qc_2435 := qt_chk (B := 7) (by decide +kernel) (by decide +kernel) (fun pc h => by unfold qc_2435; rw [h]; rfl)
theorem qv_2436 : qv_A cX12_cardMany qc_2436 := qt_chk (B := 7) (by decide +kernel) (by decide +kernel) (fun pc h => by unfold qc_2436; rw [h]; rfl)
theorem qv_2437 : qv_A cX12_packMany qc_2437 := qt_chk (B := 7) (by decide +kernel) (by decide +kernel) (fun pc h => by unfold qc_2437; rw [h]; rfl)
theorem qv_2438 : qv_A cX12_isCard qc_2438 := qt_chk (B := 14) (by decide +kernel) (by decide +kernel) (fun pc h => by unfold qc_2438; rw [h]; rfl)
theorem qv_2439 : qv_A cX12_isPack qc_2439 := qt_chk (B := 14) (by decide +kernel) (by decide +kernel) (fun pc h => by unfold qc_2439; rw [h]; rfl)
theorem qv_2440 : qv_A cX12_moved qc_2440 := qt_chk (B := 20) (by decide +kernel) (by decide +kernel) (fun pc h => by unfold qc_2440; rw [h]; rfl)
theorem qv_2441 : qv_A cX12_turnBy qc_2441 := qt_chk (B := 65) (by decide +kernel) (by decide +kernel) (fun pc h => by unfold qc_2441; rw [h]; rfl)
theorem qv_2442 : qv_A cX12_twistAt qc_2442 := qt_chk (B := 37) (by decide +kernel) (by decide +kernel) (fun pc h => by unfold qc_2442; rw [h]; rfl)
theorem qv_2443 : qv_A cX12_apartOf qc_2443 := qt_chk (B := 11) (by decide +kernel) (by decide +kernel) (fun pc h => by unfold qc_2443; rw [h]; rfl)
theorem qv_2444 : qv_A cX12_canTurn qc_2444 := qt_chk (B := 52) (by decide +kernel) (by decide +kernel) (fun pc h => by unfold qc_2444; rw [h]; rfl)
theorem qv_2445 : qv_A cX12_turns0 qc_2445 := qt_chk (B := 58) (by decide +kernel) (by decide +kernel) (fun pc h => by unfold qc_2445; rw [h]; rfl)
theorem qv_2446 : qv_A cX12_cornerBy qc_2446 := qt_chk (B := 8) (by decide +kernel) (by decide +kernel) (fun pc h => by unfold qc_2446; rw [h]; rfl)
theorem qv_2447 : qv_A cX12_threadOf qc_2447 := qt_chk (B := 18) (by decide +kernel) (by decide +kernel) (fun pc h => by unfold qc_2447; rw [h]; rfl)
theorem qv_2448 : qv_A cX12_frontOf qc_2448 := qt_chk (B := 27) (by decide +kernel) (by decide +kernel) (fun pc h => by unfold qc_2448; rw [h]; rfl)
theorem qv_2449 : qv_A cX12_slantOf qc_2449 := qt_chk (B := 56) (by decide +kernel) (by decide +kernel) (fun pc h => by unfold qc_2449; rw [h]; rfl)
theorem qv_2450 : qv_A cX12_leftAll qc_2450 := qt_chk (B := 35) (by decide +kernel) (by decide +kernel) (fun pc h => by unfold qc_2450; rw [h]; rfl)
theorem qv_2451 : qv_A cX12_areRowsAlike qc_2451 := qt_chk (B := 45) (by decide +kernel) (by decide +kernel) (fun pc h => by unfold qc_2451; rw [h]; rfl)
theorem qv_2452 : qv_A cX12_isRhyme qc_2452 := qt_chk (B := 42) (by decide +kernel) (by decide +kernel) (fun pc h => by unfold qc_2452; rw [h]; rfl)
theorem qv_2453 : qv_A cX12_rhyme qc_2453 := qt_chk (B := 27) (by decide +kernel) (by decide +kernel) (fun pc h => by unfold qc_2453; rw [h]; rfl)
theorem qv_2454 : qv_A cX12_joins qc_2454 := qt_chk (B := 62) (by decide +kernel) (by decide +kernel) (fun pc h => by unfold qc_2454; rw [h]; rfl)
theorem qv_2455 : qv_A cX12_loom qc_2455 := qt_chk (B := 151) (by decide +kernel) (by decide +kernel) (fun pc h => by unfold qc_2455; rw [h]; rfl)
theorem qv_2456 : qv_A cX12_letter qc_2456 := qt_chk (B := 132) (by decide +kernel) (by decide +kernel) (fun pc h => by unfold qc_2456; rw [h]; rfl)
theorem qv_2457 : qv_A cX12_backOf qc_2457 := qt_chk (B := 38) (by decide +kernel) (by decide +kernel) (fun pc h => by unfold qc_2457; rw [h]; rfl)
theorem qv_2458 : qv_A cX12_card qc_2458 := qt_chk (B := 109) (by decide +kernel) (by decide +kernel) (fun pc h => by unfold qc_2458; rw [h]; rfl)
theorem qv_2459 : qv_A cX12_pack qc_2459 := qt_chk (B := 34) (by decide +kernel) (by decide +kernel) (fun pc h => by unfold qc_2459; rw [h]; rfl)
theorem qv_2460 : qv_A cX12_belt qc_2460 := qt_chk (B := 109) (by decide +kernel) (by decide +kernel) (fun pc h => by unfold qc_2460; rw [h]; rfl)
theorem qv_2461 : qv_A cX12_shown qc_2461 := qt_chk (B := 74) (by decide +kernel) (by decide +kernel) (fun pc h => by unfold qc_2461; rw [h]; rfl)
theorem qv_2462 : qv_A cX12_keeps qc_2462 := qt_chk (B := 118) (by decide +kernel) (by decide +kernel) (fun pc h => by unfold qc_2462; rw [h]; rfl)
theorem qv_2463 : qv_A cX12_undo qc_2463 := qt_chk (B := 122) (by decide +kernel) (by decide +kernel) (fun pc h => by unfold qc_2463; rw [h]; rfl)
theorem qv_2464 : qv_A cX12_turn qc_2464 := qt_chk (B := 87) (by decide +kernel) (by decide +kernel) (fun pc h => by unfold qc_2464; rw [h]; rfl)
theorem qv_2465 : qv_A cX12_unweave qc_2465 := qt_chk (B := 25) (by decide +kernel) (by decide +kernel) (fun pc h => by unfold qc_2465; rw [h]; rfl)
theorem qv_2466 : qv_A cX12_shift qc_2466 := qt_chk (B := 74) (by decide +kernel) (by decide +kernel) (fun pc h => by unfold qc_2466; rw [h]; rfl)
theorem qv_2467 : qv_A cX12_string qc_2467 := qt_chk (B := 31) (by decide +kernel) (by decide +kernel) (fun pc h => by unfold qc_2467; rw [h]; rfl)
theorem qv_2468 : qv_A cX12_strip qc_2468 := qt_chk (B := 145) (by decide +kernel) (by decide +kernel) (fun pc h => by unfold qc_2468; rw [h]; rfl)
theorem qv_2469 : qv_A cX12_fits qc_2469 := qt_chk (B := 38) (by decide +kernel) (by decide +kernel) (fun pc h => by unfold qc_2469; rw [h]; rfl)
theorem qv_2470 : qv_A cX12_isWay qc_2470 := qt_chk (B := 121) (by decide +kernel) (by decide +kernel) (fun pc h => by unfold qc_2470; rw [h]; rfl)
theorem qv_2471 : qv_A cX12_bits qc_2471 := qt_chk (B := 22) (by decide +kernel) (by decide +kernel) (fun pc h => by unfold qc_2471; rw [h]; rfl)
theorem qv_2472 : qv_A cX12_isCorner qc_2472 := qt_chk (B := 12) (by decide +kernel) (by decide +kernel) (fun pc h => by unfold qc_2472; rw [h]; rfl)
theorem qv_2473 : qv_A cX12_firstOf qc_2473 := qt_chk (B := 11) (by decide +kernel) (by decide +kernel) (fun pc h => by unfold qc_2473; rw [h]; rfl)
theorem qv_2474 : qv_A cX12_lastOf qc_2474 := qt_chk (B := 11) (by decide +kernel) (by decide +kernel) (fun pc h => by unfold qc_2474; rw [h]; rfl)
theorem qv_2475 : qv_A cX12_woven qc_2475 := qt_chk (B := 171) (by decide +kernel) (by decide +kernel) (fun pc h => by unfold qc_2475; rw [h]; rfl)
theorem qv_2476 : qv_A cX12_hasWays qc_2476 := qt_chk (B := 47) (by decide +kernel) (by decide +kernel) (fun pc h => by unfold qc_2476; rw [h]; rfl)
theorem qv_2477 : qv_A cX12_barred qc_2477 := qt_chk (B := 85) (by decide +kernel) (by decide +kernel) (fun pc h => by unfold qc_2477; rw [h]; rfl)
theorem qv_2478 : qv_A cX12_hasLike qc_2478 := qt_chk (B := 49) (by decide +kernel) (by decide +kernel) (fun pc h => by unfold qc_2478; rw [h]; rfl)
theorem qv_2479 : qv_A cX12_haveLike qc_2479 := qt_chk (B := 30) (by decide +kernel) (by decide +kernel) (fun pc h => by unfold qc_2479; rw [h]; rfl)
theorem qv_2480 : qv_A cX12_apart qc_2480 := qt_chk (B := 187) (by decide +kernel) (by decide +kernel) (fun pc h => by unfold qc_2480; rw [h]; rfl)
theorem qv_2481 : qv_A cX12_both qc_2481 := qt_chk (B := 111) (by decide +kernel) (by decide +kernel) (fun pc h => by unfold qc_2481; rw [h]; rfl)
theorem qv_2482 : qv_A cX12_rightBy qc_2482 := qt_chk (B := 90) (by decide +kernel) (by decide +kernel) (fun pc h => by unfold qc_2482; rw [h]; rfl)
theorem qv_2483 : qv_A cX12_nearestOf qc_2483 := qt_chk (B := 41) (by decide +kernel) (by decide +kernel) (fun pc h => by unfold qc_2483; rw [h]; rfl)
theorem qv_2484 : qv_A cX12_nearest qc_2484 := qt_chk (B := 63) (by decide +kernel) (by decide +kernel) (fun pc h => by unfold qc_2484; rw [h]; rfl)
theorem qv_2485 : qv_A cX12_looks qc_2485 := qt_chk (B := 80) (by decide +kernel) (by decide +kernel) (fun pc h => by unfold qc_2485; rw [h]; rfl)
theorem qv_2486 : qv_A cX12_isWrong qc_2486 := qt_chk (B := 59) (by decide +kernel) (by decide +kernel) (fun pc h => by unfold qc_2486; rw [h]; rfl)
theorem qv_2487 : qv_A cX12_wrong qc_2487 := qt_chk (B := 102) (by decide +kernel) (by decide +kernel) (fun pc h => by unfold qc_2487; rw [h]; rfl)
theorem qv_2488 : qv_A cX12_isRowRight qc_2488 := qt_chk (B := 37) (by decide +kernel) (by decide +kernel) (fun pc h => by unfold qc_2488; rw [h]; rfl)
theorem qv_2489 : qv_A cX12_mend qc_2489 := qt_chk (B := 52) (by decide +kernel) (by decide +kernel) (fun pc h => by unfold qc_2489; rw [h]; rfl)
theorem qv_2490 : qv_A cX12_sure qc_2490 := qt_chk (B := 142) (by decide +kernel) (by decide +kernel) (fun pc h => by unfold qc_2490; rw [h]; rfl)
theorem qv_2491 : qv_A cX12_qCode qc_2491 := qt_chk (B := 21) (by decide +kernel) (by decide +kernel) (fun pc h => by unfold qc_2491; rw [h]; rfl)
theorem qv_2492 : qv_A cX12_qOpens qc_2492 := qt_chk (B := 55) (by decide +kernel) (by decide +kernel) (fun pc h => by unfold qc_2492; rw [h]; rfl)
theorem qv_2493 : qv_A cX12_qIsOn qc_2493 := qt_chk (B := 28) (by decide +kernel) (by decide +kernel) (fun pc h => by unfold qc_2493; rw [h]; rfl)
theorem qv_2494 : qv_A cX12_qDrops qc_2494 := qt_chk (B := 24) (by decide +kernel) (by decide +kernel) (fun pc h => by unfold qc_2494; rw [h]; rfl)
theorem qv_2495 : qv_A cX12_qIsBracket qc_2495 := qt_chk (B := 18) (by decide +kernel) (by decide +kernel) (fun pc h => by unfold qc_2495; rw [h]; rfl)
theorem qv_2496 : qv_A cX12_qBracket qc_2496 := qt_chk (B := 52) (by decide +kernel) (by decide +kernel) (fun pc h => by unfold qc_2496; rw [h]; rfl)
theorem qv_2497 : qv_A cX12_qDropsToBracket qc_2497 := qt_chk (B := 36) (by decide +kernel) (by decide +kernel) (fun pc h => by unfold qc_2497; rw [h]; rfl)
theorem qv_2498 : qv_A cX12_qWordHere qc_2498 := qt_chk (B := 94) (by decide +kernel) (by decide +kernel) (fun pc h => by unfold qc_2498; rw [h]; rfl)
theorem qv_2499 : qv_A cX12_qWordOf qc_2499 := qt_chk (B := 21) (by decide +kernel) (by decide +kernel) (fun pc h => by unfold qc_2499; rw [h]; rfl)
theorem qv_2500 : qv_A cX12_qAsksWord qc_2500 := qt_chk (B := 115) (by decide +kernel) (by decide +kernel) (fun pc h => by unfold qc_2500; rw [h]; rfl)
theorem qv_2501 : qv_A cX12_qEndsPart qc_2501 := qt_chk (B := 52) (by decide +kernel) (by decide +kernel) (fun pc h => by unfold qc_2501; rw [h]; rfl)
theorem qv_2502 : qv_A cX12_qPartTold qc_2502 := qt_chk (B := 242) (by decide +kernel) (by decide +kernel) (fun pc h => by unfold qc_2502; rw [h]; rfl)
theorem qv_2503 : qv_A cX12_qGoesOn qc_2503 := qt_chk (B := 388) (by decide +kernel) (by decide +kernel) (fun pc h => by unfold qc_2503; rw [h]; rfl)
theorem qv_2504 : qv_A cX12_qSums qc_2504 := qt_chk (B := 84) (by decide +kernel) (by decide +kernel) (fun pc h => by unfold qc_2504; rw [h]; rfl)
theorem qv_2505 : qv_A cX12_qFact qc_2505 := qt_chk (B := 106) (by decide +kernel) (by decide +kernel) (fun pc h => by unfold qc_2505; rw [h]; rfl)
theorem qv_2506 : qv_A cX12_qHasSquare qc_2506 := qt_chk (B := 31) (by decide +kernel) (by decide +kernel) (fun pc h => by unfold qc_2506; rw [h]; rfl)
theorem qv_2507 : qv_A cX12_qDropsNots qc_2507 := qt_chk (B := 34) (by decide +kernel) (by decide +kernel) (fun pc h => by unfold qc_2507; rw [h]; rfl)
theorem qv_2508 : qv_A cX12_qTest qc_2508 := qt_chk (B := 132) (by decide +kernel) (by decide +kernel) (fun pc h => by unfold qc_2508; rw [h]; rfl)
theorem qv_2509 : qv_A cX12_qGoesOnTest qc_2509 := qt_chk (B := 210) (by decide +kernel) (by decide +kernel) (fun pc h => by unfold qc_2509; rw [h]; rfl)
theorem qv_2510 : qv_A cX12_qClip qc_2510 := qt_chk (B := 30) (by decide +kernel) (by decide +kernel) (fun pc h => by unfold qc_2510; rw [h]; rfl)
theorem qv_2511 : qv_A cX12_qFloor qc_2511 := qt_chk (B := 56) (by decide +kernel) (by decide +kernel) (fun pc h => by unfold qc_2511; rw [h]; rfl)
theorem qv_2512 : qv_A cX12_qPuts qc_2512 := qt_chk (B := 21) (by decide +kernel) (by decide +kernel) (fun pc h => by unfold qc_2512; rw [h]; rfl)
theorem qv_2513 : qv_A cX12_qJoins qc_2513 := qt_chk (B := 274) (by decide +kernel) (by decide +kernel) (fun pc h => by unfold qc_2513; rw [h]; rfl)
theorem qv_2514 : qv_A cX12_qPartOf qc_2514 := qt_chk (B := 45) (by decide +kernel) (by decide +kernel) (fun pc h => by unfold qc_2514; rw [h]; rfl)
theorem qv_2515 : qv_A cX12_qOf qc_2515 := qt_chk (B := 152) (by decide +kernel) (by decide +kernel) (fun pc h => by unfold qc_2515; rw [h]; rfl)
theorem qv_2516 : qv_A cX12_qTold qc_2516 := qt_chk (B := 175) (by decide +kernel) (by decide +kernel) (fun pc h => by unfold qc_2516; rw [h]; rfl)
theorem qv_2517 : qv_A cX12_qKind qc_2517 := qt_chk (B := 92) (by decide +kernel) (by decide +kernel) (fun pc h => by unfold qc_2517; rw [h]; rfl)
theorem qv_2518 : qv_A cX12_qTakes qc_2518 := qt_chk (B := 139) (by decide +kernel) (by decide +kernel) (fun pc h => by unfold qc_2518; rw [h]; rfl)
theorem qv_2519 : qv_A cX12_ask qc_2519 := qt_chk (B := 192) (by decide +kernel) (by decide +kernel) (fun pc h => by unfold qc_2519; rw [h]; rfl)
theorem qv_2520 : qv_A cX12_qTurned qc_2520 := qt_chk (B := 42) (by decide +kernel) (by decide +kernel) (fun pc h => by unfold qc_2520; rw [h]; rfl)
theorem qv_2521 : qv_A cX12_checked qc_2521 := qt_chk (B := 30) (by decide +kernel) (by decide +kernel) (fun pc h => by unfold qc_2521; rw [h]; rfl)
theorem qv_2522 : qv_A cX12_image qc_2522 := qt_chk (B := 158) (by decide +kernel) (by decide +kernel) (fun pc h => by unfold qc_2522; rw [h]; rfl)
theorem qv_2523 : qv_A cX12_octet qc_2523 := qt_chk (B := 23) (by decide +kernel) (by decide +kernel) (fun pc h => by unfold qc_2523; rw [h]; rfl)
theorem qv_2524 : qv_A cX12_isTold qc_2524 := qt_chk (B := 197) (by decide +kernel) (by decide +kernel) (fun pc h => by unfold qc_2524; rw [h]; rfl)
theorem qv_2525 : qv_A cX12_on qc_2525 := qt_chk (B := 134) (by decide +kernel) (by decide +kernel) (fun pc h => by unfold qc_2525; rw [h]; rfl)
theorem qv_2601 : qv_A cJ6_bitCount_0f7a4 qc_2601 := qt_chk (B := 53) (by decide +kernel) (by decide +kernel) (fun pc h => by unfold qc_2601; rw [h]; rfl)
theorem qv_2801 : qv_A cJ9_floorDiv_f86c9 qc_2801 := qt_chk (B := 30) (by decide +kernel) (by decide +kernel) (fun pc h => by unfold qc_2801; rw [h]; rfl)
theorem qv_3001 : qv_A cL_law qc_3001 := qt_chk (B := 925) (by decide +kernel) (by decide +kernel) (fun pc h => by unfold qc_3001; rw [h]; rfl)
def qv_P (k pc : Nat) (i : Instr) : Prop := ∃ len, decode (qb_bs k) pc = .ok (i, len) ∧ (qm_len i = 0 ∨ len = qm_len i)
theorem qv_b_1 (pc : Nat) (i : Instr) (h : qc_1 pc = some i) : qv_P 1 pc i := by have e : qb_bs 1 = cX0_keep := rfl; unfold qv_P; rw [e]; exact qv_1 pc i h
theorem qv_b_2 (pc : Nat) (i : Instr) (h : qc_2 pc = some i) : qv_P 2 pc i := by have e : qb_bs 2 = cX0_forgetOldest := rfl; unfold qv_P; rw [e]; exact qv_2 pc i h
theorem qv_b_3 (pc : Nat) (i : Instr) (h : qc_3 pc = some i) : qv_P 3 pc i := by have e : qb_bs 3 = cX0_takeBack := rfl; unfold qv_P; rw [e]; exact qv_3 pc i h
theorem qv_b_201 (pc : Nat) (i : Instr) (h : qc_201 pc = some i) : qv_P 201 pc i := by have e : qb_bs 201 = cX1_begin := rfl; unfold qv_P; rw [e]; exact qv_201 pc i h
theorem qv_b_202 (pc : Nat) (i : Instr) (h : qc_202 pc = some i) : qv_P 202 pc i := by have e : qb_bs 202 = cX1_weave := rfl; unfold qv_P; rw [e]; exact qv_202 pc i h
theorem qv_b_203 (pc : Nat) (i : Instr) (h : qc_203 pc = some i) : qv_P 203 pc i := by have e : qb_bs 203 = cX1_turnIn := rfl; unfold qv_P; rw [e]; exact qv_203 pc i h
theorem qv_b_204 (pc : Nat) (i : Instr) (h : qc_204 pc = some i) : qv_P 204 pc i := by have e : qb_bs 204 = cX1_quarters := rfl; unfold qv_P; rw [e]; exact qv_204 pc i h
theorem qv_b_205 (pc : Nat) (i : Instr) (h : qc_205 pc = some i) : qv_P 205 pc i := by have e : qb_bs 205 = cX1_hasCard := rfl; unfold qv_P; rw [e]; exact qv_205 pc i h
theorem qv_b_206 (pc : Nat) (i : Instr) (h : qc_206 pc = some i) : qv_P 206 pc i := by have e : qb_bs 206 = cX1_hasRow := rfl; unfold qv_P; rw [e]; exact qv_206 pc i h
theorem qv_b_207 (pc : Nat) (i : Instr) (h : qc_207 pc = some i) : qv_P 207 pc i := by have e : qb_bs 207 = cX1_side := rfl; unfold qv_P; rw [e]; exact qv_207 pc i h
theorem qv_b_208 (pc : Nat) (i : Instr) (h : qc_208 pc = some i) : qv_P 208 pc i := by have e : qb_bs 208 = cX1_setSide := rfl; unfold qv_P; rw [e]; exact qv_208 pc i h
theorem qv_b_209 (pc : Nat) (i : Instr) (h : qc_209 pc = some i) : qv_P 209 pc i := by have e : qb_bs 209 = cX1_otherSide := rfl; unfold qv_P; rw [e]; exact qv_209 pc i h
theorem qv_b_210 (pc : Nat) (i : Instr) (h : qc_210 pc = some i) : qv_P 210 pc i := by have e : qb_bs 210 = cX1_thread := rfl; unfold qv_P; rw [e]; exact qv_210 pc i h
theorem qv_b_211 (pc : Nat) (i : Instr) (h : qc_211 pc = some i) : qv_P 211 pc i := by have e : qb_bs 211 = cX1_setThread := rfl; unfold qv_P; rw [e]; exact qv_211 pc i h
theorem qv_b_212 (pc : Nat) (i : Instr) (h : qc_212 pc = some i) : qv_P 212 pc i := by have e : qb_bs 212 = cX1_threadsOn := rfl; unfold qv_P; rw [e]; exact qv_212 pc i h
theorem qv_b_213 (pc : Nat) (i : Instr) (h : qc_213 pc = some i) : qv_P 213 pc i := by have e : qb_bs 213 = cX1_turningOf := rfl; unfold qv_P; rw [e]; exact qv_213 pc i h
theorem qv_b_214 (pc : Nat) (i : Instr) (h : qc_214 pc = some i) : qv_P 214 pc i := by have e : qb_bs 214 = cX1_turnOf := rfl; unfold qv_P; rw [e]; exact qv_214 pc i h
theorem qv_b_215 (pc : Nat) (i : Instr) (h : qc_215 pc = some i) : qv_P 215 pc i := by have e : qb_bs 215 = cX1_twistBehind := rfl; unfold qv_P; rw [e]; exact qv_215 pc i h
theorem qv_b_216 (pc : Nat) (i : Instr) (h : qc_216 pc = some i) : qv_P 216 pc i := by have e : qb_bs 216 = cX1_front := rfl; unfold qv_P; rw [e]; exact qv_216 pc i h
theorem qv_b_217 (pc : Nat) (i : Instr) (h : qc_217 pc = some i) : qv_P 217 pc i := by have e : qb_bs 217 = cX1_behind := rfl; unfold qv_P; rw [e]; exact qv_217 pc i h
theorem qv_b_218 (pc : Nat) (i : Instr) (h : qc_218 pc = some i) : qv_P 218 pc i := by have e : qb_bs 218 = cX1_slant := rfl; unfold qv_P; rw [e]; exact qv_218 pc i h
theorem qv_b_219 (pc : Nat) (i : Instr) (h : qc_219 pc = some i) : qv_P 219 pc i := by have e : qb_bs 219 = cX1_cells := rfl; unfold qv_P; rw [e]; exact qv_219 pc i h
theorem qv_b_220 (pc : Nat) (i : Instr) (h : qc_220 pc = some i) : qv_P 220 pc i := by have e : qb_bs 220 = cX1_turned := rfl; unfold qv_P; rw [e]; exact qv_220 pc i h
theorem qv_b_221 (pc : Nat) (i : Instr) (h : qc_221 pc = some i) : qv_P 221 pc i := by have e : qb_bs 221 = cX1_backs := rfl; unfold qv_P; rw [e]; exact qv_221 pc i h
theorem qv_b_222 (pc : Nat) (i : Instr) (h : qc_222 pc = some i) : qv_P 222 pc i := by have e : qb_bs 222 = cX1_left := rfl; unfold qv_P; rw [e]; exact qv_222 pc i h
theorem qv_b_223 (pc : Nat) (i : Instr) (h : qc_223 pc = some i) : qv_P 223 pc i := by have e : qb_bs 223 = cX1_rhyme := rfl; unfold qv_P; rw [e]; exact qv_223 pc i h
theorem qv_b_224 (pc : Nat) (i : Instr) (h : qc_224 pc = some i) : qv_P 224 pc i := by have e : qb_bs 224 = cX1_comesAgain := rfl; unfold qv_P; rw [e]; exact qv_224 pc i h
theorem qv_b_225 (pc : Nat) (i : Instr) (h : qc_225 pc = some i) : qv_P 225 pc i := by have e : qb_bs 225 = cX1_joins := rfl; unfold qv_P; rw [e]; exact qv_225 pc i h
theorem qv_b_401 (pc : Nat) (i : Instr) (h : qc_401 pc = some i) : qv_P 401 pc i := by have e : qb_bs 401 = cX2_at := rfl; unfold qv_P; rw [e]; exact qv_401 pc i h
theorem qv_b_402 (pc : Nat) (i : Instr) (h : qc_402 pc = some i) : qv_P 402 pc i := by have e : qb_bs 402 = cX2_put := rfl; unfold qv_P; rw [e]; exact qv_402 pc i h
theorem qv_b_403 (pc : Nat) (i : Instr) (h : qc_403 pc = some i) : qv_P 403 pc i := by have e : qb_bs 403 = cX2_copy := rfl; unfold qv_P; rw [e]; exact qv_403 pc i h
theorem qv_b_404 (pc : Nat) (i : Instr) (h : qc_404 pc = some i) : qv_P 404 pc i := by have e : qb_bs 404 = cX2_clear := rfl; unfold qv_P; rw [e]; exact qv_404 pc i h
theorem qv_b_601 (pc : Nat) (i : Instr) (h : qc_601 pc = some i) : qv_P 601 pc i := by have e : qb_bs 601 = cX3_octetAt := rfl; unfold qv_P; rw [e]; exact qv_601 pc i h
theorem qv_b_602 (pc : Nat) (i : Instr) (h : qc_602 pc = some i) : qv_P 602 pc i := by have e : qb_bs 602 = cX3_add := rfl; unfold qv_P; rw [e]; exact qv_602 pc i h
theorem qv_b_603 (pc : Nat) (i : Instr) (h : qc_603 pc = some i) : qv_P 603 pc i := by have e : qb_bs 603 = cX3_summed := rfl; unfold qv_P; rw [e]; exact qv_603 pc i h
theorem qv_b_604 (pc : Nat) (i : Instr) (h : qc_604 pc = some i) : qv_P 604 pc i := by have e : qb_bs 604 = cX3_write := rfl; unfold qv_P; rw [e]; exact qv_604 pc i h
theorem qv_b_605 (pc : Nat) (i : Instr) (h : qc_605 pc = some i) : qv_P 605 pc i := by have e : qb_bs 605 = cX3_isOne := rfl; unfold qv_P; rw [e]; exact qv_605 pc i h
theorem qv_b_606 (pc : Nat) (i : Instr) (h : qc_606 pc = some i) : qv_P 606 pc i := by have e : qb_bs 606 = cX3_isCard := rfl; unfold qv_P; rw [e]; exact qv_606 pc i h
theorem qv_b_607 (pc : Nat) (i : Instr) (h : qc_607 pc = some i) : qv_P 607 pc i := by have e : qb_bs 607 = cX3_turnAt := rfl; unfold qv_P; rw [e]; exact qv_607 pc i h
theorem qv_b_608 (pc : Nat) (i : Instr) (h : qc_608 pc = some i) : qv_P 608 pc i := by have e : qb_bs 608 = cX3_canTurn := rfl; unfold qv_P; rw [e]; exact qv_608 pc i h
theorem qv_b_609 (pc : Nat) (i : Instr) (h : qc_609 pc = some i) : qv_P 609 pc i := by have e : qb_bs 609 = cX3_bring := rfl; unfold qv_P; rw [e]; exact qv_609 pc i h
theorem qv_b_801 (pc : Nat) (i : Instr) (h : qc_801 pc = some i) : qv_P 801 pc i := by have e : qb_bs 801 = cX4_empty := rfl; unfold qv_P; rw [e]; exact qv_801 pc i h
theorem qv_b_802 (pc : Nat) (i : Instr) (h : qc_802 pc = some i) : qv_P 802 pc i := by have e : qb_bs 802 = cX4_take := rfl; unfold qv_P; rw [e]; exact qv_802 pc i h
theorem qv_b_803 (pc : Nat) (i : Instr) (h : qc_803 pc = some i) : qv_P 803 pc i := by have e : qb_bs 803 = cX4_place := rfl; unfold qv_P; rw [e]; exact qv_803 pc i h
theorem qv_b_804 (pc : Nat) (i : Instr) (h : qc_804 pc = some i) : qv_P 804 pc i := by have e : qb_bs 804 = cX4_knows := rfl; unfold qv_P; rw [e]; exact qv_804 pc i h
theorem qv_b_805 (pc : Nat) (i : Instr) (h : qc_805 pc = some i) : qv_P 805 pc i := by have e : qb_bs 805 = cX4_nameOf := rfl; unfold qv_P; rw [e]; exact qv_805 pc i h
theorem qv_b_806 (pc : Nat) (i : Instr) (h : qc_806 pc = some i) : qv_P 806 pc i := by have e : qb_bs 806 = cX4_isOfPack := rfl; unfold qv_P; rw [e]; exact qv_806 pc i h
theorem qv_b_807 (pc : Nat) (i : Instr) (h : qc_807 pc = some i) : qv_P 807 pc i := by have e : qb_bs 807 = cX4_addToPack := rfl; unfold qv_P; rw [e]; exact qv_807 pc i h
theorem qv_b_808 (pc : Nat) (i : Instr) (h : qc_808 pc = some i) : qv_P 808 pc i := by have e : qb_bs 808 = cX4_addLetter := rfl; unfold qv_P; rw [e]; exact qv_808 pc i h
theorem qv_b_809 (pc : Nat) (i : Instr) (h : qc_809 pc = some i) : qv_P 809 pc i := by have e : qb_bs 809 = cX4_tellAgain := rfl; unfold qv_P; rw [e]; exact qv_809 pc i h
theorem qv_b_810 (pc : Nat) (i : Instr) (h : qc_810 pc = some i) : qv_P 810 pc i := by have e : qb_bs 810 = cX4_turningOfLetter := rfl; unfold qv_P; rw [e]; exact qv_810 pc i h
theorem qv_b_811 (pc : Nat) (i : Instr) (h : qc_811 pc = some i) : qv_P 811 pc i := by have e : qb_bs 811 = cX4_turning := rfl; unfold qv_P; rw [e]; exact qv_811 pc i h
theorem qv_b_812 (pc : Nat) (i : Instr) (h : qc_812 pc = some i) : qv_P 812 pc i := by have e : qb_bs 812 = cX4_oneTurn := rfl; unfold qv_P; rw [e]; exact qv_812 pc i h
theorem qv_b_1001 (pc : Nat) (i : Instr) (h : qc_1001 pc = some i) : qv_P 1001 pc i := by have e : qb_bs 1001 = cX5_read := rfl; unfold qv_P; rw [e]; exact qv_1001 pc i h
theorem qv_b_1002 (pc : Nat) (i : Instr) (h : qc_1002 pc = some i) : qv_P 1002 pc i := by have e : qb_bs 1002 = cX5_newName := rfl; unfold qv_P; rw [e]; exact qv_1002 pc i h
theorem qv_b_1003 (pc : Nat) (i : Instr) (h : qc_1003 pc = some i) : qv_P 1003 pc i := by have e : qb_bs 1003 = cX5_knownName := rfl; unfold qv_P; rw [e]; exact qv_1003 pc i h
theorem qv_b_1004 (pc : Nat) (i : Instr) (h : qc_1004 pc = some i) : qv_P 1004 pc i := by have e : qb_bs 1004 = cX5_readColour := rfl; unfold qv_P; rw [e]; exact qv_1004 pc i h
theorem qv_b_1005 (pc : Nat) (i : Instr) (h : qc_1005 pc = some i) : qv_P 1005 pc i := by have e : qb_bs 1005 = cX5_readCard := rfl; unfold qv_P; rw [e]; exact qv_1005 pc i h
theorem qv_b_1006 (pc : Nat) (i : Instr) (h : qc_1006 pc = some i) : qv_P 1006 pc i := by have e : qb_bs 1006 = cX5_readPack := rfl; unfold qv_P; rw [e]; exact qv_1006 pc i h
theorem qv_b_1007 (pc : Nat) (i : Instr) (h : qc_1007 pc = some i) : qv_P 1007 pc i := by have e : qb_bs 1007 = cX5_readPackCard := rfl; unfold qv_P; rw [e]; exact qv_1007 pc i h
theorem qv_b_1008 (pc : Nat) (i : Instr) (h : qc_1008 pc = some i) : qv_P 1008 pc i := by have e : qb_bs 1008 = cX5_readTwist := rfl; unfold qv_P; rw [e]; exact qv_1008 pc i h
theorem qv_b_1009 (pc : Nat) (i : Instr) (h : qc_1009 pc = some i) : qv_P 1009 pc i := by have e : qb_bs 1009 = cX5_readWeave := rfl; unfold qv_P; rw [e]; exact qv_1009 pc i h
theorem qv_b_1010 (pc : Nat) (i : Instr) (h : qc_1010 pc = some i) : qv_P 1010 pc i := by have e : qb_bs 1010 = cX5_beginsTurn := rfl; unfold qv_P; rw [e]; exact qv_1010 pc i h
theorem qv_b_1011 (pc : Nat) (i : Instr) (h : qc_1011 pc = some i) : qv_P 1011 pc i := by have e : qb_bs 1011 = cX5_readTurn := rfl; unfold qv_P; rw [e]; exact qv_1011 pc i h
theorem qv_b_1012 (pc : Nat) (i : Instr) (h : qc_1012 pc = some i) : qv_P 1012 pc i := by have e : qb_bs 1012 = cX5_readLetter := rfl; unfold qv_P; rw [e]; exact qv_1012 pc i h
theorem qv_b_1201 (pc : Nat) (i : Instr) (h : qc_1201 pc = some i) : qv_P 1201 pc i := by have e : qb_bs 1201 = cX6_read := rfl; unfold qv_P; rw [e]; exact qv_1201 pc i h
theorem qv_b_1202 (pc : Nat) (i : Instr) (h : qc_1202 pc = some i) : qv_P 1202 pc i := by have e : qb_bs 1202 = cX6_add := rfl; unfold qv_P; rw [e]; exact qv_1202 pc i h
theorem qv_b_1203 (pc : Nat) (i : Instr) (h : qc_1203 pc = some i) : qv_P 1203 pc i := by have e : qb_bs 1203 = cX6_stepAndAdd := rfl; unfold qv_P; rw [e]; exact qv_1203 pc i h
theorem qv_b_1204 (pc : Nat) (i : Instr) (h : qc_1204 pc = some i) : qv_P 1204 pc i := by have e : qb_bs 1204 = cX6_mayOpen := rfl; unfold qv_P; rw [e]; exact qv_1204 pc i h
theorem qv_b_1205 (pc : Nat) (i : Instr) (h : qc_1205 pc = some i) : qv_P 1205 pc i := by have e : qb_bs 1205 = cX6_readTest := rfl; unfold qv_P; rw [e]; exact qv_1205 pc i h
theorem qv_b_1206 (pc : Nat) (i : Instr) (h : qc_1206 pc = some i) : qv_P 1206 pc i := by have e : qb_bs 1206 = cX6_readBoth := rfl; unfold qv_P; rw [e]; exact qv_1206 pc i h
theorem qv_b_1207 (pc : Nat) (i : Instr) (h : qc_1207 pc = some i) : qv_P 1207 pc i := by have e : qb_bs 1207 = cX6_readFact := rfl; unfold qv_P; rw [e]; exact qv_1207 pc i h
theorem qv_b_1208 (pc : Nat) (i : Instr) (h : qc_1208 pc = some i) : qv_P 1208 pc i := by have e : qb_bs 1208 = cX6_readCompared := rfl; unfold qv_P; rw [e]; exact qv_1208 pc i h
theorem qv_b_1209 (pc : Nat) (i : Instr) (h : qc_1209 pc = some i) : qv_P 1209 pc i := by have e : qb_bs 1209 = cX6_readSum := rfl; unfold qv_P; rw [e]; exact qv_1209 pc i h
theorem qv_b_1210 (pc : Nat) (i : Instr) (h : qc_1210 pc = some i) : qv_P 1210 pc i := by have e : qb_bs 1210 = cX6_readProduct := rfl; unfold qv_P; rw [e]; exact qv_1210 pc i h
theorem qv_b_1211 (pc : Nat) (i : Instr) (h : qc_1211 pc = some i) : qv_P 1211 pc i := by have e : qb_bs 1211 = cX6_readPart := rfl; unfold qv_P; rw [e]; exact qv_1211 pc i h
theorem qv_b_1212 (pc : Nat) (i : Instr) (h : qc_1212 pc = some i) : qv_P 1212 pc i := by have e : qb_bs 1212 = cX6_readPair := rfl; unfold qv_P; rw [e]; exact qv_1212 pc i h
theorem qv_b_1213 (pc : Nat) (i : Instr) (h : qc_1213 pc = some i) : qv_P 1213 pc i := by have e : qb_bs 1213 = cX6_answer := rfl; unfold qv_P; rw [e]; exact qv_1213 pc i h
theorem qv_b_1214 (pc : Nat) (i : Instr) (h : qc_1214 pc = some i) : qv_P 1214 pc i := by have e : qb_bs 1214 = cX6_push := rfl; unfold qv_P; rw [e]; exact qv_1214 pc i h
theorem qv_b_1215 (pc : Nat) (i : Instr) (h : qc_1215 pc = some i) : qv_P 1215 pc i := by have e : qb_bs 1215 = cX6_pop := rfl; unfold qv_P; rw [e]; exact qv_1215 pc i h
theorem qv_b_1216 (pc : Nat) (i : Instr) (h : qc_1216 pc = some i) : qv_P 1216 pc i := by have e : qb_bs 1216 = cX6_valueIn := rfl; unfold qv_P; rw [e]; exact qv_1216 pc i h
theorem qv_b_1217 (pc : Nat) (i : Instr) (h : qc_1217 pc = some i) : qv_P 1217 pc i := by have e : qb_bs 1217 = cX6_ofRow := rfl; unfold qv_P; rw [e]; exact qv_1217 pc i h
theorem qv_b_1218 (pc : Nat) (i : Instr) (h : qc_1218 pc = some i) : qv_P 1218 pc i := by have e : qb_bs 1218 = cX6_ofOne := rfl; unfold qv_P; rw [e]; exact qv_1218 pc i h
theorem qv_b_1219 (pc : Nat) (i : Instr) (h : qc_1219 pc = some i) : qv_P 1219 pc i := by have e : qb_bs 1219 = cX6_held := rfl; unfold qv_P; rw [e]; exact qv_1219 pc i h
theorem qv_b_1220 (pc : Nat) (i : Instr) (h : qc_1220 pc = some i) : qv_P 1220 pc i := by have e : qb_bs 1220 = cX6_ofTwo := rfl; unfold qv_P; rw [e]; exact qv_1220 pc i h
theorem qv_b_1401 (pc : Nat) (i : Instr) (h : qc_1401 pc = some i) : qv_P 1401 pc i := by have e : qb_bs 1401 = cX7_take := rfl; unfold qv_P; rw [e]; exact qv_1401 pc i h
theorem qv_b_1402 (pc : Nat) (i : Instr) (h : qc_1402 pc = some i) : qv_P 1402 pc i := by have e : qb_bs 1402 = cX7_known := rfl; unfold qv_P; rw [e]; exact qv_1402 pc i h
theorem qv_b_1403 (pc : Nat) (i : Instr) (h : qc_1403 pc = some i) : qv_P 1403 pc i := by have e : qb_bs 1403 = cX7_fits := rfl; unfold qv_P; rw [e]; exact qv_1403 pc i h
theorem qv_b_1404 (pc : Nat) (i : Instr) (h : qc_1404 pc = some i) : qv_P 1404 pc i := by have e : qb_bs 1404 = cX7_rowsAlike := rfl; unfold qv_P; rw [e]; exact qv_1404 pc i h
theorem qv_b_1405 (pc : Nat) (i : Instr) (h : qc_1405 pc = some i) : qv_P 1405 pc i := by have e : qb_bs 1405 = cX7_cardFits := rfl; unfold qv_P; rw [e]; exact qv_1405 pc i h
theorem qv_b_1406 (pc : Nat) (i : Instr) (h : qc_1406 pc = some i) : qv_P 1406 pc i := by have e : qb_bs 1406 = cX7_othersFit := rfl; unfold qv_P; rw [e]; exact qv_1406 pc i h
theorem qv_b_1407 (pc : Nat) (i : Instr) (h : qc_1407 pc = some i) : qv_P 1407 pc i := by have e : qb_bs 1407 = cX7_fitsOtherwise := rfl; unfold qv_P; rw [e]; exact qv_1407 pc i h
theorem qv_b_1601 (pc : Nat) (i : Instr) (h : qc_1601 pc = some i) : qv_P 1601 pc i := by have e : qb_bs 1601 = cX8_add := rfl; unfold qv_P; rw [e]; exact qv_1601 pc i h
theorem qv_b_1602 (pc : Nat) (i : Instr) (h : qc_1602 pc = some i) : qv_P 1602 pc i := by have e : qb_bs 1602 = cX8_byteAt := rfl; unfold qv_P; rw [e]; exact qv_1602 pc i h
theorem qv_b_1801 (pc : Nat) (i : Instr) (h : qc_1801 pc = some i) : qv_P 1801 pc i := by have e : qb_bs 1801 = cX9_inReach := rfl; unfold qv_P; rw [e]; exact qv_1801 pc i h
theorem qv_b_1802 (pc : Nat) (i : Instr) (h : qc_1802 pc = some i) : qv_P 1802 pc i := by have e : qb_bs 1802 = cX9_mayTurn := rfl; unfold qv_P; rw [e]; exact qv_1802 pc i h
theorem qv_b_1803 (pc : Nat) (i : Instr) (h : qc_1803 pc = some i) : qv_P 1803 pc i := by have e : qb_bs 1803 = cX9_shows := rfl; unfold qv_P; rw [e]; exact qv_1803 pc i h
theorem qv_b_1804 (pc : Nat) (i : Instr) (h : qc_1804 pc = some i) : qv_P 1804 pc i := by have e : qb_bs 1804 = cX9_count := rfl; unfold qv_P; rw [e]; exact qv_1804 pc i h
theorem qv_b_1805 (pc : Nat) (i : Instr) (h : qc_1805 pc = some i) : qv_P 1805 pc i := by have e : qb_bs 1805 = cX9_countRow := rfl; unfold qv_P; rw [e]; exact qv_1805 pc i h
theorem qv_b_1806 (pc : Nat) (i : Instr) (h : qc_1806 pc = some i) : qv_P 1806 pc i := by have e : qb_bs 1806 = cX9_isMeant := rfl; unfold qv_P; rw [e]; exact qv_1806 pc i h
theorem qv_b_1807 (pc : Nat) (i : Instr) (h : qc_1807 pc = some i) : qv_P 1807 pc i := by have e : qb_bs 1807 = cX9_number := rfl; unfold qv_P; rw [e]; exact qv_1807 pc i h
theorem qv_b_1808 (pc : Nat) (i : Instr) (h : qc_1808 pc = some i) : qv_P 1808 pc i := by have e : qb_bs 1808 = cX9_fewestBacks := rfl; unfold qv_P; rw [e]; exact qv_1808 pc i h
theorem qv_b_1809 (pc : Nat) (i : Instr) (h : qc_1809 pc = some i) : qv_P 1809 pc i := by have e : qb_bs 1809 = cX9_leaveNoTwist := rfl; unfold qv_P; rw [e]; exact qv_1809 pc i h
theorem qv_b_1810 (pc : Nat) (i : Instr) (h : qc_1810 pc = some i) : qv_P 1810 pc i := by have e : qb_bs 1810 = cX9_barredRow := rfl; unfold qv_P; rw [e]; exact qv_1810 pc i h
theorem qv_b_1811 (pc : Nat) (i : Instr) (h : qc_1811 pc = some i) : qv_P 1811 pc i := by have e : qb_bs 1811 = cX9_firstBarred := rfl; unfold qv_P; rw [e]; exact qv_1811 pc i h
theorem qv_b_1812 (pc : Nat) (i : Instr) (h : qc_1812 pc = some i) : qv_P 1812 pc i := by have e : qb_bs 1812 = cX9_canBe := rfl; unfold qv_P; rw [e]; exact qv_1812 pc i h
theorem qv_b_1813 (pc : Nat) (i : Instr) (h : qc_1813 pc = some i) : qv_P 1813 pc i := by have e : qb_bs 1813 = cX9_mostRight := rfl; unfold qv_P; rw [e]; exact qv_1813 pc i h
theorem qv_b_1814 (pc : Nat) (i : Instr) (h : qc_1814 pc = some i) : qv_P 1814 pc i := by have e : qb_bs 1814 = cX9_rightWith := rfl; unfold qv_P; rw [e]; exact qv_1814 pc i h
theorem qv_b_1815 (pc : Nat) (i : Instr) (h : qc_1815 pc = some i) : qv_P 1815 pc i := by have e : qb_bs 1815 = cX9_fewestApart := rfl; unfold qv_P; rw [e]; exact qv_1815 pc i h
theorem qv_b_1816 (pc : Nat) (i : Instr) (h : qc_1816 pc = some i) : qv_P 1816 pc i := by have e : qb_bs 1816 = cX9_putPattern := rfl; unfold qv_P; rw [e]; exact qv_1816 pc i h
theorem qv_b_1817 (pc : Nat) (i : Instr) (h : qc_1817 pc = some i) : qv_P 1817 pc i := by have e : qb_bs 1817 = cX9_patternOf := rfl; unfold qv_P; rw [e]; exact qv_1817 pc i h
theorem qv_b_1818 (pc : Nat) (i : Instr) (h : qc_1818 pc = some i) : qv_P 1818 pc i := by have e : qb_bs 1818 = cX9_patternsOf := rfl; unfold qv_P; rw [e]; exact qv_1818 pc i h
theorem qv_b_1819 (pc : Nat) (i : Instr) (h : qc_1819 pc = some i) : qv_P 1819 pc i := by have e : qb_bs 1819 = cX9_isWay := rfl; unfold qv_P; rw [e]; exact qv_1819 pc i h
theorem qv_b_1820 (pc : Nat) (i : Instr) (h : qc_1820 pc = some i) : qv_P 1820 pc i := by have e : qb_bs 1820 = cX9_agree := rfl; unfold qv_P; rw [e]; exact qv_1820 pc i h
theorem qv_b_2001 (pc : Nat) (i : Instr) (h : qc_2001 pc = some i) : qv_P 2001 pc i := by have e : qb_bs 2001 = cX10_begin := rfl; unfold qv_P; rw [e]; exact qv_2001 pc i h
theorem qv_b_2002 (pc : Nat) (i : Instr) (h : qc_2002 pc = some i) : qv_P 2002 pc i := by have e : qb_bs 2002 = cX10_step := rfl; unfold qv_P; rw [e]; exact qv_2002 pc i h
theorem qv_b_2003 (pc : Nat) (i : Instr) (h : qc_2003 pc = some i) : qv_P 2003 pc i := by have e : qb_bs 2003 = cX10_kindOf := rfl; unfold qv_P; rw [e]; exact qv_2003 pc i h
theorem qv_b_2004 (pc : Nat) (i : Instr) (h : qc_2004 pc = some i) : qv_P 2004 pc i := by have e : qb_bs 2004 = cX10_take := rfl; unfold qv_P; rw [e]; exact qv_2004 pc i h
theorem qv_b_2005 (pc : Nat) (i : Instr) (h : qc_2005 pc = some i) : qv_P 2005 pc i := by have e : qb_bs 2005 = cX10_fail := rfl; unfold qv_P; rw [e]; exact qv_2005 pc i h
theorem qv_b_2006 (pc : Nat) (i : Instr) (h : qc_2006 pc = some i) : qv_P 2006 pc i := by have e : qb_bs 2006 = cX10_failHere := rfl; unfold qv_P; rw [e]; exact qv_2006 pc i h
theorem qv_b_2007 (pc : Nat) (i : Instr) (h : qc_2007 pc = some i) : qv_P 2007 pc i := by have e : qb_bs 2007 = cX10_ended := rfl; unfold qv_P; rw [e]; exact qv_2007 pc i h
theorem qv_b_2008 (pc : Nat) (i : Instr) (h : qc_2008 pc = some i) : qv_P 2008 pc i := by have e : qb_bs 2008 = cX10_isMark := rfl; unfold qv_P; rw [e]; exact qv_2008 pc i h
theorem qv_b_2009 (pc : Nat) (i : Instr) (h : qc_2009 pc = some i) : qv_P 2009 pc i := by have e : qb_bs 2009 = cX10_isWord := rfl; unfold qv_P; rw [e]; exact qv_2009 pc i h
theorem qv_b_2010 (pc : Nat) (i : Instr) (h : qc_2010 pc = some i) : qv_P 2010 pc i := by have e : qb_bs 2010 = cX10_isOwnWord := rfl; unfold qv_P; rw [e]; exact qv_2010 pc i h
theorem qv_b_2011 (pc : Nat) (i : Instr) (h : qc_2011 pc = some i) : qv_P 2011 pc i := by have e : qb_bs 2011 = cX10_meansName := rfl; unfold qv_P; rw [e]; exact qv_2011 pc i h
theorem qv_b_2012 (pc : Nat) (i : Instr) (h : qc_2012 pc = some i) : qv_P 2012 pc i := by have e : qb_bs 2012 = cX10_isNumber := rfl; unfold qv_P; rw [e]; exact qv_2012 pc i h
theorem qv_b_2013 (pc : Nat) (i : Instr) (h : qc_2013 pc = some i) : qv_P 2013 pc i := by have e : qb_bs 2013 = cX10_mustBeName := rfl; unfold qv_P; rw [e]; exact qv_2013 pc i h
theorem qv_b_2014 (pc : Nat) (i : Instr) (h : qc_2014 pc = some i) : qv_P 2014 pc i := by have e : qb_bs 2014 = cX10_mustBeNumber := rfl; unfold qv_P; rw [e]; exact qv_2014 pc i h
theorem qv_b_2015 (pc : Nat) (i : Instr) (h : qc_2015 pc = some i) : qv_P 2015 pc i := by have e : qb_bs 2015 = cX10_takeMark := rfl; unfold qv_P; rw [e]; exact qv_2015 pc i h
theorem qv_b_2016 (pc : Nat) (i : Instr) (h : qc_2016 pc = some i) : qv_P 2016 pc i := by have e : qb_bs 2016 = cX10_takeWord := rfl; unfold qv_P; rw [e]; exact qv_2016 pc i h
theorem qv_b_2201 (pc : Nat) (i : Instr) (h : qc_2201 pc = some i) : qv_P 2201 pc i := by have e : qb_bs 2201 = cX11_feed := rfl; unfold qv_P; rw [e]; exact qv_2201 pc i h
theorem qv_b_2202 (pc : Nat) (i : Instr) (h : qc_2202 pc = some i) : qv_P 2202 pc i := by have e : qb_bs 2202 = cX11_end := rfl; unfold qv_P; rw [e]; exact qv_2202 pc i h
theorem qv_b_2203 (pc : Nat) (i : Instr) (h : qc_2203 pc = some i) : qv_P 2203 pc i := by have e : qb_bs 2203 = cX11_text := rfl; unfold qv_P; rw [e]; exact qv_2203 pc i h
theorem qv_b_2204 (pc : Nat) (i : Instr) (h : qc_2204 pc = some i) : qv_P 2204 pc i := by have e : qb_bs 2204 = cX11_fault := rfl; unfold qv_P; rw [e]; exact qv_2204 pc i h
theorem qv_b_2205 (pc : Nat) (i : Instr) (h : qc_2205 pc = some i) : qv_P 2205 pc i := by have e : qb_bs 2205 = cX11_loom := rfl; unfold qv_P; rw [e]; exact qv_2205 pc i h
theorem qv_b_2206 (pc : Nat) (i : Instr) (h : qc_2206 pc = some i) : qv_P 2206 pc i := by have e : qb_bs 2206 = cX11_letter := rfl; unfold qv_P; rw [e]; exact qv_2206 pc i h
theorem qv_b_2207 (pc : Nat) (i : Instr) (h : qc_2207 pc = some i) : qv_P 2207 pc i := by have e : qb_bs 2207 = cX11_card := rfl; unfold qv_P; rw [e]; exact qv_2207 pc i h
theorem qv_b_2208 (pc : Nat) (i : Instr) (h : qc_2208 pc = some i) : qv_P 2208 pc i := by have e : qb_bs 2208 = cX11_pack := rfl; unfold qv_P; rw [e]; exact qv_2208 pc i h
theorem qv_b_2209 (pc : Nat) (i : Instr) (h : qc_2209 pc = some i) : qv_P 2209 pc i := by have e : qb_bs 2209 = cX11_belt := rfl; unfold qv_P; rw [e]; exact qv_2209 pc i h
theorem qv_b_2210 (pc : Nat) (i : Instr) (h : qc_2210 pc = some i) : qv_P 2210 pc i := by have e : qb_bs 2210 = cX11_shown := rfl; unfold qv_P; rw [e]; exact qv_2210 pc i h
theorem qv_b_2211 (pc : Nat) (i : Instr) (h : qc_2211 pc = some i) : qv_P 2211 pc i := by have e : qb_bs 2211 = cX11_turn := rfl; unfold qv_P; rw [e]; exact qv_2211 pc i h
theorem qv_b_2212 (pc : Nat) (i : Instr) (h : qc_2212 pc = some i) : qv_P 2212 pc i := by have e : qb_bs 2212 = cX11_unweave := rfl; unfold qv_P; rw [e]; exact qv_2212 pc i h
theorem qv_b_2213 (pc : Nat) (i : Instr) (h : qc_2213 pc = some i) : qv_P 2213 pc i := by have e : qb_bs 2213 = cX11_shift := rfl; unfold qv_P; rw [e]; exact qv_2213 pc i h
theorem qv_b_2214 (pc : Nat) (i : Instr) (h : qc_2214 pc = some i) : qv_P 2214 pc i := by have e : qb_bs 2214 = cX11_string := rfl; unfold qv_P; rw [e]; exact qv_2214 pc i h
theorem qv_b_2215 (pc : Nat) (i : Instr) (h : qc_2215 pc = some i) : qv_P 2215 pc i := by have e : qb_bs 2215 = cX11_undo := rfl; unfold qv_P; rw [e]; exact qv_2215 pc i h
theorem qv_b_2216 (pc : Nat) (i : Instr) (h : qc_2216 pc = some i) : qv_P 2216 pc i := by have e : qb_bs 2216 = cX11_strip := rfl; unfold qv_P; rw [e]; exact qv_2216 pc i h
theorem qv_b_2217 (pc : Nat) (i : Instr) (h : qc_2217 pc = some i) : qv_P 2217 pc i := by have e : qb_bs 2217 = cX11_woven := rfl; unfold qv_P; rw [e]; exact qv_2217 pc i h
theorem qv_b_2218 (pc : Nat) (i : Instr) (h : qc_2218 pc = some i) : qv_P 2218 pc i := by have e : qb_bs 2218 = cX11_barred := rfl; unfold qv_P; rw [e]; exact qv_2218 pc i h
theorem qv_b_2219 (pc : Nat) (i : Instr) (h : qc_2219 pc = some i) : qv_P 2219 pc i := by have e : qb_bs 2219 = cX11_apart := rfl; unfold qv_P; rw [e]; exact qv_2219 pc i h
theorem qv_b_2220 (pc : Nat) (i : Instr) (h : qc_2220 pc = some i) : qv_P 2220 pc i := by have e : qb_bs 2220 = cX11_both := rfl; unfold qv_P; rw [e]; exact qv_2220 pc i h
theorem qv_b_2221 (pc : Nat) (i : Instr) (h : qc_2221 pc = some i) : qv_P 2221 pc i := by have e : qb_bs 2221 = cX11_nearest := rfl; unfold qv_P; rw [e]; exact qv_2221 pc i h
theorem qv_b_2222 (pc : Nat) (i : Instr) (h : qc_2222 pc = some i) : qv_P 2222 pc i := by have e : qb_bs 2222 = cX11_wrong := rfl; unfold qv_P; rw [e]; exact qv_2222 pc i h
theorem qv_b_2223 (pc : Nat) (i : Instr) (h : qc_2223 pc = some i) : qv_P 2223 pc i := by have e : qb_bs 2223 = cX11_mend := rfl; unfold qv_P; rw [e]; exact qv_2223 pc i h
theorem qv_b_2224 (pc : Nat) (i : Instr) (h : qc_2224 pc = some i) : qv_P 2224 pc i := by have e : qb_bs 2224 = cX11_sure := rfl; unfold qv_P; rw [e]; exact qv_2224 pc i h
theorem qv_b_2225 (pc : Nat) (i : Instr) (h : qc_2225 pc = some i) : qv_P 2225 pc i := by have e : qb_bs 2225 = cX11_ask := rfl; unfold qv_P; rw [e]; exact qv_2225 pc i h
theorem qv_b_2226 (pc : Nat) (i : Instr) (h : qc_2226 pc = some i) : qv_P 2226 pc i := by have e : qb_bs 2226 = cX11_image := rfl; unfold qv_P; rw [e]; exact qv_2226 pc i h
theorem qv_b_2227 (pc : Nat) (i : Instr) (h : qc_2227 pc = some i) : qv_P 2227 pc i := by have e : qb_bs 2227 = cX11_octet := rfl; unfold qv_P; rw [e]; exact qv_2227 pc i h
theorem qv_b_2228 (pc : Nat) (i : Instr) (h : qc_2228 pc = some i) : qv_P 2228 pc i := by have e : qb_bs 2228 = cX11_on := rfl; unfold qv_P; rw [e]; exact qv_2228 pc i h
theorem qv_b_2401 (pc : Nat) (i : Instr) (h : qc_2401 pc = some i) : qv_P 2401 pc i := by have e : qb_bs 2401 = cX12_isIn := rfl; unfold qv_P; rw [e]; exact qv_2401 pc i h
theorem qv_b_2402 (pc : Nat) (i : Instr) (h : qc_2402 pc = some i) : qv_P 2402 pc i := by have e : qb_bs 2402 = cX12_feed := rfl; unfold qv_P; rw [e]; exact qv_2402 pc i h
theorem qv_b_2403 (pc : Nat) (i : Instr) (h : qc_2403 pc = some i) : qv_P 2403 pc i := by have e : qb_bs 2403 = cX12_end := rfl; unfold qv_P; rw [e]; exact qv_2403 pc i h
theorem qv_b_2404 (pc : Nat) (i : Instr) (h : qc_2404 pc = some i) : qv_P 2404 pc i := by have e : qb_bs 2404 = cX12_fail := rfl; unfold qv_P; rw [e]; exact qv_2404 pc i h
theorem qv_b_2405 (pc : Nat) (i : Instr) (h : qc_2405 pc = some i) : qv_P 2405 pc i := by have e : qb_bs 2405 = cX12_isLetter := rfl; unfold qv_P; rw [e]; exact qv_2405 pc i h
theorem qv_b_2406 (pc : Nat) (i : Instr) (h : qc_2406 pc = some i) : qv_P 2406 pc i := by have e : qb_bs 2406 = cX12_isDigit := rfl; unfold qv_P; rw [e]; exact qv_2406 pc i h
theorem qv_b_2407 (pc : Nat) (i : Instr) (h : qc_2407 pc = some i) : qv_P 2407 pc i := by have e : qb_bs 2407 = cX12_look := rfl; unfold qv_P; rw [e]; exact qv_2407 pc i h
theorem qv_b_2408 (pc : Nat) (i : Instr) (h : qc_2408 pc = some i) : qv_P 2408 pc i := by have e : qb_bs 2408 = cX12_isHere := rfl; unfold qv_P; rw [e]; exact qv_2408 pc i h
theorem qv_b_2409 (pc : Nat) (i : Instr) (h : qc_2409 pc = some i) : qv_P 2409 pc i := by have e : qb_bs 2409 = cX12_takes := rfl; unfold qv_P; rw [e]; exact qv_2409 pc i h
theorem qv_b_2410 (pc : Nat) (i : Instr) (h : qc_2410 pc = some i) : qv_P 2410 pc i := by have e : qb_bs 2410 = cX12_asks := rfl; unfold qv_P; rw [e]; exact qv_2410 pc i h
theorem qv_b_2411 (pc : Nat) (i : Instr) (h : qc_2411 pc = some i) : qv_P 2411 pc i := by have e : qb_bs 2411 = cX12_takesSign := rfl; unfold qv_P; rw [e]; exact qv_2411 pc i h
theorem qv_b_2412 (pc : Nat) (i : Instr) (h : qc_2412 pc = some i) : qv_P 2412 pc i := by have e : qb_bs 2412 = cX12_asksSign := rfl; unfold qv_P; rw [e]; exact qv_2412 pc i h
theorem qv_b_2413 (pc : Nat) (i : Instr) (h : qc_2413 pc = some i) : qv_P 2413 pc i := by have e : qb_bs 2413 = cX12_number := rfl; unfold qv_P; rw [e]; exact qv_2413 pc i h
theorem qv_b_2414 (pc : Nat) (i : Instr) (h : qc_2414 pc = some i) : qv_P 2414 pc i := by have e : qb_bs 2414 = cX12_isOwnHere := rfl; unfold qv_P; rw [e]; exact qv_2414 pc i h
theorem qv_b_2415 (pc : Nat) (i : Instr) (h : qc_2415 pc = some i) : qv_P 2415 pc i := by have e : qb_bs 2415 = cX12_name := rfl; unfold qv_P; rw [e]; exact qv_2415 pc i h
theorem qv_b_2416 (pc : Nat) (i : Instr) (h : qc_2416 pc = some i) : qv_P 2416 pc i := by have e : qb_bs 2416 = cX12_isFull := rfl; unfold qv_P; rw [e]; exact qv_2416 pc i h
theorem qv_b_2417 (pc : Nat) (i : Instr) (h : qc_2417 pc = some i) : qv_P 2417 pc i := by have e : qb_bs 2417 = cX12_nameOf := rfl; unfold qv_P; rw [e]; exact qv_2417 pc i h
theorem qv_b_2418 (pc : Nat) (i : Instr) (h : qc_2418 pc = some i) : qv_P 2418 pc i := by have e : qb_bs 2418 = cX12_newName := rfl; unfold qv_P; rw [e]; exact qv_2418 pc i h
theorem qv_b_2419 (pc : Nat) (i : Instr) (h : qc_2419 pc = some i) : qv_P 2419 pc i := by have e : qb_bs 2419 = cX12_oneOf := rfl; unfold qv_P; rw [e]; exact qv_2419 pc i h
theorem qv_b_2420 (pc : Nat) (i : Instr) (h : qc_2420 pc = some i) : qv_P 2420 pc i := by have e : qb_bs 2420 = cX12_colourTold := rfl; unfold qv_P; rw [e]; exact qv_2420 pc i h
theorem qv_b_2421 (pc : Nat) (i : Instr) (h : qc_2421 pc = some i) : qv_P 2421 pc i := by have e : qb_bs 2421 = cX12_cardTold := rfl; unfold qv_P; rw [e]; exact qv_2421 pc i h
theorem qv_b_2422 (pc : Nat) (i : Instr) (h : qc_2422 pc = some i) : qv_P 2422 pc i := by have e : qb_bs 2422 = cX12_packTold := rfl; unfold qv_P; rw [e]; exact qv_2422 pc i h
theorem qv_b_2423 (pc : Nat) (i : Instr) (h : qc_2423 pc = some i) : qv_P 2423 pc i := by have e : qb_bs 2423 = cX12_opens := rfl; unfold qv_P; rw [e]; exact qv_2423 pc i h
theorem qv_b_2424 (pc : Nat) (i : Instr) (h : qc_2424 pc = some i) : qv_P 2424 pc i := by have e : qb_bs 2424 = cX12_letterIs := rfl; unfold qv_P; rw [e]; exact qv_2424 pc i h
theorem qv_b_2425 (pc : Nat) (i : Instr) (h : qc_2425 pc = some i) : qv_P 2425 pc i := by have e : qb_bs 2425 = cX12_turnEnds := rfl; unfold qv_P; rw [e]; exact qv_2425 pc i h
theorem qv_b_2426 (pc : Nat) (i : Instr) (h : qc_2426 pc = some i) : qv_P 2426 pc i := by have e : qb_bs 2426 = cX12_isNameAhead := rfl; unfold qv_P; rw [e]; exact qv_2426 pc i h
theorem qv_b_2427 (pc : Nat) (i : Instr) (h : qc_2427 pc = some i) : qv_P 2427 pc i := by have e : qb_bs 2427 = cX12_isPartTold := rfl; unfold qv_P; rw [e]; exact qv_2427 pc i h
theorem qv_b_2428 (pc : Nat) (i : Instr) (h : qc_2428 pc = some i) : qv_P 2428 pc i := by have e : qb_bs 2428 = cX12_isTurnAhead := rfl; unfold qv_P; rw [e]; exact qv_2428 pc i h
theorem qv_b_2429 (pc : Nat) (i : Instr) (h : qc_2429 pc = some i) : qv_P 2429 pc i := by have e : qb_bs 2429 = cX12_turnTold := rfl; unfold qv_P; rw [e]; exact qv_2429 pc i h
theorem qv_b_2430 (pc : Nat) (i : Instr) (h : qc_2430 pc = some i) : qv_P 2430 pc i := by have e : qb_bs 2430 = cX12_weaveTold := rfl; unfold qv_P; rw [e]; exact qv_2430 pc i h
theorem qv_b_2431 (pc : Nat) (i : Instr) (h : qc_2431 pc = some i) : qv_P 2431 pc i := by have e : qb_bs 2431 = cX12_statementTold := rfl; unfold qv_P; rw [e]; exact qv_2431 pc i h
theorem qv_b_2432 (pc : Nat) (i : Instr) (h : qc_2432 pc = some i) : qv_P 2432 pc i := by have e : qb_bs 2432 = cX12_text := rfl; unfold qv_P; rw [e]; exact qv_2432 pc i h
theorem qv_b_2433 (pc : Nat) (i : Instr) (h : qc_2433 pc = some i) : qv_P 2433 pc i := by have e : qb_bs 2433 = cX12_stands := rfl; unfold qv_P; rw [e]; exact qv_2433 pc i h
theorem qv_b_2434 (pc : Nat) (i : Instr) (h : qc_2434 pc = some i) : qv_P 2434 pc i := by have e : qb_bs 2434 = cX12_fault := rfl; unfold qv_P; rw [e]; exact qv_2434 pc i h
theorem qv_b_2435 (pc : Nat) (i : Instr) (h : qc_2435 pc = some i) : qv_P 2435 pc i := by have e : qb_bs 2435 = cX12_colourMany := rfl; unfold qv_P; rw [e]; exact qv_2435 pc i h
theorem qv_b_2436 (pc : Nat) (i : Instr) (h : qc_2436 pc = some i) : qv_P 2436 pc i := by have e : qb_bs 2436 = cX12_cardMany := rfl; unfold qv_P; rw [e]; exact qv_2436 pc i h
theorem qv_b_2437 (pc : Nat) (i : Instr) (h : qc_2437 pc = some i) : qv_P 2437 pc i := by have e : qb_bs 2437 = cX12_packMany := rfl; unfold qv_P; rw [e]; exact qv_2437 pc i h
theorem qv_b_2438 (pc : Nat) (i : Instr) (h : qc_2438 pc = some i) : qv_P 2438 pc i := by have e : qb_bs 2438 = cX12_isCard := rfl; unfold qv_P; rw [e]; exact qv_2438 pc i h
theorem qv_b_2439 (pc : Nat) (i : Instr) (h : qc_2439 pc = some i) : qv_P 2439 pc i := by have e : qb_bs 2439 = cX12_isPack := rfl; unfold qv_P; rw [e]; exact qv_2439 pc i h
theorem qv_b_2440 (pc : Nat) (i : Instr) (h : qc_2440 pc = some i) : qv_P 2440 pc i := by have e : qb_bs 2440 = cX12_moved := rfl; unfold qv_P; rw [e]; exact qv_2440 pc i h
theorem qv_b_2441 (pc : Nat) (i : Instr) (h : qc_2441 pc = some i) : qv_P 2441 pc i := by have e : qb_bs 2441 = cX12_turnBy := rfl; unfold qv_P; rw [e]; exact qv_2441 pc i h
theorem qv_b_2442 (pc : Nat) (i : Instr) (h : qc_2442 pc = some i) : qv_P 2442 pc i := by have e : qb_bs 2442 = cX12_twistAt := rfl; unfold qv_P; rw [e]; exact qv_2442 pc i h
theorem qv_b_2443 (pc : Nat) (i : Instr) (h : qc_2443 pc = some i) : qv_P 2443 pc i := by have e : qb_bs 2443 = cX12_apartOf := rfl; unfold qv_P; rw [e]; exact qv_2443 pc i h
theorem qv_b_2444 (pc : Nat) (i : Instr) (h : qc_2444 pc = some i) : qv_P 2444 pc i := by have e : qb_bs 2444 = cX12_canTurn := rfl; unfold qv_P; rw [e]; exact qv_2444 pc i h
theorem qv_b_2445 (pc : Nat) (i : Instr) (h : qc_2445 pc = some i) : qv_P 2445 pc i := by have e : qb_bs 2445 = cX12_turns0 := rfl; unfold qv_P; rw [e]; exact qv_2445 pc i h
theorem qv_b_2446 (pc : Nat) (i : Instr) (h : qc_2446 pc = some i) : qv_P 2446 pc i := by have e : qb_bs 2446 = cX12_cornerBy := rfl; unfold qv_P; rw [e]; exact qv_2446 pc i h
theorem qv_b_2447 (pc : Nat) (i : Instr) (h : qc_2447 pc = some i) : qv_P 2447 pc i := by have e : qb_bs 2447 = cX12_threadOf := rfl; unfold qv_P; rw [e]; exact qv_2447 pc i h
theorem qv_b_2448 (pc : Nat) (i : Instr) (h : qc_2448 pc = some i) : qv_P 2448 pc i := by have e : qb_bs 2448 = cX12_frontOf := rfl; unfold qv_P; rw [e]; exact qv_2448 pc i h
theorem qv_b_2449 (pc : Nat) (i : Instr) (h : qc_2449 pc = some i) : qv_P 2449 pc i := by have e : qb_bs 2449 = cX12_slantOf := rfl; unfold qv_P; rw [e]; exact qv_2449 pc i h
theorem qv_b_2450 (pc : Nat) (i : Instr) (h : qc_2450 pc = some i) : qv_P 2450 pc i := by have e : qb_bs 2450 = cX12_leftAll := rfl; unfold qv_P; rw [e]; exact qv_2450 pc i h
theorem qv_b_2451 (pc : Nat) (i : Instr) (h : qc_2451 pc = some i) : qv_P 2451 pc i := by have e : qb_bs 2451 = cX12_areRowsAlike := rfl; unfold qv_P; rw [e]; exact qv_2451 pc i h
theorem qv_b_2452 (pc : Nat) (i : Instr) (h : qc_2452 pc = some i) : qv_P 2452 pc i := by have e : qb_bs 2452 = cX12_isRhyme := rfl; unfold qv_P; rw [e]; exact qv_2452 pc i h
theorem qv_b_2453 (pc : Nat) (i : Instr) (h : qc_2453 pc = some i) : qv_P 2453 pc i := by have e : qb_bs 2453 = cX12_rhyme := rfl; unfold qv_P; rw [e]; exact qv_2453 pc i h
theorem qv_b_2454 (pc : Nat) (i : Instr) (h : qc_2454 pc = some i) : qv_P 2454 pc i := by have e : qb_bs 2454 = cX12_joins := rfl; unfold qv_P; rw [e]; exact qv_2454 pc i h
theorem qv_b_2455 (pc : Nat) (i : Instr) (h : qc_2455 pc = some i) : qv_P 2455 pc i := by have e : qb_bs 2455 = cX12_loom := rfl; unfold qv_P; rw [e]; exact qv_2455 pc i h
theorem qv_b_2456 (pc : Nat) (i : Instr) (h : qc_2456 pc = some i) : qv_P 2456 pc i := by have e : qb_bs 2456 = cX12_letter := rfl; unfold qv_P; rw [e]; exact qv_2456 pc i h
theorem qv_b_2457 (pc : Nat) (i : Instr) (h : qc_2457 pc = some i) : qv_P 2457 pc i := by have e : qb_bs 2457 = cX12_backOf := rfl; unfold qv_P; rw [e]; exact qv_2457 pc i h
theorem qv_b_2458 (pc : Nat) (i : Instr) (h : qc_2458 pc = some i) : qv_P 2458 pc i := by have e : qb_bs 2458 = cX12_card := rfl; unfold qv_P; rw [e]; exact qv_2458 pc i h
theorem qv_b_2459 (pc : Nat) (i : Instr) (h : qc_2459 pc = some i) : qv_P 2459 pc i := by have e : qb_bs 2459 = cX12_pack := rfl; unfold qv_P; rw [e]; exact qv_2459 pc i h
theorem qv_b_2460 (pc : Nat) (i : Instr) (h : qc_2460 pc = some i) : qv_P 2460 pc i := by have e : qb_bs 2460 = cX12_belt := rfl; unfold qv_P; rw [e]; exact qv_2460 pc i h
theorem qv_b_2461 (pc : Nat) (i : Instr) (h : qc_2461 pc = some i) : qv_P 2461 pc i := by have e : qb_bs 2461 = cX12_shown := rfl; unfold qv_P; rw [e]; exact qv_2461 pc i h
theorem qv_b_2462 (pc : Nat) (i : Instr) (h : qc_2462 pc = some i) : qv_P 2462 pc i := by have e : qb_bs 2462 = cX12_keeps := rfl; unfold qv_P; rw [e]; exact qv_2462 pc i h
theorem qv_b_2463 (pc : Nat) (i : Instr) (h : qc_2463 pc = some i) : qv_P 2463 pc i := by have e : qb_bs 2463 = cX12_undo := rfl; unfold qv_P; rw [e]; exact qv_2463 pc i h
theorem qv_b_2464 (pc : Nat) (i : Instr) (h : qc_2464 pc = some i) : qv_P 2464 pc i := by have e : qb_bs 2464 = cX12_turn := rfl; unfold qv_P; rw [e]; exact qv_2464 pc i h
theorem qv_b_2465 (pc : Nat) (i : Instr) (h : qc_2465 pc = some i) : qv_P 2465 pc i := by have e : qb_bs 2465 = cX12_unweave := rfl; unfold qv_P; rw [e]; exact qv_2465 pc i h
theorem qv_b_2466 (pc : Nat) (i : Instr) (h : qc_2466 pc = some i) : qv_P 2466 pc i := by have e : qb_bs 2466 = cX12_shift := rfl; unfold qv_P; rw [e]; exact qv_2466 pc i h
theorem qv_b_2467 (pc : Nat) (i : Instr) (h : qc_2467 pc = some i) : qv_P 2467 pc i := by have e : qb_bs 2467 = cX12_string := rfl; unfold qv_P; rw [e]; exact qv_2467 pc i h
theorem qv_b_2468 (pc : Nat) (i : Instr) (h : qc_2468 pc = some i) : qv_P 2468 pc i := by have e : qb_bs 2468 = cX12_strip := rfl; unfold qv_P; rw [e]; exact qv_2468 pc i h
theorem qv_b_2469 (pc : Nat) (i : Instr) (h : qc_2469 pc = some i) : qv_P 2469 pc i := by have e : qb_bs 2469 = cX12_fits := rfl; unfold qv_P; rw [e]; exact qv_2469 pc i h
theorem qv_b_2470 (pc : Nat) (i : Instr) (h : qc_2470 pc = some i) : qv_P 2470 pc i := by have e : qb_bs 2470 = cX12_isWay := rfl; unfold qv_P; rw [e]; exact qv_2470 pc i h
theorem qv_b_2471 (pc : Nat) (i : Instr) (h : qc_2471 pc = some i) : qv_P 2471 pc i := by have e : qb_bs 2471 = cX12_bits := rfl; unfold qv_P; rw [e]; exact qv_2471 pc i h
theorem qv_b_2472 (pc : Nat) (i : Instr) (h : qc_2472 pc = some i) : qv_P 2472 pc i := by have e : qb_bs 2472 = cX12_isCorner := rfl; unfold qv_P; rw [e]; exact qv_2472 pc i h
theorem qv_b_2473 (pc : Nat) (i : Instr) (h : qc_2473 pc = some i) : qv_P 2473 pc i := by have e : qb_bs 2473 = cX12_firstOf := rfl; unfold qv_P; rw [e]; exact qv_2473 pc i h
theorem qv_b_2474 (pc : Nat) (i : Instr) (h : qc_2474 pc = some i) : qv_P 2474 pc i := by have e : qb_bs 2474 = cX12_lastOf := rfl; unfold qv_P; rw [e]; exact qv_2474 pc i h
theorem qv_b_2475 (pc : Nat) (i : Instr) (h : qc_2475 pc = some i) : qv_P 2475 pc i := by have e : qb_bs 2475 = cX12_woven := rfl; unfold qv_P; rw [e]; exact qv_2475 pc i h
theorem qv_b_2476 (pc : Nat) (i : Instr) (h : qc_2476 pc = some i) : qv_P 2476 pc i := by have e : qb_bs 2476 = cX12_hasWays := rfl; unfold qv_P; rw [e]; exact qv_2476 pc i h
theorem qv_b_2477 (pc : Nat) (i : Instr) (h : qc_2477 pc = some i) : qv_P 2477 pc i := by have e : qb_bs 2477 = cX12_barred := rfl; unfold qv_P; rw [e]; exact qv_2477 pc i h
theorem qv_b_2478 (pc : Nat) (i : Instr) (h : qc_2478 pc = some i) : qv_P 2478 pc i := by have e : qb_bs 2478 = cX12_hasLike := rfl; unfold qv_P; rw [e]; exact qv_2478 pc i h
theorem qv_b_2479 (pc : Nat) (i : Instr) (h : qc_2479 pc = some i) : qv_P 2479 pc i := by have e : qb_bs 2479 = cX12_haveLike := rfl; unfold qv_P; rw [e]; exact qv_2479 pc i h
theorem qv_b_2480 (pc : Nat) (i : Instr) (h : qc_2480 pc = some i) : qv_P 2480 pc i := by have e : qb_bs 2480 = cX12_apart := rfl; unfold qv_P; rw [e]; exact qv_2480 pc i h
theorem qv_b_2481 (pc : Nat) (i : Instr) (h : qc_2481 pc = some i) : qv_P 2481 pc i := by have e : qb_bs 2481 = cX12_both := rfl; unfold qv_P; rw [e]; exact qv_2481 pc i h
theorem qv_b_2482 (pc : Nat) (i : Instr) (h : qc_2482 pc = some i) : qv_P 2482 pc i := by have e : qb_bs 2482 = cX12_rightBy := rfl; unfold qv_P; rw [e]; exact qv_2482 pc i h
theorem qv_b_2483 (pc : Nat) (i : Instr) (h : qc_2483 pc = some i) : qv_P 2483 pc i := by have e : qb_bs 2483 = cX12_nearestOf := rfl; unfold qv_P; rw [e]; exact qv_2483 pc i h
theorem qv_b_2484 (pc : Nat) (i : Instr) (h : qc_2484 pc = some i) : qv_P 2484 pc i := by have e : qb_bs 2484 = cX12_nearest := rfl; unfold qv_P; rw [e]; exact qv_2484 pc i h
theorem qv_b_2485 (pc : Nat) (i : Instr) (h : qc_2485 pc = some i) : qv_P 2485 pc i := by have e : qb_bs 2485 = cX12_looks := rfl; unfold qv_P; rw [e]; exact qv_2485 pc i h
theorem qv_b_2486 (pc : Nat) (i : Instr) (h : qc_2486 pc = some i) : qv_P 2486 pc i := by have e : qb_bs 2486 = cX12_isWrong := rfl; unfold qv_P; rw [e]; exact qv_2486 pc i h
theorem qv_b_2487 (pc : Nat) (i : Instr) (h : qc_2487 pc = some i) : qv_P 2487 pc i := by have e : qb_bs 2487 = cX12_wrong := rfl; unfold qv_P; rw [e]; exact qv_2487 pc i h
theorem qv_b_2488 (pc : Nat) (i : Instr) (h : qc_2488 pc = some i) : qv_P 2488 pc i := by have e : qb_bs 2488 = cX12_isRowRight := rfl; unfold qv_P; rw [e]; exact qv_2488 pc i h
theorem qv_b_2489 (pc : Nat) (i : Instr) (h : qc_2489 pc = some i) : qv_P 2489 pc i := by have e : qb_bs 2489 = cX12_mend := rfl; unfold qv_P; rw [e]; exact qv_2489 pc i h
theorem qv_b_2490 (pc : Nat) (i : Instr) (h : qc_2490 pc = some i) : qv_P 2490 pc i := by have e : qb_bs 2490 = cX12_sure := rfl; unfold qv_P; rw [e]; exact qv_2490 pc i h
theorem qv_b_2491 (pc : Nat) (i : Instr) (h : qc_2491 pc = some i) : qv_P 2491 pc i := by have e : qb_bs 2491 = cX12_qCode := rfl; unfold qv_P; rw [e]; exact qv_2491 pc i h
theorem qv_b_2492 (pc : Nat) (i : Instr) (h : qc_2492 pc = some i) : qv_P 2492 pc i := by have e : qb_bs 2492 = cX12_qOpens := rfl; unfold qv_P; rw [e]; exact qv_2492 pc i h
theorem qv_b_2493 (pc : Nat) (i : Instr) (h : qc_2493 pc = some i) : qv_P 2493 pc i := by have e : qb_bs 2493 = cX12_qIsOn := rfl; unfold qv_P; rw [e]; exact qv_2493 pc i h
theorem qv_b_2494 (pc : Nat) (i : Instr) (h : qc_2494 pc = some i) : qv_P 2494 pc i := by have e : qb_bs 2494 = cX12_qDrops := rfl; unfold qv_P; rw [e]; exact qv_2494 pc i h
theorem qv_b_2495 (pc : Nat) (i : Instr) (h : qc_2495 pc = some i) : qv_P 2495 pc i := by have e : qb_bs 2495 = cX12_qIsBracket := rfl; unfold qv_P; rw [e]; exact qv_2495 pc i h
theorem qv_b_2496 (pc : Nat) (i : Instr) (h : qc_2496 pc = some i) : qv_P 2496 pc i := by have e : qb_bs 2496 = cX12_qBracket := rfl; unfold qv_P; rw [e]; exact qv_2496 pc i h
theorem qv_b_2497 (pc : Nat) (i : Instr) (h : qc_2497 pc = some i) : qv_P 2497 pc i := by have e : qb_bs 2497 = cX12_qDropsToBracket := rfl; unfold qv_P; rw [e]; exact qv_2497 pc i h
theorem qv_b_2498 (pc : Nat) (i : Instr) (h : qc_2498 pc = some i) : qv_P 2498 pc i := by have e : qb_bs 2498 = cX12_qWordHere := rfl; unfold qv_P; rw [e]; exact qv_2498 pc i h
theorem qv_b_2499 (pc : Nat) (i : Instr) (h : qc_2499 pc = some i) : qv_P 2499 pc i := by have e : qb_bs 2499 = cX12_qWordOf := rfl; unfold qv_P; rw [e]; exact qv_2499 pc i h
theorem qv_b_2500 (pc : Nat) (i : Instr) (h : qc_2500 pc = some i) : qv_P 2500 pc i := by have e : qb_bs 2500 = cX12_qAsksWord := rfl; unfold qv_P; rw [e]; exact qv_2500 pc i h
theorem qv_b_2501 (pc : Nat) (i : Instr) (h : qc_2501 pc = some i) : qv_P 2501 pc i := by have e : qb_bs 2501 = cX12_qEndsPart := rfl; unfold qv_P; rw [e]; exact qv_2501 pc i h
theorem qv_b_2502 (pc : Nat) (i : Instr) (h : qc_2502 pc = some i) : qv_P 2502 pc i := by have e : qb_bs 2502 = cX12_qPartTold := rfl; unfold qv_P; rw [e]; exact qv_2502 pc i h
theorem qv_b_2503 (pc : Nat) (i : Instr) (h : qc_2503 pc = some i) : qv_P 2503 pc i := by have e : qb_bs 2503 = cX12_qGoesOn := rfl; unfold qv_P; rw [e]; exact qv_2503 pc i h
theorem qv_b_2504 (pc : Nat) (i : Instr) (h : qc_2504 pc = some i) : qv_P 2504 pc i := by have e : qb_bs 2504 = cX12_qSums := rfl; unfold qv_P; rw [e]; exact qv_2504 pc i h
theorem qv_b_2505 (pc : Nat) (i : Instr) (h : qc_2505 pc = some i) : qv_P 2505 pc i := by have e : qb_bs 2505 = cX12_qFact := rfl; unfold qv_P; rw [e]; exact qv_2505 pc i h
theorem qv_b_2506 (pc : Nat) (i : Instr) (h : qc_2506 pc = some i) : qv_P 2506 pc i := by have e : qb_bs 2506 = cX12_qHasSquare := rfl; unfold qv_P; rw [e]; exact qv_2506 pc i h
theorem qv_b_2507 (pc : Nat) (i : Instr) (h : qc_2507 pc = some i) : qv_P 2507 pc i := by have e : qb_bs 2507 = cX12_qDropsNots := rfl; unfold qv_P; rw [e]; exact qv_2507 pc i h
theorem qv_b_2508 (pc : Nat) (i : Instr) (h : qc_2508 pc = some i) : qv_P 2508 pc i := by have e : qb_bs 2508 = cX12_qTest := rfl; unfold qv_P; rw [e]; exact qv_2508 pc i h
theorem qv_b_2509 (pc : Nat) (i : Instr) (h : qc_2509 pc = some i) : qv_P 2509 pc i := by have e : qb_bs 2509 = cX12_qGoesOnTest := rfl; unfold qv_P; rw [e]; exact qv_2509 pc i h
theorem qv_b_2510 (pc : Nat) (i : Instr) (h : qc_2510 pc = some i) : qv_P 2510 pc i := by have e : qb_bs 2510 = cX12_qClip := rfl; unfold qv_P; rw [e]; exact qv_2510 pc i h
theorem qv_b_2511 (pc : Nat) (i : Instr) (h : qc_2511 pc = some i) : qv_P 2511 pc i := by have e : qb_bs 2511 = cX12_qFloor := rfl; unfold qv_P; rw [e]; exact qv_2511 pc i h
theorem qv_b_2512 (pc : Nat) (i : Instr) (h : qc_2512 pc = some i) : qv_P 2512 pc i := by have e : qb_bs 2512 = cX12_qPuts := rfl; unfold qv_P; rw [e]; exact qv_2512 pc i h
theorem qv_b_2513 (pc : Nat) (i : Instr) (h : qc_2513 pc = some i) : qv_P 2513 pc i := by have e : qb_bs 2513 = cX12_qJoins := rfl; unfold qv_P; rw [e]; exact qv_2513 pc i h
theorem qv_b_2514 (pc : Nat) (i : Instr) (h : qc_2514 pc = some i) : qv_P 2514 pc i := by have e : qb_bs 2514 = cX12_qPartOf := rfl; unfold qv_P; rw [e]; exact qv_2514 pc i h
theorem qv_b_2515 (pc : Nat) (i : Instr) (h : qc_2515 pc = some i) : qv_P 2515 pc i := by have e : qb_bs 2515 = cX12_qOf := rfl; unfold qv_P; rw [e]; exact qv_2515 pc i h
theorem qv_b_2516 (pc : Nat) (i : Instr) (h : qc_2516 pc = some i) : qv_P 2516 pc i := by have e : qb_bs 2516 = cX12_qTold := rfl; unfold qv_P; rw [e]; exact qv_2516 pc i h
theorem qv_b_2517 (pc : Nat) (i : Instr) (h : qc_2517 pc = some i) : qv_P 2517 pc i := by have e : qb_bs 2517 = cX12_qKind := rfl; unfold qv_P; rw [e]; exact qv_2517 pc i h
theorem qv_b_2518 (pc : Nat) (i : Instr) (h : qc_2518 pc = some i) : qv_P 2518 pc i := by have e : qb_bs 2518 = cX12_qTakes := rfl; unfold qv_P; rw [e]; exact qv_2518 pc i h
theorem qv_b_2519 (pc : Nat) (i : Instr) (h : qc_2519 pc = some i) : qv_P 2519 pc i := by have e : qb_bs 2519 = cX12_ask := rfl; unfold qv_P; rw [e]; exact qv_2519 pc i h
theorem qv_b_2520 (pc : Nat) (i : Instr) (h : qc_2520 pc = some i) : qv_P 2520 pc i := by have e : qb_bs 2520 = cX12_qTurned := rfl; unfold qv_P; rw [e]; exact qv_2520 pc i h
theorem qv_b_2521 (pc : Nat) (i : Instr) (h : qc_2521 pc = some i) : qv_P 2521 pc i := by have e : qb_bs 2521 = cX12_checked := rfl; unfold qv_P; rw [e]; exact qv_2521 pc i h
theorem qv_b_2522 (pc : Nat) (i : Instr) (h : qc_2522 pc = some i) : qv_P 2522 pc i := by have e : qb_bs 2522 = cX12_image := rfl; unfold qv_P; rw [e]; exact qv_2522 pc i h
theorem qv_b_2523 (pc : Nat) (i : Instr) (h : qc_2523 pc = some i) : qv_P 2523 pc i := by have e : qb_bs 2523 = cX12_octet := rfl; unfold qv_P; rw [e]; exact qv_2523 pc i h
theorem qv_b_2524 (pc : Nat) (i : Instr) (h : qc_2524 pc = some i) : qv_P 2524 pc i := by have e : qb_bs 2524 = cX12_isTold := rfl; unfold qv_P; rw [e]; exact qv_2524 pc i h
theorem qv_b_2525 (pc : Nat) (i : Instr) (h : qc_2525 pc = some i) : qv_P 2525 pc i := by have e : qb_bs 2525 = cX12_on := rfl; unfold qv_P; rw [e]; exact qv_2525 pc i h
theorem qv_b_2601 (pc : Nat) (i : Instr) (h : qc_2601 pc = some i) : qv_P 2601 pc i := by have e : qb_bs 2601 = cJ6_bitCount_0f7a4 := rfl; unfold qv_P; rw [e]; exact qv_2601 pc i h
theorem qv_b_2801 (pc : Nat) (i : Instr) (h : qc_2801 pc = some i) : qv_P 2801 pc i := by have e : qb_bs 2801 = cJ9_floorDiv_f86c9 := rfl; unfold qv_P; rw [e]; exact qv_2801 pc i h
theorem qv_b_3001 (pc : Nat) (i : Instr) (h : qc_3001 pc = some i) : qv_P 3001 pc i := by have e : qb_bs 3001 = cL_law := rfl; unfold qv_P; rw [e]; exact qv_3001 pc i h
theorem qv_at_0 (k pc : Nat) (i : Instr) : qb_at_0 k pc = some i → qv_P k pc i := (qt_cnd (qt_cnd (qt_leaf (Q := fun k => qv_P k pc i) (qv_b_3 pc i)) (qt_leaf (Q := fun k => qv_P k pc i) (qv_b_2 pc i))) (qt_leaf (Q := fun k => qv_P k pc i) (qv_b_1 pc i)))
theorem qv_at_1 (k pc : Nat) (i : Instr) : qb_at_1 k pc = some i → qv_P k pc i := (qt_cnd (qt_cnd (qt_cnd (qt_cnd (qt_cnd (qt_leaf (Q := fun k => qv_P k pc i) (qv_b_225 pc i)) (qt_leaf (Q := fun k => qv_P k pc i) (qv_b_224 pc i))) (qt_cnd (qt_leaf (Q := fun k => qv_P k pc i) (qv_b_223 pc i)) (qt_leaf (Q := fun k => qv_P k pc i) (qv_b_222 pc i)))) (qt_cnd (qt_cnd (qt_leaf (Q := fun k => qv_P k pc i) (qv_b_221 pc i)) (qt_leaf (Q := fun k => qv_P k pc i) (qv_b_220 pc i))) (qt_leaf (Q := fun k => qv_P k pc i) (qv_b_219 pc i)))) (qt_cnd (qt_cnd (qt_cnd (qt_leaf (Q := fun k => qv_P k pc i) (qv_b_218 pc i)) (qt_leaf (Q := fun k => qv_P k pc i) (qv_b_217 pc i))) (qt_leaf (Q := fun k => qv_P k pc i) (qv_b_216 pc i))) (qt_cnd (qt_cnd (qt_leaf (Q := fun k => qv_P k pc i) (qv_b_215 pc i)) (qt_leaf (Q := fun k => qv_P k pc i) (qv_b_214 pc i))) (qt_leaf (Q := fun k => qv_P k pc i) (qv_b_213 pc i))))) (qt_cnd (qt_cnd (qt_cnd (qt_cnd (qt_leaf (Q := fun k => qv_P k pc i) (qv_b_212 pc i)) (qt_leaf (Q := fun k => qv_P k pc i) (qv_b_211 pc i))) (qt_leaf (Q := fun k => qv_P k pc i) (qv_b_210 pc i))) (qt_cnd (qt_cnd (qt_leaf (Q := fun k => qv_P k pc i) (qv_b_209 pc i)) (qt_leaf (Q := fun k => qv_P k pc i) (qv_b_208 pc i))) (qt_leaf (Q := fun k => qv_P k pc i) (qv_b_207 pc i)))) (qt_cnd (qt_cnd (qt_cnd (qt_leaf (Q := fun k => qv_P k pc i) (qv_b_206 pc i)) (qt_leaf (Q := fun k => qv_P k pc i) (qv_b_205 pc i))) (qt_leaf (Q := fun k => qv_P k pc i) (qv_b_204 pc i))) (qt_cnd (qt_cnd (qt_leaf (Q := fun k => qv_P k pc i) (qv_b_203 pc i)) (qt_leaf (Q := fun k => qv_P k pc i) (qv_b_202 pc i))) (qt_leaf (Q := fun k => qv_P k pc i) (qv_b_201 pc i))))))
theorem qv_at_2 (k pc : Nat) (i : Instr) : qb_at_2 k pc = some i → qv_P k pc i := (qt_cnd (qt_cnd (qt_leaf (Q := fun k => qv_P k pc i) (qv_b_404 pc i)) (qt_leaf (Q := fun k => qv_P k pc i) (qv_b_403 pc i))) (qt_cnd (qt_leaf (Q := fun k => qv_P k pc i) (qv_b_402 pc i)) (qt_leaf (Q := fun k => qv_P k pc i) (qv_b_401 pc i))))
theorem qv_at_3 (k pc : Nat) (i : Instr) : qb_at_3 k pc = some i → qv_P k pc i := (qt_cnd (qt_cnd (qt_cnd (qt_cnd (qt_leaf (Q := fun k => qv_P k pc i) (qv_b_609 pc i)) (qt_leaf (Q := fun k => qv_P k pc i) (qv_b_608 pc i))) (qt_leaf (Q := fun k => qv_P k pc i) (qv_b_607 pc i))) (qt_cnd (qt_leaf (Q := fun k => qv_P k pc i) (qv_b_606 pc i)) (qt_leaf (Q := fun k => qv_P k pc i) (qv_b_605 pc i)))) (qt_cnd (qt_cnd (qt_leaf (Q := fun k => qv_P k pc i) (qv_b_604 pc i)) (qt_leaf (Q := fun k => qv_P k pc i) (qv_b_603 pc i))) (qt_cnd (qt_leaf (Q := fun k => qv_P k pc i) (qv_b_602 pc i)) (qt_leaf (Q := fun k => qv_P k pc i) (qv_b_601 pc i)))))
theorem qv_at_4 (k pc : Nat) (i : Instr) : qb_at_4 k pc = some i → qv_P k pc i := (qt_cnd (qt_cnd (qt_cnd (qt_cnd (qt_leaf (Q := fun k => qv_P k pc i) (qv_b_812 pc i)) (qt_leaf (Q := fun k => qv_P k pc i) (qv_b_811 pc i))) (qt_leaf (Q := fun k => qv_P k pc i) (qv_b_810 pc i))) (qt_cnd (qt_cnd (qt_leaf (Q := fun k => qv_P k pc i) (qv_b_809 pc i)) (qt_leaf (Q := fun k => qv_P k pc i) (qv_b_808 pc i))) (qt_leaf (Q := fun k => qv_P k pc i) (qv_b_807 pc i)))) (qt_cnd (qt_cnd (qt_cnd (qt_leaf (Q := fun k => qv_P k pc i) (qv_b_806 pc i)) (qt_leaf (Q := fun k => qv_P k pc i) (qv_b_805 pc i))) (qt_leaf (Q := fun k => qv_P k pc i) (qv_b_804 pc i))) (qt_cnd (qt_cnd (qt_leaf (Q := fun k => qv_P k pc i) (qv_b_803 pc i)) (qt_leaf (Q := fun k => qv_P k pc i) (qv_b_802 pc i))) (qt_leaf (Q := fun k => qv_P k pc i) (qv_b_801 pc i)))))
theorem qv_at_5 (k pc : Nat) (i : Instr) : qb_at_5 k pc = some i → qv_P k pc i := (qt_cnd (qt_cnd (qt_cnd (qt_cnd (qt_leaf (Q := fun k => qv_P k pc i) (qv_b_1012 pc i)) (qt_leaf (Q := fun k => qv_P k pc i) (qv_b_1011 pc i))) (qt_leaf (Q := fun k => qv_P k pc i) (qv_b_1010 pc i))) (qt_cnd (qt_cnd (qt_leaf (Q := fun k => qv_P k pc i) (qv_b_1009 pc i)) (qt_leaf (Q := fun k => qv_P k pc i) (qv_b_1008 pc i))) (qt_leaf (Q := fun k => qv_P k pc i) (qv_b_1007 pc i)))) (qt_cnd (qt_cnd (qt_cnd (qt_leaf (Q := fun k => qv_P k pc i) (qv_b_1006 pc i)) (qt_leaf (Q := fun k => qv_P k pc i) (qv_b_1005 pc i))) (qt_leaf (Q := fun k => qv_P k pc i) (qv_b_1004 pc i))) (qt_cnd (qt_cnd (qt_leaf (Q := fun k => qv_P k pc i) (qv_b_1003 pc i)) (qt_leaf (Q := fun k => qv_P k pc i) (qv_b_1002 pc i))) (qt_leaf (Q := fun k => qv_P k pc i) (qv_b_1001 pc i)))))
theorem qv_at_6 (k pc : Nat) (i : Instr) : qb_at_6 k pc = some i → qv_P k pc i := (qt_cnd (qt_cnd (qt_cnd (qt_cnd (qt_cnd (qt_leaf (Q := fun k => qv_P k pc i) (qv_b_1220 pc i)) (qt_leaf (Q := fun k => qv_P k pc i) (qv_b_1219 pc i))) (qt_leaf (Q := fun k => qv_P k pc i) (qv_b_1218 pc i))) (qt_cnd (qt_leaf (Q := fun k => qv_P k pc i) (qv_b_1217 pc i)) (qt_leaf (Q := fun k => qv_P k pc i) (qv_b_1216 pc i)))) (qt_cnd (qt_cnd (qt_cnd (qt_leaf (Q := fun k => qv_P k pc i) (qv_b_1215 pc i)) (qt_leaf (Q := fun k => qv_P k pc i) (qv_b_1214 pc i))) (qt_leaf (Q := fun k => qv_P k pc i) (qv_b_1213 pc i))) (qt_cnd (qt_leaf (Q := fun k => qv_P k pc i) (qv_b_1212 pc i)) (qt_leaf (Q := fun k => qv_P k pc i) (qv_b_1211 pc i))))) (qt_cnd (qt_cnd (qt_cnd (qt_cnd (qt_leaf (Q := fun k => qv_P k pc i) (qv_b_1210 pc i)) (qt_leaf (Q := fun k => qv_P k pc i) (qv_b_1209 pc i))) (qt_leaf (Q := fun k => qv_P k pc i) (qv_b_1208 pc i))) (qt_cnd (qt_leaf (Q := fun k => qv_P k pc i) (qv_b_1207 pc i)) (qt_leaf (Q := fun k => qv_P k pc i) (qv_b_1206 pc i)))) (qt_cnd (qt_cnd (qt_cnd (qt_leaf (Q := fun k => qv_P k pc i) (qv_b_1205 pc i)) (qt_leaf (Q := fun k => qv_P k pc i) (qv_b_1204 pc i))) (qt_leaf (Q := fun k => qv_P k pc i) (qv_b_1203 pc i))) (qt_cnd (qt_leaf (Q := fun k => qv_P k pc i) (qv_b_1202 pc i)) (qt_leaf (Q := fun k => qv_P k pc i) (qv_b_1201 pc i))))))
theorem qv_at_7 (k pc : Nat) (i : Instr) : qb_at_7 k pc = some i → qv_P k pc i := (qt_cnd (qt_cnd (qt_cnd (qt_leaf (Q := fun k => qv_P k pc i) (qv_b_1407 pc i)) (qt_leaf (Q := fun k => qv_P k pc i) (qv_b_1406 pc i))) (qt_cnd (qt_leaf (Q := fun k => qv_P k pc i) (qv_b_1405 pc i)) (qt_leaf (Q := fun k => qv_P k pc i) (qv_b_1404 pc i)))) (qt_cnd (qt_cnd (qt_leaf (Q := fun k => qv_P k pc i) (qv_b_1403 pc i)) (qt_leaf (Q := fun k => qv_P k pc i) (qv_b_1402 pc i))) (qt_leaf (Q := fun k => qv_P k pc i) (qv_b_1401 pc i))))
theorem qv_at_8 (k pc : Nat) (i : Instr) : qb_at_8 k pc = some i → qv_P k pc i := (qt_cnd (qt_leaf (Q := fun k => qv_P k pc i) (qv_b_1602 pc i)) (qt_leaf (Q := fun k => qv_P k pc i) (qv_b_1601 pc i)))
theorem qv_at_9 (k pc : Nat) (i : Instr) : qb_at_9 k pc = some i → qv_P k pc i := (qt_cnd (qt_cnd (qt_cnd (qt_cnd (qt_cnd (qt_leaf (Q := fun k => qv_P k pc i) (qv_b_1820 pc i)) (qt_leaf (Q := fun k => qv_P k pc i) (qv_b_1819 pc i))) (qt_leaf (Q := fun k => qv_P k pc i) (qv_b_1818 pc i))) (qt_cnd (qt_leaf (Q := fun k => qv_P k pc i) (qv_b_1817 pc i)) (qt_leaf (Q := fun k => qv_P k pc i) (qv_b_1816 pc i)))) (qt_cnd (qt_cnd (qt_cnd (qt_leaf (Q := fun k => qv_P k pc i) (qv_b_1815 pc i)) (qt_leaf (Q := fun k => qv_P k pc i) (qv_b_1814 pc i))) (qt_leaf (Q := fun k => qv_P k pc i) (qv_b_1813 pc i))) (qt_cnd (qt_leaf (Q := fun k => qv_P k pc i) (qv_b_1812 pc i)) (qt_leaf (Q := fun k => qv_P k pc i) (qv_b_1811 pc i))))) (qt_cnd (qt_cnd (qt_cnd (qt_cnd (qt_leaf (Q := fun k => qv_P k pc i) (qv_b_1810 pc i)) (qt_leaf (Q := fun k => qv_P k pc i) (qv_b_1809 pc i))) (qt_leaf (Q := fun k => qv_P k pc i) (qv_b_1808 pc i))) (qt_cnd (qt_leaf (Q := fun k => qv_P k pc i) (qv_b_1807 pc i)) (qt_leaf (Q := fun k => qv_P k pc i) (qv_b_1806 pc i)))) (qt_cnd (qt_cnd (qt_cnd (qt_leaf (Q := fun k => qv_P k pc i) (qv_b_1805 pc i)) (qt_leaf (Q := fun k => qv_P k pc i) (qv_b_1804 pc i))) (qt_leaf (Q := fun k => qv_P k pc i) (qv_b_1803 pc i))) (qt_cnd (qt_leaf (Q := fun k => qv_P k pc i) (qv_b_1802 pc i)) (qt_leaf (Q := fun k => qv_P k pc i) (qv_b_1801 pc i))))))
theorem qv_at_10 (k pc : Nat) (i : Instr) : qb_at_10 k pc = some i → qv_P k pc i := (qt_cnd (qt_cnd (qt_cnd (qt_cnd (qt_leaf (Q := fun k => qv_P k pc i) (qv_b_2016 pc i)) (qt_leaf (Q := fun k => qv_P k pc i) (qv_b_2015 pc i))) (qt_cnd (qt_leaf (Q := fun k => qv_P k pc i) (qv_b_2014 pc i)) (qt_leaf (Q := fun k => qv_P k pc i) (qv_b_2013 pc i)))) (qt_cnd (qt_cnd (qt_leaf (Q := fun k => qv_P k pc i) (qv_b_2012 pc i)) (qt_leaf (Q := fun k => qv_P k pc i) (qv_b_2011 pc i))) (qt_cnd (qt_leaf (Q := fun k => qv_P k pc i) (qv_b_2010 pc i)) (qt_leaf (Q := fun k => qv_P k pc i) (qv_b_2009 pc i))))) (qt_cnd (qt_cnd (qt_cnd (qt_leaf (Q := fun k => qv_P k pc i) (qv_b_2008 pc i)) (qt_leaf (Q := fun k => qv_P k pc i) (qv_b_2007 pc i))) (qt_cnd (qt_leaf (Q := fun k => qv_P k pc i) (qv_b_2006 pc i)) (qt_leaf (Q := fun k => qv_P k pc i) (qv_b_2005 pc i)))) (qt_cnd (qt_cnd (qt_leaf (Q := fun k => qv_P k pc i) (qv_b_2004 pc i)) (qt_leaf (Q := fun k => qv_P k pc i) (qv_b_2003 pc i))) (qt_cnd (qt_leaf (Q := fun k => qv_P k pc i) (qv_b_2002 pc i)) (qt_leaf (Q := fun k => qv_P k pc i) (qv_b_2001 pc i))))))
theorem qv_at_11 (k pc : Nat) (i : Instr) : qb_at_11 k pc = some i → qv_P k pc i := (qt_cnd (qt_cnd (qt_cnd (qt_cnd (qt_cnd (qt_leaf (Q := fun k => qv_P k pc i) (qv_b_2228 pc i)) (qt_leaf (Q := fun k => qv_P k pc i) (qv_b_2227 pc i))) (qt_cnd (qt_leaf (Q := fun k => qv_P k pc i) (qv_b_2226 pc i)) (qt_leaf (Q := fun k => qv_P k pc i) (qv_b_2225 pc i)))) (qt_cnd (qt_cnd (qt_leaf (Q := fun k => qv_P k pc i) (qv_b_2224 pc i)) (qt_leaf (Q := fun k => qv_P k pc i) (qv_b_2223 pc i))) (qt_leaf (Q := fun k => qv_P k pc i) (qv_b_2222 pc i)))) (qt_cnd (qt_cnd (qt_cnd (qt_leaf (Q := fun k => qv_P k pc i) (qv_b_2221 pc i)) (qt_leaf (Q := fun k => qv_P k pc i) (qv_b_2220 pc i))) (qt_cnd (qt_leaf (Q := fun k => qv_P k pc i) (qv_b_2219 pc i)) (qt_leaf (Q := fun k => qv_P k pc i) (qv_b_2218 pc i)))) (qt_cnd (qt_cnd (qt_leaf (Q := fun k => qv_P k pc i) (qv_b_2217 pc i)) (qt_leaf (Q := fun k => qv_P k pc i) (qv_b_2216 pc i))) (qt_leaf (Q := fun k => qv_P k pc i) (qv_b_2215 pc i))))) (qt_cnd (qt_cnd (qt_cnd (qt_cnd (qt_leaf (Q := fun k => qv_P k pc i) (qv_b_2214 pc i)) (qt_leaf (Q := fun k => qv_P k pc i) (qv_b_2213 pc i))) (qt_cnd (qt_leaf (Q := fun k => qv_P k pc i) (qv_b_2212 pc i)) (qt_leaf (Q := fun k => qv_P k pc i) (qv_b_2211 pc i)))) (qt_cnd (qt_cnd (qt_leaf (Q := fun k => qv_P k pc i) (qv_b_2210 pc i)) (qt_leaf (Q := fun k => qv_P k pc i) (qv_b_2209 pc i))) (qt_leaf (Q := fun k => qv_P k pc i) (qv_b_2208 pc i)))) (qt_cnd (qt_cnd (qt_cnd (qt_leaf (Q := fun k => qv_P k pc i) (qv_b_2207 pc i)) (qt_leaf (Q := fun k => qv_P k pc i) (qv_b_2206 pc i))) (qt_cnd (qt_leaf (Q := fun k => qv_P k pc i) (qv_b_2205 pc i)) (qt_leaf (Q := fun k => qv_P k pc i) (qv_b_2204 pc i)))) (qt_cnd (qt_cnd (qt_leaf (Q := fun k => qv_P k pc i) (qv_b_2203 pc i)) (qt_leaf (Q := fun k => qv_P k pc i) (qv_b_2202 pc i))) (qt_leaf (Q := fun k => qv_P k pc i) (qv_b_2201 pc i))))))
theorem qv_at_12 (k pc : Nat) (i : Instr) : qb_at_12 k pc = some i → qv_P k pc i := (qt_cnd (qt_cnd (qt_cnd (qt_cnd (qt_cnd (qt_cnd (qt_cnd (qt_leaf (Q := fun k => qv_P k pc i) (qv_b_2525 pc i)) (qt_leaf (Q := fun k => qv_P k pc i) (qv_b_2524 pc i))) (qt_cnd (qt_leaf (Q := fun k => qv_P k pc i) (qv_b_2523 pc i)) (qt_leaf (Q := fun k => qv_P k pc i) (qv_b_2522 pc i)))) (qt_cnd (qt_cnd (qt_leaf (Q := fun k => qv_P k pc i) (qv_b_2521 pc i)) (qt_leaf (Q := fun k => qv_P k pc i) (qv_b_2520 pc i))) (qt_cnd (qt_leaf (Q := fun k => qv_P k pc i) (qv_b_2519 pc i)) (qt_leaf (Q := fun k => qv_P k pc i) (qv_b_2518 pc i))))) (qt_cnd (qt_cnd (qt_cnd (qt_leaf (Q := fun k => qv_P k pc i) (qv_b_2517 pc i)) (qt_leaf (Q := fun k => qv_P k pc i) (qv_b_2516 pc i))) (qt_cnd (qt_leaf (Q := fun k => qv_P k pc i) (qv_b_2515 pc i)) (qt_leaf (Q := fun k => qv_P k pc i) (qv_b_2514 pc i)))) (qt_cnd (qt_cnd (qt_leaf (Q := fun k => qv_P k pc i) (qv_b_2513 pc i)) (qt_leaf (Q := fun k => qv_P k pc i) (qv_b_2512 pc i))) (qt_cnd (qt_leaf (Q := fun k => qv_P k pc i) (qv_b_2511 pc i)) (qt_leaf (Q := fun k => qv_P k pc i) (qv_b_2510 pc i)))))) (qt_cnd (qt_cnd (qt_cnd (qt_cnd (qt_leaf (Q := fun k => qv_P k pc i) (qv_b_2509 pc i)) (qt_leaf (Q := fun k => qv_P k pc i) (qv_b_2508 pc i))) (qt_cnd (qt_leaf (Q := fun k => qv_P k pc i) (qv_b_2507 pc i)) (qt_leaf (Q := fun k => qv_P k pc i) (qv_b_2506 pc i)))) (qt_cnd (qt_cnd (qt_leaf (Q := fun k => qv_P k pc i) (qv_b_2505 pc i)) (qt_leaf (Q := fun k => qv_P k pc i) (qv_b_2504 pc i))) (qt_cnd (qt_leaf (Q := fun k => qv_P k pc i) (qv_b_2503 pc i)) (qt_leaf (Q := fun k => qv_P k pc i) (qv_b_2502 pc i))))) (qt_cnd (qt_cnd (qt_cnd (qt_leaf (Q := fun k => qv_P k pc i) (qv_b_2501 pc i)) (qt_leaf (Q := fun k => qv_P k pc i) (qv_b_2500 pc i))) (qt_cnd (qt_leaf (Q := fun k => qv_P k pc i) (qv_b_2499 pc i)) (qt_leaf (Q := fun k => qv_P k pc i) (qv_b_2498 pc i)))) (qt_cnd (qt_cnd (qt_leaf (Q := fun k => qv_P k pc i) (qv_b_2497 pc i)) (qt_leaf (Q := fun k => qv_P k pc i) (qv_b_2496 pc i))) (qt_cnd (qt_leaf (Q := fun k => qv_P k pc i) (qv_b_2495 pc i)) (qt_leaf (Q := fun k => qv_P k pc i) (qv_b_2494 pc i))))))) (qt_cnd (qt_cnd (qt_cnd (qt_cnd (qt_cnd (qt_leaf (Q := fun k => qv_P k pc i) (qv_b_2493 pc i)) (qt_leaf (Q := fun k => qv_P k pc i) (qv_b_2492 pc i))) (qt_cnd (qt_leaf (Q := fun k => qv_P k pc i) (qv_b_2491 pc i)) (qt_leaf (Q := fun k => qv_P k pc i) (qv_b_2490 pc i)))) (qt_cnd (qt_cnd (qt_leaf (Q := fun k => qv_P k pc i) (qv_b_2489 pc i)) (qt_leaf (Q := fun k => qv_P k pc i) (qv_b_2488 pc i))) (qt_cnd (qt_leaf (Q := fun k => qv_P k pc i) (qv_b_2487 pc i)) (qt_leaf (Q := fun k => qv_P k pc i) (qv_b_2486 pc i))))) (qt_cnd (qt_cnd (qt_cnd (qt_leaf (Q := fun k => qv_P k pc i) (qv_b_2485 pc i)) (qt_leaf (Q := fun k => qv_P k pc i) (qv_b_2484 pc i))) (qt_cnd (qt_leaf (Q := fun k => qv_P k pc i) (qv_b_2483 pc i)) (qt_leaf (Q := fun k => qv_P k pc i) (qv_b_2482 pc i)))) (qt_cnd (qt_cnd (qt_leaf (Q := fun k => qv_P k pc i) (qv_b_2481 pc i)) (qt_leaf (Q := fun k => qv_P k pc i) (qv_b_2480 pc i))) (qt_cnd (qt_leaf (Q := fun k => qv_P k pc i) (qv_b_2479 pc i)) (qt_leaf (Q := fun k => qv_P k pc i) (qv_b_2478 pc i)))))) (qt_cnd (qt_cnd (qt_cnd (qt_cnd (qt_leaf (Q := fun k => qv_P k pc i) (qv_b_2477 pc i)) (qt_leaf (Q := fun k => qv_P k pc i) (qv_b_2476 pc i))) (qt_cnd (qt_leaf (Q := fun k => qv_P k pc i) (qv_b_2475 pc i)) (qt_leaf (Q := fun k => qv_P k pc i) (qv_b_2474 pc i)))) (qt_cnd (qt_cnd (qt_leaf (Q := fun k => qv_P k pc i) (qv_b_2473 pc i)) (qt_leaf (Q := fun k => qv_P k pc i) (qv_b_2472 pc i))) (qt_cnd (qt_leaf (Q := fun k => qv_P k pc i) (qv_b_2471 pc i)) (qt_leaf (Q := fun k => qv_P k pc i) (qv_b_2470 pc i))))) (qt_cnd (qt_cnd (qt_cnd (qt_leaf (Q := fun k => qv_P k pc i) (qv_b_2469 pc i)) (qt_leaf (Q := fun k => qv_P k pc i) (qv_b_2468 pc i))) (qt_cnd (qt_leaf (Q := fun k => qv_P k pc i) (qv_b_2467 pc i)) (qt_leaf (Q := fun k => qv_P k pc i) (qv_b_2466 pc i)))) (qt_cnd (qt_cnd (qt_leaf (Q := fun k => qv_P k pc i) (qv_b_2465 pc i)) (qt_leaf (Q := fun k => qv_P k pc i) (qv_b_2464 pc i))) (qt_leaf (Q := fun k => qv_P k pc i) (qv_b_2463 pc i))))))) (qt_cnd (qt_cnd (qt_cnd (qt_cnd (qt_cnd (qt_cnd (qt_leaf (Q := fun k => qv_P k pc i) (qv_b_2462 pc i)) (qt_leaf (Q := fun k => qv_P k pc i) (qv_b_2461 pc i))) (qt_cnd (qt_leaf (Q := fun k => qv_P k pc i) (qv_b_2460 pc i)) (qt_leaf (Q := fun k => qv_P k pc i) (qv_b_2459 pc i)))) (qt_cnd (qt_cnd (qt_leaf (Q := fun k => qv_P k pc i) (qv_b_2458 pc i)) (qt_leaf (Q := fun k => qv_P k pc i) (qv_b_2457 pc i))) (qt_cnd (qt_leaf (Q := fun k => qv_P k pc i) (qv_b_2456 pc i)) (qt_leaf (Q := fun k => qv_P k pc i) (qv_b_2455 pc i))))) (qt_cnd (qt_cnd (qt_cnd (qt_leaf (Q := fun k => qv_P k pc i) (qv_b_2454 pc i)) (qt_leaf (Q := fun k => qv_P k pc i) (qv_b_2453 pc i))) (qt_cnd (qt_leaf (Q := fun k => qv_P k pc i) (qv_b_2452 pc i)) (qt_leaf (Q := fun k => qv_P k pc i) (qv_b_2451 pc i)))) (qt_cnd (qt_cnd (qt_leaf (Q := fun k => qv_P k pc i) (qv_b_2450 pc i)) (qt_leaf (Q := fun k => qv_P k pc i) (qv_b_2449 pc i))) (qt_cnd (qt_leaf (Q := fun k => qv_P k pc i) (qv_b_2448 pc i)) (qt_leaf (Q := fun k => qv_P k pc i) (qv_b_2447 pc i)))))) (qt_cnd (qt_cnd (qt_cnd (qt_cnd (qt_leaf (Q := fun k => qv_P k pc i) (qv_b_2446 pc i)) (qt_leaf (Q := fun k => qv_P k pc i) (qv_b_2445 pc i))) (qt_cnd (qt_leaf (Q := fun k => qv_P k pc i) (qv_b_2444 pc i)) (qt_leaf (Q := fun k => qv_P k pc i) (qv_b_2443 pc i)))) (qt_cnd (qt_cnd (qt_leaf (Q := fun k => qv_P k pc i) (qv_b_2442 pc i)) (qt_leaf (Q := fun k => qv_P k pc i) (qv_b_2441 pc i))) (qt_cnd (qt_leaf (Q := fun k => qv_P k pc i) (qv_b_2440 pc i)) (qt_leaf (Q := fun k => qv_P k pc i) (qv_b_2439 pc i))))) (qt_cnd (qt_cnd (qt_cnd (qt_leaf (Q := fun k => qv_P k pc i) (qv_b_2438 pc i)) (qt_leaf (Q := fun k => qv_P k pc i) (qv_b_2437 pc i))) (qt_cnd (qt_leaf (Q := fun k => qv_P k pc i) (qv_b_2436 pc i)) (qt_leaf (Q := fun k => qv_P k pc i) (qv_b_2435 pc i)))) (qt_cnd (qt_cnd (qt_leaf (Q := fun k => qv_P k pc i) (qv_b_2434 pc i)) (qt_leaf (Q := fun k => qv_P k pc i) (qv_b_2433 pc i))) (qt_leaf (Q := fun k => qv_P k pc i) (qv_b_2432 pc i)))))) (qt_cnd (qt_cnd (qt_cnd (qt_cnd (qt_cnd (qt_leaf (Q := fun k => qv_P k pc i) (qv_b_2431 pc i)) (qt_leaf (Q := fun k => qv_P k pc i) (qv_b_2430 pc i))) (qt_cnd (qt_leaf (Q := fun k => qv_P k pc i) (qv_b_2429 pc i)) (qt_leaf (Q := fun k => qv_P k pc i) (qv_b_2428 pc i)))) (qt_cnd (qt_cnd (qt_leaf (Q := fun k => qv_P k pc i) (qv_b_2427 pc i)) (qt_leaf (Q := fun k => qv_P k pc i) (qv_b_2426 pc i))) (qt_cnd (qt_leaf (Q := fun k => qv_P k pc i) (qv_b_2425 pc i)) (qt_leaf (Q := fun k => qv_P k pc i) (qv_b_2424 pc i))))) (qt_cnd (qt_cnd (qt_cnd (qt_leaf (Q := fun k => qv_P k pc i) (qv_b_2423 pc i)) (qt_leaf (Q := fun k => qv_P k pc i) (qv_b_2422 pc i))) (qt_cnd (qt_leaf (Q := fun k => qv_P k pc i) (qv_b_2421 pc i)) (qt_leaf (Q := fun k => qv_P k pc i) (qv_b_2420 pc i)))) (qt_cnd (qt_cnd (qt_leaf (Q := fun k => qv_P k pc i) (qv_b_2419 pc i)) (qt_leaf (Q := fun k => qv_P k pc i) (qv_b_2418 pc i))) (qt_cnd (qt_leaf (Q := fun k => qv_P k pc i) (qv_b_2417 pc i)) (qt_leaf (Q := fun k => qv_P k pc i) (qv_b_2416 pc i)))))) (qt_cnd (qt_cnd (qt_cnd (qt_cnd (qt_leaf (Q := fun k => qv_P k pc i) (qv_b_2415 pc i)) (qt_leaf (Q := fun k => qv_P k pc i) (qv_b_2414 pc i))) (qt_cnd (qt_leaf (Q := fun k => qv_P k pc i) (qv_b_2413 pc i)) (qt_leaf (Q := fun k => qv_P k pc i) (qv_b_2412 pc i)))) (qt_cnd (qt_cnd (qt_leaf (Q := fun k => qv_P k pc i) (qv_b_2411 pc i)) (qt_leaf (Q := fun k => qv_P k pc i) (qv_b_2410 pc i))) (qt_cnd (qt_leaf (Q := fun k => qv_P k pc i) (qv_b_2409 pc i)) (qt_leaf (Q := fun k => qv_P k pc i) (qv_b_2408 pc i))))) (qt_cnd (qt_cnd (qt_cnd (qt_leaf (Q := fun k => qv_P k pc i) (qv_b_2407 pc i)) (qt_leaf (Q := fun k => qv_P k pc i) (qv_b_2406 pc i))) (qt_cnd (qt_leaf (Q := fun k => qv_P k pc i) (qv_b_2405 pc i)) (qt_leaf (Q := fun k => qv_P k pc i) (qv_b_2404 pc i)))) (qt_cnd (qt_cnd (qt_leaf (Q := fun k => qv_P k pc i) (qv_b_2403 pc i)) (qt_leaf (Q := fun k => qv_P k pc i) (qv_b_2402 pc i))) (qt_leaf (Q := fun k => qv_P k pc i) (qv_b_2401 pc i))))))))
theorem qv_at_13 (k pc : Nat) (i : Instr) : qb_at_13 k pc = some i → qv_P k pc i := (qt_leaf (Q := fun k => qv_P k pc i) (qv_b_2601 pc i))
theorem qv_at_14 (k pc : Nat) (i : Instr) : qb_at_14 k pc = some i → qv_P k pc i := (qt_leaf (Q := fun k => qv_P k pc i) (qv_b_2801 pc i))
theorem qv_at_15 (k pc : Nat) (i : Instr) : qb_at_15 k pc = some i → qv_P k pc i := (qt_leaf (Q := fun k => qv_P k pc i) (qv_b_3001 pc i))
theorem qv_at (k pc : Nat) (i : Instr) : qb_at k pc = some i → qv_P k pc i := (qt_cnd (qt_cnd (qt_cnd (qt_cnd (qt_cnd (qv_at_15 k pc i) qt_non) (qt_cnd (qv_at_14 k pc i) qt_non)) (qt_cnd (qt_cnd (qv_at_13 k pc i) qt_non) (qt_cnd (qv_at_12 k pc i) qt_non))) (qt_cnd (qt_cnd (qt_cnd (qv_at_11 k pc i) qt_non) (qt_cnd (qv_at_10 k pc i) qt_non)) (qt_cnd (qt_cnd (qv_at_9 k pc i) qt_non) (qt_cnd (qv_at_8 k pc i) qt_non)))) (qt_cnd (qt_cnd (qt_cnd (qt_cnd (qv_at_7 k pc i) qt_non) (qt_cnd (qv_at_6 k pc i) qt_non)) (qt_cnd (qt_cnd (qv_at_5 k pc i) qt_non) (qt_cnd (qv_at_4 k pc i) qt_non))) (qt_cnd (qt_cnd (qt_cnd (qv_at_3 k pc i) qt_non) (qt_cnd (qv_at_2 k pc i) qt_non)) (qt_cnd (qt_cnd (qv_at_1 k pc i) qt_non) (qt_cnd (qv_at_0 k pc i) qt_non)))))
theorem qb_vAt (L : Nat) : qm_vAt (qb_T L) qb_bs := fun k pc i h => qv_at k pc i h
