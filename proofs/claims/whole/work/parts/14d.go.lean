/-! ===== the making machine: a run is a walk ===== -/
set_option maxHeartbeats 4000000 in
theorem qk_go {T : qk_T} {bs : Nat → ByteArray} {ow : Nat → String} {nm : Nat → MethodName} {cl : List vw_C} {TB : List Jvm.Cond} {NS : qk_NS} {ac : Nat → ClassId} {D : va_G}
    (vAt : qk_vAt T bs) (vNcl : qk_vNcl T ow cl TB) (vFld : qk_vFld T ow cl TB) (vArr : qk_vArr TB) (vIsp : qk_vIsp T bs ow nm TB NS) (vLaw : ∀ k i ci j, qk_fld T k i = some (ci, j) → k ≠ 3001) (hgood : ∀ w ∈ TB, goodWord w = true) :
    ∀ (n d k pc : Nat) (ls st : List qm_V) (G : List qk_E) (pc' : Nat) (ls' st' : List qm_V) (G' : List qk_E), qk_run T n d k pc ls st G = some (pc', ls', st', G') →
    ∀ (p : Program) (l : Launch) (e : Env) (R : Room) (s : State) (m : MethodId) (args : Array Value) (below : List Frame) (meth : Method) (c : Code) (H : Heap) (locs : List Loc) (cells slots : Nat) (Q : State → Prop) (A : Nat → Prop) (H0 : Heap) (lsA : Array Slot) (ad : Nat → Nat),
    qk_Fr T bs ow cl TB NS ac D p s m args meth c k → 4 * d ≤ R.frames → 100 * d ≤ R.locals → cells + G'.length ≤ R.cells + G.length → slots + qk_sz G' ≤ R.slots + qk_sz G → va_P D cl (qk_ws ad ac G) H → va_D A (qk_ws ad ac G) → va_S A H0 H locs → (∀ q, H0.size ≤ q → A q) → qm_LH ad lsA (qk_mxl T k) ls →
    (∀ (ad' : Nat → Nat) (H' : Heap) (locs' : List Loc) (lsr : Array Slot), (∀ i, i < G.length ∨ i = 999 → ad' i = ad i) → va_P D cl (qk_ws ad' ac G') H' → va_D A (qk_ws ad' ac G') → va_S A H0 H' locs' → qm_LH ad' lsr (qk_mxl T k) ls' → W p l e R s m args below meth c H' locs' (cells + (G'.length - G.length)) (slots + (qk_sz G' - qk_sz G)) Q (F0 m pc' lsr (st'.map (qm_cv ad')))) →
    W p l e R s m args below meth c H locs cells slots Q (F0 m pc lsA (st.map (qm_cv ad))) := by
  intro n
  induction n with
  | zero => intro d k pc ls st G pc' ls' st' G' h; cases h
  | succ n ih =>
    intro d k pc ls st G pc' ls' st' G' hrun p l e R s m args below meth c H locs cells slots Q A H0 lsA ad hF hfr hlo hce hsl hP hD hS hA hL hret
    rw [qk_run] at hrun
    by_cases hstop : qk_stop (qk_at T k pc) = true
    · rw [if_pos hstop] at hrun
      cases hrun
      have := hret ad H locs lsA (fun _ _ => rfl) hP hD hS hL
      rwa [Nat.sub_self, Nat.sub_self, Nat.add_zero, Nat.add_zero] at this
    · rw [if_neg hstop] at hrun
      cases hat : qk_at T k pc with
      | none => rw [hat] at hrun; cases hrun
      | some i =>
        rw [hat, Option.bind_some] at hrun
        cases hst : qk_step T k pc ls st G i with
        | none => rw [hst] at hrun; cases hrun
        | some o =>
          rw [hst] at hrun
          obtain ⟨len, hd, hlen⟩ := vAt k pc i hat
          rcases o with ⟨pc1, ls1, st1, G1⟩ | ⟨k', as, rest⟩
          · have h1 := qk_step_le hst
            have h2 := qk_run_le _ _ _ _ _ _ _ _ _ _ _ hrun
            refine qk_plain vNcl vFld vArr vLaw hF hd hlen hst hP hD hS hA hL (by omega) (by omega) fun ad1 H1 locs1 lsB a0 a1 a2 a3 a4 => ?_
            refine ih d k pc1 ls1 st1 G1 pc' ls' st' G' hrun p l e R s m args below meth c H1 locs1 _ _ Q A H0 lsB ad1 hF hfr hlo (by omega) (by omega) a1 a2 a3 hA a4 fun ad2 H2 locs2 lsC b0 b1 b2 b3 b4 => ?_
            have e1 : cells + (G1.length - G.length) + (G'.length - G1.length) = cells + (G'.length - G.length) := by omega
            have e2 : slots + (qk_sz G1 - qk_sz G) + (qk_sz G' - qk_sz G1) = slots + (qk_sz G' - qk_sz G) := by omega
            rw [e1, e2]
            exact hret ad2 H2 locs2 lsC (fun i hi => (b0 i (by omega)).trans (a0 i hi)) b1 b2 b3 b4
          · obtain ⟨idx, nn, cc, as', rfl, hisp, rfl, rfl, hasl, hcat, hwf⟩ := qk_step_call hst
            obtain ⟨w1, w2, w3, w4⟩ := qk_wfs_and hwf
            have hwr : rest.all (qk_wf G.length) = true := by
              rw [List.all_append, List.all_cons, Bool.and_eq_true, Bool.and_eq_true] at w2
              exact w2.2.2
            obtain rfl : len = 3 := hlen
            obtain ⟨v0, v1⟩ := vIsp _ _ _ _ hisp
            have hrun2 : (if d = 0 then none else if k' = 0 then (if (some (.inr (.inr cc)) :: as').length = 1 then qk_run T n d k (pc + 3) ls rest G else none)
      else if (qm_ent (some (.inr (.inr cc)) :: as') (qk_mxl T k')).length = qk_mxl T k' then (match qk_run T n (d - 1) k' 0 (qm_ent (some (.inr (.inr cc)) :: as') (qk_mxl T k')) [] G with
        | none => none
        | some (pc', _, st', G') => if qk_at T k' pc' = some .return_ ∧ st' = [] ∧ G.length ≤ G'.length then qk_run T n d k (pc + 3) ls rest G' else none)
      else none) = some (pc', ls', st', G') := hrun
            have hF2 := hF
            obtain ⟨hx, hb, hml, hown, hts, hK, hNw, hini⟩ := hF2
            by_cases hd0 : d = 0
            · rw [if_pos hd0] at hrun2; cases hrun2
            rw [if_neg hd0] at hrun2
            have hcr : 2 * (F0 m pc lsA ((as'.reverse ++ some (.inr (.inr cc)) :: rest).map (qm_cv ad))).monitorRoom + ((rest.map (qm_cv ad)).map fun v => v.category).sum ≤ 8 := lv_room (by rw [qm_catSum]; exact hcat)
            by_cases hk0 : k' = 0
            · rw [if_pos hk0] at hrun2
              obtain ⟨hl1, hrun3⟩ := qk_if hrun2
              obtain rfl : as' = [] := by
                cases as' with
                | nil => rfl
                | cons x y => simp at hl1
              obtain ⟨q1, q2, q3⟩ := v0 hk0
              refine W.objInit hx hb hown (hts _ q1) (hts _ q2) (hts _ q3) rfl (hL.2.1.trans hml.symm) rfl hd (by omega) ?_ ?_
              · have h8 : 2 * (F0 m pc lsA ((([] : List qm_V).reverse ++ some (.inr (.inr cc)) :: rest).map (qm_cv ad))).monitorRoom + ((rest.map (qm_cv ad)).map fun v => v.category).sum ≤ 8 := hcr
                exact Nat.le_trans (Nat.add_le_add_right h8 12) (by omega)
              · exact ih d k (pc + 3) ls rest G pc' ls' st' G' hrun3 p l e R s m args below meth c H locs cells slots Q A H0 lsA ad hF hfr hlo hce hsl hP hD hS hA hL hret
            · rw [if_neg hk0] at hrun2
              obtain ⟨hent, hrun3⟩ := qk_if hrun2
              obtain ⟨g2, g3, g4, g5, g6, g7, g8, g9, g10, glink⟩ := v1 hk0
              cases hrun4 : qk_run T n (d - 1) k' 0 (qm_ent (some (.inr (.inr cc)) :: as') (qk_mxl T k')) [] G with
              | none => rw [hrun4] at hrun3; cases hrun3
              | some q =>
                obtain ⟨pc1, ls1, st1, G1⟩ := q
                rw [hrun4] at hrun3
                obtain ⟨⟨hr1, hr2, hr3⟩, hrun5⟩ := qk_if hrun3
                subst hr2
                have hle1 := qk_run_le _ _ _ _ _ _ _ _ _ _ _ hrun4
                have hle2 := qk_run_le _ _ _ _ _ _ _ _ _ _ _ hrun5
                have hG : GoodIn TB (Jvm.Cond.code (nm k') (bs k') (qk_mxl T k') none :: TB) := by
                  intro w hw
                  rcases List.mem_cons.mp hw with rfl | hw
                  · exact ⟨g2, good_of_word (hgood _ g2)⟩
                  · exact ⟨hw, good_of_word (hgood _ hw)⟩
                have hM : Met l (nm k') (Jvm.Cond.code (nm k') (bs k') (qk_mxl T k') none :: TB) ({ frames := 4 * (d - 1), cells := G1.length - G.length, slots := qk_sz G1 - qk_sz G, locals := 100 * (d - 1) }) (va_Pc (qm_cv ad (some (.inr (.inr cc))) :: as'.map (qm_cv ad)) (qk_PcB ow cl NS ad ac D G H.size)) (qk_Qc cl ad ac D G G1 H.size) (G1.length - G.length) (qk_sz G1 - qk_sz G) (va_A (qk_ws ad ac G) H.size) := by
                  refine qm_ofW (cc := bs k') (maxL := qk_mxl T k') (ret := none) g7 rfl ?_
                  intro p e s m args below meth c s₁ B hml hv
                  obtain ⟨rfl, hsz, hP2, hK2, hD2, hN2⟩ := hv
                  have hts2 := atoms_spec (ws := Jvm.Cond.code (nm k') (bs k') (qk_mxl T k') none :: TB) B.pre
                  rw [lg_entry_eq]
                  refine ih (d - 1) k' 0 _ [] G pc1 ls1 [] G1 hrun4 p l e _ s m _ below meth c s.heap [] 0 0 _ (va_A (qk_ws ad ac G) H.size) s.heap _ ad ⟨B.exec, B.bytes, hml, by rw [g8]; exact findClass_of_methodNamed B.named, fun w hw => hts2 w (List.mem_cons_of_mem _ hw), hK2, hN2, fun _ => (name_of_methodNamed B.named B.method).1.trans g6⟩ (Nat.le_refl _) (Nat.le_refl _) ?_ ?_ hP2 ⟨hD2.1, fun k q h => va_A.in h⟩ va_S.rf (fun q h => Or.inr (by rw [← hsz]; exact h)) (qm_ent_LH hent) ?_
                  · show 0 + G1.length ≤ (G1.length - G.length) + G.length
                    omega
                  · show 0 + qk_sz G1 ≤ (qk_sz G1 - qk_sz G) + qk_sz G
                    omega
                  · intro ad' H' locs' lsr hag hP' hD' hS' hL'
                    obtain ⟨len, hdr, hlr⟩ := vAt k' pc1 _ hr1
                    obtain rfl : len = 1 := hlr
                    rw [Nat.zero_add, Nat.zero_add]
                    exact W.vret B.exec B.bytes (by rw [B.returns]) (fun t ht hW => ⟨rfl, ⟨ad', hag, by rw [ht]; exact hP', hD'⟩, hS'.F ht⟩) hS'.2.2 hdr B.notSynchronized
                have hpre : ∀ U : State, U.heap = H → s.WarmedH U.vm → va_Pc (qm_cv ad (some (.inr (.inr cc))) :: as'.map (qm_cv ad)) (qk_PcB ow cl NS ad ac D G H.size) (qm_cv ad (some (.inr (.inr cc))) :: as'.map (qm_cv ad)).toArray U := fun U hU hW => ⟨rfl, by rw [hU], by rw [hU]; exact hP, va_K.moved hW.alike hK, ⟨hD.1, fun _ _ _ => trivial⟩, hNw.warm hW⟩
                have hAc : ∀ q, va_A (qk_ws ad ac G) H.size q → A q := fun q hq => by
                  rcases hq with ⟨k, e, h⟩ | h
                  · exact hD.2 k _ h
                  · exact hA q (Nat.le_trans hS.1 h)
                have kont : ∀ (ad' : Nat → Nat) (H1 : Heap) (locs1 : List Loc), (∀ i, i < G.length ∨ i = 999 → ad' i = ad i) → va_P D cl (qk_ws ad' ac G1) H1 → va_D A (qk_ws ad' ac G1) → va_S A H0 H1 locs1 → W p l e R s m args below meth c H1 locs1 (cells + (G1.length - G.length)) (slots + (qk_sz G1 - qk_sz G)) Q (F0 m (pc + 3) lsA (rest.map (qm_cv ad))) := by
                  intro ad1 H1 locs1 a0 a1 a2 a3
                  rw [← qk_map_congr a0 hwr]
                  refine ih d k (pc + 3) ls rest G1 pc' ls' st' G' hrun5 p l e R s m args below meth c H1 locs1 _ _ Q A H0 lsA ad1 hF hfr hlo (by omega) (by omega) a1 a2 a3 hA (qk_LH_congr a0 w1 hL) fun ad2 H2 locs2 lsC b0 b1 b2 b3 b4 => ?_
                  have e1 : cells + (G1.length - G.length) + (G'.length - G1.length) = cells + (G'.length - G.length) := by omega
                  have e2 : slots + (qk_sz G1 - qk_sz G) + (qk_sz G' - qk_sz G1) = slots + (qk_sz G' - qk_sz G) := by omega
                  rw [e1, e2]
                  exact hret ad2 H2 locs2 lsC (fun i hi => (b0 i (by omega)).trans (a0 i hi)) b1 b2 b3 b4
                have hroom : 4 * (d - 1) + 1 ≤ R.frames ∧ 8 + (qk_mxl T k' + 11) + 100 * (d - 1) ≤ R.locals := ⟨by omega, by omega⟩
                have hstk : (F0 m pc lsA ((as'.reverse ++ some (.inr (.inr cc)) :: rest).map (qm_cv ad))).stack = (as'.map (qm_cv ad)).reverse ++ Value.ref (ad cc) :: rest.map (qm_cv ad) := by
                  simp [qm_cv]
                have hasl2 : (as'.map (qm_cv ad)).length = nn := by rw [List.length_map]; exact hasl
                rcases glink with glink | ⟨host, glink⟩
                · exact qk_callg (va_runI (As := as'.map (qm_cv ad)) (rest := rest.map (qm_cv ad)) ⟨hx, hb, hml, hown, hts⟩ hM ⟨callB_of nn hts hG rfl rfl rfl (hts _ g3) (hts _ glink) ⟨g4.1, g4.2, g9⟩ hroom, g6, hts _ g5⟩ ⟨qk_blind, hpre⟩ rfl hasl2 hL.2.1 hstk hcr hd ⟨by omega, by omega⟩) hS hAc kont
                · exact qk_callg (va_runIN (As := as'.map (qm_cv ad)) (rest := rest.map (qm_cv ad)) ⟨hx, hb, hml, hown, hts⟩ hM ⟨va_cnB nn hts hG rfl rfl rfl (hNw _ glink) (hts _ g3) ⟨g4.1, g4.2, g9⟩ hroom, g6, hts _ g5⟩ ⟨qk_blind, hpre⟩ rfl hasl2 hL.2.1 hstk hcr hd ⟨by omega, by omega⟩) hS hAc kont
