def R_law : String := "QueenBeltLaw"
def lw_P (b : Addr) (xs : List Int32) (args : Array Value) (s : State) : Prop := args = #[.ref b] ∧ s.IntsAt b xs ∧ xs.length ≤ 3072 ∧ (Jvm.Cond.and given_1 narrow_1).before args s = true
def lw_Q (_ : Array Value) (s : State) (o : Outcome) (t : State) : Prop := o = .returned (some (.int 1)) ∧ Framed s o t [] 600000 7302250
def lw_Z (below : List Frame) (a : Array Value) (s : State) : State → Prop := fun t => ∃ o, t.status = .running ∧ Ended t below o ∧ lw_Q a s o t
/-- the law's own end, with 1 on the stack, nothing written that was there before, its room as the claim has it -/
theorem lw_ret {p : Program} {l : Launch} {e : Env} {s : State} {m : MethodId} {below : List Frame} {meth : Method} {c : Code} {b : Nat} (hx : p.tables.exec = Jvm.exec) (hb : c.code = code) (hr : meth.sig.returnType = ret) (hlocks : meth.locks = false) {pc : Nat} {H : Heap} {ls : Array Slot} (hdg : decode code pc = .ok (.ireturn, 1)) : W p l e room_1 s m #[Value.ref b] below meth c H [] 600000 7302250 (lw_Z below #[Value.ref b] s) (F0 m pc ls [.int 1]) := by
  intro T hT X
  obtain ⟨fs, hret, hrun, hended, hW, hframe⟩ := X.leave (v := some (.int 1)) (hlocks := hlocks) (fun h => by rw [hr] at h; cases h)
  have hmeth' : T.vm.method? m = some meth := X.method'
  refine ⟨T.setFrames fs, ?_, .returned (some (.int 1)), hrun, hended, rfl, ⟨_, rfl⟩, hW, hframe⟩
  jvm_step X.here [X.here.top, hx, hb, hdg, hmeth', hr, ret, narrow_b1]
  (try refine ⟨rfl, ?_⟩); (try refine ⟨rfl, ?_⟩)
  first | (intro acts; rw [hret _ acts rfl rfl rfl]) | rw [hret _ _ rfl rfl rfl]
  exact Steps.refl _
/-- what holds at the law's entry: the machine, the code, the tables' words (any of lw_tbl by 'hts w (by decide +kernel)'), the script of L ints xs at the cell b, what the Statement gives of the start (any of its parts by flat_of_before) -/
def lw_At (p : Program) (s : State) (m : MethodId) (meth : Method) (c : Code) (b L : Nat) (xs : Nat → Int32) : Prop :=
  p.tables.exec = Jvm.exec ∧ c.code = code ∧ meth.sig.returnType = ret ∧ c.maxLocals = 4 ∧ s.vm.findClass R_law = some m.cls ∧ (∀ w ∈ lw_tbl, w.before #[Value.ref b] s = true) ∧ va_X b L xs s s.heap ∧ b < s.heap.size ∧ meth.locks = false ∧ (Jvm.Cond.and given_1 narrow_1).before #[Value.ref b] s = true

/-- what is left: a run of the small machine -/
theorem qs_start {p : Program} {e : Env} {s : State} {m : MethodId} {below : List Frame} {meth : Method} {c : Code} (l : Launch) {b L : Nat} {xs : Nat → Int32} (hL : L ≤ 3072) (C0 : lw_At p s m meth c b L xs)
    (hrun : ∀ ξ : Nat → Int, (∀ i, qm_r32 (ξ i)) → qm_W (qb_T L) 500 3001 18 [qm_P 999, qm_P 0, qm_P 13, qm_I 0] [] (qs_mu ξ) fun v _ => v = qm_I 1) : W p l e room_1 s m #[Value.ref b] below meth c s.heap [] 0 0 (lw_Z below #[Value.ref b] s) (entryFrame m ([Value.ref b] : List Value).toArray 4) := by
  obtain ⟨hx, hb, hr, hml, hown, htl, hX, hbl, hlk, hgv⟩ := C0
  have hts : ∀ w ∈ qb_TB, w.before #[Value.ref b] s = true := fun w hw => htl w (List.mem_filter.mp hw).1
  have hfl := flat_of_before _ hgv
  have hnar : ∀ w ∈ flatC narrow_1, w.before #[Value.ref b] s = true := fun w hw => hfl w (show w ∈ flatC given_1 ++ flatC narrow_1 from List.mem_append_right _ hw)
  have hA : ∀ a : Nat, a < s.heap.size → ¬ (fun q : Nat => s.heap.size ≤ q) a := fun a ha h => Nat.not_le_of_lt ha h
  obtain ⟨adT, hT⟩ := qs_strs (A := fun q : Nat => s.heap.size ≤ q) hnar hA
  obtain ⟨D, hKD⟩ : ∃ D : va_G, ∀ (ci : Nat) (q : vw_C), vwCl[ci]? = some q → u_Kn s q.1 q.2.1 q.2.2 (D.1 ci) (D.2 ci) := by
    have key : ∀ ci : Nat, ∃ d : ClassId × (Nat → Nat), ∀ q : vw_C, vwCl[ci]? = some q → u_Kn s q.1 q.2.1 q.2.2 d.1 d.2 := by
      intro ci
      cases hc : vwCl[ci]? with
      | none => exact ⟨(0, fun _ => 0), fun q h => by cases h⟩
      | some q =>
        obtain ⟨cC, iS, hk⟩ := u_known (C := q.1) (T := q.2.1) (N := q.2.2) hts (qv_cl ci q hc).1 (hts _ (qs_inst ci q hc))
        exact ⟨(cC, iS), fun q' h => by cases h; exact hk⟩
    obtain ⟨f, hf⟩ := Classical.axiomOfChoice key
    exact ⟨(fun ci => (f ci).1, fun ci => (f ci).2), hf⟩
  have harr : ∀ ty : FieldType, (∀ C, ty ≠ .object C) → Jvm.Cond.arrayClass ty ∈ qb_TB → ∃ cA : ClassId, ArrOfT s cA ty ∧ va_RA s cA ty := by
    intro ty hno h
    obtain ⟨cA, kA, comp, h1, h2, h3⟩ := Cond.arrayClass_spec (hts _ h)
    refine ⟨cA, fun n z => ⟨fun k h => (by cases h), kA, h2, comp, h3⟩, ?_⟩
    cases ty with
    | object C => exact absurd rfl (hno C)
    | _ => exact h1
  obtain ⟨c0, h0⟩ := harr .int (fun _ h => by cases h) (qz_vArr .int 0 rfl)
  obtain ⟨c1, h1⟩ := harr .long (fun _ h => by cases h) (qz_vArr .long 1 rfl)
  obtain ⟨c2, h2⟩ := harr .boolean (fun _ h => by cases h) (qz_vArr .boolean 2 rfl)
  obtain ⟨c3, h3⟩ := harr .char (fun _ h => by cases h) (qz_vArr .char 3 rfl)
  obtain ⟨ac, e0, e1, e2, e3⟩ : ∃ ac : Nat → ClassId, ac 0 = c0 ∧ ac 1 = c1 ∧ ac 2 = c2 ∧ ac 3 = c3 := ⟨fun t => if t = 0 then c0 else if t = 1 then c1 else if t = 2 then c2 else c3, rfl, rfl, rfl, rfl⟩
  subst e0 e1 e2 e3
  have hK : va_K D vwCl (qm_tys ac) s := by
    refine ⟨hKD, fun k q hk => ?_⟩
    match k, hk with
    | 0, hk => cases hk; exact h0
    | 1, hk => cases hk; exact h1
    | 2, hk => cases hk; exact h2
    | 3, hk => cases hk; exact h3
    | k + 4, hk => cases hk
  obtain ⟨G, hrunG, hG1, hG2, hG3⟩ := qs_run
  obtain ⟨ad0, hb0, ht0⟩ : ∃ ad0 : Nat → Nat, ad0 999 = b ∧ ∀ i, ad0 (i + 1000) = adT i := ⟨fun i => if i = 999 then b else adT (i - 1000), rfl, fun i => by
    show (if i + 1000 = 999 then b else adT (i + 1000 - 1000)) = adT i
    rw [if_neg (by omega), Nat.add_sub_cancel]⟩
  have hNS : qk_Nw qz_NS s := by
    intro q hq
    have hall : qz_NS.all (fun q => decide (Jvm.Cond.methodLinkNest q.1 q.2.1 q.2.2.1 q.2.2.2 ∈ tables_1)) = true := by decide +kernel
    exact va_Nw.of rfl (htl _ (qb_tabm (of_decide_eq_true (List.all_eq_true.mp hall q hq))))
  have hLH : qm_LH ad0 ((lg_sl ([qm_P 999].map (qm_cv ad0)) ++ List.replicate (4 - (lg_sl ([qm_P 999].map (qm_cv ad0))).length) Slot.unset).toArray) 4 [qm_P 999, none, none, none] := qm_ent_LH (As := [qm_P 999]) (n := 4) rfl
  have hval : [Value.ref b] = [qm_P 999].map (qm_cv ad0) := by
    show _ = [Value.ref (ad0 999)]
    rw [hb0]
  rw [hval, lg_entry_eq]
  rw [← hval] at hLH ⊢
  refine qk_go qz_vAt qz_vNcl qz_vFld qz_vArr qz_vIsp qz_vLaw qb_good (cl := vwCl) (ac := ac) (D := D) 3000 4 3001 0 [qm_P 999, none, none, none] [] [] 18 _ [] G hrunG p l e room_1 s m _ below meth c s.heap [] 0 0 _ (fun q : Nat => s.heap.size ≤ q) s.heap _ ad0 ⟨hx, hb, hml, hown, hts, hK, hNS, fun h => absurd rfl h⟩ (by decide) (by decide) ?_ ?_ (fun k q h => by cases h) ⟨fun i j p q h => (by cases h), fun k q h => (by cases h)⟩ va_S.rf (fun q h => h) hLH ?_
  · show 0 + G.length ≤ 600000 + 0
    omega
  · show 0 + qk_sz G ≤ 7302250 + qk_sz []
    omega
  intro ad' H' locs' lsr hag hP' hD' hS' hL'
  have ha9 : ad' 999 = b := (hag 999 (Or.inr rfl)).trans hb0
  obtain ⟨ad, hadL, hadH⟩ : ∃ ad : Nat → Nat, (∀ c, c < 95 → ad c = ad' (qs_pi c)) ∧ ∀ c, ¬ c < 95 → ad c = ad0 c := ⟨fun c => if c < 95 then ad' (qs_pi c) else ad0 c, fun c h => if_pos h, fun c h => if_neg h⟩
  have h9 : ad 999 = b := (hadH 999 (by omega)).trans hb0
  obtain ⟨ξ, hξ, hξ2⟩ : ∃ ξ : Nat → Int, (∀ i, Int32.ofInt (ξ i) = xs i) ∧ ∀ i, qm_r32 (ξ i) := ⟨fun i => (xs i).toInt, fun i => Int32.ofInt_toInt _, fun i => ⟨Int32.le_toInt _, Int32.toInt_lt _⟩⟩
  obtain ⟨n, v, μ', hr1, hv⟩ := hrun ξ hξ2
  subst hv
  have hEx : qm_Ex (qb_T L) qb_ow ad ξ (fun q : Nat => s.heap.size ≤ q) s s.heap := by
    refine ⟨fun L' hL' => ?_, fun cc tx htx => ?_, fun k i cc hc => ?_, ?_, ?_⟩
    · cases hL'
      rw [h9]
      exact ⟨hA b hbl, hbl, by rw [show (fun i => Int32.ofInt (ξ i)) = xs from funext hξ]; exact hX⟩
    · have htx : cond (Nat.ble 1000 cc) (qb_txs[cc - 1000]?) none = some tx := htx
      cases hk : Nat.ble 1000 cc with
      | false => rw [hk] at htx; cases htx
      | true =>
        rw [hk, cond_true] at htx
        have hk := Nat.le_of_ble_eq_true hk
        have hlt := (List.getElem?_eq_some_iff.mp htx).1
        rw [qs_txs_ok.1] at hlt
        obtain ⟨q, hq⟩ : ∃ q, qs_tx[cc - 1000]? = some q := ⟨_, List.getElem?_eq_getElem (by rw [qs_txs_ok.2.1]; exact hlt)⟩
        have h5 := (hT (cc - 1000) q.1 q.2.1 q.2.2 tx hq htx).1
        rw [hadH cc (by omega), show cc = (cc - 1000) + 1000 by omega, ht0]
        exact h5
    · have hc : ((qb_cs (Nat.div k 200)).find? fun e => Nat.beq e.1 i).map (fun e => e.2.1) = some (some (.inr (.inr cc))) := hc
      cases hf : (qb_cs (Nat.div k 200)).find? fun e => Nat.beq e.1 i with
      | none => rw [hf] at hc; cases hc
      | some e =>
        rw [hf] at hc
        have hc : some e.2.1 = some (some (.inr (.inr cc))) := hc
        have hcc := Option.some.inj hc
        have hi1 := List.find?_some hf
        obtain rfl := Nat.eq_of_beq_eq_true hi1
        have h5 := List.all_eq_true.mp (qs_cs (Nat.div k 200)) e (List.mem_of_find?_eq_some hf)
        unfold qt_txr at h5
        rw [hcc] at h5
        simp only [Bool.and_eq_true] at h5
        obtain ⟨h6, h7⟩ := h5
        have h6 := Nat.le_of_ble_eq_true h6
        cases hq : qs_tx[cc - 1000]? with
        | none => rw [hq] at h7; cases h7
        | some q =>
          obtain ⟨o, i, tx⟩ := q
          rw [hq] at h7
          simp only [Bool.and_eq_true, decide_eq_true_eq] at h7
          obtain ⟨h8, h10, h11⟩ := h7
          have hlt := (List.getElem?_eq_some_iff.mp hq).1
          rw [qs_txs_ok.2.1] at hlt
          obtain ⟨by_, hby⟩ : ∃ q, qb_txs[cc - 1000]? = some q := ⟨_, List.getElem?_eq_getElem (by rw [qs_txs_ok.1]; exact hlt)⟩
          have h12 := (hT (cc - 1000) o i tx by_ hq hby).2
          rw [h8, Nat.eq_of_beq_eq_true h10] at h12
          refine ⟨tx, ?_⟩
          rw [hadH cc (by omega), show cc = (cc - 1000) + 1000 by omega, ht0]
          exact vk_R.of (htl _ (qb_partm _ _ (List.mem_of_getElem? h11))) h12
    · exact va_Zof (htl _ (qb_partm 1 _ (List.mem_of_getElem? (i := 192) rfl))) (htl _ (qb_partm 0 _ (List.mem_of_getElem? (i := 14) rfl))) (va_eqt (hnar _ (List.mem_of_getElem? (i := 2) rfl))) hA
    · exact va_Zqof (htl _ (qb_partm 1 _ (List.mem_of_getElem? (i := 208) rfl))) (htl _ (qb_partm 0 _ (List.mem_of_getElem? (i := 16) rfl))) (hnar _ (List.mem_of_getElem? (i := 3) rfl)) hA
  have hL2 : qm_LH ad lsr 4 [qm_P 999, qm_P 0, qm_P 13, qm_I 0] := by
    refine ⟨rfl, hL'.2.1, hL'.2.2.1, fun i x hx => ?_⟩
    match i, hx with
    | 0, hx =>
      cases hx
      have := hL'.2.2.2 0 _ rfl
      have e : qm_cv ad (some (.inr (.inr 999))) = qm_cv ad' (some (.inr (.inr 999))) := by
        show Value.ref (ad 999) = Value.ref (ad' 999)
        rw [h9, ha9]
      rw [e]
      exact this
    | 1, hx =>
      cases hx
      have := hL'.2.2.2 1 _ rfl
      have e : qm_cv ad (some (.inr (.inr 0))) = qm_cv ad' (some (.inr (.inr 0))) := by
        show Value.ref (ad 0) = Value.ref (ad' 0)
        rw [hadL 0 (by omega)]
        rfl
      rw [e]
      exact this
    | 2, hx =>
      cases hx
      have := hL'.2.2.2 2 _ rfl
      have e : qm_cv ad (some (.inr (.inr 13))) = qm_cv ad' (some (.inr (.inr 45))) := by
        show Value.ref (ad 13) = Value.ref (ad' 45)
        rw [hadL 13 (by omega)]
        rfl
      rw [e]
      exact this
    | 3, hx =>
      cases hx
      exact hL'.2.2.2 3 _ rfl
    | i + 4, hx => cases hx
  refine qm_go (qb_vAt L) (qb_vSh (by omega)) (qb_vFld L) (qb_vInv L) (qb_vNone L) (qb_vCst L) (qb_vIntr L ad ac D ξ) qb_good (qs_inj hG2 hadL hD') n 500 3001 18 [qm_P 999, qm_P 0, qm_P 13, qm_I 0] [] (qs_mu ξ) _ μ' hr1 p l e room_1 s m _ below meth c H' locs' _ _ _ (fun q : Nat => s.heap.size ≤ q) s.heap lsr ⟨hx, hb, hml, hown, hts, hK, hEx⟩ (by decide) (by decide) ?_ ?_ ?_ (qs_world hG1 hadL hP') hS' (qs_own hG2 hadL hD') hL2 ?_
  · show 0 + (G.length - 0) ≤ 600000
    omega
  · show 0 + (qk_sz G - qk_sz []) ≤ 7302250
    omega
  · funext k
    rfl
  intro H2 locs2 pcr lsr2 st2 hh9 hP2 hS2 hR
  rcases hR with ⟨z, r1, rfl, r3, -⟩ | ⟨z, r1, -, r3, -⟩ | ⟨r1, -, r3, -⟩
  · cases r3
    obtain ⟨len, hd, hlen⟩ := qb_vAt L 3001 pcr _ r1
    obtain rfl : len = 1 := hlen.resolve_left (show ¬ (1 : Nat) = 0 by decide)
    refine va_forget (fun q hq => hS2.2.2 q hq) (W.widen (k := 600000) (n := 7302250) (by show 0 + (G.length - 0) ≤ 600000; omega) (by show 0 + (qk_sz G - qk_sz []) ≤ 7302250; omega) ?_)
    have e1 : Int32.ofInt 1 = 1 := by decide
    show W p l e room_1 s m #[Value.ref b] below meth c H2 [] 600000 7302250 (lw_Z below #[Value.ref b] s) (F0 m pcr lsr2 [.int (Int32.ofInt 1)])
    rw [e1]
    exact lw_ret hx hb hr hlk hd
  · cases r3
  · cases r3
