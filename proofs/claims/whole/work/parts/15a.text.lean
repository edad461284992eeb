/-! ===== from the entry to the loop ===== -/
noncomputable def qs_tx : List (String × Nat × String) := [(RX5, 45, "colour"), (RX10, 65, "colour card strung s z pack twist weave on back still twice "), (RX5, 54, "card"), (RX5, 114, "strung"), (RX5, 119, "s"), (RX5, 121, "z"), (RX5, 59, "pack"), (RX5, 64, "twist"), (RX5, 69, "weave"), (RX5, 179, "on"), (RX5, 181, "back"), (RX5, 183, "still"), (RX5, 185, "twice"), (RX6, 41, "first"), (RX6, 47, "last"), (RX6, 49, "often"), (RX6, 51, "total"), (RX6, 53, "most"), (RX6, 55, "least"), (RX6, 97, "all"), (RX6, 102, "not"), (RX6, 132, "row"), (RX6, 134, "back"), (RX6, 136, "still"), (RX6, 138, "min"), (RX6, 140, "max"), (RX6, 145, "front"), (RX6, 147, "behind"), (RX6, 149, "slant"), (RX6, 151, "twist"), (RX6, 95, "and"), (RX6, 90, "or")]
noncomputable def qt_txr (own : String) (e : Nat × qm_V × Nat × Nat) : Bool := match e.2.1 with
  | some (.inr (.inr c)) => Nat.ble 1000 c && (match qs_tx[c - 1000]? with
    | some (o, i, tx) => decide (o = own) && (Nat.beq i e.1 && decide ((qb_part e.2.2.1)[e.2.2.2]? = some (.stringRef own e.1 tx)))
    | none => false)
  | _ => true
theorem qs_cs_0 : (qb_cs_0).all (qt_txr RX0) = true := by decide +kernel
theorem qs_cs_1 : (qb_cs_1).all (qt_txr RX1) = true := by decide +kernel
theorem qs_cs_2 : (qb_cs_2).all (qt_txr RX2) = true := by decide +kernel
theorem qs_cs_3 : (qb_cs_3).all (qt_txr RX3) = true := by decide +kernel
theorem qs_cs_4 : (qb_cs_4).all (qt_txr RX4) = true := by decide +kernel
theorem qs_cs_5 : (qb_cs_5).all (qt_txr RX5) = true := by decide +kernel
theorem qs_cs_6 : (qb_cs_6).all (qt_txr RX6) = true := by decide +kernel
theorem qs_cs_7 : (qb_cs_7).all (qt_txr RX7) = true := by decide +kernel
theorem qs_cs_8 : (qb_cs_8).all (qt_txr RX8) = true := by decide +kernel
theorem qs_cs_9 : (qb_cs_9).all (qt_txr RX9) = true := by decide +kernel
theorem qs_cs_10 : (qb_cs_10).all (qt_txr RX10) = true := by decide +kernel
theorem qs_cs_11 : (qb_cs_11).all (qt_txr RX11) = true := by decide +kernel
theorem qs_cs_12 : (qb_cs_12).all (qt_txr RX12) = true := by decide +kernel
theorem qs_cs_13 : (qb_cs_13).all (qt_txr RJ6) = true := by decide +kernel
theorem qs_cs_14 : (qb_cs_14).all (qt_txr RJ9) = true := by decide +kernel
theorem qs_cs_15 : (qb_cs_15).all (qt_txr RL) = true := by decide +kernel
theorem qs_cs (o : Nat) : (qb_cs o).all (qt_txr (qb_own o)) = true := (qt_c2 (P := fun (a : List (Nat × qm_V × Nat × Nat)) (b : String) => a.all (qt_txr b) = true) (qt_c2 (P := fun (a : List (Nat × qm_V × Nat × Nat)) (b : String) => a.all (qt_txr b) = true) (qt_c2 (P := fun (a : List (Nat × qm_V × Nat × Nat)) (b : String) => a.all (qt_txr b) = true) (qt_c2 (P := fun (a : List (Nat × qm_V × Nat × Nat)) (b : String) => a.all (qt_txr b) = true) qs_cs_15 qs_cs_14) (qt_c2 (P := fun (a : List (Nat × qm_V × Nat × Nat)) (b : String) => a.all (qt_txr b) = true) qs_cs_13 qs_cs_12)) (qt_c2 (P := fun (a : List (Nat × qm_V × Nat × Nat)) (b : String) => a.all (qt_txr b) = true) (qt_c2 (P := fun (a : List (Nat × qm_V × Nat × Nat)) (b : String) => a.all (qt_txr b) = true) qs_cs_11 qs_cs_10) (qt_c2 (P := fun (a : List (Nat × qm_V × Nat × Nat)) (b : String) => a.all (qt_txr b) = true) qs_cs_9 qs_cs_8))) (qt_c2 (P := fun (a : List (Nat × qm_V × Nat × Nat)) (b : String) => a.all (qt_txr b) = true) (qt_c2 (P := fun (a : List (Nat × qm_V × Nat × Nat)) (b : String) => a.all (qt_txr b) = true) (qt_c2 (P := fun (a : List (Nat × qm_V × Nat × Nat)) (b : String) => a.all (qt_txr b) = true) qs_cs_7 qs_cs_6) (qt_c2 (P := fun (a : List (Nat × qm_V × Nat × Nat)) (b : String) => a.all (qt_txr b) = true) qs_cs_5 qs_cs_4)) (qt_c2 (P := fun (a : List (Nat × qm_V × Nat × Nat)) (b : String) => a.all (qt_txr b) = true) (qt_c2 (P := fun (a : List (Nat × qm_V × Nat × Nat)) (b : String) => a.all (qt_txr b) = true) qs_cs_3 qs_cs_2) (qt_c2 (P := fun (a : List (Nat × qm_V × Nat × Nat)) (b : String) => a.all (qt_txr b) = true) qs_cs_1 qs_cs_0))))
def qs_tws (own : String) (idx : Nat) (bytes : List Nat) : List Jvm.Cond := .exactly (.string own idx) "java/lang/String" :: .eq (.field (.string own idx) "java/lang/String" "coder" "B") (.int 0) :: .arrayOf (.field (.string own idx) "java/lang/String" "value" "[B") .byte :: .eq (.length (.field (.string own idx) "java/lang/String" "value" "[B")) (.int (Int32.ofNat bytes.length)) :: (List.range bytes.length).map fun j => .eq (.elem (.field (.string own idx) "java/lang/String" "value" "[B") (.int (Int32.ofNat j))) (.int (Int32.ofNat (bytes.getD j 0)))
noncomputable def qs_twa : List Jvm.Cond := (List.range 32).flatMap fun i => match qs_tx[i]?, qb_txs[i]? with
  | some (own, idx, _), some bytes => qs_tws own idx bytes
  | _, _ => []
def qs_keep : Jvm.Cond → Bool
  | .eq (.string _ _) (.string _ _) => false
  | _ => true
theorem qs_twa_ok : (((flatC narrow_1).filter qs_keep).drop 7).take 314 = qs_twa := by decide +kernel
theorem qs_txs_ok : qb_txs.length = 32 ∧ qs_tx.length = 32 ∧ qb_txs.all (fun l => Nat.blt l.length 2147483648 && l.all fun x => Nat.blt x 128) = true := by decide +kernel
theorem qs_str {args : Array Value} {s : State} {own : String} {idx : Nat} {bytes : List Nat} {A : Nat → Prop} (hb : bytes.length < 2147483648) (h128 : ∀ j, j < bytes.length → bytes.getD j 0 < 128) (h : ∀ w ∈ qs_tws own idx bytes, w.before args s = true) (hA : ∀ a : Nat, a < s.heap.size → ¬ A a) :
    ∃ a : Nat, qm_Str a bytes A s s.heap ∧ (Term.string own idx).eval args s none [] s = some (.ref a) := by
  have h1 := h _ List.mem_cons_self
  have h2 := h _ (List.mem_cons_of_mem _ List.mem_cons_self)
  have h3 := h _ (List.mem_cons_of_mem _ (List.mem_cons_of_mem _ List.mem_cons_self))
  have h4 := h _ (List.mem_cons_of_mem _ (List.mem_cons_of_mem _ (List.mem_cons_of_mem _ List.mem_cons_self)))
  have h5 : ∀ j, j < bytes.length → (Jvm.Cond.eq (.elem (.field (.string own idx) "java/lang/String" "value" "[B") (.int (Int32.ofNat j))) (.int (Int32.ofNat (bytes.getD j 0)))).before args s = true := fun j hj =>
    h _ (List.mem_cons_of_mem _ (List.mem_cons_of_mem _ (List.mem_cons_of_mem _ (List.mem_cons_of_mem _ (List.mem_map.mpr ⟨j, List.mem_range.mpr hj, rfl⟩)))))
  have hg : ∀ j, ((bytes.map Int32.ofNat)).getD j 0 = Int32.ofNat (bytes.getD j 0) := by
    intro j
    rw [List.getD_eq_getElem?_getD, List.getD_eq_getElem?_getD, List.getElem?_map]
    cases bytes[j]? <;> rfl
  obtain ⟨adK, adV, ⟨h6, -⟩, h7⟩ := vk_Sof (args := args) (s := s) (N := 1) (tm := fun _ => .string own idx) (len := [bytes.length]) (byt := [bytes.map Int32.ofNat]) (A := A)
    (fun i hi => by obtain rfl : i = 0 := by omega
                    exact hb)
    (fun _ _ => h1) (fun _ _ => h2) (fun _ _ => h3)
    (fun i hi => by obtain rfl : i = 0 := by omega
                    exact h4)
    (fun i hi j hj => by
      obtain rfl : i = 0 := by omega
      show (Jvm.Cond.eq (.elem (.field (.string own idx) "java/lang/String" "value" "[B") (.int (Int32.ofNat j))) (.int ((bytes.map Int32.ofNat).getD j 0))).before args s = true
      rw [hg]
      exact h5 j hj)
    (fun i j hi hj hne => absurd (show i = j by omega) hne) hA
  obtain ⟨q1, q2, q3, q4⟩ := h6 0 (by omega)
  refine ⟨adK 0, ⟨adV 0, q1, q2, q3, ?_, h128⟩, h7 0 (by omega)⟩
  have e : (fun j => Value.int (([bytes.map Int32.ofNat].getD 0 []).getD j 0)) = fun j => Value.int (Int32.ofNat (bytes.getD j 0)) := by
    funext j
    show Value.int ((bytes.map Int32.ofNat).getD j 0) = _
    rw [hg]
  rw [e] at q4
  exact q4
theorem qs_strs {args : Array Value} {s : State} {A : Nat → Prop} (h : ∀ w ∈ flatC narrow_1, w.before args s = true) (hA : ∀ a : Nat, a < s.heap.size → ¬ A a) :
    ∃ adT : Nat → Nat, ∀ i own idx tx bytes, qs_tx[i]? = some (own, idx, tx) → qb_txs[i]? = some bytes → qm_Str (adT i) bytes A s s.heap ∧ (Term.string own idx).eval args s none [] s = some (.ref (adT i)) := by
  have key : ∀ i : Nat, ∃ a : Nat, ∀ own idx tx bytes, qs_tx[i]? = some (own, idx, tx) → qb_txs[i]? = some bytes → qm_Str a bytes A s s.heap ∧ (Term.string own idx).eval args s none [] s = some (.ref a) := by
    intro i
    cases h1 : qs_tx[i]? with
    | none => exact ⟨0, fun own idx tx bytes q => by cases q⟩
    | some q =>
      obtain ⟨own, idx, tx⟩ := q
      cases h2 : qb_txs[i]? with
      | none => exact ⟨0, fun own idx tx bytes _ q => by cases q⟩
      | some bytes =>
        have hi : i < 32 := by
          have := (List.getElem?_eq_some_iff.mp h2).1
          rw [qs_txs_ok.1] at this
          exact this
        have hb := List.all_eq_true.mp qs_txs_ok.2.2 bytes (List.mem_of_getElem? h2)
        rw [Bool.and_eq_true] at hb
        have hw : ∀ w ∈ qs_tws own idx bytes, w.before args s = true := by
          intro w hw
          suffices hin : w ∈ qs_twa by
            rw [← qs_twa_ok] at hin
            exact h w ((List.mem_filter.mp (List.mem_of_mem_drop (List.mem_of_mem_take hin))).1)
          refine List.mem_flatMap.mpr ⟨i, List.mem_range.mpr hi, ?_⟩
          rw [h1, h2]
          exact hw
        obtain ⟨a, h3, h4⟩ := qs_str (A := A) (Nat.le_of_ble_eq_true hb.1) (fun j hj => by
          have h5 := List.all_eq_true.mp hb.2 bytes[j] (List.getElem_mem hj)
          have h6 : bytes.getD j 0 = bytes[j] := by rw [List.getD_eq_getElem?_getD, List.getElem?_eq_getElem hj]; rfl
          rw [h6]
          exact Nat.le_of_ble_eq_true h5) hw hA
        refine ⟨a, fun own' idx' tx' bytes' e1 e2 => ?_⟩
        cases e1
        cases e2
        exact ⟨h3, h4⟩
  exact Classical.axiomOfChoice key
