/-! ===== what a question tells of a row, pure ===== -/
def je_cl (v : Int) : Int := if 1000000 < v then 1000000 else if v < -1000000 then -1000000 else v
def je_fl (a b : Int) : Int := if b = 0 then 0 else if 0 < b then a / b else (-a) / (-b)
def je_row (nc : Nat) (T : Nat → Nat → Int) (r : Nat) (x : Int) : Int := if x = 2 then jd_sum (fun c => jd_is (T r c = 2)) nc else if x = 3 then jd_sum (fun c => jd_is (T r c = 0)) nc else (r : Int)
def je_of (nc : Nat) (sd : Nat → Int) (th T : Nat → Nat → Int) (r : Nat) (x v : Int) : Int :=
  if 0 ≤ v ∧ v < (nc : Int) then (if x = 4 then jd_cell th T r v.toNat 0 else if x = 5 then jd_cell th T r v.toNat 2 else if x = 6 then jd_sl (T r v.toNat) (sd v.toNat) else jd_tw (fun i => T i v.toNat) (r + 1)) else if x = 4 then 99 else if x = 5 then 99 else 0
def je_two (x a b : Int) : Int := if x = 9 then je_cl (a + b) else if x = 10 then je_cl (a - b) else if x = 11 then je_cl (a * b) else if x = 12 then je_fl a b else if x = 13 then (if a < b then a else b) else if x = 14 then (if b < a then a else b) else if x = 15 then jd_is (a < b) else if x = 16 then jd_is (b < a) else if x = 17 then jd_is (a = b) else if x = 18 then a * b else jd_is (0 < a + b)
def je_b (v : Int) : Prop := v = 0 ∨ v = 1
def je_n (v : Int) : Prop := -1000000 ≤ v ∧ v ≤ 1000000
/-- one step; none where it must not come to that -/
noncomputable def je_step (nc : Nat) (sd : Nat → Int) (th T : Nat → Nat → Int) (r : Nat) (x y : Int) (P : List Int) : Option (List Int) :=
  if x = 0 then (if P.length < 100 ∧ 0 ≤ y ∧ y ≤ 9999 then some (y :: P) else none)
  else if x ≤ 3 then (if P.length < 100 ∧ 1 ≤ x then some (je_row nc T r x :: P) else none)
  else if x ≤ 7 then (match P with
    | v :: P' => some (je_of nc sd th T r x v :: P')
    | [] => none)
  else if x = 8 then (match P with
    | v :: P' => @ite _ (je_b v) (Classical.propDecidable _) (some ((1 - v) :: P')) none
    | [] => none)
  else (match P with
    | b :: a :: P' => @ite _ (x ≤ 17 ∨ (x ≤ 19 ∧ je_b a ∧ je_b b)) (Classical.propDecidable _) (some (je_two x a b :: P')) none
    | _ => none)
noncomputable def je_run (nc : Nat) (sd : Nat → Int) (th T : Nat → Nat → Int) (r : Nat) (D : qm_M) : Nat → Nat → List Int → Option (List Int)
  | 0, _, P => some P
  | k + 1, i, P => (je_step nc sd th T r (D 42 i) (D 43 i) P).bind (je_run nc sd th T r D k (i + 1))
def je_all (P : List Int) : Prop := ∀ v, v ∈ P → je_n v
theorem je_cln (v : Int) : je_n (je_cl v) := by unfold je_n je_cl; split <;> (try split) <;> omega
theorem je_isn (p : Prop) [Decidable p] : je_b (jd_is p) := by unfold je_b jd_is; split <;> omega
theorem je_bn {v : Int} (h : je_b v) : je_n v := by unfold je_b at h; unfold je_n; omega
theorem je_pd {a b : Int} (ha : je_n a) (hb : 0 < b) : je_n (a / b) := by
  unfold je_n at *
  constructor
  · rw [Int.le_ediv_iff_mul_le hb]; omega
  · exact Int.ediv_le_of_le_mul hb (by omega)
theorem je_fln {a : Int} (b : Int) (ha : je_n a) : je_n (je_fl a b) := by
  unfold je_fl
  split
  · unfold je_n; decide
  · split
    · exact je_pd ha (by assumption)
    · exact je_pd (a := -a) (by unfold je_n at *; omega) (by omega)
theorem je_twon {x a b : Int} (ha : je_n a) (hb : je_n b) (h : x ≤ 17 ∨ (x ≤ 19 ∧ je_b a ∧ je_b b)) (hx : 9 ≤ x) : je_n (je_two x a b) := by
  unfold je_two
  repeat' split
  all_goals first
    | exact je_cln _
    | exact je_fln _ ha
    | exact ha
    | exact hb
    | exact je_bn (je_isn _)
    | skip
  rcases h with h | ⟨h1, h2, h3⟩
  · omega
  · unfold je_b at h2 h3
    unfold je_n
    rcases h2 with rfl | rfl <;> rcases h3 with rfl | rfl <;> decide
theorem je_twob {x a b : Int} (hx : 15 ≤ x) (h : x ≤ 17 ∨ (x ≤ 19 ∧ je_b a ∧ je_b b)) : je_b (je_two x a b) := by
  unfold je_two
  rw [if_neg (by omega), if_neg (by omega), if_neg (by omega), if_neg (by omega), if_neg (by omega), if_neg (by omega)]
  repeat' split
  all_goals first
    | exact je_isn _
    | skip
  rcases h with h | ⟨h1, h2, h3⟩
  · omega
  · unfold je_b at *
    rcases h2 with rfl | rfl <;> rcases h3 with rfl | rfl <;> decide
section
variable {nc nr : Nat} {lm : Int} {sd : Nat → Int} {th T : Nat → Nat → Int} {r : Nat}
theorem je_sumn (hO : jd_ok nc nr lm sd th T) (t : Int) : 0 ≤ jd_sum (fun c => jd_is (T r c = t)) nc ∧ jd_sum (fun c => jd_is (T r c = t)) nc ≤ 8 := by
  have := jl_sumb (f := fun c => jd_is (T r c = t)) (b := 1) (fun i => jl_is _) nc
  have := hO.1
  omega
theorem je_rown (hO : jd_ok nc nr lm sd th T) (hr : r < nr) (x : Int) : 0 ≤ je_row nc T r x ∧ je_row nc T r x ≤ 60 := by
  have h2 := je_sumn (r := r) hO 2
  have h0 := je_sumn (r := r) hO 0
  have := hO.2.1
  unfold je_row
  split
  · omega
  · split <;> omega
theorem je_ofn (hO : jd_ok nc nr lm sd th T) (hr : r < nr) (x v : Int) : -40 ≤ je_of nc sd th T r x v ∧ je_of nc sd th T r x v ≤ 99 := by
  unfold je_of
  obtain ⟨h1, h2, h3, h4, h5, h6, h7⟩ := hO
  split
  · have hv : v.toNat < nc := by omega
    have c1 := h5 v.toNat (jd_c4 (jd_tw (fun i => T i v.toNat) (r + 1) + 0)) hv (jl_c4 _)
    have c2 := h5 v.toNat (jd_c4 (jd_tw (fun i => T i v.toNat) (r + 1) + 2)) hv (jl_c4 _)
    have c3 := h7 (r + 1) v.toNat (by omega) hv
    split
    · unfold jd_cell; omega
    · split
      · unfold jd_cell; omega
      · split
        · unfold jd_sl
          split
          · omega
          · split <;> omega
        · omega
  · split
    · omega
    · split <;> omega
/-- numbers stay small -/
theorem je_stepn (hO : jd_ok nc nr lm sd th T) (hr : r < nr) {x y : Int} {P P' : List Int} (h : je_step nc sd th T r x y P = some P') (hP : je_all P) : je_all P' := by
  unfold je_step at h
  split at h
  · split at h
    · cases h
      intro v hv
      rcases List.mem_cons.mp hv with rfl | hv
      · unfold je_n; omega
      · exact hP v hv
    · cases h
  split at h
  · split at h
    · cases h
      intro v hv
      rcases List.mem_cons.mp hv with rfl | hv
      · have := je_rown hO hr x; unfold je_n; omega
      · exact hP v hv
    · cases h
  split at h
  · cases P with
    | nil => cases h
    | cons w P =>
      cases h
      intro v hv
      rcases List.mem_cons.mp hv with rfl | hv
      · have := je_ofn (sd := sd) hO hr x w; unfold je_n; omega
      · exact hP v (List.mem_cons_of_mem _ hv)
  split at h
  · cases P with
    | nil => cases h
    | cons w P =>
      dsimp only at h
      split at h
      · rename_i q
        cases h
        intro v hv
        rcases List.mem_cons.mp hv with rfl | hv
        · unfold je_b at q; unfold je_n; omega
        · exact hP v (List.mem_cons_of_mem _ hv)
      · cases h
  · cases P with
    | nil => cases h
    | cons w P =>
      cases P with
      | nil => cases h
      | cons u P =>
        dsimp only at h
        split at h
        · rename_i q
          cases h
          intro v hv
          rcases List.mem_cons.mp hv with rfl | hv
          · exact je_twon (hP u (List.mem_cons_of_mem _ (List.mem_cons_self ..))) (hP w (List.mem_cons_self ..)) q (by omega)
          · exact hP v (List.mem_cons_of_mem _ (List.mem_cons_of_mem _ hv))
        · cases h
theorem je_runa {D : qm_M} : ∀ (k1 k2 i : Nat) (P : List Int), je_run nc sd th T r D (k1 + k2) i P = (je_run nc sd th T r D k1 i P).bind (je_run nc sd th T r D k2 (i + k1))
  | 0, k2, i, P => by rw [Nat.zero_add]; rfl
  | k1 + 1, k2, i, P => by
    rw [show k1 + 1 + k2 = (k1 + k2) + 1 by omega]
    show (je_step nc sd th T r (D 42 i) (D 43 i) P).bind _ = ((je_step nc sd th T r (D 42 i) (D 43 i) P).bind _).bind _
    cases je_step nc sd th T r (D 42 i) (D 43 i) P with
    | none => rfl
    | some P' =>
      show je_run nc sd th T r D (k1 + k2) (i + 1) P' = (je_run nc sd th T r D k1 (i + 1) P').bind _
      rw [je_runa k1 k2 (i + 1) P', show i + 1 + k1 = i + (k1 + 1) by omega]
theorem je_runc {D D' : qm_M} : ∀ (k i : Nat) (P : List Int), (∀ j, i ≤ j → j < i + k → D' 42 j = D 42 j ∧ D' 43 j = D 43 j) → je_run nc sd th T r D' k i P = je_run nc sd th T r D k i P
  | 0, _, _, _ => rfl
  | k + 1, i, P, h => by
    show (je_step nc sd th T r (D' 42 i) (D' 43 i) P).bind _ = (je_step nc sd th T r (D 42 i) (D 43 i) P).bind _
    rw [(h i (Nat.le_refl _) (by omega)).1, (h i (Nat.le_refl _) (by omega)).2]
    congr 1
    funext P'
    exact je_runc k (i + 1) P' (fun j h1 h2 => h j (by omega) (by omega))
theorem je_runn (hO : jd_ok nc nr lm sd th T) (hr : r < nr) {D : qm_M} : ∀ (k i : Nat) (P P' : List Int), je_run nc sd th T r D k i P = some P' → je_all P → je_all P'
  | 0, _, P, P', h, hP => by cases h; exact hP
  | k + 1, i, P, P', h, hP => by
    have h' : (je_step nc sd th T r (D 42 i) (D 43 i) P).bind (je_run nc sd th T r D k (i + 1)) = some P' := h
    cases e : je_step nc sd th T r (D 42 i) (D 43 i) P with
    | none => rw [e] at h'; cases h'
    | some P1 =>
      rw [e] at h'
      exact je_runn hO hr k (i + 1) P1 P' h' (je_stepn hO hr e hP)
end
