/-! ===== the world that the constructors leave ===== -/
def qs_pi (c : Nat) : Nat := ([0, 1, 3, 4, 13, 22, 23, 28, 31, 33, 35, 39, 43, 45, 2, 5, 6, 7, 8, 9, 10, 11, 12, 14, 15, 16, 17, 18, 19, 20, 21, 24, 25, 26, 27, 29, 30, 32, 34, 36, 37, 38, 40, 41, 42, 44, 46, 47, 48, 49, 50, 51, 52, 53, 54, 55, 56, 57, 58, 59, 60, 61, 62, 63, 64, 65, 66, 67, 68, 69, 70, 71, 72, 73, 74, 75, 76, 77, 78, 79, 80, 81, 82, 83, 84, 85, 86, 87, 88, 89, 90, 91, 92, 93, 94] : List Nat).getD c 0
def qs_E : List qk_E := [.inl (10, [qm_P 1, qm_P 2, qm_P 3, qm_P 4, qm_P 5, qm_P 6, qm_P 7, qm_P 8, qm_P 9, qm_P 10, qm_P 11, qm_P 12, qm_I (-1)]), .inl (7, [qm_P 14, qm_I 0]), .inl (9, [qm_P 1, qm_I 0, qm_I 0, qm_I 0, qm_I 0, qm_I 0, qm_I 0, qm_I (-1)]), .inl (3, [qm_I 0, qm_I 0, qm_I 0, qm_I 0, qm_I 40, qm_I 0, qm_P 15, qm_P 16, qm_P 17, qm_P 18, qm_P 19, qm_P 20, qm_P 21, qm_P 22]), .inl (3, [qm_I 0, qm_I 0, qm_I 0, qm_I 0, qm_I 40, qm_I 0, qm_P 23, qm_P 24, qm_P 25, qm_P 26, qm_P 27, qm_P 28, qm_P 29, qm_P 30]), .inl (4, [qm_P 2, qm_P 4, qm_I 0]), .inl (1, [qm_I 0, qm_I 0, qm_I 40, qm_P 31, qm_P 32, qm_P 33, qm_P 34]), .inl (0, [qm_P 6, qm_P 35, qm_P 36, qm_I 0]), .inl (6, [qm_I 0, qm_P 37]), .inl (6, [qm_I 0, qm_P 38]), .inl (8, [qm_P 6, qm_P 8, qm_P 9, qm_P 39, qm_P 40, qm_P 41, qm_I (-1), qm_I 0]), .inl (5, [qm_P 2, qm_P 6, qm_P 42, qm_P 43, qm_P 44, qm_I 0, qm_I 0, qm_I 0]), .inl (2, [qm_P 45, qm_I 0]), .inl (11, [qm_P 46, qm_I 0, qm_I 0, qm_I 0, qm_I 0, qm_I 0, qm_I 0, qm_I 0, qm_I (-1), qm_P 47, qm_P 48, qm_P 49, qm_P 50, qm_P 51, qm_P 52, qm_P 53, qm_P 54, qm_P 55, qm_P 56, qm_P 57, qm_P 58, qm_I 0, qm_P 59, qm_P 60, qm_P 61, qm_P 62, qm_P 63, qm_P 64, qm_P 65, qm_I 0, qm_I 0, qm_I 0, qm_I 0, qm_P 66, qm_I 0, qm_I (-1), qm_P 67, qm_I 0, qm_P 68, qm_I 0, qm_I 0, qm_P 69, qm_P 70, qm_I 0, qm_P 71, qm_P 72, qm_P 73, qm_P 74, qm_P 75, qm_P 76, qm_P 77, qm_P 78, qm_P 79, qm_P 80, qm_P 81, qm_P 82, qm_P 83, qm_P 84, qm_P 85, qm_P 86, qm_P 87, qm_P 88, qm_P 89, qm_P 90, qm_P 91, qm_I 0, qm_P 92, qm_I 0, qm_I 0, qm_I 0, qm_P 93, qm_I 0, qm_L 0, qm_I 0, qm_P 94, qm_I 0]), .inr (0, 1600, []), .inr (0, 6, []), .inr (0, 8, []), .inr (0, 6, []), .inr (0, 8, []), .inr (0, 32, []), .inr (0, 6, []), .inr (0, 60, []), .inr (0, 60, []), .inr (0, 6, []), .inr (0, 8, []), .inr (0, 6, []), .inr (0, 8, []), .inr (0, 32, []), .inr (0, 6, []), .inr (0, 60, []), .inr (0, 60, []), .inr (0, 8, []), .inr (0, 32, []), .inr (0, 60, []), .inr (0, 480, []), .inr (0, 20, []), .inr (0, 20, []), .inr (0, 96, []), .inr (0, 96, []), .inr (0, 27, []), .inr (0, 27, []), .inr (1, 8, []), .inr (0, 1600, []), .inr (0, 1600, []), .inr (1, 100, []), .inr (0, 522, []), .inr (0, 1600, []), .inr (3, 6, [(5, 114), (4, 117), (3, 111), (2, 108), (1, 111), (0, 99)]), .inr (3, 4, [(3, 100), (2, 114), (1, 97), (0, 99)]), .inr (3, 6, [(5, 103), (4, 110), (3, 117), (2, 114), (1, 116), (0, 115)]), .inr (3, 1, [(0, 115)]), .inr (3, 1, [(0, 122)]), .inr (3, 4, [(3, 107), (2, 99), (1, 97), (0, 112)]), .inr (3, 5, [(4, 116), (3, 115), (2, 105), (1, 119), (0, 116)]), .inr (3, 5, [(4, 101), (3, 118), (2, 97), (1, 101), (0, 119)]), .inr (3, 2, [(1, 110), (0, 111)]), .inr (3, 4, [(3, 107), (2, 99), (1, 97), (0, 98)]), .inr (3, 5, [(4, 108), (3, 108), (2, 105), (1, 116), (0, 115)]), .inr (3, 5, [(4, 101), (3, 99), (2, 105), (1, 119), (0, 116)]), .inr (0, 6, []), .inr (1, 48, []), .inr (0, 80, []), .inr (0, 12, []), .inr (0, 2, []), .inr (0, 60, []), .inr (0, 60, []), .inr (0, 7, []), .inr (0, 480, []), .inr (0, 10420, []), .inr (0, 2, []), .inr (0, 192, []), .inr (2, 512, []), .inr (3, 5, [(4, 116), (3, 115), (2, 114), (1, 105), (0, 102)]), .inr (3, 4, [(3, 116), (2, 115), (1, 97), (0, 108)]), .inr (3, 5, [(4, 110), (3, 101), (2, 116), (1, 102), (0, 111)]), .inr (3, 5, [(4, 108), (3, 97), (2, 116), (1, 111), (0, 116)]), .inr (3, 4, [(3, 116), (2, 115), (1, 111), (0, 109)]), .inr (3, 5, [(4, 116), (3, 115), (2, 97), (1, 101), (0, 108)]), .inr (3, 3, [(2, 116), (1, 111), (0, 110)]), .inr (3, 3, [(2, 100), (1, 110), (0, 97)]), .inr (3, 2, [(1, 114), (0, 111)]), .inr (3, 3, [(2, 108), (1, 108), (0, 97)]), .inr (3, 3, [(2, 110), (1, 105), (0, 109)]), .inr (3, 3, [(2, 120), (1, 97), (0, 109)]), .inr (3, 3, [(2, 119), (1, 111), (0, 114)]), .inr (3, 4, [(3, 107), (2, 99), (1, 97), (0, 98)]), .inr (3, 5, [(4, 108), (3, 108), (2, 105), (1, 116), (0, 115)]), .inr (3, 5, [(4, 116), (3, 110), (2, 111), (1, 114), (0, 102)]), .inr (3, 6, [(5, 100), (4, 110), (3, 105), (2, 104), (1, 101), (0, 98)]), .inr (3, 5, [(4, 116), (3, 110), (2, 97), (1, 108), (0, 115)]), .inr (3, 5, [(4, 116), (3, 115), (2, 105), (1, 119), (0, 116)]), .inr (0, 1700, []), .inr (0, 1700, []), .inr (1, 1700, []), .inr (0, 522, [])]
def qs_rnV : qm_V → qm_V
  | some (.inr (.inr c)) => some (.inr (.inr (qs_pi c)))
  | v => v
def qs_rn : qk_E → qk_E
  | .inl (ci, fs) => .inl (ci, fs.map qs_rnV)
  | .inr a => .inr a
def qs_fld : qm_V → Nat ⊕ Nat → Bool
  | some (.inr (.inr i)), .inl c => Nat.beq i c && Nat.blt c 95
  | some (.inr (.inl _)), .inr j => Nat.beq j 1
  | some (.inl _), .inr j => Nat.beq j 0 || Nat.beq j 2
  | _, _ => false
def qs_fls : List qm_V → List (Nat ⊕ Nat) → Bool
  | [], [] => true
  | v :: r, e :: t => qs_fld v e && qs_fls r t
  | _, _ => false
def qs_eq : Option qk_E → qk_E → Bool
  | some (.inl (ci, fs)), .inl (ci', fs') => Nat.beq ci ci' && decide (fs = fs')
  | some (.inr (t, n, w)), .inr (t', n', w') => Nat.beq t t' && (Nat.beq n n' && decide (w = w'))
  | _, _ => false
theorem qs_eq_ok {x : Option qk_E} {y : qk_E} (h : qs_eq x y = true) : x = some y := by
  unfold qs_eq at h
  split at h
  · rw [Bool.and_eq_true, decide_eq_true_eq] at h
    obtain ⟨h1, rfl⟩ := h
    rw [Nat.eq_of_beq_eq_true h1]
  · rw [Bool.and_eq_true, Bool.and_eq_true, decide_eq_true_eq] at h
    obtain ⟨h1, h2, rfl⟩ := h
    rw [Nat.eq_of_beq_eq_true h1, Nat.eq_of_beq_eq_true h2]
  · cases h
def qs_shp : qk_E → qm_S → Bool
  | .inl (ci, fs), .inl (ci', fl) => Nat.beq ci ci' && qs_fls fs fl
  | .inr (t, n, _), .inr (t', n') => Nat.beq t t' && Nat.beq n n'
  | _, _ => false
noncomputable def qs_chkO (x : Option qk_C) : Bool := match x with
  | some (pc, ls, st, G) => (decide (pc = 18) && (decide (ls = [qm_P 999, qm_P 0, qm_P 45, qm_I 0]) && decide (st = []))) && ((List.range 95).all (fun c => match qs_E[c]? with
    | some e => qs_eq (G[qs_pi c]?) (qs_rn e)
    | none => false) && (Nat.beq G.length 95 && Nat.beq (qk_sz G) 26060))
  | none => false
theorem qs_chk_ok : qs_chkO (qk_run qz_T 3000 4 3001 0 [qm_P 999, none, none, none] [] []) = true := by decide +kernel
theorem qs_shp_ok : (List.range 95).all (fun c => match qs_E[c]?, qb_shs[c]? with
    | some e, some s => qs_shp e s
    | _, _ => false) = true := by decide +kernel
theorem qs_pi_ok : (List.range 95).all (fun c => Nat.blt (qs_pi c) 95 && (List.range 95).all fun c' => bif Nat.beq (qs_pi c) (qs_pi c') then Nat.beq c c' else true) = true := by decide +kernel
