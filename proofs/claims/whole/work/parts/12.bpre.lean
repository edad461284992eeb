/-! ===== blocks of the methods' code ===== -/
def qi_and (x y : Int) : Int := (Int32.ofInt x &&& Int32.ofInt y).toInt
def qi_or (x y : Int) : Int := (Int32.ofInt x ||| Int32.ofInt y).toInt
def qi_xor (x y : Int) : Int := (Int32.ofInt x ^^^ Int32.ofInt y).toInt
def qi_shl (x y : Int) : Int := (Int32.ofInt x <<< (Int32.ofInt y &&& 31)).toInt
def qi_shr (x y : Int) : Int := (Int32.ofInt x >>> (Int32.ofInt y &&& 31)).toInt
def qi_ushr (x y : Int) : Int := ((Int32.ofInt x).toUInt32 >>> ((Int32.ofInt y).toUInt32 &&& Int32.toUInt32 31)).toInt32.toInt
def qi_div (x y : Int) : Int := (Int32.ofInt x / Int32.ofInt y).toInt
def qi_rem (x y : Int) : Int := (Int32.ofInt x - Int32.ofInt x / Int32.ofInt y * Int32.ofInt y).toInt
def ql_and (x y : Int) : Int := (Int64.ofInt x &&& Int64.ofInt y).toInt
def ql_or (x y : Int) : Int := (Int64.ofInt x ||| Int64.ofInt y).toInt
def ql_xor (x y : Int) : Int := (Int64.ofInt x ^^^ Int64.ofInt y).toInt
def ql_shl (x y : Int) : Int := (Int64.ofInt x <<< ((Int32.ofInt y).toInt64 &&& 63)).toInt
def ql_shr (x y : Int) : Int := (Int64.ofInt x >>> ((Int32.ofInt y).toInt64 &&& 63)).toInt
def ql_div (x y : Int) : Int := (Int64.ofInt x / Int64.ofInt y).toInt
def ql_rem (x y : Int) : Int := (Int64.ofInt x - Int64.ofInt x / Int64.ofInt y * Int64.ofInt y).toInt
theorem qp_cr (x y : Int) : qm_r32 (if y < x then 1 else if x = y then 0 else -1) := by
  split
  · decide
  · split <;> decide
theorem qp_ceq (x y : Int) : qm_cmp .eq (if y < x then 1 else if x = y then 0 else -1) 0 = true ↔ x = y := by
  rw [qp_eq]; split
  · omega
  · split <;> omega
theorem qp_cne (x y : Int) : qm_cmp .ne (if y < x then 1 else if x = y then 0 else -1) 0 = true ↔ ¬ x = y := by
  rw [qp_ne]; split
  · omega
  · split <;> omega
theorem qp_clt (x y : Int) : qm_cmp .lt (if y < x then 1 else if x = y then 0 else -1) 0 = true ↔ x < y := by
  rw [qp_lt]; split
  · omega
  · split <;> omega
theorem qp_cge (x y : Int) : qm_cmp .ge (if y < x then 1 else if x = y then 0 else -1) 0 = true ↔ y ≤ x := by
  rw [qp_ge]; split
  · omega
  · split <;> omega
theorem qp_cgt (x y : Int) : qm_cmp .gt (if y < x then 1 else if x = y then 0 else -1) 0 = true ↔ y < x := by
  rw [qp_gt]; split
  · omega
  · split <;> omega
theorem qp_cle (x y : Int) : qm_cmp .le (if y < x then 1 else if x = y then 0 else -1) 0 = true ↔ x ≤ y := by
  rw [qp_le]; split
  · omega
  · split <;> omega
theorem qn_100000 {T : qm_T} {x y : Int} (hx : qm_r32 x) (hy : qm_r32 y) : qm_intr T 100000 [qm_I x, qm_I y] = some (qm_I (qm_max x y)) := by
  show (if qm_r32 x ∧ qm_r32 y then _ else none) = _
  rw [if_pos ⟨hx, hy⟩]; rfl
theorem qn_100001 {T : qm_T} {x y : Int} (hx : qm_r32 x) (hy : qm_r32 y) : qm_intr T 100001 [qm_I x, qm_I y] = some (qm_I (qm_min x y)) := by
  show (if qm_r32 x ∧ qm_r32 y then _ else none) = _
  rw [if_pos ⟨hx, hy⟩]; rfl
theorem qn_100002 {T : qm_T} {x : Int} (hx : qm_r32 x) : qm_intr T 100002 [qm_I x] = some (qm_I (qm_abs x)) := by
  show (if qm_r32 x ∧ 100002 = 100002 then _ else none) = _
  rw [if_pos ⟨hx, rfl⟩]
theorem qn_100003 {T : qm_T} {x y : Int} (hx : qm_r64 x) (hy : qm_r64 y) : qm_intr T 100003 [qm_L x, qm_L y] = some (qm_L (qm_max x y)) := by
  show (if qm_r64 x ∧ qm_r64 y then _ else none) = _
  rw [if_pos ⟨hx, hy⟩]; rfl
theorem qn_100004 {T : qm_T} {x y : Int} (hx : qm_r64 x) (hy : qm_r64 y) : qm_intr T 100004 [qm_L x, qm_L y] = some (qm_L (qm_min x y)) := by
  show (if qm_r64 x ∧ qm_r64 y then _ else none) = _
  rw [if_pos ⟨hx, hy⟩]; rfl
theorem qn_100010 {T : qm_T} {c : Nat} {l : List Nat} (h : qm_txt T c = some l) : qm_intr T 100010 [qm_P c] = some (qm_I (l.length : Int)) := by
  show (match qm_txt T c with | some l => if 100010 = 100010 then some (qm_I (l.length : Int)) else none | none => none) = _
  rw [h]; rfl
theorem qn_100011 {T : qm_T} {c : Nat} {l : List Nat} {i : Int} (h : qm_txt T c = some l) (hi : 0 ≤ i ∧ i < (l.length : Int)) : qm_intr T 100011 [qm_P c, qm_I i] = some (qm_I ((l.getD i.toNat 0 : Nat) : Int)) := by
  show (match qm_txt T c with | some l => if 100011 = 100011 ∧ 0 ≤ i ∧ i < (l.length : Int) then some (qm_I ((l.getD i.toNat 0 : Nat) : Int)) else none | none => none) = _
  rw [h]
  show (if 100011 = 100011 ∧ 0 ≤ i ∧ i < (l.length : Int) then _ else none) = _
  rw [if_pos ⟨rfl, hi⟩]
def qb_tx_1000 : List Nat := [99, 111, 108, 111, 117, 114]
def qb_tx_1001 : List Nat := [99, 111, 108, 111, 117, 114, 32, 99, 97, 114, 100, 32, 115, 116, 114, 117, 110, 103, 32, 115, 32, 122, 32, 112, 97, 99, 107, 32, 116, 119, 105, 115, 116, 32, 119, 101, 97, 118, 101, 32, 111, 110, 32, 98, 97, 99, 107, 32, 115, 116, 105, 108, 108, 32, 116, 119, 105, 99, 101, 32]
def qb_tx_1002 : List Nat := [99, 97, 114, 100]
def qb_tx_1003 : List Nat := [115, 116, 114, 117, 110, 103]
def qb_tx_1004 : List Nat := [115]
def qb_tx_1005 : List Nat := [122]
def qb_tx_1006 : List Nat := [112, 97, 99, 107]
def qb_tx_1007 : List Nat := [116, 119, 105, 115, 116]
def qb_tx_1008 : List Nat := [119, 101, 97, 118, 101]
def qb_tx_1009 : List Nat := [111, 110]
def qb_tx_1010 : List Nat := [98, 97, 99, 107]
def qb_tx_1011 : List Nat := [115, 116, 105, 108, 108]
def qb_tx_1012 : List Nat := [116, 119, 105, 99, 101]
def qb_tx_1013 : List Nat := [102, 105, 114, 115, 116]
def qb_tx_1014 : List Nat := [108, 97, 115, 116]
def qb_tx_1015 : List Nat := [111, 102, 116, 101, 110]
def qb_tx_1016 : List Nat := [116, 111, 116, 97, 108]
def qb_tx_1017 : List Nat := [109, 111, 115, 116]
def qb_tx_1018 : List Nat := [108, 101, 97, 115, 116]
def qb_tx_1019 : List Nat := [97, 108, 108]
def qb_tx_1020 : List Nat := [110, 111, 116]
def qb_tx_1021 : List Nat := [114, 111, 119]
def qb_tx_1022 : List Nat := [98, 97, 99, 107]
def qb_tx_1023 : List Nat := [115, 116, 105, 108, 108]
def qb_tx_1024 : List Nat := [109, 105, 110]
def qb_tx_1025 : List Nat := [109, 97, 120]
def qb_tx_1026 : List Nat := [102, 114, 111, 110, 116]
def qb_tx_1027 : List Nat := [98, 101, 104, 105, 110, 100]
def qb_tx_1028 : List Nat := [115, 108, 97, 110, 116]
def qb_tx_1029 : List Nat := [116, 119, 105, 115, 116]
def qb_tx_1030 : List Nat := [97, 110, 100]
def qb_tx_1031 : List Nat := [111, 114]
