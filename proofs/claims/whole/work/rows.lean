section
/-! ===== a small machine over numbers: values, memory, shapes, one step, a run with fuel and depth ===== -/
abbrev qm_V : Type := Option (Int ⊕ Int ⊕ Nat)
abbrev qm_M : Type := Nat → Nat → Int
/-- a cell's shape: an object (its class's place, its fields: a cell, or a kind of number 0 int 1 long 2 boolean), or an array (kind 0 int 1 long 2 boolean 3 char 9 the script, its length) -/
abbrev qm_S : Type := (Nat × List (Nat ⊕ Nat)) ⊕ (Nat × Nat)
abbrev qm_O : Type := Option ((Nat × List qm_V × List qm_V × qm_M) ⊕ (qm_V ⊕ (Nat × List qm_V × List qm_V)))
abbrev qm_I (z : Int) : qm_V := some (.inl z)
abbrev qm_L (z : Int) : qm_V := some (.inr (.inl z))
abbrev qm_P (c : Nat) : qm_V := some (.inr (.inr c))
def qm_set (μ : qm_M) (c k : Nat) (z : Int) : qm_M := fun c' k' => if c' = c then (if k' = k then z else μ c' k') else μ c' k'
def qm_cv (ad : Nat → Nat) : qm_V → Value
  | some (.inl z) => .int (Int32.ofInt z)
  | some (.inr (.inl z)) => .long (Int64.ofInt z)
  | some (.inr (.inr c)) => .ref (ad c)
  | none => .null
abbrev qm_r32 (z : Int) : Prop := -2147483648 ≤ z ∧ z < 2147483648
abbrev qm_r64 (z : Int) : Prop := -9223372036854775808 ≤ z ∧ z < 9223372036854775808
/-- the tables: shapes; fields by method and pool place; which may be written; calls; constants; code; locals; kind of answer (0 none 1 int 2 boolean 3 long); texts -/
abbrev qm_T : Type := (Nat → Option qm_S) × (Nat → Nat → Option (Nat × Nat)) × (Nat → Nat → Bool) × (Nat → Nat → Option (Nat × Nat × Option Nat)) × (Nat → Nat → Option qm_V) × (Nat → Nat → Option Instr) × (Nat → Nat) × (Nat → Nat) × (Nat → Option (List Nat))
abbrev qm_sh (T : qm_T) : Nat → Option qm_S := T.1
abbrev qm_fld (T : qm_T) : Nat → Nat → Option (Nat × Nat) := T.2.1
abbrev qm_wr (T : qm_T) : Nat → Nat → Bool := T.2.2.1
abbrev qm_inv (T : qm_T) : Nat → Nat → Option (Nat × Nat × Option Nat) := T.2.2.2.1
abbrev qm_cst (T : qm_T) : Nat → Nat → Option qm_V := T.2.2.2.2.1
abbrev qm_at (T : qm_T) : Nat → Nat → Option Instr := T.2.2.2.2.2.1
abbrev qm_mxl (T : qm_T) : Nat → Nat := T.2.2.2.2.2.2.1
abbrev qm_rt (T : qm_T) : Nat → Nat := T.2.2.2.2.2.2.2.1
abbrev qm_txt (T : qm_T) : Nat → Option (List Nat) := T.2.2.2.2.2.2.2.2
abbrev qm_nx (pc : Nat) (ls st : List qm_V) (μ : qm_M) : qm_O := some (.inl (pc, ls, st, μ))
def qm_i1 (st : List qm_V) (f : Int → List qm_V → qm_O) : qm_O := match st with
  | some (.inl x) :: r => f x r
  | _ => none
def qm_i2 (st : List qm_V) (f : Int → Int → List qm_V → qm_O) : qm_O := match st with
  | some (.inl y) :: some (.inl x) :: r => f x y r
  | _ => none
def qm_l1 (st : List qm_V) (f : Int → List qm_V → qm_O) : qm_O := match st with
  | some (.inr (.inl x)) :: r => f x r
  | _ => none
def qm_l2 (st : List qm_V) (f : Int → Int → List qm_V → qm_O) : qm_O := match st with
  | some (.inr (.inl y)) :: some (.inr (.inl x)) :: r => f x y r
  | _ => none
/-- a long below, an int on top -/
def qm_li (st : List qm_V) (f : Int → Int → List qm_V → qm_O) : qm_O := match st with
  | some (.inl y) :: some (.inr (.inl x)) :: r => f x y r
  | _ => none
def qm_p1 (st : List qm_V) (f : Nat → List qm_V → qm_O) : qm_O := match st with
  | some (.inr (.inr c)) :: r => f c r
  | _ => none
/-- a cell below, an index on top -/
def qm_pi (st : List qm_V) (f : Nat → Int → List qm_V → qm_O) : qm_O := match st with
  | some (.inl i) :: some (.inr (.inr c)) :: r => f c i r
  | _ => none
/-- a cell, an index, a value on top -/
def qm_pv (st : List qm_V) (f : Nat → Int → qm_V → List qm_V → qm_O) : qm_O := match st with
  | v :: some (.inl i) :: some (.inr (.inr c)) :: r => f c i v r
  | _ => none
/-- a cell, a value on top -/
def qm_po (st : List qm_V) (f : Nat → qm_V → List qm_V → qm_O) : qm_O := match st with
  | v :: some (.inr (.inr c)) :: r => f c v r
  | _ => none
def qm_cmp : Jvm.ClassFile.Cond → Int → Int → Bool
  | .eq, x, y => decide (x = y)
  | .ne, x, y => decide (¬ x = y)
  | .lt, x, y => decide (x < y)
  | .ge, x, y => decide (y ≤ x)
  | .gt, x, y => decide (y < x)
  | .le, x, y => decide (x ≤ y)
def qm_isL : qm_V → Bool
  | some (.inr (.inl _)) => true
  | _ => false
/-- a long whose second half is written over is gone -/
def qm_pre (L : List qm_V) (i : Nat) : List qm_V := match i with
  | 0 => L
  | j + 1 => match L[j]? with
    | some (some (.inr (.inl _))) => L.set j none
    | _ => L
def qm_st1 (L : List qm_V) (i : Nat) (v : qm_V) : List qm_V := (qm_pre L i).set i v
def qm_st2 (L : List qm_V) (i : Nat) (v : qm_V) : List qm_V := ((qm_pre L i).set i v).set (i + 1) none
def qm_ent (As : List qm_V) (n : Nat) : List qm_V :=
  (As.flatMap fun v => if qm_isL v = true then [v, none] else [v]) ++ List.replicate (n - (As.flatMap fun v => if qm_isL v = true then [v, none] else [v]).length) none
def qm_cat (st : List qm_V) : Nat := (st.map fun v => if qm_isL v = true then 2 else 1).sum
def qm_fv (μ : qm_M) (c j : Nat) : Nat ⊕ Nat → qm_V
  | .inl c' => some (.inr (.inr c'))
  | .inr 1 => some (.inr (.inl (μ c j)))
  | .inr _ => some (.inl (μ c j))
def qm_ldI (L : List qm_V) (i : Nat) (f : Int → qm_O) : qm_O := match L[i]? with
  | some (some (.inl z)) => f z
  | _ => none
def qm_ldL (L : List qm_V) (i : Nat) (f : Int → qm_O) : qm_O := match L[i]? with
  | some (some (.inr (.inl z))) => f z
  | _ => none
def qm_ldP (L : List qm_V) (i : Nat) (f : Nat → qm_O) : qm_O := match L[i]? with
  | some (some (.inr (.inr c))) => f c
  | _ => none
def qm_arr (s : Option qm_S) (f : Nat → Nat → qm_O) : qm_O := match s with
  | some (.inr (t, n)) => f t n
  | _ => none
def qm_obj (s : Option qm_S) (l : Option (Nat × Nat)) (f : Nat → Nat → (Nat ⊕ Nat) → qm_O) : qm_O := match s, l with
  | some (.inl (ci, fl)), some (ci', j) => if ci = ci' then (match fl[j]? with
    | some e => f ci j e
    | none => none) else none
  | _, _ => none
def qm_jmp (pc : Nat) (off : Int) (ls st : List qm_V) (μ : qm_M) : qm_O := if 0 ≤ (pc : Int) + off then some (.inl (((pc : Int) + off).toNat, ls, st, μ)) else none
def qm_cst1 (v : Option qm_V) (f : qm_V → qm_O) : qm_O := match v with
  | some x => f x
  | none => none
def qm_putv (μ : qm_M) (c j : Nat) : (Nat ⊕ Nat) → qm_V → Option qm_M
  | .inr 0, some (.inl z) => some (qm_set μ c j z)
  | .inr 1, some (.inr (.inl z)) => some (qm_set μ c j z)
  | .inr 2, some (.inl z) => if z = 0 ∨ z = 1 then some (qm_set μ c j z) else none
  | _, _ => none
def qm_astv (μ : qm_M) (c : Nat) (n : Nat) (i : Int) (z : Int) (pc : Nat) (ls r : List qm_V) : qm_O := if 0 ≤ i ∧ i < (n : Int) then qm_nx (pc + 1) ls r (qm_set μ c i.toNat z) else none
def qm_call (v : Option (Nat × Nat × Option Nat)) (sh : Nat → Option qm_S) (st : List qm_V) (inst : Bool) : qm_O := match v with
  | some (k', n, o) =>
    if n ≤ st.length ∧ qm_cat (st.drop n) ≤ 8 then
      match inst, o, (st.take n).reverse with
      | true, none, as => if 100010 ≤ k' then some (.inr (.inr (k', as, st.drop n))) else none
      | true, some ci, some (.inr (.inr c)) :: as => (match sh c with
        | some (.inl (ci', _)) => if ci = ci' then some (.inr (.inr (k', some (.inr (.inr c)) :: as, st.drop n))) else none
        | _ => none)
      | false, none, as => if k' < 100010 then some (.inr (.inr (k', as, st.drop n))) else none
      | _, _, _ => none
    else none
  | none => none
def qm_tsw (x dflt lo hi : Int) (offs : Array Int) : Option Int := if x < lo ∨ hi < x then some dflt else offs[(x - lo).toNat]?
def qm_step (T : qm_T) (k pc : Nat) (ls st : List qm_V) (μ : qm_M) : Instr → qm_O
  | .iconst n => qm_nx (pc + 1) ls (some (.inl n) :: st) μ
  | .bipush n => if -128 ≤ n ∧ n < 128 then qm_nx (pc + 2) ls (some (.inl n) :: st) μ else none
  | .sipush n => if -32768 ≤ n ∧ n < 32768 then qm_nx (pc + 3) ls (some (.inl n) :: st) μ else none
  | .lconst n => qm_nx (pc + 1) ls (some (.inr (.inl ((n : Nat) : Int))) :: st) μ
  | .ldc i => qm_cst1 (qm_cst T k i) fun v => match v with
    | some (.inl z) => qm_nx (pc + 2) ls (some (.inl z) :: st) μ
    | some (.inr (.inr c)) => qm_nx (pc + 2) ls (some (.inr (.inr c)) :: st) μ
    | _ => none
  | .ldc_w i => qm_cst1 (qm_cst T k i) fun v => match v with
    | some (.inl z) => qm_nx (pc + 3) ls (some (.inl z) :: st) μ
    | _ => none
  | .ldc2_w i => qm_cst1 (qm_cst T k i) fun v => match v with
    | some (.inr (.inl z)) => qm_nx (pc + 3) ls (some (.inr (.inl z)) :: st) μ
    | _ => none
  | .iload i => qm_ldI ls i fun z => qm_nx (pc + 2) ls (some (.inl z) :: st) μ
  | .iload_n i => qm_ldI ls i fun z => qm_nx (pc + 1) ls (some (.inl z) :: st) μ
  | .lload i => qm_ldL ls i fun z => qm_nx (pc + 2) ls (some (.inr (.inl z)) :: st) μ
  | .lload_n i => qm_ldL ls i fun z => qm_nx (pc + 1) ls (some (.inr (.inl z)) :: st) μ
  | .aload i => qm_ldP ls i fun c => qm_nx (pc + 2) ls (some (.inr (.inr c)) :: st) μ
  | .aload_n i => qm_ldP ls i fun c => qm_nx (pc + 1) ls (some (.inr (.inr c)) :: st) μ
  | .istore i => qm_i1 st fun z r => if i < ls.length then qm_nx (pc + 2) (qm_st1 ls i (some (.inl z))) r μ else none
  | .istore_n i => qm_i1 st fun z r => if (i : Nat) < ls.length then qm_nx (pc + 1) (qm_st1 ls i (some (.inl z))) r μ else none
  | .lstore i => qm_l1 st fun z r => if i + 1 < ls.length then qm_nx (pc + 2) (qm_st2 ls i (some (.inr (.inl z)))) r μ else none
  | .lstore_n i => qm_l1 st fun z r => if (i : Nat) + 1 < ls.length then qm_nx (pc + 1) (qm_st2 ls i (some (.inr (.inl z)))) r μ else none
  | .astore i => qm_p1 st fun c r => if i < ls.length then qm_nx (pc + 2) (qm_st1 ls i (some (.inr (.inr c)))) r μ else none
  | .astore_n i => qm_p1 st fun c r => if (i : Nat) < ls.length then qm_nx (pc + 1) (qm_st1 ls i (some (.inr (.inr c)))) r μ else none
  | .iinc i n => qm_ldI ls i fun z => qm_nx (pc + 3) (qm_st1 ls i (some (.inl (z + n)))) st μ
  | .iadd => qm_i2 st fun x y r => qm_nx (pc + 1) ls (some (.inl (x + y)) :: r) μ
  | .isub => qm_i2 st fun x y r => qm_nx (pc + 1) ls (some (.inl (x - y)) :: r) μ
  | .imul => qm_i2 st fun x y r => qm_nx (pc + 1) ls (some (.inl (x * y)) :: r) μ
  | .ineg => qm_i1 st fun x r => qm_nx (pc + 1) ls (some (.inl (-x)) :: r) μ
  | .idiv => qm_i2 st fun x y r => if qm_r32 y ∧ ¬ y = 0 then qm_nx (pc + 1) ls (some (.inl (Int32.ofInt x / Int32.ofInt y).toInt) :: r) μ else none
  | .irem => qm_i2 st fun x y r => if qm_r32 y ∧ ¬ y = 0 then qm_nx (pc + 1) ls (some (.inl (Int32.ofInt x - Int32.ofInt x / Int32.ofInt y * Int32.ofInt y).toInt) :: r) μ else none
  | .iand => qm_i2 st fun x y r => qm_nx (pc + 1) ls (some (.inl (Int32.ofInt x &&& Int32.ofInt y).toInt) :: r) μ
  | .ior => qm_i2 st fun x y r => qm_nx (pc + 1) ls (some (.inl (Int32.ofInt x ||| Int32.ofInt y).toInt) :: r) μ
  | .ixor => qm_i2 st fun x y r => qm_nx (pc + 1) ls (some (.inl (Int32.ofInt x ^^^ Int32.ofInt y).toInt) :: r) μ
  | .ishl => qm_i2 st fun x y r => qm_nx (pc + 1) ls (some (.inl (Int32.ofInt x <<< (Int32.ofInt y &&& 31)).toInt) :: r) μ
  | .ishr => qm_i2 st fun x y r => qm_nx (pc + 1) ls (some (.inl (Int32.ofInt x >>> (Int32.ofInt y &&& 31)).toInt) :: r) μ
  | .iushr => qm_i2 st fun x y r => qm_nx (pc + 1) ls (some (.inl ((Int32.ofInt x).toUInt32 >>> ((Int32.ofInt y).toUInt32 &&& Int32.toUInt32 31)).toInt32.toInt) :: r) μ
  | .ladd => qm_l2 st fun x y r => qm_nx (pc + 1) ls (some (.inr (.inl (x + y))) :: r) μ
  | .lsub => qm_l2 st fun x y r => qm_nx (pc + 1) ls (some (.inr (.inl (x - y))) :: r) μ
  | .lmul => qm_l2 st fun x y r => qm_nx (pc + 1) ls (some (.inr (.inl (x * y))) :: r) μ
  | .ldiv => qm_l2 st fun x y r => if qm_r64 y ∧ ¬ y = 0 then qm_nx (pc + 1) ls (some (.inr (.inl (Int64.ofInt x / Int64.ofInt y).toInt)) :: r) μ else none
  | .lrem => qm_l2 st fun x y r => if qm_r64 y ∧ ¬ y = 0 then qm_nx (pc + 1) ls (some (.inr (.inl (Int64.ofInt x - Int64.ofInt x / Int64.ofInt y * Int64.ofInt y).toInt)) :: r) μ else none
  | .land => qm_l2 st fun x y r => qm_nx (pc + 1) ls (some (.inr (.inl (Int64.ofInt x &&& Int64.ofInt y).toInt)) :: r) μ
  | .lor => qm_l2 st fun x y r => qm_nx (pc + 1) ls (some (.inr (.inl (Int64.ofInt x ||| Int64.ofInt y).toInt)) :: r) μ
  | .lxor => qm_l2 st fun x y r => qm_nx (pc + 1) ls (some (.inr (.inl (Int64.ofInt x ^^^ Int64.ofInt y).toInt)) :: r) μ
  | .lshl => qm_li st fun x y r => qm_nx (pc + 1) ls (some (.inr (.inl (Int64.ofInt x <<< ((Int32.ofInt y).toInt64 &&& 63)).toInt)) :: r) μ
  | .lshr => qm_li st fun x y r => qm_nx (pc + 1) ls (some (.inr (.inl (Int64.ofInt x >>> ((Int32.ofInt y).toInt64 &&& 63)).toInt)) :: r) μ
  | .i2l => qm_i1 st fun x r => if qm_r32 x then qm_nx (pc + 1) ls (some (.inr (.inl x)) :: r) μ else none
  | .l2i => qm_l1 st fun x r => qm_nx (pc + 1) ls (some (.inl x) :: r) μ
  | .lcmp => qm_l2 st fun x y r => if qm_r64 x ∧ qm_r64 y then qm_nx (pc + 1) ls (some (.inl (if y < x then 1 else if x = y then 0 else -1)) :: r) μ else none
  | .dup => match st with
    | some (.inl z) :: r => qm_nx (pc + 1) ls (some (.inl z) :: some (.inl z) :: r) μ
    | some (.inr (.inr c)) :: r => qm_nx (pc + 1) ls (some (.inr (.inr c)) :: some (.inr (.inr c)) :: r) μ
    | _ => none
  | .dup_x1 => match st with
    | some (.inl z) :: some (.inr (.inr c)) :: r => qm_nx (pc + 1) ls (some (.inl z) :: some (.inr (.inr c)) :: some (.inl z) :: r) μ
    | _ => none
  | .dup2 => match st with
    | some (.inl z) :: some (.inr (.inr c)) :: r => qm_nx (pc + 1) ls (some (.inl z) :: some (.inr (.inr c)) :: some (.inl z) :: some (.inr (.inr c)) :: r) μ
    | some (.inr (.inl z)) :: r => qm_nx (pc + 1) ls (some (.inr (.inl z)) :: some (.inr (.inl z)) :: r) μ
    | _ => none
  | .pop => qm_i1 st fun _ r => qm_nx (pc + 1) ls r μ
  | .goto off => qm_jmp pc off ls st μ
  | .ifCond c off => qm_i1 st fun x r => if qm_r32 x ∧ 0 ≤ (pc : Int) + off then qm_nx (if qm_cmp c x 0 = true then ((pc : Int) + off).toNat else pc + 3) ls r μ else none
  | .if_icmp c off => qm_i2 st fun x y r => if (qm_r32 x ∧ qm_r32 y) ∧ 0 ≤ (pc : Int) + off then qm_nx (if qm_cmp c x y = true then ((pc : Int) + off).toNat else pc + 3) ls r μ else none
  | .tableswitch dflt lo hi offs => qm_i1 st fun x r => if qm_r32 x then (match qm_tsw x dflt lo hi offs with
    | some off => qm_jmp pc off ls r μ
    | none => none) else none
  | .lookupswitch dflt ps => qm_i1 st fun x r => if qm_r32 x ∧ (ps.toList.zip (ps.toList.drop 1)).all (fun (a, next) => a.1 < next.1) = true then qm_jmp pc (Op.lookupswitch.offset ps.toList dflt x) ls r μ else none
  | .getfield i => qm_p1 st fun c r => qm_obj (qm_sh T c) (qm_fld T k i) fun _ j e => qm_nx (pc + 3) ls (qm_fv μ c j e :: r) μ
  | .putfield i => qm_po st fun c v r => qm_obj (qm_sh T c) (qm_fld T k i) fun ci j e => if qm_wr T ci j = true then (match qm_putv μ c j e v with
    | some μ' => qm_nx (pc + 3) ls r μ'
    | none => none) else none
  | .arraylength => qm_p1 st fun c r => qm_arr (qm_sh T c) fun _ n => qm_nx (pc + 1) ls (some (.inl (n : Int)) :: r) μ
  | .iaload => qm_pi st fun c i r => qm_arr (qm_sh T c) fun t n => if (t = 0 ∨ t = 9) ∧ 0 ≤ i ∧ i < (n : Int) then qm_nx (pc + 1) ls (some (.inl (μ c i.toNat)) :: r) μ else none
  | .laload => qm_pi st fun c i r => qm_arr (qm_sh T c) fun t n => if t = 1 ∧ 0 ≤ i ∧ i < (n : Int) then qm_nx (pc + 1) ls (some (.inr (.inl (μ c i.toNat))) :: r) μ else none
  | .baload => qm_pi st fun c i r => qm_arr (qm_sh T c) fun t n => if t = 2 ∧ 0 ≤ i ∧ i < (n : Int) then qm_nx (pc + 1) ls (some (.inl (μ c i.toNat)) :: r) μ else none
  | .caload => qm_pi st fun c i r => qm_arr (qm_sh T c) fun t n => if t = 3 ∧ 0 ≤ i ∧ i < (n : Int) then qm_nx (pc + 1) ls (some (.inl (μ c i.toNat)) :: r) μ else none
  | .iastore => qm_pv st fun c i v r => qm_arr (qm_sh T c) fun t n => match v with
    | some (.inl z) => if t = 0 then qm_astv μ c n i z pc ls r else none
    | _ => none
  | .lastore => qm_pv st fun c i v r => qm_arr (qm_sh T c) fun t n => match v with
    | some (.inr (.inl z)) => if t = 1 then qm_astv μ c n i z pc ls r else none
    | _ => none
  | .bastore => qm_pv st fun c i v r => qm_arr (qm_sh T c) fun t n => match v with
    | some (.inl z) => if t = 2 ∧ (z = 0 ∨ z = 1) then qm_astv μ c n i z pc ls r else none
    | _ => none
  | .ireturn => match st with
    | [some (.inl z)] => if qm_rt T k = 1 ∨ (qm_rt T k = 2 ∧ (z = 0 ∨ z = 1)) then some (.inr (.inl (some (.inl z)))) else none
    | _ => none
  | .lreturn => match st with
    | [some (.inr (.inl z))] => if qm_rt T k = 3 then some (.inr (.inl (some (.inr (.inl z))))) else none
    | _ => none
  | .return_ => match st with
    | [] => if qm_rt T k = 0 then some (.inr (.inl none)) else none
    | _ => none
  | .invokevirtual i => qm_call (qm_inv T k i) (qm_sh T) st true
  | .invokestatic i => qm_call (qm_inv T k i) (qm_sh T) st false
  | _ => none
def qm_max (x y : Int) : Int := if x < y then y else x
def qm_min (x y : Int) : Int := if y < x then y else x
def qm_abs (x : Int) : Int := if 0 ≤ x then x else 0 - x
/-- the library's own: 100000 max, 100001 min, 100002 abs of ints; 100003 max, 100004 min of longs; 100010 a text's length, 100011 its sign at a place -/
def qm_intr (T : qm_T) (k : Nat) (as : List qm_V) : Option qm_V := match as with
  | [some (.inl x), some (.inl y)] => if qm_r32 x ∧ qm_r32 y then (if k = 100000 then some (some (.inl (qm_max x y))) else if k = 100001 then some (some (.inl (qm_min x y))) else none) else none
  | [some (.inl x)] => if qm_r32 x ∧ k = 100002 then some (some (.inl (qm_abs x))) else none
  | [some (.inr (.inl x)), some (.inr (.inl y))] => if qm_r64 x ∧ qm_r64 y then (if k = 100003 then some (some (.inr (.inl (qm_max x y)))) else if k = 100004 then some (some (.inr (.inl (qm_min x y)))) else none) else none
  | [some (.inr (.inr c))] => match qm_txt T c with
    | some l => if k = 100010 then some (some (.inl (l.length : Int))) else none
    | none => none
  | [some (.inr (.inr c)), some (.inl i)] => match qm_txt T c with
    | some l => if k = 100011 ∧ 0 ≤ i ∧ i < (l.length : Int) then some (some (.inl ((l.getD i.toNat 0 : Nat) : Int))) else none
    | none => none
  | _ => none
def qm_push (v : qm_V) (r : List qm_V) : List qm_V := match v with
  | none => r
  | some x => some x :: r
def qm_run (T : qm_T) : Nat → Nat → Nat → Nat → List qm_V → List qm_V → qm_M → Option (qm_V × qm_M)
  | 0, _, _, _, _, _, _ => none
  | n + 1, d, k, pc, ls, st, μ => match (qm_at T k pc).bind (qm_step T k pc ls st μ) with
    | none => none
    | some (.inl (pc', ls', st', μ')) => qm_run T n d k pc' ls' st' μ'
    | some (.inr (.inl v)) => some (v, μ)
    | some (.inr (.inr (k', as, rest))) =>
      if d = 0 then none
      else if 100000 ≤ k' then (match qm_intr T k' as with
        | none => none
        | some v => qm_run T n d k (pc + 3) ls (v :: rest) μ)
      else if (qm_ent as (qm_mxl T k')).length = qm_mxl T k' then (match qm_run T n (d - 1) k' 0 (qm_ent as (qm_mxl T k')) [] μ with
        | none => none
        | some (v, μ') => qm_run T n d k (pc + 3) ls (qm_push v rest) μ')
      else none
end
section
/-! ===== the small machine's world in the heap ===== -/
def qm_fs (ad : Nat → Nat) (μ : qm_M) (c : Nat) (fl : List (Nat ⊕ Nat)) : List Value := fl.mapIdx fun j e => qm_cv ad (qm_fv μ c j e)
def qm_ar (μ : qm_M) (c t : Nat) : (Nat → Int32) ⊕ (Nat → Int64) ⊕ (Nat → UInt32) ⊕ (Nat → UInt64) ⊕ (Nat → Option Nat) := if t = 1 then .inr (.inl fun i => Int64.ofInt (μ c i)) else .inl fun i => Int32.ofInt (μ c i)
def qm_E (ad : Nat → Nat) (ac : Nat → ClassId) (sh : Nat → Option qm_S) (μ : qm_M) (c : Nat) : Nat × va_E := (ad c, match sh c with
  | some (.inl (ci, fl)) => .inr (ci, qm_fs ad μ c fl)
  | some (.inr (t, n)) => .inl (ac t, n, qm_ar μ c t)
  | none => .inr (0, []))
def qm_ws (ad : Nat → Nat) (ac : Nat → ClassId) (sh : Nat → Option qm_S) (N : Nat) (μ : qm_M) : va_W := (List.range N).map (qm_E ad ac sh μ)
def qm_tys (ac : Nat → ClassId) : List (ClassId × FieldType) := [(ac 0, .int), (ac 1, .long), (ac 2, .boolean), (ac 3, .char)]
def qm_Ac (ad : Nat → Nat) (N : Nat) : Nat → Prop := fun q => ∃ c, c < N ∧ q = ad c
theorem qm_ws_at {ad : Nat → Nat} {ac : Nat → ClassId} {sh : Nat → Option qm_S} {N : Nat} {μ : qm_M} {c : Nat} (h : c < N) : (qm_ws ad ac sh N μ)[c]? = some (qm_E ad ac sh μ c) := by
  simp [qm_ws, h]
theorem qm_E_obj {ad : Nat → Nat} {ac : Nat → ClassId} {sh : Nat → Option qm_S} {μ : qm_M} {c ci : Nat} {fl : List (Nat ⊕ Nat)} (h : sh c = some (.inl (ci, fl))) : qm_E ad ac sh μ c = (ad c, .inr (ci, qm_fs ad μ c fl)) := by
  simp [qm_E, h]
theorem qm_E_arr {ad : Nat → Nat} {ac : Nat → ClassId} {sh : Nat → Option qm_S} {μ : qm_M} {c t n : Nat} (h : sh c = some (.inr (t, n))) : qm_E ad ac sh μ c = (ad c, .inl (ac t, n, qm_ar μ c t)) := by
  simp [qm_E, h]
theorem qm_fv_congr {μ μ' : qm_M} {c : Nat} (h : μ c = μ' c) (j : Nat) (e : Nat ⊕ Nat) : qm_fv μ c j e = qm_fv μ' c j e := by
  unfold qm_fv
  simp only [h]
theorem qm_E_congr {ad : Nat → Nat} {ac : Nat → ClassId} {sh : Nat → Option qm_S} {μ μ' : qm_M} {c : Nat} (h : μ c = μ' c) : qm_E ad ac sh μ c = qm_E ad ac sh μ' c := by
  unfold qm_E qm_fs qm_ar
  simp only [qm_fv_congr h, h]
theorem qm_set_ne {μ : qm_M} {c k : Nat} {z : Int} {i : Nat} (h : i ≠ c) : qm_set μ c k z i = μ i := by
  funext j
  simp [qm_set, h]
theorem qm_set_eq {μ : qm_M} {c k : Nat} {z : Int} {j : Nat} : qm_set μ c k z c j = if j = k then z else μ c j := by
  simp [qm_set]
theorem qm_ws_set {ad : Nat → Nat} {ac : Nat → ClassId} {sh : Nat → Option qm_S} {N : Nat} {μ : qm_M} {c j : Nat} {z : Int} {e : va_E} (h : c < N) (he : qm_E ad ac sh (qm_set μ c j z) c = (ad c, e)) : (qm_ws ad ac sh N μ).set c (ad c, e) = qm_ws ad ac sh N (qm_set μ c j z) := by
  apply List.ext_getElem?
  intro i
  rw [List.getElem?_set]
  by_cases hi : c = i
  · subst hi
    rw [if_pos rfl, qm_ws_at h, he, if_pos (by simp [qm_ws, h])]
  · rw [if_neg hi]
    by_cases hN : i < N
    · rw [qm_ws_at hN, qm_ws_at hN, qm_E_congr (qm_set_ne (fun q => hi q.symm))]
    · have h1 : ∀ ν : qm_M, (qm_ws ad ac sh N ν)[i]? = none := fun ν => by simp [qm_ws]; omega
      rw [h1, h1]
theorem qm_ws_D {ad : Nat → Nat} {ac : Nat → ClassId} {sh : Nat → Option qm_S} {N : Nat} {μ : qm_M} {A : Nat → Prop} (hi : ∀ i j, i < N → j < N → ad i = ad j → i = j) (hA : ∀ q, qm_Ac ad N q → A q) : va_D A (qm_ws ad ac sh N μ) := by
  have key : ∀ (k : Nat) (q : Nat × va_E), (qm_ws ad ac sh N μ)[k]? = some q → k < N ∧ q.1 = ad k := by
    intro k q hk
    by_cases hN : k < N
    · rw [qm_ws_at hN] at hk
      cases hk
      exact ⟨hN, rfl⟩
    · have h1 := (List.getElem?_eq_some_iff.mp hk).1
      simp [qm_ws] at h1
      omega
  refine ⟨fun i j p q h1 h2 e => ?_, fun k q h => ?_⟩
  · obtain ⟨a1, a2⟩ := key i p h1
    obtain ⟨b1, b2⟩ := key j q h2
    exact hi i j a1 b1 (by rw [← a2, ← b2]; exact e)
  · obtain ⟨a1, a2⟩ := key k q h
    exact hA _ ⟨k, a1, a2⟩
/-- the locals -/
def qm_LH (ad : Nat → Nat) (lsA : Array Slot) (nL : Nat) (L : List qm_V) : Prop := L.length = nL ∧ lsA.size = nL ∧ lv_wf lsA ∧ ∀ (i : Nat) (x : Int ⊕ Int ⊕ Nat), L[i]? = some (some x) → lsA[i]? = some (.val (qm_cv ad (some x)))
def qm_al (ad : Nat → Nat) (L : List qm_V) : List (Nat × Value) := (List.range L.length).filterMap fun i => match L[i]? with
  | some (some x) => some (i, qm_cv ad (some x))
  | _ => none
theorem qm_al_mem {ad : Nat → Nat} {L : List qm_V} {i : Nat} {x : Int ⊕ Int ⊕ Nat} (h : L[i]? = some (some x)) : (i, qm_cv ad (some x)) ∈ qm_al ad L := by
  refine List.mem_filterMap.mpr ⟨i, List.mem_range.mpr (List.getElem?_eq_some_iff.mp h).1, ?_⟩
  simp [h]
theorem qm_LH.has {ad : Nat → Nat} {lsA : Array Slot} {nL : Nat} {L : List qm_V} (h : qm_LH ad lsA nL L) : lv_has lsA nL (qm_al ad L) := by
  refine ⟨h.2.1, h.2.2.1, fun q hq => ?_⟩
  obtain ⟨i, -, h2⟩ := List.mem_filterMap.mp hq
  split at h2
  next x hx =>
    cases h2
    exact h.2.2.2 i x hx
  next => cases h2
theorem qm_cat1 {ad : Nat → Nat} {v : qm_V} (h : qm_isL v = false) : (qm_cv ad v).category = 1 := by
  rcases v with _ | (x | x | x)
  · rfl
  · rfl
  · cases h
  · rfl
theorem qm_cat2 {ad : Nat → Nat} {v : qm_V} (h : qm_isL v = true) : (qm_cv ad v).category = 2 := by
  rcases v with _ | (x | x | x)
  · cases h
  · cases h
  · rfl
  · cases h
theorem qm_pre_at {L : List qm_V} {i j : Nat} {x : Int ⊕ Int ⊕ Nat} (h : (qm_pre L i)[j]? = some (some x)) : L[j]? = some (some x) ∧ ¬ (j + 1 = i ∧ qm_isL (some x) = true) := by
  cases i with
  | zero => exact ⟨h, fun q => by omega⟩
  | succ i =>
    unfold qm_pre at h
    simp only at h
    split at h
    next z hz =>
      by_cases hj : i = j
      · subst hj
        rw [List.getElem?_set_self (List.getElem?_eq_some_iff.mp hz).1] at h
        cases h
      · rw [List.getElem?_set_ne hj] at h
        exact ⟨h, fun q => by omega⟩
    next hz =>
      refine ⟨h, fun q => ?_⟩
      obtain ⟨q1, q2⟩ := q
      have : j = i := by omega
      subst this
      rcases x with x | x | x
      · cases q2
      · exact hz x h
      · cases q2
theorem qm_pre_len {L : List qm_V} {i : Nat} : (qm_pre L i).length = L.length := by
  unfold qm_pre
  split
  · rfl
  · split
    · simp
    · rfl
theorem qm_LH.st1 {ad : Nat → Nat} {lsA lsB : Array Slot} {nL : Nat} {L : List qm_V} {i : Nat} {v : Int ⊕ Int ⊕ Nat} {lv : List (Nat × Value)} (h : qm_LH ad lsA nL L) (hs : ∀ j x, j ≠ i → L[j]? = some (some x) → (j, qm_cv ad (some x)) ∈ lv)
    (h1 : lv_has lsB nL ((i, qm_cv ad (some v)) :: lv.filter (fun q => !(q.1 == i) && !(q.1 + 1 == i && q.2.category == 2)))) : qm_LH ad lsB nL (qm_st1 L i (some v)) := by
  refine ⟨by simp [qm_st1, qm_pre_len, h.1], h1.1, h1.2.1, fun j x hj => ?_⟩
  by_cases hji : j = i
  · subst hji
    have hl : j < (qm_pre L j).length := by
      have := (List.getElem?_eq_some_iff.mp hj).1
      simpa [qm_st1] using this
    rw [qm_st1, List.getElem?_set_self hl] at hj
    cases hj
    exact h1.2.2 _ List.mem_cons_self
  · rw [qm_st1, List.getElem?_set_ne (fun q => hji q.symm)] at hj
    obtain ⟨a1, a2⟩ := qm_pre_at hj
    refine h1.2.2 _ (List.mem_cons_of_mem _ (List.mem_filter.mpr ⟨hs j x hji a1, ?_⟩))
    cases hx : qm_isL (some x) with
    | true =>
      have : ¬ j + 1 = i := fun q => a2 ⟨q, hx⟩
      simp [hji, this]
    | false => simp [hji, qm_cat1 (ad := ad) hx]
theorem qm_LH.st2 {ad : Nat → Nat} {lsA lsB : Array Slot} {nL : Nat} {L : List qm_V} {i : Nat} {v : Int ⊕ Int ⊕ Nat} {lv : List (Nat × Value)} (h : qm_LH ad lsA nL L) (hs : ∀ j x, L[j]? = some (some x) → (j, qm_cv ad (some x)) ∈ lv)
    (h1 : lv_has lsB nL ((i, qm_cv ad (some v)) :: lv.filter (fun q => !(q.1 == i) && (!(q.1 == i + 1) && !(q.1 + 1 == i && q.2.category == 2))))) : qm_LH ad lsB nL (qm_st2 L i (some v)) := by
  refine ⟨by simp [qm_st2, qm_pre_len, h.1], h1.1, h1.2.1, fun j x hj => ?_⟩
  have hlj := (List.getElem?_eq_some_iff.mp hj).1
  by_cases hj1 : i + 1 = j
  · subst hj1
    rw [qm_st2, List.getElem?_set_self (by simpa [qm_st2] using hlj)] at hj
    cases hj
  · rw [qm_st2, List.getElem?_set_ne hj1] at hj
    by_cases hji : j = i
    · subst hji
      rw [List.getElem?_set_self (by simpa [qm_st2] using hlj)] at hj
      cases hj
      exact h1.2.2 _ List.mem_cons_self
    · rw [List.getElem?_set_ne (fun q => hji q.symm)] at hj
      obtain ⟨a1, a2⟩ := qm_pre_at hj
      refine h1.2.2 _ (List.mem_cons_of_mem _ (List.mem_filter.mpr ⟨hs j x a1, ?_⟩))
      have hj2 : ¬ j = i + 1 := fun q => hj1 q.symm
      cases hx : qm_isL (some x) with
      | true =>
        have : ¬ j + 1 = i := fun q => a2 ⟨q, hx⟩
        simp [hji, this, hj2]
      | false => simp [hji, hj2, qm_cat1 (ad := ad) hx]
theorem qm_ent_args {ad : Nat → Nat} : ∀ (As : List qm_V) (o i : Nat) (x : Int ⊕ Int ⊕ Nat), (As.flatMap fun v => if qm_isL v = true then [v, none] else [v])[i]? = some (some x) → (o + i, qm_cv ad (some x)) ∈ lv_args o (As.map (qm_cv ad))
  | [], o, i, x, h => by simp at h
  | v :: vs, o, i, x, h => by
    rw [List.flatMap_cons] at h
    cases hv : qm_isL v with
    | true =>
      rw [if_pos hv] at h
      show _ ∈ (o, qm_cv ad v) :: lv_args (if (qm_cv ad v).category = 2 then o + 2 else o + 1) (vs.map (qm_cv ad))
      rw [if_pos (qm_cat2 hv)]
      match i, h with
      | 0, h =>
        have h : some v = some (some x) := h
        cases h
        exact List.mem_cons_self
      | 1, h =>
        have h : some (none : qm_V) = some (some x) := h
        cases h
      | i + 2, h =>
        have h := qm_ent_args (ad := ad) vs (o + 2) i x h
        refine List.mem_cons_of_mem _ ?_
        rw [show o + (i + 2) = o + 2 + i by omega]
        exact h
    | false =>
      rw [if_neg (by rw [hv]; decide)] at h
      show _ ∈ (o, qm_cv ad v) :: lv_args (if (qm_cv ad v).category = 2 then o + 2 else o + 1) (vs.map (qm_cv ad))
      rw [if_neg (by rw [qm_cat1 hv]; decide)]
      match i, h with
      | 0, h =>
        have h : some v = some (some x) := h
        cases h
        exact List.mem_cons_self
      | i + 1, h =>
        have h := qm_ent_args (ad := ad) vs (o + 1) i x h
        refine List.mem_cons_of_mem _ ?_
        rw [show o + (i + 1) = o + 1 + i by omega]
        exact h
theorem qm_sl_len {ad : Nat → Nat} (As : List qm_V) : (lg_sl (As.map (qm_cv ad))).length = (As.flatMap fun v => if qm_isL v = true then [v, none] else [v]).length := by
  induction As with
  | nil => rfl
  | cons v vs ih =>
    show (((qm_cv ad v) :: vs.map (qm_cv ad)).flatMap _).length = _
    rw [List.flatMap_cons, List.flatMap_cons, List.length_append, List.length_append]
    have ih' : ((vs.map (qm_cv ad)).flatMap fun v => if v.category = 2 then [Slot.val v, Slot.second] else [Slot.val v]).length = _ := ih
    rw [ih']
    cases hv : qm_isL v with
    | true => rw [if_pos (qm_cat2 hv)]; simp
    | false => rw [if_neg (by rw [qm_cat1 hv]; decide)]; simp
theorem qm_ent_LH {ad : Nat → Nat} {As : List qm_V} {n : Nat} (h : (qm_ent As n).length = n) : qm_LH ad ((lg_sl (As.map (qm_cv ad)) ++ List.replicate (n - (lg_sl (As.map (qm_cv ad))).length) Slot.unset).toArray) n (qm_ent As n) := by
  have h2 : (lg_sl (As.map (qm_cv ad))).length ≤ n := by
    rw [qm_sl_len]
    simp only [qm_ent, List.length_append, List.length_replicate] at h
    omega
  have hl := lv_entry (As.map (qm_cv ad)) h2
  refine ⟨h, hl.1, hl.2.1, fun i x hi => ?_⟩
  unfold qm_ent at hi
  by_cases hlt : i < (As.flatMap fun v => if qm_isL v = true then [v, none] else [v]).length
  · rw [List.getElem?_append_left hlt] at hi
    have := qm_ent_args (ad := ad) As 0 i x hi
    rw [Nat.zero_add] at this
    exact hl.2.2 _ this
  · rw [List.getElem?_append_right (by omega)] at hi
    have := List.mem_of_getElem? hi
    have := (List.mem_replicate.mp this).2
    cases this
theorem qm_catSum {ad : Nat → Nat} (st : List qm_V) : ((st.map (qm_cv ad)).map fun v => v.category).sum = qm_cat st := by
  induction st with
  | nil => rfl
  | cons v vs ih =>
    simp only [List.map_cons, List.sum_cons, qm_cat] at ih ⊢
    rw [ih]
    cases hv : qm_isL v with
    | true => rw [qm_cat2 hv]; simp
    | false => rw [qm_cat1 hv]; simp
/-- numbers -/
theorem qm_lt {x y : Int} (hx : qm_r32 x) (hy : qm_r32 y) : Int32.ofInt x < Int32.ofInt y ↔ x < y := by
  rw [Int32.lt_iff_toInt_lt, Int32.toInt_ofInt_of_le (by omega) (by omega), Int32.toInt_ofInt_of_le (by omega) (by omega)]
theorem qm_le {x y : Int} (hx : qm_r32 x) (hy : qm_r32 y) : Int32.ofInt x ≤ Int32.ofInt y ↔ x ≤ y := by
  rw [Int32.le_iff_toInt_le, Int32.toInt_ofInt_of_le (by omega) (by omega), Int32.toInt_ofInt_of_le (by omega) (by omega)]
theorem qm_eq {x y : Int} (hx : qm_r32 x) (hy : qm_r32 y) : Int32.ofInt x = Int32.ofInt y ↔ x = y := by
  rw [← Int32.toInt_inj, Int32.toInt_ofInt_of_le (by omega) (by omega), Int32.toInt_ofInt_of_le (by omega) (by omega)]
theorem qm_ltL {x y : Int} (hx : qm_r64 x) (hy : qm_r64 y) : Int64.ofInt x < Int64.ofInt y ↔ x < y := by
  rw [Int64.lt_iff_toInt_lt, Int64.toInt_ofInt_of_le (by omega) (by omega), Int64.toInt_ofInt_of_le (by omega) (by omega)]
theorem qm_eqL {x y : Int} (hx : qm_r64 x) (hy : qm_r64 y) : Int64.ofInt x = Int64.ofInt y ↔ x = y := by
  rw [← Int64.toInt_inj, Int64.toInt_ofInt_of_le (by omega) (by omega), Int64.toInt_ofInt_of_le (by omega) (by omega)]
theorem qm_0 : Int32.ofInt 0 = 0 := by decide
theorem qm_idx {i : Int} {n : Nat} (h0 : 0 ≤ i) (h1 : i < (n : Int)) (hn : n < 2147483648) : vp_in (Int32.ofInt i) n ∧ (Int32.ofInt i).toNatClampNeg = i.toNat := by
  have e : (Int32.ofInt i).toInt = i := Int32.toInt_ofInt_of_le (by omega) (by omega)
  refine ⟨vp_in_iff.mpr ⟨by rw [e]; exact h0, by rw [e]; exact h1⟩, ?_⟩
  show (Int32.ofInt i).toInt.toNat = i.toNat
  rw [e]
end
section
/-! ===== what the tables must say; a frame's facts ===== -/
def qm_tyOf : Nat → Option FieldType
  | 0 => none
  | 1 => some .int
  | 2 => some .boolean
  | _ => some .long
def qm_len : Instr → Nat
  | .bipush _ => 2
  | .sipush _ => 3
  | .ldc _ => 2
  | .ldc_w _ => 3
  | .ldc2_w _ => 3
  | .iload _ => 2
  | .lload _ => 2
  | .aload _ => 2
  | .istore _ => 2
  | .lstore _ => 2
  | .astore _ => 2
  | .iinc _ _ => 3
  | .goto _ => 3
  | .ifCond _ _ => 3
  | .if_icmp _ _ => 3
  | .tableswitch _ _ _ _ => 0
  | .lookupswitch _ _ => 0
  | .getfield _ => 3
  | .putfield _ => 3
  | .invokevirtual _ => 3
  | .invokestatic _ => 3
  | _ => 1
def qm_vAt (T : qm_T) (bs : Nat → ByteArray) : Prop := ∀ k pc i, qm_at T k pc = some i → ∃ len, decode (bs k) pc = .ok (i, len) ∧ (qm_len i = 0 ∨ len = qm_len i)
def qm_vSh (T : qm_T) (N : Nat) : Prop := (∀ c s, qm_sh T c = some s → (c < N ∧ ∀ t n, s = .inr (t, n) → t < 4) ∨ (c = 999 ∧ ∃ L, s = .inr (9, L))) ∧ N ≤ 999 ∧ ∀ c t n, qm_sh T c = some (.inr (t, n)) → n < 2147483648
def qm_vFld (T : qm_T) (ow : Nat → String) (cl : List vw_C) (TB : List Jvm.Cond) : Prop := ∀ k i ci j, qm_fld T k i = some (ci, j) → ∃ (C : String) (F : u_T) (n : Nat) (ty : Nat → FieldType), cl[ci]? = some (C, F, n) ∧ j < n ∧ Jvm.Cond.fieldLink (ow k) i (F j).1 (F j).2.1 (F j).2.2.1 ∈ TB ∧ (∀ w ∈ u_ws C F n, w ∈ TB) ∧ (∀ a, a < n → parseFieldDescriptor (F a).2.2.1 = some (ty a)) ∧ (∀ a, a < n → ∀ b, b < n → a ≠ b → (F a).2.1 ≠ (F b).2.1) ∧ (qm_wr T ci j = true → (F j).2.2.2 = false) ∧ ∀ c fl, qm_sh T c = some (.inl (ci, fl)) → (fl[j]? = some (.inr 0) → ty j = .int) ∧ (fl[j]? = some (.inr 1) → ty j = .long) ∧ (fl[j]? = some (.inr 2) → ty j = .boolean)
def qm_vInv (T : qm_T) (bs : Nat → ByteArray) (ow : Nat → String) (nm : Nat → MethodName) (cl : List vw_C) (TB : List Jvm.Cond) : Prop := ∀ k i k' n o, qm_inv T k i = some (k', n, o) → k' < 100000 →
  Jvm.Cond.methodLink (ow k) i (nm k') ∈ TB ∧ Jvm.Cond.code (nm k') (bs k') (qm_mxl T k') (qm_tyOf (qm_rt T k')) ∈ TB ∧ Jvm.Cond.initialized (nm k').cls ∈ TB ∧ ((nm k').cls ≠ "java/lang/invoke/MethodHandle" ∧ (nm k').cls ≠ "java/lang/invoke/VarHandle") ∧ qm_mxl T k' ≤ 41 ∧ plainName (nm k').cls = true ∧ ow k' = (nm k').cls ∧
  (o = none → Jvm.Cond.static (nm k') ∈ TB ∧ (parseMethodDescriptor (nm k').desc).map (fun d => d.parameters.length) = some n) ∧
  ∀ ci, o = some ci → Jvm.Cond.instanceMethod (nm k') ∈ TB ∧ Jvm.Cond.selects (nm k').cls (nm k') (nm k') ∈ TB ∧ (∃ (F : u_T) (q : Nat), cl[ci]? = some ((nm k').cls, F, q)) ∧ ∃ n', n = n' + 1 ∧ (parseMethodDescriptor (nm k').desc).map (fun d => d.parameters.length) = some n'
def qm_vCst (T : qm_T) (ow : Nat → String) (TB : List Jvm.Cond) : Prop := ∀ k i, (∀ z, qm_cst T k i = some (some (.inl z)) → Jvm.Cond.constant (ow k) i (Int32.ofInt z) ∈ TB) ∧ (∀ z, qm_cst T k i = some (some (.inr (.inl z))) → Jvm.Cond.constantLong (ow k) i (Int64.ofInt z) ∈ TB)
/-- a text that is there: its object, its bytes -/
def qm_Str (a : Nat) (tx : List Nat) (A : Nat → Prop) (U : State) (H : Heap) : Prop := ∃ v : Nat, va_O "java/lang/String" a A U H ∧ va_OF "java/lang/String" "coder" "B" (.int 0) a A U H ∧ va_OF "java/lang/String" "value" "[B" (.ref v) a A U H ∧ va_T .byte v tx.length (fun j => .int (Int32.ofNat (tx.getD j 0))) A U H ∧ ∀ j, j < tx.length → tx.getD j 0 < 128
/-- what lies outside the world: the script, the texts -/
def qm_Ex (T : qm_T) (ow : Nat → String) (ad : Nat → Nat) (ξ : Nat → Int) (A : Nat → Prop) (U : State) (H : Heap) : Prop :=
  (∀ L, qm_sh T 999 = some (.inr (9, L)) → ¬ A (ad 999) ∧ ad 999 < H.size ∧ va_X (ad 999) L (fun i => Int32.ofInt (ξ i)) U H) ∧
  (∀ c l, qm_txt T c = some l → qm_Str (ad c) l A U H) ∧
  (∀ k i c, qm_cst T k i = some (some (.inr (.inr c))) → ∃ tx, vk_R (ow k) i tx (ad c) U)
def qm_Fr (T : qm_T) (bs : Nat → ByteArray) (ow : Nat → String) (cl : List vw_C) (TB : List Jvm.Cond) (ad : Nat → Nat) (ac : Nat → ClassId) (D : va_G) (ξ : Nat → Int) (p : Program) (s : State) (m : MethodId) (args : Array Value) (c : Code) (k : Nat) (A : Nat → Prop) (H0 : Heap) : Prop :=
  p.tables.exec = Jvm.exec ∧ c.code = bs k ∧ c.maxLocals = qm_mxl T k ∧ s.vm.findClass (ow k) = some m.cls ∧ (∀ w ∈ TB, w.before args s = true) ∧ va_K D cl (qm_tys ac) s ∧ qm_Ex T ow ad ξ A s H0
theorem qm_Str.kept {a : Nat} {tx : List Nat} {A : Nat → Prop} {U : State} {H H1 : Heap} (h : qm_Str a tx A U H) (hq : ∀ q : Nat, q < H.size → ¬ A q → H1[q]? = H[q]?) : qm_Str a tx A U H1 := by
  obtain ⟨v, h1, h2, h3, h4, h5⟩ := h
  exact ⟨v, h1.kept hq, h2.kept hq, h3.kept hq, h4.kept hq, h5⟩
theorem qm_Str.moved {a : Nat} {tx : List Nat} {A : Nat → Prop} {u U : State} {H : Heap} (hvm : u.vm.Alike U.vm) (h : qm_Str a tx A u H) : qm_Str a tx A U H := by
  obtain ⟨v, h1, h2, h3, h4, h5⟩ := h
  exact ⟨v, va_O.moved hvm h1, va_OF.moved hvm h2, va_OF.moved hvm h3, va_T.moved hvm h4, h5⟩
theorem qm_Str.narrow {a : Nat} {tx : List Nat} {A B : Nat → Prop} {U : State} {H : Heap} (h : qm_Str a tx A U H) (hAB : ∀ q, B q → A q) : qm_Str a tx B U H := by
  obtain ⟨v, h1, h2, h3, h4, h5⟩ := h
  exact ⟨v, h1.narrow hAB, h2.narrow hAB, h3.narrow hAB, h4.narrow hAB, h5⟩
theorem qm_Ex.same {T : qm_T} {ow : Nat → String} {ad : Nat → Nat} {ξ : Nat → Int} {A : Nat → Prop} {u U : State} {H : Heap} (hv : U.vm = u.vm) (h : qm_Ex T ow ad ξ A u H) : qm_Ex T ow ad ξ A U H := by
  have hvm : u.vm.Alike U.vm := by rw [hv]; exact Vm.Alike.refl _
  refine ⟨fun L hL => ?_, fun c l hl => (h.2.1 c l hl).moved hvm, fun k i c hc => ?_⟩
  · obtain ⟨h1, h2, h3⟩ := h.1 L hL
    exact ⟨h1, h2, va_X.moved hvm h3⟩
  · obtain ⟨tx, h1⟩ := h.2.2 k i c hc
    exact ⟨tx, vk_R.same hv h1⟩
theorem qm_Ex.warm {T : qm_T} {ow : Nat → String} {ad : Nat → Nat} {ξ : Nat → Int} {A B : Nat → Prop} {s U : State} {H0 H : Heap} (hW : s.WarmedH U.vm) (hz : H0.size ≤ H.size) (hq : ∀ q : Nat, q < H0.size → ¬ A q → H[q]? = H0[q]?) (hAB : ∀ q, B q → A q) (h : qm_Ex T ow ad ξ A s H0) : qm_Ex T ow ad ξ B U H := by
  have hvm : s.vm.Alike U.vm := hW.alike
  refine ⟨fun L hL => ?_, fun c l hl => (((h.2.1 c l hl).kept hq).narrow hAB).moved hvm, fun k i c hc => ?_⟩
  · obtain ⟨h1, h2, h3⟩ := h.1 L hL
    exact ⟨fun q => h1 (hAB _ q), Nat.lt_of_lt_of_le h2 hz, va_X.moved hvm (h3.kept (hq _ h2 h1))⟩
  · obtain ⟨tx, h1⟩ := h.2.2 k i c hc
    exact ⟨tx, vk_R.warm hW h1⟩
/-! ===== reading a step back ===== -/
theorem qm_i1_some {st : List qm_V} {f : Int → List qm_V → qm_O} {o} (h : qm_i1 st f = some o) : ∃ x r, st = some (.inl x) :: r ∧ f x r = some o := by
  unfold qm_i1 at h
  split at h
  · exact ⟨_, _, rfl, h⟩
  · cases h
theorem qm_i2_some {st : List qm_V} {f : Int → Int → List qm_V → qm_O} {o} (h : qm_i2 st f = some o) : ∃ x y r, st = some (.inl y) :: some (.inl x) :: r ∧ f x y r = some o := by
  unfold qm_i2 at h
  split at h
  · exact ⟨_, _, _, rfl, h⟩
  · cases h
theorem qm_l1_some {st : List qm_V} {f : Int → List qm_V → qm_O} {o} (h : qm_l1 st f = some o) : ∃ x r, st = some (.inr (.inl x)) :: r ∧ f x r = some o := by
  unfold qm_l1 at h
  split at h
  · exact ⟨_, _, rfl, h⟩
  · cases h
theorem qm_l2_some {st : List qm_V} {f : Int → Int → List qm_V → qm_O} {o} (h : qm_l2 st f = some o) : ∃ x y r, st = some (.inr (.inl y)) :: some (.inr (.inl x)) :: r ∧ f x y r = some o := by
  unfold qm_l2 at h
  split at h
  · exact ⟨_, _, _, rfl, h⟩
  · cases h
theorem qm_li_some {st : List qm_V} {f : Int → Int → List qm_V → qm_O} {o} (h : qm_li st f = some o) : ∃ x y r, st = some (.inl y) :: some (.inr (.inl x)) :: r ∧ f x y r = some o := by
  unfold qm_li at h
  split at h
  · exact ⟨_, _, _, rfl, h⟩
  · cases h
theorem qm_p1_some {st : List qm_V} {f : Nat → List qm_V → qm_O} {o} (h : qm_p1 st f = some o) : ∃ x r, st = some (.inr (.inr x)) :: r ∧ f x r = some o := by
  unfold qm_p1 at h
  split at h
  · exact ⟨_, _, rfl, h⟩
  · cases h
theorem qm_pi_some {st : List qm_V} {f : Nat → Int → List qm_V → qm_O} {o} (h : qm_pi st f = some o) : ∃ c i r, st = some (.inl i) :: some (.inr (.inr c)) :: r ∧ f c i r = some o := by
  unfold qm_pi at h
  split at h
  · exact ⟨_, _, _, rfl, h⟩
  · cases h
theorem qm_pv_some {st : List qm_V} {f : Nat → Int → qm_V → List qm_V → qm_O} {o} (h : qm_pv st f = some o) : ∃ c i v r, st = v :: some (.inl i) :: some (.inr (.inr c)) :: r ∧ f c i v r = some o := by
  unfold qm_pv at h
  split at h
  · exact ⟨_, _, _, _, rfl, h⟩
  · cases h
theorem qm_po_some {st : List qm_V} {f : Nat → qm_V → List qm_V → qm_O} {o} (h : qm_po st f = some o) : ∃ c v r, st = v :: some (.inr (.inr c)) :: r ∧ f c v r = some o := by
  unfold qm_po at h
  split at h
  · exact ⟨_, _, _, rfl, h⟩
  · cases h
theorem qm_ldI_some {L : List qm_V} {i : Nat} {f : Int → qm_O} {o} (h : qm_ldI L i f = some o) : ∃ z, L[i]? = some (some (.inl z)) ∧ f z = some o := by
  unfold qm_ldI at h
  split at h
  next z hz => exact ⟨z, hz, h⟩
  next => cases h
theorem qm_ldL_some {L : List qm_V} {i : Nat} {f : Int → qm_O} {o} (h : qm_ldL L i f = some o) : ∃ z, L[i]? = some (some (.inr (.inl z))) ∧ f z = some o := by
  unfold qm_ldL at h
  split at h
  next z hz => exact ⟨z, hz, h⟩
  next => cases h
theorem qm_ldP_some {L : List qm_V} {i : Nat} {f : Nat → qm_O} {o} (h : qm_ldP L i f = some o) : ∃ z, L[i]? = some (some (.inr (.inr z))) ∧ f z = some o := by
  unfold qm_ldP at h
  split at h
  next z hz => exact ⟨z, hz, h⟩
  next => cases h
theorem qm_arr_some {s : Option qm_S} {f : Nat → Nat → qm_O} {o} (h : qm_arr s f = some o) : ∃ t n, s = some (.inr (t, n)) ∧ f t n = some o := by
  unfold qm_arr at h
  split at h
  · exact ⟨_, _, rfl, h⟩
  · cases h
theorem qm_obj_some {s : Option qm_S} {l : Option (Nat × Nat)} {f : Nat → Nat → (Nat ⊕ Nat) → qm_O} {o} (h : qm_obj s l f = some o) : ∃ ci fl j e, s = some (.inl (ci, fl)) ∧ l = some (ci, j) ∧ fl[j]? = some e ∧ f ci j e = some o := by
  unfold qm_obj at h
  split at h
  next ci fl ci' j =>
    split at h
    next hc =>
      subst hc
      split at h
      next e he => exact ⟨_, _, _, e, rfl, rfl, he, h⟩
      next => cases h
    next => cases h
  next => cases h
theorem qm_cst1_some {v : Option qm_V} {f : qm_V → qm_O} {o} (h : qm_cst1 v f = some o) : ∃ x, v = some x ∧ f x = some o := by
  unfold qm_cst1 at h
  split at h
  · exact ⟨_, rfl, h⟩
  · cases h
theorem qm_if_some {c : Prop} [Decidable c] {x : qm_O} {o} (h : (if c then x else none) = some o) : c ∧ x = some o := by
  by_cases hc : c
  · rw [if_pos hc] at h; exact ⟨hc, h⟩
  · rw [if_neg hc] at h; cases h
theorem qm_jmp_some {pc : Nat} {off : Int} {ls st : List qm_V} {μ : qm_M} {o} (h : qm_jmp pc off ls st μ = some o) : ∃ tgt : Nat, (pc : Int) + off = (tgt : Int) ∧ o = .inl (tgt, ls, st, μ) := by
  unfold qm_jmp at h
  obtain ⟨h1, h2⟩ := qm_if_some h
  cases h2
  exact ⟨_, (Int.toNat_of_nonneg h1).symm, rfl⟩
end
section
/-! ===== a plain step of the small machine is a step of the machine ===== -/
theorem qm_nx_inj {a : Nat} {b c : List qm_V} {d : qm_M} {pc' : Nat} {ls' st' : List qm_V} {μ' : qm_M} (h : qm_nx a b c d = some (.inl (pc', ls', st', μ'))) : a = pc' ∧ b = ls' ∧ c = st' ∧ d = μ' := by
  cases h
  exact ⟨rfl, rfl, rfl, rfl⟩
theorem qm_b8 {n : Int} (h : -128 ≤ n ∧ n < 128) : (Int8.ofInt n).toInt32 = Int32.ofInt n := by
  rw [← Int32.toInt_inj, Int8.toInt_toInt32, Int8.toInt_ofInt_of_le (by omega) (by omega), Int32.toInt_ofInt_of_le (by omega) (by omega)]
theorem qm_b16 {n : Int} (h : -32768 ≤ n ∧ n < 32768) : (Int16.ofInt n).toInt32 = Int32.ofInt n := by
  rw [← Int32.toInt_inj, Int16.toInt_toInt32, Int16.toInt_ofInt_of_le (by omega) (by omega), Int32.toInt_ofInt_of_le (by omega) (by omega)]
theorem qm_i64 {x : Int} (h : qm_r32 x) : (Int32.ofInt x).toInt64 = Int64.ofInt x := by
  rw [← Int64.toInt_inj, Int32.toInt_toInt64, Int32.toInt_ofInt_of_le (by omega) (by omega), Int64.toInt_ofInt_of_le (by omega) (by omega)]
theorem qm_l32 (x : Int) : (Int64.ofInt x).toInt32 = Int32.ofInt x := by
  simp
theorem qm_ti {x : Int} (h : qm_r32 x) : (Int32.ofInt x).toInt = x := Int32.toInt_ofInt_of_le (by omega) (by omega)
theorem qm_fs_at {ad : Nat → Nat} {μ : qm_M} {c j : Nat} {fl : List (Nat ⊕ Nat)} {e : Nat ⊕ Nat} (h : fl[j]? = some e) : (qm_fs ad μ c fl)[j]? = some (qm_cv ad (qm_fv μ c j e)) := by
  simp [qm_fs, h]
theorem qm_fv_ne {μ : qm_M} {c j i : Nat} {z : Int} (h : i ≠ j) (e : Nat ⊕ Nat) : qm_fv (qm_set μ c j z) c i e = qm_fv μ c i e := by
  have h1 : qm_set μ c j z c i = μ c i := by rw [qm_set_eq, if_neg h]
  unfold qm_fv
  simp only [h1]
theorem qm_fs_set {ad : Nat → Nat} {μ : qm_M} {c j : Nat} {fl : List (Nat ⊕ Nat)} {e : Nat ⊕ Nat} {z : Int} {v : Value} (h : fl[j]? = some e) (hv : qm_cv ad (qm_fv (qm_set μ c j z) c j e) = v) : qm_fs ad (qm_set μ c j z) c fl = (qm_fs ad μ c fl).set j v := by
  apply List.ext_getElem?
  intro i
  rw [List.getElem?_set]
  by_cases hi : j = i
  · subst hi
    rw [if_pos rfl, qm_fs_at h, hv, if_pos]
    simpa [qm_fs] using (List.getElem?_eq_some_iff.mp h).1
  · rw [if_neg hi]
    simp only [qm_fs, List.getElem?_mapIdx, qm_fv_ne (fun q => hi q.symm)]
theorem qm_putv_some {μ μ' : qm_M} {c j : Nat} {e : Nat ⊕ Nat} {v : qm_V} (h : qm_putv μ c j e v = some μ') : (∃ z, e = .inr 0 ∧ v = some (.inl z) ∧ μ' = qm_set μ c j z) ∨ (∃ z, e = .inr 1 ∧ v = some (.inr (.inl z)) ∧ μ' = qm_set μ c j z) ∨ (∃ z, e = .inr 2 ∧ v = some (.inl z) ∧ (z = 0 ∨ z = 1) ∧ μ' = qm_set μ c j z) := by
  unfold qm_putv at h
  split at h
  · cases h; exact Or.inl ⟨_, rfl, rfl, rfl⟩
  · cases h; exact Or.inr (Or.inl ⟨_, rfl, rfl, rfl⟩)
  · split at h
    next hz => cases h; exact Or.inr (Or.inr ⟨_, rfl, rfl, hz, rfl⟩)
    next => cases h
  · cases h
theorem qm_nar01 {z : Int} (h : z = 0 ∨ z = 1) : narrow .boolean (.int (Int32.ofInt z)) = .int (Int32.ofInt z) ∧ fits .boolean (.int (Int32.ofInt z)) = true ∧ vp_nar .boolean (Int32.ofInt z) = Int32.ofInt z := by
  rcases h with rfl | rfl <;> decide +kernel
theorem qm_upd32 (μ : qm_M) (c k : Nat) (z : Int) : (fun i => Int32.ofInt (qm_set μ c k z c i)) = upd (fun i => Int32.ofInt (μ c i)) k (Int32.ofInt z) := by
  funext i
  rw [qm_set_eq]
  unfold upd
  split <;> rfl
theorem qm_upd64 (μ : qm_M) (c k : Nat) (z : Int) : (fun i => Int64.ofInt (qm_set μ c k z c i)) = vp_updL (fun i => Int64.ofInt (μ c i)) k (Int64.ofInt z) := by
  funext i
  rw [qm_set_eq]
  unfold vp_updL
  split <;> rfl
theorem qm_astv_some {μ : qm_M} {c n : Nat} {i z : Int} {pc : Nat} {ls r : List qm_V} {o} (h : qm_astv μ c n i z pc ls r = some o) : (0 ≤ i ∧ i < (n : Int)) ∧ qm_nx (pc + 1) ls r (qm_set μ c i.toNat z) = some o := qm_if_some h
theorem qm_cmp_t {cd : Jvm.ClassFile.Cond} {x y : Int} {a b : Nat} (h : qm_cmp cd x y = true) : (if qm_cmp cd x y = true then a else b) = a := if_pos h
theorem qm_cmp_f {cd : Jvm.ClassFile.Cond} {x y : Int} {a b : Nat} (h : qm_cmp cd x y = false) : (if qm_cmp cd x y = true then a else b) = b := if_neg (by rw [h]; decide)
theorem qm_call_inl {v : Option (Nat × Nat × Option Nat)} {sh : Nat → Option qm_S} {st : List qm_V} {inst : Bool} {x} : qm_call v sh st inst ≠ some (.inl x) := by
  intro h
  unfold qm_call at h
  repeat' split at h
  all_goals first | cases h | (split at h <;> cases h)
section QPL
variable {p : Program} {l : Launch} {e : Env} {R : Room} {s : State} {m : MethodId} {args : Array Value} {below : List Frame} {meth : Method} {c : Code} {H : Heap} {locs : List Loc} {cells slots : Nat} {Q : State → Prop}
variable {T : qm_T} {bs : Nat → ByteArray} {ow : Nat → String} {cl : List vw_C} {TB : List Jvm.Cond} {N : Nat} {ad : Nat → Nat} {ac : Nat → ClassId} {D : va_G} {ξ : Nat → Int} {A : Nat → Prop} {H0 : Heap}
set_option maxHeartbeats 4000000 in
theorem qm_plain (vSh : qm_vSh T N) (vFld : qm_vFld T ow cl TB) (vCst : qm_vCst T ow TB) (hinj : ∀ i j, i < N → j < N → ad i = ad j → i = j) (hAc : ∀ q, qm_Ac ad N q → A q)
    {k pc : Nat} {ls st : List qm_V} {μ : qm_M} {i : Instr} {len pc' : Nat} {ls' st' : List qm_V} {μ' : qm_M} {lsA : Array Slot}
    (hF : qm_Fr T bs ow cl TB ad ac D ξ p s m args c k A H0) (hd : decode (bs k) pc = .ok (i, len)) (hlen : qm_len i = 0 ∨ len = qm_len i) (hs : qm_step T k pc ls st μ i = some (.inl (pc', ls', st', μ')))
    (hξ : μ 999 = ξ) (hP : va_P D cl (qm_ws ad ac (qm_sh T) N μ) H) (hS : va_S A H0 H locs) (hL : qm_LH ad lsA (qm_mxl T k) ls)
    (kk : ∀ (H1 : Heap) (locs1 : List Loc) (lsB : Array Slot), μ' 999 = ξ → va_P D cl (qm_ws ad ac (qm_sh T) N μ') H1 → va_S A H0 H1 locs1 → qm_LH ad lsB (qm_mxl T k) ls' → W p l e R s m args below meth c H1 locs1 cells slots Q (F0 m pc' lsB (st'.map (qm_cv ad)))) :
    W p l e R s m args below meth c H locs cells slots Q (F0 m pc lsA (st.map (qm_cv ad))) := by
  obtain ⟨hx, hb, hml, hown, hts, hK, hEx⟩ := hF
  have shO : ∀ {c ci : Nat} {fl : List (Nat ⊕ Nat)}, qm_sh T c = some (.inl (ci, fl)) → c < N := by
    intro c ci fl h
    rcases vSh.1 c _ h with ⟨h1, -⟩ | ⟨-, L, h1⟩
    · exact h1
    · cases h1
  have shA : ∀ {c t n : Nat}, qm_sh T c = some (.inr (t, n)) → t ≠ 9 → c < N := by
    intro c t n h ht
    rcases vSh.1 c _ h with ⟨h1, -⟩ | ⟨-, L, h1⟩
    · exact h1
    · cases h1; exact absurd rfl ht
  have n999 : ∀ {c : Nat} {j : Nat} {z : Int}, c < N → (qm_set μ c j z) 999 = ξ := by
    intro c j z h
    rw [qm_set_ne (by have := vSh.2.1; omega)]
    exact hξ
  have hD : ∀ ν : qm_M, va_D A (qm_ws ad ac (qm_sh T) N ν) := fun ν => qm_ws_D hinj hAc
  have arr32 : ∀ {c t n : Nat}, qm_sh T c = some (.inr (t, n)) → t ≠ 9 → t ≠ 1 → (qm_ws ad ac (qm_sh T) N μ)[c]? = some (ad c, .inl (ac t, n, .inl fun i => Int32.ofInt (μ c i))) := by
    intro c t n h h9 h1
    rw [qm_ws_at (shA h h9), qm_E_arr h, qm_ar, if_neg h1]
  have arr64 : ∀ {c n : Nat}, qm_sh T c = some (.inr (1, n)) → (qm_ws ad ac (qm_sh T) N μ)[c]? = some (ad c, .inl (ac 1, n, .inr (.inl fun i => Int64.ofInt (μ c i)))) := by
    intro c n h
    rw [qm_ws_at (shA h (by decide)), qm_E_arr h, qm_ar, if_pos rfl]
  have ldk : ∀ {j : Nat} {x : Int ⊕ Int ⊕ Nat}, ls[j]? = some (some x) → lsA[j]? = some (.val (qm_cv ad (some x))) := fun h => hL.2.2.2 _ _ h
  have hLl : ls.length = qm_mxl T k := hL.1
  cases i with
  | iconst n =>
    obtain rfl : len = 1 := hlen.resolve_left (show ¬ (1 : Nat) = 0 by decide)
    obtain ⟨rfl, rfl, rfl, rfl⟩ := qm_nx_inj hs
    exact lv_iconst hx hb hd rfl (kk _ _ _ hξ hP hS hL)
  | bipush n =>
    obtain rfl : len = 2 := hlen.resolve_left (show ¬ (2 : Nat) = 0 by decide)
    obtain ⟨hr, hs⟩ := qm_if_some hs
    obtain ⟨rfl, rfl, rfl, rfl⟩ := qm_nx_inj hs
    exact lv_bipush hx hb hd (qm_b8 hr) (kk _ _ _ hξ hP hS hL)
  | sipush n =>
    obtain rfl : len = 3 := hlen.resolve_left (show ¬ (3 : Nat) = 0 by decide)
    obtain ⟨hr, hs⟩ := qm_if_some hs
    obtain ⟨rfl, rfl, rfl, rfl⟩ := qm_nx_inj hs
    exact lv_sipush hx hb hd (qm_b16 hr) (kk _ _ _ hξ hP hS hL)
  | lconst n =>
    obtain rfl : len = 1 := hlen.resolve_left (show ¬ (1 : Nat) = 0 by decide)
    obtain ⟨rfl, rfl, rfl, rfl⟩ := qm_nx_inj hs
    exact lv_lconst hx hb hd Int64.ofInt_eq_ofNat.symm (kk _ _ _ hξ hP hS hL)
  | ldc n =>
    obtain rfl : len = 2 := hlen.resolve_left (show ¬ (2 : Nat) = 0 by decide)
    obtain ⟨v, hv, hs⟩ := qm_cst1_some hs
    rcases v with _ | (z | z | q)
    · cases hs
    · obtain ⟨rfl, rfl, rfl, rfl⟩ := qm_nx_inj hs
      exact lv_ldc hx hb hown (hts _ ((vCst k n).1 z hv)) hd (kk _ _ _ hξ hP hS hL)
    · cases hs
    · obtain ⟨rfl, rfl, rfl, rfl⟩ := qm_nx_inj hs
      obtain ⟨tx, ht⟩ := hEx.2.2 k n q hv
      exact va_ldcS hx hb hown ht hd (kk _ _ _ hξ hP hS hL)
  | ldc_w n =>
    obtain rfl : len = 3 := hlen.resolve_left (show ¬ (3 : Nat) = 0 by decide)
    obtain ⟨v, hv, hs⟩ := qm_cst1_some hs
    rcases v with _ | (z | z | q)
    · cases hs
    · obtain ⟨rfl, rfl, rfl, rfl⟩ := qm_nx_inj hs
      exact lv_ldcw hx hb hown (hts _ ((vCst k n).1 z hv)) hd (kk _ _ _ hξ hP hS hL)
    · cases hs
    · cases hs
  | ldc2_w n =>
    obtain rfl : len = 3 := hlen.resolve_left (show ¬ (3 : Nat) = 0 by decide)
    obtain ⟨v, hv, hs⟩ := qm_cst1_some hs
    rcases v with _ | (z | z | q)
    · cases hs
    · cases hs
    · obtain ⟨rfl, rfl, rfl, rfl⟩ := qm_nx_inj hs
      exact lv_ldc2 hx hb hown (hts _ ((vCst k n).2 z hv)) hd (kk _ _ _ hξ hP hS hL)
    · cases hs
  | iload n =>
    obtain rfl : len = 2 := hlen.resolve_left (show ¬ (2 : Nat) = 0 by decide)
    obtain ⟨z, hz, hs⟩ := qm_ldI_some hs
    obtain ⟨rfl, rfl, rfl, rfl⟩ := qm_nx_inj hs
    exact lv_iload hx hb hd (ldk hz) (kk _ _ _ hξ hP hS hL)
  | iload_n n =>
    obtain rfl : len = 1 := hlen.resolve_left (show ¬ (1 : Nat) = 0 by decide)
    obtain ⟨z, hz, hs⟩ := qm_ldI_some hs
    obtain ⟨rfl, rfl, rfl, rfl⟩ := qm_nx_inj hs
    exact lv_iload_n hx hb hd rfl (ldk hz) (kk _ _ _ hξ hP hS hL)
  | lload n =>
    obtain rfl : len = 2 := hlen.resolve_left (show ¬ (2 : Nat) = 0 by decide)
    obtain ⟨z, hz, hs⟩ := qm_ldL_some hs
    obtain ⟨rfl, rfl, rfl, rfl⟩ := qm_nx_inj hs
    exact lv_lload hx hb hd (ldk hz) (kk _ _ _ hξ hP hS hL)
  | lload_n n =>
    obtain rfl : len = 1 := hlen.resolve_left (show ¬ (1 : Nat) = 0 by decide)
    obtain ⟨z, hz, hs⟩ := qm_ldL_some hs
    obtain ⟨rfl, rfl, rfl, rfl⟩ := qm_nx_inj hs
    exact lv_lload_n hx hb hd rfl (ldk hz) (kk _ _ _ hξ hP hS hL)
  | aload n =>
    obtain rfl : len = 2 := hlen.resolve_left (show ¬ (2 : Nat) = 0 by decide)
    obtain ⟨z, hz, hs⟩ := qm_ldP_some hs
    obtain ⟨rfl, rfl, rfl, rfl⟩ := qm_nx_inj hs
    exact lv_aload hx hb hd (ldk hz) (kk _ _ _ hξ hP hS hL)
  | aload_n n =>
    obtain rfl : len = 1 := hlen.resolve_left (show ¬ (1 : Nat) = 0 by decide)
    obtain ⟨z, hz, hs⟩ := qm_ldP_some hs
    obtain ⟨rfl, rfl, rfl, rfl⟩ := qm_nx_inj hs
    exact lv_aload_n hx hb hd rfl (ldk hz) (kk _ _ _ hξ hP hS hL)
  | istore n =>
    obtain rfl : len = 2 := hlen.resolve_left (show ¬ (2 : Nat) = 0 by decide)
    obtain ⟨z, r, rfl, hs⟩ := qm_i1_some hs
    obtain ⟨hl, hs⟩ := qm_if_some hs
    obtain ⟨rfl, rfl, rfl, rfl⟩ := qm_nx_inj hs
    exact lv_istore hx hb hd hL.has (by omega) rfl (fun lsB h => kk _ _ _ hξ hP hS (hL.st1 (fun j x _ h => qm_al_mem h) h))
  | istore_n n =>
    obtain rfl : len = 1 := hlen.resolve_left (show ¬ (1 : Nat) = 0 by decide)
    obtain ⟨z, r, rfl, hs⟩ := qm_i1_some hs
    obtain ⟨hl, hs⟩ := qm_if_some hs
    obtain ⟨rfl, rfl, rfl, rfl⟩ := qm_nx_inj hs
    exact lv_istore_n hx hb hd rfl hL.has (by omega) rfl (fun lsB h => kk _ _ _ hξ hP hS (hL.st1 (fun j x _ h => qm_al_mem h) h))
  | lstore n =>
    obtain rfl : len = 2 := hlen.resolve_left (show ¬ (2 : Nat) = 0 by decide)
    obtain ⟨z, r, rfl, hs⟩ := qm_l1_some hs
    obtain ⟨hl, hs⟩ := qm_if_some hs
    obtain ⟨rfl, rfl, rfl, rfl⟩ := qm_nx_inj hs
    exact lv_lstore hx hb hd hL.has (by omega) rfl (fun lsB h => kk _ _ _ hξ hP hS (hL.st2 (fun j x h => qm_al_mem h) h))
  | lstore_n n =>
    obtain rfl : len = 1 := hlen.resolve_left (show ¬ (1 : Nat) = 0 by decide)
    obtain ⟨z, r, rfl, hs⟩ := qm_l1_some hs
    obtain ⟨hl, hs⟩ := qm_if_some hs
    obtain ⟨rfl, rfl, rfl, rfl⟩ := qm_nx_inj hs
    exact lv_lstore_n hx hb hd rfl hL.has (by omega) rfl (fun lsB h => kk _ _ _ hξ hP hS (hL.st2 (fun j x h => qm_al_mem h) h))
  | astore n =>
    obtain rfl : len = 2 := hlen.resolve_left (show ¬ (2 : Nat) = 0 by decide)
    obtain ⟨z, r, rfl, hs⟩ := qm_p1_some hs
    obtain ⟨hl, hs⟩ := qm_if_some hs
    obtain ⟨rfl, rfl, rfl, rfl⟩ := qm_nx_inj hs
    exact lv_astore hx hb hd hL.has (by omega) rfl (fun lsB h => kk _ _ _ hξ hP hS (hL.st1 (fun j x _ h => qm_al_mem h) h))
  | astore_n n =>
    obtain rfl : len = 1 := hlen.resolve_left (show ¬ (1 : Nat) = 0 by decide)
    obtain ⟨z, r, rfl, hs⟩ := qm_p1_some hs
    obtain ⟨hl, hs⟩ := qm_if_some hs
    obtain ⟨rfl, rfl, rfl, rfl⟩ := qm_nx_inj hs
    exact lv_astore_n hx hb hd rfl hL.has (by omega) rfl (fun lsB h => kk _ _ _ hξ hP hS (hL.st1 (fun j x _ h => qm_al_mem h) h))
  | iinc n y =>
    obtain rfl : len = 3 := hlen.resolve_left (show ¬ (3 : Nat) = 0 by decide)
    obtain ⟨z, hz, hs⟩ := qm_ldI_some hs
    obtain ⟨rfl, rfl, rfl, rfl⟩ := qm_nx_inj hs
    have hl : n < ls.length := (List.getElem?_eq_some_iff.mp hz).1
    refine lv_iinc (k := 0) (lv := (n, .int (Int32.ofInt z)) :: qm_al ad ls) (x := Int32.ofInt z) (v := Int32.ofInt (z + y)) hx hb hd ⟨hL.2.1, hL.2.2.1, fun q hq => ?_⟩ rfl (Int32.ofInt_add z y).symm (by omega) rfl (fun lsB h => kk _ _ _ hξ hP hS (hL.st1 (fun j x _ h => List.mem_cons_of_mem _ (qm_al_mem h)) h))
    rcases List.mem_cons.mp hq with rfl | hq
    · exact ldk hz
    · exact hL.has.2.2 q hq
  | iadd =>
    obtain rfl : len = 1 := hlen.resolve_left (show ¬ (1 : Nat) = 0 by decide)
    obtain ⟨x, y, r, rfl, hs⟩ := qm_i2_some hs
    obtain ⟨rfl, rfl, rfl, rfl⟩ := qm_nx_inj hs
    exact lv_iadd hx hb hd (by rw [← Int32.ofInt_add]; exact kk _ _ _ hξ hP hS hL)
  | isub =>
    obtain rfl : len = 1 := hlen.resolve_left (show ¬ (1 : Nat) = 0 by decide)
    obtain ⟨x, y, r, rfl, hs⟩ := qm_i2_some hs
    obtain ⟨rfl, rfl, rfl, rfl⟩ := qm_nx_inj hs
    exact lv_isub hx hb hd (by rw [← Int32.ofInt_sub]; exact kk _ _ _ hξ hP hS hL)
  | imul =>
    obtain rfl : len = 1 := hlen.resolve_left (show ¬ (1 : Nat) = 0 by decide)
    obtain ⟨x, y, r, rfl, hs⟩ := qm_i2_some hs
    obtain ⟨rfl, rfl, rfl, rfl⟩ := qm_nx_inj hs
    exact lv_imul hx hb hd (by rw [← Int32.ofInt_mul]; exact kk _ _ _ hξ hP hS hL)
  | ineg =>
    obtain rfl : len = 1 := hlen.resolve_left (show ¬ (1 : Nat) = 0 by decide)
    obtain ⟨x, r, rfl, hs⟩ := qm_i1_some hs
    obtain ⟨rfl, rfl, rfl, rfl⟩ := qm_nx_inj hs
    exact lv_ineg hx hb hd (by rw [← Int32.ofInt_neg]; exact kk _ _ _ hξ hP hS hL)
  | idiv =>
    obtain rfl : len = 1 := hlen.resolve_left (show ¬ (1 : Nat) = 0 by decide)
    obtain ⟨x, y, r, rfl, hs⟩ := qm_i2_some hs
    obtain ⟨⟨hr, hy⟩, hs⟩ := qm_if_some hs
    obtain ⟨rfl, rfl, rfl, rfl⟩ := qm_nx_inj hs
    refine lv_idiv hx hb hd (fun q => hy ((qm_eq hr (by omega)).mp (q.trans qm_0.symm))) ?_
    have h1 := kk _ _ _ hξ hP hS hL
    simp only [List.map_cons, qm_cv, Int32.ofInt_toInt] at h1
    exact h1
  | irem =>
    obtain rfl : len = 1 := hlen.resolve_left (show ¬ (1 : Nat) = 0 by decide)
    obtain ⟨x, y, r, rfl, hs⟩ := qm_i2_some hs
    obtain ⟨⟨hr, hy⟩, hs⟩ := qm_if_some hs
    obtain ⟨rfl, rfl, rfl, rfl⟩ := qm_nx_inj hs
    refine lv_irem hx hb hd (fun q => hy ((qm_eq hr (by omega)).mp (q.trans qm_0.symm))) ?_
    have h1 := kk _ _ _ hξ hP hS hL
    simp only [List.map_cons, qm_cv, Int32.ofInt_toInt] at h1
    exact h1
  | iand =>
    obtain rfl : len = 1 := hlen.resolve_left (show ¬ (1 : Nat) = 0 by decide)
    obtain ⟨x, y, r, rfl, hs⟩ := qm_i2_some hs
    obtain ⟨rfl, rfl, rfl, rfl⟩ := qm_nx_inj hs
    refine lv_iand hx hb hd ?_
    have h1 := kk _ _ _ hξ hP hS hL
    simp only [List.map_cons, qm_cv, Int32.ofInt_toInt] at h1
    exact h1
  | ior =>
    obtain rfl : len = 1 := hlen.resolve_left (show ¬ (1 : Nat) = 0 by decide)
    obtain ⟨x, y, r, rfl, hs⟩ := qm_i2_some hs
    obtain ⟨rfl, rfl, rfl, rfl⟩ := qm_nx_inj hs
    refine lv_ior hx hb hd ?_
    have h1 := kk _ _ _ hξ hP hS hL
    simp only [List.map_cons, qm_cv, Int32.ofInt_toInt] at h1
    exact h1
  | ixor =>
    obtain rfl : len = 1 := hlen.resolve_left (show ¬ (1 : Nat) = 0 by decide)
    obtain ⟨x, y, r, rfl, hs⟩ := qm_i2_some hs
    obtain ⟨rfl, rfl, rfl, rfl⟩ := qm_nx_inj hs
    refine lv_ixor hx hb hd ?_
    have h1 := kk _ _ _ hξ hP hS hL
    simp only [List.map_cons, qm_cv, Int32.ofInt_toInt] at h1
    exact h1
  | ishl =>
    obtain rfl : len = 1 := hlen.resolve_left (show ¬ (1 : Nat) = 0 by decide)
    obtain ⟨x, y, r, rfl, hs⟩ := qm_i2_some hs
    obtain ⟨rfl, rfl, rfl, rfl⟩ := qm_nx_inj hs
    refine lv_ishl hx hb hd ?_
    have h1 := kk _ _ _ hξ hP hS hL
    simp only [List.map_cons, qm_cv, Int32.ofInt_toInt] at h1
    exact h1
  | ishr =>
    obtain rfl : len = 1 := hlen.resolve_left (show ¬ (1 : Nat) = 0 by decide)
    obtain ⟨x, y, r, rfl, hs⟩ := qm_i2_some hs
    obtain ⟨rfl, rfl, rfl, rfl⟩ := qm_nx_inj hs
    refine lv_ishr hx hb hd ?_
    have h1 := kk _ _ _ hξ hP hS hL
    simp only [List.map_cons, qm_cv, Int32.ofInt_toInt] at h1
    exact h1
  | iushr =>
    obtain rfl : len = 1 := hlen.resolve_left (show ¬ (1 : Nat) = 0 by decide)
    obtain ⟨x, y, r, rfl, hs⟩ := qm_i2_some hs
    obtain ⟨rfl, rfl, rfl, rfl⟩ := qm_nx_inj hs
    refine lv_iushr hx hb hd rfl ?_
    have h1 := kk _ _ _ hξ hP hS hL
    simp only [List.map_cons, qm_cv, Int32.ofInt_toInt] at h1
    exact h1
  | ladd =>
    obtain rfl : len = 1 := hlen.resolve_left (show ¬ (1 : Nat) = 0 by decide)
    obtain ⟨x, y, r, rfl, hs⟩ := qm_l2_some hs
    obtain ⟨rfl, rfl, rfl, rfl⟩ := qm_nx_inj hs
    exact lv_ladd hx hb hd (by rw [← Int64.ofInt_add]; exact kk _ _ _ hξ hP hS hL)
  | lsub =>
    obtain rfl : len = 1 := hlen.resolve_left (show ¬ (1 : Nat) = 0 by decide)
    obtain ⟨x, y, r, rfl, hs⟩ := qm_l2_some hs
    obtain ⟨rfl, rfl, rfl, rfl⟩ := qm_nx_inj hs
    exact lv_lsub hx hb hd (by rw [← Int64.ofInt_sub]; exact kk _ _ _ hξ hP hS hL)
  | lmul =>
    obtain rfl : len = 1 := hlen.resolve_left (show ¬ (1 : Nat) = 0 by decide)
    obtain ⟨x, y, r, rfl, hs⟩ := qm_l2_some hs
    obtain ⟨rfl, rfl, rfl, rfl⟩ := qm_nx_inj hs
    exact lv_lmul hx hb hd (by rw [← Int64.ofInt_mul]; exact kk _ _ _ hξ hP hS hL)
  | ldiv =>
    obtain rfl : len = 1 := hlen.resolve_left (show ¬ (1 : Nat) = 0 by decide)
    obtain ⟨x, y, r, rfl, hs⟩ := qm_l2_some hs
    obtain ⟨⟨hr, hy⟩, hs⟩ := qm_if_some hs
    obtain ⟨rfl, rfl, rfl, rfl⟩ := qm_nx_inj hs
    refine lv_ldiv hx hb hd (fun q => hy ((qm_eqL (y := 0) hr (by omega)).mp q)) ?_
    have h1 := kk _ _ _ hξ hP hS hL
    simp only [List.map_cons, qm_cv, Int64.ofInt_toInt] at h1
    exact h1
  | lrem =>
    obtain rfl : len = 1 := hlen.resolve_left (show ¬ (1 : Nat) = 0 by decide)
    obtain ⟨x, y, r, rfl, hs⟩ := qm_l2_some hs
    obtain ⟨⟨hr, hy⟩, hs⟩ := qm_if_some hs
    obtain ⟨rfl, rfl, rfl, rfl⟩ := qm_nx_inj hs
    refine lv_lrem hx hb hd (fun q => hy ((qm_eqL (y := 0) hr (by omega)).mp q)) ?_
    have h1 := kk _ _ _ hξ hP hS hL
    simp only [List.map_cons, qm_cv, Int64.ofInt_toInt] at h1
    exact h1
  | land =>
    obtain rfl : len = 1 := hlen.resolve_left (show ¬ (1 : Nat) = 0 by decide)
    obtain ⟨x, y, r, rfl, hs⟩ := qm_l2_some hs
    obtain ⟨rfl, rfl, rfl, rfl⟩ := qm_nx_inj hs
    refine lv_land hx hb hd ?_
    have h1 := kk _ _ _ hξ hP hS hL
    simp only [List.map_cons, qm_cv, Int64.ofInt_toInt] at h1
    exact h1
  | lor =>
    obtain rfl : len = 1 := hlen.resolve_left (show ¬ (1 : Nat) = 0 by decide)
    obtain ⟨x, y, r, rfl, hs⟩ := qm_l2_some hs
    obtain ⟨rfl, rfl, rfl, rfl⟩ := qm_nx_inj hs
    refine lv_lor hx hb hd ?_
    have h1 := kk _ _ _ hξ hP hS hL
    simp only [List.map_cons, qm_cv, Int64.ofInt_toInt] at h1
    exact h1
  | lxor =>
    obtain rfl : len = 1 := hlen.resolve_left (show ¬ (1 : Nat) = 0 by decide)
    obtain ⟨x, y, r, rfl, hs⟩ := qm_l2_some hs
    obtain ⟨rfl, rfl, rfl, rfl⟩ := qm_nx_inj hs
    refine lv_lxor hx hb hd ?_
    have h1 := kk _ _ _ hξ hP hS hL
    simp only [List.map_cons, qm_cv, Int64.ofInt_toInt] at h1
    exact h1
  | lshl =>
    obtain rfl : len = 1 := hlen.resolve_left (show ¬ (1 : Nat) = 0 by decide)
    obtain ⟨x, y, r, rfl, hs⟩ := qm_li_some hs
    obtain ⟨rfl, rfl, rfl, rfl⟩ := qm_nx_inj hs
    refine lv_lshl hx hb hd rfl ?_
    have h1 := kk _ _ _ hξ hP hS hL
    simp only [List.map_cons, qm_cv, Int64.ofInt_toInt] at h1
    exact h1
  | lshr =>
    obtain rfl : len = 1 := hlen.resolve_left (show ¬ (1 : Nat) = 0 by decide)
    obtain ⟨x, y, r, rfl, hs⟩ := qm_li_some hs
    obtain ⟨rfl, rfl, rfl, rfl⟩ := qm_nx_inj hs
    refine lv_lshr hx hb hd rfl ?_
    have h1 := kk _ _ _ hξ hP hS hL
    simp only [List.map_cons, qm_cv, Int64.ofInt_toInt] at h1
    exact h1
  | i2l =>
    obtain rfl : len = 1 := hlen.resolve_left (show ¬ (1 : Nat) = 0 by decide)
    obtain ⟨x, r, rfl, hs⟩ := qm_i1_some hs
    obtain ⟨hr, hs⟩ := qm_if_some hs
    obtain ⟨rfl, rfl, rfl, rfl⟩ := qm_nx_inj hs
    exact lv_i2l hx hb hd (qm_i64 hr) (kk _ _ _ hξ hP hS hL)
  | l2i =>
    obtain rfl : len = 1 := hlen.resolve_left (show ¬ (1 : Nat) = 0 by decide)
    obtain ⟨x, r, rfl, hs⟩ := qm_l1_some hs
    obtain ⟨rfl, rfl, rfl, rfl⟩ := qm_nx_inj hs
    exact lv_l2i hx hb hd (qm_l32 x) (kk _ _ _ hξ hP hS hL)
  | lcmp =>
    obtain rfl : len = 1 := hlen.resolve_left (show ¬ (1 : Nat) = 0 by decide)
    obtain ⟨x, y, r, rfl, hs⟩ := qm_l2_some hs
    obtain ⟨⟨h1, h2⟩, hs⟩ := qm_if_some hs
    obtain ⟨rfl, rfl, rfl, rfl⟩ := qm_nx_inj hs
    refine W.lcmp hx hb hd ?_
    have he : lg_cmp (Int64.ofInt x) (Int64.ofInt y) = Int32.ofInt (if y < x then 1 else if x = y then 0 else -1) := by
      unfold lg_cmp
      simp only [gt_iff_lt, qm_ltL h2 h1, qm_eqL h1 h2]
      split
      · rfl
      · split <;> rfl
    rw [he]
    exact kk _ _ _ hξ hP hS hL
  | dup =>
    obtain rfl : len = 1 := hlen.resolve_left (show ¬ (1 : Nat) = 0 by decide)
    simp only [qm_step] at hs
    split at hs
    · obtain ⟨rfl, rfl, rfl, rfl⟩ := qm_nx_inj hs
      exact lv_dup hx hb hd rfl (kk _ _ _ hξ hP hS hL)
    · obtain ⟨rfl, rfl, rfl, rfl⟩ := qm_nx_inj hs
      exact lv_dup hx hb hd rfl (kk _ _ _ hξ hP hS hL)
    · cases hs
  | dup_x1 =>
    obtain rfl : len = 1 := hlen.resolve_left (show ¬ (1 : Nat) = 0 by decide)
    simp only [qm_step] at hs
    split at hs
    · obtain ⟨rfl, rfl, rfl, rfl⟩ := qm_nx_inj hs
      exact lv_dup_x1 hx hb hd rfl rfl (kk _ _ _ hξ hP hS hL)
    · cases hs
  | dup2 =>
    obtain rfl : len = 1 := hlen.resolve_left (show ¬ (1 : Nat) = 0 by decide)
    simp only [qm_step] at hs
    split at hs
    · obtain ⟨rfl, rfl, rfl, rfl⟩ := qm_nx_inj hs
      exact lv_dup2_11 hx hb hd rfl rfl (kk _ _ _ hξ hP hS hL)
    · obtain ⟨rfl, rfl, rfl, rfl⟩ := qm_nx_inj hs
      exact lv_dup2_2 hx hb hd rfl (kk _ _ _ hξ hP hS hL)
    · cases hs
  | pop =>
    obtain rfl : len = 1 := hlen.resolve_left (show ¬ (1 : Nat) = 0 by decide)
    obtain ⟨x, r, rfl, hs⟩ := qm_i1_some hs
    obtain ⟨rfl, rfl, rfl, rfl⟩ := qm_nx_inj hs
    exact lv_pop hx hb hd rfl (kk _ _ _ hξ hP hS hL)
  | goto off =>
    obtain rfl : len = 3 := hlen.resolve_left (show ¬ (3 : Nat) = 0 by decide)
    obtain ⟨tgt, ht, e⟩ := qm_jmp_some hs
    cases e
    exact lv_goto hx hb hd ht (kk _ _ _ hξ hP hS hL)
  | ifCond cd off =>
    obtain rfl : len = 3 := hlen.resolve_left (show ¬ (3 : Nat) = 0 by decide)
    obtain ⟨x, r, rfl, hs⟩ := qm_i1_some hs
    obtain ⟨⟨h1, h0⟩, hs⟩ := qm_if_some hs
    have h2 : qm_r32 0 := by omega
    obtain ⟨rfl, rfl, rfl, rfl⟩ := qm_nx_inj hs
    have ht : (pc : Int) + off = ((((pc : Int) + off).toNat : Nat) : Int) := (Int.toNat_of_nonneg h0).symm
    cases cd with
    | eq =>
      have hi : (Int32.ofInt x = 0) ↔ (x = 0) := (qm_eq h1 h2)
      refine lv_if_eq hx hb hd ht (fun q => ?_) (fun q => ?_)
      · have h3 := kk _ _ _ hξ hP hS hL
        rw [qm_cmp_t (show qm_cmp .eq x 0 = true from decide_eq_true (hi.mp q))] at h3
        exact h3
      · have h3 := kk _ _ _ hξ hP hS hL
        rw [qm_cmp_f (show qm_cmp .eq x 0 = false from decide_eq_false (fun z => q (hi.mpr z)))] at h3
        exact h3
    | ne =>
      have hi : (¬ Int32.ofInt x = 0) ↔ (¬ x = 0) := not_congr (qm_eq h1 h2)
      refine lv_if_ne hx hb hd ht (fun q => ?_) (fun q => ?_)
      · have h3 := kk _ _ _ hξ hP hS hL
        rw [qm_cmp_t (show qm_cmp .ne x 0 = true from decide_eq_true (hi.mp q))] at h3
        exact h3
      · have h3 := kk _ _ _ hξ hP hS hL
        rw [qm_cmp_f (show qm_cmp .ne x 0 = false from decide_eq_false (fun z => (hi.mpr z) q))] at h3
        exact h3
    | lt =>
      have hi : (Int32.ofInt x < 0) ↔ (x < 0) := (qm_lt h1 h2)
      refine lv_if_lt hx hb hd ht (fun q => ?_) (fun q => ?_)
      · have h3 := kk _ _ _ hξ hP hS hL
        rw [qm_cmp_t (show qm_cmp .lt x 0 = true from decide_eq_true (hi.mp q))] at h3
        exact h3
      · have h3 := kk _ _ _ hξ hP hS hL
        rw [qm_cmp_f (show qm_cmp .lt x 0 = false from decide_eq_false (fun z => q (hi.mpr z)))] at h3
        exact h3
    | ge =>
      have hi : (0 ≤ Int32.ofInt x) ↔ (0 ≤ x) := (qm_le h2 h1)
      refine lv_if_ge hx hb hd ht (fun q => ?_) (fun q => ?_)
      · have h3 := kk _ _ _ hξ hP hS hL
        rw [qm_cmp_t (show qm_cmp .ge x 0 = true from decide_eq_true (hi.mp q))] at h3
        exact h3
      · have h3 := kk _ _ _ hξ hP hS hL
        rw [qm_cmp_f (show qm_cmp .ge x 0 = false from decide_eq_false (fun z => q (hi.mpr z)))] at h3
        exact h3
    | gt =>
      have hi : (0 < Int32.ofInt x) ↔ (0 < x) := (qm_lt h2 h1)
      refine lv_if_gt hx hb hd ht (fun q => ?_) (fun q => ?_)
      · have h3 := kk _ _ _ hξ hP hS hL
        rw [qm_cmp_t (show qm_cmp .gt x 0 = true from decide_eq_true (hi.mp q))] at h3
        exact h3
      · have h3 := kk _ _ _ hξ hP hS hL
        rw [qm_cmp_f (show qm_cmp .gt x 0 = false from decide_eq_false (fun z => q (hi.mpr z)))] at h3
        exact h3
    | le =>
      have hi : (Int32.ofInt x ≤ 0) ↔ (x ≤ 0) := (qm_le h1 h2)
      refine lv_if_le hx hb hd ht (fun q => ?_) (fun q => ?_)
      · have h3 := kk _ _ _ hξ hP hS hL
        rw [qm_cmp_t (show qm_cmp .le x 0 = true from decide_eq_true (hi.mp q))] at h3
        exact h3
      · have h3 := kk _ _ _ hξ hP hS hL
        rw [qm_cmp_f (show qm_cmp .le x 0 = false from decide_eq_false (fun z => q (hi.mpr z)))] at h3
        exact h3
  | if_icmp cd off =>
    obtain rfl : len = 3 := hlen.resolve_left (show ¬ (3 : Nat) = 0 by decide)
    obtain ⟨x, y, r, rfl, hs⟩ := qm_i2_some hs
    obtain ⟨⟨⟨h1, h2⟩, h0⟩, hs⟩ := qm_if_some hs
    obtain ⟨rfl, rfl, rfl, rfl⟩ := qm_nx_inj hs
    have ht : (pc : Int) + off = ((((pc : Int) + off).toNat : Nat) : Int) := (Int.toNat_of_nonneg h0).symm
    cases cd with
    | eq =>
      have hi : (Int32.ofInt x = Int32.ofInt y) ↔ (x = y) := (qm_eq h1 h2)
      refine lv_icmp_eq hx hb hd ht (fun q => ?_) (fun q => ?_)
      · have h3 := kk _ _ _ hξ hP hS hL
        rw [qm_cmp_t (show qm_cmp .eq x y = true from decide_eq_true (hi.mp q))] at h3
        exact h3
      · have h3 := kk _ _ _ hξ hP hS hL
        rw [qm_cmp_f (show qm_cmp .eq x y = false from decide_eq_false (fun z => q (hi.mpr z)))] at h3
        exact h3
    | ne =>
      have hi : (¬ Int32.ofInt x = Int32.ofInt y) ↔ (¬ x = y) := not_congr (qm_eq h1 h2)
      refine lv_icmp_ne hx hb hd ht (fun q => ?_) (fun q => ?_)
      · have h3 := kk _ _ _ hξ hP hS hL
        rw [qm_cmp_t (show qm_cmp .ne x y = true from decide_eq_true (hi.mp q))] at h3
        exact h3
      · have h3 := kk _ _ _ hξ hP hS hL
        rw [qm_cmp_f (show qm_cmp .ne x y = false from decide_eq_false (fun z => (hi.mpr z) q))] at h3
        exact h3
    | lt =>
      have hi : (Int32.ofInt x < Int32.ofInt y) ↔ (x < y) := (qm_lt h1 h2)
      refine lv_icmp_lt hx hb hd ht (fun q => ?_) (fun q => ?_)
      · have h3 := kk _ _ _ hξ hP hS hL
        rw [qm_cmp_t (show qm_cmp .lt x y = true from decide_eq_true (hi.mp q))] at h3
        exact h3
      · have h3 := kk _ _ _ hξ hP hS hL
        rw [qm_cmp_f (show qm_cmp .lt x y = false from decide_eq_false (fun z => q (hi.mpr z)))] at h3
        exact h3
    | ge =>
      have hi : (Int32.ofInt y ≤ Int32.ofInt x) ↔ (y ≤ x) := (qm_le h2 h1)
      refine lv_icmp_ge hx hb hd ht (fun q => ?_) (fun q => ?_)
      · have h3 := kk _ _ _ hξ hP hS hL
        rw [qm_cmp_t (show qm_cmp .ge x y = true from decide_eq_true (hi.mp q))] at h3
        exact h3
      · have h3 := kk _ _ _ hξ hP hS hL
        rw [qm_cmp_f (show qm_cmp .ge x y = false from decide_eq_false (fun z => q (hi.mpr z)))] at h3
        exact h3
    | gt =>
      have hi : (Int32.ofInt y < Int32.ofInt x) ↔ (y < x) := (qm_lt h2 h1)
      refine lv_icmp_gt hx hb hd ht (fun q => ?_) (fun q => ?_)
      · have h3 := kk _ _ _ hξ hP hS hL
        rw [qm_cmp_t (show qm_cmp .gt x y = true from decide_eq_true (hi.mp q))] at h3
        exact h3
      · have h3 := kk _ _ _ hξ hP hS hL
        rw [qm_cmp_f (show qm_cmp .gt x y = false from decide_eq_false (fun z => q (hi.mpr z)))] at h3
        exact h3
    | le =>
      have hi : (Int32.ofInt x ≤ Int32.ofInt y) ↔ (x ≤ y) := (qm_le h1 h2)
      refine lv_icmp_le hx hb hd ht (fun q => ?_) (fun q => ?_)
      · have h3 := kk _ _ _ hξ hP hS hL
        rw [qm_cmp_t (show qm_cmp .le x y = true from decide_eq_true (hi.mp q))] at h3
        exact h3
      · have h3 := kk _ _ _ hξ hP hS hL
        rw [qm_cmp_f (show qm_cmp .le x y = false from decide_eq_false (fun z => q (hi.mpr z)))] at h3
        exact h3
  | tableswitch dflt lo hi offs =>
    obtain ⟨x, r, rfl, hs⟩ := qm_i1_some hs
    obtain ⟨hr, hs⟩ := qm_if_some hs
    unfold qm_tsw at hs
    by_cases ho : x < lo ∨ hi < x
    · rw [if_pos ho] at hs
      obtain ⟨tgt, ht, e⟩ := qm_jmp_some hs
      cases e
      exact lv_tableOut hx hb hd (by rw [qm_ti hr]; exact ho) ht (kk _ _ _ hξ hP hS hL)
    · rw [if_neg ho] at hs
      cases hof : offs[(x - lo).toNat]? with
      | none => rw [hof] at hs; cases hs
      | some off =>
        rw [hof] at hs
        obtain ⟨tgt, ht, e⟩ := qm_jmp_some hs
        cases e
        exact lv_tableIn hx hb hd (by rw [qm_ti hr]; exact fun q => ho (Or.inl q)) (by rw [qm_ti hr]; exact fun q => ho (Or.inr q)) (by rw [qm_ti hr]; exact hof) ht (kk _ _ _ hξ hP hS hL)
  | lookupswitch dflt ps =>
    obtain ⟨x, r, rfl, hs⟩ := qm_i1_some hs
    obtain ⟨⟨hr, hp⟩, hs⟩ := qm_if_some hs
    obtain ⟨tgt, ht, e⟩ := qm_jmp_some hs
    cases e
    exact lv_lookup hx hb hd hp (by rw [qm_ti hr]) ht (kk _ _ _ hξ hP hS hL)
  | getfield n =>
    obtain rfl : len = 3 := hlen.resolve_left (show ¬ (3 : Nat) = 0 by decide)
    obtain ⟨q, r, rfl, hs⟩ := qm_p1_some hs
    obtain ⟨ci, fl, j, ek, h1, h2, h3, hs⟩ := qm_obj_some hs
    obtain ⟨rfl, rfl, rfl, rfl⟩ := qm_nx_inj hs
    obtain ⟨C, F, nF, ty, g1, g2, g3, g4, g5, g6, g7, g8⟩ := vFld k n ci j h2
    exact va_get (ref := (F j).1) hx hb hts g4 hown hK hP q (by rw [qm_ws_at (shO h1), qm_E_obj h1]) g1 j g2 (hts _ g3) (fun _ h => h) (qm_fs_at h3) hd (kk _ _ _ hξ hP hS hL)
  | putfield n =>
    obtain rfl : len = 3 := hlen.resolve_left (show ¬ (3 : Nat) = 0 by decide)
    obtain ⟨q, v, r, rfl, hs⟩ := qm_po_some hs
    obtain ⟨ci, fl, j, ek, h1, h2, h3, hs⟩ := qm_obj_some hs
    obtain ⟨hw, hs⟩ := qm_if_some hs
    obtain ⟨C, F, nF, ty, g1, g2, g3, g4, g5, g6, g7, g8⟩ := vFld k n ci j h2
    have hfl : j < (qm_fs ad μ q fl).length := by simpa [qm_fs] using (List.getElem?_eq_some_iff.mp h3).1
    have he := fun (z : Int) (w : Value) (hv : qm_cv ad (qm_fv (qm_set μ q j z) q j ek) = w) => qm_ws_set (ac := ac) (shO h1) (μ := μ) (j := j) (z := z) (e := .inr (ci, (qm_fs ad μ q fl).set j w)) (by rw [qm_E_obj h1, qm_fs_set h3 hv])
    cases hpv : qm_putv μ q j ek v with
    | none => rw [hpv] at hs; cases hs
    | some ν =>
      rw [hpv] at hs
      obtain ⟨rfl, rfl, rfl, rfl⟩ := qm_nx_inj hs
      rcases qm_putv_some hpv with ⟨z, rfl, rfl, rfl⟩ | ⟨z, rfl, rfl, rfl⟩ | ⟨z, rfl, rfl, hz, rfl⟩
      · have hty := (g8 q fl h1).1 h3
        refine va_put (ref := (F j).1) hx hb hts g4 ty g5 g6 hown hK hP (hD μ) hS q (by rw [qm_ws_at (shO h1), qm_E_obj h1]) g1 j g2 (hts _ g3) (fun _ h => h) (g7 hw) (g5 j g2) (by rw [hty]; rfl) (by rw [hty]; rfl) hfl hd (fun H1 locs1 hP1 hD1 hS1 => kk _ _ _ (n999 (shO h1)) ?_ hS1 hL)
        rw [← he z _ (by simp [qm_fv, qm_set_eq]; rfl)]
        exact hP1
      · have hty := (g8 q fl h1).2.1 h3
        refine va_put (ref := (F j).1) hx hb hts g4 ty g5 g6 hown hK hP (hD μ) hS q (by rw [qm_ws_at (shO h1), qm_E_obj h1]) g1 j g2 (hts _ g3) (fun _ h => h) (g7 hw) (g5 j g2) (by rw [hty]; rfl) (by rw [hty]; rfl) hfl hd (fun H1 locs1 hP1 hD1 hS1 => kk _ _ _ (n999 (shO h1)) ?_ hS1 hL)
        rw [← he z _ (by simp [qm_fv, qm_set_eq]; rfl)]
        exact hP1
      · have hty := (g8 q fl h1).2.2 h3
        refine va_put (ref := (F j).1) hx hb hts g4 ty g5 g6 hown hK hP (hD μ) hS q (by rw [qm_ws_at (shO h1), qm_E_obj h1]) g1 j g2 (hts _ g3) (fun _ h => h) (g7 hw) (g5 j g2) (by rw [hty]; exact (qm_nar01 hz).1) (by rw [hty]; exact (qm_nar01 hz).2.1) hfl hd (fun H1 locs1 hP1 hD1 hS1 => kk _ _ _ (n999 (shO h1)) ?_ hS1 hL)
        rw [← he z _ (by simp [qm_fv, qm_set_eq]; rfl)]
        exact hP1
  | arraylength =>
    obtain rfl : len = 1 := hlen.resolve_left (show ¬ (1 : Nat) = 0 by decide)
    obtain ⟨q, r, rfl, hs⟩ := qm_p1_some hs
    obtain ⟨t, n, h1, hs⟩ := qm_arr_some hs
    obtain ⟨rfl, rfl, rfl, rfl⟩ := qm_nx_inj hs
    rcases vSh.1 q _ h1 with ⟨a1, a2⟩ | ⟨rfl, L, a1⟩
    · have ht := a2 t n rfl
      obtain ⟨t0, ty, hty⟩ : ∃ (t0 : Nat) (ty : FieldType), (qm_tys ac)[t0]? = some (ac t, ty) := by
        match t, ht with
        | 0, _ => exact ⟨0, _, rfl⟩
        | 1, _ => exact ⟨1, _, rfl⟩
        | 2, _ => exact ⟨2, _, rfl⟩
        | 3, _ => exact ⟨3, _, rfl⟩
      exact va_alen hx hb hK hP q t0 (x := (n, qm_ar μ q t)) (by rw [qm_ws_at a1, qm_E_arr h1]) hty Int32.ofInt_eq_ofNat.symm hd (kk _ _ _ hξ hP hS hL)
    · cases a1
      obtain ⟨b1, b2, b3⟩ := hEx.1 n h1
      refine va_slen hx hb b3 b2 b1 hS hd ?_
      rw [← Int32.ofInt_eq_ofNat]
      exact kk _ _ _ hξ hP hS hL
  | iaload =>
    obtain rfl : len = 1 := hlen.resolve_left (show ¬ (1 : Nat) = 0 by decide)
    obtain ⟨q, i, r, rfl, hs⟩ := qm_pi_some hs
    obtain ⟨t, n, h1, hs⟩ := qm_arr_some hs
    obtain ⟨⟨ht, h2, h3⟩, hs⟩ := qm_if_some hs
    obtain ⟨rfl, rfl, rfl, rfl⟩ := qm_nx_inj hs
    obtain ⟨hin, hcl⟩ := qm_idx h2 h3 (vSh.2.2 q t n h1)
    rcases ht with rfl | rfl
    · refine va_iald hx hb hK hP q 0 (arr32 h1 (by decide) (by decide)) rfl hin hd ?_
      rw [hcl]
      exact kk _ _ _ hξ hP hS hL
    · rcases vSh.1 q _ h1 with ⟨a1, a2⟩ | ⟨rfl, L, a1⟩
      · exact absurd (a2 9 n rfl) (by decide)
      · obtain ⟨b1, b2, b3⟩ := hEx.1 n h1
        refine va_sld hx hb b3 b2 b1 hS hin hd ?_
        rw [hcl]
        have := kk _ _ _ hξ hP hS hL
        rw [hξ] at this
        exact this
  | laload =>
    obtain rfl : len = 1 := hlen.resolve_left (show ¬ (1 : Nat) = 0 by decide)
    obtain ⟨q, i, r, rfl, hs⟩ := qm_pi_some hs
    obtain ⟨t, n, h1, hs⟩ := qm_arr_some hs
    obtain ⟨⟨ht, h2, h3⟩, hs2⟩ := qm_if_some hs
    obtain ⟨rfl, rfl, rfl, rfl⟩ := qm_nx_inj hs2
    subst ht
    obtain ⟨hin, hcl⟩ := qm_idx h2 h3 (vSh.2.2 q _ n h1)
    refine va_lald hx hb hK hP q 1 (arr64 h1) rfl hin hd ?_
    rw [hcl]
    exact kk _ _ _ hξ hP hS hL
  | baload =>
    obtain rfl : len = 1 := hlen.resolve_left (show ¬ (1 : Nat) = 0 by decide)
    obtain ⟨q, i, r, rfl, hs⟩ := qm_pi_some hs
    obtain ⟨t, n, h1, hs⟩ := qm_arr_some hs
    obtain ⟨⟨ht, h2, h3⟩, hs2⟩ := qm_if_some hs
    obtain ⟨rfl, rfl, rfl, rfl⟩ := qm_nx_inj hs2
    subst ht
    obtain ⟨hin, hcl⟩ := qm_idx h2 h3 (vSh.2.2 q _ n h1)
    refine va_zald hx hb hK hP q 2 (arr32 h1 (by decide) (by decide)) rfl hin hd ?_
    rw [hcl]
    exact kk _ _ _ hξ hP hS hL
  | caload =>
    obtain rfl : len = 1 := hlen.resolve_left (show ¬ (1 : Nat) = 0 by decide)
    obtain ⟨q, i, r, rfl, hs⟩ := qm_pi_some hs
    obtain ⟨t, n, h1, hs⟩ := qm_arr_some hs
    obtain ⟨⟨ht, h2, h3⟩, hs2⟩ := qm_if_some hs
    obtain ⟨rfl, rfl, rfl, rfl⟩ := qm_nx_inj hs2
    subst ht
    obtain ⟨hin, hcl⟩ := qm_idx h2 h3 (vSh.2.2 q _ n h1)
    refine va_cald hx hb hK hP q 3 (arr32 h1 (by decide) (by decide)) rfl hin hd ?_
    rw [hcl]
    exact kk _ _ _ hξ hP hS hL
  | iastore =>
    obtain rfl : len = 1 := hlen.resolve_left (show ¬ (1 : Nat) = 0 by decide)
    obtain ⟨q, i, v, r, rfl, hs⟩ := qm_pv_some hs
    obtain ⟨t, n, h1, hs⟩ := qm_arr_some hs
    split at hs
    next z =>
      obtain ⟨rfl, hs⟩ := qm_if_some hs
      obtain ⟨⟨h2, h3⟩, hs⟩ := qm_astv_some hs
      obtain ⟨rfl, rfl, rfl, rfl⟩ := qm_nx_inj hs
      obtain ⟨hin, hcl⟩ := qm_idx h2 h3 (vSh.2.2 q _ n h1)
      refine va_iast hx hb hK hP (hD μ) hS q 0 (arr32 h1 (by decide) (by decide)) rfl hin hd (fun H1 locs1 hP1 hD1 hS1 => kk _ _ _ (n999 (shA h1 (by decide))) ?_ hS1 hL)
      rw [hcl, ← qm_upd32, qm_ws_set (shA h1 (by decide)) (by rw [qm_E_arr h1, qm_ar, if_neg (by decide)])] at hP1
      exact hP1
    next => cases hs
  | lastore =>
    obtain rfl : len = 1 := hlen.resolve_left (show ¬ (1 : Nat) = 0 by decide)
    obtain ⟨q, i, v, r, rfl, hs⟩ := qm_pv_some hs
    obtain ⟨t, n, h1, hs⟩ := qm_arr_some hs
    split at hs
    next z =>
      obtain ⟨rfl, hs⟩ := qm_if_some hs
      obtain ⟨⟨h2, h3⟩, hs⟩ := qm_astv_some hs
      obtain ⟨rfl, rfl, rfl, rfl⟩ := qm_nx_inj hs
      obtain ⟨hin, hcl⟩ := qm_idx h2 h3 (vSh.2.2 q _ n h1)
      refine va_last hx hb hK hP (hD μ) hS q 1 (arr64 h1) rfl hin hd (fun H1 locs1 hP1 hD1 hS1 => kk _ _ _ (n999 (shA h1 (by decide))) ?_ hS1 hL)
      rw [hcl, ← qm_upd64, qm_ws_set (shA h1 (by decide)) (by rw [qm_E_arr h1, qm_ar, if_pos rfl])] at hP1
      exact hP1
    next => cases hs
  | bastore =>
    obtain rfl : len = 1 := hlen.resolve_left (show ¬ (1 : Nat) = 0 by decide)
    obtain ⟨q, i, v, r, rfl, hs⟩ := qm_pv_some hs
    obtain ⟨t, n, h1, hs⟩ := qm_arr_some hs
    split at hs
    next z =>
      obtain ⟨⟨ht, hz⟩, hs2⟩ := qm_if_some hs
      obtain ⟨⟨h2, h3⟩, hs3⟩ := qm_astv_some hs2
      obtain ⟨rfl, rfl, rfl, rfl⟩ := qm_nx_inj hs3
      subst ht
      obtain ⟨hin, hcl⟩ := qm_idx h2 h3 (vSh.2.2 q _ n h1)
      refine va_zast hx hb hK hP (hD μ) hS q 2 (arr32 h1 (by decide) (by decide)) rfl hin hd (fun H1 locs1 hP1 hD1 hS1 => kk _ _ _ (n999 (shA h1 (by decide))) ?_ hS1 hL)
      rw [hcl, (qm_nar01 hz).2.2, ← qm_upd32, qm_ws_set (shA h1 (by decide)) (by rw [qm_E_arr h1, qm_ar, if_neg (by decide)])] at hP1
      exact hP1
    next => cases hs
  | ireturn =>
    simp only [qm_step] at hs
    split at hs
    · split at hs <;> cases hs
    · cases hs
  | lreturn =>
    simp only [qm_step] at hs
    split at hs
    · split at hs <;> cases hs
    · cases hs
  | return_ =>
    simp only [qm_step] at hs
    split at hs
    · split at hs <;> cases hs
    · cases hs
  | invokevirtual n => exact absurd hs (qm_call_inl)
  | invokestatic n => exact absurd hs (qm_call_inl)
  | _ => cases hs
end QPL
end
section
/-! ===== a run of the small machine is a run of the machine ===== -/
def qm_rv (ad : Nat → Nat) (v : qm_V) : Option Value := match v with
  | none => none
  | some x => some (qm_cv ad (some x))
def qm_PcB (T : qm_T) (ow : Nat → String) (cl : List vw_C) (N : Nat) (ad : Nat → Nat) (ac : Nat → ClassId) (D : va_G) (ξ : Nat → Int) (μ : qm_M) (U : State) : Prop :=
  va_P D cl (qm_ws ad ac (qm_sh T) N μ) U.heap ∧ va_K D cl (qm_tys ac) U ∧ qm_Ex T ow ad ξ (qm_Ac ad N) U U.heap
def qm_Qc (T : qm_T) (cl : List vw_C) (N : Nat) (ad : Nat → Nat) (ac : Nat → ClassId) (D : va_G) (ξ : Nat → Int) (v : qm_V) (μ : qm_M) : Array Value → State → Outcome → State → Prop := fun _ st oc t =>
  oc = .returned (qm_rv ad v) ∧ (va_P D cl (qm_ws ad ac (qm_sh T) N μ) t.heap ∧ μ 999 = ξ) ∧ va_F (qm_Ac ad N) st t
theorem qm_blind {T : qm_T} {ow : Nat → String} {cl : List vw_C} {N : Nat} {ad : Nat → Nat} {ac : Nat → ClassId} {D : va_G} {ξ : Nat → Int} {μ : qm_M} {As : List Value} : FrameBlind (va_Pc As (qm_PcB T ow cl N ad ac D ξ μ)) := by
  intro a U g mk h
  obtain ⟨h1, h2, h3, h4⟩ := h
  exact ⟨h1, h2, va_K.moved (u := U) (U := U.calling g mk a) (Vm.Alike.refl U.vm) h3, qm_Ex.same (u := U) (U := U.calling g mk a) rfl h4⟩
/-- where a run ends: at an instruction that returns -/
def qm_isR (T : qm_T) (k pc : Nat) (st : List qm_V) (v : qm_V) : Prop :=
  (∃ z, qm_at T k pc = some .ireturn ∧ st = [some (.inl z)] ∧ v = some (.inl z) ∧ (qm_rt T k = 1 ∨ (qm_rt T k = 2 ∧ (z = 0 ∨ z = 1)))) ∨
  (∃ z, qm_at T k pc = some .lreturn ∧ st = [some (.inr (.inl z))] ∧ v = some (.inr (.inl z)) ∧ qm_rt T k = 3) ∨
  (qm_at T k pc = some .return_ ∧ st = [] ∧ v = none ∧ qm_rt T k = 0)
theorem qm_if2 {α : Type} {c : Prop} [Decidable c] {x : Option α} {o} (h : (if c then x else none) = some o) : c ∧ x = some o := by
  by_cases hc : c
  · rw [if_pos hc] at h; exact ⟨hc, h⟩
  · rw [if_neg hc] at h; cases h
theorem qm_nr {a : Nat} {b c : List qm_V} {d : qm_M} {v : qm_V} (h : qm_nx a b c d = some (.inr (.inl v))) : False := by cases h
/-- a step that returns -/
theorem qm_step_ret {T : qm_T} {k pc : Nat} {ls st : List qm_V} {μ : qm_M} {i : Instr} {v : qm_V} (hi : qm_at T k pc = some i) (hs : qm_step T k pc ls st μ i = some (.inr (.inl v))) : qm_isR T k pc st v := by
  cases i with
  | ireturn =>
    simp only [qm_step] at hs
    split at hs
    · obtain ⟨h1, h2⟩ := qm_if2 hs
      cases h2
      exact Or.inl ⟨_, hi, rfl, rfl, h1⟩
    · cases hs
  | lreturn =>
    simp only [qm_step] at hs
    split at hs
    · obtain ⟨h1, h2⟩ := qm_if2 hs
      cases h2
      exact Or.inr (Or.inl ⟨_, hi, rfl, rfl, h1⟩)
    · cases hs
  | return_ =>
    simp only [qm_step] at hs
    split at hs
    · obtain ⟨h1, h2⟩ := qm_if2 hs
      cases h2
      exact Or.inr (Or.inr ⟨hi, rfl, rfl, h1⟩)
    · cases hs
  | invokevirtual n =>
    exfalso
    have hs : qm_call _ _ _ _ = _ := hs
    unfold qm_call at hs
    repeat' split at hs
    all_goals first | cases hs | (split at hs <;> cases hs)
  | invokestatic n =>
    exfalso
    have hs : qm_call _ _ _ _ = _ := hs
    unfold qm_call at hs
    repeat' split at hs
    all_goals first | cases hs | (split at hs <;> cases hs)
  | _ =>
    exfalso
    simp only [qm_step, qm_i1, qm_i2, qm_l1, qm_l2, qm_li, qm_p1, qm_pi, qm_pv, qm_po, qm_ldI, qm_ldL, qm_ldP, qm_arr, qm_obj, qm_cst1, qm_jmp, qm_astv, qm_nx] at hs
    repeat' split at hs
    all_goals cases hs
/-- a step that calls -/
theorem qm_step_call {T : qm_T} {k pc : Nat} {ls st : List qm_V} {μ : qm_M} {i : Instr} {k' : Nat} {as rest : List qm_V} (hs : qm_step T k pc ls st μ i = some (.inr (.inr (k', as, rest)))) : ∃ (n : Nat) (nn : Nat) (o : Option Nat), qm_inv T k n = some (k', nn, o) ∧ st = as.reverse ++ rest ∧ as.length = nn ∧ qm_cat rest ≤ 8 ∧ ((i = .invokevirtual n ∧ ((o = none ∧ 100010 ≤ k') ∨ ∃ ci c fl as', o = some ci ∧ as = some (.inr (.inr c)) :: as' ∧ qm_sh T c = some (.inl (ci, fl)))) ∨ (i = .invokestatic n ∧ o = none ∧ k' < 100010)) := by
  cases i with
  | invokevirtual n =>
    have hs : qm_call _ _ _ _ = _ := hs
    unfold qm_call at hs
    split at hs
    next k1 n1 o1 hv =>
      obtain ⟨⟨h1, h2⟩, hs⟩ := qm_if2 hs
      have hst : st = (st.take n1).reverse.reverse ++ st.drop n1 := by rw [List.reverse_reverse, List.take_append_drop]
      have hln : (st.take n1).reverse.length = n1 := by rw [List.length_reverse, List.length_take]; omega
      cases o1 with
      | none =>
        obtain ⟨h3, hs2⟩ := qm_if2 (show (if 100010 ≤ k1 then (some (.inr (.inr (k1, (st.take n1).reverse, st.drop n1))) : qm_O) else none) = _ from hs)
        cases hs2
        exact ⟨n, n1, none, hv, hst, hln, h2, Or.inl ⟨rfl, Or.inl ⟨rfl, h3⟩⟩⟩
      | some ci =>
        cases hh : (st.take n1).reverse with
        | nil => rw [hh] at hs; cases hs
        | cons a as' =>
          rw [hh] at hs hst hln
          rcases a with _ | (x | x | c)
          · cases hs
          · cases hs
          · cases hs
          · have hs3 : (match qm_sh T c with
              | some (.inl (ci', _)) => if ci = ci' then (some (.inr (.inr (k1, some (.inr (.inr c)) :: as', st.drop n1))) : qm_O) else none
              | _ => none) = some (.inr (.inr (k', as, rest))) := hs
            split at hs3
            next ci' fl hsh =>
              obtain ⟨h3, hs2⟩ := qm_if2 hs3
              subst h3
              cases hs2
              exact ⟨n, n1, _, hv, hst, hln, h2, Or.inl ⟨rfl, Or.inr ⟨_, _, _, _, rfl, rfl, hsh⟩⟩⟩
            next => cases hs3
    next => cases hs
  | invokestatic n =>
    have hs : qm_call _ _ _ _ = _ := hs
    unfold qm_call at hs
    split at hs
    next k1 n1 o1 hv =>
      obtain ⟨⟨h1, h2⟩, hs⟩ := qm_if2 hs
      have hst : st = (st.take n1).reverse.reverse ++ st.drop n1 := by rw [List.reverse_reverse, List.take_append_drop]
      have hln : (st.take n1).reverse.length = n1 := by rw [List.length_reverse, List.length_take]; omega
      cases o1 with
      | none =>
        obtain ⟨h3, hs2⟩ := qm_if2 (show (if k1 < 100010 then (some (.inr (.inr (k1, (st.take n1).reverse, st.drop n1))) : qm_O) else none) = _ from hs)
        cases hs2
        exact ⟨n, n1, none, hv, hst, hln, h2, Or.inr ⟨rfl, rfl, h3⟩⟩
      | some ci => cases hs
    next => cases hs
  | _ =>
    exfalso
    simp only [qm_step, qm_i1, qm_i2, qm_l1, qm_l2, qm_li, qm_p1, qm_pi, qm_pv, qm_po, qm_ldI, qm_ldL, qm_ldP, qm_arr, qm_obj, qm_cst1, qm_jmp, qm_astv, qm_nx] at hs
    repeat' split at hs
    all_goals cases hs
section QRN
variable {p : Program} {l : Launch} {e : Env} {R : Room} {s : State} {m : MethodId} {args : Array Value} {below : List Frame} {meth : Method} {c : Code} {H : Heap} {locs : List Loc} {cells slots : Nat} {Q : State → Prop}
variable {T : qm_T} {bs : Nat → ByteArray} {ow : Nat → String} {nm : Nat → MethodName} {cl : List vw_C} {TB : List Jvm.Cond} {N : Nat} {ad : Nat → Nat} {ac : Nat → ClassId} {D : va_G} {ξ : Nat → Int} {A : Nat → Prop} {H0 : Heap}
theorem qm_callg {v : qm_V} {μ' : qm_M} {pc : Nat} {ls : Array Slot} {rest st0 : List Value} {a : Array Value} (hr : va_Run p l e R s m args below meth c H locs cells slots 0 0 (F0 m pc ls st0) rest (qm_Qc T cl N ad ac D ξ v μ' a) (qm_Ac ad N)) (hS : va_S A H0 H locs) (hA : ∀ q, qm_Ac ad N q → A q)
    (kk : ∀ (H1 : Heap) (locs1 : List Loc), μ' 999 = ξ → va_P D cl (qm_ws ad ac (qm_sh T) N μ') H1 → va_S A H0 H1 locs1 → W p l e R s m args below meth c H1 locs1 cells slots Q (F0 m (pc + 3) ls ((qm_rv ad v).toList ++ rest))) : W p l e R s m args below meth c H locs cells slots Q (F0 m pc ls st0) := by
  intro T0 hT X
  obtain ⟨v', st₀, t, T', L, h0, X', hL, e1, e2, ⟨hv, ⟨hp, h9⟩, hz, hk⟩, st⟩ := hr T0 hT X
  cases hv
  rw [h0] at hz hk
  obtain ⟨t2, a1, b1⟩ := kk T'.heap (locs ++ L) h9 (by rw [e1]; exact hp)
    ⟨Nat.le_trans hS.1 (by rw [e1]; exact hz), fun q h1 h2 => by rw [e1, hk q (Nat.lt_of_lt_of_le h1 hS.1) (fun z => h2 (hA q z))]; exact hS.2.1 q h1 h2, fun q hq => by
      rcases List.mem_append.mp hq with h | h
      · exact hS.2.2 q h
      · exact hA _ (hL q h)⟩ T' rfl X'
  exact ⟨t2, st t2 a1, b1⟩
end QRN
/-- the library's own, as rows -/
def qm_vIntr (T : qm_T) (bs : Nat → ByteArray) (ow : Nat → String) (cl : List vw_C) (TB : List Jvm.Cond) (N : Nat) (ad : Nat → Nat) (ac : Nat → ClassId) (D : va_G) (ξ : Nat → Int) : Prop :=
  ∀ (p : Program) (l : Launch) (e : Env) (R : Room) (s : State) (m : MethodId) (args : Array Value) (below : List Frame) (meth : Method) (c : Code) (H : Heap) (locs : List Loc) (cells slots : Nat) (Q : State → Prop) (A : Nat → Prop) (H0 : Heap) (k pc idx : Nat) (lsA : Array Slot) (k' nn : Nat) (as rest : List qm_V) (v : qm_V),
  qm_Fr T bs ow cl TB ad ac D ξ p s m args c k A H0 → 1 ≤ R.frames → 60 ≤ R.locals → cells ≤ R.cells → slots ≤ R.slots → lsA.size = qm_mxl T k → va_S A H0 H locs → qm_inv T k idx = some (k', nn, none) → 100000 ≤ k' → as.length = nn → qm_cat rest ≤ 8 →
  ((decode (bs k) pc = .ok (.invokevirtual idx, 3) ∧ 100010 ≤ k') ∨ (decode (bs k) pc = .ok (.invokestatic idx, 3) ∧ k' < 100010)) → qm_intr T k' as = some v →
  W p l e R s m args below meth c H locs cells slots Q (F0 m (pc + 3) lsA ((v :: rest).map (qm_cv ad))) → W p l e R s m args below meth c H locs cells slots Q (F0 m pc lsA ((as.reverse ++ rest).map (qm_cv ad)))
set_option maxHeartbeats 4000000 in
theorem qm_go {T : qm_T} {bs : Nat → ByteArray} {ow : Nat → String} {nm : Nat → MethodName} {cl : List vw_C} {TB : List Jvm.Cond} {N : Nat} {ad : Nat → Nat} {ac : Nat → ClassId} {D : va_G} {ξ : Nat → Int}
    (vAt : qm_vAt T bs) (vSh : qm_vSh T N) (vFld : qm_vFld T ow cl TB) (vInv : qm_vInv T bs ow nm cl TB) (vCst : qm_vCst T ow TB) (vIntr : qm_vIntr T bs ow cl TB N ad ac D ξ) (hgood : ∀ w ∈ TB, goodWord w = true) (hinj : ∀ i j, i < N → j < N → ad i = ad j → i = j) :
    ∀ (n d k pc : Nat) (ls st : List qm_V) (μ : qm_M) (v : qm_V) (μ' : qm_M), qm_run T n d k pc ls st μ = some (v, μ') →
    ∀ (p : Program) (l : Launch) (e : Env) (R : Room) (s : State) (m : MethodId) (args : Array Value) (below : List Frame) (meth : Method) (c : Code) (H : Heap) (locs : List Loc) (cells slots : Nat) (Q : State → Prop) (A : Nat → Prop) (H0 : Heap) (lsA : Array Slot),
    qm_Fr T bs ow cl TB ad ac D ξ p s m args c k A H0 → d ≤ R.frames → 60 * d ≤ R.locals → cells ≤ R.cells → slots ≤ R.slots → μ 999 = ξ → va_P D cl (qm_ws ad ac (qm_sh T) N μ) H → va_S A H0 H locs → (∀ q, qm_Ac ad N q → A q) → qm_LH ad lsA (qm_mxl T k) ls →
    (∀ (H' : Heap) (locs' : List Loc) (pcr : Nat) (lsr : Array Slot) (st' : List qm_V), μ' 999 = ξ → va_P D cl (qm_ws ad ac (qm_sh T) N μ') H' → va_S A H0 H' locs' → qm_isR T k pcr st' v → W p l e R s m args below meth c H' locs' cells slots Q (F0 m pcr lsr (st'.map (qm_cv ad)))) →
    W p l e R s m args below meth c H locs cells slots Q (F0 m pc lsA (st.map (qm_cv ad))) := by
  intro n
  induction n with
  | zero => intro d k pc ls st μ v μ' h; cases h
  | succ n ih =>
    intro d k pc ls st μ v μ' hrun p l e R s m args below meth c H locs cells slots Q A H0 lsA hF hfr hlo hce hsl hξ hP hS hAc hL hret
    rw [qm_run] at hrun
    cases hat : qm_at T k pc with
    | none => rw [hat] at hrun; cases hrun
    | some i =>
      rw [hat, Option.bind_some] at hrun
      cases hst : qm_step T k pc ls st μ i with
      | none => rw [hst] at hrun; cases hrun
      | some o =>
        rw [hst] at hrun
        obtain ⟨len, hd, hlen⟩ := vAt k pc i hat
        rcases o with ⟨pc', ls', st', μ1⟩ | v1 | ⟨k', as, rest⟩
        · exact qm_plain vSh vFld vCst hinj hAc hF hd hlen hst hξ hP hS hL (fun H1 locs1 lsB a1 a2 a3 a4 => ih d k pc' ls' st' μ1 v μ' hrun p l e R s m args below meth c H1 locs1 cells slots Q A H0 lsB hF hfr hlo hce hsl a1 a2 a3 hAc a4 hret)
        · have h1 : some (v1, μ) = some (v, μ') := hrun
          cases h1
          exact hret H locs pc lsA st hξ hP hS (qm_step_ret hat hst)
        · obtain ⟨idx, nn, o, hinv, rfl, hasl, hcat, hkind⟩ := qm_step_call hst
          have hrun2 : (if d = 0 then none else if 100000 ≤ k' then (match qm_intr T k' as with
            | none => none
            | some v => qm_run T n d k (pc + 3) ls (v :: rest) μ)
            else if (qm_ent as (qm_mxl T k')).length = qm_mxl T k' then (match qm_run T n (d - 1) k' 0 (qm_ent as (qm_mxl T k')) [] μ with
            | none => none
            | some (v, μ') => qm_run T n d k (pc + 3) ls (qm_push v rest) μ') else none) = some (v, μ') := hrun
          by_cases hd0 : d = 0
          · rw [if_pos hd0] at hrun2; cases hrun2
          · rw [if_neg hd0] at hrun2
            by_cases hbig : 100000 ≤ k'
            · rw [if_pos hbig] at hrun2
              cases hintr : qm_intr T k' as with
              | none => rw [hintr] at hrun2; cases hrun2
              | some w =>
                rw [hintr] at hrun2
                have go := ih d k (pc + 3) ls (w :: rest) μ v μ' hrun2 p l e R s m args below meth c H locs cells slots Q A H0 lsA hF hfr hlo hce hsl hξ hP hS hAc hL hret
                rcases hkind with ⟨rfl, ⟨rfl, hk⟩ | ⟨ci, cc, fl, as', rfl, rfl, hsh⟩⟩ | ⟨rfl, rfl, hk⟩
                · obtain rfl : len = 3 := hlen.resolve_left (show ¬ (3 : Nat) = 0 by decide)
                  exact vIntr p l e R s m args below meth c H locs cells slots Q A H0 k pc idx lsA k' nn as rest w hF (by omega) (by omega) hce hsl hL.2.1 hS hinv hbig hasl hcat (Or.inl ⟨hd, hk⟩) hintr go
                · sorry
                · obtain rfl : len = 3 := hlen.resolve_left (show ¬ (3 : Nat) = 0 by decide)
                  exact vIntr p l e R s m args below meth c H locs cells slots Q A H0 k pc idx lsA k' nn as rest w hF (by omega) (by omega) hce hsl hL.2.1 hS hinv hbig hasl hcat (Or.inr ⟨hd, hk⟩) hintr go
            · rw [if_neg hbig] at hrun2
              obtain ⟨hent, hrun3⟩ := qm_if2 hrun2
              cases hrun4 : qm_run T n (d - 1) k' 0 (qm_ent as (qm_mxl T k')) [] μ with
              | none => rw [hrun4] at hrun3; cases hrun3
              | some q =>
                obtain ⟨v1, μ1⟩ := q
                rw [hrun4] at hrun3
                have hrun5 : qm_run T n d k (pc + 3) ls (qm_push v1 rest) μ1 = some (v, μ') := hrun3
                obtain ⟨g1, g2, g3, g4, g5, g6, g7, g8, g9⟩ := vInv k idx k' nn o hinv (by omega)
                have hG : GoodIn TB (Jvm.Cond.code (nm k') (bs k') (qm_mxl T k') (qm_tyOf (qm_rt T k')) :: TB) := by
                  intro w hw
                  rcases List.mem_cons.mp hw with rfl | hw
                  · exact ⟨g2, good_of_word (hgood _ g2)⟩
                  · exact ⟨hw, good_of_word (hgood _ hw)⟩
                have hM : Met l (nm k') (Jvm.Cond.code (nm k') (bs k') (qm_mxl T k') (qm_tyOf (qm_rt T k')) :: TB) ({ frames := d - 1, cells := 0, slots := 0, locals := 60 * (d - 1) }) (va_Pc (as.map (qm_cv ad)) (qm_PcB T ow cl N ad ac D ξ μ)) (qm_Qc T cl N ad ac D ξ v1 μ1) 0 0 (qm_Ac ad N) := by
                  refine Met.ofW (cc := bs k') (maxL := qm_mxl T k') (ret := qm_tyOf (qm_rt T k')) g6 rfl ?_
                  intro p e s m args below meth c s₁ B hml hv
                  obtain ⟨rfl, hP2, hK2, hEx2⟩ := hv
                  have hts2 := atoms_spec (ws := Jvm.Cond.code (nm k') (bs k') (qm_mxl T k') (qm_tyOf (qm_rt T k')) :: TB) B.pre
                  rw [lg_entry_eq]
                  refine ih (d - 1) k' 0 _ [] μ v1 μ1 hrun4 p l e _ s m _ below meth c s.heap [] 0 0 _ (qm_Ac ad N) s.heap _ ⟨B.exec, B.bytes, hml, by rw [g7]; exact findClass_of_methodNamed B.named, fun w hw => hts2 w (List.mem_cons_of_mem _ hw), hK2, hEx2⟩ (Nat.le_refl _) (Nat.le_refl _) (Nat.zero_le _) (Nat.zero_le _) hξ hP2 va_S.rf (fun q h => h) (qm_ent_LH hent) ?_
                  intro H' locs' pcr lsr st' h9 hP' hS' hR
                  rcases hR with ⟨z, r1, rfl, rfl, r2⟩ | ⟨z, r1, rfl, rfl, r2⟩ | ⟨r1, rfl, rfl, r2⟩
                  · obtain ⟨len, hdr, hlr⟩ := vAt k' pcr _ r1
                    obtain rfl : len = 1 := hlr.resolve_left (show ¬ (1 : Nat) = 0 by decide)
                    rcases r2 with r2 | ⟨r2, r3⟩
                    · exact W.iret B.exec B.bytes (by rw [B.returns, r2]; rfl) (fun t ht hW => ⟨rfl, ⟨by rw [ht]; exact hP', h9⟩, hS'.F ht⟩) hS'.2.2 hdr B.notSynchronized
                    · exact W.zret (ty := .boolean) B.exec B.bytes (by rw [B.returns, r2]; rfl) (qm_nar01 r3).1 (fun t ht hW => ⟨rfl, ⟨by rw [ht]; exact hP', h9⟩, hS'.F ht⟩) hS'.2.2 hdr B.notSynchronized
                  · obtain ⟨len, hdr, hlr⟩ := vAt k' pcr _ r1
                    obtain rfl : len = 1 := hlr.resolve_left (show ¬ (1 : Nat) = 0 by decide)
                    exact W.lret B.exec B.bytes (by rw [B.returns, r2]; rfl) (fun t ht hW => ⟨rfl, ⟨by rw [ht]; exact hP', h9⟩, hS'.F ht⟩) hS'.2.2 hdr B.notSynchronized
                  · obtain ⟨len, hdr, hlr⟩ := vAt k' pcr _ r1
                    obtain rfl : len = 1 := hlr.resolve_left (show ¬ (1 : Nat) = 0 by decide)
                    exact W.vret B.exec B.bytes (by rw [B.returns, r2]; rfl) (fun t ht hW => ⟨rfl, ⟨by rw [ht]; exact hP', h9⟩, hS'.F ht⟩) hS'.2.2 hdr B.notSynchronized
                have hF2 := hF
                obtain ⟨hx, hb, hml, hown, hts, hK, hEx⟩ := hF2
                have hpre : ∀ U : State, U.heap = H → s.WarmedH U.vm → va_Pc (as.map (qm_cv ad)) (qm_PcB T ow cl N ad ac D ξ μ) (as.map (qm_cv ad)).toArray U := fun U hU hW => ⟨rfl, by rw [hU]; exact hP, va_K.moved hW.alike hK, by rw [hU]; exact qm_Ex.warm hW hS.1 hS.2.1 hAc hEx⟩
                have kont : ∀ (H1 : Heap) (locs1 : List Loc), μ1 999 = ξ → va_P D cl (qm_ws ad ac (qm_sh T) N μ1) H1 → va_S A H0 H1 locs1 → W p l e R s m args below meth c H1 locs1 cells slots Q (F0 m (pc + 3) lsA ((qm_rv ad v1).toList ++ rest.map (qm_cv ad))) := by
                  intro H1 locs1 a1 a2 a3
                  have go := ih d k (pc + 3) ls (qm_push v1 rest) μ1 v μ' hrun5 p l e R s m args below meth c H1 locs1 cells slots Q A H0 lsA hF hfr hlo hce hsl a1 a2 a3 hAc hL hret
                  have e1 : (qm_push v1 rest).map (qm_cv ad) = (qm_rv ad v1).toList ++ rest.map (qm_cv ad) := by cases v1 <;> rfl
                  rw [e1] at go
                  exact go
                have hroom : d - 1 + 1 ≤ R.frames ∧ 8 + (qm_mxl T k' + 11) + 60 * (d - 1) ≤ R.locals := ⟨by omega, by omega⟩
                have hcr : 2 * (F0 m pc lsA ((as.reverse ++ rest).map (qm_cv ad))).monitorRoom + ((rest.map (qm_cv ad)).map fun v => v.category).sum ≤ 8 := lv_room (by rw [qm_catSum]; exact hcat)
                rcases hkind with ⟨rfl, ⟨rfl, hk⟩ | ⟨ci, cc, fl, as', rfl, rfl, hsh⟩⟩ | ⟨rfl, rfl, hk⟩
                · exact absurd hk (by omega)
                · obtain rfl : len = 3 := hlen.resolve_left (show ¬ (3 : Nat) = 0 by decide)
                  obtain ⟨b1, b2, ⟨F, q, b3⟩, n', b4, b5⟩ := g9 ci rfl
                  have hcN : cc < N := by
                    rcases vSh.1 cc _ hsh with ⟨h1, -⟩ | ⟨-, L, h1⟩
                    · exact h1
                    · cases h1
                  refine qm_callg (va_runV (As := as'.map (qm_cv ad)) (rest := rest.map (qm_cv ad)) ⟨hx, hb, hml, hown, hts⟩ hM ⟨callB_of n' hts hG rfl rfl rfl (hts _ g3) (hts _ g1) ⟨g4.1, g4.2, b5⟩ hroom, hts _ b1, hts _ b2⟩ ⟨qm_blind, va_recv hK hP b3 (by rw [qm_ws_at hcN, qm_E_obj hsh]), hpre⟩ rfl ?_ hL.2.1 ?_ hcr hd ⟨hce, hsl⟩) hS hAc kont
                  · rw [List.length_map]
                    rw [List.length_cons] at hasl
                    omega
                  · simp [qm_cv]
                · obtain rfl : len = 3 := hlen.resolve_left (show ¬ (3 : Nat) = 0 by decide)
                  obtain ⟨b1, b2⟩ := g8 rfl
                  refine qm_callg (va_runS (As := as.map (qm_cv ad)) (rest := rest.map (qm_cv ad)) ⟨hx, hb, hml, hown, hts⟩ hM ⟨callB_of nn hts hG rfl rfl rfl (hts _ g3) (hts _ g1) ⟨g4.1, g4.2, b2⟩ hroom, hts _ b1⟩ ⟨qm_blind, hpre⟩ rfl ?_ hL.2.1 ?_ hcr hd ⟨hce, hsl⟩) hS hAc kont
                  · rw [List.length_map]
                    exact hasl
                  · simp
end
