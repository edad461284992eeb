/-! ===== a small machine over numbers: values, memory, shapes, one step, a run with fuel and depth ===== -/
abbrev qm_V : Type := Option (Int ⊕ Int ⊕ Nat)
abbrev qm_M : Type := Nat → Nat → Int
/-- a cell's shape: an object (its class's place, its fields: a cell, or a kind of number 0 int 1 long 2 boolean), or an array (kind 0 int 1 long 2 boolean 3 char 9 the script, its length) -/
abbrev qm_S : Type := (Nat × List (Nat ⊕ Nat)) ⊕ (Nat × Nat)
abbrev qm_O : Type := Option ((Nat × List qm_V × List qm_V × qm_M) ⊕ (qm_V ⊕ (Nat × List qm_V × List qm_V)))
abbrev qm_I (z : Int) : qm_V := some (.inl z)
abbrev qm_L (z : Int) : qm_V := some (.inr (.inl z))
abbrev qm_P (c : Nat) : qm_V := some (.inr (.inr c))
def qm_set (μ : qm_M) (c k : Nat) (z : Int) : qm_M := fun c' k' => if c' = c then (if k' = k then z else μ c' k') else μ c' k'
def qm_cv (ad : Nat → Nat) : qm_V → Value
  | some (.inl z) => .int (Int32.ofInt z)
  | some (.inr (.inl z)) => .long (Int64.ofInt z)
  | some (.inr (.inr c)) => .ref (ad c)
  | none => .null
abbrev qm_r32 (z : Int) : Prop := -2147483648 ≤ z ∧ z < 2147483648
abbrev qm_r64 (z : Int) : Prop := -9223372036854775808 ≤ z ∧ z < 9223372036854775808
/-- the tables: shapes; fields by method and pool place; which may be written; calls; constants; code; locals; kind of answer (0 none 1 int 2 boolean 3 long); texts -/
abbrev qm_T : Type := (Nat → Option qm_S) × (Nat → Nat → Option (Nat × Nat)) × (Nat → Nat → Bool) × (Nat → Nat → Option (Nat × Nat × Option Nat)) × (Nat → Nat → Option qm_V) × (Nat → Nat → Option Instr) × (Nat → Nat) × (Nat → Nat) × (Nat → Option (List Nat))
abbrev qm_sh (T : qm_T) : Nat → Option qm_S := T.1
abbrev qm_fld (T : qm_T) : Nat → Nat → Option (Nat × Nat) := T.2.1
abbrev qm_wr (T : qm_T) : Nat → Nat → Bool := T.2.2.1
abbrev qm_inv (T : qm_T) : Nat → Nat → Option (Nat × Nat × Option Nat) := T.2.2.2.1
abbrev qm_cst (T : qm_T) : Nat → Nat → Option qm_V := T.2.2.2.2.1
abbrev qm_at (T : qm_T) : Nat → Nat → Option Instr := T.2.2.2.2.2.1
abbrev qm_mxl (T : qm_T) : Nat → Nat := T.2.2.2.2.2.2.1
abbrev qm_rt (T : qm_T) : Nat → Nat := T.2.2.2.2.2.2.2.1
abbrev qm_txt (T : qm_T) : Nat → Option (List Nat) := T.2.2.2.2.2.2.2.2
abbrev qm_nx (pc : Nat) (ls st : List qm_V) (μ : qm_M) : qm_O := some (.inl (pc, ls, st, μ))
def qm_i1 (st : List qm_V) (f : Int → List qm_V → qm_O) : qm_O := match st with
  | some (.inl x) :: r => f x r
  | _ => none
def qm_i2 (st : List qm_V) (f : Int → Int → List qm_V → qm_O) : qm_O := match st with
  | some (.inl y) :: some (.inl x) :: r => f x y r
  | _ => none
def qm_l1 (st : List qm_V) (f : Int → List qm_V → qm_O) : qm_O := match st with
  | some (.inr (.inl x)) :: r => f x r
  | _ => none
def qm_l2 (st : List qm_V) (f : Int → Int → List qm_V → qm_O) : qm_O := match st with
  | some (.inr (.inl y)) :: some (.inr (.inl x)) :: r => f x y r
  | _ => none
/-- a long below, an int on top -/
def qm_li (st : List qm_V) (f : Int → Int → List qm_V → qm_O) : qm_O := match st with
  | some (.inl y) :: some (.inr (.inl x)) :: r => f x y r
  | _ => none
def qm_p1 (st : List qm_V) (f : Nat → List qm_V → qm_O) : qm_O := match st with
  | some (.inr (.inr c)) :: r => f c r
  | _ => none
/-- a cell below, an index on top -/
def qm_pi (st : List qm_V) (f : Nat → Int → List qm_V → qm_O) : qm_O := match st with
  | some (.inl i) :: some (.inr (.inr c)) :: r => f c i r
  | _ => none
/-- a cell, an index, a value on top -/
def qm_pv (st : List qm_V) (f : Nat → Int → qm_V → List qm_V → qm_O) : qm_O := match st with
  | v :: some (.inl i) :: some (.inr (.inr c)) :: r => f c i v r
  | _ => none
/-- a cell, a value on top -/
def qm_po (st : List qm_V) (f : Nat → qm_V → List qm_V → qm_O) : qm_O := match st with
  | v :: some (.inr (.inr c)) :: r => f c v r
  | _ => none
def qm_cmp : Jvm.ClassFile.Cond → Int → Int → Bool
  | .eq, x, y => decide (x = y)
  | .ne, x, y => decide (¬ x = y)
  | .lt, x, y => decide (x < y)
  | .ge, x, y => decide (y ≤ x)
  | .gt, x, y => decide (y < x)
  | .le, x, y => decide (x ≤ y)
def qm_isL : qm_V → Bool
  | some (.inr (.inl _)) => true
  | _ => false
/-- a long whose second half is written over is gone -/
def qm_pre (L : List qm_V) (i : Nat) : List qm_V := match i with
  | 0 => L
  | j + 1 => match L[j]? with
    | some (some (.inr (.inl _))) => L.set j none
    | _ => L
def qm_st1 (L : List qm_V) (i : Nat) (v : qm_V) : List qm_V := (qm_pre L i).set i v
def qm_st2 (L : List qm_V) (i : Nat) (v : qm_V) : List qm_V := ((qm_pre L i).set i v).set (i + 1) none
def qm_ent (As : List qm_V) (n : Nat) : List qm_V :=
  (As.flatMap fun v => if qm_isL v = true then [v, none] else [v]) ++ List.replicate (n - (As.flatMap fun v => if qm_isL v = true then [v, none] else [v]).length) none
def qm_cat (st : List qm_V) : Nat := (st.map fun v => if qm_isL v = true then 2 else 1).sum
def qm_fv (μ : qm_M) (c j : Nat) : Nat ⊕ Nat → qm_V
  | .inl c' => some (.inr (.inr c'))
  | .inr 1 => some (.inr (.inl (μ c j)))
  | .inr _ => some (.inl (μ c j))
def qm_ldI (L : List qm_V) (i : Nat) (f : Int → qm_O) : qm_O := match L[i]? with
  | some (some (.inl z)) => f z
  | _ => none
def qm_ldL (L : List qm_V) (i : Nat) (f : Int → qm_O) : qm_O := match L[i]? with
  | some (some (.inr (.inl z))) => f z
  | _ => none
def qm_ldP (L : List qm_V) (i : Nat) (f : Nat → qm_O) : qm_O := match L[i]? with
  | some (some (.inr (.inr c))) => f c
  | _ => none
def qm_arr (s : Option qm_S) (f : Nat → Nat → qm_O) : qm_O := match s with
  | some (.inr (t, n)) => f t n
  | _ => none
def qm_obj (s : Option qm_S) (l : Option (Nat × Nat)) (f : Nat → Nat → (Nat ⊕ Nat) → qm_O) : qm_O := match s, l with
  | some (.inl (ci, fl)), some (ci', j) => if ci = ci' then (match fl[j]? with
    | some e => f ci j e
    | none => none) else none
  | _, _ => none
def qm_jmp (pc : Nat) (off : Int) (ls st : List qm_V) (μ : qm_M) : qm_O := if 0 ≤ (pc : Int) + off then some (.inl (((pc : Int) + off).toNat, ls, st, μ)) else none
def qm_cst1 (v : Option qm_V) (f : qm_V → qm_O) : qm_O := match v with
  | some x => f x
  | none => none
def qm_putv (μ : qm_M) (c j : Nat) : (Nat ⊕ Nat) → qm_V → Option qm_M
  | .inr 0, some (.inl z) => some (qm_set μ c j z)
  | .inr 1, some (.inr (.inl z)) => some (qm_set μ c j z)
  | .inr 2, some (.inl z) => if z = 0 ∨ z = 1 then some (qm_set μ c j z) else none
  | _, _ => none
def qm_astv (μ : qm_M) (c : Nat) (n : Nat) (i : Int) (z : Int) (pc : Nat) (ls r : List qm_V) : qm_O := if 0 ≤ i ∧ i < (n : Int) then qm_nx (pc + 1) ls r (qm_set μ c i.toNat z) else none
def qm_call (v : Option (Nat × Nat × Option Nat)) (sh : Nat → Option qm_S) (st : List qm_V) (inst : Bool) : qm_O := match v with
  | some (k', n, o) =>
    if n ≤ st.length ∧ qm_cat (st.drop n) ≤ 8 then
      match inst, o, (st.take n).reverse with
      | true, none, as => if 100010 ≤ k' then some (.inr (.inr (k', as, st.drop n))) else none
      | true, some ci, some (.inr (.inr c)) :: as => (match sh c with
        | some (.inl (ci', _)) => if ci = ci' then some (.inr (.inr (k', some (.inr (.inr c)) :: as, st.drop n))) else none
        | _ => none)
      | false, none, as => if k' < 100010 then some (.inr (.inr (k', as, st.drop n))) else none
      | _, _, _ => none
    else none
  | none => none
def qm_tsw (x dflt lo hi : Int) (offs : Array Int) : Option Int := if x < lo ∨ hi < x then some dflt else offs[(x - lo).toNat]?
def qm_step (T : qm_T) (k pc : Nat) (ls st : List qm_V) (μ : qm_M) : Instr → qm_O
  | .iconst n => qm_nx (pc + 1) ls (some (.inl n) :: st) μ
  | .bipush n => if -128 ≤ n ∧ n < 128 then qm_nx (pc + 2) ls (some (.inl n) :: st) μ else none
  | .sipush n => if -32768 ≤ n ∧ n < 32768 then qm_nx (pc + 3) ls (some (.inl n) :: st) μ else none
  | .lconst n => qm_nx (pc + 1) ls (some (.inr (.inl ((n : Nat) : Int))) :: st) μ
  | .ldc i => qm_cst1 (qm_cst T k i) fun v => match v with
    | some (.inl z) => qm_nx (pc + 2) ls (some (.inl z) :: st) μ
    | some (.inr (.inr c)) => qm_nx (pc + 2) ls (some (.inr (.inr c)) :: st) μ
    | _ => none
  | .ldc_w i => qm_cst1 (qm_cst T k i) fun v => match v with
    | some (.inl z) => qm_nx (pc + 3) ls (some (.inl z) :: st) μ
    | _ => none
  | .ldc2_w i => qm_cst1 (qm_cst T k i) fun v => match v with
    | some (.inr (.inl z)) => qm_nx (pc + 3) ls (some (.inr (.inl z)) :: st) μ
    | _ => none
  | .iload i => qm_ldI ls i fun z => qm_nx (pc + 2) ls (some (.inl z) :: st) μ
  | .iload_n i => qm_ldI ls i fun z => qm_nx (pc + 1) ls (some (.inl z) :: st) μ
  | .lload i => qm_ldL ls i fun z => qm_nx (pc + 2) ls (some (.inr (.inl z)) :: st) μ
  | .lload_n i => qm_ldL ls i fun z => qm_nx (pc + 1) ls (some (.inr (.inl z)) :: st) μ
  | .aload i => qm_ldP ls i fun c => qm_nx (pc + 2) ls (some (.inr (.inr c)) :: st) μ
  | .aload_n i => qm_ldP ls i fun c => qm_nx (pc + 1) ls (some (.inr (.inr c)) :: st) μ
  | .istore i => qm_i1 st fun z r => if i < ls.length then qm_nx (pc + 2) (qm_st1 ls i (some (.inl z))) r μ else none
  | .istore_n i => qm_i1 st fun z r => if (i : Nat) < ls.length then qm_nx (pc + 1) (qm_st1 ls i (some (.inl z))) r μ else none
  | .lstore i => qm_l1 st fun z r => if i + 1 < ls.length then qm_nx (pc + 2) (qm_st2 ls i (some (.inr (.inl z)))) r μ else none
  | .lstore_n i => qm_l1 st fun z r => if (i : Nat) + 1 < ls.length then qm_nx (pc + 1) (qm_st2 ls i (some (.inr (.inl z)))) r μ else none
  | .astore i => qm_p1 st fun c r => if i < ls.length then qm_nx (pc + 2) (qm_st1 ls i (some (.inr (.inr c)))) r μ else none
  | .astore_n i => qm_p1 st fun c r => if (i : Nat) < ls.length then qm_nx (pc + 1) (qm_st1 ls i (some (.inr (.inr c)))) r μ else none
  | .iinc i n => qm_ldI ls i fun z => qm_nx (pc + 3) (qm_st1 ls i (some (.inl (z + n)))) st μ
  | .iadd => qm_i2 st fun x y r => qm_nx (pc + 1) ls (some (.inl (x + y)) :: r) μ
  | .isub => qm_i2 st fun x y r => qm_nx (pc + 1) ls (some (.inl (x - y)) :: r) μ
  | .imul => qm_i2 st fun x y r => qm_nx (pc + 1) ls (some (.inl (x * y)) :: r) μ
  | .ineg => qm_i1 st fun x r => qm_nx (pc + 1) ls (some (.inl (-x)) :: r) μ
  | .idiv => qm_i2 st fun x y r => if qm_r32 y ∧ ¬ y = 0 then qm_nx (pc + 1) ls (some (.inl (Int32.ofInt x / Int32.ofInt y).toInt) :: r) μ else none
  | .irem => qm_i2 st fun x y r => if qm_r32 y ∧ ¬ y = 0 then qm_nx (pc + 1) ls (some (.inl (Int32.ofInt x - Int32.ofInt x / Int32.ofInt y * Int32.ofInt y).toInt) :: r) μ else none
  | .iand => qm_i2 st fun x y r => qm_nx (pc + 1) ls (some (.inl (Int32.ofInt x &&& Int32.ofInt y).toInt) :: r) μ
  | .ior => qm_i2 st fun x y r => qm_nx (pc + 1) ls (some (.inl (Int32.ofInt x ||| Int32.ofInt y).toInt) :: r) μ
  | .ixor => qm_i2 st fun x y r => qm_nx (pc + 1) ls (some (.inl (Int32.ofInt x ^^^ Int32.ofInt y).toInt) :: r) μ
  | .ishl => qm_i2 st fun x y r => qm_nx (pc + 1) ls (some (.inl (Int32.ofInt x <<< (Int32.ofInt y &&& 31)).toInt) :: r) μ
  | .ishr => qm_i2 st fun x y r => qm_nx (pc + 1) ls (some (.inl (Int32.ofInt x >>> (Int32.ofInt y &&& 31)).toInt) :: r) μ
  | .iushr => qm_i2 st fun x y r => qm_nx (pc + 1) ls (some (.inl ((Int32.ofInt x).toUInt32 >>> ((Int32.ofInt y).toUInt32 &&& Int32.toUInt32 31)).toInt32.toInt) :: r) μ
  | .ladd => qm_l2 st fun x y r => qm_nx (pc + 1) ls (some (.inr (.inl (x + y))) :: r) μ
  | .lsub => qm_l2 st fun x y r => qm_nx (pc + 1) ls (some (.inr (.inl (x - y))) :: r) μ
  | .lmul => qm_l2 st fun x y r => qm_nx (pc + 1) ls (some (.inr (.inl (x * y))) :: r) μ
  | .ldiv => qm_l2 st fun x y r => if qm_r64 y ∧ ¬ y = 0 then qm_nx (pc + 1) ls (some (.inr (.inl (Int64.ofInt x / Int64.ofInt y).toInt)) :: r) μ else none
  | .lrem => qm_l2 st fun x y r => if qm_r64 y ∧ ¬ y = 0 then qm_nx (pc + 1) ls (some (.inr (.inl (Int64.ofInt x - Int64.ofInt x / Int64.ofInt y * Int64.ofInt y).toInt)) :: r) μ else none
  | .land => qm_l2 st fun x y r => qm_nx (pc + 1) ls (some (.inr (.inl (Int64.ofInt x &&& Int64.ofInt y).toInt)) :: r) μ
  | .lor => qm_l2 st fun x y r => qm_nx (pc + 1) ls (some (.inr (.inl (Int64.ofInt x ||| Int64.ofInt y).toInt)) :: r) μ
  | .lxor => qm_l2 st fun x y r => qm_nx (pc + 1) ls (some (.inr (.inl (Int64.ofInt x ^^^ Int64.ofInt y).toInt)) :: r) μ
  | .lshl => qm_li st fun x y r => qm_nx (pc + 1) ls (some (.inr (.inl (Int64.ofInt x <<< ((Int32.ofInt y).toInt64 &&& 63)).toInt)) :: r) μ
  | .lshr => qm_li st fun x y r => qm_nx (pc + 1) ls (some (.inr (.inl (Int64.ofInt x >>> ((Int32.ofInt y).toInt64 &&& 63)).toInt)) :: r) μ
  | .i2l => qm_i1 st fun x r => if qm_r32 x then qm_nx (pc + 1) ls (some (.inr (.inl x)) :: r) μ else none
  | .l2i => qm_l1 st fun x r => qm_nx (pc + 1) ls (some (.inl x) :: r) μ
  | .lcmp => qm_l2 st fun x y r => if qm_r64 x ∧ qm_r64 y then qm_nx (pc + 1) ls (some (.inl (if y < x then 1 else if x = y then 0 else -1)) :: r) μ else none
  | .dup => match st with
    | some (.inl z) :: r => qm_nx (pc + 1) ls (some (.inl z) :: some (.inl z) :: r) μ
    | some (.inr (.inr c)) :: r => qm_nx (pc + 1) ls (some (.inr (.inr c)) :: some (.inr (.inr c)) :: r) μ
    | _ => none
  | .dup_x1 => match st with
    | some (.inl z) :: some (.inr (.inr c)) :: r => qm_nx (pc + 1) ls (some (.inl z) :: some (.inr (.inr c)) :: some (.inl z) :: r) μ
    | _ => none
  | .dup2 => match st with
    | some (.inl z) :: some (.inr (.inr c)) :: r => qm_nx (pc + 1) ls (some (.inl z) :: some (.inr (.inr c)) :: some (.inl z) :: some (.inr (.inr c)) :: r) μ
    | some (.inr (.inl z)) :: r => qm_nx (pc + 1) ls (some (.inr (.inl z)) :: some (.inr (.inl z)) :: r) μ
    | _ => none
  | .pop => qm_i1 st fun _ r => qm_nx (pc + 1) ls r μ
  | .goto off => qm_jmp pc off ls st μ
  | .ifCond c off => qm_i1 st fun x r => if qm_r32 x ∧ 0 ≤ (pc : Int) + off then qm_nx (if qm_cmp c x 0 = true then ((pc : Int) + off).toNat else pc + 3) ls r μ else none
  | .if_icmp c off => qm_i2 st fun x y r => if (qm_r32 x ∧ qm_r32 y) ∧ 0 ≤ (pc : Int) + off then qm_nx (if qm_cmp c x y = true then ((pc : Int) + off).toNat else pc + 3) ls r μ else none
  | .tableswitch dflt lo hi offs => qm_i1 st fun x r => if qm_r32 x then (match qm_tsw x dflt lo hi offs with
    | some off => qm_jmp pc off ls r μ
    | none => none) else none
  | .lookupswitch dflt ps => qm_i1 st fun x r => if qm_r32 x ∧ (ps.toList.zip (ps.toList.drop 1)).all (fun (a, next) => a.1 < next.1) = true then qm_jmp pc (Op.lookupswitch.offset ps.toList dflt x) ls r μ else none
  | .getfield i => qm_p1 st fun c r => qm_obj (qm_sh T c) (qm_fld T k i) fun _ j e => qm_nx (pc + 3) ls (qm_fv μ c j e :: r) μ
  | .putfield i => qm_po st fun c v r => qm_obj (qm_sh T c) (qm_fld T k i) fun ci j e => if qm_wr T ci j = true then (match qm_putv μ c j e v with
    | some μ' => qm_nx (pc + 3) ls r μ'
    | none => none) else none
  | .arraylength => qm_p1 st fun c r => qm_arr (qm_sh T c) fun _ n => qm_nx (pc + 1) ls (some (.inl (n : Int)) :: r) μ
  | .iaload => qm_pi st fun c i r => qm_arr (qm_sh T c) fun t n => if (t = 0 ∨ t = 9) ∧ 0 ≤ i ∧ i < (n : Int) then qm_nx (pc + 1) ls (some (.inl (μ c i.toNat)) :: r) μ else none
  | .laload => qm_pi st fun c i r => qm_arr (qm_sh T c) fun t n => if t = 1 ∧ 0 ≤ i ∧ i < (n : Int) then qm_nx (pc + 1) ls (some (.inr (.inl (μ c i.toNat))) :: r) μ else none
  | .baload => qm_pi st fun c i r => qm_arr (qm_sh T c) fun t n => if t = 2 ∧ 0 ≤ i ∧ i < (n : Int) then qm_nx (pc + 1) ls (some (.inl (μ c i.toNat)) :: r) μ else none
  | .caload => qm_pi st fun c i r => qm_arr (qm_sh T c) fun t n => if t = 3 ∧ 0 ≤ i ∧ i < (n : Int) then qm_nx (pc + 1) ls (some (.inl (μ c i.toNat)) :: r) μ else none
  | .iastore => qm_pv st fun c i v r => qm_arr (qm_sh T c) fun t n => match v with
    | some (.inl z) => if t = 0 then qm_astv μ c n i z pc ls r else none
    | _ => none
  | .lastore => qm_pv st fun c i v r => qm_arr (qm_sh T c) fun t n => match v with
    | some (.inr (.inl z)) => if t = 1 then qm_astv μ c n i z pc ls r else none
    | _ => none
  | .bastore => qm_pv st fun c i v r => qm_arr (qm_sh T c) fun t n => match v with
    | some (.inl z) => if t = 2 ∧ (z = 0 ∨ z = 1) then qm_astv μ c n i z pc ls r else none
    | _ => none
  | .ireturn => match st with
    | [some (.inl z)] => if qm_rt T k = 1 ∨ (qm_rt T k = 2 ∧ (z = 0 ∨ z = 1)) then some (.inr (.inl (some (.inl z)))) else none
    | _ => none
  | .lreturn => match st with
    | [some (.inr (.inl z))] => if qm_rt T k = 3 then some (.inr (.inl (some (.inr (.inl z))))) else none
    | _ => none
  | .return_ => match st with
    | [] => if qm_rt T k = 0 then some (.inr (.inl none)) else none
    | _ => none
  | .invokevirtual i => qm_call (qm_inv T k i) (qm_sh T) st true
  | .invokestatic i => qm_call (qm_inv T k i) (qm_sh T) st false
  | _ => none
def qm_max (x y : Int) : Int := if x < y then y else x
def qm_min (x y : Int) : Int := if y < x then y else x
def qm_abs (x : Int) : Int := if 0 ≤ x then x else 0 - x
/-- the library's own: 100000 max, 100001 min, 100002 abs of ints; 100003 max, 100004 min of longs; 100010 a text's length, 100011 its sign at a place -/
def qm_intr (T : qm_T) (k : Nat) (as : List qm_V) : Option qm_V := match as with
  | [some (.inl x), some (.inl y)] => if qm_r32 x ∧ qm_r32 y then (if k = 100000 then some (some (.inl (qm_max x y))) else if k = 100001 then some (some (.inl (qm_min x y))) else none) else none
  | [some (.inl x)] => if qm_r32 x ∧ k = 100002 then some (some (.inl (qm_abs x))) else none
  | [some (.inr (.inl x)), some (.inr (.inl y))] => if qm_r64 x ∧ qm_r64 y then (if k = 100003 then some (some (.inr (.inl (qm_max x y)))) else if k = 100004 then some (some (.inr (.inl (qm_min x y)))) else none) else none
  | [some (.inr (.inr c))] => match qm_txt T c with
    | some l => if k = 100010 then some (some (.inl (l.length : Int))) else none
    | none => none
  | [some (.inr (.inr c)), some (.inl i)] => match qm_txt T c with
    | some l => if k = 100011 ∧ 0 ≤ i ∧ i < (l.length : Int) then some (some (.inl ((l.getD i.toNat 0 : Nat) : Int))) else none
    | none => none
  | _ => none
def qm_push (v : qm_V) (r : List qm_V) : List qm_V := match v with
  | none => r
  | some x => some x :: r
def qm_run (T : qm_T) : Nat → Nat → Nat → Nat → List qm_V → List qm_V → qm_M → Option (qm_V × qm_M)
  | 0, _, _, _, _, _, _ => none
  | n + 1, d, k, pc, ls, st, μ => match (qm_at T k pc).bind (qm_step T k pc ls st μ) with
    | none => none
    | some (.inl (pc', ls', st', μ')) => qm_run T n d k pc' ls' st' μ'
    | some (.inr (.inl v)) => some (v, μ)
    | some (.inr (.inr (k', as, rest))) =>
      if d = 0 then none
      else if 100000 ≤ k' then (match qm_intr T k' as with
        | none => none
        | some v => qm_run T n d k (pc + 3) ls (v :: rest) μ)
      else if (qm_ent as (qm_mxl T k')).length = qm_mxl T k' then (match qm_run T n (d - 1) k' 0 (qm_ent as (qm_mxl T k')) [] μ with
        | none => none
        | some (v, μ') => qm_run T n d k (pc + 3) ls (qm_push v rest) μ')
      else none
