/-! THE SMALL MACHINE: the class's bytecode over a memory of numbered cells (ints, longs, references apart). No cell is made here. -/
abbrev QV : Type := (Nat → Nat → Int32) × (Nat → Nat → Int64) × (Nat → Nat → Option Nat)
abbrev QL : Type := List (Option Value)
abbrev QH : Type := List (Nat × Nat)
def q_at (l : QL) (i : Nat) : Option Value := l.getD i none
def q_unl : Option Value → Option Value
  | some (.long _) => none
  | some (.double _) => none
  | x => x
def q_st1 : QL → Nat → Value → QL
  | [], _, _ => []
  | _ :: t, 0, v => some v :: t
  | x :: t, 1, v => q_unl x :: q_st1 t 0 v
  | x :: t, i + 2, v => x :: q_st1 t (i + 1) v
def q_st2 : QL → Nat → Value → QL
  | [], _, _ => []
  | [_], 0, _ => []
  | _ :: _ :: t, 0, v => some v :: none :: t
  | x :: t, 1, v => q_unl x :: q_st2 t 0 v
  | x :: t, i + 2, v => x :: q_st2 t (i + 1) v
/-- a method's locals at its entry -/
def q_en : List Value → Nat → QL
  | [], n => List.replicate n none
  | .int v :: t, n + 1 => some (.int v) :: q_en t n
  | .ref v :: t, n + 1 => some (.ref v) :: q_en t n
  | .long v :: t, n + 2 => some (.long v) :: none :: q_en t n
  | _ :: _, n => List.replicate n none
def q_lk {α : Type} (t : List ((Nat × Nat) × α)) (o i : Nat) : Option α := (t.find? (fun e => e.1.1 == o && e.1.2 == i)).map (fun e => e.2)
/-- an instruction: the class that it stands in, what it is, how long -/
def q_dec (j pc : Nat) : Option (Nat × Instr × Nat) := match qmt[j]? with
  | none => none
  | some r => match decode r.2.1 pc with
    | .error _ => none
    | .ok (i, n) => some (r.1, i, n)
def q_rt (j : Nat) : Option (Option FieldType) := (qmt[j]?).map (fun r => r.2.2.2.2.1)
/-- its end -/
def q_ret (j : Nat) (i : Instr) (n : Nat) (st : List Value) : Option (Option Value) := match i with
  | .ireturn => match st with
    | [.int v] => if n = 1 then (match q_rt j with
      | some (some ty) => if narrow ty (.int v) = .int v then some (some (.int v)) else none
      | _ => none) else none
    | _ => none
  | .lreturn => match st with
    | [.long v] => if n = 1 ∧ q_rt j = some (some .long) then some (some (.long v)) else none
    | _ => none
  | .return_ => match st with
    | [] => if n = 1 ∧ q_rt j = some none then some none else none
    | _ => none
  | _ => none
/-- the kind of a cell: of this world's own, or a text constant -/
def q_cls (sh : QH) (c : Nat) : Option Nat := match sh[c]? with
  | some (k, _) => some k
  | none => if 1010 ≤ c ∧ c < 1016 then some 13 else none
def q_np (j : Nat) : Nat := (qmt[j]?).elim 0 (fun r => r.2.2.2.2.2)
def q_own (j : Nat) : Nat := (qmt[j]?).elim 99 (fun r => r.1)
def q_ml (j : Nat) : Nat := (qmt[j]?).elim 0 (fun r => r.2.2.1)
def q_nm (j : Nat) : String := (qmt[j]?).elim "" (fun r => r.2.2.2.1.name)
/-- a call: the method, what it is given, what stays on the stack -/
def q_call (sh : QH) (o : Nat) (i : Instr) (n : Nat) (st : List Value) : Option (Nat × List Value × List Value) := match i with
  | .invokevirtual x => match q_lk qct o x with
    | some (0, j) => match st.drop (q_np j) with
      | .ref c :: r => if n = 3 ∧ q_cls sh c = some (q_own j) ∧ (r.map fun v => v.category).sum ≤ 8 then some (j, .ref c :: (st.take (q_np j)).reverse, r) else none
      | _ => none
    | some (4, j0) => match st.drop (q_np j0) with
      | .ref c :: r => match q_cls sh c with
        | some k => match (qdt.find? (fun e => e.1 == k)) with
          | some (_, j) => if n = 3 ∧ c < sh.length ∧ (r.map fun v => v.category).sum ≤ 8 then some (j, .ref c :: (st.take (q_np j0)).reverse, r) else none
          | none => none
        | none => none
      | _ => none
    | _ => none
  | .invokestatic x => match q_lk qct o x with
    | some (1, j) => if n = 3 ∧ q_np j ≤ st.length ∧ ((st.drop (q_np j)).map fun v => v.category).sum ≤ 8 then some (j, (st.take (q_np j)).reverse, st.drop (q_np j)) else none
    | some (2, j) => if n = 3 ∧ q_np j ≤ st.length ∧ ((st.drop (q_np j)).map fun v => v.category).sum ≤ 8 then some (j, (st.take (q_np j)).reverse, st.drop (q_np j)) else none
    | _ => none
  | .invokespecial x => match q_lk qct o x with
    | some (3, j) => match st.drop (q_np j) with
      | .ref c :: r => match q_cls sh c with
        | some k => if n = 3 ∧ c < sh.length ∧ k < 13 ∧ (r.map fun v => v.category).sum ≤ 8 then some (j, .ref c :: (st.take (q_np j)).reverse, r) else none
        | none => none
      | _ => none
    | _ => none
  | _ => none
abbrev QN : Type := Nat × QL × List Value
def q_ldI (k i n pc : Nat) (ls : QL) (st : List Value) : Option QN := match q_at ls i with
  | some (.int x) => if n = k then some (pc + k, ls, .int x :: st) else none
  | _ => none
def q_ldL (k i n pc : Nat) (ls : QL) (st : List Value) : Option QN := match q_at ls i with
  | some (.long x) => if n = k then some (pc + k, ls, .long x :: st) else none
  | _ => none
def q_ldA (k i n pc : Nat) (ls : QL) (st : List Value) : Option QN := match q_at ls i with
  | some (.ref x) => if n = k then some (pc + k, ls, .ref x :: st) else none
  | _ => none
def q_stI (k i n pc : Nat) (ls : QL) (st : List Value) : Option QN := match st with
  | .int x :: r => if n = k ∧ i < ls.length then some (pc + k, q_st1 ls i (.int x), r) else none
  | _ => none
def q_stL (k i n pc : Nat) (ls : QL) (st : List Value) : Option QN := match st with
  | .long x :: r => if n = k ∧ i + 1 < ls.length then some (pc + k, q_st2 ls i (.long x), r) else none
  | _ => none
def q_stA (k i n pc : Nat) (ls : QL) (st : List Value) : Option QN := match st with
  | .ref x :: r => if n = k ∧ i < ls.length then some (pc + k, q_st1 ls i (.ref x), r) else none
  | _ => none
def q_b (f : Int32 → Int32 → Int32) (n pc : Nat) (ls : QL) (st : List Value) : Option QN := match st with
  | .int y :: .int x :: r => if n = 1 then some (pc + 1, ls, .int (f x y) :: r) else none
  | _ => none
def q_bz (f : Int32 → Int32 → Int32) (n pc : Nat) (ls : QL) (st : List Value) : Option QN := match st with
  | .int y :: .int x :: r => if n = 1 ∧ ¬ y = 0 then some (pc + 1, ls, .int (f x y) :: r) else none
  | _ => none
def q_bl (f : Int64 → Int64 → Int64) (n pc : Nat) (ls : QL) (st : List Value) : Option QN := match st with
  | .long y :: .long x :: r => if n = 1 then some (pc + 1, ls, .long (f x y) :: r) else none
  | _ => none
def q_u (f : Int32 → Int32) (n pc : Nat) (ls : QL) (st : List Value) : Option QN := match st with
  | .int x :: r => if n = 1 then some (pc + 1, ls, .int (f x) :: r) else none
  | _ => none
def q_cd (c : Jvm.ClassFile.Cond) (x y : Int32) : Bool := match c with
  | .eq => x = y
  | .ne => ¬ x = y
  | .lt => x < y
  | .ge => y ≤ x
  | .gt => y < x
  | .le => x ≤ y
def q_to (pc : Nat) (off : Int) : Nat := ((pc : Int) + off).toNat
/-- what touches neither memory nor frames -/
def q_s (o : Nat) (i : Instr) (n pc : Nat) (ls : QL) (st : List Value) : Option QN := match i with
  | .iconst k => if n = 1 then some (pc + 1, ls, .int (Int32.ofInt k) :: st) else none
  | .bipush k => if n = 2 then some (pc + 2, ls, .int (Int8.ofInt k).toInt32 :: st) else none
  | .sipush k => if n = 3 then some (pc + 3, ls, .int (Int16.ofInt k).toInt32 :: st) else none
  | .lconst k => if n = 1 then some (pc + 1, ls, .long (Int64.ofNat (k : Nat)) :: st) else none
  | .ldc x => if n = 2 then (match q_lk qci o x with
    | some v => some (pc + 2, ls, .int v :: st)
    | none => match q_lk qcs o x with
      | some k => some (pc + 2, ls, .ref (1010 + k) :: st)
      | none => none) else none
  | .ldc_w x => if n = 3 then (match q_lk qci o x with
    | some v => some (pc + 3, ls, .int v :: st)
    | none => none) else none
  | .ldc2_w x => if n = 3 then (match q_lk qcj o x with
    | some v => some (pc + 3, ls, .long v :: st)
    | none => none) else none
  | .iload_n k => q_ldI 1 k n pc ls st
  | .iload k => q_ldI 2 k n pc ls st
  | .lload_n k => q_ldL 1 k n pc ls st
  | .lload k => q_ldL 2 k n pc ls st
  | .aload_n k => q_ldA 1 k n pc ls st
  | .aload k => q_ldA 2 k n pc ls st
  | .istore_n k => q_stI 1 k n pc ls st
  | .istore k => q_stI 2 k n pc ls st
  | .lstore_n k => q_stL 1 k n pc ls st
  | .lstore k => q_stL 2 k n pc ls st
  | .astore_n k => q_stA 1 k n pc ls st
  | .astore k => q_stA 2 k n pc ls st
  | .iinc k z => match q_at ls k with
    | some (.int x) => if n = 3 ∧ k < ls.length then some (pc + 3, q_st1 ls k (.int (x + Int32.ofInt z)), st) else none
    | _ => none
  | .iadd => q_b (fun x y => x + y) n pc ls st
  | .isub => q_b (fun x y => x - y) n pc ls st
  | .imul => q_b (fun x y => x * y) n pc ls st
  | .iand => q_b (fun x y => x &&& y) n pc ls st
  | .ior => q_b (fun x y => x ||| y) n pc ls st
  | .ixor => q_b (fun x y => x ^^^ y) n pc ls st
  | .ishl => q_b (fun x y => x <<< (y &&& 31)) n pc ls st
  | .ishr => q_b (fun x y => x >>> (y &&& 31)) n pc ls st
  | .iushr => q_b (fun x y => (x.toUInt32 >>> (y.toUInt32 &&& Int32.toUInt32 31)).toInt32) n pc ls st
  | .idiv => q_bz (fun x y => x / y) n pc ls st
  | .irem => q_bz (fun x y => x - x / y * y) n pc ls st
  | .ineg => q_u (fun x => -x) n pc ls st
  | .i2b => q_u (fun x => x.toInt8.toInt32) n pc ls st
  | .i2c => q_u (fun x => (x.toUInt32 % 65536).toInt32) n pc ls st
  | .ladd => q_bl (fun x y => x + y) n pc ls st
  | .lsub => q_bl (fun x y => x - y) n pc ls st
  | .lmul => q_bl (fun x y => x * y) n pc ls st
  | .land => q_bl (fun x y => x &&& y) n pc ls st
  | .lshr => match st with
    | .int y :: .long x :: r => if n = 1 then some (pc + 1, ls, .long (x >>> (y.toInt64 &&& 63)) :: r) else none
    | _ => none
  | .i2l => match st with
    | .int x :: r => if n = 1 then some (pc + 1, ls, .long x.toInt64 :: r) else none
    | _ => none
  | .l2i => match st with
    | .long x :: r => if n = 1 then some (pc + 1, ls, .int x.toInt32 :: r) else none
    | _ => none
  | .lcmp => match st with
    | .long y :: .long x :: r => if n = 1 then some (pc + 1, ls, .int (lg_cmp x y) :: r) else none
    | _ => none
  | .dup => match st with
    | .int x :: r => if n = 1 then some (pc + 1, ls, .int x :: .int x :: r) else none
    | .ref x :: r => if n = 1 then some (pc + 1, ls, .ref x :: .ref x :: r) else none
    | _ => none
  | .dup2 => match st with
    | .int y :: .ref x :: r => if n = 1 then some (pc + 1, ls, .int y :: .ref x :: .int y :: .ref x :: r) else none
    | _ => none
  | .pop => match st with
    | .int _ :: r => if n = 1 then some (pc + 1, ls, r) else none
    | _ => none
  | .ifCond c off => match st with
    | .int x :: r => if n = 3 ∧ 0 ≤ (pc : Int) + off then some (bif q_cd c x 0 then q_to pc off else pc + 3, ls, r) else none
    | _ => none
  | .if_icmp c off => match st with
    | .int y :: .int x :: r => if n = 3 ∧ 0 ≤ (pc : Int) + off then some (bif q_cd c x y then q_to pc off else pc + 3, ls, r) else none
    | _ => none
  | .goto off => if n = 3 ∧ 0 ≤ (pc : Int) + off then some (q_to pc off, ls, st) else none
  | .tableswitch df lo hi offs => match st with
    | .int x :: r => if x.toInt < lo ∨ hi < x.toInt then (if 0 ≤ (pc : Int) + df then some (q_to pc df, ls, r) else none) else (match offs[(x.toInt - lo).toNat]? with
      | some off => if 0 ≤ (pc : Int) + off then some (q_to pc off, ls, r) else none
      | none => none)
    | _ => none
  | _ => none
def q_rf (r : Option Nat) : Value := match r with
  | none => .null
  | some a => .ref a
def q_rd (V : QV) (c k : Nat) (ty : FieldType) : Value := match ty with
  | .long => .long (V.2.1 c k)
  | .object _ => q_rf (V.2.2 c k)
  | .array _ => q_rf (V.2.2 c k)
  | _ => .int (V.1 c k)
def q_up {α : Type} (f : Nat → Nat → α) (c k : Nat) (v : α) : Nat → Nat → α := fun c' k' => if c' = c ∧ k' = k then v else f c' k'
def q_uI (V : QV) (c k : Nat) (v : Int32) : QV := (q_up V.1 c k v, V.2)
def q_uL (V : QV) (c k : Nat) (v : Int64) : QV := (V.1, q_up V.2.1 c k v, V.2.2)
def q_uR (V : QV) (c k : Nat) (v : Option Nat) : QV := (V.1, V.2.1, q_up V.2.2 c k v)
def q_wr (V : QV) (c k : Nat) (ty : FieldType) (v : Value) : Option QV := match ty with
  | .long => match v with
    | .long x => some (q_uL V c k x)
    | _ => none
  | .object _ => match v with
    | .ref a => if a < 1000 then some (q_uR V c k (some a)) else none
    | _ => none
  | .int => match v with
    | .int x => some (q_uI V c k x)
    | _ => none
  | .boolean => match v with
    | .int x => if x = 0 ∨ x = 1 then some (q_uI V c k x) else none
    | _ => none
  | _ => none
/-- the arrays and objects that stand there before the law begins -/
def q_roI (c : Nat) : Option (List Int32) := match c with
  | 1000 => some [0, 1, 0, -1]
  | 1001 => some [-1, 0, 1, 0]
  | _ => none
def q_roB (c : Nat) : Option (List Int32) := if 1020 ≤ c ∧ c < 1026 then qsby[c - 1020]? else none
def q_roF (c k : Nat) : Option Value := if 1010 ≤ c ∧ c < 1016 then (if k = 0 then some (.ref (c + 10)) else some (.int 0)) else none
def q_in (x : Int32) (n : Nat) : Prop := 0 ≤ x.toInt ∧ x.toInt < n
abbrev q_ix (x : Int32) : Nat := x.toInt.toNat
def q_cp (f : Nat → Nat → Int32) (c0 c1 s0 s1 n : Nat) : Nat → Nat → Int32 := fun c k => if c = c1 then va_cpy (f c0) (f c1) s0 s1 n k else f c k
def q_nf (ci k : Nat) : Bool := match vwCl[ci]? with
  | some q => decide (k < q.2.2) && !(q.2.1 k).2.2.2
  | none => false
def q_kf (ci k : Nat) : Bool := match vwCl[ci]? with
  | some q => decide (k < q.2.2)
  | none => false
/-- what reads or writes memory; kinds of arrays: 100 int, 101 byte, 102 boolean, 103 Walk, 104 Walker -/
def q_m (sh : QH) (o : Nat) (i : Instr) (n pc : Nat) (st : List Value) (V : QV) : Option (Nat × List Value × QV) := match i with
  | .getfield x => match st with
    | .ref c :: r => match q_lk qft o x with
      | some (13, k, _) => match q_roF c k with
        | some v => if n = 3 ∧ o = 13 then some (pc + 3, v :: r, V) else none
        | none => none
      | some (ci, k, _) => match sh[c]? with
        | some (ci', _) => if n = 3 ∧ ci' = ci ∧ q_kf ci k = true then some (pc + 3, q_rd V c k (q_tyf ci k) :: r, V) else none
        | none => none
      | none => none
    | _ => none
  | .putfield x => match st with
    | v :: .ref c :: r => match q_lk qft o x with
      | some (ci, k, _) => match sh[c]? with
        | some (ci', _) => if n = 3 ∧ ci' = ci ∧ q_nf ci k = true then (match q_wr V c k (q_tyf ci k) v with
          | some V' => some (pc + 3, r, V')
          | none => none) else none
        | none => none
      | none => none
    | _ => none
  | .getstatic x => match q_lk qst o x with
    | some v => if n = 3 then some (pc + 3, v :: st, V) else none
    | none => none
  | .iaload => match st with
    | .int j :: .ref c :: r => match sh[c]? with
      | some (100, z) => if n = 1 ∧ (0 ≤ j.toInt ∧ j.toInt < z) then some (pc + 1, .int (V.1 c (q_ix j)) :: r, V) else none
      | some _ => none
      | none => match q_roI c with
        | some a => if n = 1 ∧ (0 ≤ j.toInt ∧ j.toInt < a.length) then some (pc + 1, .int (a.getD (q_ix j) 0) :: r, V) else none
        | none => none
    | _ => none
  | .baload => match st with
    | .int j :: .ref c :: r => match sh[c]? with
      | some (101, z) => if n = 1 ∧ (0 ≤ j.toInt ∧ j.toInt < z) then some (pc + 1, .int (V.1 c (q_ix j)) :: r, V) else none
      | some (102, z) => if n = 1 ∧ (0 ≤ j.toInt ∧ j.toInt < z) then some (pc + 1, .int (V.1 c (q_ix j)) :: r, V) else none
      | some _ => none
      | none => match q_roB c with
        | some a => if n = 1 ∧ (0 ≤ j.toInt ∧ j.toInt < a.length) then some (pc + 1, .int (a.getD (q_ix j) 0) :: r, V) else none
        | none => none
    | _ => none
  | .aaload => match st with
    | .int j :: .ref c :: r => match sh[c]? with
      | some (103, z) => (match V.2.2 c (q_ix j) with
        | some a => if n = 1 ∧ (0 ≤ j.toInt ∧ j.toInt < z) ∧ a < 1000 then some (pc + 1, .ref a :: r, V) else none
        | none => none)
      | some (104, z) => (match V.2.2 c (q_ix j) with
        | some a => if n = 1 ∧ (0 ≤ j.toInt ∧ j.toInt < z) ∧ a < 1000 then some (pc + 1, .ref a :: r, V) else none
        | none => none)
      | _ => none
    | _ => none
  | .iastore => match st with
    | .int v :: .int j :: .ref c :: r => match sh[c]? with
      | some (100, z) => if n = 1 ∧ (0 ≤ j.toInt ∧ j.toInt < z) then some (pc + 1, r, q_uI V c (q_ix j) v) else none
      | _ => none
    | _ => none
  | .bastore => match st with
    | .int v :: .int j :: .ref c :: r => match sh[c]? with
      | some (101, z) => if n = 1 ∧ (0 ≤ j.toInt ∧ j.toInt < z) then some (pc + 1, r, q_uI V c (q_ix j) v.toInt8.toInt32) else none
      | some (102, z) => if n = 1 ∧ (0 ≤ j.toInt ∧ j.toInt < z) ∧ (v = 0 ∨ v = 1) then some (pc + 1, r, q_uI V c (q_ix j) v) else none
      | _ => none
    | _ => none
  | .arraylength => match st with
    | .ref c :: r => match sh[c]? with
      | some (k, z) => if n = 1 ∧ k = 100 then some (pc + 1, .int (Int32.ofNat z) :: r, V) else none
      | none => match q_roB c with
        | some a => if n = 1 then some (pc + 1, .int (Int32.ofNat a.length) :: r, V) else none
        | none => none
    | _ => none
  | .invokestatic x => match q_lk qct o x with
    | some (5, _) => match st with
      | .int m :: .int dp :: .ref c1 :: .int sp :: .ref c0 :: r => match sh[c0]?, sh[c1]? with
        | some (100, z0), some (100, z1) => if n = 3 ∧ 0 ≤ sp.toInt ∧ 0 ≤ dp.toInt ∧ 0 ≤ m.toInt ∧ q_ix sp + q_ix m ≤ z0 ∧ q_ix dp + q_ix m ≤ z1 ∧ (r.map fun v => v.category).sum ≤ 8 then some (pc + 3, r, (q_cp V.1 c0 c1 (q_ix sp) (q_ix dp) (q_ix m), V.2)) else none
        | _, _ => none
      | _ => none
    | _ => none
  | _ => none
/-- one step, over what is done behind it -/
def q_go (sh : QH) (rec : Nat → Nat → Nat → QL → List Value → QV → Option (Option Value × QV)) (d j pc : Nat) (ls : QL) (st : List Value) (V : QV) : Option (Option Value × QV) := match q_dec j pc with
  | none => none
  | some (o, i, len) => match q_ret j i len st with
    | some v => some (v, V)
    | none => match q_call sh o i len st with
      | some (j2, as, r) => match d with
        | 0 => none
        | d2 + 1 => if (as.map fun v => v.category).sum ≤ q_ml j2 then (match rec d2 j2 0 (q_en as (q_ml j2)) [] V with
          | none => none
          | some (v, V2) => rec (d2 + 1) j (pc + 3) ls (v.toList ++ r) V2) else none
      | none => match q_s o i len pc ls st with
        | some (pc2, ls2, st2) => rec d j pc2 ls2 st2 V
        | none => match q_m sh o i len pc st V with
          | some (pc2, st2, V2) => rec d j pc2 ls st2 V2
          | none => none
def am (sh : QH) : Nat → Nat → Nat → Nat → QL → List Value → QV → Option (Option Value × QV)
  | 0 => fun _ _ _ _ _ _ => none
  | n + 1 => q_go sh (am sh n)
