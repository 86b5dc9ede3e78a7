/-! THE ABSTRACT MACHINE: cells by number, int arrays and fields as functions, the code as blocks; its run as a least fixed point -/
/-- the script's length and ints are the last two -/
abbrev ax_Hp : Type := (Nat → Nat → Int32) × (Nat → Nat → Int64) × Nat × (Nat → Int32)
abbrev ax_Lc : Type := List (Nat × Value)
abbrev ax_Rs : Type := Option Value × ax_Hp
abbrev ax_Rn : Type := Nat → Nat → ax_Lc → List Value → ax_Hp → Option ax_Rs
def sA (h : ax_Hp) (k : Nat) (f : Nat → Int32) : ax_Hp := (fun a => if a = k then f else h.1 a, h.2)
def sL (h : ax_Hp) (k : Nat) (f : Nat → Int64) : ax_Hp := (h.1, fun a => if a = k then f else h.2.1 a, h.2.2)
/-- is the place in the row (by choice, so that nobody unfolds it) -/
noncomputable def ax_in (i : Int32) (n : Nat) : Bool := @decide (vp_in i n) (Classical.propDecidable _)
def ax_g (b : Bool) (o : Option ax_Rs) : Option ax_Rs := match b with
  | true => o
  | false => none
def ax_get (i : Nat) : ax_Lc → Option Value
  | [] => none
  | q :: l => match Nat.beq q.1 i with
    | true => some q.2
    | false => ax_get i l
def ax_nrm : List Nat → ax_Lc → Option ax_Lc
  | [], _ => some []
  | i :: is, l => match ax_get i l with
    | none => none
    | some v => match ax_nrm is l with
      | none => none
      | some r => some ((i, v) :: r)
def ax_sum : List Value → Nat
  | [] => 0
  | v :: r => v.category + ax_sum r
def ax_st1 (i : Nat) (v : Value) (l : ax_Lc) : ax_Lc := (i, v) :: l.filter (fun q => !(q.1 == i) && !(q.1 + 1 == i && q.2.category == 2))
def ax_st2 (i : Nat) (v : Value) (l : ax_Lc) : ax_Lc := (i, v) :: l.filter (fun q => !(q.1 == i) && (!(q.1 == i + 1) && !(q.1 + 1 == i && q.2.category == 2)))
/-- the letters of the kinds, as bytes -/
def ax_by : List Int32 := [119, 111, 98, 112, 108, 102]
abbrev ax_Stp : Type := Option (Bool × ax_Lc × List Value × ax_Hp)
def ax_prim (p : Nat) (ls : ax_Lc) (st : List Value) (h : ax_Hp) : ax_Stp := match p with
  | 1 => match st with
    | .int y :: .int x :: r => some (decide (ax_sum r ≤ 8), ls, .int (if x < y then y else x) :: r, h)
    | _ => none
  | 2 => match st with
    | .int y :: .int x :: r => some (decide (ax_sum r ≤ 8), ls, .int (if y < x then y else x) :: r, h)
    | _ => none
  | 3 => match st with
    | .int x :: r => some (decide (ax_sum r ≤ 8), ls, .int (if 0 ≤ x then x else 0 - x) :: r, h)
    | _ => none
  | 4 => match st with
    | .int n :: .int dp :: .ref d :: .int sp :: .ref s :: r => match ax_shp s, ax_shp d with
      | (1, m, _), (1, m', _) => some (decide (ax_sum r ≤ 8) && (decide (n = Int32.ofNat m) && (decide (m = m') && (decide (dp = 0) && decide (sp = 0)))), ls, r, sA h d (h.1 s))
      | (2, m, _), (2, m', _) => some (decide (ax_sum r ≤ 8) && (decide (n = Int32.ofNat m) && (decide (m = m') && (decide (dp = 0) && decide (sp = 0)))), ls, r, sL h d (h.2.1 s))
      | _, _ => none
    | _ => none
  | _ => none
/-- an instruction that stays in its method and goes on behind itself: the Bool is what must hold -/
noncomputable def ax_stp (ins : Instr) (inf : ax_If) (ls : ax_Lc) (st : List Value) (h : ax_Hp) : ax_Stp :=
  match inf with
  | [] => (match ins with
    | .iadd => match st with | .int y :: .int x :: r => some (true, ls, .int (x + y) :: r, h) | _ => none
    | .isub => match st with | .int y :: .int x :: r => some (true, ls, .int (x - y) :: r, h) | _ => none
    | .imul => match st with | .int y :: .int x :: r => some (true, ls, .int (x * y) :: r, h) | _ => none
    | .idiv => match st with | .int y :: .int x :: r => some (!(decide (y = 0)), ls, .int (x / y) :: r, h) | _ => none
    | .irem => match st with | .int y :: .int x :: r => some (!(decide (y = 0)), ls, .int (x - x / y * y) :: r, h) | _ => none
    | .ineg => match st with | .int x :: r => some (true, ls, .int (-x) :: r, h) | _ => none
    | .iand => match st with | .int y :: .int x :: r => some (true, ls, .int (x &&& y) :: r, h) | _ => none
    | .ior => match st with | .int y :: .int x :: r => some (true, ls, .int (x ||| y) :: r, h) | _ => none
    | .ixor => match st with | .int y :: .int x :: r => some (true, ls, .int (x ^^^ y) :: r, h) | _ => none
    | .ishl => match st with | .int y :: .int x :: r => some (true, ls, .int (x <<< (y &&& 31)) :: r, h) | _ => none
    | .ishr => match st with | .int y :: .int x :: r => some (true, ls, .int (x >>> (y &&& 31)) :: r, h) | _ => none
    | .iushr => match st with | .int y :: .int x :: r => some (true, ls, .int ((x.toUInt32 >>> (y.toUInt32 &&& Int32.toUInt32 31)).toInt32) :: r, h) | _ => none
    | .ladd => match st with | .long y :: .long x :: r => some (true, ls, .long (x + y) :: r, h) | _ => none
    | .lsub => match st with | .long y :: .long x :: r => some (true, ls, .long (x - y) :: r, h) | _ => none
    | .lmul => match st with | .long y :: .long x :: r => some (true, ls, .long (x * y) :: r, h) | _ => none
    | .ldiv => match st with | .long y :: .long x :: r => some (!(decide (y = 0)), ls, .long (x / y) :: r, h) | _ => none
    | .lrem => match st with | .long y :: .long x :: r => some (!(decide (y = 0)), ls, .long (x - x / y * y) :: r, h) | _ => none
    | .lcmp => match st with | .long y :: .long x :: r => some (true, ls, .int (lg_cmp x y) :: r, h) | _ => none
    | .i2l => match st with | .int x :: r => some (true, ls, .long x.toInt64 :: r, h) | _ => none
    | .l2i => match st with | .long x :: r => some (true, ls, .int x.toInt32 :: r, h) | _ => none
    | .i2b => match st with | .int x :: r => some (true, ls, .int x.toInt8.toInt32 :: r, h) | _ => none
    | .i2c => match st with | .int x :: r => some (true, ls, .int (x.toUInt32 % 65536).toInt32 :: r, h) | _ => none
    | .dup => match st with | v :: r => some (v.category == 1, ls, v :: v :: r, h) | _ => none
    | .dup2 => match st with | v :: w :: r => some (v.category == 1 && w.category == 1, ls, v :: w :: v :: w :: r, h) | _ => none
    | .pop => match st with | v :: r => some (v.category == 1, ls, r, h) | _ => none
    | .iaload => match st with
      | .int i :: .ref a :: r => match ax_shp a with
        | (1, n, _) => some (ax_in i n, ls, .int (h.1 a i.toNatClampNeg) :: r, h)
        | (3, _, _) => some (ax_in i h.2.2.1, ls, .int (h.2.2.2 i.toNatClampNeg) :: r, h)
        | _ => none
      | _ => none
    | .baload => match st with
      | .int i :: .ref a :: r => match ax_shp a with
        | (5, n, _) => some (ax_in i n, ls, .int (ax_by.getD i.toNatClampNeg 0) :: r, h)
        | _ => none
      | _ => none
    | .iastore => match st with
      | .int x :: .int i :: .ref a :: r => match ax_shp a with
        | (1, n, _) => some (ax_in i n, ls, r, sA h a (upd (h.1 a) i.toNatClampNeg x))
        | _ => none
      | _ => none
    | .laload => match st with
      | .int i :: .ref a :: r => match ax_shp a with
        | (2, n, _) => some (ax_in i n, ls, .long (h.2.1 a i.toNatClampNeg) :: r, h)
        | _ => none
      | _ => none
    | .lastore => match st with
      | .long x :: .int i :: .ref a :: r => match ax_shp a with
        | (2, n, _) => some (ax_in i n, ls, r, sL h a (vp_updL (h.2.1 a) i.toNatClampNeg x))
        | _ => none
      | _ => none
    | .arraylength => match st with
      | .ref a :: r => match ax_shp a with
        | (1, n, _) => some (true, ls, .int (Int32.ofNat n) :: r, h)
        | (3, _, _) => some (true, ls, .int (Int32.ofNat h.2.2.1) :: r, h)
        | (5, n, _) => some (true, ls, .int (Int32.ofNat n) :: r, h)
        | _ => none
      | _ => none
    | _ => none)
  | (v, i, a) :: _ => (match ins with
    | .iconst _ | .bipush _ | .sipush _ | .ldc _ | .ldc_w _ | .lconst _ | .ldc2_w _ | .getstatic _ => some (true, ls, v :: st, h)
    | .iload _ | .iload_n _ => match ax_get i ls with | some (.int x) => some (true, ls, .int x :: st, h) | _ => none
    | .lload _ | .lload_n _ => match ax_get i ls with | some (.long x) => some (true, ls, .long x :: st, h) | _ => none
    | .aload _ | .aload_n _ => match ax_get i ls with | some (.ref x) => some (true, ls, .ref x :: st, h) | _ => none
    | .istore _ | .istore_n _ => match st with | .int x :: r => some (true, ax_st1 i (.int x) ls, r, h) | _ => none
    | .lstore _ | .lstore_n _ => match st with | .long x :: r => some (true, ax_st2 i (.long x) ls, r, h) | _ => none
    | .iinc _ _ => match ax_get i ls, v with | some (.int x), .int d => some (true, ax_st1 i (.int (x + d)) ls, st, h) | _, _ => none
    | .getfield _ => match a, st with
      | k :: _, .ref c :: r => match ax_shp c with
        | (0, ci, fl) => match fl[k]? with
          | some (some j) => some (Nat.beq ci i, ls, .ref j :: r, h)
          | some none => some (Nat.beq ci i, ls, .int (h.1 c k) :: r, h)
          | none => none
        | (4, _, _) => some (Nat.beq i 98, ls, v :: r, h)
        | _ => none
      | _, _ => none
    | .putfield _ => match a, st with
      | k :: _, .int x :: .ref c :: r => match ax_shp c with
        | (0, ci, fl) => match fl[k]? with
          | some none => match v with
            | .int _ => some (Nat.beq ci i && (decide (x = 0) || decide (x = 1)), ls, r, sA h c (upd (h.1 c) k x))
            | _ => some (Nat.beq ci i, ls, r, sA h c (upd (h.1 c) k x))
          | _ => none
        | _ => none
      | _, _ => none
    | .invokestatic _ | .invokevirtual _ => ax_prim i ls st h
    | _ => none)
def ax_jmp (R : ax_Rn) (m : Nat) (t : Nat × List Nat) (ls : ax_Lc) (st : List Value) (h : ax_Hp) : Option ax_Rs := match ax_nrm t.2 ls with
  | some l => R m t.1 l st h
  | none => none
def ax_sw (R : ax_Rn) (m : Nat) (x : Int32) (ls : ax_Lc) (st : List Value) (h : ax_Hp) : ax_If → Option ax_Rs
  | [] => none
  | (v, t) :: r => match r with
    | [] => ax_jmp R m t ls st h
    | _ :: _ => match v with
      | .int w => if x = w then ax_jmp R m t ls st h else ax_sw R m x ls st h r
      | _ => none
def ax_rV (R : ax_Rn) (z : Nat) (as : List Value) (h : ax_Hp) : Option ax_Hp := match R z 0 (lv_args 0 as) [] h with
  | some (none, h') => some h'
  | _ => none
def ax_rI (R : ax_Rn) (z : Nat) (as : List Value) (h : ax_Hp) : Option (Int32 × ax_Hp) := match R z 0 (lv_args 0 as) [] h with
  | some (some (.int x), h') => some (x, h')
  | _ => none
def ax_rL (R : ax_Rn) (z : Nat) (as : List Value) (h : ax_Hp) : Option (Int64 × ax_Hp) := match R z 0 (lv_args 0 as) [] h with
  | some (some (.long x), h') => some (x, h')
  | _ => none
def ax_rA (R : ax_Rn) (z : Nat) (as : List Value) (h : ax_Hp) : Option (Nat × ax_Hp) := match R z 0 (lv_args 0 as) [] h with
  | some (some (.ref x), h') => some (x, h')
  | _ => none
/-- may the call be made: the operands that stay are few, the arguments fit into w locals, the receiver is of the method's class (ci 99: no receiver; 98: String) -/
def ax_may (st : List Value) (n ci w : Nat) : Bool := decide (n ≤ st.length) && (decide (ax_sum (st.drop n) ≤ 8) && (decide (ax_sum (st.take n) ≤ w) && (Nat.beq ci 99 || (match (st.take n).reverse with
  | .ref c :: _ => (match ax_shp c with
    | (0, cj, _) => Nat.beq cj ci
    | (4, _, _) => Nat.beq 98 ci
    | _ => false)
  | _ => false))))
def ax_call (R : ax_Rn) (z : Nat) (n k : Nat) (st : List Value) (h : ax_Hp) (go : List Value → ax_Hp → Option ax_Rs) : Option ax_Rs := match k with
  | 0 => (ax_rV R z (st.take n).reverse h).bind (fun q => go (st.drop n) q)
  | 1 => (ax_rI R z (st.take n).reverse h).bind (fun q => go (.int q.1 :: st.drop n) q.2)
  | 2 => (ax_rL R z (st.take n).reverse h).bind (fun q => go (.long q.1 :: st.drop n) q.2)
  | _ => (ax_rA R z (st.take n).reverse h).bind (fun q => go (.ref q.1 :: st.drop n) q.2)
/-- what an instruction of control does: 0 none, 1 goto, 2 if, 3 if_icmp, 4 switch, 5 call, 6 return -/
def ax_if (c : ClassFile.Cond) (x y : Int32) (a b : Option ax_Rs) : Option ax_Rs := match c with
  | .eq => if x = y then a else b
  | .ne => if x = y then b else a
  | .lt => if x < y then a else b
  | .ge => if y ≤ x then a else b
  | .gt => if y < x then a else b
  | .le => if x ≤ y then a else b
def ax_ret (rt : Nat) (st : List Value) (h : ax_Hp) : Option ax_Rs := match st with
  | [] => if rt = 0 then some (none, h) else none
  | [.int x] => if rt = 1 then some (some (.int x), h) else if rt = 4 then (if x = 0 ∨ x = 1 then some (some (.int x), h) else none) else none
  | [.long x] => if rt = 2 then some (some (.long x), h) else none
  | [.ref x] => if rt = 3 then some (some (.ref x), h) else none
  | _ => none
noncomputable def ax_exec (R : ax_Rn) (m rt : Nat) (nx : Nat × List Nat) : List ax_Op → ax_Lc → List Value → ax_Hp → Option ax_Rs
  | [], ls, st, h => ax_jmp R m nx ls st h
  | op :: rest, ls, st, h => match op.2.1 with
    | .goto _ => match op.2.2.2 with
      | (_, t) :: _ => ax_jmp R m t ls st h
      | [] => none
    | .ifCond c _ => match op.2.2.2, st with
      | (_, t) :: _, .int x :: r => ax_if c x 0 (ax_jmp R m t ls r h) (ax_exec R m rt nx rest ls r h)
      | _, _ => none
    | .if_icmp c _ => match op.2.2.2, st with
      | (_, t) :: _, .int y :: .int x :: r => ax_if c x y (ax_jmp R m t ls r h) (ax_exec R m rt nx rest ls r h)
      | _, _ => none
    | .tableswitch _ _ _ _ | .lookupswitch _ _ => match st with
      | .int x :: r => ax_sw R m x ls r h op.2.2.2
      | _ => none
    | .ireturn | .lreturn | .areturn | .return_ => ax_ret rt st h
    | ins => match op.2.2.2 with
      | (_, z, [n, k, ci, w, _]) :: _ => match ax_may st n ci w with
        | true => ax_call R z n k st h (fun st' h' => ax_exec R m rt nx rest ls st' h')
        | false => none
      | inf => match ax_stp ins inf ls st h with
        | none => none
        | some (b, ls', st', h') => ax_g b (ax_exec R m rt nx rest ls' st' h')
def ax_lk (pc : Nat) : List (Nat × ax_Bl) → Option ax_Bl
  | [] => none
  | q :: l => match Nat.beq q.1 pc with
    | true => some q.2
    | false => ax_lk pc l
def ax_find (m pc : Nat) : Option (Nat × ax_Bl) := match ax_code[m]? with
  | none => none
  | some e => match ax_lk pc e.2 with
    | none => none
    | some b => some (e.1, b)
noncomputable def ax_step (R : ax_Rn) : ax_Rn := fun m pc ls st h => match ax_find m pc with
  | none => none
  | some (rt, b) => ax_exec R m rt b.1 b.2 ls st h
noncomputable def ax_fuel : Nat → ax_Rn
  | 0 => fun _ _ _ _ _ => none
  | n + 1 => ax_step (ax_fuel n)
noncomputable def ax_run : ax_Rn := fun m pc ls st h => @dite _ (∃ (r : ax_Rs) (n : Nat), ax_fuel n m pc ls st h = some r) (Classical.propDecidable _) (fun hx => some hx.choose) (fun _ => none)
