/-! the check of the code against the class files: decided by the kernel -/
def ax_kOk (k : Nat) (r : Option FieldType) : Bool := match r with
  | none => k == 0
  | some .int | some .boolean | some .byte => k == 1
  | some .long => k == 2
  | some (.object _) => k == 3
  | _ => false
def ax_rOk (k : Nat) (r : Option FieldType) : Bool := match r with
  | none => k == 0
  | some .int => k == 1
  | some .boolean | some .byte => k == 4
  | some .long => k == 2
  | some (.object _) => k == 3
  | _ => false
/-- a call of method z from code of class own -/
def ax_okc (own fr lo idx : Nat) (sc : Bool) (z n k ci w pl : Nat) : Bool :=
  decide (z < ax_ents.length) && (decide (ax_sc z = sc) && (decide (n = ax_np z + (if sc then 0 else 1)) && (decide (ax_fr z + 1 ≤ fr) && (decide (8 + (ax_nL z + 11) + ax_lo z ≤ lo) && (ax_kOk k (ax_rT z) && (decide (w = ax_nL z) &&
  ((if pl < 5000 then decide (ax_ds[pl]? = some (1, own, idx, z, 0)) else sc && decide (ax_nd[pl - 5000]? = some (own, idx, z))) &&
  (if sc then decide (ci = 99) else decide (ci ≠ 99) && decide (ax_c2o ci = ax_ow z)))))))))
/-- a library member that the machine answers itself -/
def ax_okp (own fr lo idx p pl : Nat) : Bool := decide (1 ≤ fr) && (decide (26 ≤ lo) && (decide (1 ≤ p) && (decide (p ≤ 4) && decide (ax_ds[pl]? = some (10, own, idx, p, 0)))))
def ax_okv (own k pl : Nat) (x : Int32) : Bool := match ax_ds[pl]? with
  | some (8, o, j, c, _) => decide (o = own) && (decide (j = k) && decide (Int32.ofNat c = x))
  | _ => false
def ax_okw (own k pl : Nat) (x : Int64) : Bool := match ax_ds[pl]? with
  | some (9, o, j, c, _) => decide (o = own) && (decide (j = k) && decide (Int64.ofNat c = x))
  | _ => false
def ax_okT (pc : Nat) (d : Int) : Int → List Int → ax_If → Bool
  | _, [], [(_, t, _)] => decide ((pc : Int) + d = t)
  | lo, o :: os, (.int w, t, _) :: q :: r => decide (w.toInt = lo) && (decide ((pc : Int) + o = t) && ax_okT pc d (lo + 1) os (q :: r))
  | _, _, _ => false
def ax_okL (pc : Nat) (d : Int) : List (Int × Int) → ax_If → Bool
  | [], [(_, t, _)] => decide ((pc : Int) + d = t)
  | (v, o) :: os, (.int w, t, _) :: q :: r => decide (w.toInt = v) && (decide ((pc : Int) + o = t) && ax_okL pc d os (q :: r))
  | _, _ => false
def ax_okI (own nL fr lo pc : Nat) (ins : Instr) (len : Nat) (inf : ax_If) : Bool :=
  match inf with
  | [] => (match ins with
    | .iadd | .isub | .imul | .idiv | .irem | .ineg | .iand | .ior | .ixor | .ishl | .ishr | .iushr | .ladd | .lsub | .lmul | .ldiv | .lrem | .lcmp | .i2l | .l2i | .i2b | .i2c | .dup | .dup2 | .pop | .iaload | .baload | .iastore | .laload | .lastore | .arraylength | .ireturn | .lreturn | .areturn | .return_ => len == 1
    | _ => false)
  | (v, i, a) :: _ => (match ins with
    | .iconst n => len == 1 && (match v with | .int x => decide (Int32.ofInt n = x) | _ => false)
    | .bipush n => len == 2 && (match v with | .int x => decide ((Int8.ofInt n).toInt32 = x) | _ => false)
    | .sipush n => len == 3 && (match v with | .int x => decide ((Int16.ofInt n).toInt32 = x) | _ => false)
    | .ldc k => len == 2 && (match v, a with
      | .int x, [pl] => ax_okv own k pl x
      | .ref 67, [] => decide (k = 23) && decide (own = 3)
      | _, _ => false)
    | .ldc_w k => len == 3 && (match v, a with
      | .int x, [pl] => ax_okv own k pl x
      | _, _ => false)
    | .lconst n => len == 1 && (match v with | .long x => decide (Int64.ofNat n.val = x) | _ => false)
    | .ldc2_w k => len == 3 && (match v, a with
      | .long x, [pl] => ax_okw own k pl x
      | _, _ => false)
    | .getstatic k => len == 3 && (match v, a with
      | .int x, [pl] => decide (x = 1) && decide (ax_ds[pl]? = some (16, own, k, 2, 0))
      | _, _ => false)
    | .iload j | .lload j | .aload j => len == 2 && decide (j = i)
    | .iload_n j | .lload_n j | .aload_n j => len == 1 && decide (j.val = i)
    | .istore j => len == 2 && (decide (j = i) && decide (i < nL))
    | .istore_n j => len == 1 && (decide (j.val = i) && decide (i < nL))
    | .lstore j => len == 2 && (decide (j = i) && decide (i + 1 < nL))
    | .lstore_n j => len == 1 && (decide (j.val = i) && decide (i + 1 < nL))
    | .iinc j n => len == 3 && (decide (j = i) && (decide (i < nL) && (match v with | .int x => decide (Int32.ofInt n = x) | _ => false)))
    | .getfield k => len == 3 && (match a with
      | [f, pl] => if i = 98 then (match v with
          | .ref 68 => decide (ax_ds[pl]? = some (16, own, k, 0, 0))
          | .int x => decide (x = 0) && decide (ax_ds[pl]? = some (16, own, k, 1, 0))
          | _ => false)
        else decide (i < ax_cl.length) && (decide (f < (ax_cd i).2.2) && decide (ax_ds[pl]? = some (0, own, k, i, f)))
      | _ => false)
    | .putfield k => len == 3 && (match a with
      | [f, pl] => decide (i < ax_cl.length) && (decide (f < (ax_cd i).2.2) && (decide (ax_ds[pl]? = some (0, own, k, i, f)) && (decide (((ax_cd i).2.1 f).2.2.2 = false) && decide (parseFieldDescriptor ((ax_cd i).2.1 f).2.2.1 = some (match v with | .int _ => .boolean | _ => .int)))))
      | _ => false)
    | .goto o => len == 3 && decide ((pc : Int) + o = i)
    | .ifCond _ o => len == 3 && decide ((pc : Int) + o = i)
    | .if_icmp _ o => len == 3 && decide ((pc : Int) + o = i)
    | .tableswitch d lo hi os => decide (os.size = (hi - lo + 1).toNat) && ax_okT pc d lo os.toList inf
    | .lookupswitch d ps => (ps.toList.zip (ps.toList.drop 1)).all (fun (a, next) => a.1 < next.1) && ax_okL pc d ps.toList inf
    | .invokestatic k => len == 3 && (match a with
      | [n, r, ci, w, pl] => ax_okc own fr lo k true i n r ci w pl
      | [pl] => ax_okp own fr lo k i pl
      | _ => false)
    | .invokevirtual k => len == 3 && (match a with
      | [n, r, ci, w, pl] => ax_okc own fr lo k false i n r ci w pl
      | _ => false)
    | _ => false)
def ax_end : Instr → Bool
  | .goto _ | .tableswitch .. | .lookupswitch .. | .ireturn | .lreturn | .areturn | .return_ => true
  | _ => false
/-- only a call is told by five numbers (a jump's mask may have five) -/
def ax_five (ins : Instr) (inf : ax_If) : Bool := match inf with
  | (_, _, [_, _, _, _, _]) :: _ => (match ins with
    | .invokestatic _ | .invokevirtual _ | .goto _ | .ifCond _ _ | .if_icmp _ _ | .tableswitch _ _ _ _ | .lookupswitch _ _ => true
    | _ => false)
  | _ => true
def ax_okO (own : Nat) (cc : ByteArray) (nL fr lo : Nat) (nx : Nat) : Nat → List ax_Op → Bool
  | pc, [] => decide (pc = nx)
  | pc, op :: r => decide (op.1 = pc) && (decide (decode cc pc = .ok (op.2.1, op.2.2.1)) && (ax_okI own nL fr lo pc op.2.1 op.2.2.1 op.2.2.2 && (ax_five op.2.1 op.2.2.2 && (ax_end op.2.1 || ax_okO own cc nL fr lo nx (pc + op.2.2.1) r))))
def ax_okB (own : Nat) (cc : ByteArray) (nL fr lo : Nat) (l : List (Nat × ax_Bl)) : Bool := l.all (fun b => ax_okO own cc nL fr lo b.2.1.1 b.1 b.2.2)
/-- which of its returns a method may use: by its kind of answer -/
def ax_retI (rt : Nat) (ins : Instr) : Bool := match ins with
  | .ireturn => rt == 1 || rt == 4
  | .lreturn => rt == 2
  | .areturn => rt == 3
  | .return_ => rt == 0
  | _ => true
def ax_okR (rt : Nat) (ops : List ax_Op) : Bool := ops.all (fun op => ax_retI rt op.2.1)
/-- the method's own words, by their places -/
def ax_okW (z : Nat) : Bool :=
  plainName (ax_y z).cls && (decide ((ax_y z).cls ≠ "java/lang/invoke/MethodHandle") && (decide ((ax_y z).cls ≠ "java/lang/invoke/VarHandle") && (decide ((parseMethodDescriptor (ax_y z).desc).map (fun d => d.parameters.length) = some (ax_np z)) &&
  (decide ((ax_y z).cls = ax_nmC (ax_ow z)) && (match ax_sc z, ax_pl z with
    | true, [p0, p1, p2] => decide (ax_ds[p0]? = some (2, z, 0, 0, 0)) && (decide (ax_ds[p1]? = some (3, ax_ow z, 0, 0, 0)) && decide (ax_ds[p2]? = some (4, z, 0, 0, 0)))
    | false, [p0, p1, p2, p3] => decide (ax_ds[p0]? = some (2, z, 0, 0, 0)) && (decide (ax_ds[p1]? = some (3, ax_ow z, 0, 0, 0)) && (decide (ax_ds[p2]? = some (5, z, 0, 0, 0)) && decide (ax_ds[p3]? = some (6, z, 0, 0, 0))))
    | _, _ => false)))))
def ax_okM (z : Nat) : Bool := ax_okW z && (match ax_code[z]? with
  | some e => ax_rOk e.1 (ax_rT z) && (ax_okB (ax_ow z) (ax_c z) (ax_nL z) (ax_fr z) (ax_lo z) e.2 && e.2.all (fun b => ax_okR e.1 b.2.2))
  | none => false)
