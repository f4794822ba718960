def am_rng (z : Int) : Bool := decide (-2147483648 ≤ z) && decide (z ≤ 2147483647)
def am_lkI : List (Int × Int) → Int → Int → Int
  | [], _, d => d
  | (k, t) :: r, x, d => if x = k then t else am_lkI r x d
/-- the abstract instruction beside the real one -/
def am_rel (rt : Option FieldType) (o mx pc : Nat) (real : Instr) (len : Nat) (abs : Instr) : Bool := match real, abs with
  | .iconst n, .iconst z => decide (Int32.ofInt n = Int32.ofInt z) && am_rng z && Nat.beq len 1
  | .bipush n, .iconst z => decide ((Int8.ofInt n).toInt32 = Int32.ofInt z) && am_rng z && Nat.beq len 2
  | .sipush n, .iconst z => decide ((Int16.ofInt n).toInt32 = Int32.ofInt z) && am_rng z && Nat.beq len 3
  | .ldc i, .iconst z => (am_ct.getD o []).any (fun e => Nat.beq e.1 i && decide (e.2.1 = z)) && am_rng z && Nat.beq len 2
  | .ldc_w i, .iconst z => (am_ct.getD o []).any (fun e => Nat.beq e.1 i && decide (e.2.1 = z)) && am_rng z && Nat.beq len 3
  | .ldc i, .ldc n => Nat.beq o 6 && (am_sl.getD 6 []).any (fun e => Nat.beq e.1 i && Nat.beq e.2 n) && Nat.beq len 2
  | .lconst n, .ldc2_w k => Nat.beq n.val k && Nat.beq len 1
  | .ldc2_w i, .ldc2_w n => (am_lt.getD o []).any (fun e => Nat.beq e.1 i && Nat.beq e.2.1 n) && Nat.beq len 3
  | .iload_n n, .iload k => Nat.beq n.val k && Nat.beq len 1
  | .lload_n n, .lload k => Nat.beq n.val k && Nat.beq len 1
  | .aload_n n, .aload k => Nat.beq n.val k && Nat.beq len 1
  | .iload n, .iload k => Nat.beq n k && Nat.beq len 2
  | .lload n, .lload k => Nat.beq n k && Nat.beq len 2
  | .aload n, .aload k => Nat.beq n k && Nat.beq len 2
  | .istore_n n, .istore k => Nat.beq n.val k && Nat.blt k mx && Nat.beq len 1
  | .lstore_n n, .lstore k => Nat.beq n.val k && Nat.blt (k + 1) mx && Nat.beq len 1
  | .astore_n n, .astore k => Nat.beq n.val k && Nat.blt k mx && Nat.beq len 1
  | .istore n, .istore k => Nat.beq n k && Nat.blt k mx && Nat.beq len 2
  | .lstore n, .lstore k => Nat.beq n k && Nat.blt (k + 1) mx && Nat.beq len 2
  | .astore n, .astore k => Nat.beq n k && Nat.blt k mx && Nat.beq len 2
  | .iinc n a, .iinc k b => Nat.beq n k && decide (a = b) && Nat.blt k mx && Nat.beq len 3
  | .getfield i, .getfield n => (am_ft.getD o []).any (fun e => Nat.beq e.1 i && Nat.beq e.2.1 n) && Nat.beq len 3
  | .putfield i, .putfield n => (am_ft.getD o []).any (fun e => Nat.beq e.1 i && Nat.beq e.2.1 n) && Nat.beq len 3
  | .getstatic i, .getstatic n => (am_gs.getD o []).any (fun e => Nat.beq e.1 i && Nat.beq e.2.1 n) && Nat.beq len 3
  | .ifCond c off, .ifCond c2 t => decide (c = c2) && decide ((pc : Int) + off = t) && decide (0 ≤ t) && Nat.beq len 3
  | .if_icmp c off, .if_icmp c2 t => decide (c = c2) && decide ((pc : Int) + off = t) && decide (0 ≤ t) && Nat.beq len 3
  | .goto off, .goto t => decide ((pc : Int) + off = t) && decide (0 ≤ t) && Nat.beq len 3
  | .tableswitch dd lo hi offs, .lookupswitch d ps => decide ((pc : Int) + dd = d) && decide (0 ≤ d) && ps.toList.all (fun e => decide (lo ≤ e.1) && decide (e.1 ≤ hi) && decide (0 ≤ e.2)) && (List.range (hi - lo + 1).toNat).all (fun j => match offs[j]? with | some of => decide ((pc : Int) + of = am_lkI ps.toList (lo + j) d) | none => false)
  | .lookupswitch dd qs, .lookupswitch d ps => decide ((pc : Int) + dd = d) && decide (0 ≤ d) && (qs.toList.zip (qs.toList.drop 1)).all (fun (a, next) => a.1 < next.1) && ps.toList.all (fun e => decide (0 ≤ e.2) && qs.toList.any (fun q => decide (q.1 = e.1))) && qs.toList.all (fun q => decide ((pc : Int) + q.2 = am_lkI ps.toList q.1 d))
  | .invokevirtual i, .invokeinterface y c => (am_mt.getD o []).any (fun e => Nat.beq e.1 i && Nat.beq e.2.1 y && Nat.ble 2 e.2.2.1 && Nat.beq e.2.2.2.1 c) && Nat.beq len 3
  | .invokestatic i, .invokeinterface y c => (am_mt.getD o []).any (fun e => Nat.beq e.1 i && Nat.beq e.2.1 y && Nat.blt e.2.2.1 2 && Nat.beq e.2.2.2.1 c) && Nat.beq len 3
  | .invokestatic i, .fsub => (am_mt.getD o []).any (fun e => Nat.beq e.1 i && Nat.beq e.2.1 196 && Nat.beq e.2.2.1 0) && Nat.beq len 3
  | .invokestatic i, .fadd => (am_mt.getD o []).any (fun e => Nat.beq e.1 i && Nat.beq e.2.1 197 && Nat.beq e.2.2.1 0) && Nat.beq len 3
  | .invokestatic i, .invokedynamic _ => (am_act.getD o []).any (fun e => Nat.beq e.1 i) && Nat.beq len 3
  | .iadd, .iadd => Nat.beq len 1
  | .isub, .isub => Nat.beq len 1
  | .imul, .imul => Nat.beq len 1
  | .idiv, .idiv => Nat.beq len 1
  | .irem, .irem => Nat.beq len 1
  | .iand, .iand => Nat.beq len 1
  | .ior, .ior => Nat.beq len 1
  | .ixor, .ixor => Nat.beq len 1
  | .ishl, .ishl => Nat.beq len 1
  | .ishr, .ishr => Nat.beq len 1
  | .iushr, .iushr => Nat.beq len 1
  | .i2b, .i2b => Nat.beq len 1
  | .i2l, .i2l => Nat.beq len 1
  | .l2i, .l2i => Nat.beq len 1
  | .ladd, .ladd => Nat.beq len 1
  | .lsub, .lsub => Nat.beq len 1
  | .lmul, .lmul => Nat.beq len 1
  | .land, .land => Nat.beq len 1
  | .lor, .lor => Nat.beq len 1
  | .lxor, .lxor => Nat.beq len 1
  | .lneg, .lneg => Nat.beq len 1
  | .lshl, .lshl => Nat.beq len 1
  | .lshr, .lshr => Nat.beq len 1
  | .lushr, .lushr => Nat.beq len 1
  | .lcmp, .lcmp => Nat.beq len 1
  | .dup, .dup => Nat.beq len 1
  | .dup2, .dup2 => Nat.beq len 1
  | .pop, .pop => Nat.beq len 1
  | .iaload, .iaload => Nat.beq len 1
  | .baload, .baload => Nat.beq len 1
  | .laload, .laload => Nat.beq len 1
  | .aaload, .aaload => Nat.beq len 1
  | .iastore, .iastore => Nat.beq len 1
  | .bastore, .bastore => Nat.beq len 1
  | .lastore, .lastore => Nat.beq len 1
  | .arraylength, .arraylength => Nat.beq len 1
  | .ireturn, .ireturn => Nat.beq len 1 && am_rtk rt .ireturn
  | .lreturn, .lreturn => Nat.beq len 1 && am_rtk rt .lreturn
  | .areturn, .areturn => Nat.beq len 1 && am_rtk rt .areturn
  | .return_, .return_ => Nat.beq len 1 && am_rtk rt .return_
  | _, _ => false
def am_one (rt : Option FieldType) (o mx : Nat) (by' : ByteArray) (e : am_I) : Bool := match e.2.2.2 with
  | .goto_w t => decide ((e.1 : Int) = t)
  | _ => decide (decode by' e.1 = .ok (e.2.1, e.2.2.1)) && am_rel rt o mx e.1 e.2.1 e.2.2.1 e.2.2.2
def am_chkL (rt : Option FieldType) (o mx : Nat) (by' : ByteArray) : List am_I → Bool
  | [] => true
  | e :: r => am_one rt o mx by' e && (match r with | [] => true | e2 :: _ => Nat.beq e2.1 (e.1 + e.2.2.1)) && am_chkL rt o mx by' r
def am_chk (y : Nat) (bl : List (Nat × List am_I)) (ct : List (Nat × List Nat)) (b : Bool) : Bool := plainName (am_mi y).1.cls && decide (am_cn.getD (am_mi y).2.2.2.2 "" = (am_mi y).1.cls) && (match am_bool y, b with | true, true => true | false, false => true | _, _ => false) && bl.all fun e => am_chkL (am_mi y).2.2.2.1 (am_mi y).2.2.2.2 (am_mi y).2.2.1 (am_mi y).2.1 e.2 && (match e.2 with | [] => false | x :: _ => Nat.beq x.1 e.1)
