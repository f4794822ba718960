/-! THE ABSTRACT MACHINE: whole numbers for ints, cells by places, a formula for each stretch of code -/
abbrev am_V : Type := Int ⊕ (Int64 ⊕ Nat)
abbrev am_M : Type := (Nat → Int → Int) × (Nat → Int → Int64)
abbrev am_L : Type := List (Nat × am_V)
abbrev am_S : Type := Int × (Int → Int)
abbrev am_K : Type := am_L → List am_V → am_M → Prop
def am_R (z : Int) : Prop := -2147483648 ≤ z ∧ z ≤ 2147483647
def am_wr (m : am_M) (id : Nat) (z v : Int) : am_M := (fun i => if i = id then (fun j => if j = z then v else m.1 id j) else m.1 i, m.2)
def am_wl (m : am_M) (id : Nat) (z : Int) (v : Int64) : am_M := (m.1, fun i => if i = id then (fun j => if j = z then v else m.2 id j) else m.2 i)
/-- a stretch of n copied: from f at sp to g at dp -/
def am_cpy {α : Type} (f g : Int → α) (sp dp n : Int) : Int → α := fun j => if dp ≤ j ∧ j < dp + n then f (sp + (j - dp)) else g j
def am_ws1 (m : am_M) (id : Nat) (f : Int → Int) : am_M := (fun i => if i = id then f else m.1 i, m.2)
def am_ws2 (m : am_M) (id : Nat) (f : Int → Int64) : am_M := (m.1, fun i => if i = id then f else m.2 i)
def am_lay (q : Nat) : Nat × List (Nat × Nat) := am_layL.getD q (200, [])
def am_fld (q n : Nat) : Nat × Nat := match Nat.beq (am_lay q).1 (n / 100) with
  | true => (am_lay q).2.getD (n % 100) (9, 0)
  | false => (9, 0)
def am_len (q : Nat) : Nat := ((am_lay q).2.getD 0 (0, 0)).1
def am_lowT : List Int := [0, 1, 1, 0, 0, 0, 0]
def am_highT : List Int := [0, 32, 16, 8, 999999999, 2, 2]
def am_untT : List Int := [0, 16, 8, 4, 1, 0, 0]
def am_tab (q : Nat) (i : Int) : Int := match q with
  | 900 => am_lowT.getD i.toNat 0
  | 901 => am_highT.getD i.toNat 0
  | _ => am_untT.getD i.toNat 0
-- the values of bit operations
def am_and (a b : Int) : Int := (Int32.ofInt a &&& Int32.ofInt b).toInt
def am_or (a b : Int) : Int := (Int32.ofInt a ||| Int32.ofInt b).toInt
def am_xor (a b : Int) : Int := (Int32.ofInt a ^^^ Int32.ofInt b).toInt
def am_shl (a b : Int) : Int := (Int32.ofInt a <<< (Int32.ofInt b &&& 31)).toInt
def am_shr (a b : Int) : Int := (Int32.ofInt a >>> (Int32.ofInt b &&& 31)).toInt
def am_ushr (a b : Int) : Int := (((Int32.ofInt a).toUInt32 >>> ((Int32.ofInt b).toUInt32 &&& Int32.toUInt32 31)).toInt32).toInt
def am_i2b (a : Int) : Int := (Int32.ofInt a).toInt8.toInt32.toInt
def am_i2l (a : Int) : Int64 := (Int32.ofInt a).toInt64
def am_l2i (x : Int64) : Int := x.toInt32.toInt
def am_lshl (x : Int64) (b : Int) : Int64 := x <<< ((Int32.ofInt b).toInt64 &&& 63)
def am_lshr (x : Int64) (b : Int) : Int64 := x >>> ((Int32.ofInt b).toInt64 &&& 63)
def am_lushr (x : Int64) (b : Int) : Int64 := (x.toUInt64 >>> ((Int32.ofInt b).toInt64.toUInt64 &&& Int64.toUInt64 63)).toInt64
def am_lcmp (x y : Int64) : Int := (lg_cmp x y).toInt
-- locals
def am_lng : am_V → Bool
  | .inr (.inl _) => true
  | _ => false
def am_get : am_L → Nat → Option am_V
  | [], _ => none
  | (k, v) :: r, i => match Nat.beq k i with
    | true => some v
    | false => am_get r i
def am_del : am_L → Nat → am_L
  | [], _ => []
  | (k, v) :: r, i => match Nat.beq k i || (Nat.beq (k + 1) i && am_lng v) with
    | true => am_del r i
    | false => (k, v) :: am_del r i
def am_ins (k : Nat) (v : am_V) : am_L → am_L
  | [] => [(k, v)]
  | (j, w) :: r => match Nat.blt k j with
    | true => (k, v) :: (j, w) :: r
    | false => (j, w) :: am_ins k v r
def am_set (lv : am_L) (k : Nat) (v : am_V) : am_L := match am_lng v with
  | true => am_ins k v (am_del (am_del lv (k + 1)) k)
  | false => am_ins k v (am_del lv k)
def am_pick (lv : am_L) : List Nat → Option am_L
  | [] => some []
  | k :: ks => match am_get lv k with
    | none => none
    | some v => match am_pick lv ks with
      | none => none
      | some r => some ((k, v) :: r)
def am_lk {α : Type} : List (Nat × α) → Nat → Option α
  | [], _ => none
  | (k, v) :: r, i => match Nat.beq k i with
    | true => some v
    | false => am_lk r i
-- what stands on the stack
def am_i1 (st : List am_V) (k : Int → List am_V → Prop) : Prop := match st with
  | .inl a :: r => k a r
  | _ => False
def am_i2 (st : List am_V) (k : Int → Int → List am_V → Prop) : Prop := match st with
  | .inl b :: .inl a :: r => k a b r
  | _ => False
def am_l1 (st : List am_V) (k : Int64 → List am_V → Prop) : Prop := match st with
  | .inr (.inl a) :: r => k a r
  | _ => False
def am_l2 (st : List am_V) (k : Int64 → Int64 → List am_V → Prop) : Prop := match st with
  | .inr (.inl b) :: .inr (.inl a) :: r => k a b r
  | _ => False
def am_li (st : List am_V) (k : Int64 → Int → List am_V → Prop) : Prop := match st with
  | .inl b :: .inr (.inl a) :: r => k a b r
  | _ => False
def am_r1 (st : List am_V) (k : Nat → List am_V → Prop) : Prop := match st with
  | .inr (.inr a) :: r => k a r
  | _ => False
def am_ri (st : List am_V) (k : Nat → Int → List am_V → Prop) : Prop := match st with
  | .inl i :: .inr (.inr a) :: r => k a i r
  | _ => False
def am_rii (st : List am_V) (k : Nat → Int → Int → List am_V → Prop) : Prop := match st with
  | .inl v :: .inl i :: .inr (.inr a) :: r => k a i v r
  | _ => False
def am_ril (st : List am_V) (k : Nat → Int → Int64 → List am_V → Prop) : Prop := match st with
  | .inr (.inl v) :: .inl i :: .inr (.inr a) :: r => k a i v r
  | _ => False
def am_oi (v : Option am_V) (k : Int → Prop) : Prop := match v with
  | some (.inl z) => k z
  | _ => False
def am_ol (v : Option am_V) (k : Int64 → Prop) : Prop := match v with
  | some (.inr (.inl z)) => k z
  | _ => False
def am_or' (v : Option am_V) (k : Nat → Prop) : Prop := match v with
  | some (.inr (.inr z)) => k z
  | _ => False
def am_ild (S : am_S) (q : Nat) (m : am_M) (i : Int) (k : Int → Prop) : Prop := match Nat.beq q 800 with
  | true => 0 ≤ i ∧ i < S.1 ∧ k (S.2 i)
  | false => match Nat.ble 900 q && Nat.ble q 902 with
    | true => 0 ≤ i ∧ i < 7 ∧ k (am_tab q i)
    | false => match Nat.beq (am_lay q).1 100 with
      | true => 0 ≤ i ∧ i < (am_len q : Int) ∧ k (m.1 q i)
      | false => False
def am_bld (q : Nat) (m : am_M) (i : Int) (k : Int → Prop) : Prop := match Nat.beq (am_lay q).1 101 || Nat.beq (am_lay q).1 102 with
  | true => 0 ≤ i ∧ i < (am_len q : Int) ∧ k (m.1 q i)
  | false => False
def am_lld (q : Nat) (m : am_M) (i : Int) (k : Int64 → Prop) : Prop := match Nat.beq (am_lay q).1 103 with
  | true => 0 ≤ i ∧ i < (am_len q : Int) ∧ k (m.2 q i)
  | false => False
def am_ist (q : Nat) (m : am_M) (i v : Int) (k : am_M → Prop) : Prop := match Nat.beq (am_lay q).1 100 with
  | true => 0 ≤ i ∧ i < (am_len q : Int) ∧ k (am_wr m q i v)
  | false => False
def am_bst (q : Nat) (m : am_M) (i v : Int) (k : am_M → Prop) : Prop := match Nat.beq (am_lay q).1 101 with
  | true => 0 ≤ i ∧ i < (am_len q : Int) ∧ (v = 0 ∨ v = 1) ∧ k (am_wr m q i v)
  | false => match Nat.beq (am_lay q).1 102 with
    | true => 0 ≤ i ∧ i < (am_len q : Int) ∧ (-128 ≤ v ∧ v ≤ 127) ∧ k (am_wr m q i v)
    | false => False
def am_lst (q : Nat) (m : am_M) (i : Int) (v : Int64) (k : am_M → Prop) : Prop := match Nat.beq (am_lay q).1 103 with
  | true => 0 ≤ i ∧ i < (am_len q : Int) ∧ k (am_wl m q i v)
  | false => False
def am_aldL (i : Int) (k : Nat → Prop) : Int → List (Nat × Nat) → Prop
  | _, [] => True
  | n, (q, _) :: r => (i = n → k q) ∧ am_aldL i k (n + 1) r
def am_ald (q : Nat) (i : Int) (k : Nat → Prop) : Prop := match Nat.beq (am_lay q).1 104 with
  | true => 0 ≤ i ∧ i < ((am_lay q).2.length : Int) ∧ am_aldL i k 0 (am_lay q).2
  | false => False
def am_gf (q n : Nat) (m : am_M) (k : am_V → Prop) : Prop := match am_fld q n with
  | (0, x) => k (.inl (m.1 x 0))
  | (1, x) => k (.inr (.inl (m.2 x 0)))
  | (2, x) => k (.inr (.inr x))
  | (3, x) => k (.inl (m.1 x 0))
  | _ => False
def am_pf (st : List am_V) (n : Nat) (m : am_M) (k : List am_V → am_M → Prop) : Prop := match st with
  | .inl v :: .inr (.inr q) :: r => (match am_fld q n with
    | (0, x) => k r (am_wr m x 0 v)
    | (3, x) => (v = 0 ∨ v = 1) ∧ k r (am_wr m x 0 v)
    | _ => False)
  | .inr (.inl v) :: .inr (.inr q) :: r => (match am_fld q n with
    | (1, x) => k r (am_wl m x 0 v)
    | _ => False)
  | _ => False
def am_al (q : Nat) (S : am_S) (k : Int → Prop) : Prop := match Nat.beq q 800 with
  | true => k S.1
  | false => match Nat.ble 900 q && Nat.ble q 902 with
   | true => k 7
   | false => match Nat.ble 100 (am_lay q).1 && Nat.ble (am_lay q).1 103 with
    | true => k (am_len q : Int)
    | false => False
def am_cp (st : List am_V) (m : am_M) (k : List am_V → am_M → Prop) : Prop := match st with
  | .inl n :: .inl dp :: .inr (.inr b) :: .inl sp :: .inr (.inr a) :: [] => (match Nat.ble 900 a with
    | true => (match Nat.beq a 902 && Nat.beq (am_lay b).1 100 with
      | true => 0 ≤ sp ∧ 0 ≤ dp ∧ 0 ≤ n ∧ sp + n ≤ 7 ∧ dp + n ≤ (am_len b : Int) ∧ k [] (am_ws1 m b (am_cpy (am_tab a) (m.1 b) sp dp n))
      | false => False)
    | false => (match Nat.beq (am_lay a).1 100 && Nat.beq (am_lay b).1 100 with
      | true => 0 ≤ sp ∧ 0 ≤ dp ∧ 0 ≤ n ∧ sp + n ≤ (am_len a : Int) ∧ dp + n ≤ (am_len b : Int) ∧ k [] (am_ws1 m b (am_cpy (m.1 a) (m.1 b) sp dp n))
      | false => (match Nat.beq (am_lay a).1 103 && Nat.beq (am_lay b).1 103 with
        | true => 0 ≤ sp ∧ 0 ≤ dp ∧ 0 ≤ n ∧ sp + n ≤ (am_len a : Int) ∧ dp + n ≤ (am_len b : Int) ∧ k [] (am_ws2 m b (am_cpy (m.2 a) (m.2 b) sp dp n))
        | false => False)))
  | _ => False
def am_cmp (c : ClassFile.Cond) (a b : Int) : Prop := match c with
  | .eq => a = b
  | .ne => a ≠ b
  | .lt => a < b
  | .ge => b ≤ a
  | .gt => b < a
  | .le => a ≤ b
def am_popn : Nat → List am_V → List am_V → Option (List am_V × List am_V)
  | 0, acc, st => some (acc, st)
  | _ + 1, _, [] => none
  | n + 1, acc, v :: st => am_popn n (v :: acc) st
def am_cat : List am_V → Nat
  | [] => 0
  | v :: r => (match am_lng v with | true => 2 | false => 1) + am_cat r
def am_lsw (x : Int) (J : Int → Prop) (d : Int) : List (Int × Int) → List Int → Prop
  | [], ns => ns.foldr (fun n P => x ≠ n → P) (J d)
  | (k, t) :: r, ns => (x = k → J t) ∧ am_lsw x J d r (k :: ns)
def am_dup (st : List am_V) (k : List am_V → Prop) : Prop := match st with
  | v :: r => (match am_lng v with | true => False | false => k (v :: v :: r))
  | _ => False
def am_dup2 (st : List am_V) (k : List am_V → Prop) : Prop := match st with
  | v :: r => (match am_lng v with
    | true => k (v :: v :: r)
    | false => (match r with
      | w :: r' => (match am_lng w with | true => False | false => k (v :: w :: v :: w :: r'))
      | _ => False))
  | _ => False
def am_pop (st : List am_V) (k : List am_V → Prop) : Prop := match st with
  | v :: r => (match am_lng v with | true => False | false => k r)
  | _ => False
def am_vi (v : am_V) (k : Int → Prop) : Prop := match v with
  | .inl z => k z
  | _ => False
def am_vl (v : am_V) (k : Int64 → Prop) : Prop := match v with
  | .inr (.inl z) => k z
  | _ => False
def am_vr (v : am_V) (k : Nat → Prop) : Prop := match v with
  | .inr (.inr z) => k z
  | _ => False
/-- two ints on top, what lies below them is small -/
def am_i2s (st : List am_V) (k : Int → Int → List am_V → Prop) : Prop := match st with
  | .inl b :: .inl a :: r => (match Nat.ble (am_cat r) 8 with | true => k a b r | false => False)
  | _ => False
abbrev am_Call : Type := Nat → List am_V → am_M → (am_V → am_M → Prop) → Prop
def am_rcv (n : Nat) (as : List am_V) (X : Prop) : Prop := match n with
  | 0 => X
  | 17 => (match as with
    | .inr (.inr q) :: _ => (1000 ≤ q ∧ q < 1014) ∧ X
    | _ => False)
  | n + 1 => (match as with
    | .inr (.inr q) :: _ => (match Nat.beq (am_lay q).1 n with | true => X | false => False)
    | _ => False)
def am_inv (call : am_Call) (y c : Nat) (lv : am_L) (st : List am_V) (m : am_M) (K : am_K) : Prop := match am_popn (c % 1000 / 10) [] st with
  | none => False
  | some (as, r) => (match Nat.ble (am_cat r) 8 with
    | false => False
    | true => am_rcv (c / 1000) as (match c % 10 with
      | 0 => call y as m (fun _ m' => K lv r m')
      | 1 => call y as m (fun v m' => am_vi v fun z => K lv (.inl z :: r) m')
      | 2 => call y as m (fun v m' => am_vl v fun z => K lv (.inr (.inl z) :: r) m')
      | _ => call y as m (fun v m' => am_vr v fun z => K lv (.inr (.inr z) :: r) m')))
/-- b: whether the method answers a boolean -/
def am_step (S : am_S) (call : am_Call) (b : Bool) (ret : am_V → am_M → Prop) (i : Instr) (lv : am_L) (st : List am_V) (m : am_M) (K : am_K) (J : Nat → am_K) : Prop := match i with
  | .iconst z => K lv (.inl z :: st) m
  | .ldc2_w n => K lv (.inr (.inl (Int64.ofNat n)) :: st) m
  | .ldc n => K lv (.inr (.inr n) :: st) m
  | .iload k => am_oi (am_get lv k) fun z => K lv (.inl z :: st) m
  | .lload k => am_ol (am_get lv k) fun z => K lv (.inr (.inl z) :: st) m
  | .aload k => am_or' (am_get lv k) fun z => K lv (.inr (.inr z) :: st) m
  | .istore k => am_i1 st fun z r => K (am_set lv k (.inl z)) r m
  | .lstore k => am_l1 st fun z r => K (am_set lv k (.inr (.inl z))) r m
  | .astore k => am_r1 st fun z r => K (am_set lv k (.inr (.inr z))) r m
  | .iinc k n => am_oi (am_get lv k) fun z => am_R (z + n) ∧ K (am_set lv k (.inl (z + n))) st m
  | .iadd => am_i2 st fun a b r => am_R (a + b) ∧ K lv (.inl (a + b) :: r) m
  | .isub => am_i2 st fun a b r => am_R (a - b) ∧ K lv (.inl (a - b) :: r) m
  | .imul => am_i2 st fun a b r => am_R (a * b) ∧ K lv (.inl (a * b) :: r) m
  | .idiv => am_i2 st fun a b r => 0 ≤ a ∧ 0 < b ∧ K lv (.inl (a / b) :: r) m
  | .irem => am_i2 st fun a b r => 0 ≤ a ∧ 0 < b ∧ K lv (.inl (a % b) :: r) m
  | .iand => am_i2 st fun a b r => K lv (.inl (am_and a b) :: r) m
  | .ior => am_i2 st fun a b r => K lv (.inl (am_or a b) :: r) m
  | .ixor => am_i2 st fun a b r => K lv (.inl (am_xor a b) :: r) m
  | .ishl => am_i2 st fun a b r => K lv (.inl (am_shl a b) :: r) m
  | .ishr => am_i2 st fun a b r => K lv (.inl (am_shr a b) :: r) m
  | .iushr => am_i2 st fun a b r => K lv (.inl (am_ushr a b) :: r) m
  | .i2b => am_i1 st fun a r => K lv (.inl (am_i2b a) :: r) m
  | .i2l => am_i1 st fun a r => K lv (.inr (.inl (am_i2l a)) :: r) m
  | .l2i => am_l1 st fun a r => K lv (.inl (am_l2i a) :: r) m
  | .ladd => am_l2 st fun a b r => K lv (.inr (.inl (a + b)) :: r) m
  | .lsub => am_l2 st fun a b r => K lv (.inr (.inl (a - b)) :: r) m
  | .lmul => am_l2 st fun a b r => K lv (.inr (.inl (a * b)) :: r) m
  | .land => am_l2 st fun a b r => K lv (.inr (.inl (a &&& b)) :: r) m
  | .lor => am_l2 st fun a b r => K lv (.inr (.inl (a ||| b)) :: r) m
  | .lxor => am_l2 st fun a b r => K lv (.inr (.inl (a ^^^ b)) :: r) m
  | .lneg => am_l1 st fun a r => K lv (.inr (.inl (-a)) :: r) m
  | .lshl => am_li st fun a b r => K lv (.inr (.inl (am_lshl a b)) :: r) m
  | .lshr => am_li st fun a b r => K lv (.inr (.inl (am_lshr a b)) :: r) m
  | .lushr => am_li st fun a b r => K lv (.inr (.inl (am_lushr a b)) :: r) m
  | .lcmp => am_l2 st fun a b r => K lv (.inl (am_lcmp a b) :: r) m
  | .dup => am_dup st fun r => K lv r m
  | .dup2 => am_dup2 st fun r => K lv r m
  | .pop => am_pop st fun r => K lv r m
  | .getfield n => am_r1 st fun q r => am_gf q n m fun v => K lv (v :: r) m
  | .putfield n => am_pf st n m fun r m' => K lv r m'
  | .getstatic n => K lv (.inr (.inr n) :: st) m
  | .iaload => am_ri st fun q i r => am_ild S q m i fun z => K lv (.inl z :: r) m
  | .baload => am_ri st fun q i r => am_bld q m i fun z => K lv (.inl z :: r) m
  | .laload => am_ri st fun q i r => am_lld q m i fun z => K lv (.inr (.inl z) :: r) m
  | .aaload => am_ri st fun q i r => am_ald q i fun z => K lv (.inr (.inr z) :: r) m
  | .iastore => am_rii st fun q i v r => am_ist q m i v fun m' => K lv r m'
  | .bastore => am_rii st fun q i v r => am_bst q m i v fun m' => K lv r m'
  | .lastore => am_ril st fun q i v r => am_lst q m i v fun m' => K lv r m'
  | .arraylength => am_r1 st fun q r => am_al q S fun z => K lv (.inl z :: r) m
  | .ifCond c t => am_i1 st fun a r => (am_cmp c a 0 → J t.toNat lv r m) ∧ (¬ am_cmp c a 0 → K lv r m)
  | .if_icmp c t => am_i2 st fun a b r => (am_cmp c a b → J t.toNat lv r m) ∧ (¬ am_cmp c a b → K lv r m)
  | .goto t => J t.toNat lv st m
  | .goto_w t => J t.toNat lv st m
  | .lookupswitch d ps => am_i1 st fun a r => am_lsw a (fun t => J t.toNat lv r m) d ps.toList []
  | .invokeinterface y c => am_inv call y c lv st m K
  | .fsub => am_i2s st fun a b r => K lv (.inl (if b < a then b else a) :: r) m
  | .fadd => am_i2s st fun a b r => K lv (.inl (if a < b then b else a) :: r) m
  | .invokedynamic _ => am_cp st m fun r m' => K lv r m'
  | .ireturn => (match st with
    | [.inl z] => (match b with | true => (z = 0 ∨ z = 1) ∧ ret (.inl z) m | false => ret (.inl z) m)
    | _ => False)
  | .lreturn => (match st with | [.inr (.inl z)] => ret (.inr (.inl z)) m | _ => False)
  | .areturn => (match st with | [.inr (.inr z)] => ret (.inr (.inr z)) m | _ => False)
  | .return_ => (match st with | [] => ret (.inl 0) m | _ => False)
  | _ => False
def am_run (S : am_S) (call : am_Call) (b : Bool) (ret : am_V → am_M → Prop) (G : Nat → am_K) (bl : List (Nat × List am_I)) (ct : List (Nat × List Nat)) : Nat → List am_I → am_L → List am_V → am_M → Prop
  | 0, _, _, _, _ => False
  | _ + 1, [], _, _, _ => False
  | f + 1, e :: r, lv, st, m => am_step S call b ret e.2.2.2 lv st m (am_run S call b ret G bl ct f r) (fun t lv st m => match am_lk ct t with
    | some ks => (match am_pick lv ks with | some lv' => G t lv' st m | none => False)
    | none => (match am_lk bl t with | some is => am_run S call b ret G bl ct f is lv st m | none => False))
