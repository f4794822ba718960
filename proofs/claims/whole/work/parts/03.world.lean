/-! WORLDS: what the abstract machine's state is in the real one -/
/-- tables of classes; class of arrays by kind; addresses; the script's length and ints; addresses of the texts' bytes -/
abbrev am_E : Type := va_G × (Nat → ClassId) × (Nat → Nat) × (Nat × (Nat → Int32)) × (Nat → Nat)
def am_ad (E : am_E) (q : Nat) : Nat := E.2.2.1 q
def am_cv (E : am_E) : am_V → Value
  | .inl z => .int (Int32.ofInt z)
  | .inr (.inl x) => .long x
  | .inr (.inr q) => .ref (am_ad E q)
def am_vok : am_V → Prop
  | .inl z => am_R z
  | _ => True
def am_fv (E : am_E) (m : am_M) (e : Nat × Nat) : Value := match e.1 with
  | 0 => .int (Int32.ofInt (m.1 e.2 0))
  | 1 => .long (m.2 e.2 0)
  | 2 => .ref (am_ad E e.2)
  | _ => .int (Int32.ofInt (m.1 e.2 0))
def am_cell (E : am_E) (m : am_M) (q : Nat) : va_E :=
  if (am_lay q).1 < 100 then .inr ((am_lay q).1, (am_lay q).2.map (am_fv E m))
  else if (am_lay q).1 = 103 then .inl (E.2.1 103, am_len q, .inr (.inl fun j => m.2 q (j : Int)))
  else if (am_lay q).1 = 104 then .inl (E.2.1 104, (am_lay q).2.length, .inr (.inr (.inr (.inr fun j => some (am_ad E ((am_lay q).2.getD j (0, 0)).1)))))
  else .inl (E.2.1 (am_lay q).1, am_len q, .inl fun j => Int32.ofInt (m.1 q (j : Int)))
def am_ws (E : am_E) (m : am_M) : va_W := (List.range am_N).map fun q => (am_ad E q, am_cell E m q)
def am_tys (E : am_E) : List (ClassId × FieldType) := [(E.2.1 100, .int), (E.2.1 101, .boolean), (E.2.1 102, .byte), (E.2.1 103, .long), (E.2.1 104, .object "TripleSieve$Sieve")]
/-- 1: of two values; 2: a byte; 0: any int -/
def am_rg (id : Nat) : Nat := if id < 1000 then (if (am_lay id).1 = 101 then 1 else if (am_lay id).1 = 102 then 2 else 0)
  else if ((am_lay ((id - 1000) / 100)).2.getD ((id - 1000) % 100) (0, 0)).1 = 3 ∧ (am_lay ((id - 1000) / 100)).1 < 100 then 1 else 0
def am_In (r : Nat) (z : Int) : Prop := match r with
  | 1 => z = 0 ∨ z = 1
  | 2 => -128 ≤ z ∧ z ≤ 127
  | _ => am_R z
def am_MR (m : am_M) : Prop := ∀ (id : Nat) (z : Int), am_In (am_rg id) (m.1 id z)
def am_strlen (i : Nat) : Nat := (am_str.getD i "").length
def am_strT (i : Nat) : List Int32 := ((am_str.getD i "").toList.map fun c => Int32.ofNat c.toNat)
def am_stab (E : am_E) (A : Nat → Prop) (s : State) (n : String) (q : Nat) : Prop := va_Z "TripleSieve" n "[I" (.ref (am_ad E q)) A s s.heap ∧ va_T .int (am_ad E q) 7 (fun j => .int (Int32.ofInt (am_tab q (j : Int)))) A s s.heap
/-- texts, and what the JDK's own statics hold that they are read by -/
def am_SS (E : am_E) (A : Nat → Prop) (s : State) (H : Heap) : Prop := vk_S 14 (am_str.map String.length) ((List.range 14).map am_strT) (fun i => am_ad E (1000 + i)) E.2.2.2.2 A s H
  ∧ va_Z "java/lang/String" "COMPACT_STRINGS" "Z" (.int 1) A s H ∧ va_Zq "jdk/internal/util/Preconditions" "SIOOBE_FORMATTER" "Ljava/util/function/BiFunction;" A s H
theorem am_SS.moved {E : am_E} {A : Nat → Prop} {u U : State} {H : Heap} (hvm : u.vm.Alike U.vm) (h : am_SS E A u H) : am_SS E A U H := ⟨h.1.moved hvm, h.2.1.moved hvm, h.2.2.moved hvm⟩
theorem am_SS.kept {E : am_E} {A : Nat → Prop} {U : State} {H H1 : Heap} (h : am_SS E A U H) (hq : ∀ a : Nat, a < H.size → ¬ A a → H1[a]? = H[a]?) : am_SS E A U H1 := ⟨h.1.kept hq, h.2.1.kept hq, h.2.2.kept hq⟩
/-- what is only read: static rows, texts, the script, the words on nest mates -/
def am_RO (E : am_E) (A : Nat → Prop) (s : State) : Prop :=
  am_stab E A s "LOWEST" 900 ∧ am_stab E A s "HIGHEST" 901 ∧ am_stab E A s "UNTOLD" 902
  ∧ am_SS E A s s.heap
  ∧ (∀ e ∈ am_sl.getD 6 [], vk_R "TripleSieve$Reader" e.1 (am_str.getD (e.2 - 1000) "") (am_ad E e.2) s)
  ∧ (va_X (am_ad E 800) E.2.2.2.1.1 E.2.2.2.1.2 s s.heap ∧ am_ad E 800 < s.heap.size ∧ ¬ A (am_ad E 800))
  ∧ (∀ w ∈ am_nst, va_Nw w s)
  ∧ (∀ q, q < am_N → A (am_ad E q)) ∧ E.2.2.2.1.1 ≤ 3072
def am_Wd (E : am_E) (A : Nat → Prop) (m : am_M) (s : State) (H : Heap) : Prop := va_P E.1 vwCl (am_ws E m) H ∧ va_K E.1 vwCl (am_tys E) s ∧ va_D A (am_ws E m) ∧ am_MR m
def am_sc (E : am_E) : am_S := ((E.2.2.2.1.1 : Int), fun i => (E.2.2.2.1.2 i.toNat).toInt)
def am_mi (y : Nat) : am_MI := am_ml.getD y mi_L_law
def am_rm (d : Nat) : Room := { frames := d, cells := 0, slots := 0, locals := 64 * d }
def am_wds (y : Nat) : List Cond := .code (am_mi y).1 (am_mi y).2.1 (am_mi y).2.2.1 (am_mi y).2.2.2.1 :: am_big
def am_Pc (E : am_E) (A : Nat → Prop) (as : List am_V) (m : am_M) : Array Value → State → Prop := fun v U => v = (as.map (am_cv E)).toArray ∧ (∀ x ∈ as, am_vok x) ∧ am_Wd E A m U U.heap ∧ am_RO E A U
def am_rc (E : am_E) (y : Nat) (v : am_V) : Option Value := if (am_mi y).2.2.2.1 = none then none else some (am_cv E v)
def am_Qc (E : am_E) (A : Nat → Prop) (y : Nat) (P : am_V → am_M → Prop) : Array Value → State → Outcome → State → Prop := fun _ st oc t => (∃ (v : am_V) (m' : am_M), oc = .returned (am_rc E y v) ∧ am_vok v ∧ P v m' ∧ va_P E.1 vwCl (am_ws E m') t.heap ∧ am_MR m') ∧ va_F A st t
/-- method y, called with these arguments at this memory, comes back with P; d: how deep it may call -/
def am_Ok (d y : Nat) (as : List am_V) (m : am_M) (P : am_V → am_M → Prop) : Prop := ∀ (l : Launch) (E : am_E) (A : Nat → Prop), Met l (am_mi y).1 (am_wds y) (am_rm d) (am_Pc E A as m) (am_Qc E A y P) 0 0 A
def am_isRet (i : Instr) (v : am_V) : Prop := match i, v with
  | .ireturn, .inl _ => True
  | .lreturn, .inr (.inl _) => True
  | .areturn, .inr (.inr _) => True
  | .return_, .inl z => z = 0
  | _, _ => False
def am_rst (E : am_E) (i : Instr) (v : am_V) : List Value := match i with
  | .return_ => []
  | _ => [am_cv E v]
def am_bool (y : Nat) : Bool := match (am_mi y).2.2.2.1 with
  | some .boolean => true
  | _ => false
def am_rtk (rt : Option FieldType) (i : Instr) : Bool := match i, rt with
  | .ireturn, some .int => true
  | .ireturn, some .boolean => true
  | .lreturn, some .long => true
  | .areturn, some (.object _) => true
  | .return_, none => true
  | _, _ => false
/-- the frame in which a method's code runs -/
def am_Cx (p : Program) (l : Launch) (e : Env) (R : Room) (s : State) (mm : MethodId) (args : Array Value) (below : List Frame) (meth : Method) (c : Code) (cells slots : Nat) (Q : State → Prop) (E : am_E) (A : Nat → Prop) (y d : Nat) (P : am_V → am_M → Prop) : Prop :=
  p.tables.exec = Jvm.exec ∧ c.code = (am_mi y).2.1 ∧ c.maxLocals = (am_mi y).2.2.1 ∧ s.vm.findClass (am_cn.getD (am_mi y).2.2.2.2 "") = some mm.cls ∧ (∀ w ∈ am_big, w.before args s = true)
  ∧ d ≤ R.frames ∧ 64 * d ≤ R.locals ∧ cells ≤ R.cells ∧ slots ≤ R.slots ∧ am_RO E A s ∧ va_K E.1 vwCl (am_tys E) s
  ∧ (∀ (i : Instr) (pc : Nat) (ls : Array Slot) (H : Heap) (locs : List Loc) (m : am_M) (v : am_V), decode (am_mi y).2.1 pc = .ok (i, 1) → am_rtk (am_mi y).2.2.2.1 i = true → am_isRet i v → am_vok v → (am_bool y = true → ∀ z, v = .inl z → z = 0 ∨ z = 1) → P v m → am_Wd E A m s H → va_S A s.heap H locs → W p l e R s mm args below meth c H locs cells slots Q (F0 mm pc ls (am_rst E i v)))
def am_at (p : Program) (l : Launch) (e : Env) (R : Room) (s : State) (mm : MethodId) (args : Array Value) (below : List Frame) (meth : Method) (c : Code) (cells slots : Nat) (Q : State → Prop) (E : am_E) (A : Nat → Prop) (y : Nat) (pc : Nat) (lv : am_L) (st : List am_V) (m : am_M) : Prop :=
  ∀ (H : Heap) (locs : List Loc) (ls : Array Slot), am_Wd E A m s H → va_S A s.heap H locs → lv_has ls (am_mi y).2.2.1 (lv.map fun q => (q.1, am_cv E q.2)) → (∀ q ∈ lv, am_vok q.2) → (∀ v ∈ st, am_vok v) → W p l e R s mm args below meth c H locs cells slots Q (F0 mm pc ls (st.map (am_cv E)))
/-- at a place of a method's code -/
def am_G (d y : Nat) (P : am_V → am_M → Prop) (pc : Nat) (lv : am_L) (st : List am_V) (m : am_M) : Prop :=
  ∀ (p : Program) (l : Launch) (e : Env) (R : Room) (s : State) (mm : MethodId) (args : Array Value) (below : List Frame) (meth : Method) (c : Code) (cells slots : Nat) (Q : State → Prop) (E : am_E) (A : Nat → Prop),
    am_Cx p l e R s mm args below meth c cells slots Q E A y d P → am_at p l e R s mm args below meth c cells slots Q E A y pc lv st m
def am_OkI (d y : Nat) (as : List am_V) (m : am_M) (P : Int → am_M → Prop) : Prop := am_Ok d y as m (fun v m' => am_vi v fun z => P z m')
def am_OkL (d y : Nat) (as : List am_V) (m : am_M) (P : Int64 → am_M → Prop) : Prop := am_Ok d y as m (fun v m' => am_vl v fun z => P z m')
def am_OkR (d y : Nat) (as : List am_V) (m : am_M) (P : Nat → am_M → Prop) : Prop := am_Ok d y as m (fun v m' => am_vr v fun z => P z m')
def am_OkV (d y : Nat) (as : List am_V) (m : am_M) (P : am_M → Prop) : Prop := am_Ok d y as m (fun _ m' => P m')
def am_GI (d y : Nat) (P : Int → am_M → Prop) (pc : Nat) (lv : am_L) (st : List am_V) (m : am_M) : Prop := am_G d y (fun v m' => am_vi v fun z => P z m') pc lv st m
def am_GL (d y : Nat) (P : Int64 → am_M → Prop) (pc : Nat) (lv : am_L) (st : List am_V) (m : am_M) : Prop := am_G d y (fun v m' => am_vl v fun z => P z m') pc lv st m
def am_GR (d y : Nat) (P : Nat → am_M → Prop) (pc : Nat) (lv : am_L) (st : List am_V) (m : am_M) : Prop := am_G d y (fun v m' => am_vr v fun z => P z m') pc lv st m
def am_GV (d y : Nat) (P : am_M → Prop) (pc : Nat) (lv : am_L) (st : List am_V) (m : am_M) : Prop := am_G d y (fun _ m' => P m') pc lv st m
