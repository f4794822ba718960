/-! CONSTRUCTORS: what they share -/
theorem pNum_lt {tb : Nat → Nat} {tl lo hi e : Nat} {t : Tk} (ht : TokOK tb tl t) (h : pNum tb tl lo hi t = .inl e) : e ≤ 8 * tl + 4 := by
  have h1 := ht.1
  have h2 := ht.2.1
  unfold pNum at h
  split at h
  · split at h
    · cases h
    · cases h; omega
  · cases h; omega
theorem pCho_lt {tb : Nat → Nat} {tl i e : Nat} {t : Tk} (ht : TokOK tb tl t) (h : pCho tb tl i t = .inl e) : e ≤ 8 * tl + 4 := by
  have h1 := ht.1
  have h2 := ht.2.1
  unfold pCho at h
  split at h
  · cases h
  · split at h
    · cases h
    · split at h
      · cases h
      · cases h; omega
theorem pNum_tk {tb : Nat → Nat} {tl lo hi v : Nat} {t t' : Tk} (ht : TokOK tb tl t) (h : pNum tb tl lo hi t = .inr (t', v)) : TokOK tb tl t' := by
  unfold pNum at h
  split at h
  · split at h
    · cases h; exact nxt_ok ht
    · cases h
  · cases h
theorem pVal_lt {tb : Nat → Nat} {tl i : Nat} {t : Tk} (ht : TokOK tb tl t) : (∀ e, pVal tb tl i t = .inl e → e ≤ 8 * tl + 4) ∧ ∀ t' v, pVal tb tl i t = .inr (t', v) → TokOK tb tl t' := by
  unfold pVal
  by_cases h5 : i < 5
  · rw [if_pos h5]; exact ⟨fun e h => pNum_lt ht h, fun t' v h => pNum_tk ht h⟩
  · rw [if_neg h5]
    refine ⟨fun e h => pCho_lt ht h, fun t' v h => ?_⟩
    unfold pCho at h
    split at h
    · cases h; exact nxt_ok ht
    · split at h
      · cases h; exact nxt_ok ht
      · split at h
        · cases h; exact nxt_ok ht
        · cases h
theorem pEnd_tk {tb : Nat → Nat} {tl : Nat} {t t' : Tk} (ht : TokOK tb tl t) (h : pEnd tb tl t = .inr t') : TokOK tb tl t' := by
  unfold pEnd at h
  split at h
  · cases h; exact nxt_ok ht
  · cases h
theorem pSet_lt {tb : Nat → Nat} {tl i : Nat} {t : Tk} {s : St} (ht : TokOK tb tl t) : (∀ e, pSet tb tl i t s = .inl e → e ≤ 8 * tl + 4) ∧ ∀ t' s', pSet tb tl i t s = .inr (t', s') → TokOK tb tl t' := by
  obtain ⟨a, b⟩ := pVal_lt (i := i) (nxt_ok ht)
  unfold pSet
  by_cases hw : isW tb t (i - 1) = true
  · rw [if_pos hw]
    cases hv : pVal tb tl i (nxt tb tl t) with
    | inl e => exact ⟨fun e' h => by cases h; exact a e hv, fun _ _ h => by cases h⟩
    | inr q =>
      obtain ⟨t1, v⟩ := q
      have ht1 := b t1 v hv
      simp only
      cases he : pEnd tb tl t1 with
      | inl e => exact ⟨fun e' h => by cases h; exact pEnd_lt ht1 he, fun _ _ h => by cases h⟩
      | inr t2 => exact ⟨fun e' h => (by cases h), fun _ _ h => by cases h; exact pEnd_tk ht1 he⟩
  · rw [if_neg hw]
    exact ⟨fun e h => (by cases h), fun t' s' h => by cases h; exact ht⟩
theorem pKey_lt {tb : Nat → Nat} {tl : Nat} {t : Tk} {s : St} (ht : TokOK tb tl t) : (∀ e, pKey tb tl t s = .inl e → e ≤ 8 * tl + 4) ∧ ∀ t' s', pKey tb tl t s = .inr (t', s') → TokOK tb tl t' := by
  have h1 := ht.1
  have h2 := ht.2.1
  have hn := nxt_ok ht
  have hn1 := hn.1
  have hn2 := hn.2.1
  unfold pKey
  split
  · split
    · split
      · split
        · have hnn := nxt_ok hn
          cases hi : pIs tb tl (s.2.2.2 3) (nxt tb tl (nxt tb tl t)) with
          | inl e =>
            refine ⟨fun e' h => ?_, fun _ _ h => by cases h⟩
            cases h
            unfold pIs at hi
            split at hi
            · exact pNum_lt (nxt_ok hnn) hi
            · cases hi
          | inr q =>
            obtain ⟨t2, v⟩ := q
            have ht2 : TokOK tb tl t2 := by
              unfold pIs at hi
              split at hi
              · exact pNum_tk (nxt_ok hnn) hi
              · cases hi; exact hnn
            simp only
            cases he : pEnd tb tl t2 with
            | inl e => exact ⟨fun e' h => by cases h; exact pEnd_lt ht2 he, fun _ _ h => by cases h⟩
            | inr t3 => exact ⟨fun e' h => (by cases h), fun _ _ h => by cases h; exact pEnd_tk ht2 he⟩
        · exact ⟨fun e h => by cases h; omega, fun _ _ h => by cases h⟩
      · exact ⟨fun e h => by cases h; omega, fun _ _ h => by cases h⟩
    · exact ⟨fun e h => by cases h; omega, fun _ _ h => by cases h⟩
  · exact ⟨fun e h => by cases h; omega, fun _ _ h => by cases h⟩
theorem pSets_lt {tb : Nat → Nat} {tl : Nat} : ∀ {f i : Nat} {t : Tk} {s : St}, TokOK tb tl t → (∀ e, pSets tb tl f i t s = .inl e → e ≤ 8 * tl + 4) ∧ ∀ t' s', pSets tb tl f i t s = .inr (t', s') → TokOK tb tl t'
  | 0, i, t, s, ht => ⟨fun e h => (by cases h), fun t' s' h => by cases h; exact ht⟩
  | f + 1, i, t, s, ht => by
    obtain ⟨a, b⟩ := pSet_lt (i := i) (s := s) ht
    unfold pSets
    cases hp : pSet tb tl i t s with
    | inl e => exact ⟨fun e' h => by cases h; exact a e hp, fun _ _ h => by cases h⟩
    | inr q =>
      obtain ⟨t1, s1⟩ := q
      exact pSets_lt (b t1 s1 hp)
theorem pKeys_lt {tb : Nat → Nat} {tl : Nat} : ∀ {f : Nat} {t : Tk} {s : St}, TokOK tb tl t → ∀ e, pKeys tb tl f t s = .inl e → e ≤ 8 * tl + 4
  | 0, t, s, ht, e, h => by cases h
  | f + 1, t, s, ht, e, h => by
    obtain ⟨a, b⟩ := pKey_lt (s := s) ht
    unfold pKeys at h
    split at h
    · cases h
    · cases hp : pKey tb tl t s with
      | inl e' => rw [hp] at h; cases h; exact a _ hp
      | inr q =>
        obtain ⟨t1, s1⟩ := q
        rw [hp] at h
        exact pKeys_lt (b t1 s1 hp) e h
theorem pText_lt {tb : Nat → Nat} {tl e : Nat} (h : pText tb tl = .inl e) : e ≤ 8 * tl + 4 := by
  obtain ⟨a, b⟩ := pSets_lt (tb := tb) (tl := tl) (f := 6) (i := 1) (s := sNew) (tok_ok (Nat.zero_le tl))
  unfold pText at h
  cases hp : pSets tb tl 6 1 (tok tb tl 0) sNew with
  | inl e' => rw [hp] at h; cases h; exact a _ hp
  | inr q =>
    obtain ⟨t1, s1⟩ := q
    rw [hp] at h
    exact pKeys_lt (b t1 s1 hp) e h
-- the kit's rows, with the classes of arrays known ahead
theorem va_RA_inj {U : State} {a b : ClassId} : ∀ {ty : FieldType}, va_RA U a ty → va_RA U b ty → a = b := by
  intro ty h1 h2
  cases ty with
  | object C =>
    obtain ⟨_, _, _, _, _, h3⟩ := h1
    obtain ⟨_, _, _, _, _, h4⟩ := h2
    exact Option.some.inj (h3.symm.trans h4)
  | _ => exact Option.some.inj (h1.symm.trans h2)
abbrev kt (I : Nat → ClassId) : List (ClassId × FieldType) := [(I 100, .int), (I 101, .boolean), (I 102, .byte), (I 103, .long), (I 104, .object "TripleSieve$Sieve")]
section KST
variable {p : Program} {l : Launch} {e : Env} {R : Room} {s : State} {m : MethodId} {args : Array Value} {below : List Frame} {meth : Method} {c : Code} {H : Heap} {locs : List Loc} {cells slots : Nat} {Q : State → Prop}
variable {cc : ByteArray} {pc : Nat} {ls : Array Slot} {rest : List Value} {D : va_G} {cl : List vw_C} {A : Nat → Prop} {a : Nat} {tys : List (ClassId × FieldType)} {ws : va_W} {H0 : Heap}
theorem k_newa (hexec : p.tables.exec = Jvm.exec) (hb : c.code = cc) {atype : ArrayType} (harr : (Cond.arrayClass (newarray.typeOf atype)).before args s = true) {ty : FieldType} (hty : newarray.typeOf atype = ty) (hK : va_K D cl tys s) (hP : va_P D cl ws H) (hD : va_D A ws) (hS : va_S A H0 H locs) (hA : ∀ q, H0.size ≤ q → A q)
    {n : Int32} {N' : Nat} {a0 : vp_A} (t0 : Nat) {cX : ClassId} (ht : tys[t0]? = some (cX, ty)) (ha : ∀ cA : ClassId, vp_cell cA a0 = arrV cA N' (fun _ => defaultValue ty)) (hn : ¬ n < 0) (hN : n.toNatClampNeg = N') (hbytes : N' * componentBytes ty ≤ 536870912) (hcells : cells + 1 ≤ R.cells) (hslots : slots + N' ≤ R.slots) (hdg : decode cc pc = .ok (.newarray atype, 2))
    (kk : ∀ (q : Nat) (H1 : Heap), va_P D cl (ws ++ [(q, .inl (cX, a0))]) H1 → va_D A (ws ++ [(q, .inl (cX, a0))]) → va_S A H0 H1 locs →
      W p l e R s m args below meth c H1 locs (cells + 1) (slots + N') Q (F0 m (pc + 2) ls (.ref q :: rest))) : W p l e R s m args below meth c H locs cells slots Q (F0 m pc ls (.int n :: rest)) := by
  refine va_newa hexec hb harr hty hK hP hD hS hA ha hn hN hbytes hcells hslots hdg (fun q cA H1 hK1 hP1 hD1 hS1 => ?_)
  have h1 := (hK1.2 tys.length (cA, ty) (by rw [List.getElem?_append_right (Nat.le_refl _)]; simp)).2
  have h2 := (hK.2 t0 _ ht).2
  have e : cA = cX := va_RA_inj h1 h2
  subst e
  exact kk q H1 hP1 hD1 hS1
theorem k_newq (hexec : p.tables.exec = Jvm.exec) (hb : c.code = cc) {own C : String} {index : Nat} (hown : s.vm.findClass own = some m.cls) (hclink : (Cond.classLink own index C).before args s = true) (hover : va_AO C s) (hK : va_K D cl tys s) (hP : va_P D cl ws H) (hD : va_D A ws) (hS : va_S A H0 H locs) (hA : ∀ q, H0.size ≤ q → A q)
    {n : Int32} {N' : Nat} (t0 : Nat) {cX : ClassId} (ht : tys[t0]? = some (cX, .object C)) (hn : ¬ n < 0) (hN : n.toNatClampNeg = N') (hbytes : N' * 4 ≤ 536870912) (hcells : cells + 1 ≤ R.cells) (hslots : slots + N' ≤ R.slots) (hdg : decode cc pc = .ok (.anewarray index, 3))
    (kk : ∀ (q : Nat) (H1 : Heap), va_P D cl (ws ++ [(q, .inl (cX, N', .inr (.inr (.inr (.inr (fun _ => none))))))]) H1 → va_D A (ws ++ [(q, .inl (cX, N', .inr (.inr (.inr (.inr (fun _ => none))))))]) → va_S A H0 H1 locs →
      W p l e R s m args below meth c H1 locs (cells + 1) (slots + N') Q (F0 m (pc + 3) ls (.ref q :: rest))) : W p l e R s m args below meth c H locs cells slots Q (F0 m pc ls (.int n :: rest)) := by
  refine va_newq hexec hb hown hclink hover hK hP hD hS hA hn hN hbytes hcells hslots hdg (fun q cA H1 hK1 hP1 hD1 hS1 => ?_)
  have h1 := (hK1.2 tys.length (cA, .object C) (by rw [List.getElem?_append_right (Nat.le_refl _)]; simp)).2
  have h2 := (hK.2 t0 _ ht).2
  have e : cA = cX := va_RA_inj h1 h2
  subst e
  exact kk q H1 hP1 hD1 hS1
/-- the table that is cloned -/
def kU (I : Nat → ClassId) (B : Nat → Prop) (t : Nat) (U : State) (H : Heap) : Prop := va_Z "TripleSieve" "UNTOLD" "[I" (.ref t) B U H ∧ ∃ cell : Cell, H[t]? = some cell ∧ (∀ k, cell.vm ≠ .statics k) ∧ cell.vm ≠ .unknown ∧ cell.cls = I 100 ∧ cell.slots = (vp_cell (I 100) (7, .inl fun j => Int32.ofInt (am_tab 902 (j : Int)))).slots ∧ ¬ B t
theorem k_clone (hexec : p.tables.exec = Jvm.exec) (hb : c.code = cc) (hml : c.maxLocals = ls.size) {own : String} {index : Nat} (hown : s.vm.findClass own = some m.cls)
    (hlink : (Cond.methodLink own index ⟨"[I", "clone", "()Ljava/lang/Object;"⟩).before args s = true) (hsame : (Cond.sameMethod "[I" "java/lang/Object" "clone" "()Ljava/lang/Object;").before args s = true)
    (hnat : (Cond.native ⟨"java/lang/Object", "clone", "()Ljava/lang/Object;"⟩).before args s = true) (hinst : (Cond.instanceMethod ⟨"java/lang/Object", "clone", "()Ljava/lang/Object;"⟩).before args s = true)
    (hsel : (Cond.selects "[I" ⟨"[I", "clone", "()Ljava/lang/Object;"⟩ ⟨"java/lang/Object", "clone", "()Ljava/lang/Object;"⟩).before args s = true) (hcl : va_Nw (.castable "[I" "java/lang/Cloneable") s) {I : Nat → ClassId} {B : Nat → Prop} {t : Nat} (hU : kU I B t s s.heap) (hB : ∀ q, A q → B q)
    (hK : va_K D cl tys s) (hP : va_P D cl ws H) (hD : va_D A ws) (hS : va_S A s.heap H locs) (hA : ∀ q, s.heap.size ≤ q → A q) (t0 : Nat) (ht : tys[t0]? = some (I 100, .int))
    (hframes : 1 ≤ R.frames) (hlocals : (rest.map fun v => v.category).sum + 14 ≤ R.locals) (hcells : cells + 1 ≤ R.cells) (hslots : slots + 7 ≤ R.slots) (hdg : decode cc pc = .ok (.invokevirtual index, 3))
    (kk : ∀ (q : Nat) (H1 : Heap), va_P D cl (ws ++ [(q, .inl (I 100, (7, .inl fun j => Int32.ofInt (am_tab 902 (j : Int)))))]) H1 → va_D A (ws ++ [(q, .inl (I 100, (7, .inl fun j => Int32.ofInt (am_tab 902 (j : Int)))))]) → va_S A s.heap H1 locs →
      W p l e R s m args below meth c H1 locs (cells + 1) (slots + 7) Q (F0 m (pc + 3) ls (.ref q :: rest))) : W p l e R s m args below meth c H locs cells slots Q (F0 m pc ls (.ref t :: rest)) := by
  obtain ⟨-, cell, c1, c2, c3, c4, c5, c6⟩ := hU
  have hnm : s.vm.findClass "[I" = some (I 100) := (hK.2 t0 _ ht).2
  have hsz : cell.slots.size = 7 := by rw [c5]; exact arrV_size _ _ _
  have hcellE : ({ cls := cell.cls, slots := cell.slots } : Cell) = vp_cell (I 100) (7, .inl fun j => Int32.ofInt (am_tab 902 (j : Int))) := by rw [c4, c5]; rfl
  have hcH : H[t]? = some cell := by rw [hS.2.1 t (Array.getElem?_eq_some_iff.mp c1).1 (fun z => c6 (hB t z))]; exact c1
  obtain ⟨c0, t0', f1, f2, f3⟩ := Cond.castable_spec (va_Nw.use (A := args) rfl hcl)
  cases hnm.symm.trans f1
  intro T hT X
  have hcellT : T.heap[t]? = some cell := by rw [hT]; exact hcH
  obtain ⟨-, kA, hkA, comp, hkind⟩ := State.isArrayOf_alike X.warmed.alike ((hK.2 t0 _ ht).1 0 (fun _ => .null))
  obtain ⟨-, kS, hkS, compS, hkindS⟩ := (hK.2 t0 _ ht).1 0 (fun _ => .null)
  obtain ⟨vm', X', st⟩ := X.cloneArray hexec hown hlink hsame hnat hinst hsel (a := t) (cell := cell) hcellT c2 c3 (by rw [c4]; exact hnm) f2 (by rw [c4]; exact f3)
    (fun i v hv => by
      rw [c4]
      have hk' : T.vm.classes[I 100]? = some kA := hkA
      have hfit : fits .int v = true := by
        rw [c5] at hv
        have hv : (arrV (I 100) 7 (fun j => .int (Int32.ofInt (am_tab 902 (j : Int))))).slots[i]? = some v := hv
        have hi : i < 7 := by
          have := (Array.getElem?_eq_some_iff.mp hv).1
          rw [arrV_size] at this
          exact this
        rw [arrV_read _ _ hi] at hv
        cases hv
        rfl
      simpa [State.fitsSlot, State.slotType?, hk', hkind] using hfit)
    (g := F0 m pc ls (.ref t :: rest)) rfl (by rw [hml]) rfl (by rw [hb]; exact hdg) hframes (by show 2 * 0 + _ + 14 ≤ _; omega) hcells (by rw [hsz]; exact hslots) (hloader := by rw [c4]; exact Vm.clonesLoader_of_array hkS hkindS)
  rw [hcellE, hsz] at X'
  generalize hH1 : H.push (vp_cell (I 100) (7, .inl fun j => Int32.ofInt (am_tab 902 (j : Int)))) = H1
  have z1 : H1.size = H.size + 1 := by rw [← hH1, Array.size_push]
  have e1 : H1[H.size]? = some (vp_cell (I 100) (7, .inl fun j => Int32.ofInt (am_tab 902 (j : Int)))) := by rw [← hH1, Array.getElem?_push_size]
  have o1 : ∀ q : Nat, q < H.size → H1[q]? = H[q]? := fun q hq => by rw [← hH1, Array.getElem?_push, if_neg (Nat.ne_of_lt hq)]
  have hk : ∀ (k : Nat) (y : Nat × va_E), ws[k]? = some y → H1[y.1]? = H[y.1]? := fun k y hy => o1 y.1 ((hP k y hy).lt)
  obtain ⟨t2, b1, b2⟩ := kk H.size H1 ((hP.kept hk).app (fun k y hy => by
      have hz : k < 1 := (List.getElem?_eq_some_iff.mp hy).1
      rw [show k = 0 by omega] at hy
      cases hy
      exact e1)) (hD.push hP rfl (hA _ hS.1)) ⟨Nat.le_trans hS.1 (by omega), fun y h1 h2 => (o1 y (Nat.lt_of_lt_of_le h1 hS.1)).trans (hS.2.1 y h1 h2), hS.2.2⟩
    ((T.setVm vm').pushCell (vp_cell (I 100) (7, .inl fun j => Int32.ofInt (am_tab 902 (j : Int))))) (by rw [← hH1, ← hT]; rfl) X'
  refine ⟨t2, st t2 ?_, b2⟩
  rw [hcellE, hT]
  exact b1
end KST
def kX (I : Nat → ClassId) (base t : Nat) (U : State) (H : Heap) : Prop := kU I (fun q => base ≤ q) t U H ∧ (∀ w ∈ am_nst, va_Nw w U) ∧ va_Nw (.castable "[I" "java/lang/Cloneable") U ∧ va_AO "TripleSieve$Sieve" U
theorem kU.kept {I : Nat → ClassId} {B : Nat → Prop} {t : Nat} {U : State} {H H1 : Heap} (h : kU I B t U H) (hq : ∀ a : Nat, a < H.size → ¬ B a → H1[a]? = H[a]?) : kU I B t U H1 := by
  obtain ⟨h1, cell, c1, c2⟩ := h
  exact ⟨h1.kept hq, cell, by rw [hq t (Array.getElem?_eq_some_iff.mp c1).1 c2.2.2.2.2]; exact c1, c2⟩
theorem kU.moved {I : Nat → ClassId} {B : Nat → Prop} {t : Nat} {u U : State} {H : Heap} (hvm : u.vm.Alike U.vm) (h : kU I B t u H) : kU I B t U H := ⟨h.1.moved hvm, h.2⟩
def kr (d mc ms : Nat) : Room := { frames := d, cells := mc, slots := ms, locals := 64 * d }
def kPc (D : va_G) (I : Nat → ClassId) (base t : Nat) (w0 : va_W) (h0 sz : Nat) : Array Value → State → Prop := va_Pc [.ref h0] (fun U => U.heap.size = sz ∧ va_P D vwCl w0 U.heap ∧ va_K D vwCl (kt I) U ∧ va_D (fun _ => True) w0 ∧ base ≤ h0 ∧ base ≤ sz ∧ kX I base t U U.heap)
def kQ (D : va_G) (I : Nat → ClassId) (w1 : (Nat → Nat) → va_W) (w0 : va_W) (sz : Nat) : Array Value → State → Outcome → State → Prop := va_Qv (fun _ : Nat → Nat => True) (fun u t => va_P D vwCl (w1 u) t.heap ∧ va_K D vwCl (kt I) t ∧ va_D (va_A w0 sz) (w1 u)) (va_A w0 sz)
