/-! THE CLAIM -/
theorem dw_0 : decode code 0 = .ok (.new 8, 3) := by decide +kernel
theorem dw_3 : decode code 3 = .ok (.dup, 1) := by decide +kernel
theorem dw_4 : decode code 4 = .ok (.invokespecial 15, 3) := by decide +kernel
theorem dw_7 : decode code 7 = .ok (.astore_n 1, 1) := by decide +kernel
theorem dw_8 : decode code 8 = .ok (.new 16, 3) := by decide +kernel
theorem dw_11 : decode code 11 = .ok (.dup, 1) := by decide +kernel
theorem dw_12 : decode code 12 = .ok (.invokespecial 18, 3) := by decide +kernel
theorem dw_15 : decode code 15 = .ok (.astore_n 2, 1) := by decide +kernel
theorem dw_16 : decode code 16 = .ok (.iconst 1, 1) := by decide +kernel
theorem dw_17 : decode code 17 = .ok (.newarray .long, 2) := by decide +kernel
theorem dw_19 : decode code 19 = .ok (.astore_n 3, 1) := by decide +kernel
theorem dw_20 : decode code 20 = .ok (.iconst 0, 1) := by decide +kernel
theorem dw_21 : decode code 21 = .ok (.istore 4, 2) := by decide +kernel
/-! THE CLAIM OUT OF ONE WALK OF THE LAW'S BODY. Your part is whole_start (and what it stands on); all else here is the same for every law, but numbers. -/
def R_law : String := "TripleSieveLaw"
def lw_P (b : Addr) (xs : List Int32) (args : Array Value) (s : State) : Prop := args = #[.ref b] ∧ s.IntsAt b xs ∧ xs.length ≤ 3072 ∧ (Jvm.Cond.and given_1 narrow_1).before args s = true
def lw_Q (_ : Array Value) (s : State) (o : Outcome) (t : State) : Prop := o = .returned (some (.int 1)) ∧ Framed s o t [] 601024 7293034
def lw_Z (below : List Frame) (a : Array Value) (s : State) : State → Prop := fun t => ∃ o, t.status = .running ∧ Ended t below o ∧ lw_Q a s o t
/-- the law's own end, with 1 on the stack, nothing written that was there before, its room as the claim has it -/
theorem lw_ret {p : Program} {l : Launch} {e : Env} {s : State} {m : MethodId} {below : List Frame} {meth : Method} {c : Code} {b : Nat} (hx : p.tables.exec = Jvm.exec) (hb : c.code = code) (hr : meth.sig.returnType = ret) (hlocks : meth.locks = false) {pc : Nat} {H : Heap} {ls : Array Slot} (hdg : decode code pc = .ok (.ireturn, 1)) : W p l e room_1 s m #[Value.ref b] below meth c H [] 601024 7293034 (lw_Z below #[Value.ref b] s) (F0 m pc ls [.int 1]) := by
  intro T hT X
  obtain ⟨fs, hret, hrun, hended, hW, hframe⟩ := X.leave (v := some (.int 1)) (hlocks := hlocks) (fun h => by rw [hr] at h; cases h)
  have hmeth' : T.vm.method? m = some meth := X.method'
  refine ⟨T.setFrames fs, ?_, .returned (some (.int 1)), hrun, hended, rfl, ⟨_, rfl⟩, hW, hframe⟩
  jvm_step X.here [X.here.top, hx, hb, hdg, hmeth', hr, ret, narrow_b1]
  (try refine ⟨rfl, ?_⟩); (try refine ⟨rfl, ?_⟩)
  first | (intro acts; rw [hret _ acts rfl rfl rfl]) | rw [hret _ _ rfl rfl rfl]
  exact _root_.Jvm.Steps.refl _
/-- what holds at the law's entry: the machine, the code, the tables' words (any of lw_tbl by 'hts w (by decide +kernel)'), the script of L ints xs at the cell b, what the Statement gives of the start (any of its parts by flat_of_before) -/
def lw_At (p : Program) (s : State) (m : MethodId) (meth : Method) (c : Code) (b L : Nat) (xs : Nat → Int32) : Prop :=
  p.tables.exec = Jvm.exec ∧ c.code = code ∧ meth.sig.returnType = ret ∧ c.maxLocals = 8 ∧ s.vm.findClass R_law = some m.cls ∧ (∀ w ∈ lw_tbl, w.before #[Value.ref b] s = true) ∧ va_X b L xs s s.heap ∧ b < s.heap.size ∧ meth.locks = false ∧ (Jvm.Cond.and given_1 narrow_1).before #[Value.ref b] s = true
set_option maxHeartbeats 4000000 in
set_option maxRecDepth 20000 in
theorem whole_start {p : Program} {e : Env} {s : State} {m : MethodId} {below : List Frame} {meth : Method} {c : Code} (l : Launch) (hflags : l.flags = flags0) {b L : Nat} {xs : Nat → Int32} (hL : L ≤ 3072) (C0 : lw_At p s m meth c b L xs) : W p l e room_1 s m #[Value.ref b] below meth c s.heap [] 0 0 (lw_Z below #[Value.ref b] s) (entryFrame m ([Value.ref b] : List Value).toArray 8) := by
  obtain ⟨hx, hb, hr, hml, hown, hts, hX, hbl, hlocks, hgv⟩ := C0
  obtain ⟨D, I, tl, th, t0, adK, adV, hK, hkX, hlo, hhi, hun, hSS, hRf, hnst, hXS⟩ := st_all hts hgv
  have hfl : l.stackTraces = false := by
    unfold Launch.stackTraces
    rw [hflags]
    decide +kernel
  have htb : ∀ w ∈ am_big, w.before #[Value.ref b] s = true := fun w hw => hts w (List.mem_filter.mp hw).1
  have hl := lv_entry ([.ref b]) (n := 8) (Nat.le_of_ble_eq_true rfl)
  rw [lg_entry_eq]
  generalize (lg_sl ([.ref b]) ++ List.replicate (8 - (lg_sl ([.ref b])).length) Slot.unset).toArray = ls at hl ⊢
  have hl : lv_has ls 8 [(0, .ref b)] := hl
  have hP : va_P D vwCl [] s.heap := fun k q h => by simp at h
  have hD : va_D (a0 s) [] := ⟨fun i j p q h => (by simp at h), fun k q h => (by simp at h)⟩
  have hS : va_S (a0 s) s.heap s.heap [] := va_S.rf
  have hA : ∀ q : Nat, s.heap.size ≤ q → a0 s q := fun q h => h
  refine k_make (nL := 8) (own := "TripleSieveLaw") (C := RX11) (T := TX11) (N := 13) (ci := 11) (icl := 8) (ict := 15) (fs := [.null, .null, .null, .null, .null, .null, .null, .null, .null, .null, .null, .null, .null]) (y := yc_TS) (bytes := bc_TS) (d := 1) (mc := 54) (ms := 2637) (w1 := w1_TS I) (base := s.heap.size) (t0 := t0) hx hb hml hl.1 hown htb hK hP hD hS hA (fun _ h => h) hkX am_inX11 tyX11 tyX11_ok (htb _ (am_big_of (i := 132) (by decide +kernel) rfl)) (htb _ (am_big_of (i := 133) (by decide +kernel) rfl)) (htb _ (am_big_of (i := 108) (by decide +kernel) rfl)) rfl (by decide +kernel) (fun h sz => kc_TS l D I s.heap.size t0 h sz 0) (am_big_of (i := 136) (by decide +kernel) rfl) rfl rfl (by decide +kernel) (htb _ (am_big_of (i := 135) (by decide +kernel) rfl)) (Or.inr (htb _ (am_big_of (i := 134) (by decide +kernel) rfl))) (Nat.le_of_ble_eq_true rfl) (Nat.le_of_ble_eq_true rfl) (Nat.le_of_ble_eq_true rfl) (Nat.le_of_ble_eq_true rfl) (Nat.le_of_ble_eq_true rfl) dw_0 dw_3 dw_4 (fun q0 u0 H locs hP hD hS => ?_)
  refine lv_astore_n hx hb dw_7 rfl hl (by decide) rfl (fun ls hl => ?_)
  refine k_make (nL := 8) (own := "TripleSieveLaw") (C := RX12) (T := TX12) (N := 49) (ci := 12) (icl := 16) (ict := 18) (fs := [.int 0, .null, .int 0, .int 0, .int 0, .int 0, .int 0, .int 0, .int 0, .int 0, .long 0, .null, .null, .null, .null, .null, .null, .null, .null, .null, .null, .int 0, .int 0, .int 0, .null, .null, .null, .null, .null, .null, .int 0, .null, .null, .null, .null, .int 0, .int 0, .int 0, .null, .null, .null, .null, .null, .null, .null, .null, .null, .null, .int 0]) (y := yc_Mo) (bytes := bc_Mo) (d := 1) (mc := 31) (ms := 4228) (w1 := w1_Mo I) (base := s.heap.size) (t0 := t0) hx hb hml hl.1 hown htb hK hP hD hS hA (fun _ h => h) hkX am_inX12 tyX12 tyX12_ok (htb _ (am_big_of (i := 1133) (by decide +kernel) rfl)) (htb _ (am_big_of (i := 1127) (by decide +kernel) rfl)) (htb _ (am_big_of (i := 120) (by decide +kernel) rfl)) rfl (by decide +kernel) (fun h sz => kc_Mo l D I s.heap.size t0 h sz 0) (am_big_of (i := 1136) (by decide +kernel) rfl) rfl rfl (by decide +kernel) (htb _ (am_big_of (i := 1135) (by decide +kernel) rfl)) (Or.inr (htb _ (am_big_of (i := 1134) (by decide +kernel) rfl))) (Nat.le_of_ble_eq_true rfl) (Nat.le_of_ble_eq_true rfl) (Nat.le_of_ble_eq_true rfl) (Nat.le_of_ble_eq_true rfl) (Nat.le_of_ble_eq_true rfl) dw_8 dw_11 dw_12 (fun q1 u1 H locs hP hD hS => ?_)
  refine lv_astore_n hx hb dw_15 rfl hl (by decide) rfl (fun ls hl => ?_)
  refine lv_iconst (v := 1) hx hb dw_16 (by decide) ?_
  refine k_newa (atype := .long) (N' := 1) (a0 := (1, .inr (.inl (fun _ => 0)))) hx hb (htb _ (am_big_of (i := 223) (by decide +kernel) rfl)) (ty := .long) rfl hK hP hD hS hA 3 rfl (fun _ => rfl) (by decide) (by decide) (Nat.le_of_ble_eq_true rfl) (Nat.le_of_ble_eq_true rfl) (Nat.le_of_ble_eq_true rfl) dw_17 (fun q2 H hP hD hS => ?_)
  refine lv_astore_n hx hb dw_19 rfl hl (by decide) rfl (fun ls hl => ?_)
  refine lv_iconst (v := 0) hx hb dw_20 (by decide) ?_
  refine lv_istore hx hb dw_21 hl (by decide) rfl (fun ls hl => ?_)
  have hP : va_P D vwCl (w1_all I q0 u0 q1 u1 q2) H := hP
  have hD : va_D (a0 s) (w1_all I q0 u0 q1 u1 q2) := hD
  have hP := w_P (b := b) (tl := tl) (th := th) (t0 := t0) (adK := adK) (sc := (L, xs)) (adV := adV) hP
  have hD := w_D (D := D) (b := b) (tl := tl) (th := th) (t0 := t0) (adK := adK) (sc := (L, xs)) (adV := adV) hD
  have had : ∀ i : Nat, adF q0 u0 q1 u1 q2 b tl th t0 adK (1000 + i) = adK i := fun i => by
    unfold adF
    rw [if_neg (by omega), if_neg (by omega), if_neg (by omega), if_neg (by omega), if_neg (by omega), if_neg (by omega), if_neg (by omega), if_neg (by omega), if_neg (by omega)]
    congr 1
    omega
  generalize hE : ((D, I, adF q0 u0 q1 u1 q2 b tl th t0 adK, (L, xs), adV) : am_E) = E at hP hD
  have hE1 : E.1 = D := by rw [← hE]
  have hEK : am_tys E = kt I := by rw [← hE]; rfl
  have hK2 : va_K E.1 vwCl (am_tys E) s := by rw [hE1, hEK]; exact hK
  have hRO : am_RO E (a0 s) s := by
    rw [← hE]
    refine ⟨hlo, hhi, hun, ⟨?_, hSS.2⟩, ?_, ⟨hX, hbl, a0_no s b hbl⟩, hnst, ?_, hL⟩
    · show vk_S 14 (am_str.map String.length) ((List.range 14).map am_strT) (fun i => adF q0 u0 q1 u1 q2 b tl th t0 adK (1000 + i)) adV (a0 s) s s.heap
      rw [show (fun i => adF q0 u0 q1 u1 q2 b tl th t0 adK (1000 + i)) = adK from funext had]
      exact hSS.1
    · show ∀ e ∈ [(107, 1000), (109, 1001), (111, 1002), (113, 1003), (115, 1004), (117, 1005), (119, 1006), (121, 1007), (123, 1008), (125, 1009), (127, 1010), (129, 1011), (70, 1012), (95, 1013)], vk_R "TripleSieve$Reader" e.1 (am_str.getD (e.2 - 1000) "") (am_ad (D, I, adF q0 u0 q1 u1 q2 b tl th t0 adK, (L, xs), adV) e.2) s
      simp only [List.forall_mem_cons]
      exact ⟨hRf 0 (by decide), hRf 1 (by decide), hRf 2 (by decide), hRf 3 (by decide), hRf 4 (by decide), hRf 5 (by decide), hRf 6 (by decide), hRf 7 (by decide), hRf 8 (by decide), hRf 9 (by decide), hRf 10 (by decide), hRf 11 (by decide), hRf 12 (by decide), hRf 13 (by decide), fun _ h => by cases h⟩
    · intro q hq
      rw [← hE] at hD
      exact hD.2 q _ (am_ws_get _ _ hq)
  have hS1 : (am_sc E).1 = (L : Int) := by rw [← hE]; rfl
  have hCX : ∀ cells slots, cells ≤ 601024 → slots ≤ 7293034 → am_Cx p l e room_1 s m #[Value.ref b] below meth c cells slots (lw_Z below #[Value.ref b] s) E (a0 s) 194 (0 + 10 + 1) lwR := by
    intro cells slots hc hs
    refine ⟨hx, hb, hml, hown, htb, Nat.le_of_ble_eq_true rfl, Nat.le_of_ble_eq_true rfl, hc, hs, hRO, hK2, ?_⟩
    intro i pc ls H locs m' v hd hrt hi hvok hbz hp hW hS
    unfold am_rtk at hrt
    unfold am_isRet at hi
    split at hrt
    · rename_i hrt2; exact absurd hrt2 (by decide)
    · rcases v with z | z | z
      · have hz : z = 1 := hp
        subst hz
        exact W.widen (k := 601024) (n := 7293034) hc hs (va_forget (fun q hq => hS.2.2 q hq) (lw_ret hx hb hr hlocks hd))
      · exact hi.elim
      · exact hi.elim
    · rename_i hrt2; exact absurd hrt2 (by decide)
    · rename_i hrt2; exact absurd hrt2 (fun q => by cases (show some FieldType.boolean = some (FieldType.object _) from q))
    · rename_i hrt2; exact absurd hrt2 (by decide)
    · cases hrt
  refine lw_loop hCX hfl hXS ⟨Nat.le_of_ble_eq_true rfl, Nat.le_of_ble_eq_true rfl, Nat.le_of_ble_eq_true rfl, Nat.le_of_ble_eq_true rfl⟩ (by rw [hS1]; omega) 512 0 _ _ 0 am_m0 rfl (by rw [hS1]; omega) m0_LI (by decide) (Nat.le_of_ble_eq_true rfl) (Nat.le_of_ble_eq_true rfl) H locs ls ⟨by rw [hE1]; exact hP, hK2, hD, m0_MR⟩ hS ⟨hl.1, hl.2.1, ?_⟩ ?_ (fun v hv => by cases hv)
  · rw [← hE]
    simp only [lwV, List.map_cons, List.map_nil, List.forall_mem_cons]
    exact ⟨lv_at hl 4 rfl, lv_at hl 3 rfl, lv_at hl 2 rfl, lv_at hl 1 rfl, lv_at hl 0 rfl, fun _ h => by cases h⟩
  · simp only [lwV, List.forall_mem_cons]
    exact ⟨trivial, trivial, trivial, trivial, ⟨by decide, by decide⟩, fun _ h => by cases h⟩
set_option maxHeartbeats 4000000 in
theorem lw_walk (l : Launch) (hflags : l.flags = flags0) (b : Addr) (xs : List Int32) : MetFree l x (headSpec (Jvm.Cond.code x code maxLocals ret :: tables_1) room_1) (lw_P b xs) (fun _ _ _ _ _ => True) lw_Q := by
  refine MetFree.of_bodyS (code := code) (maxLocals := maxLocals) (ret := ret) (by decide) ?_ ?_
  · intro args s m h hn
    obtain ⟨meth, c, h1, h2, h3, h4, h5, h6, -, -⟩ := Cond.code_spec hn (atoms_spec (ws := Jvm.Cond.code x code maxLocals ret :: tables_1) h _ List.mem_cons_self)
    exact ⟨meth, c, h1, h2, h3, h4, h5, h6⟩
  · intro p e s m args below meth c s₁ B hml0 hP _
    obtain ⟨rfl, hx, hbd, hgv⟩ := hP
    obtain ⟨scr, harrAt, hlist, hof, hsmall⟩ := hx
    obtain ⟨hcb, hkn, -, -⟩ := State.arrayAt?_spec harrAt
    have hown : s.vm.findClass R_law = some m.cls := findClass_of_methodNamed B.named
    have hts0 : ∀ c ∈ (Jvm.Cond.code x code maxLocals ret :: tables_1), c.before #[Value.ref b] s = true := atoms_spec (ws := Jvm.Cond.code x code maxLocals ret :: tables_1) B.pre
    have hts : ∀ w ∈ lw_tbl, w.before #[Value.ref b] s = true := k2_hts_sels lw_privs (fun w hw => hts0 w (List.mem_cons_of_mem _ hw)) lw_privs_ok
    have hml : c.maxLocals = 8 := B.maxLocals_eq (hts0 _ List.mem_cons_self)
    have X₀ : Stand p l e room_1 s m #[Value.ref b] below meth c s₁ [] 0 0 := Stand.of_body B
    have hh0 : s₁.heap = s.heap := by rw [B.state]; rfl
    have hsz : scr.slots.size = xs.length := by rw [← Array.length_toList, hlist, List.length_map]
    have hval : ∀ j : Nat, j < xs.length → scr.slots[j]? = some (.int (xs.getD j 0)) := fun j hj => by
      rw [← Array.getElem?_toList, hlist]
      simp [hj]
    have hbl : b < s.heap.size := (Array.getElem?_eq_some_iff.mp hcb).1
    have hX : va_X b xs.length (fun j => xs.getD j 0) s s.heap := ⟨scr, hcb, hof, hkn, hsz, hval⟩
    have K : W p l e room_1 s m #[Value.ref b] below meth c s₁.heap [] 0 0 (lw_Z below #[Value.ref b] s) (entryFrame m ([Value.ref b] : List Value).toArray 8) := by
      rw [hh0]
      exact whole_start l hflags hbd ⟨B.exec, B.bytes, B.returns, hml, hown, hts, hX, hbl, B.notSynchronized, hgv⟩
    obtain ⟨t, a1, o, b1, b2, b3⟩ := K s₁ rfl X₀
    exact ⟨t, o, a1, b1, b2, b3⟩
theorem lw_pre_spec {args : Array Value} {s : State} (h : (Jvm.Cond.and given_1 narrow_1).before args s = true) (hr : rest_1_c.before args s = true) : ∃ (b : Addr) (xs : List Int32), lw_P b xs args s := by
  have hs := flat_of_before _ h
  have hq := flat_of_before _ hr
  have hc : (Cond.count 1).before args s = true := hs _ (by decide +kernel)
  have harr : (Cond.arrayOf (.arg 0) .int).before args s = true := hs _ (by decide +kernel)
  have hle : (Cond.le (.length (.arg 0)) (.int 3072)).before args s = true := hs _ (by decide +kernel)
  have hlen : (Cond.isInt (.length (.arg 0))).before args s = true := hq _ (by decide +kernel)
  have hall : (Cond.all (.arg 0) (.isInt (.elem (.arg 0) (.index 0)))).before args s = true := hq _ (by decide +kernel)
  obtain ⟨b, xs, hb, hx⟩ := State.ints_of_pre rfl harr hlen hall
  have hsm : xs.length < 2 ^ 31 := hx.choose_spec.2.2.2
  have hev : (Term.length (.arg 0)).eval args s none [] s = some (.int xs.length.toInt32) := hx.length_eval hb
  have hv := Cond.le_ints hev (show (Term.int 3072).eval args s none [] s = some (.int 3072) from rfl)
  have hd : xs.length.toInt32 ≤ 3072 := by
    simpa [Cond.before, Cond.holds, hv] using hle
  have hN : xs.length ≤ 3072 := (Int32.ofNat_le_ofNat hsm (by decide)).mp (show Int32.ofNat xs.length ≤ Int32.ofNat 3072 from hd)
  exact ⟨b, xs, Cond.one_arg hc (show args[0]? = some (.ref b) from hb), hx, hN, h⟩
theorem lw_comes (l : Launch) (hflags : l.flags = flags0) : Comes l x (Jvm.Cond.code x code maxLocals ret :: tables_1) room_1 (fun tb e args s => Calls_1 tb e args s ∧ rest_1 tb e args s ∧ Pre_1 tb e args s)
    (fun _ _ args s o t => lw_Q args s o t) := by
  intro p e ha hc hk s m args below hf hfit hheap happ hpre
  obtain ⟨b, xs, hP⟩ := lw_pre_spec hpre.2.2 hpre.2.1
  obtain ⟨k, o, h1, h2, h3, hQ⟩ := lw_walk l hflags b xs p e ha hc hk s m args below hf ((Spec.applies_iff_loose hf).mp happ).1 hP trivial
  exact ⟨k, o, h1, h2, h3, hQ⟩
theorem lw_frame {s t : State} {o : Outcome} {args : Array Value} (h : Framed s o t [] 601024 7293034) :
    Framed s o t (fieldLocs frame_1_writes args s ++ arrayLocs frame_1_arrays args s ++ staticLocs frame_1_statics s) 601024 7293034 := h
theorem lw_limb (L : Cond) (hL : ∀ (args : Array Value) (s t : State), L.after args s (.returned (some (.int 1))) t = true) :
    ArmFor flags0 classFile x code maxLocals ret World_1 tables_1 room_1 Calls_1 rest_1 Pre_1
      (fun tb e a s o t => postC L tb e a s o t ∧ Framed s o t (fieldLocs frame_1_writes a s ++ arrayLocs frame_1_arrays a s ++ staticLocs frame_1_statics s) 601024 7293034) := by
  intro l hflags _ _ p e ha hc hk s m args below hf hfit hheap happ hpre
  obtain ⟨k, o, h1, h2, h3, rfl, hF⟩ := lw_comes l hflags p e ha hc hk s m args below hf hfit hheap happ hpre
  exact ⟨k, _, h1, h2, h3, hL args s _, lw_frame hF⟩
theorem i_vc : Claimed_1_1 ∧ Claimed_1_2 := ⟨lw_limb limb_1_1 (fun args s t => by simp [limb_1_1, Cond.after, Cond.holds, Cond.value]), lw_limb limb_1_2 (fun args s t => Cond.after_iff.mpr (by
  first | (rw [show limb_1_2 = Cond.eq .result (.int 1) from rfl, Cond.eq_ints (x := 1) (y := 1) rfl rfl]; simp; done) | (simp [limb_1_2, Cond.value, Term.eval]; done)))⟩
