/-! CONSTRUCTORS of the inner classes (written by wip/gen58.py) -/
abbrev bc_Tape : ByteArray := prog_12_method_1_code
def yc_Tape : MethodName := ⟨"TripleSieve$Tape", "<init>", "()V"⟩
abbrev w0_Tape (h0 : Nat) : va_W := [(h0, .inr (10, [.null, .int 0, .int 0, .int 0, .int 0, .int 0]))]
theorem dc_Tape_0 : decode bc_Tape 0 = .ok (.aload_n 0, 1) := by decide +kernel
theorem dc_Tape_1 : decode bc_Tape 1 = .ok (.invokespecial 3, 3) := by decide +kernel
theorem dc_Tape_4 : decode bc_Tape 4 = .ok (.aload_n 0, 1) := by decide +kernel
theorem dc_Tape_5 : decode bc_Tape 5 = .ok (.sipush 600, 3) := by decide +kernel
theorem dc_Tape_8 : decode bc_Tape 8 = .ok (.newarray .byte, 2) := by decide +kernel
theorem dc_Tape_10 : decode bc_Tape 10 = .ok (.putfield 9, 3) := by decide +kernel
theorem dc_Tape_13 : decode bc_Tape 13 = .ok (.return_, 1) := by decide +kernel
abbrev w1_Tape (I : Nat → ClassId) (h0 : Nat) (u : Nat → Nat) : va_W := [(h0, .inr (10, [.ref (u 0), .int 0, .int 0, .int 0, .int 0, .int 0])), (u 0, .inl (I 102, (600, .inl (fun _ => 0))))]
set_option maxHeartbeats 4000000 in
theorem kc_Tape (l : Launch) (D : va_G) (I : Nat → ClassId) (base t0 h0 sz d : Nat) : Met l yc_Tape (jd_w yc_Tape bc_Tape 1 none) (kr (d + 1) 1 600) (kPc D I base t0 (w0_Tape h0) h0 sz) (kQ D I (w1_Tape I h0) (w0_Tape h0) sz) 1 600 (va_A (w0_Tape h0) sz) := by
  refine Met.ofW (cc := bc_Tape) (maxL := 1) (ret := none) (by decide) rfl ?_
  intro p e s m args below meth c s₁ B hml hv
  obtain ⟨rfl, hsz, hP, hK, hD0, hb0, hb1, hX⟩ := hv
  have hx := B.exec
  have hb := B.bytes
  have hr := B.returns
  have hts := atoms_spec (ws := jd_w yc_Tape bc_Tape 1 none) B.pre
  have htb : ∀ w ∈ am_big, w.before [Value.ref h0].toArray s = true := fun w hw => hts w (List.mem_cons_of_mem _ hw)
  have hown : s.vm.findClass yc_Tape.cls = some m.cls := findClass_of_methodNamed B.named
  have hlocks := B.notSynchronized
  have hin : meth.name = "<init>" := (name_of_methodNamed B.named B.method).1
  subst hsz
  unfold kQ
  have hD := hD0.self (sz := s.heap.size)
  generalize hAe : va_A (w0_Tape h0) s.heap.size = A at hD ⊢
  have hA : ∀ q : Nat, s.heap.size ≤ q → A q := fun q h => by rw [← hAe]; exact Or.inr h
  have hAB : ∀ q : Nat, A q → base ≤ q := fun q h => by
    rw [← hAe] at h
    rcases h with ⟨k, e, h⟩ | h
    · have hk : k < 1 := (List.getElem?_eq_some_iff.mp h).1
      have hk : k = 0 := by omega
      subst hk
      cases h
      exact hb0
    · omega
  have hS : va_S A s.heap s.heap [] := va_S.rf
  have hl := lv_entry ([.ref h0]) (n := 1) (Nat.le_of_ble_eq_true rfl)
  rw [lg_entry_eq]
  generalize (lg_sl ([.ref h0]) ++ List.replicate (1 - (lg_sl ([.ref h0])).length) Slot.unset).toArray = ls at hl ⊢
  have hl : lv_has ls 1 [(0, .ref h0)] := hl
  refine lv_aload_n hx hb dc_Tape_0 rfl (lv_at hl 0 rfl) ?_
  refine W.objInit hx hb hown (htb _ (am_big_of (i := 145) (by decide +kernel) rfl)) (htb _ (am_big_of (i := 138) (by decide +kernel) rfl)) (htb _ (am_big_of (i := 139) (by decide +kernel) rfl)) rfl (by rw [hml]; exact hl.1) rfl dc_Tape_1 (Nat.le_of_ble_eq_true rfl) (Nat.le_of_ble_eq_true rfl) ?_
  refine W.eq (g2 := F0 m 4 ls []) rfl ?_
  refine lv_aload_n hx hb dc_Tape_4 rfl (lv_at hl 0 rfl) ?_
  refine lv_sipush (v := 600) hx hb dc_Tape_5 (by decide) ?_
  refine k_newa (atype := .byte) (N' := 600) (a0 := (600, .inl (fun _ => 0))) hx hb (htb _ (am_big_of (i := 169) (by decide +kernel) rfl)) (ty := .byte) rfl hK hP hD hS hA 2 rfl (fun _ => rfl) (by decide) (by decide) (Nat.le_of_ble_eq_true rfl) (Nat.le_of_ble_eq_true rfl) (Nat.le_of_ble_eq_true rfl) dc_Tape_8 (fun q0 H hP hD hS => ?_)
  refine va_putF (D := D) (ci := 10) (v := .ref q0) (ty := .array .byte) (own := "TripleSieve$Tape") (ref := "TripleSieve$Tape") (C := RX10) (T := TX10) (N := 6) hx hb htb am_inX10 tyX10 tyX10_ok nmX10 hown hK hP hD hS 0 rfl rfl 0 (by decide) (htb _ (am_big_of (i := 146) (by decide +kernel) rfl)) (fun _ h9 => h9) rfl hin rfl (by decide +kernel) rfl rfl (Nat.le_of_ble_eq_true rfl) dc_Tape_10 (fun H locs hP hD hS => ?_)
  refine W.widen (k := 1) (n := 600) (Nat.le_of_ble_eq_true rfl) (Nat.le_of_ble_eq_true rfl) ?_
  exact W.vret hx hb hr (fun t ht hW => ⟨⟨(fun i => if i = 0 then q0 else 0), rfl, trivial, by rw [ht]; exact hP, va_K.moved hW.alike hK, hD⟩, hS.F ht⟩) hS.2.2 dc_Tape_13
abbrev bc_Reader : ByteArray := prog_8_method_1_code
def yc_Reader : MethodName := ⟨"TripleSieve$Reader", "<init>", "()V"⟩
abbrev w0_Reader (h0 : Nat) : va_W := [(h0, .inr (6, [.int 0]))]
theorem dc_Reader_0 : decode bc_Reader 0 = .ok (.aload_n 0, 1) := by decide +kernel
theorem dc_Reader_1 : decode bc_Reader 1 = .ok (.invokespecial 3, 3) := by decide +kernel
theorem dc_Reader_4 : decode bc_Reader 4 = .ok (.return_, 1) := by decide +kernel
abbrev w1_Reader (I : Nat → ClassId) (h0 : Nat) (u : Nat → Nat) : va_W := [(h0, .inr (6, [.int 0]))]
set_option maxHeartbeats 4000000 in
theorem kc_Reader (l : Launch) (D : va_G) (I : Nat → ClassId) (base t0 h0 sz d : Nat) : Met l yc_Reader (jd_w yc_Reader bc_Reader 1 none) (kr (d + 1) 0 0) (kPc D I base t0 (w0_Reader h0) h0 sz) (kQ D I (w1_Reader I h0) (w0_Reader h0) sz) 0 0 (va_A (w0_Reader h0) sz) := by
  refine Met.ofW (cc := bc_Reader) (maxL := 1) (ret := none) (by decide) rfl ?_
  intro p e s m args below meth c s₁ B hml hv
  obtain ⟨rfl, hsz, hP, hK, hD0, hb0, hb1, hX⟩ := hv
  have hx := B.exec
  have hb := B.bytes
  have hr := B.returns
  have hts := atoms_spec (ws := jd_w yc_Reader bc_Reader 1 none) B.pre
  have htb : ∀ w ∈ am_big, w.before [Value.ref h0].toArray s = true := fun w hw => hts w (List.mem_cons_of_mem _ hw)
  have hown : s.vm.findClass yc_Reader.cls = some m.cls := findClass_of_methodNamed B.named
  have hlocks := B.notSynchronized
  have hin : meth.name = "<init>" := (name_of_methodNamed B.named B.method).1
  subst hsz
  unfold kQ
  have hD := hD0.self (sz := s.heap.size)
  generalize hAe : va_A (w0_Reader h0) s.heap.size = A at hD ⊢
  have hA : ∀ q : Nat, s.heap.size ≤ q → A q := fun q h => by rw [← hAe]; exact Or.inr h
  have hAB : ∀ q : Nat, A q → base ≤ q := fun q h => by
    rw [← hAe] at h
    rcases h with ⟨k, e, h⟩ | h
    · have hk : k < 1 := (List.getElem?_eq_some_iff.mp h).1
      have hk : k = 0 := by omega
      subst hk
      cases h
      exact hb0
    · omega
  have hS : va_S A s.heap s.heap [] := va_S.rf
  have hl := lv_entry ([.ref h0]) (n := 1) (Nat.le_of_ble_eq_true rfl)
  rw [lg_entry_eq]
  generalize (lg_sl ([.ref h0]) ++ List.replicate (1 - (lg_sl ([.ref h0])).length) Slot.unset).toArray = ls at hl ⊢
  have hl : lv_has ls 1 [(0, .ref h0)] := hl
  refine lv_aload_n hx hb dc_Reader_0 rfl (lv_at hl 0 rfl) ?_
  refine W.objInit hx hb hown (htb _ (am_big_of (i := 175) (by decide +kernel) rfl)) (htb _ (am_big_of (i := 138) (by decide +kernel) rfl)) (htb _ (am_big_of (i := 139) (by decide +kernel) rfl)) rfl (by rw [hml]; exact hl.1) rfl dc_Reader_1 (Nat.le_of_ble_eq_true rfl) (Nat.le_of_ble_eq_true rfl) ?_
  refine W.eq (g2 := F0 m 4 ls []) rfl ?_
  refine W.widen (k := 0) (n := 0) (Nat.le_of_ble_eq_true rfl) (Nat.le_of_ble_eq_true rfl) ?_
  exact W.vret hx hb hr (fun t ht hW => ⟨⟨(fun i => 0), rfl, trivial, by rw [ht]; exact hP, va_K.moved hW.alike hK, hD⟩, hS.F ht⟩) hS.2.2 dc_Reader_4
abbrev bc_Given : ByteArray := prog_4_method_1_code
def yc_Given : MethodName := ⟨"TripleSieve$Given", "<init>", "()V"⟩
abbrev w0_Given (h0 : Nat) : va_W := [(h0, .inr (2, [.null, .null, .null, .int 0, .int 0]))]
theorem dc_Given_0 : decode bc_Given 0 = .ok (.aload_n 0, 1) := by decide +kernel
theorem dc_Given_1 : decode bc_Given 1 = .ok (.invokespecial 3, 3) := by decide +kernel
theorem dc_Given_4 : decode bc_Given 4 = .ok (.aload_n 0, 1) := by decide +kernel
theorem dc_Given_5 : decode bc_Given 5 = .ok (.bipush 48, 2) := by decide +kernel
theorem dc_Given_7 : decode bc_Given 7 = .ok (.newarray .long, 2) := by decide +kernel
theorem dc_Given_9 : decode bc_Given 9 = .ok (.putfield 9, 3) := by decide +kernel
theorem dc_Given_12 : decode bc_Given 12 = .ok (.aload_n 0, 1) := by decide +kernel
theorem dc_Given_13 : decode bc_Given 13 = .ok (.bipush 48, 2) := by decide +kernel
theorem dc_Given_15 : decode bc_Given 15 = .ok (.newarray .int, 2) := by decide +kernel
theorem dc_Given_17 : decode bc_Given 17 = .ok (.putfield 15, 3) := by decide +kernel
theorem dc_Given_20 : decode bc_Given 20 = .ok (.aload_n 0, 1) := by decide +kernel
theorem dc_Given_21 : decode bc_Given 21 = .ok (.getstatic 19, 3) := by decide +kernel
theorem dc_Given_24 : decode bc_Given 24 = .ok (.invokevirtual 22, 3) := by decide +kernel
theorem dc_Given_27 : decode bc_Given 27 = .ok (.checkcast 23, 3) := by decide +kernel
theorem dc_Given_30 : decode bc_Given 30 = .ok (.putfield 27, 3) := by decide +kernel
theorem dc_Given_33 : decode bc_Given 33 = .ok (.return_, 1) := by decide +kernel
abbrev w1_Given (I : Nat → ClassId) (h0 : Nat) (u : Nat → Nat) : va_W := [(h0, .inr (2, [.ref (u 0), .ref (u 1), .ref (u 2), .int 0, .int 0])), (u 0, .inl (I 103, (48, .inr (.inl (fun _ => 0))))), (u 1, .inl (I 100, (48, .inl (fun _ => 0)))), (u 2, .inl (I 100, (7, .inl fun j => Int32.ofInt (am_tab 902 (j : Int)))))]
set_option maxHeartbeats 4000000 in
theorem kc_Given (l : Launch) (D : va_G) (I : Nat → ClassId) (base t0 h0 sz d : Nat) : Met l yc_Given (jd_w yc_Given bc_Given 1 none) (kr (d + 1) 3 103) (kPc D I base t0 (w0_Given h0) h0 sz) (kQ D I (w1_Given I h0) (w0_Given h0) sz) 3 103 (va_A (w0_Given h0) sz) := by
  refine Met.ofW (cc := bc_Given) (maxL := 1) (ret := none) (by decide) rfl ?_
  intro p e s m args below meth c s₁ B hml hv
  obtain ⟨rfl, hsz, hP, hK, hD0, hb0, hb1, hX⟩ := hv
  have hx := B.exec
  have hb := B.bytes
  have hr := B.returns
  have hts := atoms_spec (ws := jd_w yc_Given bc_Given 1 none) B.pre
  have htb : ∀ w ∈ am_big, w.before [Value.ref h0].toArray s = true := fun w hw => hts w (List.mem_cons_of_mem _ hw)
  have hown : s.vm.findClass yc_Given.cls = some m.cls := findClass_of_methodNamed B.named
  have hlocks := B.notSynchronized
  have hin : meth.name = "<init>" := (name_of_methodNamed B.named B.method).1
  subst hsz
  unfold kQ
  have hD := hD0.self (sz := s.heap.size)
  generalize hAe : va_A (w0_Given h0) s.heap.size = A at hD ⊢
  have hA : ∀ q : Nat, s.heap.size ≤ q → A q := fun q h => by rw [← hAe]; exact Or.inr h
  have hAB : ∀ q : Nat, A q → base ≤ q := fun q h => by
    rw [← hAe] at h
    rcases h with ⟨k, e, h⟩ | h
    · have hk : k < 1 := (List.getElem?_eq_some_iff.mp h).1
      have hk : k = 0 := by omega
      subst hk
      cases h
      exact hb0
    · omega
  have hS : va_S A s.heap s.heap [] := va_S.rf
  have hl := lv_entry ([.ref h0]) (n := 1) (Nat.le_of_ble_eq_true rfl)
  rw [lg_entry_eq]
  generalize (lg_sl ([.ref h0]) ++ List.replicate (1 - (lg_sl ([.ref h0])).length) Slot.unset).toArray = ls at hl ⊢
  have hl : lv_has ls 1 [(0, .ref h0)] := hl
  refine lv_aload_n hx hb dc_Given_0 rfl (lv_at hl 0 rfl) ?_
  refine W.objInit hx hb hown (htb _ (am_big_of (i := 185) (by decide +kernel) rfl)) (htb _ (am_big_of (i := 138) (by decide +kernel) rfl)) (htb _ (am_big_of (i := 139) (by decide +kernel) rfl)) rfl (by rw [hml]; exact hl.1) rfl dc_Given_1 (Nat.le_of_ble_eq_true rfl) (Nat.le_of_ble_eq_true rfl) ?_
  refine W.eq (g2 := F0 m 4 ls []) rfl ?_
  refine lv_aload_n hx hb dc_Given_4 rfl (lv_at hl 0 rfl) ?_
  refine lv_bipush (v := 48) hx hb dc_Given_5 (by decide) ?_
  refine k_newa (atype := .long) (N' := 48) (a0 := (48, .inr (.inl (fun _ => 0)))) hx hb (htb _ (am_big_of (i := 223) (by decide +kernel) rfl)) (ty := .long) rfl hK hP hD hS hA 3 rfl (fun _ => rfl) (by decide) (by decide) (Nat.le_of_ble_eq_true rfl) (Nat.le_of_ble_eq_true rfl) (Nat.le_of_ble_eq_true rfl) dc_Given_7 (fun q0 H hP hD hS => ?_)
  refine va_putF (D := D) (ci := 2) (v := .ref q0) (ty := .array .long) (own := "TripleSieve$Given") (ref := "TripleSieve$Given") (C := RX2) (T := TX2) (N := 5) hx hb htb am_inX2 tyX2 tyX2_ok nmX2 hown hK hP hD hS 0 rfl rfl 0 (by decide) (htb _ (am_big_of (i := 195) (by decide +kernel) rfl)) (fun _ h9 => h9) rfl hin rfl (by decide +kernel) rfl rfl (Nat.le_of_ble_eq_true rfl) dc_Given_9 (fun H locs hP hD hS => ?_)
  refine lv_aload_n hx hb dc_Given_12 rfl (lv_at hl 0 rfl) ?_
  refine lv_bipush (v := 48) hx hb dc_Given_13 (by decide) ?_
  refine k_newa (atype := .int) (N' := 48) (a0 := (48, .inl (fun _ => 0))) hx hb (htb _ (am_big_of (i := 224) (by decide +kernel) rfl)) (ty := .int) rfl hK hP hD hS hA 0 rfl (fun _ => rfl) (by decide) (by decide) (Nat.le_of_ble_eq_true rfl) (Nat.le_of_ble_eq_true rfl) (Nat.le_of_ble_eq_true rfl) dc_Given_15 (fun q1 H hP hD hS => ?_)
  refine va_putF (D := D) (ci := 2) (v := .ref q1) (ty := .array .int) (own := "TripleSieve$Given") (ref := "TripleSieve$Given") (C := RX2) (T := TX2) (N := 5) hx hb htb am_inX2 tyX2 tyX2_ok nmX2 hown hK hP hD hS 0 rfl rfl 1 (by decide) (htb _ (am_big_of (i := 198) (by decide +kernel) rfl)) (fun _ h9 => h9) rfl hin rfl (by decide +kernel) rfl rfl (Nat.le_of_ble_eq_true rfl) dc_Given_17 (fun H locs hP hD hS => ?_)
  refine lv_aload_n hx hb dc_Given_20 rfl (lv_at hl 0 rfl) ?_
  refine va_getsN (host := "TripleSieve") (own := "TripleSieve$Given") hx hb (hX.1.1.narrow hAB) hS hown (va_Nw.use rfl (hX.2.1 _ (List.mem_filter.mpr ⟨List.mem_of_getElem? (i := 186) (by decide +kernel), rfl⟩))) (fun _ h9 => h9) dc_Given_21 ?_
  refine k_clone hx hb (by rw [hml]; exact hl.1.symm) hown (htb _ (am_big_of (i := 188) (by decide +kernel) rfl)) (htb _ (am_big_of (i := 189) (by decide +kernel) rfl)) (htb _ (am_big_of (i := 190) (by decide +kernel) rfl)) (htb _ (am_big_of (i := 191) (by decide +kernel) rfl)) (htb _ (am_big_of (i := 192) (by decide +kernel) rfl)) hX.2.2.1 hX.1 hAB hK hP hD hS hA 0 rfl (Nat.le_of_ble_eq_true rfl) (Nat.le_of_ble_eq_true rfl) (Nat.le_of_ble_eq_true rfl) (Nat.le_of_ble_eq_true rfl) dc_Given_24 (fun q2 H hP hD hS => ?_)
  refine va_castA (own := "TripleSieve$Given") (nm := "[I") hx hb hown (htb _ (am_big_of (i := 194) (by decide +kernel) rfl)) hP 3 rfl ((hK.2 0 _ rfl).2) dc_Given_27 ?_
  refine va_putF (D := D) (ci := 2) (v := .ref q2) (ty := .array .int) (own := "TripleSieve$Given") (ref := "TripleSieve$Given") (C := RX2) (T := TX2) (N := 5) hx hb htb am_inX2 tyX2 tyX2_ok nmX2 hown hK hP hD hS 0 rfl rfl 2 (by decide) (htb _ (am_big_of (i := 200) (by decide +kernel) rfl)) (fun _ h9 => h9) rfl hin rfl (by decide +kernel) rfl rfl (Nat.le_of_ble_eq_true rfl) dc_Given_30 (fun H locs hP hD hS => ?_)
  refine W.widen (k := 3) (n := 103) (Nat.le_of_ble_eq_true rfl) (Nat.le_of_ble_eq_true rfl) ?_
  exact W.vret hx hb hr (fun t ht hW => ⟨⟨(fun i => if i = 0 then q0 else if i = 1 then q1 else if i = 2 then q2 else 0), rfl, trivial, by rw [ht]; exact hP, va_K.moved hW.alike hK, hD⟩, hS.F ht⟩) hS.2.2 dc_Given_33
abbrev bc_Acts : ByteArray := prog_2_method_1_code
def yc_Acts : MethodName := ⟨"TripleSieve$Acts", "<init>", "()V"⟩
abbrev w0_Acts (h0 : Nat) : va_W := [(h0, .inr (0, [.null, .null, .null, .null, .int 0, .int 0]))]
theorem dc_Acts_0 : decode bc_Acts 0 = .ok (.aload_n 0, 1) := by decide +kernel
theorem dc_Acts_1 : decode bc_Acts 1 = .ok (.invokespecial 3, 3) := by decide +kernel
theorem dc_Acts_4 : decode bc_Acts 4 = .ok (.aload_n 0, 1) := by decide +kernel
theorem dc_Acts_5 : decode bc_Acts 5 = .ok (.bipush 12, 2) := by decide +kernel
theorem dc_Acts_7 : decode bc_Acts 7 = .ok (.newarray .int, 2) := by decide +kernel
theorem dc_Acts_9 : decode bc_Acts 9 = .ok (.putfield 9, 3) := by decide +kernel
theorem dc_Acts_12 : decode bc_Acts 12 = .ok (.aload_n 0, 1) := by decide +kernel
theorem dc_Acts_13 : decode bc_Acts 13 = .ok (.bipush 12, 2) := by decide +kernel
theorem dc_Acts_15 : decode bc_Acts 15 = .ok (.newarray .int, 2) := by decide +kernel
theorem dc_Acts_17 : decode bc_Acts 17 = .ok (.putfield 15, 3) := by decide +kernel
theorem dc_Acts_20 : decode bc_Acts 20 = .ok (.aload_n 0, 1) := by decide +kernel
theorem dc_Acts_21 : decode bc_Acts 21 = .ok (.bipush 12, 2) := by decide +kernel
theorem dc_Acts_23 : decode bc_Acts 23 = .ok (.newarray .long, 2) := by decide +kernel
theorem dc_Acts_25 : decode bc_Acts 25 = .ok (.putfield 18, 3) := by decide +kernel
theorem dc_Acts_28 : decode bc_Acts 28 = .ok (.aload_n 0, 1) := by decide +kernel
theorem dc_Acts_29 : decode bc_Acts 29 = .ok (.bipush 12, 2) := by decide +kernel
theorem dc_Acts_31 : decode bc_Acts 31 = .ok (.newarray .int, 2) := by decide +kernel
theorem dc_Acts_33 : decode bc_Acts 33 = .ok (.putfield 22, 3) := by decide +kernel
theorem dc_Acts_36 : decode bc_Acts 36 = .ok (.return_, 1) := by decide +kernel
abbrev w1_Acts (I : Nat → ClassId) (h0 : Nat) (u : Nat → Nat) : va_W := [(h0, .inr (0, [.ref (u 0), .ref (u 1), .ref (u 2), .ref (u 3), .int 0, .int 0])), (u 0, .inl (I 100, (12, .inl (fun _ => 0)))), (u 1, .inl (I 100, (12, .inl (fun _ => 0)))), (u 2, .inl (I 103, (12, .inr (.inl (fun _ => 0))))), (u 3, .inl (I 100, (12, .inl (fun _ => 0))))]
set_option maxHeartbeats 4000000 in
theorem kc_Acts (l : Launch) (D : va_G) (I : Nat → ClassId) (base t0 h0 sz d : Nat) : Met l yc_Acts (jd_w yc_Acts bc_Acts 1 none) (kr (d + 1) 4 48) (kPc D I base t0 (w0_Acts h0) h0 sz) (kQ D I (w1_Acts I h0) (w0_Acts h0) sz) 4 48 (va_A (w0_Acts h0) sz) := by
  refine Met.ofW (cc := bc_Acts) (maxL := 1) (ret := none) (by decide) rfl ?_
  intro p e s m args below meth c s₁ B hml hv
  obtain ⟨rfl, hsz, hP, hK, hD0, hb0, hb1, hX⟩ := hv
  have hx := B.exec
  have hb := B.bytes
  have hr := B.returns
  have hts := atoms_spec (ws := jd_w yc_Acts bc_Acts 1 none) B.pre
  have htb : ∀ w ∈ am_big, w.before [Value.ref h0].toArray s = true := fun w hw => hts w (List.mem_cons_of_mem _ hw)
  have hown : s.vm.findClass yc_Acts.cls = some m.cls := findClass_of_methodNamed B.named
  have hlocks := B.notSynchronized
  have hin : meth.name = "<init>" := (name_of_methodNamed B.named B.method).1
  subst hsz
  unfold kQ
  have hD := hD0.self (sz := s.heap.size)
  generalize hAe : va_A (w0_Acts h0) s.heap.size = A at hD ⊢
  have hA : ∀ q : Nat, s.heap.size ≤ q → A q := fun q h => by rw [← hAe]; exact Or.inr h
  have hAB : ∀ q : Nat, A q → base ≤ q := fun q h => by
    rw [← hAe] at h
    rcases h with ⟨k, e, h⟩ | h
    · have hk : k < 1 := (List.getElem?_eq_some_iff.mp h).1
      have hk : k = 0 := by omega
      subst hk
      cases h
      exact hb0
    · omega
  have hS : va_S A s.heap s.heap [] := va_S.rf
  have hl := lv_entry ([.ref h0]) (n := 1) (Nat.le_of_ble_eq_true rfl)
  rw [lg_entry_eq]
  generalize (lg_sl ([.ref h0]) ++ List.replicate (1 - (lg_sl ([.ref h0])).length) Slot.unset).toArray = ls at hl ⊢
  have hl : lv_has ls 1 [(0, .ref h0)] := hl
  refine lv_aload_n hx hb dc_Acts_0 rfl (lv_at hl 0 rfl) ?_
  refine W.objInit hx hb hown (htb _ (am_big_of (i := 230) (by decide +kernel) rfl)) (htb _ (am_big_of (i := 138) (by decide +kernel) rfl)) (htb _ (am_big_of (i := 139) (by decide +kernel) rfl)) rfl (by rw [hml]; exact hl.1) rfl dc_Acts_1 (Nat.le_of_ble_eq_true rfl) (Nat.le_of_ble_eq_true rfl) ?_
  refine W.eq (g2 := F0 m 4 ls []) rfl ?_
  refine lv_aload_n hx hb dc_Acts_4 rfl (lv_at hl 0 rfl) ?_
  refine lv_bipush (v := 12) hx hb dc_Acts_5 (by decide) ?_
  refine k_newa (atype := .int) (N' := 12) (a0 := (12, .inl (fun _ => 0))) hx hb (htb _ (am_big_of (i := 224) (by decide +kernel) rfl)) (ty := .int) rfl hK hP hD hS hA 0 rfl (fun _ => rfl) (by decide) (by decide) (Nat.le_of_ble_eq_true rfl) (Nat.le_of_ble_eq_true rfl) (Nat.le_of_ble_eq_true rfl) dc_Acts_7 (fun q0 H hP hD hS => ?_)
  refine va_putF (D := D) (ci := 0) (v := .ref q0) (ty := .array .int) (own := "TripleSieve$Acts") (ref := "TripleSieve$Acts") (C := RX0) (T := TX0) (N := 6) hx hb htb am_inX0 tyX0 tyX0_ok nmX0 hown hK hP hD hS 0 rfl rfl 0 (by decide) (htb _ (am_big_of (i := 231) (by decide +kernel) rfl)) (fun _ h9 => h9) rfl hin rfl (by decide +kernel) rfl rfl (Nat.le_of_ble_eq_true rfl) dc_Acts_9 (fun H locs hP hD hS => ?_)
  refine lv_aload_n hx hb dc_Acts_12 rfl (lv_at hl 0 rfl) ?_
  refine lv_bipush (v := 12) hx hb dc_Acts_13 (by decide) ?_
  refine k_newa (atype := .int) (N' := 12) (a0 := (12, .inl (fun _ => 0))) hx hb (htb _ (am_big_of (i := 224) (by decide +kernel) rfl)) (ty := .int) rfl hK hP hD hS hA 0 rfl (fun _ => rfl) (by decide) (by decide) (Nat.le_of_ble_eq_true rfl) (Nat.le_of_ble_eq_true rfl) (Nat.le_of_ble_eq_true rfl) dc_Acts_15 (fun q1 H hP hD hS => ?_)
  refine va_putF (D := D) (ci := 0) (v := .ref q1) (ty := .array .int) (own := "TripleSieve$Acts") (ref := "TripleSieve$Acts") (C := RX0) (T := TX0) (N := 6) hx hb htb am_inX0 tyX0 tyX0_ok nmX0 hown hK hP hD hS 0 rfl rfl 1 (by decide) (htb _ (am_big_of (i := 232) (by decide +kernel) rfl)) (fun _ h9 => h9) rfl hin rfl (by decide +kernel) rfl rfl (Nat.le_of_ble_eq_true rfl) dc_Acts_17 (fun H locs hP hD hS => ?_)
  refine lv_aload_n hx hb dc_Acts_20 rfl (lv_at hl 0 rfl) ?_
  refine lv_bipush (v := 12) hx hb dc_Acts_21 (by decide) ?_
  refine k_newa (atype := .long) (N' := 12) (a0 := (12, .inr (.inl (fun _ => 0)))) hx hb (htb _ (am_big_of (i := 223) (by decide +kernel) rfl)) (ty := .long) rfl hK hP hD hS hA 3 rfl (fun _ => rfl) (by decide) (by decide) (Nat.le_of_ble_eq_true rfl) (Nat.le_of_ble_eq_true rfl) (Nat.le_of_ble_eq_true rfl) dc_Acts_23 (fun q2 H hP hD hS => ?_)
  refine va_putF (D := D) (ci := 0) (v := .ref q2) (ty := .array .long) (own := "TripleSieve$Acts") (ref := "TripleSieve$Acts") (C := RX0) (T := TX0) (N := 6) hx hb htb am_inX0 tyX0 tyX0_ok nmX0 hown hK hP hD hS 0 rfl rfl 2 (by decide) (htb _ (am_big_of (i := 233) (by decide +kernel) rfl)) (fun _ h9 => h9) rfl hin rfl (by decide +kernel) rfl rfl (Nat.le_of_ble_eq_true rfl) dc_Acts_25 (fun H locs hP hD hS => ?_)
  refine lv_aload_n hx hb dc_Acts_28 rfl (lv_at hl 0 rfl) ?_
  refine lv_bipush (v := 12) hx hb dc_Acts_29 (by decide) ?_
  refine k_newa (atype := .int) (N' := 12) (a0 := (12, .inl (fun _ => 0))) hx hb (htb _ (am_big_of (i := 224) (by decide +kernel) rfl)) (ty := .int) rfl hK hP hD hS hA 0 rfl (fun _ => rfl) (by decide) (by decide) (Nat.le_of_ble_eq_true rfl) (Nat.le_of_ble_eq_true rfl) (Nat.le_of_ble_eq_true rfl) dc_Acts_31 (fun q3 H hP hD hS => ?_)
  refine va_putF (D := D) (ci := 0) (v := .ref q3) (ty := .array .int) (own := "TripleSieve$Acts") (ref := "TripleSieve$Acts") (C := RX0) (T := TX0) (N := 6) hx hb htb am_inX0 tyX0 tyX0_ok nmX0 hown hK hP hD hS 0 rfl rfl 3 (by decide) (htb _ (am_big_of (i := 234) (by decide +kernel) rfl)) (fun _ h9 => h9) rfl hin rfl (by decide +kernel) rfl rfl (Nat.le_of_ble_eq_true rfl) dc_Acts_33 (fun H locs hP hD hS => ?_)
  refine W.widen (k := 4) (n := 48) (Nat.le_of_ble_eq_true rfl) (Nat.le_of_ble_eq_true rfl) ?_
  exact W.vret hx hb hr (fun t ht hW => ⟨⟨(fun i => if i = 0 then q0 else if i = 1 then q1 else if i = 2 then q2 else if i = 3 then q3 else 0), rfl, trivial, by rw [ht]; exact hP, va_K.moved hW.alike hK, hD⟩, hS.F ht⟩) hS.2.2 dc_Acts_36
abbrev bc_Marks : ByteArray := prog_5_method_1_code
def yc_Marks : MethodName := ⟨"TripleSieve$Marks", "<init>", "()V"⟩
abbrev w0_Marks (h0 : Nat) : va_W := [(h0, .inr (3, [.null, .null, .int 0, .int 0, .long 0, .int 0, .int 0, .int 0]))]
theorem dc_Marks_0 : decode bc_Marks 0 = .ok (.aload_n 0, 1) := by decide +kernel
theorem dc_Marks_1 : decode bc_Marks 1 = .ok (.invokespecial 3, 3) := by decide +kernel
theorem dc_Marks_4 : decode bc_Marks 4 = .ok (.aload_n 0, 1) := by decide +kernel
theorem dc_Marks_5 : decode bc_Marks 5 = .ok (.iconst 3, 1) := by decide +kernel
theorem dc_Marks_6 : decode bc_Marks 6 = .ok (.newarray .int, 2) := by decide +kernel
theorem dc_Marks_8 : decode bc_Marks 8 = .ok (.putfield 9, 3) := by decide +kernel
theorem dc_Marks_11 : decode bc_Marks 11 = .ok (.aload_n 0, 1) := by decide +kernel
theorem dc_Marks_12 : decode bc_Marks 12 = .ok (.iconst 3, 1) := by decide +kernel
theorem dc_Marks_13 : decode bc_Marks 13 = .ok (.newarray .int, 2) := by decide +kernel
theorem dc_Marks_15 : decode bc_Marks 15 = .ok (.putfield 15, 3) := by decide +kernel
theorem dc_Marks_18 : decode bc_Marks 18 = .ok (.return_, 1) := by decide +kernel
abbrev w1_Marks (I : Nat → ClassId) (h0 : Nat) (u : Nat → Nat) : va_W := [(h0, .inr (3, [.ref (u 0), .ref (u 1), .int 0, .int 0, .long 0, .int 0, .int 0, .int 0])), (u 0, .inl (I 100, (3, .inl (fun _ => 0)))), (u 1, .inl (I 100, (3, .inl (fun _ => 0))))]
set_option maxHeartbeats 4000000 in
theorem kc_Marks (l : Launch) (D : va_G) (I : Nat → ClassId) (base t0 h0 sz d : Nat) : Met l yc_Marks (jd_w yc_Marks bc_Marks 1 none) (kr (d + 1) 2 6) (kPc D I base t0 (w0_Marks h0) h0 sz) (kQ D I (w1_Marks I h0) (w0_Marks h0) sz) 2 6 (va_A (w0_Marks h0) sz) := by
  refine Met.ofW (cc := bc_Marks) (maxL := 1) (ret := none) (by decide) rfl ?_
  intro p e s m args below meth c s₁ B hml hv
  obtain ⟨rfl, hsz, hP, hK, hD0, hb0, hb1, hX⟩ := hv
  have hx := B.exec
  have hb := B.bytes
  have hr := B.returns
  have hts := atoms_spec (ws := jd_w yc_Marks bc_Marks 1 none) B.pre
  have htb : ∀ w ∈ am_big, w.before [Value.ref h0].toArray s = true := fun w hw => hts w (List.mem_cons_of_mem _ hw)
  have hown : s.vm.findClass yc_Marks.cls = some m.cls := findClass_of_methodNamed B.named
  have hlocks := B.notSynchronized
  have hin : meth.name = "<init>" := (name_of_methodNamed B.named B.method).1
  subst hsz
  unfold kQ
  have hD := hD0.self (sz := s.heap.size)
  generalize hAe : va_A (w0_Marks h0) s.heap.size = A at hD ⊢
  have hA : ∀ q : Nat, s.heap.size ≤ q → A q := fun q h => by rw [← hAe]; exact Or.inr h
  have hAB : ∀ q : Nat, A q → base ≤ q := fun q h => by
    rw [← hAe] at h
    rcases h with ⟨k, e, h⟩ | h
    · have hk : k < 1 := (List.getElem?_eq_some_iff.mp h).1
      have hk : k = 0 := by omega
      subst hk
      cases h
      exact hb0
    · omega
  have hS : va_S A s.heap s.heap [] := va_S.rf
  have hl := lv_entry ([.ref h0]) (n := 1) (Nat.le_of_ble_eq_true rfl)
  rw [lg_entry_eq]
  generalize (lg_sl ([.ref h0]) ++ List.replicate (1 - (lg_sl ([.ref h0])).length) Slot.unset).toArray = ls at hl ⊢
  have hl : lv_has ls 1 [(0, .ref h0)] := hl
  refine lv_aload_n hx hb dc_Marks_0 rfl (lv_at hl 0 rfl) ?_
  refine W.objInit hx hb hown (htb _ (am_big_of (i := 256) (by decide +kernel) rfl)) (htb _ (am_big_of (i := 138) (by decide +kernel) rfl)) (htb _ (am_big_of (i := 139) (by decide +kernel) rfl)) rfl (by rw [hml]; exact hl.1) rfl dc_Marks_1 (Nat.le_of_ble_eq_true rfl) (Nat.le_of_ble_eq_true rfl) ?_
  refine W.eq (g2 := F0 m 4 ls []) rfl ?_
  refine lv_aload_n hx hb dc_Marks_4 rfl (lv_at hl 0 rfl) ?_
  refine lv_iconst (v := 3) hx hb dc_Marks_5 (by decide) ?_
  refine k_newa (atype := .int) (N' := 3) (a0 := (3, .inl (fun _ => 0))) hx hb (htb _ (am_big_of (i := 224) (by decide +kernel) rfl)) (ty := .int) rfl hK hP hD hS hA 0 rfl (fun _ => rfl) (by decide) (by decide) (Nat.le_of_ble_eq_true rfl) (Nat.le_of_ble_eq_true rfl) (Nat.le_of_ble_eq_true rfl) dc_Marks_6 (fun q0 H hP hD hS => ?_)
  refine va_putF (D := D) (ci := 3) (v := .ref q0) (ty := .array .int) (own := "TripleSieve$Marks") (ref := "TripleSieve$Marks") (C := RX3) (T := TX3) (N := 8) hx hb htb am_inX3 tyX3 tyX3_ok nmX3 hown hK hP hD hS 0 rfl rfl 0 (by decide) (htb _ (am_big_of (i := 257) (by decide +kernel) rfl)) (fun _ h9 => h9) rfl hin rfl (by decide +kernel) rfl rfl (Nat.le_of_ble_eq_true rfl) dc_Marks_8 (fun H locs hP hD hS => ?_)
  refine lv_aload_n hx hb dc_Marks_11 rfl (lv_at hl 0 rfl) ?_
  refine lv_iconst (v := 3) hx hb dc_Marks_12 (by decide) ?_
  refine k_newa (atype := .int) (N' := 3) (a0 := (3, .inl (fun _ => 0))) hx hb (htb _ (am_big_of (i := 224) (by decide +kernel) rfl)) (ty := .int) rfl hK hP hD hS hA 0 rfl (fun _ => rfl) (by decide) (by decide) (Nat.le_of_ble_eq_true rfl) (Nat.le_of_ble_eq_true rfl) (Nat.le_of_ble_eq_true rfl) dc_Marks_13 (fun q1 H hP hD hS => ?_)
  refine va_putF (D := D) (ci := 3) (v := .ref q1) (ty := .array .int) (own := "TripleSieve$Marks") (ref := "TripleSieve$Marks") (C := RX3) (T := TX3) (N := 8) hx hb htb am_inX3 tyX3 tyX3_ok nmX3 hown hK hP hD hS 0 rfl rfl 1 (by decide) (htb _ (am_big_of (i := 259) (by decide +kernel) rfl)) (fun _ h9 => h9) rfl hin rfl (by decide +kernel) rfl rfl (Nat.le_of_ble_eq_true rfl) dc_Marks_15 (fun H locs hP hD hS => ?_)
  refine W.widen (k := 2) (n := 6) (Nat.le_of_ble_eq_true rfl) (Nat.le_of_ble_eq_true rfl) ?_
  exact W.vret hx hb hr (fun t ht hW => ⟨⟨(fun i => if i = 0 then q0 else if i = 1 then q1 else 0), rfl, trivial, by rw [ht]; exact hP, va_K.moved hW.alike hK, hD⟩, hS.F ht⟩) hS.2.2 dc_Marks_18
abbrev bc_Row : ByteArray := prog_10_method_1_code
def yc_Row : MethodName := ⟨"TripleSieve$Row", "<init>", "()V"⟩
abbrev w0_Row (h0 : Nat) : va_W := [(h0, .inr (8, [.null, .null, .null, .null, .null, .null, .int 0, .int 0, .int 0]))]
theorem dc_Row_0 : decode bc_Row 0 = .ok (.aload_n 0, 1) := by decide +kernel
theorem dc_Row_1 : decode bc_Row 1 = .ok (.invokespecial 3, 3) := by decide +kernel
theorem dc_Row_4 : decode bc_Row 4 = .ok (.aload_n 0, 1) := by decide +kernel
theorem dc_Row_5 : decode bc_Row 5 = .ok (.sipush 144, 3) := by decide +kernel
theorem dc_Row_8 : decode bc_Row 8 = .ok (.newarray .int, 2) := by decide +kernel
theorem dc_Row_10 : decode bc_Row 10 = .ok (.putfield 9, 3) := by decide +kernel
theorem dc_Row_13 : decode bc_Row 13 = .ok (.aload_n 0, 1) := by decide +kernel
theorem dc_Row_14 : decode bc_Row 14 = .ok (.bipush 48, 2) := by decide +kernel
theorem dc_Row_16 : decode bc_Row 16 = .ok (.newarray .int, 2) := by decide +kernel
theorem dc_Row_18 : decode bc_Row 18 = .ok (.putfield 15, 3) := by decide +kernel
theorem dc_Row_21 : decode bc_Row 21 = .ok (.aload_n 0, 1) := by decide +kernel
theorem dc_Row_22 : decode bc_Row 22 = .ok (.bipush 48, 2) := by decide +kernel
theorem dc_Row_24 : decode bc_Row 24 = .ok (.newarray .int, 2) := by decide +kernel
theorem dc_Row_26 : decode bc_Row 26 = .ok (.putfield 18, 3) := by decide +kernel
theorem dc_Row_29 : decode bc_Row 29 = .ok (.aload_n 0, 1) := by decide +kernel
theorem dc_Row_30 : decode bc_Row 30 = .ok (.bipush 48, 2) := by decide +kernel
theorem dc_Row_32 : decode bc_Row 32 = .ok (.newarray .boolean, 2) := by decide +kernel
theorem dc_Row_34 : decode bc_Row 34 = .ok (.putfield 21, 3) := by decide +kernel
theorem dc_Row_37 : decode bc_Row 37 = .ok (.aload_n 0, 1) := by decide +kernel
theorem dc_Row_38 : decode bc_Row 38 = .ok (.bipush 96, 2) := by decide +kernel
theorem dc_Row_40 : decode bc_Row 40 = .ok (.newarray .int, 2) := by decide +kernel
theorem dc_Row_42 : decode bc_Row 42 = .ok (.putfield 25, 3) := by decide +kernel
theorem dc_Row_45 : decode bc_Row 45 = .ok (.aload_n 0, 1) := by decide +kernel
theorem dc_Row_46 : decode bc_Row 46 = .ok (.bipush 96, 2) := by decide +kernel
theorem dc_Row_48 : decode bc_Row 48 = .ok (.newarray .int, 2) := by decide +kernel
theorem dc_Row_50 : decode bc_Row 50 = .ok (.putfield 28, 3) := by decide +kernel
theorem dc_Row_53 : decode bc_Row 53 = .ok (.return_, 1) := by decide +kernel
abbrev w1_Row (I : Nat → ClassId) (h0 : Nat) (u : Nat → Nat) : va_W := [(h0, .inr (8, [.ref (u 0), .ref (u 1), .ref (u 2), .ref (u 3), .ref (u 4), .ref (u 5), .int 0, .int 0, .int 0])), (u 0, .inl (I 100, (144, .inl (fun _ => 0)))), (u 1, .inl (I 100, (48, .inl (fun _ => 0)))), (u 2, .inl (I 100, (48, .inl (fun _ => 0)))), (u 3, .inl (I 101, (48, .inl (fun _ => 0)))), (u 4, .inl (I 100, (96, .inl (fun _ => 0)))), (u 5, .inl (I 100, (96, .inl (fun _ => 0))))]
set_option maxHeartbeats 4000000 in
theorem kc_Row (l : Launch) (D : va_G) (I : Nat → ClassId) (base t0 h0 sz d : Nat) : Met l yc_Row (jd_w yc_Row bc_Row 1 none) (kr (d + 1) 6 480) (kPc D I base t0 (w0_Row h0) h0 sz) (kQ D I (w1_Row I h0) (w0_Row h0) sz) 6 480 (va_A (w0_Row h0) sz) := by
  refine Met.ofW (cc := bc_Row) (maxL := 1) (ret := none) (by decide) rfl ?_
  intro p e s m args below meth c s₁ B hml hv
  obtain ⟨rfl, hsz, hP, hK, hD0, hb0, hb1, hX⟩ := hv
  have hx := B.exec
  have hb := B.bytes
  have hr := B.returns
  have hts := atoms_spec (ws := jd_w yc_Row bc_Row 1 none) B.pre
  have htb : ∀ w ∈ am_big, w.before [Value.ref h0].toArray s = true := fun w hw => hts w (List.mem_cons_of_mem _ hw)
  have hown : s.vm.findClass yc_Row.cls = some m.cls := findClass_of_methodNamed B.named
  have hlocks := B.notSynchronized
  have hin : meth.name = "<init>" := (name_of_methodNamed B.named B.method).1
  subst hsz
  unfold kQ
  have hD := hD0.self (sz := s.heap.size)
  generalize hAe : va_A (w0_Row h0) s.heap.size = A at hD ⊢
  have hA : ∀ q : Nat, s.heap.size ≤ q → A q := fun q h => by rw [← hAe]; exact Or.inr h
  have hAB : ∀ q : Nat, A q → base ≤ q := fun q h => by
    rw [← hAe] at h
    rcases h with ⟨k, e, h⟩ | h
    · have hk : k < 1 := (List.getElem?_eq_some_iff.mp h).1
      have hk : k = 0 := by omega
      subst hk
      cases h
      exact hb0
    · omega
  have hS : va_S A s.heap s.heap [] := va_S.rf
  have hl := lv_entry ([.ref h0]) (n := 1) (Nat.le_of_ble_eq_true rfl)
  rw [lg_entry_eq]
  generalize (lg_sl ([.ref h0]) ++ List.replicate (1 - (lg_sl ([.ref h0])).length) Slot.unset).toArray = ls at hl ⊢
  have hl : lv_has ls 1 [(0, .ref h0)] := hl
  refine lv_aload_n hx hb dc_Row_0 rfl (lv_at hl 0 rfl) ?_
  refine W.objInit hx hb hown (htb _ (am_big_of (i := 293) (by decide +kernel) rfl)) (htb _ (am_big_of (i := 138) (by decide +kernel) rfl)) (htb _ (am_big_of (i := 139) (by decide +kernel) rfl)) rfl (by rw [hml]; exact hl.1) rfl dc_Row_1 (Nat.le_of_ble_eq_true rfl) (Nat.le_of_ble_eq_true rfl) ?_
  refine W.eq (g2 := F0 m 4 ls []) rfl ?_
  refine lv_aload_n hx hb dc_Row_4 rfl (lv_at hl 0 rfl) ?_
  refine lv_sipush (v := 144) hx hb dc_Row_5 (by decide) ?_
  refine k_newa (atype := .int) (N' := 144) (a0 := (144, .inl (fun _ => 0))) hx hb (htb _ (am_big_of (i := 224) (by decide +kernel) rfl)) (ty := .int) rfl hK hP hD hS hA 0 rfl (fun _ => rfl) (by decide) (by decide) (Nat.le_of_ble_eq_true rfl) (Nat.le_of_ble_eq_true rfl) (Nat.le_of_ble_eq_true rfl) dc_Row_8 (fun q0 H hP hD hS => ?_)
  refine va_putF (D := D) (ci := 8) (v := .ref q0) (ty := .array .int) (own := "TripleSieve$Row") (ref := "TripleSieve$Row") (C := RX8) (T := TX8) (N := 9) hx hb htb am_inX8 tyX8 tyX8_ok nmX8 hown hK hP hD hS 0 rfl rfl 0 (by decide) (htb _ (am_big_of (i := 294) (by decide +kernel) rfl)) (fun _ h9 => h9) rfl hin rfl (by decide +kernel) rfl rfl (Nat.le_of_ble_eq_true rfl) dc_Row_10 (fun H locs hP hD hS => ?_)
  refine lv_aload_n hx hb dc_Row_13 rfl (lv_at hl 0 rfl) ?_
  refine lv_bipush (v := 48) hx hb dc_Row_14 (by decide) ?_
  refine k_newa (atype := .int) (N' := 48) (a0 := (48, .inl (fun _ => 0))) hx hb (htb _ (am_big_of (i := 224) (by decide +kernel) rfl)) (ty := .int) rfl hK hP hD hS hA 0 rfl (fun _ => rfl) (by decide) (by decide) (Nat.le_of_ble_eq_true rfl) (Nat.le_of_ble_eq_true rfl) (Nat.le_of_ble_eq_true rfl) dc_Row_16 (fun q1 H hP hD hS => ?_)
  refine va_putF (D := D) (ci := 8) (v := .ref q1) (ty := .array .int) (own := "TripleSieve$Row") (ref := "TripleSieve$Row") (C := RX8) (T := TX8) (N := 9) hx hb htb am_inX8 tyX8 tyX8_ok nmX8 hown hK hP hD hS 0 rfl rfl 1 (by decide) (htb _ (am_big_of (i := 298) (by decide +kernel) rfl)) (fun _ h9 => h9) rfl hin rfl (by decide +kernel) rfl rfl (Nat.le_of_ble_eq_true rfl) dc_Row_18 (fun H locs hP hD hS => ?_)
  refine lv_aload_n hx hb dc_Row_21 rfl (lv_at hl 0 rfl) ?_
  refine lv_bipush (v := 48) hx hb dc_Row_22 (by decide) ?_
  refine k_newa (atype := .int) (N' := 48) (a0 := (48, .inl (fun _ => 0))) hx hb (htb _ (am_big_of (i := 224) (by decide +kernel) rfl)) (ty := .int) rfl hK hP hD hS hA 0 rfl (fun _ => rfl) (by decide) (by decide) (Nat.le_of_ble_eq_true rfl) (Nat.le_of_ble_eq_true rfl) (Nat.le_of_ble_eq_true rfl) dc_Row_24 (fun q2 H hP hD hS => ?_)
  refine va_putF (D := D) (ci := 8) (v := .ref q2) (ty := .array .int) (own := "TripleSieve$Row") (ref := "TripleSieve$Row") (C := RX8) (T := TX8) (N := 9) hx hb htb am_inX8 tyX8 tyX8_ok nmX8 hown hK hP hD hS 0 rfl rfl 2 (by decide) (htb _ (am_big_of (i := 302) (by decide +kernel) rfl)) (fun _ h9 => h9) rfl hin rfl (by decide +kernel) rfl rfl (Nat.le_of_ble_eq_true rfl) dc_Row_26 (fun H locs hP hD hS => ?_)
  refine lv_aload_n hx hb dc_Row_29 rfl (lv_at hl 0 rfl) ?_
  refine lv_bipush (v := 48) hx hb dc_Row_30 (by decide) ?_
  refine k_newa (atype := .boolean) (N' := 48) (a0 := (48, .inl (fun _ => 0))) hx hb (htb _ (am_big_of (i := 340) (by decide +kernel) rfl)) (ty := .boolean) rfl hK hP hD hS hA 1 rfl (fun _ => rfl) (by decide) (by decide) (Nat.le_of_ble_eq_true rfl) (Nat.le_of_ble_eq_true rfl) (Nat.le_of_ble_eq_true rfl) dc_Row_32 (fun q3 H hP hD hS => ?_)
  refine va_putF (D := D) (ci := 8) (v := .ref q3) (ty := .array .boolean) (own := "TripleSieve$Row") (ref := "TripleSieve$Row") (C := RX8) (T := TX8) (N := 9) hx hb htb am_inX8 tyX8 tyX8_ok nmX8 hown hK hP hD hS 0 rfl rfl 3 (by decide) (htb _ (am_big_of (i := 304) (by decide +kernel) rfl)) (fun _ h9 => h9) rfl hin rfl (by decide +kernel) rfl rfl (Nat.le_of_ble_eq_true rfl) dc_Row_34 (fun H locs hP hD hS => ?_)
  refine lv_aload_n hx hb dc_Row_37 rfl (lv_at hl 0 rfl) ?_
  refine lv_bipush (v := 96) hx hb dc_Row_38 (by decide) ?_
  refine k_newa (atype := .int) (N' := 96) (a0 := (96, .inl (fun _ => 0))) hx hb (htb _ (am_big_of (i := 224) (by decide +kernel) rfl)) (ty := .int) rfl hK hP hD hS hA 0 rfl (fun _ => rfl) (by decide) (by decide) (Nat.le_of_ble_eq_true rfl) (Nat.le_of_ble_eq_true rfl) (Nat.le_of_ble_eq_true rfl) dc_Row_40 (fun q4 H hP hD hS => ?_)
  refine va_putF (D := D) (ci := 8) (v := .ref q4) (ty := .array .int) (own := "TripleSieve$Row") (ref := "TripleSieve$Row") (C := RX8) (T := TX8) (N := 9) hx hb htb am_inX8 tyX8 tyX8_ok nmX8 hown hK hP hD hS 0 rfl rfl 4 (by decide) (htb _ (am_big_of (i := 306) (by decide +kernel) rfl)) (fun _ h9 => h9) rfl hin rfl (by decide +kernel) rfl rfl (Nat.le_of_ble_eq_true rfl) dc_Row_42 (fun H locs hP hD hS => ?_)
  refine lv_aload_n hx hb dc_Row_45 rfl (lv_at hl 0 rfl) ?_
  refine lv_bipush (v := 96) hx hb dc_Row_46 (by decide) ?_
  refine k_newa (atype := .int) (N' := 96) (a0 := (96, .inl (fun _ => 0))) hx hb (htb _ (am_big_of (i := 224) (by decide +kernel) rfl)) (ty := .int) rfl hK hP hD hS hA 0 rfl (fun _ => rfl) (by decide) (by decide) (Nat.le_of_ble_eq_true rfl) (Nat.le_of_ble_eq_true rfl) (Nat.le_of_ble_eq_true rfl) dc_Row_48 (fun q5 H hP hD hS => ?_)
  refine va_putF (D := D) (ci := 8) (v := .ref q5) (ty := .array .int) (own := "TripleSieve$Row") (ref := "TripleSieve$Row") (C := RX8) (T := TX8) (N := 9) hx hb htb am_inX8 tyX8 tyX8_ok nmX8 hown hK hP hD hS 0 rfl rfl 5 (by decide) (htb _ (am_big_of (i := 308) (by decide +kernel) rfl)) (fun _ h9 => h9) rfl hin rfl (by decide +kernel) rfl rfl (Nat.le_of_ble_eq_true rfl) dc_Row_50 (fun H locs hP hD hS => ?_)
  refine W.widen (k := 6) (n := 480) (Nat.le_of_ble_eq_true rfl) (Nat.le_of_ble_eq_true rfl) ?_
  exact W.vret hx hb hr (fun t ht hW => ⟨⟨(fun i => if i = 0 then q0 else if i = 1 then q1 else if i = 2 then q2 else if i = 3 then q3 else if i = 4 then q4 else if i = 5 then q5 else 0), rfl, trivial, by rw [ht]; exact hP, va_K.moved hW.alike hK, hD⟩, hS.F ht⟩) hS.2.2 dc_Row_53
abbrev bc_Peeling : ByteArray := prog_7_method_1_code
def yc_Peeling : MethodName := ⟨"TripleSieve$Peeling", "<init>", "()V"⟩
abbrev w0_Peeling (h0 : Nat) : va_W := [(h0, .inr (5, [.null, .null, .int 0, .null, .int 0, .int 0, .null, .null]))]
theorem dc_Peeling_0 : decode bc_Peeling 0 = .ok (.aload_n 0, 1) := by decide +kernel
theorem dc_Peeling_1 : decode bc_Peeling 1 = .ok (.invokespecial 3, 3) := by decide +kernel
theorem dc_Peeling_4 : decode bc_Peeling 4 = .ok (.aload_n 0, 1) := by decide +kernel
theorem dc_Peeling_5 : decode bc_Peeling 5 = .ok (.bipush 48, 2) := by decide +kernel
theorem dc_Peeling_7 : decode bc_Peeling 7 = .ok (.newarray .int, 2) := by decide +kernel
theorem dc_Peeling_9 : decode bc_Peeling 9 = .ok (.putfield 9, 3) := by decide +kernel
theorem dc_Peeling_12 : decode bc_Peeling 12 = .ok (.aload_n 0, 1) := by decide +kernel
theorem dc_Peeling_13 : decode bc_Peeling 13 = .ok (.bipush 48, 2) := by decide +kernel
theorem dc_Peeling_15 : decode bc_Peeling 15 = .ok (.newarray .int, 2) := by decide +kernel
theorem dc_Peeling_17 : decode bc_Peeling 17 = .ok (.putfield 15, 3) := by decide +kernel
theorem dc_Peeling_20 : decode bc_Peeling 20 = .ok (.aload_n 0, 1) := by decide +kernel
theorem dc_Peeling_21 : decode bc_Peeling 21 = .ok (.bipush 96, 2) := by decide +kernel
theorem dc_Peeling_23 : decode bc_Peeling 23 = .ok (.newarray .int, 2) := by decide +kernel
theorem dc_Peeling_25 : decode bc_Peeling 25 = .ok (.putfield 18, 3) := by decide +kernel
theorem dc_Peeling_28 : decode bc_Peeling 28 = .ok (.aload_n 0, 1) := by decide +kernel
theorem dc_Peeling_29 : decode bc_Peeling 29 = .ok (.bipush 48, 2) := by decide +kernel
theorem dc_Peeling_31 : decode bc_Peeling 31 = .ok (.newarray .int, 2) := by decide +kernel
theorem dc_Peeling_33 : decode bc_Peeling 33 = .ok (.putfield 21, 3) := by decide +kernel
theorem dc_Peeling_36 : decode bc_Peeling 36 = .ok (.aload_n 0, 1) := by decide +kernel
theorem dc_Peeling_37 : decode bc_Peeling 37 = .ok (.bipush 96, 2) := by decide +kernel
theorem dc_Peeling_39 : decode bc_Peeling 39 = .ok (.newarray .int, 2) := by decide +kernel
theorem dc_Peeling_41 : decode bc_Peeling 41 = .ok (.putfield 24, 3) := by decide +kernel
theorem dc_Peeling_44 : decode bc_Peeling 44 = .ok (.return_, 1) := by decide +kernel
abbrev w1_Peeling (I : Nat → ClassId) (h0 : Nat) (u : Nat → Nat) : va_W := [(h0, .inr (5, [.ref (u 0), .ref (u 1), .int 0, .ref (u 2), .int 0, .int 0, .ref (u 3), .ref (u 4)])), (u 0, .inl (I 100, (48, .inl (fun _ => 0)))), (u 1, .inl (I 100, (48, .inl (fun _ => 0)))), (u 2, .inl (I 100, (96, .inl (fun _ => 0)))), (u 3, .inl (I 100, (48, .inl (fun _ => 0)))), (u 4, .inl (I 100, (96, .inl (fun _ => 0))))]
set_option maxHeartbeats 4000000 in
theorem kc_Peeling (l : Launch) (D : va_G) (I : Nat → ClassId) (base t0 h0 sz d : Nat) : Met l yc_Peeling (jd_w yc_Peeling bc_Peeling 1 none) (kr (d + 1) 5 336) (kPc D I base t0 (w0_Peeling h0) h0 sz) (kQ D I (w1_Peeling I h0) (w0_Peeling h0) sz) 5 336 (va_A (w0_Peeling h0) sz) := by
  refine Met.ofW (cc := bc_Peeling) (maxL := 1) (ret := none) (by decide) rfl ?_
  intro p e s m args below meth c s₁ B hml hv
  obtain ⟨rfl, hsz, hP, hK, hD0, hb0, hb1, hX⟩ := hv
  have hx := B.exec
  have hb := B.bytes
  have hr := B.returns
  have hts := atoms_spec (ws := jd_w yc_Peeling bc_Peeling 1 none) B.pre
  have htb : ∀ w ∈ am_big, w.before [Value.ref h0].toArray s = true := fun w hw => hts w (List.mem_cons_of_mem _ hw)
  have hown : s.vm.findClass yc_Peeling.cls = some m.cls := findClass_of_methodNamed B.named
  have hlocks := B.notSynchronized
  have hin : meth.name = "<init>" := (name_of_methodNamed B.named B.method).1
  subst hsz
  unfold kQ
  have hD := hD0.self (sz := s.heap.size)
  generalize hAe : va_A (w0_Peeling h0) s.heap.size = A at hD ⊢
  have hA : ∀ q : Nat, s.heap.size ≤ q → A q := fun q h => by rw [← hAe]; exact Or.inr h
  have hAB : ∀ q : Nat, A q → base ≤ q := fun q h => by
    rw [← hAe] at h
    rcases h with ⟨k, e, h⟩ | h
    · have hk : k < 1 := (List.getElem?_eq_some_iff.mp h).1
      have hk : k = 0 := by omega
      subst hk
      cases h
      exact hb0
    · omega
  have hS : va_S A s.heap s.heap [] := va_S.rf
  have hl := lv_entry ([.ref h0]) (n := 1) (Nat.le_of_ble_eq_true rfl)
  rw [lg_entry_eq]
  generalize (lg_sl ([.ref h0]) ++ List.replicate (1 - (lg_sl ([.ref h0])).length) Slot.unset).toArray = ls at hl ⊢
  have hl : lv_has ls 1 [(0, .ref h0)] := hl
  refine lv_aload_n hx hb dc_Peeling_0 rfl (lv_at hl 0 rfl) ?_
  refine W.objInit hx hb hown (htb _ (am_big_of (i := 346) (by decide +kernel) rfl)) (htb _ (am_big_of (i := 138) (by decide +kernel) rfl)) (htb _ (am_big_of (i := 139) (by decide +kernel) rfl)) rfl (by rw [hml]; exact hl.1) rfl dc_Peeling_1 (Nat.le_of_ble_eq_true rfl) (Nat.le_of_ble_eq_true rfl) ?_
  refine W.eq (g2 := F0 m 4 ls []) rfl ?_
  refine lv_aload_n hx hb dc_Peeling_4 rfl (lv_at hl 0 rfl) ?_
  refine lv_bipush (v := 48) hx hb dc_Peeling_5 (by decide) ?_
  refine k_newa (atype := .int) (N' := 48) (a0 := (48, .inl (fun _ => 0))) hx hb (htb _ (am_big_of (i := 224) (by decide +kernel) rfl)) (ty := .int) rfl hK hP hD hS hA 0 rfl (fun _ => rfl) (by decide) (by decide) (Nat.le_of_ble_eq_true rfl) (Nat.le_of_ble_eq_true rfl) (Nat.le_of_ble_eq_true rfl) dc_Peeling_7 (fun q0 H hP hD hS => ?_)
  refine va_putF (D := D) (ci := 5) (v := .ref q0) (ty := .array .int) (own := "TripleSieve$Peeling") (ref := "TripleSieve$Peeling") (C := RX5) (T := TX5) (N := 8) hx hb htb am_inX5 tyX5 tyX5_ok nmX5 hown hK hP hD hS 0 rfl rfl 0 (by decide) (htb _ (am_big_of (i := 347) (by decide +kernel) rfl)) (fun _ h9 => h9) rfl hin rfl (by decide +kernel) rfl rfl (Nat.le_of_ble_eq_true rfl) dc_Peeling_9 (fun H locs hP hD hS => ?_)
  refine lv_aload_n hx hb dc_Peeling_12 rfl (lv_at hl 0 rfl) ?_
  refine lv_bipush (v := 48) hx hb dc_Peeling_13 (by decide) ?_
  refine k_newa (atype := .int) (N' := 48) (a0 := (48, .inl (fun _ => 0))) hx hb (htb _ (am_big_of (i := 224) (by decide +kernel) rfl)) (ty := .int) rfl hK hP hD hS hA 0 rfl (fun _ => rfl) (by decide) (by decide) (Nat.le_of_ble_eq_true rfl) (Nat.le_of_ble_eq_true rfl) (Nat.le_of_ble_eq_true rfl) dc_Peeling_15 (fun q1 H hP hD hS => ?_)
  refine va_putF (D := D) (ci := 5) (v := .ref q1) (ty := .array .int) (own := "TripleSieve$Peeling") (ref := "TripleSieve$Peeling") (C := RX5) (T := TX5) (N := 8) hx hb htb am_inX5 tyX5 tyX5_ok nmX5 hown hK hP hD hS 0 rfl rfl 1 (by decide) (htb _ (am_big_of (i := 349) (by decide +kernel) rfl)) (fun _ h9 => h9) rfl hin rfl (by decide +kernel) rfl rfl (Nat.le_of_ble_eq_true rfl) dc_Peeling_17 (fun H locs hP hD hS => ?_)
  refine lv_aload_n hx hb dc_Peeling_20 rfl (lv_at hl 0 rfl) ?_
  refine lv_bipush (v := 96) hx hb dc_Peeling_21 (by decide) ?_
  refine k_newa (atype := .int) (N' := 96) (a0 := (96, .inl (fun _ => 0))) hx hb (htb _ (am_big_of (i := 224) (by decide +kernel) rfl)) (ty := .int) rfl hK hP hD hS hA 0 rfl (fun _ => rfl) (by decide) (by decide) (Nat.le_of_ble_eq_true rfl) (Nat.le_of_ble_eq_true rfl) (Nat.le_of_ble_eq_true rfl) dc_Peeling_23 (fun q2 H hP hD hS => ?_)
  refine va_putF (D := D) (ci := 5) (v := .ref q2) (ty := .array .int) (own := "TripleSieve$Peeling") (ref := "TripleSieve$Peeling") (C := RX5) (T := TX5) (N := 8) hx hb htb am_inX5 tyX5 tyX5_ok nmX5 hown hK hP hD hS 0 rfl rfl 3 (by decide) (htb _ (am_big_of (i := 353) (by decide +kernel) rfl)) (fun _ h9 => h9) rfl hin rfl (by decide +kernel) rfl rfl (Nat.le_of_ble_eq_true rfl) dc_Peeling_25 (fun H locs hP hD hS => ?_)
  refine lv_aload_n hx hb dc_Peeling_28 rfl (lv_at hl 0 rfl) ?_
  refine lv_bipush (v := 48) hx hb dc_Peeling_29 (by decide) ?_
  refine k_newa (atype := .int) (N' := 48) (a0 := (48, .inl (fun _ => 0))) hx hb (htb _ (am_big_of (i := 224) (by decide +kernel) rfl)) (ty := .int) rfl hK hP hD hS hA 0 rfl (fun _ => rfl) (by decide) (by decide) (Nat.le_of_ble_eq_true rfl) (Nat.le_of_ble_eq_true rfl) (Nat.le_of_ble_eq_true rfl) dc_Peeling_31 (fun q3 H hP hD hS => ?_)
  refine va_putF (D := D) (ci := 5) (v := .ref q3) (ty := .array .int) (own := "TripleSieve$Peeling") (ref := "TripleSieve$Peeling") (C := RX5) (T := TX5) (N := 8) hx hb htb am_inX5 tyX5 tyX5_ok nmX5 hown hK hP hD hS 0 rfl rfl 6 (by decide) (htb _ (am_big_of (i := 356) (by decide +kernel) rfl)) (fun _ h9 => h9) rfl hin rfl (by decide +kernel) rfl rfl (Nat.le_of_ble_eq_true rfl) dc_Peeling_33 (fun H locs hP hD hS => ?_)
  refine lv_aload_n hx hb dc_Peeling_36 rfl (lv_at hl 0 rfl) ?_
  refine lv_bipush (v := 96) hx hb dc_Peeling_37 (by decide) ?_
  refine k_newa (atype := .int) (N' := 96) (a0 := (96, .inl (fun _ => 0))) hx hb (htb _ (am_big_of (i := 224) (by decide +kernel) rfl)) (ty := .int) rfl hK hP hD hS hA 0 rfl (fun _ => rfl) (by decide) (by decide) (Nat.le_of_ble_eq_true rfl) (Nat.le_of_ble_eq_true rfl) (Nat.le_of_ble_eq_true rfl) dc_Peeling_39 (fun q4 H hP hD hS => ?_)
  refine va_putF (D := D) (ci := 5) (v := .ref q4) (ty := .array .int) (own := "TripleSieve$Peeling") (ref := "TripleSieve$Peeling") (C := RX5) (T := TX5) (N := 8) hx hb htb am_inX5 tyX5 tyX5_ok nmX5 hown hK hP hD hS 0 rfl rfl 7 (by decide) (htb _ (am_big_of (i := 357) (by decide +kernel) rfl)) (fun _ h9 => h9) rfl hin rfl (by decide +kernel) rfl rfl (Nat.le_of_ble_eq_true rfl) dc_Peeling_41 (fun H locs hP hD hS => ?_)
  refine W.widen (k := 5) (n := 336) (Nat.le_of_ble_eq_true rfl) (Nat.le_of_ble_eq_true rfl) ?_
  exact W.vret hx hb hr (fun t ht hW => ⟨⟨(fun i => if i = 0 then q0 else if i = 1 then q1 else if i = 2 then q2 else if i = 3 then q3 else if i = 4 then q4 else 0), rfl, trivial, by rw [ht]; exact hP, va_K.moved hW.alike hK, hD⟩, hS.F ht⟩) hS.2.2 dc_Peeling_44
abbrev bc_Rounds : ByteArray := prog_9_method_1_code
def yc_Rounds : MethodName := ⟨"TripleSieve$Rounds", "<init>", "()V"⟩
abbrev w0_Rounds (h0 : Nat) : va_W := [(h0, .inr (7, [.null]))]
theorem dc_Rounds_0 : decode bc_Rounds 0 = .ok (.aload_n 0, 1) := by decide +kernel
theorem dc_Rounds_1 : decode bc_Rounds 1 = .ok (.invokespecial 3, 3) := by decide +kernel
theorem dc_Rounds_4 : decode bc_Rounds 4 = .ok (.aload_n 0, 1) := by decide +kernel
theorem dc_Rounds_5 : decode bc_Rounds 5 = .ok (.bipush 48, 2) := by decide +kernel
theorem dc_Rounds_7 : decode bc_Rounds 7 = .ok (.newarray .int, 2) := by decide +kernel
theorem dc_Rounds_9 : decode bc_Rounds 9 = .ok (.putfield 9, 3) := by decide +kernel
theorem dc_Rounds_12 : decode bc_Rounds 12 = .ok (.return_, 1) := by decide +kernel
abbrev w1_Rounds (I : Nat → ClassId) (h0 : Nat) (u : Nat → Nat) : va_W := [(h0, .inr (7, [.ref (u 0)])), (u 0, .inl (I 100, (48, .inl (fun _ => 0))))]
set_option maxHeartbeats 4000000 in
theorem kc_Rounds (l : Launch) (D : va_G) (I : Nat → ClassId) (base t0 h0 sz d : Nat) : Met l yc_Rounds (jd_w yc_Rounds bc_Rounds 1 none) (kr (d + 1) 1 48) (kPc D I base t0 (w0_Rounds h0) h0 sz) (kQ D I (w1_Rounds I h0) (w0_Rounds h0) sz) 1 48 (va_A (w0_Rounds h0) sz) := by
  refine Met.ofW (cc := bc_Rounds) (maxL := 1) (ret := none) (by decide) rfl ?_
  intro p e s m args below meth c s₁ B hml hv
  obtain ⟨rfl, hsz, hP, hK, hD0, hb0, hb1, hX⟩ := hv
  have hx := B.exec
  have hb := B.bytes
  have hr := B.returns
  have hts := atoms_spec (ws := jd_w yc_Rounds bc_Rounds 1 none) B.pre
  have htb : ∀ w ∈ am_big, w.before [Value.ref h0].toArray s = true := fun w hw => hts w (List.mem_cons_of_mem _ hw)
  have hown : s.vm.findClass yc_Rounds.cls = some m.cls := findClass_of_methodNamed B.named
  have hlocks := B.notSynchronized
  have hin : meth.name = "<init>" := (name_of_methodNamed B.named B.method).1
  subst hsz
  unfold kQ
  have hD := hD0.self (sz := s.heap.size)
  generalize hAe : va_A (w0_Rounds h0) s.heap.size = A at hD ⊢
  have hA : ∀ q : Nat, s.heap.size ≤ q → A q := fun q h => by rw [← hAe]; exact Or.inr h
  have hAB : ∀ q : Nat, A q → base ≤ q := fun q h => by
    rw [← hAe] at h
    rcases h with ⟨k, e, h⟩ | h
    · have hk : k < 1 := (List.getElem?_eq_some_iff.mp h).1
      have hk : k = 0 := by omega
      subst hk
      cases h
      exact hb0
    · omega
  have hS : va_S A s.heap s.heap [] := va_S.rf
  have hl := lv_entry ([.ref h0]) (n := 1) (Nat.le_of_ble_eq_true rfl)
  rw [lg_entry_eq]
  generalize (lg_sl ([.ref h0]) ++ List.replicate (1 - (lg_sl ([.ref h0])).length) Slot.unset).toArray = ls at hl ⊢
  have hl : lv_has ls 1 [(0, .ref h0)] := hl
  refine lv_aload_n hx hb dc_Rounds_0 rfl (lv_at hl 0 rfl) ?_
  refine W.objInit hx hb hown (htb _ (am_big_of (i := 380) (by decide +kernel) rfl)) (htb _ (am_big_of (i := 138) (by decide +kernel) rfl)) (htb _ (am_big_of (i := 139) (by decide +kernel) rfl)) rfl (by rw [hml]; exact hl.1) rfl dc_Rounds_1 (Nat.le_of_ble_eq_true rfl) (Nat.le_of_ble_eq_true rfl) ?_
  refine W.eq (g2 := F0 m 4 ls []) rfl ?_
  refine lv_aload_n hx hb dc_Rounds_4 rfl (lv_at hl 0 rfl) ?_
  refine lv_bipush (v := 48) hx hb dc_Rounds_5 (by decide) ?_
  refine k_newa (atype := .int) (N' := 48) (a0 := (48, .inl (fun _ => 0))) hx hb (htb _ (am_big_of (i := 224) (by decide +kernel) rfl)) (ty := .int) rfl hK hP hD hS hA 0 rfl (fun _ => rfl) (by decide) (by decide) (Nat.le_of_ble_eq_true rfl) (Nat.le_of_ble_eq_true rfl) (Nat.le_of_ble_eq_true rfl) dc_Rounds_7 (fun q0 H hP hD hS => ?_)
  refine va_putF (D := D) (ci := 7) (v := .ref q0) (ty := .array .int) (own := "TripleSieve$Rounds") (ref := "TripleSieve$Rounds") (C := RX7) (T := TX7) (N := 1) hx hb htb am_inX7 tyX7 tyX7_ok nmX7 hown hK hP hD hS 0 rfl rfl 0 (by decide) (htb _ (am_big_of (i := 381) (by decide +kernel) rfl)) (fun _ h9 => h9) rfl hin rfl (by decide +kernel) rfl rfl (Nat.le_of_ble_eq_true rfl) dc_Rounds_9 (fun H locs hP hD hS => ?_)
  refine W.widen (k := 1) (n := 48) (Nat.le_of_ble_eq_true rfl) (Nat.le_of_ble_eq_true rfl) ?_
  exact W.vret hx hb hr (fun t ht hW => ⟨⟨(fun i => if i = 0 then q0 else 0), rfl, trivial, by rw [ht]; exact hP, va_K.moved hW.alike hK, hD⟩, hS.F ht⟩) hS.2.2 dc_Rounds_12
abbrev bc_Basis : ByteArray := prog_3_method_1_code
def yc_Basis : MethodName := ⟨"TripleSieve$Basis", "<init>", "()V"⟩
abbrev w0_Basis (h0 : Nat) : va_W := [(h0, .inr (1, [.null, .null, .int 0]))]
theorem dc_Basis_0 : decode bc_Basis 0 = .ok (.aload_n 0, 1) := by decide +kernel
theorem dc_Basis_1 : decode bc_Basis 1 = .ok (.invokespecial 3, 3) := by decide +kernel
theorem dc_Basis_4 : decode bc_Basis 4 = .ok (.aload_n 0, 1) := by decide +kernel
theorem dc_Basis_5 : decode bc_Basis 5 = .ok (.bipush 48, 2) := by decide +kernel
theorem dc_Basis_7 : decode bc_Basis 7 = .ok (.newarray .long, 2) := by decide +kernel
theorem dc_Basis_9 : decode bc_Basis 9 = .ok (.putfield 9, 3) := by decide +kernel
theorem dc_Basis_12 : decode bc_Basis 12 = .ok (.aload_n 0, 1) := by decide +kernel
theorem dc_Basis_13 : decode bc_Basis 13 = .ok (.bipush 48, 2) := by decide +kernel
theorem dc_Basis_15 : decode bc_Basis 15 = .ok (.newarray .long, 2) := by decide +kernel
theorem dc_Basis_17 : decode bc_Basis 17 = .ok (.putfield 15, 3) := by decide +kernel
theorem dc_Basis_20 : decode bc_Basis 20 = .ok (.return_, 1) := by decide +kernel
abbrev w1_Basis (I : Nat → ClassId) (h0 : Nat) (u : Nat → Nat) : va_W := [(h0, .inr (1, [.ref (u 0), .ref (u 1), .int 0])), (u 0, .inl (I 103, (48, .inr (.inl (fun _ => 0))))), (u 1, .inl (I 103, (48, .inr (.inl (fun _ => 0)))))]
set_option maxHeartbeats 4000000 in
theorem kc_Basis (l : Launch) (D : va_G) (I : Nat → ClassId) (base t0 h0 sz d : Nat) : Met l yc_Basis (jd_w yc_Basis bc_Basis 1 none) (kr (d + 1) 2 96) (kPc D I base t0 (w0_Basis h0) h0 sz) (kQ D I (w1_Basis I h0) (w0_Basis h0) sz) 2 96 (va_A (w0_Basis h0) sz) := by
  refine Met.ofW (cc := bc_Basis) (maxL := 1) (ret := none) (by decide) rfl ?_
  intro p e s m args below meth c s₁ B hml hv
  obtain ⟨rfl, hsz, hP, hK, hD0, hb0, hb1, hX⟩ := hv
  have hx := B.exec
  have hb := B.bytes
  have hr := B.returns
  have hts := atoms_spec (ws := jd_w yc_Basis bc_Basis 1 none) B.pre
  have htb : ∀ w ∈ am_big, w.before [Value.ref h0].toArray s = true := fun w hw => hts w (List.mem_cons_of_mem _ hw)
  have hown : s.vm.findClass yc_Basis.cls = some m.cls := findClass_of_methodNamed B.named
  have hlocks := B.notSynchronized
  have hin : meth.name = "<init>" := (name_of_methodNamed B.named B.method).1
  subst hsz
  unfold kQ
  have hD := hD0.self (sz := s.heap.size)
  generalize hAe : va_A (w0_Basis h0) s.heap.size = A at hD ⊢
  have hA : ∀ q : Nat, s.heap.size ≤ q → A q := fun q h => by rw [← hAe]; exact Or.inr h
  have hAB : ∀ q : Nat, A q → base ≤ q := fun q h => by
    rw [← hAe] at h
    rcases h with ⟨k, e, h⟩ | h
    · have hk : k < 1 := (List.getElem?_eq_some_iff.mp h).1
      have hk : k = 0 := by omega
      subst hk
      cases h
      exact hb0
    · omega
  have hS : va_S A s.heap s.heap [] := va_S.rf
  have hl := lv_entry ([.ref h0]) (n := 1) (Nat.le_of_ble_eq_true rfl)
  rw [lg_entry_eq]
  generalize (lg_sl ([.ref h0]) ++ List.replicate (1 - (lg_sl ([.ref h0])).length) Slot.unset).toArray = ls at hl ⊢
  have hl : lv_has ls 1 [(0, .ref h0)] := hl
  refine lv_aload_n hx hb dc_Basis_0 rfl (lv_at hl 0 rfl) ?_
  refine W.objInit hx hb hown (htb _ (am_big_of (i := 391) (by decide +kernel) rfl)) (htb _ (am_big_of (i := 138) (by decide +kernel) rfl)) (htb _ (am_big_of (i := 139) (by decide +kernel) rfl)) rfl (by rw [hml]; exact hl.1) rfl dc_Basis_1 (Nat.le_of_ble_eq_true rfl) (Nat.le_of_ble_eq_true rfl) ?_
  refine W.eq (g2 := F0 m 4 ls []) rfl ?_
  refine lv_aload_n hx hb dc_Basis_4 rfl (lv_at hl 0 rfl) ?_
  refine lv_bipush (v := 48) hx hb dc_Basis_5 (by decide) ?_
  refine k_newa (atype := .long) (N' := 48) (a0 := (48, .inr (.inl (fun _ => 0)))) hx hb (htb _ (am_big_of (i := 223) (by decide +kernel) rfl)) (ty := .long) rfl hK hP hD hS hA 3 rfl (fun _ => rfl) (by decide) (by decide) (Nat.le_of_ble_eq_true rfl) (Nat.le_of_ble_eq_true rfl) (Nat.le_of_ble_eq_true rfl) dc_Basis_7 (fun q0 H hP hD hS => ?_)
  refine va_putF (D := D) (ci := 1) (v := .ref q0) (ty := .array .long) (own := "TripleSieve$Basis") (ref := "TripleSieve$Basis") (C := RX1) (T := TX1) (N := 3) hx hb htb am_inX1 tyX1 tyX1_ok nmX1 hown hK hP hD hS 0 rfl rfl 0 (by decide) (htb _ (am_big_of (i := 392) (by decide +kernel) rfl)) (fun _ h9 => h9) rfl hin rfl (by decide +kernel) rfl rfl (Nat.le_of_ble_eq_true rfl) dc_Basis_9 (fun H locs hP hD hS => ?_)
  refine lv_aload_n hx hb dc_Basis_12 rfl (lv_at hl 0 rfl) ?_
  refine lv_bipush (v := 48) hx hb dc_Basis_13 (by decide) ?_
  refine k_newa (atype := .long) (N' := 48) (a0 := (48, .inr (.inl (fun _ => 0)))) hx hb (htb _ (am_big_of (i := 223) (by decide +kernel) rfl)) (ty := .long) rfl hK hP hD hS hA 3 rfl (fun _ => rfl) (by decide) (by decide) (Nat.le_of_ble_eq_true rfl) (Nat.le_of_ble_eq_true rfl) (Nat.le_of_ble_eq_true rfl) dc_Basis_15 (fun q1 H hP hD hS => ?_)
  refine va_putF (D := D) (ci := 1) (v := .ref q1) (ty := .array .long) (own := "TripleSieve$Basis") (ref := "TripleSieve$Basis") (C := RX1) (T := TX1) (N := 3) hx hb htb am_inX1 tyX1 tyX1_ok nmX1 hown hK hP hD hS 0 rfl rfl 1 (by decide) (htb _ (am_big_of (i := 393) (by decide +kernel) rfl)) (fun _ h9 => h9) rfl hin rfl (by decide +kernel) rfl rfl (Nat.le_of_ble_eq_true rfl) dc_Basis_17 (fun H locs hP hD hS => ?_)
  refine W.widen (k := 2) (n := 96) (Nat.le_of_ble_eq_true rfl) (Nat.le_of_ble_eq_true rfl) ?_
  exact W.vret hx hb hr (fun t ht hW => ⟨⟨(fun i => if i = 0 then q0 else if i = 1 then q1 else 0), rfl, trivial, by rw [ht]; exact hP, va_K.moved hW.alike hK, hD⟩, hS.F ht⟩) hS.2.2 dc_Basis_20
abbrev bc_Mender : ByteArray := prog_6_method_1_code
def yc_Mender : MethodName := ⟨"TripleSieve$Mender", "<init>", "()V"⟩
abbrev w0_Mender (h0 : Nat) : va_W := [(h0, .inr (4, [.null, .int 0, .int 0, .null, .int 0, .null, .int 0]))]
theorem dc_Mender_0 : decode bc_Mender 0 = .ok (.aload_n 0, 1) := by decide +kernel
theorem dc_Mender_1 : decode bc_Mender 1 = .ok (.invokespecial 3, 3) := by decide +kernel
theorem dc_Mender_4 : decode bc_Mender 4 = .ok (.aload_n 0, 1) := by decide +kernel
theorem dc_Mender_5 : decode bc_Mender 5 = .ok (.iconst 3, 1) := by decide +kernel
theorem dc_Mender_6 : decode bc_Mender 6 = .ok (.newarray .int, 2) := by decide +kernel
theorem dc_Mender_8 : decode bc_Mender 8 = .ok (.putfield 9, 3) := by decide +kernel
theorem dc_Mender_11 : decode bc_Mender 11 = .ok (.aload_n 0, 1) := by decide +kernel
theorem dc_Mender_12 : decode bc_Mender 12 = .ok (.iconst (-1), 1) := by decide +kernel
theorem dc_Mender_13 : decode bc_Mender 13 = .ok (.putfield 15, 3) := by decide +kernel
theorem dc_Mender_16 : decode bc_Mender 16 = .ok (.aload_n 0, 1) := by decide +kernel
theorem dc_Mender_17 : decode bc_Mender 17 = .ok (.bipush 48, 2) := by decide +kernel
theorem dc_Mender_19 : decode bc_Mender 19 = .ok (.newarray .int, 2) := by decide +kernel
theorem dc_Mender_21 : decode bc_Mender 21 = .ok (.putfield 19, 3) := by decide +kernel
theorem dc_Mender_24 : decode bc_Mender 24 = .ok (.aload_n 0, 1) := by decide +kernel
theorem dc_Mender_25 : decode bc_Mender 25 = .ok (.bipush 96, 2) := by decide +kernel
theorem dc_Mender_27 : decode bc_Mender 27 = .ok (.newarray .int, 2) := by decide +kernel
theorem dc_Mender_29 : decode bc_Mender 29 = .ok (.putfield 22, 3) := by decide +kernel
theorem dc_Mender_32 : decode bc_Mender 32 = .ok (.return_, 1) := by decide +kernel
abbrev w1_Mender (I : Nat → ClassId) (h0 : Nat) (u : Nat → Nat) : va_W := [(h0, .inr (4, [.ref (u 0), .int 0, .int (-1), .ref (u 1), .int 0, .ref (u 2), .int 0])), (u 0, .inl (I 100, (3, .inl (fun _ => 0)))), (u 1, .inl (I 100, (48, .inl (fun _ => 0)))), (u 2, .inl (I 100, (96, .inl (fun _ => 0))))]
set_option maxHeartbeats 4000000 in
theorem kc_Mender (l : Launch) (D : va_G) (I : Nat → ClassId) (base t0 h0 sz d : Nat) : Met l yc_Mender (jd_w yc_Mender bc_Mender 1 none) (kr (d + 1) 3 147) (kPc D I base t0 (w0_Mender h0) h0 sz) (kQ D I (w1_Mender I h0) (w0_Mender h0) sz) 3 147 (va_A (w0_Mender h0) sz) := by
  refine Met.ofW (cc := bc_Mender) (maxL := 1) (ret := none) (by decide) rfl ?_
  intro p e s m args below meth c s₁ B hml hv
  obtain ⟨rfl, hsz, hP, hK, hD0, hb0, hb1, hX⟩ := hv
  have hx := B.exec
  have hb := B.bytes
  have hr := B.returns
  have hts := atoms_spec (ws := jd_w yc_Mender bc_Mender 1 none) B.pre
  have htb : ∀ w ∈ am_big, w.before [Value.ref h0].toArray s = true := fun w hw => hts w (List.mem_cons_of_mem _ hw)
  have hown : s.vm.findClass yc_Mender.cls = some m.cls := findClass_of_methodNamed B.named
  have hlocks := B.notSynchronized
  have hin : meth.name = "<init>" := (name_of_methodNamed B.named B.method).1
  subst hsz
  unfold kQ
  have hD := hD0.self (sz := s.heap.size)
  generalize hAe : va_A (w0_Mender h0) s.heap.size = A at hD ⊢
  have hA : ∀ q : Nat, s.heap.size ≤ q → A q := fun q h => by rw [← hAe]; exact Or.inr h
  have hAB : ∀ q : Nat, A q → base ≤ q := fun q h => by
    rw [← hAe] at h
    rcases h with ⟨k, e, h⟩ | h
    · have hk : k < 1 := (List.getElem?_eq_some_iff.mp h).1
      have hk : k = 0 := by omega
      subst hk
      cases h
      exact hb0
    · omega
  have hS : va_S A s.heap s.heap [] := va_S.rf
  have hl := lv_entry ([.ref h0]) (n := 1) (Nat.le_of_ble_eq_true rfl)
  rw [lg_entry_eq]
  generalize (lg_sl ([.ref h0]) ++ List.replicate (1 - (lg_sl ([.ref h0])).length) Slot.unset).toArray = ls at hl ⊢
  have hl : lv_has ls 1 [(0, .ref h0)] := hl
  refine lv_aload_n hx hb dc_Mender_0 rfl (lv_at hl 0 rfl) ?_
  refine W.objInit hx hb hown (htb _ (am_big_of (i := 407) (by decide +kernel) rfl)) (htb _ (am_big_of (i := 138) (by decide +kernel) rfl)) (htb _ (am_big_of (i := 139) (by decide +kernel) rfl)) rfl (by rw [hml]; exact hl.1) rfl dc_Mender_1 (Nat.le_of_ble_eq_true rfl) (Nat.le_of_ble_eq_true rfl) ?_
  refine W.eq (g2 := F0 m 4 ls []) rfl ?_
  refine lv_aload_n hx hb dc_Mender_4 rfl (lv_at hl 0 rfl) ?_
  refine lv_iconst (v := 3) hx hb dc_Mender_5 (by decide) ?_
  refine k_newa (atype := .int) (N' := 3) (a0 := (3, .inl (fun _ => 0))) hx hb (htb _ (am_big_of (i := 224) (by decide +kernel) rfl)) (ty := .int) rfl hK hP hD hS hA 0 rfl (fun _ => rfl) (by decide) (by decide) (Nat.le_of_ble_eq_true rfl) (Nat.le_of_ble_eq_true rfl) (Nat.le_of_ble_eq_true rfl) dc_Mender_6 (fun q0 H hP hD hS => ?_)
  refine va_putF (D := D) (ci := 4) (v := .ref q0) (ty := .array .int) (own := "TripleSieve$Mender") (ref := "TripleSieve$Mender") (C := RX4) (T := TX4) (N := 7) hx hb htb am_inX4 tyX4 tyX4_ok nmX4 hown hK hP hD hS 0 rfl rfl 0 (by decide) (htb _ (am_big_of (i := 408) (by decide +kernel) rfl)) (fun _ h9 => h9) rfl hin rfl (by decide +kernel) rfl rfl (Nat.le_of_ble_eq_true rfl) dc_Mender_8 (fun H locs hP hD hS => ?_)
  refine lv_aload_n hx hb dc_Mender_11 rfl (lv_at hl 0 rfl) ?_
  refine lv_iconst (v := (-1)) hx hb dc_Mender_12 (by decide) ?_
  refine va_put (D := D) (ci := 4) (v := .int (-1)) (ty := .int) (own := "TripleSieve$Mender") (ref := "TripleSieve$Mender") (C := RX4) (T := TX4) (N := 7) hx hb htb am_inX4 tyX4 tyX4_ok nmX4 hown hK hP hD hS 0 rfl rfl 2 (by decide) (htb _ (am_big_of (i := 412) (by decide +kernel) rfl)) (fun _ h9 => h9) rfl (by decide +kernel) rfl rfl (Nat.le_of_ble_eq_true rfl) dc_Mender_13 (fun H locs hP hD hS => ?_)
  refine lv_aload_n hx hb dc_Mender_16 rfl (lv_at hl 0 rfl) ?_
  refine lv_bipush (v := 48) hx hb dc_Mender_17 (by decide) ?_
  refine k_newa (atype := .int) (N' := 48) (a0 := (48, .inl (fun _ => 0))) hx hb (htb _ (am_big_of (i := 224) (by decide +kernel) rfl)) (ty := .int) rfl hK hP hD hS hA 0 rfl (fun _ => rfl) (by decide) (by decide) (Nat.le_of_ble_eq_true rfl) (Nat.le_of_ble_eq_true rfl) (Nat.le_of_ble_eq_true rfl) dc_Mender_19 (fun q1 H hP hD hS => ?_)
  refine va_putF (D := D) (ci := 4) (v := .ref q1) (ty := .array .int) (own := "TripleSieve$Mender") (ref := "TripleSieve$Mender") (C := RX4) (T := TX4) (N := 7) hx hb htb am_inX4 tyX4 tyX4_ok nmX4 hown hK hP hD hS 0 rfl rfl 3 (by decide) (htb _ (am_big_of (i := 414) (by decide +kernel) rfl)) (fun _ h9 => h9) rfl hin rfl (by decide +kernel) rfl rfl (Nat.le_of_ble_eq_true rfl) dc_Mender_21 (fun H locs hP hD hS => ?_)
  refine lv_aload_n hx hb dc_Mender_24 rfl (lv_at hl 0 rfl) ?_
  refine lv_bipush (v := 96) hx hb dc_Mender_25 (by decide) ?_
  refine k_newa (atype := .int) (N' := 96) (a0 := (96, .inl (fun _ => 0))) hx hb (htb _ (am_big_of (i := 224) (by decide +kernel) rfl)) (ty := .int) rfl hK hP hD hS hA 0 rfl (fun _ => rfl) (by decide) (by decide) (Nat.le_of_ble_eq_true rfl) (Nat.le_of_ble_eq_true rfl) (Nat.le_of_ble_eq_true rfl) dc_Mender_27 (fun q2 H hP hD hS => ?_)
  refine va_putF (D := D) (ci := 4) (v := .ref q2) (ty := .array .int) (own := "TripleSieve$Mender") (ref := "TripleSieve$Mender") (C := RX4) (T := TX4) (N := 7) hx hb htb am_inX4 tyX4 tyX4_ok nmX4 hown hK hP hD hS 0 rfl rfl 5 (by decide) (htb _ (am_big_of (i := 416) (by decide +kernel) rfl)) (fun _ h9 => h9) rfl hin rfl (by decide +kernel) rfl rfl (Nat.le_of_ble_eq_true rfl) dc_Mender_29 (fun H locs hP hD hS => ?_)
  refine W.widen (k := 3) (n := 147) (Nat.le_of_ble_eq_true rfl) (Nat.le_of_ble_eq_true rfl) ?_
  exact W.vret hx hb hr (fun t ht hW => ⟨⟨(fun i => if i = 0 then q0 else if i = 1 then q1 else if i = 2 then q2 else 0), rfl, trivial, by rw [ht]; exact hP, va_K.moved hW.alike hK, hD⟩, hS.F ht⟩) hS.2.2 dc_Mender_32
abbrev bc_Sieve : ByteArray := prog_11_method_1_code
def yc_Sieve : MethodName := ⟨"TripleSieve$Sieve", "<init>", "()V"⟩
abbrev w0_Sieve (h0 : Nat) : va_W := [(h0, .inr (9, [.null, .null, .null, .int 0]))]
theorem dc_Sieve_0 : decode bc_Sieve 0 = .ok (.aload_n 0, 1) := by decide +kernel
theorem dc_Sieve_1 : decode bc_Sieve 1 = .ok (.invokespecial 3, 3) := by decide +kernel
theorem dc_Sieve_4 : decode bc_Sieve 4 = .ok (.aload_n 0, 1) := by decide +kernel
theorem dc_Sieve_5 : decode bc_Sieve 5 = .ok (.bipush 7, 2) := by decide +kernel
theorem dc_Sieve_7 : decode bc_Sieve 7 = .ok (.newarray .int, 2) := by decide +kernel
theorem dc_Sieve_9 : decode bc_Sieve 9 = .ok (.putfield 11, 3) := by decide +kernel
theorem dc_Sieve_12 : decode bc_Sieve 12 = .ok (.aload_n 0, 1) := by decide +kernel
theorem dc_Sieve_13 : decode bc_Sieve 13 = .ok (.bipush 96, 2) := by decide +kernel
theorem dc_Sieve_15 : decode bc_Sieve 15 = .ok (.newarray .int, 2) := by decide +kernel
theorem dc_Sieve_17 : decode bc_Sieve 17 = .ok (.putfield 15, 3) := by decide +kernel
theorem dc_Sieve_20 : decode bc_Sieve 20 = .ok (.aload_n 0, 1) := by decide +kernel
theorem dc_Sieve_21 : decode bc_Sieve 21 = .ok (.bipush 96, 2) := by decide +kernel
theorem dc_Sieve_23 : decode bc_Sieve 23 = .ok (.newarray .int, 2) := by decide +kernel
theorem dc_Sieve_25 : decode bc_Sieve 25 = .ok (.putfield 18, 3) := by decide +kernel
theorem dc_Sieve_28 : decode bc_Sieve 28 = .ok (.return_, 1) := by decide +kernel
abbrev w1_Sieve (I : Nat → ClassId) (h0 : Nat) (u : Nat → Nat) : va_W := [(h0, .inr (9, [.ref (u 0), .ref (u 1), .ref (u 2), .int 0])), (u 0, .inl (I 100, (7, .inl (fun _ => 0)))), (u 1, .inl (I 100, (96, .inl (fun _ => 0)))), (u 2, .inl (I 100, (96, .inl (fun _ => 0))))]
set_option maxHeartbeats 4000000 in
theorem kc_Sieve (l : Launch) (D : va_G) (I : Nat → ClassId) (base t0 h0 sz d : Nat) : Met l yc_Sieve (jd_w yc_Sieve bc_Sieve 1 none) (kr (d + 1) 3 199) (kPc D I base t0 (w0_Sieve h0) h0 sz) (kQ D I (w1_Sieve I h0) (w0_Sieve h0) sz) 3 199 (va_A (w0_Sieve h0) sz) := by
  refine Met.ofW (cc := bc_Sieve) (maxL := 1) (ret := none) (by decide) rfl ?_
  intro p e s m args below meth c s₁ B hml hv
  obtain ⟨rfl, hsz, hP, hK, hD0, hb0, hb1, hX⟩ := hv
  have hx := B.exec
  have hb := B.bytes
  have hr := B.returns
  have hts := atoms_spec (ws := jd_w yc_Sieve bc_Sieve 1 none) B.pre
  have htb : ∀ w ∈ am_big, w.before [Value.ref h0].toArray s = true := fun w hw => hts w (List.mem_cons_of_mem _ hw)
  have hown : s.vm.findClass yc_Sieve.cls = some m.cls := findClass_of_methodNamed B.named
  have hlocks := B.notSynchronized
  have hin : meth.name = "<init>" := (name_of_methodNamed B.named B.method).1
  subst hsz
  unfold kQ
  have hD := hD0.self (sz := s.heap.size)
  generalize hAe : va_A (w0_Sieve h0) s.heap.size = A at hD ⊢
  have hA : ∀ q : Nat, s.heap.size ≤ q → A q := fun q h => by rw [← hAe]; exact Or.inr h
  have hAB : ∀ q : Nat, A q → base ≤ q := fun q h => by
    rw [← hAe] at h
    rcases h with ⟨k, e, h⟩ | h
    · have hk : k < 1 := (List.getElem?_eq_some_iff.mp h).1
      have hk : k = 0 := by omega
      subst hk
      cases h
      exact hb0
    · omega
  have hS : va_S A s.heap s.heap [] := va_S.rf
  have hl := lv_entry ([.ref h0]) (n := 1) (Nat.le_of_ble_eq_true rfl)
  rw [lg_entry_eq]
  generalize (lg_sl ([.ref h0]) ++ List.replicate (1 - (lg_sl ([.ref h0])).length) Slot.unset).toArray = ls at hl ⊢
  have hl : lv_has ls 1 [(0, .ref h0)] := hl
  refine lv_aload_n hx hb dc_Sieve_0 rfl (lv_at hl 0 rfl) ?_
  refine W.objInit hx hb hown (htb _ (am_big_of (i := 438) (by decide +kernel) rfl)) (htb _ (am_big_of (i := 138) (by decide +kernel) rfl)) (htb _ (am_big_of (i := 139) (by decide +kernel) rfl)) rfl (by rw [hml]; exact hl.1) rfl dc_Sieve_1 (Nat.le_of_ble_eq_true rfl) (Nat.le_of_ble_eq_true rfl) ?_
  refine W.eq (g2 := F0 m 4 ls []) rfl ?_
  refine lv_aload_n hx hb dc_Sieve_4 rfl (lv_at hl 0 rfl) ?_
  refine lv_bipush (v := 7) hx hb dc_Sieve_5 (by decide) ?_
  refine k_newa (atype := .int) (N' := 7) (a0 := (7, .inl (fun _ => 0))) hx hb (htb _ (am_big_of (i := 224) (by decide +kernel) rfl)) (ty := .int) rfl hK hP hD hS hA 0 rfl (fun _ => rfl) (by decide) (by decide) (Nat.le_of_ble_eq_true rfl) (Nat.le_of_ble_eq_true rfl) (Nat.le_of_ble_eq_true rfl) dc_Sieve_7 (fun q0 H hP hD hS => ?_)
  refine va_putF (D := D) (ci := 9) (v := .ref q0) (ty := .array .int) (own := "TripleSieve$Sieve") (ref := "TripleSieve$Sieve") (C := RX9) (T := TX9) (N := 4) hx hb htb am_inX9 tyX9 tyX9_ok nmX9 hown hK hP hD hS 0 rfl rfl 0 (by decide) (htb _ (am_big_of (i := 439) (by decide +kernel) rfl)) (fun _ h9 => h9) rfl hin rfl (by decide +kernel) rfl rfl (Nat.le_of_ble_eq_true rfl) dc_Sieve_9 (fun H locs hP hD hS => ?_)
  refine lv_aload_n hx hb dc_Sieve_12 rfl (lv_at hl 0 rfl) ?_
  refine lv_bipush (v := 96) hx hb dc_Sieve_13 (by decide) ?_
  refine k_newa (atype := .int) (N' := 96) (a0 := (96, .inl (fun _ => 0))) hx hb (htb _ (am_big_of (i := 224) (by decide +kernel) rfl)) (ty := .int) rfl hK hP hD hS hA 0 rfl (fun _ => rfl) (by decide) (by decide) (Nat.le_of_ble_eq_true rfl) (Nat.le_of_ble_eq_true rfl) (Nat.le_of_ble_eq_true rfl) dc_Sieve_15 (fun q1 H hP hD hS => ?_)
  refine va_putF (D := D) (ci := 9) (v := .ref q1) (ty := .array .int) (own := "TripleSieve$Sieve") (ref := "TripleSieve$Sieve") (C := RX9) (T := TX9) (N := 4) hx hb htb am_inX9 tyX9 tyX9_ok nmX9 hown hK hP hD hS 0 rfl rfl 1 (by decide) (htb _ (am_big_of (i := 441) (by decide +kernel) rfl)) (fun _ h9 => h9) rfl hin rfl (by decide +kernel) rfl rfl (Nat.le_of_ble_eq_true rfl) dc_Sieve_17 (fun H locs hP hD hS => ?_)
  refine lv_aload_n hx hb dc_Sieve_20 rfl (lv_at hl 0 rfl) ?_
  refine lv_bipush (v := 96) hx hb dc_Sieve_21 (by decide) ?_
  refine k_newa (atype := .int) (N' := 96) (a0 := (96, .inl (fun _ => 0))) hx hb (htb _ (am_big_of (i := 224) (by decide +kernel) rfl)) (ty := .int) rfl hK hP hD hS hA 0 rfl (fun _ => rfl) (by decide) (by decide) (Nat.le_of_ble_eq_true rfl) (Nat.le_of_ble_eq_true rfl) (Nat.le_of_ble_eq_true rfl) dc_Sieve_23 (fun q2 H hP hD hS => ?_)
  refine va_putF (D := D) (ci := 9) (v := .ref q2) (ty := .array .int) (own := "TripleSieve$Sieve") (ref := "TripleSieve$Sieve") (C := RX9) (T := TX9) (N := 4) hx hb htb am_inX9 tyX9 tyX9_ok nmX9 hown hK hP hD hS 0 rfl rfl 2 (by decide) (htb _ (am_big_of (i := 443) (by decide +kernel) rfl)) (fun _ h9 => h9) rfl hin rfl (by decide +kernel) rfl rfl (Nat.le_of_ble_eq_true rfl) dc_Sieve_25 (fun H locs hP hD hS => ?_)
  refine W.widen (k := 3) (n := 199) (Nat.le_of_ble_eq_true rfl) (Nat.le_of_ble_eq_true rfl) ?_
  exact W.vret hx hb hr (fun t ht hW => ⟨⟨(fun i => if i = 0 then q0 else if i = 1 then q1 else if i = 2 then q2 else 0), rfl, trivial, by rw [ht]; exact hP, va_K.moved hW.alike hK, hD⟩, hS.F ht⟩) hS.2.2 dc_Sieve_28
