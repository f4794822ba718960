/-! TEXTS: String.length, String.charAt of the fourteen -/
def jd_w (y : MethodName) (cc : ByteArray) (mx : Nat) (rt : Option FieldType) : List Cond := .code y cc mx rt :: am_big
abbrev jd_no : Nat → Prop := fun _ => False
theorem jd_good {y : MethodName} {cc : ByteArray} {mx : Nat} {rt : Option FieldType} (h : Cond.code y cc mx rt ∈ am_big) : GoodIn am_big (jd_w y cc mx rt) := by
  have key : ∀ w ∈ am_big, w ∈ am_big ∧ ((w.onTables && w.keeps) = true ∨ ∃ ty, w = .arrayClass ty) := fun w hw => ⟨hw, good_of_word (List.mem_filter.mp hw).2⟩
  intro w hw
  rcases List.mem_cons.mp hw with rfl | hw
  · exact key _ h
  · exact key w hw
def yS_coder : MethodName := ⟨"java/lang/String", "coder", "()B"⟩
def yS_latin : MethodName := ⟨"java/lang/String", "isLatin1", "()Z"⟩
def yS_check : MethodName := ⟨"java/lang/String", "checkIndex", "(II)V"⟩
def yL_charAt : MethodName := ⟨"java/lang/StringLatin1", "charAt", "([BI)C"⟩
def yP_check : MethodName := ⟨"jdk/internal/util/Preconditions", "checkIndex", "(IILjava/util/function/BiFunction;)I"⟩
abbrev cS_length : ByteArray := prog_22_method_54_code
abbrev cS_charAt : ByteArray := prog_22_method_56_code
abbrev cS_coder : ByteArray := prog_22_method_152_code
abbrev cS_latin : ByteArray := prog_22_method_154_code
abbrev cS_check : ByteArray := prog_22_method_155_code
abbrev cL_charAt : ByteArray := prog_23_method_2_code
abbrev cP_check : ByteArray := prog_31_method_11_code
theorem dk_coder0 : decode cS_coder 0 = .ok (.getstatic 38, 3) := by decide +kernel
theorem dk_coder3 : decode cS_coder 3 = .ok (.ifCond .eq 10, 3) := by decide +kernel
theorem dk_coder6 : decode cS_coder 6 = .ok (.aload_n 0, 1) := by decide +kernel
theorem dk_coder7 : decode cS_coder 7 = .ok (.getfield 15, 3) := by decide +kernel
theorem dk_coder10 : decode cS_coder 10 = .ok (.goto 4, 3) := by decide +kernel
theorem dk_coder14 : decode cS_coder 14 = .ok (.ireturn, 1) := by decide +kernel
theorem dk_latin0 : decode cS_latin 0 = .ok (.getstatic 38, 3) := by decide +kernel
theorem dk_latin3 : decode cS_latin 3 = .ok (.ifCond .eq 14, 3) := by decide +kernel
theorem dk_latin6 : decode cS_latin 6 = .ok (.aload_n 0, 1) := by decide +kernel
theorem dk_latin7 : decode cS_latin 7 = .ok (.getfield 15, 3) := by decide +kernel
theorem dk_latin10 : decode cS_latin 10 = .ok (.ifCond .ne 7, 3) := by decide +kernel
theorem dk_latin13 : decode cS_latin 13 = .ok (.iconst 1, 1) := by decide +kernel
theorem dk_latin14 : decode cS_latin 14 = .ok (.goto 4, 3) := by decide +kernel
theorem dk_latin18 : decode cS_latin 18 = .ok (.ireturn, 1) := by decide +kernel
theorem dk_len0 : decode cS_length 0 = .ok (.aload_n 0, 1) := by decide +kernel
theorem dk_len1 : decode cS_length 1 = .ok (.getfield 9, 3) := by decide +kernel
theorem dk_len4 : decode cS_length 4 = .ok (.arraylength, 1) := by decide +kernel
theorem dk_len5 : decode cS_length 5 = .ok (.aload_n 0, 1) := by decide +kernel
theorem dk_len6 : decode cS_length 6 = .ok (.invokevirtual 335, 3) := by decide +kernel
theorem dk_len9 : decode cS_length 9 = .ok (.ishr, 1) := by decide +kernel
theorem dk_len10 : decode cS_length 10 = .ok (.ireturn, 1) := by decide +kernel
theorem dk_ch0 : decode cS_charAt 0 = .ok (.aload_n 0, 1) := by decide +kernel
theorem dk_ch1 : decode cS_charAt 1 = .ok (.invokevirtual 492, 3) := by decide +kernel
theorem dk_ch4 : decode cS_charAt 4 = .ok (.ifCond .eq 12, 3) := by decide +kernel
theorem dk_ch7 : decode cS_charAt 7 = .ok (.aload_n 0, 1) := by decide +kernel
theorem dk_ch8 : decode cS_charAt 8 = .ok (.getfield 9, 3) := by decide +kernel
theorem dk_ch11 : decode cS_charAt 11 = .ok (.iload_n 1, 1) := by decide +kernel
theorem dk_ch12 : decode cS_charAt 12 = .ok (.invokestatic 495, 3) := by decide +kernel
theorem dk_ch15 : decode cS_charAt 15 = .ok (.ireturn, 1) := by decide +kernel
theorem dk_chk0 : decode cS_check 0 = .ok (.iload_n 0, 1) := by decide +kernel
theorem dk_chk1 : decode cS_check 1 = .ok (.iload_n 1, 1) := by decide +kernel
theorem dk_chk2 : decode cS_check 2 = .ok (.getstatic 1053, 3) := by decide +kernel
theorem dk_chk5 : decode cS_check 5 = .ok (.invokestatic 1059, 3) := by decide +kernel
theorem dk_chk8 : decode cS_check 8 = .ok (.pop, 1) := by decide +kernel
theorem dk_chk9 : decode cS_check 9 = .ok (.return_, 1) := by decide +kernel
theorem dk_lc0 : decode cL_charAt 0 = .ok (.iload_n 1, 1) := by decide +kernel
theorem dk_lc1 : decode cL_charAt 1 = .ok (.aload_n 0, 1) := by decide +kernel
theorem dk_lc2 : decode cL_charAt 2 = .ok (.arraylength, 1) := by decide +kernel
theorem dk_lc3 : decode cL_charAt 3 = .ok (.invokestatic 9, 3) := by decide +kernel
theorem dk_lc6 : decode cL_charAt 6 = .ok (.aload_n 0, 1) := by decide +kernel
theorem dk_lc7 : decode cL_charAt 7 = .ok (.iload_n 1, 1) := by decide +kernel
theorem dk_lc8 : decode cL_charAt 8 = .ok (.baload, 1) := by decide +kernel
theorem dk_lc9 : decode cL_charAt 9 = .ok (.sipush 255, 3) := by decide +kernel
theorem dk_lc12 : decode cL_charAt 12 = .ok (.iand, 1) := by decide +kernel
theorem dk_lc13 : decode cL_charAt 13 = .ok (.i2c, 1) := by decide +kernel
theorem dk_lc14 : decode cL_charAt 14 = .ok (.ireturn, 1) := by decide +kernel
theorem dk_pc0 : decode cP_check 0 = .ok (.iload_n 0, 1) := by decide +kernel
theorem dk_pc1 : decode cP_check 1 = .ok (.ifCond .lt 8, 3) := by decide +kernel
theorem dk_pc4 : decode cP_check 4 = .ok (.iload_n 0, 1) := by decide +kernel
theorem dk_pc5 : decode cP_check 5 = .ok (.iload_n 1, 1) := by decide +kernel
theorem dk_pc6 : decode cP_check 6 = .ok (.if_icmp .lt 10, 3) := by decide +kernel
theorem dk_pc16 : decode cP_check 16 = .ok (.iload_n 0, 1) := by decide +kernel
theorem dk_pc17 : decode cP_check 17 = .ok (.ireturn, 1) := by decide +kernel
theorem jc_coder (l : Launch) (E : am_E) (A : Nat → Prop) (d i : Nat) (hi : i < 14) : Met l yS_coder (jd_w yS_coder cS_coder 1 (some .byte)) (am_rm d) (va_Pc [.ref (am_ad E (1000 + i))] (fun U => am_SS E A U U.heap)) (va_Qi (fun r (_ : Unit) => r = 0) (fun _ _ => True) jd_no) 0 0 jd_no := by
  refine Met.ofW (cc := cS_coder) (maxL := 1) (ret := some .byte) (by decide) rfl ?_
  intro p e s m args below meth c s₁ B hml hv
  obtain ⟨rfl, hSS⟩ := hv
  have hx := B.exec
  have hb := B.bytes
  have hr := B.returns
  have hts := atoms_spec (ws := jd_w yS_coder cS_coder 1 (some .byte)) B.pre
  have hown : s.vm.findClass "java/lang/String" = some m.cls := findClass_of_methodNamed B.named
  have hlocks := B.notSynchronized
  have hl := lv_entry ([.ref (am_ad E (1000 + i))]) (n := 1) (Nat.le_of_ble_eq_true rfl)
  rw [lg_entry_eq]
  generalize (lg_sl ([.ref (am_ad E (1000 + i))]) ++ List.replicate (1 - (lg_sl ([.ref (am_ad E (1000 + i))])).length) Slot.unset).toArray = ls at hl ⊢
  have hl : lv_has ls 1 [(0, .ref (am_ad E (1000 + i)))] := hl
  have hS : va_S A s.heap s.heap [] := va_S.rf
  have hS0 : va_S jd_no s.heap s.heap [] := va_S.rf
  refine va_gets hx hb hSS.2.1 hS hown (hts (.fieldLink "java/lang/String" 38 "java/lang/String" "COMPACT_STRINGS" "Z") (List.mem_cons_of_mem _ (am_big_of (i := 571) (by decide +kernel) rfl))) (fun _ h => h) dk_coder0 ?_
  refine lv_if_eq hx hb dk_coder3 (tgt := 13) rfl (fun h => absurd h (by decide)) (fun _ => ?_)
  refine lv_aload_n hx hb dk_coder6 rfl (lv_at hl 0 rfl) ?_
  refine vk_getf hx hb ((hSS.1.1 i hi).2.1) hS hown (hts (.fieldLink "java/lang/String" 15 "java/lang/String" "coder" "B") (List.mem_cons_of_mem _ (am_big_of (i := 1615) (by decide +kernel) rfl))) (fun _ h => h) dk_coder7 ?_
  refine lv_goto hx hb dk_coder10 (tgt := 14) rfl ?_
  exact W.zret hx hb (ty := .byte) hr rfl (fun t ht hW => ⟨⟨0, (), rfl, rfl, trivial⟩, hS0.F ht⟩) hS0.2.2 dk_coder14
theorem jc_latin (l : Launch) (E : am_E) (A : Nat → Prop) (d i : Nat) (hi : i < 14) : Met l yS_latin (jd_w yS_latin cS_latin 1 (some .boolean)) (am_rm d) (va_Pc [.ref (am_ad E (1000 + i))] (fun U => am_SS E A U U.heap)) (va_Qi (fun r (_ : Unit) => r = 1) (fun _ _ => True) jd_no) 0 0 jd_no := by
  refine Met.ofW (cc := cS_latin) (maxL := 1) (ret := some .boolean) (by decide) rfl ?_
  intro p e s m args below meth c s₁ B hml hv
  obtain ⟨rfl, hSS⟩ := hv
  have hx := B.exec
  have hb := B.bytes
  have hr := B.returns
  have hts := atoms_spec (ws := jd_w yS_latin cS_latin 1 (some .boolean)) B.pre
  have hown : s.vm.findClass "java/lang/String" = some m.cls := findClass_of_methodNamed B.named
  have hlocks := B.notSynchronized
  have hl := lv_entry ([.ref (am_ad E (1000 + i))]) (n := 1) (Nat.le_of_ble_eq_true rfl)
  rw [lg_entry_eq]
  generalize (lg_sl ([.ref (am_ad E (1000 + i))]) ++ List.replicate (1 - (lg_sl ([.ref (am_ad E (1000 + i))])).length) Slot.unset).toArray = ls at hl ⊢
  have hl : lv_has ls 1 [(0, .ref (am_ad E (1000 + i)))] := hl
  have hS : va_S A s.heap s.heap [] := va_S.rf
  have hS0 : va_S jd_no s.heap s.heap [] := va_S.rf
  refine va_gets hx hb hSS.2.1 hS hown (hts (.fieldLink "java/lang/String" 38 "java/lang/String" "COMPACT_STRINGS" "Z") (List.mem_cons_of_mem _ (am_big_of (i := 571) (by decide +kernel) rfl))) (fun _ h => h) dk_latin0 ?_
  refine lv_if_eq hx hb dk_latin3 (tgt := 17) rfl (fun h => absurd h (by decide)) (fun _ => ?_)
  refine lv_aload_n hx hb dk_latin6 rfl (lv_at hl 0 rfl) ?_
  refine vk_getf hx hb ((hSS.1.1 i hi).2.1) hS hown (hts (.fieldLink "java/lang/String" 15 "java/lang/String" "coder" "B") (List.mem_cons_of_mem _ (am_big_of (i := 1615) (by decide +kernel) rfl))) (fun _ h => h) dk_latin7 ?_
  refine lv_if_ne hx hb dk_latin10 (tgt := 17) rfl (fun h => absurd rfl h) (fun _ => ?_)
  refine lv_iconst (v := 1) hx hb dk_latin13 (by decide) ?_
  refine lv_goto hx hb dk_latin14 (tgt := 18) rfl ?_
  exact W.zret hx hb (ty := .boolean) hr rfl (fun t ht hW => ⟨⟨1, (), rfl, rfl, trivial⟩, hS0.F ht⟩) hS0.2.2 dk_latin18
theorem jc_pre (l : Launch) (d : Nat) (x n : Int32) (fv : Value) (hfv : fv = .null ∨ ∃ t, fv = .ref t) (h0 : ¬ x < 0) (h1 : x < n) : Met l yP_check (jd_w yP_check cP_check 3 (some .int)) (am_rm d) (va_Pc [.int x, .int n, fv] (fun _ => True)) (va_Qi (fun _ (_ : Unit) => True) (fun _ _ => True) jd_no) 0 0 jd_no := by
  refine Met.ofW (cc := cP_check) (maxL := 3) (ret := some .int) (by decide) rfl ?_
  intro p e s m args below meth c s₁ B hml hv
  obtain ⟨rfl, -⟩ := hv
  have hx := B.exec
  have hb := B.bytes
  have hr := B.returns
  have hlocks := B.notSynchronized
  have hS0 : va_S jd_no s.heap s.heap [] := va_S.rf
  have fin : ∀ ls : Array Slot, lv_has ls 3 [(0, .int x), (1, .int n)] → W p l e (headSpec (jd_w yP_check cP_check 3 (some .int)) (am_rm d)).room s m [.int x, .int n, fv].toArray below meth c s.heap [] 0 0 (MQ below (va_Qi (fun _ (_ : Unit) => True) (fun _ _ => True) jd_no) [.int x, .int n, fv].toArray s 0 0 jd_no) (F0 m 0 ls []) := by
    intro ls hl
    refine lv_iload_n hx hb dk_pc0 rfl (lv_at hl 0 rfl) ?_
    refine lv_if_lt hx hb dk_pc1 (tgt := 9) rfl (fun h => absurd h h0) (fun _ => ?_)
    refine lv_iload_n hx hb dk_pc4 rfl (lv_at hl 0 rfl) ?_
    refine lv_iload_n hx hb dk_pc5 rfl (lv_at hl 1 rfl) ?_
    refine lv_icmp_lt hx hb dk_pc6 (tgt := 16) rfl (fun _ => ?_) (fun h => absurd h1 h)
    refine lv_iload_n hx hb dk_pc16 rfl (lv_at hl 0 rfl) ?_
    exact W.iret hx hb hr (fun t ht hW => ⟨⟨x, (), rfl, trivial, trivial⟩, hS0.F ht⟩) hS0.2.2 dk_pc17
  rcases hfv with rfl | ⟨t, rfl⟩
  · have hl := lv_entry ([.int x, .int n, .null]) (n := 3) (Nat.le_of_ble_eq_true rfl)
    rw [lg_entry_eq]
    generalize (lg_sl ([.int x, .int n, .null]) ++ List.replicate (3 - (lg_sl ([.int x, .int n, .null])).length) Slot.unset).toArray = ls at hl ⊢
    have hl : lv_has ls 3 [(0, .int x), (1, .int n), (2, .null)] := hl
    exact fin ls (lv_sub hl [0, 1] rfl)
  · have hl := lv_entry ([.int x, .int n, .ref t]) (n := 3) (Nat.le_of_ble_eq_true rfl)
    rw [lg_entry_eq]
    generalize (lg_sl ([.int x, .int n, .ref t]) ++ List.replicate (3 - (lg_sl ([.int x, .int n, .ref t])).length) Slot.unset).toArray = ls at hl ⊢
    have hl : lv_has ls 3 [(0, .int x), (1, .int n), (2, .ref t)] := hl
    exact fin ls (lv_sub hl [0, 1] rfl)
theorem jc_check (l : Launch) (E : am_E) (A : Nat → Prop) (d : Nat) (x n : Int32) (h0 : ¬ x < 0) (h1 : x < n) : Met l yS_check (jd_w yS_check cS_check 2 none) (am_rm (d + 1)) (va_Pc [.int x, .int n] (fun U => am_SS E A U U.heap)) (va_Qv (fun (_ : Unit) => True) (fun _ _ => True) jd_no) 0 0 jd_no := by
  refine Met.ofW (cc := cS_check) (maxL := 2) (ret := none) (by decide) rfl ?_
  intro p e s m args below meth c s₁ B hml hv
  obtain ⟨rfl, hSS⟩ := hv
  have hx := B.exec
  have hb := B.bytes
  have hr := B.returns
  have hts := atoms_spec (ws := jd_w yS_check cS_check 2 none) B.pre
  have htb : ∀ w ∈ am_big, w.before [Value.int x, .int n].toArray s = true := fun w hw => hts w (List.mem_cons_of_mem _ hw)
  have hown : s.vm.findClass "java/lang/String" = some m.cls := findClass_of_methodNamed B.named
  have hlocks := B.notSynchronized
  have hl := lv_entry ([.int x, .int n]) (n := 2) (Nat.le_of_ble_eq_true rfl)
  rw [lg_entry_eq]
  generalize (lg_sl ([.int x, .int n]) ++ List.replicate (2 - (lg_sl ([.int x, .int n])).length) Slot.unset).toArray = ls at hl ⊢
  have hl : lv_has ls 2 [(0, .int x), (1, .int n)] := hl
  have hS : va_S A s.heap s.heap [] := va_S.rf
  have hS0 : va_S jd_no s.heap s.heap [] := va_S.rf
  refine lv_iload_n hx hb dk_chk0 rfl (lv_at hl 0 rfl) ?_
  refine lv_iload_n hx hb dk_chk1 rfl (lv_at hl 1 rfl) ?_
  have hcode : Cond.code yP_check cP_check 3 (some .int) ∈ am_big := am_big_of (i := 591) (by decide +kernel) rfl
  have fin : ∀ fv : Value, (fv = .null ∨ ∃ t, fv = .ref t) → W p l e (headSpec (jd_w yS_check cS_check 2 none) (am_rm (d + 1))).room s m [.int x, .int n].toArray below meth c s.heap [] 0 0 (MQ below (va_Qv (fun (_ : Unit) => True) (fun _ _ => True) jd_no) [.int x, .int n].toArray s 0 0 jd_no) (F0 m 5 ls [fv, .int n, .int x]) := by
    intro fv hfv
    have cw := callB_of (R := (headSpec (jd_w yS_check cS_check 2 none) (am_rm (d + 1))).room) (mc := 0) (ms := 0) (rm := am_rm d) (own := "java/lang/String") (index := 1059) (y := yP_check) (bytes := cP_check) (maxL := 3) (ret := some .int) (ws := jd_w yP_check cP_check 3 (some .int)) 3 htb (jd_good hcode) rfl rfl rfl (htb _ (am_big_of (i := 124) (by decide +kernel) rfl)) (htb _ (am_big_of (i := 589) (by decide +kernel) rfl)) ⟨by decide, by decide, by decide +kernel⟩ ⟨Nat.le_refl _, by show 8 + (3 + 11) + 64 * d ≤ 64 * (d + 1); omega⟩
    refine va_calli (va_runS (As := [.int x, .int n, fv]) (rest := []) (cells := 0) (slots := 0) ⟨hx, hb, hml, hown, htb⟩ (jc_pre l d x n fv hfv h0 h1) ⟨cw, htb _ (am_big_of (i := 590) (by decide +kernel) rfl)⟩ ⟨fun a U g mk q => q, fun U hU hW => ⟨rfl, trivial⟩⟩ rfl rfl hl.1 rfl (lv_room (Nat.le_of_ble_eq_true rfl)) dk_chk5 ⟨Nat.zero_le _, Nat.zero_le _⟩) hS0 (fun q _ h => h) (fun q h => h) (fun r u t H1 locs1 ht hvm hw hB hz hk hS1 => ?_)
    refine lv_pop hx hb dk_chk8 rfl ?_
    exact W.vret hx hb hr (fun t ht hW => ⟨⟨(), rfl, trivial, trivial⟩, hS1.F ht⟩) hS1.2.2 dk_chk9
  have hfl : (Cond.fieldLink "java/lang/String" 1053 "jdk/internal/util/Preconditions" "SIOOBE_FORMATTER" "Ljava/util/function/BiFunction;").before [Value.int x, .int n].toArray s = true := htb _ (am_big_of (i := 587) (by decide +kernel) rfl)
  rcases hSS.2.2 with hz | ⟨t, hz⟩
  · exact va_gets hx hb hz hS hown hfl (fun _ h => h) dk_chk2 (fin .null (Or.inl rfl))
  · exact va_gets hx hb hz hS hown hfl (fun _ h => h) dk_chk2 (fin (.ref t) (Or.inr ⟨t, rfl⟩))
theorem str_len : ∀ i, i < 14 → ((am_str.map String.length).getD i 0 = slen i ∧ slen i ≤ 6) := by decide +kernel
theorem str_ch : ∀ i, i < 14 → ∀ j, j < 6 → j < slen i → (((((((List.range 14).map am_strT).getD i []).getD j 0) &&& 255).toUInt32 % 65536).toInt32 = Int32.ofNat (sch i j) ∧ narrow .char (.int (Int32.ofNat (sch i j))) = .int (Int32.ofNat (sch i j))) := by decide +kernel
theorem jc_lchar (l : Launch) (E : am_E) (A : Nat → Prop) (d i j : Nat) (hi : i < 14) (hj : j < slen i) : Met l yL_charAt (jd_w yL_charAt cL_charAt 2 (some .char)) (am_rm (d + 2)) (va_Pc [.ref (E.2.2.2.2 i), .int (Int32.ofNat j)] (fun U => am_SS E A U U.heap)) (va_Qi (fun r (_ : Unit) => r = Int32.ofNat (sch i j)) (fun _ _ => True) jd_no) 0 0 jd_no := by
  refine Met.ofW (cc := cL_charAt) (maxL := 2) (ret := some .char) (by decide) rfl ?_
  intro p e s m args below meth c s₁ B hml hv
  obtain ⟨rfl, hSS⟩ := hv
  have hx := B.exec
  have hb := B.bytes
  have hr := B.returns
  have hts := atoms_spec (ws := jd_w yL_charAt cL_charAt 2 (some .char)) B.pre
  have htb : ∀ w ∈ am_big, w.before [Value.ref (E.2.2.2.2 i), .int (Int32.ofNat j)].toArray s = true := fun w hw => hts w (List.mem_cons_of_mem _ hw)
  have hown : s.vm.findClass "java/lang/StringLatin1" = some m.cls := findClass_of_methodNamed B.named
  have hlocks := B.notSynchronized
  have hl := lv_entry ([.ref (E.2.2.2.2 i), .int (Int32.ofNat j)]) (n := 2) (Nat.le_of_ble_eq_true rfl)
  rw [lg_entry_eq]
  generalize (lg_sl ([.ref (E.2.2.2.2 i), .int (Int32.ofNat j)]) ++ List.replicate (2 - (lg_sl ([.ref (E.2.2.2.2 i), .int (Int32.ofNat j)])).length) Slot.unset).toArray = ls at hl ⊢
  have hl : lv_has ls 2 [(0, .ref (E.2.2.2.2 i)), (1, .int (Int32.ofNat j))] := hl
  have hS : va_S A s.heap s.heap [] := va_S.rf
  have hS0 : va_S jd_no s.heap s.heap [] := va_S.rf
  obtain ⟨e1, e2⟩ := str_len i hi
  obtain ⟨e3, e4⟩ := str_ch i hi j (by omega) hj
  have hT := (hSS.1.1 i hi).2.2.2
  rw [e1] at hT
  have hj31 : j < 2 ^ 31 := by omega
  have jn : (Int32.ofNat j).toInt = (j : Int) := by
    rw [Int32.toInt_ofNat_of_lt (by omega)]
  have nn : (Int32.ofNat (slen i)).toInt = (slen i : Int) := by
    rw [Int32.toInt_ofNat_of_lt (by omega)]
  have h0 : ¬ Int32.ofNat j < 0 := by
    rw [Int32.lt_iff_toInt_lt, jn]
    show ¬ (j : Int) < 0
    omega
  have h1 : Int32.ofNat j < Int32.ofNat (slen i) := by
    rw [Int32.lt_iff_toInt_lt, jn, nn]
    omega
  have jc : (Int32.ofNat j).toNatClampNeg = j := by
    show (Int32.ofNat j).toInt.toNat = j
    rw [jn]; rfl
  refine lv_iload_n hx hb dk_lc0 rfl (lv_at hl 1 rfl) ?_
  refine lv_aload_n hx hb dk_lc1 rfl (lv_at hl 0 rfl) ?_
  refine va_tlen hx hb hT hS rfl dk_lc2 ?_
  have hcode : Cond.code yS_check cS_check 2 none ∈ am_big := am_big_of (i := 586) (by decide +kernel) rfl
  have cw := callB_of (R := (headSpec (jd_w yL_charAt cL_charAt 2 (some .char)) (am_rm (d + 2))).room) (mc := 0) (ms := 0) (rm := am_rm (d + 1)) (own := "java/lang/StringLatin1") (index := 9) (y := yS_check) (bytes := cS_check) (maxL := 2) (ret := none) (ws := jd_w yS_check cS_check 2 none) 2 htb (jd_good hcode) rfl rfl rfl (htb _ (am_big_of (i := 122) (by decide +kernel) rfl)) (htb _ (am_big_of (i := 584) (by decide +kernel) rfl)) ⟨by decide, by decide, by decide +kernel⟩ ⟨Nat.le_refl _, by show 8 + (2 + 11) + 64 * (d + 1) ≤ 64 * (d + 2); omega⟩
  refine va_callv (va_runS (As := [.int (Int32.ofNat j), .int (Int32.ofNat (slen i))]) (rest := []) (cells := 0) (slots := 0) ⟨hx, hb, hml, hown, htb⟩ (jc_check l E A d (Int32.ofNat j) (Int32.ofNat (slen i)) h0 h1) ⟨cw, htb _ (am_big_of (i := 585) (by decide +kernel) rfl)⟩ ⟨fun a U g mk q => ⟨q.1, am_SS.moved (u := U) (U := U.calling g mk a) (Vm.Alike.refl U.vm) q.2⟩, fun U hU hW => ⟨rfl, by show am_SS E A U U.heap; rw [hU]; exact hSS.moved hW.alike⟩⟩ rfl rfl hl.1 rfl (lv_room (Nat.le_of_ble_eq_true rfl)) dk_lc3 ⟨Nat.zero_le _, Nat.zero_le _⟩) hS0 (fun q _ h => h) (fun q h => h) (fun u t H1 locs1 ht hvm hw hB hz hk hS1 => ?_)
  have hSA : va_S A s.heap H1 [] := ⟨hS1.1, fun q q1 _ => hS1.2.1 q q1 (fun z => z), fun q hq => by cases hq⟩
  have hSl : va_S A s.heap H1 locs1 := ⟨hS1.1, fun q q1 _ => hS1.2.1 q q1 (fun z => z), fun q hq => (hS1.2.2 q hq).elim⟩
  refine lv_aload_n hx hb dk_lc6 rfl (lv_at hl 0 rfl) ?_
  refine lv_iload_n hx hb dk_lc7 rfl (lv_at hl 1 rfl) ?_
  refine va_tb hx hb hT hSl (i := Int32.ofNat j) (fun q => by
    rcases q with q | q
    · exact h0 q
    · rw [jc] at q; omega) (v := .int ((((List.range 14).map am_strT).getD i []).getD j 0)) (by rw [jc]) dk_lc8 ?_
  refine lv_sipush hx hb (v := 255) dk_lc9 (by decide) ?_
  refine lv_iand hx hb dk_lc12 ?_
  refine lv_i2c hx hb (v := Int32.ofNat (sch i j)) dk_lc13 e3 ?_
  exact W.zret hx hb (ty := .char) hr e4 (fun t ht hW => ⟨⟨_, (), rfl, rfl, trivial⟩, hS1.F ht⟩) hS1.2.2 dk_lc14
theorem c_strlen {d : Nat} {P : Int → am_M → Prop} {m : am_M} {i : Nat} (hi : i < 14) (kpost : P (slen i) m) : am_OkI (d + 1) 198 [.inr (.inr (1000 + i))] m P := by
  intro l E A
  refine Met.ofW (cc := cS_length) (maxL := 1) (ret := some .int) (by decide) rfl ?_
  intro p e s mm args below meth c s₁ B hml hv
  obtain ⟨rfl, hok, hWd, hRO⟩ := hv
  have hSS := hRO.2.2.2.1
  have hx := B.exec
  have hb := B.bytes
  have hr := B.returns
  have hts := atoms_spec (ws := am_wds 198) B.pre
  have htb : ∀ w ∈ am_big, w.before [Value.ref (am_ad E (1000 + i))].toArray s = true := fun w hw => hts w (List.mem_cons_of_mem _ hw)
  have hown : s.vm.findClass "java/lang/String" = some mm.cls := findClass_of_methodNamed B.named
  have hlocks := B.notSynchronized
  have hl := lv_entry ([.ref (am_ad E (1000 + i))]) (n := 1) (Nat.le_of_ble_eq_true rfl)
  show W p l e _ s mm [Value.ref (am_ad E (1000 + i))].toArray below meth c s.heap [] 0 0 _ (entryFrame mm [Value.ref (am_ad E (1000 + i))].toArray 1)
  rw [lg_entry_eq]
  generalize (lg_sl ([.ref (am_ad E (1000 + i))]) ++ List.replicate (1 - (lg_sl ([.ref (am_ad E (1000 + i))])).length) Slot.unset).toArray = ls at hl ⊢
  have hl : lv_has ls 1 [(0, .ref (am_ad E (1000 + i)))] := hl
  have hS : va_S A s.heap s.heap [] := va_S.rf
  obtain ⟨e1, e2⟩ := str_len i hi
  have hT := (hSS.1.1 i hi).2.2.2
  rw [e1] at hT
  refine lv_aload_n hx hb dk_len0 rfl (lv_at hl 0 rfl) ?_
  refine vk_getf hx hb ((hSS.1.1 i hi).2.2.1) hS hown (htb (.fieldLink "java/lang/String" 9 "java/lang/String" "value" "[B") (am_big_of (i := 1614) (by decide +kernel) rfl)) (fun _ h => h) dk_len1 ?_
  refine va_tlen hx hb hT hS rfl dk_len4 ?_
  refine lv_aload_n hx hb dk_len5 rfl (lv_at hl 0 rfl) ?_
  have hcode : Cond.code yS_coder cS_coder 1 (some .byte) ∈ am_big := am_big_of (i := 570) (by decide +kernel) rfl
  have cw := callB_of (R := (headSpec (am_wds 198) (am_rm (d + 1))).room) (mc := 0) (ms := 0) (rm := am_rm d) (own := "java/lang/String") (index := 335) (y := yS_coder) (bytes := cS_coder) (maxL := 1) (ret := some .byte) (ws := jd_w yS_coder cS_coder 1 (some .byte)) 0 htb (jd_good hcode) rfl rfl rfl (htb _ (am_big_of (i := 122) (by decide +kernel) rfl)) (htb _ (am_big_of (i := 567) (by decide +kernel) rfl)) ⟨by decide, by decide, by decide +kernel⟩ ⟨Nat.le_refl _, by show 8 + (1 + 11) + 64 * d ≤ 64 * (d + 1); omega⟩
  have hrecv := vk_recv (H := s.heap) hSS.1 hi hS
  refine va_calli (va_runV (As := []) (b := am_ad E (1000 + i)) (C := "java/lang/String") (rest := [.int (Int32.ofNat (slen i))]) (cells := 0) (slots := 0) ⟨hx, hb, hml, hown, htb⟩ (jc_coder l E A d i hi) ⟨cw, htb _ (am_big_of (i := 568) (by decide +kernel) rfl), htb _ (am_big_of (i := 569) (by decide +kernel) rfl)⟩ ⟨fun a U g mk q => ⟨q.1, am_SS.moved (u := U) (U := U.calling g mk a) (Vm.Alike.refl U.vm) q.2⟩, hrecv, fun U hU hW => ⟨rfl, by show am_SS E A U U.heap; rw [hU]; exact hSS.moved hW.alike⟩⟩ rfl rfl hl.1 rfl (lv_room (Nat.le_of_ble_eq_true rfl)) dk_len6 ⟨Nat.zero_le _, Nat.zero_le _⟩) hS (fun q _ h => h.elim) (fun q h => h.elim) (fun r u t H1 locs1 ht hvm hw hB hz hk hS1 => ?_)
  have hw : r = 0 := hw
  subst hw
  refine lv_ishr hx hb dk_len9 ?_
  have hP1 : va_P E.1 vwCl (am_ws E m) H1 := hWd.1.kept (fun k q hq => hk _ (hWd.1 k q hq).lt (fun z => z))
  have hsh : (Int32.ofNat (slen i) >>> ((0 : Int32) &&& 31)) = Int32.ofInt (slen i : Int) := by
    have : ∀ q, q < 14 → (Int32.ofNat (slen q) >>> ((0 : Int32) &&& 31)) = Int32.ofInt (slen q : Int) := by decide +kernel
    exact this i hi
  rw [hsh]
  exact W.iret hx hb hr (fun t ht hW => ⟨⟨.inl (slen i : Int), m, rfl, am_RI (by omega) (by omega), kpost, by rw [ht]; exact hP1, hWd.2.2.2⟩, hS1.F ht⟩) hS1.2.2 dk_len10
theorem c_charAt {d : Nat} {P : Int → am_M → Prop} {m : am_M} {i j : Nat} (hi : i < 14) (hj : j < slen i) (kpost : P (sch i j) m) : am_OkI (d + 3) 199 [.inr (.inr (1000 + i)), .inl j] m P := by
  intro l E A
  refine Met.ofW (cc := cS_charAt) (maxL := 2) (ret := some .char) (by decide) rfl ?_
  intro p e s mm args below meth c s₁ B hml hv
  obtain ⟨rfl, hok, hWd, hRO⟩ := hv
  have hSS := hRO.2.2.2.1
  have hx := B.exec
  have hb := B.bytes
  have hr := B.returns
  have hts := atoms_spec (ws := am_wds 199) B.pre
  have htb : ∀ w ∈ am_big, w.before [Value.ref (am_ad E (1000 + i)), .int (Int32.ofInt (j : Int))].toArray s = true := fun w hw => hts w (List.mem_cons_of_mem _ hw)
  have hown : s.vm.findClass "java/lang/String" = some mm.cls := findClass_of_methodNamed B.named
  have hlocks := B.notSynchronized
  have hl := lv_entry ([.ref (am_ad E (1000 + i)), .int (Int32.ofInt (j : Int))]) (n := 2) (Nat.le_of_ble_eq_true rfl)
  show W p l e _ s mm [Value.ref (am_ad E (1000 + i)), .int (Int32.ofInt (j : Int))].toArray below meth c s.heap [] 0 0 _ (entryFrame mm [Value.ref (am_ad E (1000 + i)), .int (Int32.ofInt (j : Int))].toArray 2)
  rw [lg_entry_eq]
  generalize (lg_sl ([.ref (am_ad E (1000 + i)), .int (Int32.ofInt (j : Int))]) ++ List.replicate (2 - (lg_sl ([.ref (am_ad E (1000 + i)), .int (Int32.ofInt (j : Int))])).length) Slot.unset).toArray = ls at hl ⊢
  have hl : lv_has ls 2 [(0, .ref (am_ad E (1000 + i))), (1, .int (Int32.ofInt (j : Int)))] := hl
  have hS : va_S A s.heap s.heap [] := va_S.rf
  obtain ⟨e1, e2⟩ := str_len i hi
  refine lv_aload_n hx hb dk_ch0 rfl (lv_at hl 0 rfl) ?_
  have hcode : Cond.code yS_latin cS_latin 1 (some .boolean) ∈ am_big := am_big_of (i := 580) (by decide +kernel) rfl
  have cw := callB_of (R := (headSpec (am_wds 199) (am_rm (d + 3))).room) (mc := 0) (ms := 0) (rm := am_rm (d + 2)) (own := "java/lang/String") (index := 492) (y := yS_latin) (bytes := cS_latin) (maxL := 1) (ret := some .boolean) (ws := jd_w yS_latin cS_latin 1 (some .boolean)) 0 htb (jd_good hcode) rfl rfl rfl (htb _ (am_big_of (i := 122) (by decide +kernel) rfl)) (htb _ (am_big_of (i := 577) (by decide +kernel) rfl)) ⟨by decide, by decide, by decide +kernel⟩ ⟨Nat.le_refl _, by show 8 + (1 + 11) + 64 * (d + 2) ≤ 64 * (d + 3); omega⟩
  have hrecv := vk_recv (H := s.heap) hSS.1 hi hS
  refine va_calli (va_runV (As := []) (b := am_ad E (1000 + i)) (C := "java/lang/String") (rest := []) (cells := 0) (slots := 0) ⟨hx, hb, hml, hown, htb⟩ (jc_latin l E A (d + 2) i hi) ⟨cw, htb _ (am_big_of (i := 578) (by decide +kernel) rfl), htb _ (am_big_of (i := 579) (by decide +kernel) rfl)⟩ ⟨fun a U g mk q => ⟨q.1, am_SS.moved (u := U) (U := U.calling g mk a) (Vm.Alike.refl U.vm) q.2⟩, hrecv, fun U hU hW => ⟨rfl, by show am_SS E A U U.heap; rw [hU]; exact hSS.moved hW.alike⟩⟩ rfl rfl hl.1 rfl (lv_room (Nat.le_of_ble_eq_true rfl)) dk_ch1 ⟨Nat.zero_le _, Nat.zero_le _⟩) hS (fun q _ h => h.elim) (fun q h => h.elim) (fun r u t H1 locs1 ht hvm hw hB hz hk hS1 => ?_)
  have hw : r = 1 := hw
  subst hw
  have hP1 : va_P E.1 vwCl (am_ws E m) H1 := hWd.1.kept (fun k q hq => hk _ (hWd.1 k q hq).lt (fun z => z))
  refine lv_if_eq hx hb dk_ch4 (tgt := 16) rfl (fun h => absurd h (by decide)) (fun _ => ?_)
  refine lv_aload_n hx hb dk_ch7 rfl (lv_at hl 0 rfl) ?_
  refine vk_getf hx hb ((hSS.1.1 i hi).2.2.1) hS1 hown (htb (.fieldLink "java/lang/String" 9 "java/lang/String" "value" "[B") (am_big_of (i := 1614) (by decide +kernel) rfl)) (fun _ h => h) dk_ch8 ?_
  refine lv_iload_n hx hb dk_ch11 rfl (lv_at hl 1 rfl) ?_
  have hcode2 : Cond.code yL_charAt cL_charAt 2 (some .char) ∈ am_big := am_big_of (i := 583) (by decide +kernel) rfl
  have cw2 := callB_of (R := (headSpec (am_wds 199) (am_rm (d + 3))).room) (mc := 0) (ms := 0) (rm := am_rm (d + 2)) (own := "java/lang/String") (index := 495) (y := yL_charAt) (bytes := cL_charAt) (maxL := 2) (ret := some .char) (ws := jd_w yL_charAt cL_charAt 2 (some .char)) 2 htb (jd_good hcode2) rfl rfl rfl (htb _ (am_big_of (i := 123) (by decide +kernel) rfl)) (htb _ (am_big_of (i := 581) (by decide +kernel) rfl)) ⟨by decide, by decide, by decide +kernel⟩ ⟨Nat.le_refl _, by show 8 + (2 + 11) + 64 * (d + 2) ≤ 64 * (d + 3); omega⟩
  have hji : Int32.ofInt (j : Int) = Int32.ofNat j := Int32.ofInt_eq_ofNat
  rw [hji]
  refine va_calli (va_runS (As := [.ref (E.2.2.2.2 i), .int (Int32.ofNat j)]) (rest := []) ⟨hx, hb, hml, hown, htb⟩ (jc_lchar l E A d i j hi hj) ⟨cw2, htb _ (am_big_of (i := 582) (by decide +kernel) rfl)⟩ ⟨fun a U g mk q => ⟨q.1, am_SS.moved (u := U) (U := U.calling g mk a) (Vm.Alike.refl U.vm) q.2⟩, fun U hU hW => ⟨rfl, by show am_SS E A U U.heap; rw [hU]; exact (hSS.kept hS1.2.1).moved hW.alike⟩⟩ rfl rfl hl.1 rfl (lv_room (Nat.le_of_ble_eq_true rfl)) dk_ch12 ⟨Nat.zero_le _, Nat.zero_le _⟩) hS1 (fun q _ h => h.elim) (fun q h => h.elim) (fun r u t H2 locs2 ht hvm hw hB hz hk2 hS2 => ?_)
  have hw : r = Int32.ofNat (sch i j) := hw
  subst hw
  obtain ⟨e3, e4⟩ := str_ch i hi j (by omega) hj
  have hsc : Int32.ofNat (sch i j) = Int32.ofInt (sch i j : Int) := Int32.ofInt_eq_ofNat.symm
  have hlt := isLt_iff.mp ((sW_ok i hi).2 j (by omega) hj)
  have hP2 : va_P E.1 vwCl (am_ws E m) H2 := hP1.kept (fun k q hq => hk2 _ (hP1 k q hq).lt (fun z => z))
  rw [hsc] at e4 ⊢
  exact W.zret hx hb (ty := .char) hr e4 (fun t ht hW => ⟨⟨.inl (sch i j : Int), m, rfl, am_RI (by omega) (by omega), kpost, by rw [ht]; exact hP2, hWd.2.2.2⟩, hS2.F ht⟩) hS2.2.2 dk_ch15
theorem c_isWord {d : Nat} {P : Int → am_M → Prop} {m : am_M} {tb : Nat → Nat} {tl : Nat} {t : Tk} {q : Nat} (hq : q < 14) (hT : TapC m tl tb) (ht : TkC m tb tl t) (k0 : isW tb t q = false → P 0 m) (k1 : isW tb t q = true → P 1 m) : am_OkI (d + 4) 72 [.inr (.inr 1), .inr (.inr (1000 + q))] m P := by
  obtain ⟨t1, t2, t3, t4, t6⟩ := id ht
  have hl := hT.2.1
  have g1 := t6.1
  have g2 := t6.2.1
  obtain ⟨w1, w2⟩ := sW_ok q hq
  have ef : ¬ isW tb t q = true → isW tb t q = false := fun h => by
    cases hb : isW tb t q with
    | false => rfl
    | true => exact absurd hb h
  refine f_Tape_isWord ?_
  rw [t1, t2, t3]
  refine ⟨fun h => ⟨Or.inl rfl, k0 (ef (fun z => h (by rw [(isW_iff.mp z).1]; rfl)))⟩, fun h => ⟨am_RI (by omega) (by omega), ⟨by omega, by omega⟩, ?_⟩⟩
  have hk : t.2.2 = 1 := by omega
  obtain ⟨u1, u2⟩ := t6.2.2.2.1 hk
  have hlen : (sW q).length = slen q := (wv_dgs (tb := sch q) (s := 0) (l := slen q) (fun i _ hi => w2 i (by omega) (by omega))).2
  refine c_strlen hq ⟨fun h2 => ?_, fun h2 => ⟨Or.inl rfl, k0 (ef (fun z => h2 ?_))⟩⟩
  · have hle : t.2.1 - t.1 = slen q := by omega
    have hiff := wv_eq (tb := tb) (tb' := sch q) (s := t.1) (l := slen q) (fun i hi => ⟨u2 (t.1 + i) (by omega) (by omega), w2 i (by omega) hi⟩)
    have main : ∀ (r i : Nat), i + r = slen q → (∀ j, j < i → tb (t.1 + j) = sch q j) → am_GI (d + 4) 72 P 28 [(0, .inr (.inr 1)), (1, .inr (.inr (1000 + q))), (2, .inl i)] [] m := by
      intro r
      induction r with
      | zero =>
        intro i hi ha
        refine f_Tape_isWord_28 ⟨⟨by omega, by omega⟩, c_strlen hq ⟨fun _ => ⟨Or.inr rfl, k1 (isW_iff.mpr ⟨hk, ?_⟩)⟩, fun y => absurd (by omega) y⟩⟩
        rw [hle]
        exact hiff.mpr (fun j hj => ha j (by omega))
      | succ r ih =>
        intro i hi ha
        obtain ⟨b1, b2⟩ := hT.2.2 (t.1 + i) (by omega)
        have hlt := isLt_iff.mp (u2 (t.1 + i) (by omega) (by omega))
        have hlt2 := isLt_iff.mp (w2 i (by omega) (by omega))
        have hsg : sg (tb (t.1 + i)) = (tb (t.1 + i) : Int) := by unfold sg; rw [if_pos (by omega)]
        refine f_Tape_isWord_28 ⟨⟨by omega, by omega⟩, c_strlen hq ⟨fun y => by omega, fun _ => ?_⟩⟩
        rw [t1, show (t.1 : Int) + (i : Int) = ((t.1 + i : Nat) : Int) by omega, b1, hsg]
        refine ⟨am_RI (by omega) (by omega), by omega, by omega, ⟨by omega, by omega⟩, c_charAt (d := d) hq (by omega) ⟨fun e => ⟨am_RI (by omega) (by omega), ih (i + 1) (by omega) (fun j hj => ?_)⟩, fun e => ⟨Or.inl rfl, k0 (ef (fun z => e ?_))⟩⟩⟩
        · by_cases e2 : j = i
          · subst e2; omega
          · exact ha j (by omega)
        · have hz := (isW_iff.mp z).2
          rw [hle] at hz
          have := hiff.mp hz i (by omega)
          rw [this]
    exact main (slen q) 0 (by omega) (fun j hj => by omega)
  · have hz := congrArg List.length (isW_iff.mp z).2
    rw [hlen, (wv_dgs (tb := tb) (s := t.1) (l := t.2.1 - t.1) (fun i h1 h2 => u2 i h1 (by omega))).2] at hz
    omega
