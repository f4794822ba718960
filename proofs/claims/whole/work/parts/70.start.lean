/-! THE START: what the premises say, in the terms of the worlds (written by wip/gen70.py) -/
abbrev a0 (s : State) : Nat → Prop := fun q => s.heap.size ≤ q
theorem a0_no (s : State) : ∀ a : Nat, a < s.heap.size → ¬ a0 s a := fun a h1 h2 => by
  have h2 : s.heap.size ≤ a := h2
  omega
section START
variable {s : State} {args : Array Value}
theorem st_K (hts : ∀ w ∈ lw_tbl, w.before args s = true) : ∃ (D : va_G) (I : Nat → ClassId), va_K D vwCl (kt I) s ∧ s.vm.findClass "[I" = some (I 100) := by
  have htb : ∀ w ∈ am_big, w.before args s = true := fun w hw => hts w (List.mem_filter.mp hw).1
  obtain ⟨c0, i0, k0⟩ := u_known (C := RX0) (T := TX0) (N := 6) htb am_inX0 (htb (.instantiable RX0 6) (am_big_of (i := 226) (by decide +kernel) rfl))
  obtain ⟨c1, i1, k1⟩ := u_known (C := RX1) (T := TX1) (N := 3) htb am_inX1 (htb (.instantiable RX1 3) (am_big_of (i := 387) (by decide +kernel) rfl))
  obtain ⟨c2, i2, k2⟩ := u_known (C := RX2) (T := TX2) (N := 5) htb am_inX2 (htb (.instantiable RX2 5) (am_big_of (i := 181) (by decide +kernel) rfl))
  obtain ⟨c3, i3, k3⟩ := u_known (C := RX3) (T := TX3) (N := 8) htb am_inX3 (htb (.instantiable RX3 8) (am_big_of (i := 252) (by decide +kernel) rfl))
  obtain ⟨c4, i4, k4⟩ := u_known (C := RX4) (T := TX4) (N := 7) htb am_inX4 (htb (.instantiable RX4 7) (am_big_of (i := 403) (by decide +kernel) rfl))
  obtain ⟨c5, i5, k5⟩ := u_known (C := RX5) (T := TX5) (N := 8) htb am_inX5 (htb (.instantiable RX5 8) (am_big_of (i := 342) (by decide +kernel) rfl))
  obtain ⟨c6, i6, k6⟩ := u_known (C := RX6) (T := TX6) (N := 1) htb am_inX6 (htb (.instantiable RX6 1) (am_big_of (i := 171) (by decide +kernel) rfl))
  obtain ⟨c7, i7, k7⟩ := u_known (C := RX7) (T := TX7) (N := 1) htb am_inX7 (htb (.instantiable RX7 1) (am_big_of (i := 376) (by decide +kernel) rfl))
  obtain ⟨c8, i8, k8⟩ := u_known (C := RX8) (T := TX8) (N := 9) htb am_inX8 (htb (.instantiable RX8 9) (am_big_of (i := 289) (by decide +kernel) rfl))
  obtain ⟨c9, i9, k9⟩ := u_known (C := RX9) (T := TX9) (N := 4) htb am_inX9 (htb (.instantiable RX9 4) (am_big_of (i := 434) (by decide +kernel) rfl))
  obtain ⟨c10, i10, k10⟩ := u_known (C := RX10) (T := TX10) (N := 6) htb am_inX10 (htb (.instantiable RX10 6) (am_big_of (i := 141) (by decide +kernel) rfl))
  obtain ⟨c11, i11, k11⟩ := u_known (C := RX11) (T := TX11) (N := 13) htb am_inX11 (htb (.instantiable RX11 13) (am_big_of (i := 133) (by decide +kernel) rfl))
  obtain ⟨c12, i12, k12⟩ := u_known (C := RX12) (T := TX12) (N := 49) htb am_inX12 (htb (.instantiable RX12 49) (am_big_of (i := 1127) (by decide +kernel) rfl))
  obtain ⟨a100, q100, p100, n100, f100, d100⟩ := Cond.arrayClass_spec (type := .int) (htb (.arrayClass .int) (am_big_of (i := 224) (by decide +kernel) rfl))
  obtain ⟨a101, q101, p101, n101, f101, d101⟩ := Cond.arrayClass_spec (type := .boolean) (htb (.arrayClass .boolean) (am_big_of (i := 340) (by decide +kernel) rfl))
  obtain ⟨a102, q102, p102, n102, f102, d102⟩ := Cond.arrayClass_spec (type := .byte) (htb (.arrayClass .byte) (am_big_of (i := 169) (by decide +kernel) rfl))
  obtain ⟨a103, q103, p103, n103, f103, d103⟩ := Cond.arrayClass_spec (type := .long) (htb (.arrayClass .long) (am_big_of (i := 223) (by decide +kernel) rfl))
  obtain ⟨p104, a104, q104, e104, -, f104, d104, n104⟩ := Cond.arrayOver_spec (n := "TripleSieve$Sieve") (hts (.arrayOver (.object "TripleSieve$Sieve")) (List.mem_of_getElem? (i := 456) (by decide +kernel)))
  refine ⟨(fun c => [c0, c1, c2, c3, c4, c5, c6, c7, c8, c9, c10, c11, c12].getD c 0, fun c => [i0, i1, i2, i3, i4, i5, i6, i7, i8, i9, i10, i11, i12].getD c (fun _ => 0)), fun k => [a100, a101, a102, a103, a104].getD (k - 100) 0, ⟨fun c q hq => ?_, fun k q hq => ?_⟩, n100⟩
  · match c, hq with
    | 0, hq => cases hq; exact k0
    | 1, hq => cases hq; exact k1
    | 2, hq => cases hq; exact k2
    | 3, hq => cases hq; exact k3
    | 4, hq => cases hq; exact k4
    | 5, hq => cases hq; exact k5
    | 6, hq => cases hq; exact k6
    | 7, hq => cases hq; exact k7
    | 8, hq => cases hq; exact k8
    | 9, hq => cases hq; exact k9
    | 10, hq => cases hq; exact k10
    | 11, hq => cases hq; exact k11
    | 12, hq => cases hq; exact k12
    | n + 13, hq => cases hq
  · match k, hq with
    | 0, hq => cases hq; exact ⟨fun _ _ => ⟨fun _ h => (by cases h), q100, f100, p100, d100⟩, n100⟩
    | 1, hq => cases hq; exact ⟨fun _ _ => ⟨fun _ h => (by cases h), q101, f101, p101, d101⟩, n101⟩
    | 2, hq => cases hq; exact ⟨fun _ _ => ⟨fun _ h => (by cases h), q102, f102, p102, d102⟩, n102⟩
    | 3, hq => cases hq; exact ⟨fun _ _ => ⟨fun _ h => (by cases h), q103, f103, p103, d103⟩, n103⟩
    | 4, hq => cases hq; exact ⟨fun _ _ => ⟨fun _ h => (by cases h), q104, f104, p104, d104⟩, q104, p104, f104, d104, e104, n104⟩
    | n + 5, hq => cases hq
theorem st_nst (hts : ∀ w ∈ lw_tbl, w.before args s = true) : ∀ w ∈ am_nst, va_Nw w s := by
  intro w hw
  have h := hts w (List.mem_filter.mp hw).1
  have h2 := (List.mem_filter.mp hw).2
  cases w <;> first | exact va_Nw.of rfl h | cases h2
theorem st_eqi {t : Term} {z : Int32} (h : (Cond.eq t (.int z)).before args s = true) : t.eval args s none [] s = some (.int z) := by
  cases hv : t.eval args s none [] s with
  | none => simp [Cond.before, Cond.holds, Cond.value, hv] at h
  | some w =>
    cases w <;> simp [Cond.before, Cond.holds, Cond.value, hv, Term.eval] at h
    rw [h]
theorem st_tab (hts : ∀ w ∈ lw_tbl, w.before args s = true) {nm : String} {q : Nat} (h1 : Cond.laysStatic "TripleSieve" nm "[I" ∈ lw_tbl) (h3 : (Cond.arrayOf (.static "TripleSieve" nm "[I") .int).before args s = true) (h4 : (Cond.eq (.length (.static "TripleSieve" nm "[I")) (.int 7)).before args s = true) (h5 : ∀ j : Nat, j < 7 → (Cond.eq (.elem (.static "TripleSieve" nm "[I") (.int (Int32.ofNat j))) (.int (Int32.ofInt (am_tab q (j : Int))))).before args s = true) : ∃ t : Nat, va_Z "TripleSieve" nm "[I" (.ref t) (a0 s) s s.heap ∧ va_T .int t 7 (fun j => .int (Int32.ofInt (am_tab q (j : Int)))) (a0 s) s s.heap ∧ (Term.static "TripleSieve" nm "[I").eval args s none [] s = some (.ref t) := by
  obtain ⟨t, ht, hT⟩ := va_Tof (N := 7) (f := fun j => .int (Int32.ofInt (am_tab q (j : Int)))) (A := a0 s) (by decide) h3 (st_eqi h4) (fun j hj => st_eqi (h5 j hj)) (a0_no s)
  exact ⟨t, va_Zof (hts _ h1) (hts _ (List.mem_of_getElem? (i := 108) (by decide +kernel))) ht (a0_no s), hT, ht⟩
end START
abbrev nrw : List Cond := flatC (Jvm.Cond.and given_1 narrow_1)

theorem nw_LOWEST : nrw[20]? = some (Cond.arrayOf (.static "TripleSieve" "LOWEST" "[I") .int) ∧ nrw[21]? = some (Cond.eq (.length (.static "TripleSieve" "LOWEST" "[I")) (.int 7)) ∧ ∀ j : Nat, j < 7 → nrw[22 + j]? = some (Cond.eq (.elem (.static "TripleSieve" "LOWEST" "[I") (.int (Int32.ofNat j))) (.int (Int32.ofInt (am_tab 900 (j : Int))))) := by decide +kernel
theorem nw_HIGHEST : nrw[30]? = some (Cond.arrayOf (.static "TripleSieve" "HIGHEST" "[I") .int) ∧ nrw[31]? = some (Cond.eq (.length (.static "TripleSieve" "HIGHEST" "[I")) (.int 7)) ∧ ∀ j : Nat, j < 7 → nrw[32 + j]? = some (Cond.eq (.elem (.static "TripleSieve" "HIGHEST" "[I") (.int (Int32.ofNat j))) (.int (Int32.ofInt (am_tab 901 (j : Int))))) := by decide +kernel
theorem nw_UNTOLD : nrw[5]? = some (Cond.arrayOf (.static "TripleSieve" "UNTOLD" "[I") .int) ∧ nrw[6]? = some (Cond.eq (.length (.static "TripleSieve" "UNTOLD" "[I")) (.int 7)) ∧ ∀ j : Nat, j < 7 → nrw[7 + j]? = some (Cond.eq (.elem (.static "TripleSieve" "UNTOLD" "[I") (.int (Int32.ofNat j))) (.int (Int32.ofInt (am_tab 902 (j : Int))))) := by decide +kernel
def ixS : List Nat := [107, 109, 111, 113, 115, 117, 119, 121, 123, 125, 127, 129, 70, 95]
def tmS (i : Nat) : Term := .string "TripleSieve$Reader" (ixS.getD i 0)
def iaS : List Nat := [54, 63, 74, 84, 95, 106, 121, 136, 152, 169, 187, 206, 225, 244]
def irS : List Nat := [553, 554, 555, 556, 557, 558, 631, 632, 633, 634, 635, 636, 654, 664]
theorem nw_str : ∀ i : Nat, i < 14 → nrw[iaS.getD i 0]? = some (Cond.exactly (tmS i) "java/lang/String") ∧ nrw[iaS.getD i 0 + 1]? = some (Cond.eq (.field (tmS i) "java/lang/String" "coder" "B") (.int 0)) ∧ nrw[iaS.getD i 0 + 2]? = some (Cond.arrayOf (.field (tmS i) "java/lang/String" "value" "[B") .byte) ∧ nrw[iaS.getD i 0 + 3]? = some (Cond.eq (.length (.field (tmS i) "java/lang/String" "value" "[B")) (.int (Int32.ofNat ((am_str.map String.length).getD i 0)))) := by decide +kernel
theorem nw_ref : ∀ i : Nat, i < 14 → lw_tbl[irS.getD i 0]? = some (Cond.stringRef "TripleSieve$Reader" (ixS.getD i 0) (am_str.getD i "")) := by decide +kernel
theorem nw_chr : ∀ i : Nat, i < 14 → ∀ j : Nat, j < (am_str.map String.length).getD i 0 → nrw[iaS.getD i 0 + 4 + j]? = some (Cond.eq (.elem (.field (tmS i) "java/lang/String" "value" "[B") (.int (Int32.ofNat j))) (.int ((((List.range 14).map am_strT).getD i []).getD j 0))) := by decide +kernel
def neS : List (List Nat) := [[0, 73, 82, 92, 102, 116, 130, 145, 161, 178, 196, 214, 232, 250], [73, 0, 83, 93, 103, 117, 131, 146, 162, 179, 197, 215, 233, 251], [82, 83, 0, 94, 104, 118, 132, 147, 163, 180, 198, 216, 234, 252], [92, 93, 94, 0, 105, 119, 133, 148, 164, 181, 199, 217, 235, 253], [102, 103, 104, 105, 0, 120, 134, 149, 165, 182, 200, 218, 236, 254], [116, 117, 118, 119, 120, 0, 135, 150, 166, 183, 201, 219, 237, 255], [130, 131, 132, 133, 134, 135, 0, 151, 167, 184, 202, 220, 238, 256], [145, 146, 147, 148, 149, 150, 151, 0, 168, 185, 203, 221, 239, 257], [161, 162, 163, 164, 165, 166, 167, 168, 0, 186, 204, 222, 240, 258], [178, 179, 180, 181, 182, 183, 184, 185, 186, 0, 205, 223, 241, 259], [196, 197, 198, 199, 200, 201, 202, 203, 204, 205, 0, 224, 242, 260], [214, 215, 216, 217, 218, 219, 220, 221, 222, 223, 224, 0, 243, 261], [232, 233, 234, 235, 236, 237, 238, 239, 240, 241, 242, 243, 0, 262], [250, 251, 252, 253, 254, 255, 256, 257, 258, 259, 260, 261, 262, 0]]
theorem nw_ne : ∀ j : Nat, j < 14 → ∀ i : Nat, i < j → nrw[(neS.getD i []).getD j 0]? = some (Cond.not (Cond.eq (tmS i) (tmS j))) := by decide +kernel
theorem nw_oth : nrw[14]? = some (Cond.eq (.static "java/lang/String" "COMPACT_STRINGS" "Z") (.int 1)) ∧ nrw[15]? = some (Cond.isRef (.static "jdk/internal/util/Preconditions" "SIOOBE_FORMATTER" "Ljava/util/function/BiFunction;")) ∧ nrw[39]? = some (Cond.isRef (.static "java/lang/Throwable" "UNASSIGNED_STACK" "[Ljava/lang/StackTraceElement;")) ∧ nrw[40]? = some (Cond.isRef (.static "java/lang/Throwable" "SUPPRESSED_SENTINEL" "Ljava/util/List;")) ∧ nrw[266]? = some (Cond.exactly (.static "TripleSieve" "UNTOLD" "[I") "[I") := by decide +kernel
