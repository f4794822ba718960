section
variable {p : Program} {l : Launch} {e : Env} {R : Room} {s : State} {mm : MethodId} {args : Array Value} {below : List Frame} {meth : Method} {c : Code} {cells slots : Nat} {Q : State → Prop} {E : am_E} {A : Nat → Prop} {y d : Nat} {P : am_V → am_M → Prop}
  {pc : Nat} {lv : am_L} {r st : List am_V} {m : am_M}
theorem s_getfield (C : am_Cx p l e R s mm args below meth c cells slots Q E A y d P) {i n q t x nest w : Nat} {v : am_V} (hf : (i, n, nest, w) ∈ am_ft.getD (am_mi y).2.2.2.2 []) (hg : am_fld q n = (t, x)) (ht : t ≠ 9) (hcv : am_fv E m (t, x) = am_cv E v) (hok : am_MR m → am_vok v) (hd : decode (am_mi y).2.1 pc = .ok (.getfield i, 3)) (k : am_at p l e R s mm args below meth c cells slots Q E A y (pc + 3) lv (v :: st) (m)) : am_at p l e R s mm args below meth c cells slots Q E A y (pc) lv (.inr (.inr q) :: st) (m) := by
  obtain ⟨hx, hb, hml, hown, hts, hfr, hlo, hce, hsl, hRO, hK, hret⟩ := id C
  intro H locs ls hW hS hl hv hst
  obtain ⟨hP, -, hD, hM⟩ := id hW
  obtain ⟨h13, hkN, hlk⟩ := am_flink hf
  obtain ⟨hq, hci, he⟩ := am_fld_spec hg ht
  have hk100 : (am_lay q).1 < 100 := by omega
  obtain ⟨hcin, ⟨ty, hty⟩, hnm, hde⟩ := am_cls (am_C_at h13)
  have hws := am_ws_get E m hq
  rw [am_cell_obj hk100, hci] at hws
  have hfs : ((am_lay q).2.map (am_fv E m))[n % 100]? = some (am_cv E v) := by rw [List.getElem?_map, he, ← hcv]; rfl
  have k := k H locs ls hW hS hl hv (am_vc (hok hM) (am_vt hst))
  rcases hlk with hlk | hlk
  · exact va_get (ref := (am_C (n / 100)).1) hx hb hts hcin hown hK hP q hws (am_C_at h13) (n % 100) hkN (hts _ hlk) (by rw [hde _ hkN]; exact fun _ h => h) hfs hd k
  · exact va_getN (ref := (am_C (n / 100)).1) hx hb hts hcin hown hK hP q hws (am_C_at h13) (n % 100) hkN (va_Nw.use rfl (hRO.2.2.2.2.2.2.1 _ hlk)) (by rw [hde _ hkN]; exact fun _ h => h) hfs hd k
theorem s_putfield (C : am_Cx p l e R s mm args below meth c cells slots Q E A y d P) {i n q t x nest w : Nat} {v : am_V} {m2 : am_M} (hf : (i, n, nest, w) ∈ am_ft.getD (am_mi y).2.2.2.2 []) (hg : am_fld q n = (t, x)) (ht : t ≠ 9) (ht2 : t ≠ 2) (h1 : ∀ i, i ≠ x → m2.1 i = m.1 i) (h2 : ∀ i, i ≠ x → m2.2 i = m.2 i) (hcv : am_fv E m2 (t, x) = am_cv E v) (hnf : ∀ ty, ((t = 0 ∧ ty = FieldType.int) ∨ (t = 1 ∧ ty = FieldType.long) ∨ (t = 3 ∧ ty = FieldType.boolean)) → narrow ty (am_cv E v) = am_cv E v ∧ fits ty (am_cv E v) = true) (hok : am_MR m → am_vok v → am_MR m2) (hd : decode (am_mi y).2.1 pc = .ok (.putfield i, 3)) (k : am_at p l e R s mm args below meth c cells slots Q E A y (pc + 3) lv (st) (m2)) : am_at p l e R s mm args below meth c cells slots Q E A y (pc) lv (v :: .inr (.inr q) :: st) (m) := by
  obtain ⟨hx, hb, hml, hown, hts, hfr, hlo, hce, hsl, hRO, hK, hret⟩ := id C
  intro H locs ls hW hS hl hv hst
  obtain ⟨hP, -, hD, hM⟩ := id hW
  obtain ⟨h13, hkN, hlk⟩ := am_flink hf
  obtain ⟨hq, hci, he⟩ := am_fld_spec hg ht
  have hk100 : (am_lay q).1 < 100 := by omega
  obtain ⟨hcin, ⟨ty, hty⟩, hnm, hde⟩ := am_cls (am_C_at h13)
  obtain ⟨hfin, hdes⟩ := am_ftyq hq hk100 he ht2
  obtain ⟨hxx, hk1⟩ := am_idq hq hk100 he ht2
  rw [hci] at hfin hdes
  have hws := am_ws_get E m hq
  rw [am_cell_obj hk100, hci] at hws
  have hset : (am_ws E m).set q (am_ad E q, .inr (n / 100, ((am_lay q).2.map (am_fv E m)).set (n % 100) (am_cv E v))) = am_ws E m2 := by
    rw [← hcv]
    have h3 := am_cell_put (E := E) (m' := m2) hq hk100 he ht2 h1 h2
    rw [hci] at h3
    rw [← h3]
    refine am_ws_set E (am_cell_fld hq hk1 ?_ ?_)
    · rw [← hxx]; exact h1
    · rw [← hxx]; exact h2
  obtain ⟨ty2, hp2, hnn⟩ : ∃ ty2, parseFieldDescriptor ((am_C (n / 100)).2.1 (n % 100)).2.2.1 = some ty2 ∧ narrow ty2 (am_cv E v) = am_cv E v ∧ fits ty2 (am_cv E v) = true := by
    rcases hdes with ⟨a1, a2⟩ | ⟨a1, a2⟩ | ⟨a1, a2⟩
    · exact ⟨.int, by rw [a2]; decide, hnf _ (Or.inl ⟨a1, rfl⟩)⟩
    · exact ⟨.long, by rw [a2]; decide, hnf _ (Or.inr (Or.inl ⟨a1, rfl⟩))⟩
    · exact ⟨.boolean, by rw [a2]; decide, hnf _ (Or.inr (Or.inr ⟨a1, rfl⟩))⟩
  have hlen : n % 100 < ((am_lay q).2.map (am_fv E m)).length := by rw [List.length_map]; exact (List.getElem?_eq_some_iff.mp he).1
  have k : ∀ (H1 : Heap) (locs1 : List Loc), va_P E.1 vwCl ((am_ws E m).set q (am_ad E q, .inr (n / 100, ((am_lay q).2.map (am_fv E m)).set (n % 100) (am_cv E v)))) H1 → va_D A ((am_ws E m).set q (am_ad E q, .inr (n / 100, ((am_lay q).2.map (am_fv E m)).set (n % 100) (am_cv E v)))) → va_S A s.heap H1 locs1 → W p l e R s mm args below meth c H1 locs1 cells slots Q (F0 mm (pc + 3) ls (st.map (am_cv E))) := by
    intro H1 locs1 hP1 hD1 hS1
    rw [hset] at hP1 hD1
    exact k H1 locs1 ls ⟨hP1, hW.2.1, hD1, hok hM (am_vh hst)⟩ hS1 hl hv (am_vt (am_vt hst))
  rcases hlk with hlk | hlk
  · exact va_put (ref := (am_C (n / 100)).1) hx hb hts hcin ty hty hnm hown hK hP hD hS q hws (am_C_at h13) (n % 100) hkN (hts _ hlk) (by rw [hde _ hkN]; exact fun _ h => h) hfin hp2 hnn.1 hnn.2 hlen hd k
  · exact va_putN (ref := (am_C (n / 100)).1) hx hb hts hcin ty hty hnm hown hK hP hD hS q hws (am_C_at h13) (n % 100) hkN (va_Nw.use rfl (hRO.2.2.2.2.2.2.1 _ hlk)) (by rw [hde _ hkN]; exact fun _ h => h) hfin hp2 hnn.1 hnn.2 hlen hd k
theorem s_getstatic (C : am_Cx p l e R s mm args below meth c cells slots Q E A y d P) {i n nest w : Nat} (hf : (i, n, nest, w) ∈ am_gs.getD (am_mi y).2.2.2.2 []) (hd : decode (am_mi y).2.1 pc = .ok (.getstatic i, 3)) (k : am_at p l e R s mm args below meth c cells slots Q E A y (pc + 3) lv (.inr (.inr n) :: st) (m)) : am_at p l e R s mm args below meth c cells slots Q E A y (pc) lv (st) (m) := by
  obtain ⟨hx, hb, hml, hown, hts, hfr, hlo, hce, hsl, hRO, hK, hret⟩ := id C
  intro H locs ls hW hS hl hv hst
  obtain ⟨hP, -, hD, hM⟩ := id hW
  obtain ⟨⟨h1, h2⟩, hlk⟩ := am_glink hf
  have k := k H locs ls hW hS hl hv (am_vc trivial hst)
  have hz : va_Z "TripleSieve" (["LOWEST", "HIGHEST", "UNTOLD"].getD (n - 900) "") "[I" (.ref (am_ad E n)) A s s.heap := by
    rcases (show n = 900 ∨ n = 901 ∨ n = 902 by omega) with rfl | rfl | rfl
    · exact hRO.1.1
    · exact hRO.2.1.1
    · exact hRO.2.2.1.1
  rcases hlk with hlk | hlk
  · exact va_gets hx hb hz hS hown (hts _ hlk) (fun _ h => h) hd k
  · exact va_getsN hx hb hz hS hown (va_Nw.use rfl (hRO.2.2.2.2.2.2.1 _ hlk)) (fun _ h => h) hd k
theorem am_cell_int {E : am_E} {m : am_M} {q : Nat} (hk : (am_lay q).1 = 100 ∨ (am_lay q).1 = 101 ∨ (am_lay q).1 = 102) : am_cell E m q = .inl (E.2.1 (am_lay q).1, am_len q, .inl fun j => Int32.ofInt (m.1 q (j : Int))) := by
  unfold am_cell
  rw [if_neg (by omega), if_neg (by omega), if_neg (by omega)]
theorem am_cell_lng {E : am_E} {m : am_M} {q : Nat} (hk : (am_lay q).1 = 103) : am_cell E m q = .inl (E.2.1 103, am_len q, .inr (.inl fun j => m.2 q (j : Int))) := by
  unfold am_cell
  rw [if_neg (by omega), if_pos hk]
theorem am_cell_ref {E : am_E} {m : am_M} {q : Nat} (hk : (am_lay q).1 = 104) : am_cell E m q = .inl (E.2.1 104, (am_lay q).2.length, .inr (.inr (.inr (.inr fun j => some (am_ad E ((am_lay q).2.getD j (0, 0)).1))))) := by
  unfold am_cell
  rw [if_neg (by omega), if_neg (by omega), if_pos hk]
theorem am_N1000 : am_N < 1000 := by decide
theorem am_toN {z : Int} (h : 0 ≤ z) : ((z.toNat : Nat) : Int) = z := Int.toNat_of_nonneg h
theorem s_iaload (C : am_Cx p l e R s mm args below meth c cells slots Q E A y d P) {q : Nat} {i : Int} (hk : (am_lay q).1 = 100) (h0 : 0 ≤ i) (h1 : i < (am_len q : Int)) (hd : decode (am_mi y).2.1 pc = .ok (.iaload, 1)) (k : am_at p l e R s mm args below meth c cells slots Q E A y (pc + 1) lv (.inl (m.1 q i) :: st) (m)) : am_at p l e R s mm args below meth c cells slots Q E A y (pc) lv (.inl i :: .inr (.inr q) :: st) (m) := by
  obtain ⟨hx, hb, hml, hown, hts, hfr, hlo, hce, hsl, hRO, hK, hret⟩ := id C
  intro H locs ls hW hS hl hv hst
  obtain ⟨hP, -, hD, hM⟩ := id hW
  have hq : q < am_N := am_lay_lt (by omega)
  have hws := am_ws_get E m hq
  rw [am_cell_int (by omega), hk] at hws
  have ri : am_R i := am_vh hst
  have k := k H locs ls hW hS hl hv (am_vc (hM.R q i) (am_vt (am_vt hst)))
  refine va_iald hx hb hK hP q 0 hws rfl (am_vin ri h0 h1) hd ?_
  simp only [am_clamp ri, am_toN h0]
  exact k
theorem s_zaload (C : am_Cx p l e R s mm args below meth c cells slots Q E A y d P) {q : Nat} {i : Int} (hk : (am_lay q).1 = 101) (h0 : 0 ≤ i) (h1 : i < (am_len q : Int)) (hd : decode (am_mi y).2.1 pc = .ok (.baload, 1)) (k : am_at p l e R s mm args below meth c cells slots Q E A y (pc + 1) lv (.inl (m.1 q i) :: st) (m)) : am_at p l e R s mm args below meth c cells slots Q E A y (pc) lv (.inl i :: .inr (.inr q) :: st) (m) := by
  obtain ⟨hx, hb, hml, hown, hts, hfr, hlo, hce, hsl, hRO, hK, hret⟩ := id C
  intro H locs ls hW hS hl hv hst
  obtain ⟨hP, -, hD, hM⟩ := id hW
  have hq : q < am_N := am_lay_lt (by omega)
  have hws := am_ws_get E m hq
  rw [am_cell_int (by omega), hk] at hws
  have ri : am_R i := am_vh hst
  have k := k H locs ls hW hS hl hv (am_vc (hM.R q i) (am_vt (am_vt hst)))
  refine va_zald hx hb hK hP q 1 hws rfl (am_vin ri h0 h1) hd ?_
  simp only [am_clamp ri, am_toN h0]
  exact k
theorem s_baload (C : am_Cx p l e R s mm args below meth c cells slots Q E A y d P) {q : Nat} {i : Int} (hk : (am_lay q).1 = 102) (h0 : 0 ≤ i) (h1 : i < (am_len q : Int)) (hd : decode (am_mi y).2.1 pc = .ok (.baload, 1)) (k : am_at p l e R s mm args below meth c cells slots Q E A y (pc + 1) lv (.inl (m.1 q i) :: st) (m)) : am_at p l e R s mm args below meth c cells slots Q E A y (pc) lv (.inl i :: .inr (.inr q) :: st) (m) := by
  obtain ⟨hx, hb, hml, hown, hts, hfr, hlo, hce, hsl, hRO, hK, hret⟩ := id C
  intro H locs ls hW hS hl hv hst
  obtain ⟨hP, -, hD, hM⟩ := id hW
  have hq : q < am_N := am_lay_lt (by omega)
  have hws := am_ws_get E m hq
  rw [am_cell_int (by omega), hk] at hws
  have ri : am_R i := am_vh hst
  have k := k H locs ls hW hS hl hv (am_vc (hM.R q i) (am_vt (am_vt hst)))
  refine va_bald hx hb hK hP q 2 hws rfl (am_vin ri h0 h1) hd ?_
  simp only [am_clamp ri, am_toN h0]
  exact k
theorem s_laload (C : am_Cx p l e R s mm args below meth c cells slots Q E A y d P) {q : Nat} {i : Int} (hk : (am_lay q).1 = 103) (h0 : 0 ≤ i) (h1 : i < (am_len q : Int)) (hd : decode (am_mi y).2.1 pc = .ok (.laload, 1)) (k : am_at p l e R s mm args below meth c cells slots Q E A y (pc + 1) lv (.inr (.inl (m.2 q i)) :: st) (m)) : am_at p l e R s mm args below meth c cells slots Q E A y (pc) lv (.inl i :: .inr (.inr q) :: st) (m) := by
  obtain ⟨hx, hb, hml, hown, hts, hfr, hlo, hce, hsl, hRO, hK, hret⟩ := id C
  intro H locs ls hW hS hl hv hst
  obtain ⟨hP, -, hD, hM⟩ := id hW
  have hq : q < am_N := am_lay_lt (by omega)
  have hws := am_ws_get E m hq
  rw [am_cell_lng hk] at hws
  have ri : am_R i := am_vh hst
  have k := k H locs ls hW hS hl hv (am_vc trivial (am_vt (am_vt hst)))
  refine va_lald hx hb hK hP q 3 hws rfl (am_vin ri h0 h1) hd ?_
  simp only [am_clamp ri, am_toN h0]
  exact k
theorem s_aaload (C : am_Cx p l e R s mm args below meth c cells slots Q E A y d P) {q q2 : Nat} {i : Int} (hk : (am_lay q).1 = 104) (h0 : 0 ≤ i) (h1 : i < ((am_lay q).2.length : Int)) (h2 : ((am_lay q).2.getD i.toNat (0, 0)).1 = q2) (hd : decode (am_mi y).2.1 pc = .ok (.aaload, 1)) (k : am_at p l e R s mm args below meth c cells slots Q E A y (pc + 1) lv (.inr (.inr q2) :: st) (m)) : am_at p l e R s mm args below meth c cells slots Q E A y (pc) lv (.inl i :: .inr (.inr q) :: st) (m) := by
  obtain ⟨hx, hb, hml, hown, hts, hfr, hlo, hce, hsl, hRO, hK, hret⟩ := id C
  intro H locs ls hW hS hl hv hst
  obtain ⟨hP, -, hD, hM⟩ := id hW
  have hq : q < am_N := am_lay_lt (by omega)
  have hws := am_ws_get E m hq
  rw [am_cell_ref hk] at hws
  have ri : am_R i := am_vh hst
  have k := k H locs ls hW hS hl hv (am_vc trivial (am_vt (am_vt hst)))
  refine va_aldq hx hb hK hP q 4 hws rfl (am_vin ri h0 h1) hd ?_
  simp only [am_clamp ri, h2]
  exact k
theorem s_tabload (C : am_Cx p l e R s mm args below meth c cells slots Q E A y d P) {q : Nat} {i : Int} (hq : 900 ≤ q ∧ q ≤ 902) (h0 : 0 ≤ i) (h1 : i < 7) (hd : decode (am_mi y).2.1 pc = .ok (.iaload, 1)) (k : am_at p l e R s mm args below meth c cells slots Q E A y (pc + 1) lv (.inl (am_tab q i) :: st) (m)) : am_at p l e R s mm args below meth c cells slots Q E A y (pc) lv (.inl i :: .inr (.inr q) :: st) (m) := by
  obtain ⟨hx, hb, hml, hown, hts, hfr, hlo, hce, hsl, hRO, hK, hret⟩ := id C
  intro H locs ls hW hS hl hv hst
  obtain ⟨hP, -, hD, hM⟩ := id hW
  have ri : am_R i := am_vh hst
  have hT : va_T .int (am_ad E q) 7 (fun j => .int (Int32.ofInt (am_tab q (j : Int)))) A s s.heap := by
    rcases (show q = 900 ∨ q = 901 ∨ q = 902 by omega) with rfl | rfl | rfl
    · exact hRO.1.2
    · exact hRO.2.1.2
    · exact hRO.2.2.1.2
  have hr : am_R (am_tab q i) := by
    have key : ∀ j : Nat, j < 7 → (am_lowT.getD j 0 ≤ 999999999 ∧ 0 ≤ am_lowT.getD j 0) ∧ (am_highT.getD j 0 ≤ 999999999 ∧ 0 ≤ am_highT.getD j 0) ∧ am_untT.getD j 0 ≤ 999999999 ∧ 0 ≤ am_untT.getD j 0 := by decide
    have := key i.toNat (by omega)
    unfold am_tab am_R
    split <;> omega
  have k := k H locs ls hW hS hl hv (am_vc hr (am_vt (am_vt hst)))
  refine va_ti hx hb hT hS (am_vin (n := 7) ri h0 h1) (v := .int (Int32.ofInt (am_tab q i))) ?_ hd k
  show Value.int (Int32.ofInt (am_tab q ((Int32.ofInt i).toNatClampNeg : Int))) = _
  rw [am_clamp ri, am_toN h0]
theorem s_scriptload (C : am_Cx p l e R s mm args below meth c cells slots Q E A y d P) {i : Int} (h0 : 0 ≤ i) (h1 : i < (am_sc E).1) (hd : decode (am_mi y).2.1 pc = .ok (.iaload, 1)) (k : am_at p l e R s mm args below meth c cells slots Q E A y (pc + 1) lv (.inl ((am_sc E).2 i) :: st) (m)) : am_at p l e R s mm args below meth c cells slots Q E A y (pc) lv (.inl i :: .inr (.inr 800) :: st) (m) := by
  obtain ⟨hx, hb, hml, hown, hts, hfr, hlo, hce, hsl, hRO, hK, hret⟩ := id C
  intro H locs ls hW hS hl hv hst
  obtain ⟨hP, -, hD, hM⟩ := id hW
  have ri : am_R i := am_vh hst
  obtain ⟨hX, hbl, hbA⟩ := hRO.2.2.2.2.2.1
  have k := k H locs ls hW hS hl hv (am_vc (am_RT _) (am_vt (am_vt hst)))
  refine va_sld hx hb hX hbl hbA hS (am_vin ri h0 h1) hd ?_
  rw [am_clamp ri]
  simp only [List.map_cons, am_cv, am_sc, am_of] at k
  exact k
theorem s_scriptlen (C : am_Cx p l e R s mm args below meth c cells slots Q E A y d P) (hd : decode (am_mi y).2.1 pc = .ok (.arraylength, 1)) (hL : am_R (am_sc E).1) (k : am_at p l e R s mm args below meth c cells slots Q E A y (pc + 1) lv (.inl (am_sc E).1 :: st) (m)) : am_at p l e R s mm args below meth c cells slots Q E A y (pc) lv (.inr (.inr 800) :: st) (m) := by
  obtain ⟨hx, hb, hml, hown, hts, hfr, hlo, hce, hsl, hRO, hK, hret⟩ := id C
  intro H locs ls hW hS hl hv hst
  obtain ⟨hP, -, hD, hM⟩ := id hW
  obtain ⟨hX, hbl, hbA⟩ := hRO.2.2.2.2.2.1
  have k := k H locs ls hW hS hl hv (am_vc hL (am_vt hst))
  refine va_slen hx hb hX hbl hbA hS hd ?_
  simp only [List.map_cons, am_cv, am_sc, Int32.ofInt_eq_ofNat] at k
  exact k
theorem s_tablen (C : am_Cx p l e R s mm args below meth c cells slots Q E A y d P) {q : Nat} (hq : 900 ≤ q ∧ q ≤ 902) (hd : decode (am_mi y).2.1 pc = .ok (.arraylength, 1)) (k : am_at p l e R s mm args below meth c cells slots Q E A y (pc + 1) lv (.inl 7 :: st) (m)) : am_at p l e R s mm args below meth c cells slots Q E A y (pc) lv (.inr (.inr q) :: st) (m) := by
  obtain ⟨hx, hb, hml, hown, hts, hfr, hlo, hce, hsl, hRO, hK, hret⟩ := id C
  intro H locs ls hW hS hl hv hst
  obtain ⟨hP, -, hD, hM⟩ := id hW
  have hT : va_T .int (am_ad E q) 7 (fun j => .int (Int32.ofInt (am_tab q (j : Int)))) A s s.heap := by
    rcases (show q = 900 ∨ q = 901 ∨ q = 902 by omega) with rfl | rfl | rfl
    · exact hRO.1.2
    · exact hRO.2.1.2
    · exact hRO.2.2.1.2
  exact va_tlen hx hb hT hS rfl hd (k H locs ls hW hS hl hv (am_vc (v := .inl 7) ⟨by decide, by decide⟩ (am_vt hst)))
theorem s_arrlen (C : am_Cx p l e R s mm args below meth c cells slots Q E A y d P) {q : Nat} (hk : 100 ≤ (am_lay q).1 ∧ (am_lay q).1 ≤ 103) (hL : am_len q < 2147483648) (hd : decode (am_mi y).2.1 pc = .ok (.arraylength, 1)) (k : am_at p l e R s mm args below meth c cells slots Q E A y (pc + 1) lv (.inl (am_len q : Int) :: st) (m)) : am_at p l e R s mm args below meth c cells slots Q E A y (pc) lv (.inr (.inr q) :: st) (m) := by
  obtain ⟨hx, hb, hml, hown, hts, hfr, hlo, hce, hsl, hRO, hK, hret⟩ := id C
  intro H locs ls hW hS hl hv hst
  obtain ⟨hP, -, hD, hM⟩ := id hW
  have hq : q < am_N := am_lay_lt (by omega)
  have hws := am_ws_get E m hq
  have k := k H locs ls hW hS hl hv (am_vc (v := .inl (am_len q : Int)) ⟨by omega, by omega⟩ (am_vt hst))
  simp only [List.map_cons, am_cv, Int32.ofInt_eq_ofNat] at k
  rcases (show (am_lay q).1 = 100 ∨ (am_lay q).1 = 101 ∨ (am_lay q).1 = 102 ∨ (am_lay q).1 = 103 by omega) with h | h | h | h
  · rw [am_cell_int (by omega), h] at hws
    exact va_alen hx hb hK hP q 0 hws (ty := .int) rfl rfl hd k
  · rw [am_cell_int (by omega), h] at hws
    exact va_alen hx hb hK hP q 1 hws (ty := .boolean) rfl rfl hd k
  · rw [am_cell_int (by omega), h] at hws
    exact va_alen hx hb hK hP q 2 hws (ty := .byte) rfl rfl hd k
  · rw [am_cell_lng h] at hws
    exact va_alen hx hb hK hP q 3 hws (ty := .long) rfl rfl hd k
theorem am_upd_eq {m : am_M} {q : Nat} {i v : Int} (h0 : 0 ≤ i) : upd (fun j : Nat => Int32.ofInt (m.1 q (j : Int))) i.toNat (Int32.ofInt v) = fun j : Nat => Int32.ofInt ((am_wr m q i v).1 q (j : Int)) := by
  funext j
  simp only [upd, am_wr, if_true]
  by_cases hj : j = i.toNat
  · rw [if_pos hj, if_pos (by omega)]
  · rw [if_neg hj, if_neg (by omega)]
theorem am_updL_eq {m : am_M} {q : Nat} {i : Int} {v : Int64} (h0 : 0 ≤ i) : vp_updL (fun j : Nat => m.2 q (j : Int)) i.toNat v = fun j : Nat => (am_wl m q i v).2 q (j : Int) := by
  funext j
  simp only [vp_updL, am_wl, if_true]
  by_cases hj : j = i.toNat
  · rw [if_pos hj, if_pos (by omega)]
  · rw [if_neg hj, if_neg (by omega)]
theorem am_ws_int {E : am_E} {m m2 : am_M} {q : Nat} (hk : (am_lay q).1 = 100 ∨ (am_lay q).1 = 101 ∨ (am_lay q).1 = 102) (h1 : ∀ i, i ≠ q → m2.1 i = m.1 i) (h2 : ∀ i, i ≠ q → m2.2 i = m.2 i) : (am_ws E m).set q (am_ad E q, .inl (E.2.1 (am_lay q).1, am_len q, .inl fun j => Int32.ofInt (m2.1 q (j : Int)))) = am_ws E m2 := by
  rw [← am_cell_int hk]
  exact am_ws_set E (am_cell_arr (by have := am_N1000; have : q < am_N := am_lay_lt (by omega); omega) h1 h2)
theorem am_ws_lng {E : am_E} {m m2 : am_M} {q : Nat} (hk : (am_lay q).1 = 103) (h1 : ∀ i, i ≠ q → m2.1 i = m.1 i) (h2 : ∀ i, i ≠ q → m2.2 i = m.2 i) : (am_ws E m).set q (am_ad E q, .inl (E.2.1 103, am_len q, .inr (.inl fun j => m2.2 q (j : Int)))) = am_ws E m2 := by
  rw [← am_cell_lng hk]
  exact am_ws_set E (am_cell_arr (by have := am_N1000; have : q < am_N := am_lay_lt (by omega); omega) h1 h2)
theorem s_iastore (C : am_Cx p l e R s mm args below meth c cells slots Q E A y d P) {q : Nat} {i v : Int} (hk : (am_lay q).1 = 100) (h0 : 0 ≤ i) (h1 : i < (am_len q : Int)) (hd : decode (am_mi y).2.1 pc = .ok (.iastore, 1)) (k : am_at p l e R s mm args below meth c cells slots Q E A y (pc + 1) lv (st) (am_wr m q i v)) : am_at p l e R s mm args below meth c cells slots Q E A y (pc) lv (.inl v :: .inl i :: .inr (.inr q) :: st) (m) := by
  obtain ⟨hx, hb, hml, hown, hts, hfr, hlo, hce, hsl, hRO, hK, hret⟩ := id C
  intro H locs ls hW hS hl hv hst
  obtain ⟨hP, -, hD, hM⟩ := id hW
  have hq : q < am_N := am_lay_lt (by omega)
  have hws := am_ws_get E m hq
  rw [am_cell_int (by omega)] at hws
  have ri : am_R i := am_vh (am_vt hst)
  have hset := am_ws_int (E := E) (m := m) (m2 := am_wr m q i v) (q := q) (by omega) (am_wr1 m q i v) (fun _ _ => rfl)
  refine va_iast hx hb hK hP hD hS q 0 hws (by rw [hk]; rfl) (am_vin ri h0 h1) hd fun H1 locs1 hP1 hD1 hS1 => ?_
  rw [am_clamp ri, am_upd_eq h0, hset] at hP1 hD1
  exact k H1 locs1 ls ⟨hP1, hW.2.1, hD1, hM.wr (by rw [am_rg0 (by have := am_N1000; omega) (by omega) (by omega)]; exact am_vh hst)⟩ hS1 hl hv (am_vt (am_vt (am_vt hst)))
theorem s_zastore (C : am_Cx p l e R s mm args below meth c cells slots Q E A y d P) {q : Nat} {i v : Int} (hk : (am_lay q).1 = 101) (h0 : 0 ≤ i) (h1 : i < (am_len q : Int)) (hz : v = 0 ∨ v = 1) (hd : decode (am_mi y).2.1 pc = .ok (.bastore, 1)) (k : am_at p l e R s mm args below meth c cells slots Q E A y (pc + 1) lv (st) (am_wr m q i v)) : am_at p l e R s mm args below meth c cells slots Q E A y (pc) lv (.inl v :: .inl i :: .inr (.inr q) :: st) (m) := by
  obtain ⟨hx, hb, hml, hown, hts, hfr, hlo, hce, hsl, hRO, hK, hret⟩ := id C
  intro H locs ls hW hS hl hv hst
  obtain ⟨hP, -, hD, hM⟩ := id hW
  have hq : q < am_N := am_lay_lt (by omega)
  have hws := am_ws_get E m hq
  rw [am_cell_int (by omega)] at hws
  have ri : am_R i := am_vh (am_vt hst)
  have hset := am_ws_int (E := E) (m := m) (m2 := am_wr m q i v) (q := q) (by omega) (am_wr1 m q i v) (fun _ _ => rfl)
  refine va_zast hx hb hK hP hD hS q 1 hws (by rw [hk]; rfl) (am_vin ri h0 h1) hd fun H1 locs1 hP1 hD1 hS1 => ?_
  rw [(am_nb v hz).2.2] at hP1 hD1
  rw [am_clamp ri, am_upd_eq h0, hset] at hP1 hD1
  exact k H1 locs1 ls ⟨hP1, hW.2.1, hD1, hM.wr (by rw [am_rg1 (by have := am_N1000; omega) hk]; exact hz)⟩ hS1 hl hv (am_vt (am_vt (am_vt hst)))
theorem s_bastore (C : am_Cx p l e R s mm args below meth c cells slots Q E A y d P) {q : Nat} {i v : Int} (hk : (am_lay q).1 = 102) (h0 : 0 ≤ i) (h1 : i < (am_len q : Int)) (hz : -128 ≤ v ∧ v ≤ 127) (hd : decode (am_mi y).2.1 pc = .ok (.bastore, 1)) (k : am_at p l e R s mm args below meth c cells slots Q E A y (pc + 1) lv (st) (am_wr m q i v)) : am_at p l e R s mm args below meth c cells slots Q E A y (pc) lv (.inl v :: .inl i :: .inr (.inr q) :: st) (m) := by
  obtain ⟨hx, hb, hml, hown, hts, hfr, hlo, hce, hsl, hRO, hK, hret⟩ := id C
  intro H locs ls hW hS hl hv hst
  obtain ⟨hP, -, hD, hM⟩ := id hW
  have hq : q < am_N := am_lay_lt (by omega)
  have hws := am_ws_get E m hq
  rw [am_cell_int (by omega)] at hws
  have ri : am_R i := am_vh (am_vt hst)
  have hset := am_ws_int (E := E) (m := m) (m2 := am_wr m q i v) (q := q) (by omega) (am_wr1 m q i v) (fun _ _ => rfl)
  refine va_bast hx hb hK hP hD hS q 2 hws (by rw [hk]; rfl) (am_vin ri h0 h1) hd fun H1 locs1 hP1 hD1 hS1 => ?_
  rw [vp_nar_byte, am_nby hz.1 hz.2] at hP1 hD1
  rw [am_clamp ri, am_upd_eq h0, hset] at hP1 hD1
  exact k H1 locs1 ls ⟨hP1, hW.2.1, hD1, hM.wr (by rw [am_rg2 (by have := am_N1000; omega) hk]; exact hz)⟩ hS1 hl hv (am_vt (am_vt (am_vt hst)))
theorem s_lastore (C : am_Cx p l e R s mm args below meth c cells slots Q E A y d P) {q : Nat} {i : Int} {v : Int64} (hk : (am_lay q).1 = 103) (h0 : 0 ≤ i) (h1 : i < (am_len q : Int)) (hd : decode (am_mi y).2.1 pc = .ok (.lastore, 1)) (k : am_at p l e R s mm args below meth c cells slots Q E A y (pc + 1) lv (st) (am_wl m q i v)) : am_at p l e R s mm args below meth c cells slots Q E A y (pc) lv (.inr (.inl v) :: .inl i :: .inr (.inr q) :: st) (m) := by
  obtain ⟨hx, hb, hml, hown, hts, hfr, hlo, hce, hsl, hRO, hK, hret⟩ := id C
  intro H locs ls hW hS hl hv hst
  obtain ⟨hP, -, hD, hM⟩ := id hW
  have hq : q < am_N := am_lay_lt (by omega)
  have hws := am_ws_get E m hq
  rw [am_cell_lng hk] at hws
  have ri : am_R i := am_vh (am_vt hst)
  have hset := am_ws_lng (E := E) (m := m) (m2 := am_wl m q i v) (q := q) hk (fun _ _ => rfl) (am_wl2 m q i v)
  refine va_last hx hb hK hP hD hS q 3 hws rfl (am_vin ri h0 h1) hd fun H1 locs1 hP1 hD1 hS1 => ?_
  rw [am_clamp ri, am_updL_eq h0, hset] at hP1 hD1
  exact k H1 locs1 ls ⟨hP1, hW.2.1, hD1, hM.wl⟩ hS1 hl hv (am_vt (am_vt (am_vt hst)))
theorem am_cpy_eq {f g : Int → Int} {sp dp n : Int} (h1 : 0 ≤ sp) (h2 : 0 ≤ dp) (h3 : 0 ≤ n) : va_cpy (fun j : Nat => Int32.ofInt (f (j : Int))) (fun j : Nat => Int32.ofInt (g (j : Int))) sp.toNat dp.toNat n.toNat = fun j : Nat => Int32.ofInt (am_cpy f g sp dp n (j : Int)) := by
  funext j
  simp only [va_cpy, am_cpy]
  by_cases hj : dp.toNat ≤ j ∧ j < dp.toNat + n.toNat
  · rw [if_pos hj, if_pos (by omega)]
    congr 2
    omega
  · rw [if_neg hj, if_neg (by omega)]
theorem am_cpyL_eq {f g : Int → Int64} {sp dp n : Int} (h1 : 0 ≤ sp) (h2 : 0 ≤ dp) (h3 : 0 ≤ n) : va_cpy (fun j : Nat => f (j : Int)) (fun j : Nat => g (j : Int)) sp.toNat dp.toNat n.toNat = fun j : Nat => am_cpy f g sp dp n (j : Int) := by
  funext j
  simp only [va_cpy, am_cpy]
  by_cases hj : dp.toNat ≤ j ∧ j < dp.toNat + n.toNat
  · rw [if_pos hj, if_pos (by omega)]
    congr 1
    omega
  · rw [if_neg hj, if_neg (by omega)]
theorem am_hnl {d : Nat} {R : Room} (hd1 : 1 ≤ d) (hlo : 64 * d ≤ R.locals) : (([] : List Value).map fun v => v.category).sum + (nativeFrameWords "java/lang/System" "arraycopy" 5 + 11) ≤ R.locals := by
  have h7 : nativeFrameWords "java/lang/System" "arraycopy" 5 = 7 := by decide
  rw [h7]
  simp
  omega
theorem am_nn {z : Int} (h : am_R z) (h0 : 0 ≤ z) : ¬ Int32.ofInt z < 0 := fun hh => by have := (am_ltI h am_R0).mp hh; omega
theorem s_copyi (C : am_Cx p l e R s mm args below meth c cells slots Q E A y d P) {a b i w : Nat} {sp dp n : Int} (hf : (i, w) ∈ am_act.getD (am_mi y).2.2.2.2 []) (hka : (am_lay a).1 = 100) (hkb : (am_lay b).1 = 100) (h1 : 0 ≤ sp) (h2 : 0 ≤ dp) (h3 : 0 ≤ n) (h4 : sp + n ≤ (am_len a : Int)) (h5 : dp + n ≤ (am_len b : Int)) (hd1 : 1 ≤ d) (hd : decode (am_mi y).2.1 pc = .ok (.invokestatic i, 3)) (k : am_at p l e R s mm args below meth c cells slots Q E A y (pc + 3) lv ([]) (am_ws1 m b (am_cpy (m.1 a) (m.1 b) sp dp n))) : am_at p l e R s mm args below meth c cells slots Q E A y (pc) lv ([.inl n, .inl dp, .inr (.inr b), .inl sp, .inr (.inr a)]) (m) := by
  obtain ⟨hx, hb, hml, hown, hts, hfr, hlo, hce, hsl, hRO, hK, hret⟩ := id C
  intro H locs ls hW hS hl hv hst
  obtain ⟨hP, -, hD, hM⟩ := id hW
  have hqa : a < am_N := am_lay_lt (by omega)
  have hqb : b < am_N := am_lay_lt (by omega)
  have hwa := am_ws_get E m hqa
  have hwb := am_ws_get E m hqb
  rw [am_cell_int (by omega), hka] at hwa
  rw [am_cell_int (by omega), hkb] at hwb
  have rn : am_R n := am_vh hst
  have rd : am_R dp := am_vh (am_vt hst)
  have rs : am_R sp := am_vh (am_vt (am_vt (am_vt hst)))
  have hset := am_ws_int (E := E) (m := m) (m2 := am_ws1 m b (am_cpy (m.1 a) (m.1 b) sp dp n)) (q := b) (by omega) (am_ws11 m b _) (fun _ _ => rfl)
  have e2 : (am_ws1 m b (am_cpy (m.1 a) (m.1 b) sp dp n)).1 b = am_cpy (m.1 a) (m.1 b) sp dp n := by simp [am_ws1]
  rw [hkb, e2] at hset
  have hnl := am_hnl hd1 hlo
  refine va_copyi hx hb (hml.trans hl.1.symm) hown (hts _ (am_alink hf)) (hts _ (am_big_of am_acw2 rfl)) (hts _ (am_big_of am_acw1 rfl)) (hts _ (am_big_of am_acw3 rfl)) hK hP hD hS a b 0 0 hwa hwb rfl rfl rfl (am_nn rs h1) (am_nn rd h2) (am_nn rn h3) (by rw [am_clamp rs, am_clamp rn]; omega) (by rw [am_clamp rd, am_clamp rn]; omega) (fun _ _ => rfl) (by omega) (rest := []) hnl hd fun H1 locs1 hP1 hD1 hS1 => ?_
  rw [am_clamp rs, am_clamp rd, am_clamp rn, am_cpy_eq h1 h2 h3, hset] at hP1 hD1
  refine k H1 locs1 ls ⟨hP1, hW.2.1, hD1, hM.ws1 (fun j => ?_)⟩ hS1 hl hv (fun _ h => by cases h)
  rw [am_rg0 (by have := am_N1000; omega) (by omega) (by omega)]
  unfold am_cpy
  split
  · exact hM.R _ _
  · exact hM.R _ _
theorem s_copyl (C : am_Cx p l e R s mm args below meth c cells slots Q E A y d P) {a b i w : Nat} {sp dp n : Int} (hf : (i, w) ∈ am_act.getD (am_mi y).2.2.2.2 []) (hka : (am_lay a).1 = 103) (hkb : (am_lay b).1 = 103) (h1 : 0 ≤ sp) (h2 : 0 ≤ dp) (h3 : 0 ≤ n) (h4 : sp + n ≤ (am_len a : Int)) (h5 : dp + n ≤ (am_len b : Int)) (hd1 : 1 ≤ d) (hd : decode (am_mi y).2.1 pc = .ok (.invokestatic i, 3)) (k : am_at p l e R s mm args below meth c cells slots Q E A y (pc + 3) lv ([]) (am_ws2 m b (am_cpy (m.2 a) (m.2 b) sp dp n))) : am_at p l e R s mm args below meth c cells slots Q E A y (pc) lv ([.inl n, .inl dp, .inr (.inr b), .inl sp, .inr (.inr a)]) (m) := by
  obtain ⟨hx, hb, hml, hown, hts, hfr, hlo, hce, hsl, hRO, hK, hret⟩ := id C
  intro H locs ls hW hS hl hv hst
  obtain ⟨hP, -, hD, hM⟩ := id hW
  have hqa : a < am_N := am_lay_lt (by omega)
  have hqb : b < am_N := am_lay_lt (by omega)
  have hwa := am_ws_get E m hqa
  have hwb := am_ws_get E m hqb
  rw [am_cell_lng hka] at hwa
  rw [am_cell_lng hkb] at hwb
  have rn : am_R n := am_vh hst
  have rd : am_R dp := am_vh (am_vt hst)
  have rs : am_R sp := am_vh (am_vt (am_vt (am_vt hst)))
  have hset := am_ws_lng (E := E) (m := m) (m2 := am_ws2 m b (am_cpy (m.2 a) (m.2 b) sp dp n)) (q := b) hkb (fun _ _ => rfl) (am_ws22 m b _)
  have e2 : (am_ws2 m b (am_cpy (m.2 a) (m.2 b) sp dp n)).2 b = am_cpy (m.2 a) (m.2 b) sp dp n := by simp [am_ws2]
  rw [e2] at hset
  have hnl := am_hnl hd1 hlo
  refine va_copyl hx hb (hml.trans hl.1.symm) hown (hts _ (am_alink hf)) (hts _ (am_big_of am_acw2 rfl)) (hts _ (am_big_of am_acw1 rfl)) (hts _ (am_big_of am_acw3 rfl)) hK hP hD hS a b 3 3 hwa hwb rfl rfl rfl (am_nn rs h1) (am_nn rd h2) (am_nn rn h3) (by rw [am_clamp rs, am_clamp rn]; omega) (by rw [am_clamp rd, am_clamp rn]; omega) (fun _ _ => rfl) (by omega) (rest := []) hnl hd fun H1 locs1 hP1 hD1 hS1 => ?_
  rw [am_clamp rs, am_clamp rd, am_clamp rn, am_cpyL_eq h1 h2 h3, hset] at hP1 hD1
  exact k H1 locs1 ls ⟨hP1, hW.2.1, hD1, hM.ws2⟩ hS1 hl hv (fun _ h => by cases h)
theorem s_copyt (C : am_Cx p l e R s mm args below meth c cells slots Q E A y d P) {b i w : Nat} {sp dp n : Int} (hf : (i, w) ∈ am_act.getD (am_mi y).2.2.2.2 []) (hkb : (am_lay b).1 = 100) (h1 : 0 ≤ sp) (h2 : 0 ≤ dp) (h3 : 0 ≤ n) (h4 : sp + n ≤ 7) (h5 : dp + n ≤ (am_len b : Int)) (hd1 : 1 ≤ d) (hd : decode (am_mi y).2.1 pc = .ok (.invokestatic i, 3)) (k : am_at p l e R s mm args below meth c cells slots Q E A y (pc + 3) lv ([]) (am_ws1 m b (am_cpy (am_tab 902) (m.1 b) sp dp n))) : am_at p l e R s mm args below meth c cells slots Q E A y (pc) lv ([.inl n, .inl dp, .inr (.inr b), .inl sp, .inr (.inr 902)]) (m) := by
  obtain ⟨hx, hb, hml, hown, hts, hfr, hlo, hce, hsl, hRO, hK, hret⟩ := id C
  intro H locs ls hW hS hl hv hst
  obtain ⟨hP, -, hD, hM⟩ := id hW
  have hqb : b < am_N := am_lay_lt (by omega)
  have hwb := am_ws_get E m hqb
  rw [am_cell_int (by omega), hkb] at hwb
  have rn : am_R n := am_vh hst
  have rd : am_R dp := am_vh (am_vt hst)
  have rs : am_R sp := am_vh (am_vt (am_vt (am_vt hst)))
  have hset := am_ws_int (E := E) (m := m) (m2 := am_ws1 m b (am_cpy (am_tab 902) (m.1 b) sp dp n)) (q := b) (by omega) (am_ws11 m b _) (fun _ _ => rfl)
  have e2 : (am_ws1 m b (am_cpy (am_tab 902) (m.1 b) sp dp n)).1 b = am_cpy (am_tab 902) (m.1 b) sp dp n := by simp [am_ws1]
  rw [hkb, e2] at hset
  have hnl := am_hnl hd1 hlo
  have hml2 : c.maxLocals = ls.size := hml.trans hl.1.symm
  have nn : ∀ {z : Int}, am_R z → 0 ≤ z → (Int32.ofInt z).toInt = ((Int32.ofInt z).toNatClampNeg : Int) := fun {z} h h0 => by rw [am_to h, am_clamp h, am_toN h0]
  intro T hT X
  obtain ⟨scr, hs1, hs2, hs3, hs4, -, hs5, hs7⟩ := hRO.2.2.1.2
  have hc0 : H[am_ad E 902]? = some scr := by rw [hS.2.1 _ (Array.getElem?_eq_some_iff.mp hs1).1 hs7]; exact hs1
  have hc1 : H[am_ad E b]? = some (vp_cell (E.2.1 100) (am_len b, .inl fun j : Nat => Int32.ofInt (m.1 b (j : Int)))) := hP b _ hwb
  obtain ⟨hs6, k0, hk0, cm0, hkk0⟩ := hs2
  obtain ⟨-, k1, hk1, cm1, hkk1⟩ := (hK.2 0 (E.2.1 100, .int) rfl).1 (am_len b) (fun j => .int (Int32.ofInt (m.1 b (j : Int))))
  have i4 : (Int32.ofInt sp).toNatClampNeg + (Int32.ofInt n).toNatClampNeg ≤ 7 := by rw [am_clamp rs, am_clamp rn]; omega
  have i5 : (Int32.ofInt dp).toNatClampNeg + (Int32.ofInt n).toNatClampNeg ≤ am_len b := by rw [am_clamp rd, am_clamp rn]; omega
  obtain ⟨vm', X', step⟩ := X.arraycopy hx hown (hts _ (am_alink hf)) (hts _ (am_big_of am_acw2 rfl)) (hts _ (am_big_of am_acw1 rfl)) (hts _ (am_big_of am_acw3 rfl)) (src := am_ad E 902) (dst := am_ad E b) (cs := scr) (cd := vp_cell (E.2.1 100) (am_len b, .inl fun j : Nat => Int32.ofInt (m.1 b (j : Int)))) (srcPos := Int32.ofInt sp) (destPos := Int32.ofInt dp) (n := Int32.ofInt n) (by rw [hT]; exact hc0) (by rw [hT]; exact hc1)
    hs6 (fun _ h => by cases h) hs3 (fun h => by cases h) hk0 hk1 hkk0 hkk1 (by simp [refKind]) (am_nn rs h1) (am_nn rd h2) (am_nn rn h3)
    (by rw [nn rs h1, nn rn h3]; omega)
    (by rw [nn rd h2, nn rn h3]; show ¬ _ > ((arrV (E.2.1 100) (am_len b) (fun j => .int (Int32.ofInt (m.1 b (j : Int))))).slots.size : Int); rw [arrV_size]; omega)
    (fun vm₁ _ i hi => by
      have e : scr.slots.getD ((Int32.ofInt sp).toNatClampNeg + i) .null = .int (Int32.ofInt (am_tab 902 (((Int32.ofInt sp).toNatClampNeg + i : Nat) : Int))) := by
        rw [Array.getD_eq_getD_getElem?, hs5 _ (by omega)]
        rfl
      refine ⟨?_, ?_⟩
      · rw [e]
        rfl
      · rw [e]
        exact trivial)
    (g := F0 mm pc ls [.int (Int32.ofInt n), .int (Int32.ofInt dp), .ref (am_ad E b), .int (Int32.ofInt sp), .ref (am_ad E 902)]) rfl (by rw [hml2]) (rest := []) rfl (by rw [hb]; exact hd) (by omega) (by show 2 * 0 + _ + _ ≤ _; omega)
  have e1 : copied scr (vp_cell (E.2.1 100) (am_len b, .inl fun j : Nat => Int32.ofInt (m.1 b (j : Int)))) (Int32.ofInt sp) (Int32.ofInt dp) (Int32.ofInt n) = vp_cell (E.2.1 100) (am_len b, .inl (va_cpy (fun j : Nat => Int32.ofInt (am_tab 902 (j : Int))) (fun j : Nat => Int32.ofInt (m.1 b (j : Int))) (Int32.ofInt sp).toNatClampNeg (Int32.ofInt dp).toNatClampNeg (Int32.ofInt n).toNatClampNeg)) := va_copiedX (fun z => .int z) scr (E.2.1 100) (fun j : Nat => Int32.ofInt (am_tab 902 (j : Int))) (fun j : Nat => Int32.ofInt (m.1 b (j : Int))) hs5 i4
  rw [e1, am_clamp rs, am_clamp rd, am_clamp rn, am_cpy_eq h1 h2 h3] at X' step
  have hlb : am_ad E b < H.size := (Array.getElem?_eq_some_iff.mp hc1).1
  have oq : ∀ (x : Cell) (q : Nat), q ≠ am_ad E b → (H.setIfInBounds (am_ad E b) x)[q]? = H[q]? := fun x q hq => by simp [Array.getElem?_setIfInBounds, Ne.symm hq]
  have hAb : A (am_ad E b) := hD.2 b _ hwb
  have hP1 := hP.set hD hwb (e := .inl (E.2.1 100, am_len b, .inl fun j : Nat => Int32.ofInt (am_cpy (am_tab 902) (m.1 b) sp dp n (j : Int)))) (H1 := H.setIfInBounds (am_ad E b) (vp_cell (E.2.1 100) (am_len b, .inl fun j : Nat => Int32.ofInt (am_cpy (am_tab 902) (m.1 b) sp dp n (j : Int))))) (show (H.setIfInBounds (am_ad E b) _)[am_ad E b]? = some _ by simp [Array.getElem?_setIfInBounds, hlb]) (oq _)
  have hD1 := hD.set (e := .inl (E.2.1 100, am_len b, .inl fun j : Nat => Int32.ofInt (am_cpy (am_tab 902) (m.1 b) sp dp n (j : Int)))) hwb
  rw [hset] at hP1 hD1
  have hMR : am_MR (am_ws1 m b (am_cpy (am_tab 902) (m.1 b) sp dp n)) := hM.ws1 (fun j => by
    rw [am_rg0 (by have := am_N1000; omega) (by omega) (by omega)]
    unfold am_cpy
    split
    · have key : ∀ j : Nat, j < 7 → am_untT.getD j 0 ≤ 999999999 ∧ 0 ≤ am_untT.getD j 0 := by decide
      rename_i hj
      have := key (sp + (j - dp)).toNat (by omega)
      show am_R (am_untT.getD (sp + (j - dp)).toNat 0)
      unfold am_R
      omega
    · exact hM.R _ _)
  obtain ⟨t, a1, b1⟩ := k _ _ ls ⟨hP1, hW.2.1, hD1, hMR⟩ ⟨by simp; exact hS.1, fun q g1 g2 => by
      rw [oq _ q (fun e => g2 (by rw [e]; exact hAb))]
      exact hS.2.1 q g1 g2, fun q hq => by
      rcases List.mem_append.mp hq with h | h
      · exact hS.2.2 q h
      · obtain ⟨z, -, hz⟩ := List.mem_map.mp h
        rw [← hz]
        exact hAb⟩ hl hv (fun _ h => by cases h) _ (by rw [← hT]; rfl) X'
  exact ⟨t, step t a1, b1⟩
end
