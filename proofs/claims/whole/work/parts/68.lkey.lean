/-! TripleSieveLaw.key: it calls TripleSieve.key and catches what that throws -/
def yLk : MethodName := ⟨"TripleSieveLaw", "key", "(LTripleSieve;I[J)I"⟩
def wLk : List Cond := Cond.codeWith yLk method_3_code 4 (some .int) [(0, 8, 11, 13)] :: am_big
theorem wLk_big : Cond.codeWith yLk method_3_code 4 (some .int) [(0, 8, 11, 13)] ∈ am_big := am_big_of (i := 1049) (by decide +kernel) rfl
theorem dl_0 : decode method_3_code 0 = .ok (.aload_n 2, 1) := by decide +kernel
theorem dl_1 : decode method_3_code 1 = .ok (.iconst 0, 1) := by decide +kernel
theorem dl_2 : decode method_3_code 2 = .ok (.aload_n 0, 1) := by decide +kernel
theorem dl_3 : decode method_3_code 3 = .ok (.iload_n 1, 1) := by decide +kernel
theorem dl_4 : decode method_3_code 4 = .ok (.invokevirtual 7, 3) := by decide +kernel
theorem dl_7 : decode method_3_code 7 = .ok (.lastore, 1) := by decide +kernel
theorem dl_8 : decode method_3_code 8 = .ok (.goto 6, 3) := by decide +kernel
theorem dl_11 : decode method_3_code 11 = .ok (.astore_n 3, 1) := by decide +kernel
theorem dl_12 : decode method_3_code 12 = .ok (.iconst 1, 1) := by decide +kernel
theorem dl_13 : decode method_3_code 13 = .ok (.ireturn, 1) := by decide +kernel
theorem dl_14 : decode method_3_code 14 = .ok (.iconst 0, 1) := by decide +kernel
theorem dl_15 : decode method_3_code 15 = .ok (.ireturn, 1) := by decide +kernel
def lkQ (m : am_M) (n : Nat) (K : Nat → Int64) (z : Int) : Int32 → am_M → Prop := fun r m' => (¬ (0 ≤ z ∧ z < n) ∧ r = 1 ∧ m' = m) ∨ ((0 ≤ z ∧ z < n) ∧ r = 0 ∧ m' = am_wl m 87 0 (K z.toNat))
abbrev lkA (z : Int) : List am_V := [.inr (.inr 0), .inl z, .inr (.inr 87)]
set_option maxHeartbeats 1000000 in
theorem x_lkey (l : Launch) (hfl : l.stackTraces = false) (E : am_E) (A : Nat → Prop) (d : Nat) {m : am_M} {n : Nat} {K : Nat → Int64} {V S : Nat → Nat} {z : Int} (hG : GSt m n K V S) :
    Met l yLk wLk (kyR (d + 10)) (kyP E A (lkA z) m) (va_Qi (lkQ m n K z) (fun m' t => va_P E.1 vwCl (am_ws E m') t.heap) A) 1 6 A := by
  refine va_MetW (cc := method_3_code) (maxL := 4) (ret := some .int) (hh := [(0, 8, 11, 13)]) (by decide) rfl ?_
  intro p e s mm args below meth c s₁ B hml hv
  obtain ⟨⟨rfl, hok, hWd, hRO⟩, hXS⟩ := hv
  obtain ⟨hP, hK, hD, hMR⟩ := id hWd
  have hx := B.exec
  have hb := B.bytes
  have hr := B.returns
  have hts := atoms_spec (ws := wLk) B.pre
  have htb : ∀ w ∈ am_big, w.before ((lkA z).map (am_cv E)).toArray s = true := fun w hw => hts w (List.mem_cons_of_mem _ hw)
  have htab := vx_table (x := yLk) B (hts _ List.mem_cons_self)
  have hown : s.vm.findClass "TripleSieveLaw" = some mm.cls := findClass_of_methodNamed B.named
  have hlocks := B.notSynchronized
  have hl := lv_entry ((lkA z).map (am_cv E)) (n := 4) (by rw [am_lgsl]; exact (Nat.le_of_ble_eq_true rfl))
  rw [lg_entry_eq]
  generalize (lg_sl ((lkA z).map (am_cv E)) ++ List.replicate (4 - (lg_sl ((lkA z).map (am_cv E))).length) Slot.unset).toArray = ls at hl ⊢
  have hl : lv_has ls 4 [(0, .ref (am_ad E 0)), (1, .int (Int32.ofInt z)), (2, .ref (am_ad E 87))] := hl
  have hS : va_S A s.heap s.heap [] := va_S.rf
  refine lv_aload_n hx hb dl_0 rfl (lv_at hl 2 rfl) ?_
  refine lv_iconst (v := 0) hx hb dl_1 (by decide) ?_
  refine lv_aload_n hx hb dl_2 rfl (lv_at hl 0 rfl) ?_
  refine lv_iload_n hx hb dl_3 rfl (lv_at hl 1 rfl) ?_
  have hws := am_ws_get E m (q := 0) (by decide)
  rw [am_cell_obj (by decide)] at hws
  have hrecv := va_recv hK hP (am_C_at (ci := (am_lay 0).1) (by decide)) hws
  have hfix : CallFix p mm c method_3_code 4 s ((lkA z).map (am_cv E)).toArray am_big "TripleSieveLaw" := ⟨hx, hb, hml, hown, htb⟩
  have hok2 : ∀ x ∈ kyA z, am_vok x := fun x hx => by
    rcases List.mem_cons.mp hx with rfl | hx
    · exact trivial
    · rcases List.mem_cons.mp hx with rfl | hx
      · exact hok (.inl z) (by simp [lkA])
      · cases hx
  have hpre : ∀ U : State, U.heap = s.heap → s.WarmedH U.vm → kyP E A (kyA z) m ((kyA z).map (am_cv E)).toArray U := fun U hU hWm => ⟨⟨rfl, hok2, ⟨by rw [hU]; exact hP, va_K.moved hWm.alike hK, hD, hMR⟩, hRO.at hS hU hWm⟩, hXS.at hS hU hWm⟩
  have cw := callB_of (R := kyR (d + 10)) (s := s) (args := ((lkA z).map (am_cv E)).toArray) (own := "TripleSieveLaw") (index := 7) (rm := kyR (d + 8)) (mc := 1) (ms := 6) 1 htb (am_good 78 (am_big_of (i := 1054) (by decide +kernel) rfl)) rfl rfl rfl (htb _ (am_big_of (i := 108) (by decide +kernel) rfl)) (htb _ (am_big_of (i := 1051) (by decide +kernel) rfl)) (by decide +kernel) ⟨by show d + 8 + 1 ≤ d + 10; omega, by show 8 + (2 + 11) + 64 * (d + 8) ≤ 64 * (d + 10); omega⟩
  have hrun := vx_runV (g := F0 mm 4 ls [.int (Int32.ofInt z), .ref (am_ad E 0), .int 0, .ref (am_ad E 87)]) (locs := []) (cells := 0) (slots := 0) (below := below) (e := e) (meth := meth) (As := [.int (Int32.ofInt z)]) (b := am_ad E 0) (C := "TripleSieve") (rest := [.int 0, .ref (am_ad E 87)]) hfix (x_key l hfl E A d hG) ⟨cw, htb _ (am_big_of (i := 1052) (by decide +kernel) rfl), htb _ (am_big_of (i := 1053) (by decide +kernel) rfl)⟩ ⟨ky_blind E A _ m, hrecv, hpre⟩ rfl rfl hl.1 rfl (lv_room (show 1 + 1 ≤ 8 by decide)) dl_4 ⟨Nat.le_refl _, Nat.le_refl _⟩
  refine vx_calll hrun hS (fun q _ h => h) (fun q h => h) (fun q _ h => h) ?_ ?_
  · intro E1 ce q9 u t H1 locs1 ht hal hn hB hz hk hS1 hcell hcv hcl
    obtain ⟨rfl, hP1⟩ := hB
    refine vx_catch (own := "TripleSieveLaw") (name := nsE) hown [] ⟨0, 8, 11, 13⟩ [] (by rw [htab]; rfl) (fun z hz => by cases hz) (by decide) (by decide) (htb _ (am_big_of (i := 1050) (by decide +kernel) rfl)) (va_Nw.use rfl (hXS.2.2 _ (List.mem_cons_self))) hcell hcv hcl ?_
    refine lv_astore_n hx hb dl_11 rfl hl (by decide) rfl (fun ls hl => ?_)
    refine lv_iconst (v := 1) hx hb dl_12 (by decide) ?_
    exact W.iret hx hb hr (fun t2 ht2 _ => ⟨⟨1, m, rfl, Or.inl ⟨hn, rfl, rfl⟩, by show va_P E.1 vwCl _ t2.heap; rw [ht2, ← ht]; exact hP1⟩, hS1.F ht2⟩) hS1.2.2 dl_13
  · intro r u t H1 locs1 ht hal hp hB hz hk hS1
    obtain ⟨hp0, hp1, rfl⟩ := hp
    have hP1 : va_P E.1 vwCl (am_ws E m) H1 := by rw [← ht]; exact hB
    have hws := am_ws_get E m (q := 87) (by decide)
    rw [am_cell_lng (by decide)] at hws
    have hset := am_ws_lng (E := E) (m := m) (m2 := am_wl m 87 0 (K z.toNat)) (q := 87) (by decide) (fun _ _ => rfl) (am_wl2 m 87 0 (K z.toNat))
    refine va_last hx hb hK hP1 hD hS1 87 3 hws rfl (i := Int32.ofInt 0) (am_vin am_R0 (by decide) (by decide)) dl_7 fun H2 locs2 hP2 hD2 hS2 => ?_
    rw [am_clamp am_R0, am_updL_eq (by decide), hset] at hP2
    refine lv_goto hx hb dl_8 rfl (tgt := 14) ?_
    refine lv_iconst (v := 0) hx hb dl_14 (by decide) ?_
    exact W.iret hx hb hr (fun t2 ht2 _ => ⟨⟨0, am_wl m 87 0 (K z.toNat), rfl, Or.inr ⟨⟨hp0, hp1⟩, rfl, rfl⟩, by show va_P E.1 vwCl _ t2.heap; rw [ht2]; exact hP2⟩, hS2.F ht2⟩) hS2.2.2 dl_15
