theorem am_nst_warm {s U : State} (hW : s.WarmedH U.vm) {w : Cond} (hw : w ∈ am_nst) (h : va_Nw w s) : va_Nw w U := by
  have h1 := (List.mem_filter.mp hw).2
  cases w <;> first | exact va_Nw.warmF hW h | exact va_Nw.warmM hW h | cases h1
theorem am_nst_same {s U : State} (hv : s.vm = U.vm) {w : Cond} (hw : w ∈ am_nst) (h : va_Nw w s) : va_Nw w U := by
  have h1 := (List.mem_filter.mp hw).2
  cases w <;> first | exact va_Nw.same rfl hv h | cases h1
theorem am_RO.at {E : am_E} {A : Nat → Prop} {s U : State} {H : Heap} {locs : List Loc} (h : am_RO E A s) (hS : va_S A s.heap H locs) (hU : U.heap = H) (hW : s.WarmedH U.vm) : am_RO E A U := by
  obtain ⟨⟨a1, a2⟩, ⟨b1, b2⟩, ⟨c1, c2⟩, h4, h5, ⟨x1, x2, x3⟩, h7, h8⟩ := h
  have hq : ∀ a : Nat, a < s.heap.size → ¬ A a → U.heap[a]? = s.heap[a]? := by rw [hU]; exact hS.2.1
  have hal := hW.alike
  refine ⟨⟨(a1.kept hq).moved hal, (a2.kept hq).moved hal⟩, ⟨(b1.kept hq).moved hal, (b2.kept hq).moved hal⟩, ⟨(c1.kept hq).moved hal, (c2.kept hq).moved hal⟩, (h4.kept hq).moved hal, fun e he => (h5 e he).warm hW, ⟨(x1.kept (hq _ x2 x3)).moved hal, by rw [hU]; exact Nat.lt_of_lt_of_le x2 hS.1, x3⟩, fun w hw => am_nst_warm hW hw (h7 w hw), h8⟩
theorem am_RO.same {E : am_E} {A : Nat → Prop} {s U : State} (h : am_RO E A s) (hH : U.heap = s.heap) (hv : s.vm = U.vm) : am_RO E A U := by
  obtain ⟨⟨a1, a2⟩, ⟨b1, b2⟩, ⟨c1, c2⟩, h4, h5, ⟨x1, x2, x3⟩, h7, h8⟩ := h
  have hq : ∀ a : Nat, a < s.heap.size → ¬ A a → U.heap[a]? = s.heap[a]? := by rw [hH]; exact fun _ _ _ => rfl
  have hal : s.vm.Alike U.vm := by rw [hv]; exact Vm.Alike.refl _
  refine ⟨⟨(a1.kept hq).moved hal, (a2.kept hq).moved hal⟩, ⟨(b1.kept hq).moved hal, (b2.kept hq).moved hal⟩, ⟨(c1.kept hq).moved hal, (c2.kept hq).moved hal⟩, (h4.kept hq).moved hal, fun e he => (h5 e he).same hv.symm, ⟨(x1.kept (hq _ x2 x3)).moved hal, by rw [hH]; exact x2, x3⟩, fun w hw => am_nst_same hv hw (h7 w hw), h8⟩
theorem am_blind (E : am_E) (A : Nat → Prop) (as : List am_V) (m : am_M) : FrameBlind (am_Pc E A as m) := by
  intro a U g mk h
  obtain ⟨h1, h2, ⟨p1, p2, p3, p4⟩, h4⟩ := h
  exact ⟨h1, h2, ⟨p1, va_K.moved (u := U) (U := U.calling g mk a) (Vm.Alike.refl U.vm) p2, p3, p4⟩, h4.same rfl rfl⟩
theorem am_popn_spec : ∀ {n : Nat} {acc st as r : List am_V}, am_popn n acc st = some (as, r) → ∃ xs, st = xs ++ r ∧ as = xs.reverse ++ acc ∧ xs.length = n
  | 0, acc, st, as, r, h => by
    cases h
    exact ⟨[], rfl, rfl, rfl⟩
  | n + 1, acc, [], as, r, h => by cases h
  | n + 1, acc, v :: st, as, r, h => by
    obtain ⟨xs, h1, h2, h3⟩ := am_popn_spec (n := n) (acc := v :: acc) (st := st) h
    refine ⟨v :: xs, by rw [h1]; rfl, by rw [h2]; simp, by rw [List.length_cons, h3]⟩
theorem am_cat_sum (E : am_E) : ∀ (r : List am_V), ((r.map (am_cv E)).map fun v => v.category).sum = am_cat r
  | [] => rfl
  | v :: r => by
    rw [List.map_cons, List.map_cons, List.sum_cons, am_cat_sum E r, am_cat_cv]
    show _ = (match am_lng v with | true => 2 | false => 1) + am_cat r
    cases am_lng v <;> rfl
def am_mck (o : Nat) (e : Nat × Nat × Nat × Nat × Nat × Nat × Nat × Nat) : Bool :=
  let nm := (am_mi e.2.1).1
  let c := e.2.2.2.1
  let kd := e.2.2.1
  decide (lw_tbl[e.2.2.2.2.1]? = some (if kd = 0 ∨ kd = 2 then Cond.methodLink (am_cn.getD o "") e.1 nm else Cond.methodLinkNest (am_cn.getD o "") e.1 nm "TripleSieve"))
  && decide (lw_tbl[e.2.2.2.2.2.1]? = some (if kd < 2 then Cond.static nm else Cond.instanceMethod nm))
  && (decide (kd < 2) || decide (lw_tbl[e.2.2.2.2.2.2.1]? = some (Cond.selects nm.cls nm nm)))
  && decide (lw_tbl[e.2.2.2.2.2.2.2]? = some (Cond.initialized nm.cls))
  && decide (nm.cls ≠ "java/lang/invoke/MethodHandle") && decide (nm.cls ≠ "java/lang/invoke/VarHandle")
  && decide ((parseMethodDescriptor nm.desc).map (fun d => d.parameters.length) = some (if kd < 2 then c % 1000 / 10 else c % 1000 / 10 - 1))
  && decide (if kd < 2 then c / 1000 = 0 else 1 ≤ c % 1000 / 10 ∧ 1 ≤ c / 1000 ∧ ((c / 1000 = 17 ∧ nm.cls = "java/lang/String") ∨ (c / 1000 ≤ 13 ∧ (am_C (c / 1000 - 1)).1 = nm.cls)))
  && decide ((am_mi e.2.1).2.2.1 ≤ 45)
  && decide (e.2.1 < 200 ∧ e.2.1 ≠ 194)
  && decide (((am_mi e.2.1).2.2.2.1 = none ↔ c % 10 = 0))
theorem am_mt_ok0 : (am_mt.getD 0 []).all (am_mck 0) = true := by decide +kernel
theorem am_mt_ok1 : (am_mt.getD 1 []).all (am_mck 1) = true := by decide +kernel
theorem am_mt_ok2 : (am_mt.getD 2 []).all (am_mck 2) = true := by decide +kernel
theorem am_mt_ok3 : (am_mt.getD 3 []).all (am_mck 3) = true := by decide +kernel
theorem am_mt_ok4 : (am_mt.getD 4 []).all (am_mck 4) = true := by decide +kernel
theorem am_mt_ok5 : (am_mt.getD 5 []).all (am_mck 5) = true := by decide +kernel
theorem am_mt_ok6 : (am_mt.getD 6 []).all (am_mck 6) = true := by decide +kernel
theorem am_mt_ok7 : (am_mt.getD 7 []).all (am_mck 7) = true := by decide +kernel
theorem am_mt_ok8 : (am_mt.getD 8 []).all (am_mck 8) = true := by decide +kernel
theorem am_mt_ok9 : (am_mt.getD 9 []).all (am_mck 9) = true := by decide +kernel
theorem am_mt_ok10 : (am_mt.getD 10 []).all (am_mck 10) = true := by decide +kernel
theorem am_mt_ok11 : (am_mt.getD 11 []).all (am_mck 11) = true := by decide +kernel
theorem am_mt_ok12 : (am_mt.getD 12 []).all (am_mck 12) = true := by decide +kernel
theorem am_mt_ok13 : (am_mt.getD 13 []).all (am_mck 13) = true := by decide +kernel
theorem am_mt_ok14 : (am_mt.getD 14 []).all (am_mck 14) = true := by decide +kernel
theorem am_mt_ok15 : (am_mt.getD 15 []).all (am_mck 15) = true := by decide +kernel
theorem am_mt_ok16 : (am_mt.getD 16 []).all (am_mck 16) = true := by decide +kernel
theorem am_mt_ok : ∀ o, o < 17 → (am_mt.getD o []).all (am_mck o) = true := by
  intro o h
  match o, h with
  | 0, _ => exact am_mt_ok0
  | 1, _ => exact am_mt_ok1
  | 2, _ => exact am_mt_ok2
  | 3, _ => exact am_mt_ok3
  | 4, _ => exact am_mt_ok4
  | 5, _ => exact am_mt_ok5
  | 6, _ => exact am_mt_ok6
  | 7, _ => exact am_mt_ok7
  | 8, _ => exact am_mt_ok8
  | 9, _ => exact am_mt_ok9
  | 10, _ => exact am_mt_ok10
  | 11, _ => exact am_mt_ok11
  | 12, _ => exact am_mt_ok12
  | 13, _ => exact am_mt_ok13
  | 14, _ => exact am_mt_ok14
  | 15, _ => exact am_mt_ok15
  | 16, _ => exact am_mt_ok16
  | n + 17, h => exact absurd h (by omega)
theorem am_mt17 (o : Nat) (h : 17 ≤ o) : am_mt.getD o [] = [] := by
  rw [List.getD_eq_getElem?_getD, List.getElem?_eq_none (show am_mt.length ≤ o from h)]; rfl
theorem am_good (y : Nat) (h : Cond.code (am_mi y).1 (am_mi y).2.1 (am_mi y).2.2.1 (am_mi y).2.2.2.1 ∈ am_big) : GoodIn am_big (am_wds y) := by
  have key : ∀ w ∈ am_big, w ∈ am_big ∧ ((w.onTables && w.keeps) = true ∨ ∃ ty, w = .arrayClass ty) := fun w hw => ⟨hw, good_of_word (List.mem_filter.mp hw).2⟩
  intro w hw
  rcases List.mem_cons.mp hw with rfl | hw
  · exact key _ h
  · exact key w hw
section
variable {p : Program} {l : Launch} {e : Env} {R : Room} {s : State} {mm : MethodId} {args : Array Value} {below : List Frame} {meth : Method} {c : Code} {cells slots : Nat} {Q : State → Prop} {E : am_E} {A : Nat → Prop} {y d : Nat} {P : am_V → am_M → Prop}
  {pc : Nat} {lv : am_L} {r st : List am_V} {m : am_M}
theorem am_back {H : Heap} {locs : List Loc} {ls : Array Slot} {st0 rest : List Value} {y2 : Nat} {K : am_V → am_M → Prop} {av : Array Value} (hr : va_Run p l e R s mm args below meth c H locs cells slots 0 0 (F0 mm pc ls st0) rest (am_Qc E A y2 K av) A) (hS : va_S A s.heap H locs)
    (kk : ∀ (v : am_V) (m' : am_M) (H1 : Heap) (locs1 : List Loc), am_vok v → K v m' → va_P E.1 vwCl (am_ws E m') H1 → am_MR m' → va_S A s.heap H1 locs1 → W p l e R s mm args below meth c H1 locs1 cells slots Q (F0 mm (pc + 3) ls ((am_rc E y2 v).toList ++ rest))) : W p l e R s mm args below meth c H locs cells slots Q (F0 mm pc ls st0) := by
  intro T hT X
  obtain ⟨v, st₀, t, T', L, h0, X', hL, e1, e2, ⟨⟨u, m', hv, hok, hp, hP1, hM1⟩, hz, hk⟩, st⟩ := hr T hT X
  cases hv
  rw [h0] at hz hk
  obtain ⟨t2, a1, b1⟩ := kk u m' T'.heap (locs ++ L) hok hp (by rw [e1]; exact hP1) hM1
    ⟨Nat.le_trans hS.1 (by rw [e1]; exact hz), fun q h1 h2 => by rw [e1, hk q (Nat.lt_of_lt_of_le h1 hS.1) h2]; exact hS.2.1 q h1 h2, fun q hq => by
      rcases List.mem_append.mp hq with h | h
      · exact hS.2.2 q h
      · exact hL q h⟩ T' rfl X'
  exact ⟨t2, st t2 a1, b1⟩
theorem s_call (C : am_Cx p l e R s mm args below meth c cells slots Q E A y (d + 1) P) {i y2 kd cc w1 w2 w3 w4 : Nat} {as : List am_V} {K : am_V → am_M → Prop} {ig : Instr}
    (hf : (i, y2, kd, cc, w1, w2, w3, w4) ∈ am_mt.getD (am_mi y).2.2.2.2 []) (hig : (kd < 2 ∧ ig = .invokestatic i) ∨ (¬ kd < 2 ∧ ig = .invokevirtual i))
    (hpop : am_popn (cc % 1000 / 10) [] st = some (as, r)) (hcat : am_cat r ≤ 8)
    (hrc : cc / 1000 = 0 ∨ ∃ q as', as = .inr (.inr q) :: as' ∧ ((cc / 1000 = 17 ∧ 1000 ≤ q ∧ q < 1014) ∨ (cc / 1000 ≠ 17 ∧ (am_lay q).1 = cc / 1000 - 1)))
    (hOk : am_Ok d y2 as m K) (hd : decode (am_mi y).2.1 pc = .ok (ig, 3))
    (k : ∀ v m', K v m' → am_at p l e R s mm args below meth c cells slots Q E A y (pc + 3) lv (if cc % 10 = 0 then r else v :: r) m') : am_at p l e R s mm args below meth c cells slots Q E A y pc lv st m := by
  obtain ⟨hx, hb, hml, hown, hts, hfr, hlo, hce, hsl, hRO, hK, hret⟩ := id C
  intro H locs ls hW hS hl hv hst
  obtain ⟨hP, -, hD, hM⟩ := id hW
  obtain ⟨xs, e1, e2, e3⟩ := am_popn_spec hpop
  rw [List.append_nil] at e2
  have h1 := am_all17 (f := fun o => am_mt.getD o []) (List.all_eq_true.mpr fun o ho => am_mt_ok o (List.mem_range.mp ho)) am_mt17 hf
  simp only [am_mck, Bool.and_eq_true, decide_eq_true_eq, Bool.or_eq_true] at h1
  obtain ⟨⟨⟨⟨⟨⟨⟨⟨⟨⟨g1, g2⟩, g3⟩, g4⟩, g5⟩, g6⟩, g7⟩, g8⟩, g9⟩, g10⟩, g11⟩ := h1
  have hok : ∀ x ∈ as, am_vok x := fun x hx => hst x (by rw [e1]; rw [e2] at hx; exact List.mem_append_left _ (List.mem_reverse.mp hx))
  have hokr : ∀ x ∈ r, am_vok x := fun x hx => hst x (by rw [e1]; exact List.mem_append_right _ hx)
  have hcode : am_cwP y2 := am_cwA y2 g10
  have hgood := am_good y2 hcode
  have hini : (Cond.initialized (am_mi y2).1.cls).before args s = true := hts _ (am_big_of g4 rfl)
  have hR : (am_rm d).frames + 1 ≤ R.frames ∧ 8 + ((am_mi y2).2.2.1 + 11) + (am_rm d).locals ≤ R.locals := ⟨hfr, by show 8 + ((am_mi y2).2.2.1 + 11) + 64 * d ≤ R.locals; omega⟩
  have hfix : CallFix p mm c (am_mi y).2.1 (am_mi y).2.2.1 s args am_big (am_cn.getD (am_mi y).2.2.2.2 "") := ⟨hx, hb, hml, hown, hts⟩
  have hpre : ∀ U : State, U.heap = H → s.WarmedH U.vm → am_Pc E A as m (as.map (am_cv E)).toArray U := fun U hU hWm => ⟨rfl, hok, ⟨by rw [hU]; exact hP, va_K.moved hWm.alike hK, hD, hM⟩, hRO.at hS hU hWm⟩
  have hst0 : st.map (am_cv E) = (as.map (am_cv E)).reverse ++ r.map (am_cv E) := by rw [e1, e2, List.map_append, List.map_reverse, List.reverse_reverse]
  have hroom : (((r.map (am_cv E)).map fun v => v.category).sum) ≤ 8 := by rw [am_cat_sum]; exact hcat
  have hcell : cells + 0 ≤ R.cells ∧ slots + 0 ≤ R.slots := ⟨hce, hsl⟩
  have hM2 := hOk l E A
  have last : ∀ (v : am_V) (m' : am_M) (H1 : Heap) (locs1 : List Loc), am_vok v → K v m' → va_P E.1 vwCl (am_ws E m') H1 → am_MR m' → va_S A s.heap H1 locs1 → W p l e R s mm args below meth c H1 locs1 cells slots Q (F0 mm (pc + 3) ls ((am_rc E y2 v).toList ++ r.map (am_cv E))) := by
    intro v m' H1 locs1 hvv hKv hP1 hM1 hS1
    have k := k v m' hKv H1 locs1 ls ⟨hP1, hW.2.1, am_D_any hD, hM1⟩ hS1 hl hv
    unfold am_rc
    by_cases h0 : cc % 10 = 0
    · rw [if_pos h0] at k
      rw [if_pos (g11.mpr h0)]
      exact k hokr
    · rw [if_neg h0] at k
      rw [if_neg (fun h => h0 (g11.mp h))]
      exact k (am_vc hvv hokr)
  rcases hig with ⟨hkd, rfl⟩ | ⟨hkd, rfl⟩
  · rw [if_pos hkd] at g2 g7 g8
    have hlen : (as.map (am_cv E)).length = cc % 1000 / 10 := by rw [List.length_map, e2, List.length_reverse, e3]
    have hstat := hts _ (am_big_of g2 rfl)
    by_cases h0 : kd = 0
    · rw [if_pos (Or.inl h0)] at g1
      have cw := callB_of (R := R) (mc := 0) (ms := 0) (cc % 1000 / 10) hts hgood rfl rfl rfl hini (hts _ (am_big_of g1 rfl)) ⟨g5, g6, g7⟩ hR
      exact am_back (va_runS (As := as.map (am_cv E)) (rest := r.map (am_cv E)) hfix hM2 ⟨cw, hstat⟩ ⟨am_blind E A as m, hpre⟩ rfl hlen hl.1 hst0 (lv_room hroom) hd hcell) hS last
    · rw [if_neg (by omega)] at g1
      have hnw : va_Nw (.methodLinkNest (am_cn.getD (am_mi y).2.2.2.2 "") i (am_mi y2).1 "TripleSieve") s := hRO.2.2.2.2.2.2.1 _ (List.mem_filter.mpr ⟨List.mem_of_getElem? g1, rfl⟩)
      have cw := va_cnB (R := R) (mc := 0) (ms := 0) (cc % 1000 / 10) hts hgood rfl rfl rfl hnw hini ⟨g5, g6, g7⟩ hR
      exact am_back (va_runSN (As := as.map (am_cv E)) (rest := r.map (am_cv E)) hfix hM2 ⟨cw, hstat, trivial⟩ ⟨am_blind E A as m, hpre⟩ rfl hlen hl.1 hst0 (lv_room hroom) hd hcell) hS last
  · rw [if_neg hkd] at g2 g7 g8
    obtain ⟨q, as', rfl, hq⟩ := hrc.resolve_left (by have := g8.2.1; omega)
    have hlen : (as'.map (am_cv E)).length = cc % 1000 / 10 - 1 := by
      have h3 : (Sum.inr (Sum.inr q) :: as' : List am_V).length = cc % 1000 / 10 := by rw [e2, List.length_reverse, e3]
      rw [List.length_map]
      rw [List.length_cons] at h3
      omega
    have hinst := hts _ (am_big_of g2 rfl)
    have hsel := hts _ (am_big_of (g3.resolve_left hkd) rfl)
    have hrecv : ∃ cellB : Cell, H[am_ad E q]? = some cellB ∧ cellB.vm.isStatics = false ∧ s.vm.findClass (am_mi y2).1.cls = some cellB.cls := by
      obtain ⟨k1, k2, k3⟩ := g8
      rcases hq with ⟨q1, q2, q3⟩ | ⟨q1, q2⟩
      · rcases k3 with ⟨-, k4⟩ | ⟨k4, -⟩
        · have := vk_recv hRO.2.2.2.1.1 (i := q - 1000) (by omega) hS
          rw [k4]
          rw [show 1000 + (q - 1000) = q by omega] at this
          exact this
        · omega
      · rcases k3 with ⟨k4, -⟩ | ⟨k4, k5⟩
        · exact absurd k4 q1
        · have hk100 : (am_lay q).1 < 100 := by omega
          have hqN : q < am_N := am_lay_lt (by omega)
          have hws := am_ws_get E m hqN
          rw [am_cell_obj hk100] at hws
          have := va_recv hK hP (am_C_at (ci := (am_lay q).1) (by omega)) hws
          rw [← k5, ← q2]
          exact this
    have hst1 : st.map (am_cv E) = (as'.map (am_cv E)).reverse ++ .ref (am_ad E q) :: r.map (am_cv E) := by rw [hst0]; simp [am_cv]
    by_cases h0 : kd = 2
    · rw [if_pos (Or.inr h0)] at g1
      have cw := callB_of (R := R) (mc := 0) (ms := 0) (cc % 1000 / 10 - 1) hts hgood rfl rfl rfl hini (hts _ (am_big_of g1 rfl)) ⟨g5, g6, g7⟩ hR
      exact am_back (va_runV (As := as'.map (am_cv E)) (b := am_ad E q) (C := (am_mi y2).1.cls) (rest := r.map (am_cv E)) hfix hM2 ⟨cw, hinst, hsel⟩ ⟨am_blind E A _ m, hrecv, hpre⟩ rfl hlen hl.1 hst1 (lv_room hroom) hd hcell) hS last
    · rw [if_neg (by omega)] at g1
      have hnw : va_Nw (.methodLinkNest (am_cn.getD (am_mi y).2.2.2.2 "") i (am_mi y2).1 "TripleSieve") s := hRO.2.2.2.2.2.2.1 _ (List.mem_filter.mpr ⟨List.mem_of_getElem? g1, rfl⟩)
      have cw := va_cnB (R := R) (mc := 0) (ms := 0) (cc % 1000 / 10 - 1) hts hgood rfl rfl rfl hnw hini ⟨g5, g6, g7⟩ hR
      exact am_back (va_runVN (As := as'.map (am_cv E)) (b := am_ad E q) (C := (am_mi y2).1.cls) (rest := r.map (am_cv E)) hfix hM2 ⟨cw, hinst, hsel⟩ ⟨am_blind E A _ m, hrecv, hpre⟩ rfl hlen hl.1 hst1 (lv_room hroom) hd hcell) hS last
end
