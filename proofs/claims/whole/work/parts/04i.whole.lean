section
variable {p : Program} {l : Launch} {e : Env} {R : Room} {s : State} {mm : MethodId} {args : Array Value} {below : List Frame} {meth : Method} {c : Code} {cells slots : Nat} {Q : State → Prop} {E : am_E} {A : Nat → Prop} {y d : Nat} {P : am_V → am_M → Prop}
theorem am_sound (C : am_Cx p l e R s mm args below meth c cells slots Q E A y (d + 1) P) {b : Bool} (hbb : b = am_bool y) {bl : List (Nat × List am_I)} {ct : List (Nat × List Nat)}
    (hbl : ∀ t is, am_lk bl t = some is → am_chkL (am_mi y).2.2.2.1 (am_mi y).2.2.2.2 (am_mi y).2.2.1 (am_mi y).2.1 is = true ∧ ∀ x r, is = x :: r → x.1 = t)
    {G : Nat → am_K} (hG : ∀ t lv st m, G t lv st m → am_at p l e R s mm args below meth c cells slots Q E A y t lv st m) :
    ∀ (f : Nat) (is : List am_I) (lv : am_L) (st : List am_V) (m : am_M), am_chkL (am_mi y).2.2.2.1 (am_mi y).2.2.2.2 (am_mi y).2.2.1 (am_mi y).2.1 is = true → am_run (am_sc E) (am_Ok d) b P G bl ct f is lv st m → ∃ x r, is = x :: r ∧ am_at p l e R s mm args below meth c cells slots Q E A y x.1 lv st m
  | 0, is, lv, st, m, _, h => by
    unfold am_run at h
    exact h.elim
  | f + 1, [], lv, st, m, _, h => by
    unfold am_run at h
    exact h.elim
  | f + 1, x :: r, lv, st, m, hc, h => by
    refine ⟨x, r, rfl, ?_⟩
    unfold am_run at h
    unfold am_chkL at hc
    simp only [Bool.and_eq_true] at hc
    obtain ⟨⟨h1, h2⟩, h3⟩ := hc
    have hLs : am_R (am_sc E).1 := by
      obtain ⟨hx, hb, hml, hown, hts, hfr, hlo, hce, hsl, hRO, hK, hret⟩ := C
      have := hRO.2.2.2.2.2.2.2.2
      show am_R (E.2.2.2.1.1 : Int)
      exact ⟨by omega, by omega⟩
    refine am_stepS C hLs h1 hbb (fun lv st m hk => ?_) (fun t lv st m hj => ?_) h
    · obtain ⟨x2, r2, e1, e2⟩ := am_sound C hbb hbl hG f r lv st m h3 hk
      subst e1
      have := am_beq.mp h2
      rw [this] at e2
      exact e2
    · split at hj
      · split at hj
        · rename_i lv2 hp
          exact am_at_sub (am_pick_mem hp) (hG _ _ _ _ hj)
        · exact hj.elim
      · split at hj
        · rename_i is2 hl
          obtain ⟨g1, g2⟩ := hbl _ _ hl
          obtain ⟨x2, r2, e1, e2⟩ := am_sound C hbb hbl hG f is2 lv st m g1 hj
          rw [g2 x2 r2 e1] at e2
          exact e2
        · exact hj.elim
end
theorem am_chk_spec {y : Nat} {bl : List (Nat × List am_I)} {ct : List (Nat × List Nat)} {b : Bool} (h : am_chk y bl ct b = true) : plainName (am_mi y).1.cls = true ∧ am_cn.getD (am_mi y).2.2.2.2 "" = (am_mi y).1.cls ∧ b = am_bool y ∧ ∀ t is, am_lk bl t = some is → am_chkL (am_mi y).2.2.2.1 (am_mi y).2.2.2.2 (am_mi y).2.2.1 (am_mi y).2.1 is = true ∧ ∃ x r, is = x :: r ∧ x.1 = t := by
  unfold am_chk at h
  simp only [Bool.and_eq_true, decide_eq_true_eq, List.all_eq_true] at h
  obtain ⟨⟨⟨h1, h2⟩, h3⟩, h4⟩ := h
  refine ⟨h1, h2, ?_, fun t is hl => ?_⟩
  · cases hb : am_bool y <;> cases b <;> simp [hb] at h3 ⊢
  · obtain ⟨g1, g2⟩ := h4 _ (am_lk_mem hl)
    refine ⟨g1, ?_⟩
    cases is with
    | nil => cases g2
    | cons x r => exact ⟨x, r, rfl, am_beq.mp g2⟩
section
variable {d y : Nat} {bl : List (Nat × List am_I)} {ct : List (Nat × List Nat)} {b : Bool} {L : Nat} {is : List am_I} {lv : am_L} {m : am_M} {as : List am_V}
theorem am_cut {P : am_V → am_M → Prop} (hc : am_chk y bl ct b = true) (hl : am_lk bl L = some is) (h : ∀ S, am_run S (am_Ok d) b P (am_G (d + 1) y P) bl ct 2000 is lv [] m) : am_G (d + 1) y P L lv [] m := by
  obtain ⟨-, -, h3, h4⟩ := am_chk_spec hc
  intro p l e R s mm args below meth c cells slots Q E A C
  obtain ⟨x, r, e1, e2⟩ := am_sound C h3 (bl := bl) (ct := ct) (fun t is hl => ⟨(h4 t is hl).1, fun x r e => by
    obtain ⟨x2, r2, e2, e3⟩ := (h4 t is hl).2
    rw [e] at e2
    cases e2
    exact e3⟩) (G := am_G (d + 1) y P) (fun t lv st m hg => hg _ _ _ _ _ _ _ _ _ _ _ _ _ _ _ C) 2000 is lv [] m (h4 L is hl).1 (h (am_sc E))
  obtain ⟨x2, r2, e3, e4⟩ := (h4 L is hl).2
  rw [e3] at e1
  cases e1
  rw [e4] at e2
  exact e2
def am_args : Nat → List am_V → am_L
  | _, [] => []
  | k, v :: r => (k, v) :: am_args (match am_lng v with | true => k + 2 | false => k + 1) r
theorem am_args_cv (E : am_E) : ∀ (as : List am_V) (k : Nat), lv_args k (as.map (am_cv E)) = (am_args k as).map fun q => (q.1, am_cv E q.2)
  | [], _ => rfl
  | v :: r, k => by
    rw [List.map_cons, lv_args, am_args, List.map_cons, ← am_args_cv E r]
    congr 2
    rw [am_cat_cv]
    cases am_lng v <;> rfl
theorem am_args_mem : ∀ {as : List am_V} {k : Nat} {q : Nat × am_V}, q ∈ am_args k as → q.2 ∈ as
  | [], _, _, h => by cases h
  | v :: r, k, q, h => by
    rcases List.mem_cons.mp h with rfl | h
    · exact List.mem_cons_self
    · exact List.mem_cons_of_mem _ (am_args_mem h)
theorem am_lgsl (E : am_E) : ∀ (as : List am_V), (lg_sl (as.map (am_cv E))).length = am_cat as
  | [] => rfl
  | v :: r => by
    have ih := am_lgsl E r
    unfold lg_sl at ih ⊢
    rw [List.map_cons, List.flatMap_cons, List.length_append, ih]
    show _ = (match am_lng v with | true => 2 | false => 1) + am_cat r
    congr 1
    rw [am_cat_cv]
    cases am_lng v <;> rfl
set_option maxHeartbeats 1000000 in
theorem am_ent {P : am_V → am_M → Prop} (hc : am_chk y bl ct b = true) (hw : Nat.ble (am_cat as) (am_mi y).2.2.1 = true) (h : ∀ S, am_run S (am_Ok d) b P (am_G (d + 1) y P) bl ct 2000 [(0, .nop, 0, .goto_w 0)] (am_args 0 as) [] m) : am_Ok (d + 1) y as m P := by
  obtain ⟨h1, h2, h3, h4⟩ := am_chk_spec hc
  intro l E A
  refine Met.ofW (cc := (am_mi y).2.1) (maxL := (am_mi y).2.2.1) (ret := (am_mi y).2.2.2.1) h1 rfl ?_
  intro p e s mm args below meth c s₁ B hml hv
  obtain ⟨rfl, hok, hWd, hRO⟩ := hv
  have hx := B.exec
  have hb := B.bytes
  have hr := B.returns
  have hts := atoms_spec (ws := am_wds y) B.pre
  have hown : s.vm.findClass (am_mi y).1.cls = some mm.cls := findClass_of_methodNamed B.named
  have hlocks := B.notSynchronized
  have hl := lv_entry (as.map (am_cv E)) (n := (am_mi y).2.2.1) (by rw [am_lgsl]; exact am_ble.mp hw)
  rw [lg_entry_eq]
  generalize (lg_sl (as.map (am_cv E)) ++ List.replicate ((am_mi y).2.2.1 - (lg_sl (as.map (am_cv E))).length) Slot.unset).toArray = ls at hl ⊢
  rw [am_args_cv] at hl
  have C : am_Cx p l e (headSpec (am_wds y) (am_rm (d + 1))).room s mm (as.map (am_cv E)).toArray below meth c 0 0 (MQ below (am_Qc E A y P) (as.map (am_cv E)).toArray s 0 0 A) E A y (d + 1) P := by
    refine ⟨hx, hb, hml, by rw [h2]; exact hown, fun w hw => hts w (List.mem_cons_of_mem _ hw), Nat.le_refl _, Nat.le_refl _, Nat.le_refl _, Nat.le_refl _, hRO, hWd.2.1, ?_⟩
    intro i pc ls H locs m' v hd hrt hi hvok hbz hp hW hS
    have hq : ∀ t : State, t.heap = H → am_Qc E A y P (as.map (am_cv E)).toArray s (.returned (am_rc E y v)) t := fun t ht => ⟨⟨v, m', rfl, hvok, hp, by rw [ht]; exact hW.1, hW.2.2.2⟩, hS.F ht⟩
    have hf : ∀ q ∈ locs, A q.base := hS.2.2
    unfold am_rtk at hrt
    unfold am_isRet at hi
    split at hrt
    · rename_i hrt2
      rcases v with z | z | z
      · have hq2 : ∀ t : State, t.heap = H → s.WarmedH t.vm → am_Qc E A y P (as.map (am_cv E)).toArray s (.returned (some (.int (Int32.ofInt z)))) t := fun t ht _ => by
          have := hq t ht
          unfold am_rc at this
          rw [hrt2] at this
          exact this
        exact W.iret hx hb (by rw [hr, hrt2]) hq2 hf hd
      · exact hi.elim
      · exact hi.elim
    · rename_i hrt2
      rcases v with z | z | z
      · have hq2 : ∀ t : State, t.heap = H → s.WarmedH t.vm → am_Qc E A y P (as.map (am_cv E)).toArray s (.returned (some (.int (Int32.ofInt z)))) t := fun t ht _ => by
          have := hq t ht
          unfold am_rc at this
          rw [hrt2] at this
          exact this
        exact W.zret hx hb (ty := .boolean) (by rw [hr, hrt2]) (am_nb z (hbz (by unfold am_bool; rw [hrt2]) z rfl)).1 hq2 hf hd
      · exact hi.elim
      · exact hi.elim
    · rename_i hrt2
      rcases v with z | z | z
      · exact hi.elim
      · have hq2 : ∀ t : State, t.heap = H → s.WarmedH t.vm → am_Qc E A y P (as.map (am_cv E)).toArray s (.returned (some (.long z))) t := fun t ht _ => by
          have := hq t ht
          unfold am_rc at this
          rw [hrt2] at this
          exact this
        exact W.lret hx hb (by rw [hr, hrt2]) hq2 hf hd
      · exact hi.elim
    · rename_i n hrt2
      rcases v with z | z | z
      · exact hi.elim
      · exact hi.elim
      · have hq2 : ∀ t : State, t.heap = H → s.WarmedH t.vm → am_Qc E A y P (as.map (am_cv E)).toArray s (.returned (some (.ref (am_ad E z)))) t := fun t ht _ => by
          have := hq t ht
          unfold am_rc at this
          rw [hrt2] at this
          exact this
        exact W.aret hx hb (rt := .object n) (by rw [hr, hrt2]) (Or.inl ⟨_, rfl⟩) (Or.inr ⟨_, rfl⟩) hq2 hf hd
    · rename_i hrt2
      have hq2 : ∀ t : State, t.heap = H → s.WarmedH t.vm → am_Qc E A y P (as.map (am_cv E)).toArray s (.returned none) t := fun t ht _ => by
          have := hq t ht
          unfold am_rc at this
          rw [hrt2] at this
          exact this
      exact W.vret hx hb (by rw [hr, hrt2]) hq2 hf hd
    · cases hrt
  obtain ⟨x, r, e1, e2⟩ := am_sound C h3 (bl := bl) (ct := ct) (fun t is hl => ⟨(h4 t is hl).1, fun x r e => by
    obtain ⟨x2, r2, e2, e3⟩ := (h4 t is hl).2
    rw [e] at e2
    cases e2
    exact e3⟩) (G := am_G (d + 1) y P) (fun t lv st m hg => hg _ _ _ _ _ _ _ _ _ _ _ _ _ _ _ C) 2000 [(0, .nop, 0, .goto_w 0)] (am_args 0 as) [] m rfl (h (am_sc E))
  cases e1
  exact e2 s.heap [] ls hWd va_S.rf hl (fun q hq => hok _ (am_args_mem hq)) (fun v hv => by cases hv)
theorem am_c0 {P : am_M → Prop} (hc : am_chk y bl ct b = true) (hl : am_lk bl L = some is) (h : ∀ S, am_run S (am_Ok d) b (fun _ m' => P m') (am_G (d + 1) y (fun _ m' => P m')) bl ct 2000 is lv [] m) : am_GV (d + 1) y P L lv [] m := am_cut hc hl h
theorem am_c1 {P : Int → am_M → Prop} (hc : am_chk y bl ct b = true) (hl : am_lk bl L = some is) (h : ∀ S, am_run S (am_Ok d) b (fun v m' => am_vi v fun z => P z m') (am_G (d + 1) y (fun v m' => am_vi v fun z => P z m')) bl ct 2000 is lv [] m) : am_GI (d + 1) y P L lv [] m := am_cut hc hl h
theorem am_c2 {P : Int64 → am_M → Prop} (hc : am_chk y bl ct b = true) (hl : am_lk bl L = some is) (h : ∀ S, am_run S (am_Ok d) b (fun v m' => am_vl v fun z => P z m') (am_G (d + 1) y (fun v m' => am_vl v fun z => P z m')) bl ct 2000 is lv [] m) : am_GL (d + 1) y P L lv [] m := am_cut hc hl h
theorem am_c3 {P : Nat → am_M → Prop} (hc : am_chk y bl ct b = true) (hl : am_lk bl L = some is) (h : ∀ S, am_run S (am_Ok d) b (fun v m' => am_vr v fun z => P z m') (am_G (d + 1) y (fun v m' => am_vr v fun z => P z m')) bl ct 2000 is lv [] m) : am_GR (d + 1) y P L lv [] m := am_cut hc hl h
theorem am_e0 {P : am_M → Prop} (hc : am_chk y bl ct b = true) (hw : Nat.ble (am_cat as) (am_mi y).2.2.1 = true) (h : ∀ S, am_run S (am_Ok d) b (fun _ m' => P m') (am_G (d + 1) y (fun _ m' => P m')) bl ct 2000 [(0, .nop, 0, .goto_w 0)] (am_args 0 as) [] m) : am_OkV (d + 1) y as m P := am_ent hc hw h
theorem am_e1 {P : Int → am_M → Prop} (hc : am_chk y bl ct b = true) (hw : Nat.ble (am_cat as) (am_mi y).2.2.1 = true) (h : ∀ S, am_run S (am_Ok d) b (fun v m' => am_vi v fun z => P z m') (am_G (d + 1) y (fun v m' => am_vi v fun z => P z m')) bl ct 2000 [(0, .nop, 0, .goto_w 0)] (am_args 0 as) [] m) : am_OkI (d + 1) y as m P := am_ent hc hw h
theorem am_e2 {P : Int64 → am_M → Prop} (hc : am_chk y bl ct b = true) (hw : Nat.ble (am_cat as) (am_mi y).2.2.1 = true) (h : ∀ S, am_run S (am_Ok d) b (fun v m' => am_vl v fun z => P z m') (am_G (d + 1) y (fun v m' => am_vl v fun z => P z m')) bl ct 2000 [(0, .nop, 0, .goto_w 0)] (am_args 0 as) [] m) : am_OkL (d + 1) y as m P := am_ent hc hw h
theorem am_e3 {P : Nat → am_M → Prop} (hc : am_chk y bl ct b = true) (hw : Nat.ble (am_cat as) (am_mi y).2.2.1 = true) (h : ∀ S, am_run S (am_Ok d) b (fun v m' => am_vr v fun z => P z m') (am_G (d + 1) y (fun v m' => am_vr v fun z => P z m')) bl ct 2000 [(0, .nop, 0, .goto_w 0)] (am_args 0 as) [] m) : am_OkR (d + 1) y as m P := am_ent hc hw h
end
