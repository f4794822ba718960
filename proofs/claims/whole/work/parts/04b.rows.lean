section
variable {p : Program} {l : Launch} {e : Env} {R : Room} {s : State} {mm : MethodId} {args : Array Value} {below : List Frame} {meth : Method} {c : Code} {cells slots : Nat} {Q : State → Prop} {E : am_E} {A : Nat → Prop} {y d : Nat} {P : am_V → am_M → Prop}
  {pc : Nat} {lv : am_L} {r st : List am_V} {m : am_M}
theorem am_lvget : ∀ {lv : am_L} {k : Nat} {v : am_V}, am_get lv k = some v → (k, v) ∈ lv
  | [], _, _, h => by cases h
  | (j, w) :: r, k, v, h => by
    unfold am_get at h
    cases hb : Nat.beq j k with
    | true =>
      rw [hb] at h
      cases h
      have := Nat.eq_of_beq_eq_true hb
      subst this
      exact List.mem_cons_self
    | false =>
      rw [hb] at h
      exact List.mem_cons_of_mem _ (am_lvget h)
theorem am_lvat {ls : Array Slot} {n k : Nat} {v : am_V} (hl : lv_has ls n (lv.map fun q => (q.1, am_cv E q.2))) (h : am_get lv k = some v) : ls[k]? = some (.val (am_cv E v)) :=
  hl.2.2 (k, am_cv E v) (List.mem_map.mpr ⟨(k, v), am_lvget h, rfl⟩)
theorem am_mem_ins {k : Nat} {v : am_V} : ∀ {lv : am_L} {x : Nat × am_V}, x ∈ am_ins k v lv → x = (k, v) ∨ x ∈ lv
  | [], x, h => by
    unfold am_ins at h
    exact Or.inl (List.mem_singleton.mp h)
  | (j, w) :: r, x, h => by
    unfold am_ins at h
    split at h
    · rcases List.mem_cons.mp h with h | h
      · exact Or.inl h
      · exact Or.inr h
    · rcases List.mem_cons.mp h with h | h
      · exact Or.inr (h ▸ List.mem_cons_self)
      · rcases am_mem_ins h with h | h
        · exact Or.inl h
        · exact Or.inr (List.mem_cons_of_mem _ h)
theorem am_mem_del {i : Nat} : ∀ {lv : am_L} {x : Nat × am_V}, x ∈ am_del lv i → x ∈ lv ∧ x.1 ≠ i ∧ ¬ (x.1 + 1 = i ∧ am_lng x.2 = true)
  | [], x, h => by unfold am_del at h; cases h
  | (j, w) :: r, x, h => by
    unfold am_del at h
    split at h
    · have := am_mem_del h
      exact ⟨List.mem_cons_of_mem _ this.1, this.2⟩
    · rename_i hb
      rcases List.mem_cons.mp h with h | h
      · subst h
        simp only [Bool.or_eq_false_iff, Bool.and_eq_false_iff] at hb
        refine ⟨List.mem_cons_self, fun hh => ?_, fun hh => ?_⟩
        · have := Nat.ne_of_beq_eq_false hb.1
          exact this hh
        · rcases hb.2 with h2 | h2
          · exact Nat.ne_of_beq_eq_false h2 hh.1
          · rw [hh.2] at h2
            cases h2
      · have := am_mem_del h
        exact ⟨List.mem_cons_of_mem _ this.1, this.2⟩
theorem am_cat_cv (v : am_V) : (am_cv E v).category = if am_lng v = true then 2 else 1 := by
  rcases v with z | z | z <;> rfl
/-- the locals behind a store -/
theorem am_lvset1 {ls : Array Slot} {n k : Nat} {v : am_V} (hv : am_lng v = false) (h : lv_has ls n ((k, am_cv E v) :: (lv.map fun q => (q.1, am_cv E q.2)).filter (fun q => !(q.1 == k) && !(q.1 + 1 == k && q.2.category == 2)))) : lv_has ls n ((am_set lv k v).map fun q => (q.1, am_cv E q.2)) := by
  refine ⟨h.1, h.2.1, fun q hq => ?_⟩
  obtain ⟨x, hx, rfl⟩ := List.mem_map.mp hq
  unfold am_set at hx
  rw [hv] at hx
  rcases am_mem_ins hx with rfl | hx
  · exact h.2.2 _ List.mem_cons_self
  · obtain ⟨h1, h2, h3⟩ := am_mem_del hx
    refine h.2.2 _ (List.mem_cons_of_mem _ (List.mem_filter.mpr ⟨List.mem_map.mpr ⟨x, h1, rfl⟩, ?_⟩))
    have h5 : (am_cv E x.2).category = if am_lng x.2 = true then 2 else 1 := am_cat_cv x.2
    simp only [Bool.and_eq_true, Bool.not_eq_true', beq_eq_false_iff_ne, ne_eq, Bool.and_eq_false_iff]
    refine ⟨h2, ?_⟩
    by_cases h4 : x.1 + 1 = k
    · right
      rw [h5, if_neg (fun hh => h3 ⟨h4, hh⟩)]
      decide
    · exact Or.inl h4
theorem am_lvset2 {ls : Array Slot} {n k : Nat} {v : am_V} (hv : am_lng v = true) (h : lv_has ls n ((k, am_cv E v) :: (lv.map fun q => (q.1, am_cv E q.2)).filter (fun q => !(q.1 == k) && (!(q.1 == k + 1) && !(q.1 + 1 == k && q.2.category == 2))))) : lv_has ls n ((am_set lv k v).map fun q => (q.1, am_cv E q.2)) := by
  refine ⟨h.1, h.2.1, fun q hq => ?_⟩
  obtain ⟨x, hx, rfl⟩ := List.mem_map.mp hq
  unfold am_set at hx
  rw [hv] at hx
  rcases am_mem_ins hx with rfl | hx
  · exact h.2.2 _ List.mem_cons_self
  · obtain ⟨h1, h2, h3⟩ := am_mem_del hx
    obtain ⟨h1, h2', -⟩ := am_mem_del h1
    refine h.2.2 _ (List.mem_cons_of_mem _ (List.mem_filter.mpr ⟨List.mem_map.mpr ⟨x, h1, rfl⟩, ?_⟩))
    have h5 : (am_cv E x.2).category = if am_lng x.2 = true then 2 else 1 := am_cat_cv x.2
    simp only [Bool.and_eq_true, Bool.not_eq_true', beq_eq_false_iff_ne, ne_eq, Bool.and_eq_false_iff]
    refine ⟨h2, h2', ?_⟩
    by_cases h4 : x.1 + 1 = k
    · right
      rw [h5, if_neg (fun hh => h3 ⟨h4, hh⟩)]
      decide
    · exact Or.inl h4
theorem am_vok_set {k : Nat} {v : am_V} (h : ∀ q ∈ lv, am_vok q.2) (hv : am_vok v) : ∀ q ∈ am_set lv k v, am_vok q.2 := by
  intro q hq
  unfold am_set at hq
  split at hq
  · rcases am_mem_ins hq with rfl | hq
    · exact hv
    · exact h q (am_mem_del (am_mem_del hq).1).1
  · rcases am_mem_ins hq with rfl | hq
    · exact hv
    · exact h q (am_mem_del hq).1
theorem am_vc {v : am_V} {st : List am_V} (hv : am_vok v) (h : ∀ v ∈ st, am_vok v) : ∀ x ∈ v :: st, am_vok x := fun x hx => by
  rcases List.mem_cons.mp hx with rfl | hx
  · exact hv
  · exact h x hx
theorem am_vt {v : am_V} {st : List am_V} (h : ∀ x ∈ v :: st, am_vok x) : ∀ x ∈ st, am_vok x := fun x hx => h x (List.mem_cons_of_mem _ hx)
theorem am_vh {v : am_V} {st : List am_V} (h : ∀ x ∈ v :: st, am_vok x) : am_vok v := h v List.mem_cons_self
theorem s_iconst (C : am_Cx p l e R s mm args below meth c cells slots Q E A y d P) {n : Int} {z : Int} (hz : Int32.ofInt n = Int32.ofInt z) (hr : am_R z) (hd : decode (am_mi y).2.1 pc = .ok (.iconst n, 1)) (k : am_at p l e R s mm args below meth c cells slots Q E A y (pc + 1) lv (.inl z :: st) m) : am_at p l e R s mm args below meth c cells slots Q E A y (pc) lv (st) m := by
  obtain ⟨hx, hb, hml, hown, hts, hfr, hlo, hce, hsl, hRO, hK, hret⟩ := id C
  intro H locs ls hW hS hl hv hst
  exact lv_iconst hx hb hd hz (k H locs ls hW hS hl hv (am_vc hr hst))
theorem s_bipush (C : am_Cx p l e R s mm args below meth c cells slots Q E A y d P) {n : Int} {z : Int} (hz : (Int8.ofInt n).toInt32 = Int32.ofInt z) (hr : am_R z) (hd : decode (am_mi y).2.1 pc = .ok (.bipush n, 2)) (k : am_at p l e R s mm args below meth c cells slots Q E A y (pc + 2) lv (.inl z :: st) m) : am_at p l e R s mm args below meth c cells slots Q E A y (pc) lv (st) m := by
  obtain ⟨hx, hb, hml, hown, hts, hfr, hlo, hce, hsl, hRO, hK, hret⟩ := id C
  intro H locs ls hW hS hl hv hst
  exact lv_bipush hx hb hd hz (k H locs ls hW hS hl hv (am_vc hr hst))
theorem s_sipush (C : am_Cx p l e R s mm args below meth c cells slots Q E A y d P) {n : Int} {z : Int} (hz : (Int16.ofInt n).toInt32 = Int32.ofInt z) (hr : am_R z) (hd : decode (am_mi y).2.1 pc = .ok (.sipush n, 3)) (k : am_at p l e R s mm args below meth c cells slots Q E A y (pc + 3) lv (.inl z :: st) m) : am_at p l e R s mm args below meth c cells slots Q E A y (pc) lv (st) m := by
  obtain ⟨hx, hb, hml, hown, hts, hfr, hlo, hce, hsl, hRO, hK, hret⟩ := id C
  intro H locs ls hW hS hl hv hst
  exact lv_sipush hx hb hd hz (k H locs ls hW hS hl hv (am_vc hr hst))
theorem s_ldc (C : am_Cx p l e R s mm args below meth c cells slots Q E A y d P) {i : Nat} {z : Int} (hc : Cond.constant (am_cn.getD (am_mi y).2.2.2.2 "") i (Int32.ofInt z) ∈ am_big) (hr : am_R z) (hd : decode (am_mi y).2.1 pc = .ok (.ldc i, 2)) (k : am_at p l e R s mm args below meth c cells slots Q E A y (pc + 2) lv (.inl z :: st) m) : am_at p l e R s mm args below meth c cells slots Q E A y (pc) lv (st) m := by
  obtain ⟨hx, hb, hml, hown, hts, hfr, hlo, hce, hsl, hRO, hK, hret⟩ := id C
  intro H locs ls hW hS hl hv hst
  exact lv_ldc hx hb hown (hts _ hc) hd (k H locs ls hW hS hl hv (am_vc hr hst))
theorem s_ldcw (C : am_Cx p l e R s mm args below meth c cells slots Q E A y d P) {i : Nat} {z : Int} (hc : Cond.constant (am_cn.getD (am_mi y).2.2.2.2 "") i (Int32.ofInt z) ∈ am_big) (hr : am_R z) (hd : decode (am_mi y).2.1 pc = .ok (.ldc_w i, 3)) (k : am_at p l e R s mm args below meth c cells slots Q E A y (pc + 3) lv (.inl z :: st) m) : am_at p l e R s mm args below meth c cells slots Q E A y (pc) lv (st) m := by
  obtain ⟨hx, hb, hml, hown, hts, hfr, hlo, hce, hsl, hRO, hK, hret⟩ := id C
  intro H locs ls hW hS hl hv hst
  exact lv_ldcw hx hb hown (hts _ hc) hd (k H locs ls hW hS hl hv (am_vc hr hst))
theorem s_lconst (C : am_Cx p l e R s mm args below meth c cells slots Q E A y d P) {n : Fin 2} (hd : decode (am_mi y).2.1 pc = .ok (.lconst n, 1)) (k : am_at p l e R s mm args below meth c cells slots Q E A y (pc + 1) lv (.inr (.inl (Int64.ofNat n.val)) :: st) m) : am_at p l e R s mm args below meth c cells slots Q E A y (pc) lv (st) m := by
  obtain ⟨hx, hb, hml, hown, hts, hfr, hlo, hce, hsl, hRO, hK, hret⟩ := id C
  intro H locs ls hW hS hl hv hst
  exact lv_lconst hx hb hd rfl (k H locs ls hW hS hl hv (am_vc trivial hst))
theorem s_ldc2 (C : am_Cx p l e R s mm args below meth c cells slots Q E A y d P) {i n : Nat} (hc : Cond.constantLong (am_cn.getD (am_mi y).2.2.2.2 "") i (Int64.ofNat n) ∈ am_big) (hd : decode (am_mi y).2.1 pc = .ok (.ldc2_w i, 3)) (k : am_at p l e R s mm args below meth c cells slots Q E A y (pc + 3) lv (.inr (.inl (Int64.ofNat n)) :: st) m) : am_at p l e R s mm args below meth c cells slots Q E A y (pc) lv (st) m := by
  obtain ⟨hx, hb, hml, hown, hts, hfr, hlo, hce, hsl, hRO, hK, hret⟩ := id C
  intro H locs ls hW hS hl hv hst
  exact lv_ldc2 hx hb hown (hts _ hc) hd (k H locs ls hW hS hl hv (am_vc trivial hst))
theorem s_ldcS (C : am_Cx p l e R s mm args below meth c cells slots Q E A y d P) {i n : Nat} (ho : am_cn.getD (am_mi y).2.2.2.2 "" = "TripleSieve$Reader") (hc : (i, n) ∈ am_sl.getD 6 []) (hd : decode (am_mi y).2.1 pc = .ok (.ldc i, 2)) (k : am_at p l e R s mm args below meth c cells slots Q E A y (pc + 2) lv (.inr (.inr n) :: st) m) : am_at p l e R s mm args below meth c cells slots Q E A y (pc) lv (st) m := by
  obtain ⟨hx, hb, hml, hown, hts, hfr, hlo, hce, hsl, hRO, hK, hret⟩ := id C
  intro H locs ls hW hS hl hv hst
  have hz := hRO.2.2.2.2.1 _ hc
  rw [ho] at hown
  exact va_ldcS hx hb hown hz hd (k H locs ls hW hS hl hv (am_vc trivial hst))
theorem s_iload (C : am_Cx p l e R s mm args below meth c cells slots Q E A y d P) {i : Nat} {z : Int} (hg : am_get lv i = some (.inl z)) (hd : decode (am_mi y).2.1 pc = .ok (.iload i, 2)) (k : am_at p l e R s mm args below meth c cells slots Q E A y (pc + 2) lv (.inl z :: st) m) : am_at p l e R s mm args below meth c cells slots Q E A y (pc) lv (st) m := by
  obtain ⟨hx, hb, hml, hown, hts, hfr, hlo, hce, hsl, hRO, hK, hret⟩ := id C
  intro H locs ls hW hS hl hv hst
  exact lv_iload hx hb hd (am_lvat hl hg) (k H locs ls hW hS hl hv (am_vc (hv _ (am_lvget hg)) hst))
theorem s_iloadn (C : am_Cx p l e R s mm args below meth c cells slots Q E A y d P) {n : Fin 4} {i : Nat} (hi : (n : Nat) = i) {z : Int} (hg : am_get lv i = some (.inl z)) (hd : decode (am_mi y).2.1 pc = .ok (.iload_n n, 1)) (k : am_at p l e R s mm args below meth c cells slots Q E A y (pc + 1) lv (.inl z :: st) m) : am_at p l e R s mm args below meth c cells slots Q E A y (pc) lv (st) m := by
  obtain ⟨hx, hb, hml, hown, hts, hfr, hlo, hce, hsl, hRO, hK, hret⟩ := id C
  intro H locs ls hW hS hl hv hst
  exact lv_iload_n hx hb hd hi (am_lvat hl hg) (k H locs ls hW hS hl hv (am_vc (hv _ (am_lvget hg)) hst))
theorem s_lload (C : am_Cx p l e R s mm args below meth c cells slots Q E A y d P) {i : Nat} {z : Int64} (hg : am_get lv i = some (.inr (.inl z))) (hd : decode (am_mi y).2.1 pc = .ok (.lload i, 2)) (k : am_at p l e R s mm args below meth c cells slots Q E A y (pc + 2) lv (.inr (.inl z) :: st) m) : am_at p l e R s mm args below meth c cells slots Q E A y (pc) lv (st) m := by
  obtain ⟨hx, hb, hml, hown, hts, hfr, hlo, hce, hsl, hRO, hK, hret⟩ := id C
  intro H locs ls hW hS hl hv hst
  exact lv_lload hx hb hd (am_lvat hl hg) (k H locs ls hW hS hl hv (am_vc trivial hst))
theorem s_lloadn (C : am_Cx p l e R s mm args below meth c cells slots Q E A y d P) {n : Fin 4} {i : Nat} (hi : (n : Nat) = i) {z : Int64} (hg : am_get lv i = some (.inr (.inl z))) (hd : decode (am_mi y).2.1 pc = .ok (.lload_n n, 1)) (k : am_at p l e R s mm args below meth c cells slots Q E A y (pc + 1) lv (.inr (.inl z) :: st) m) : am_at p l e R s mm args below meth c cells slots Q E A y (pc) lv (st) m := by
  obtain ⟨hx, hb, hml, hown, hts, hfr, hlo, hce, hsl, hRO, hK, hret⟩ := id C
  intro H locs ls hW hS hl hv hst
  exact lv_lload_n hx hb hd hi (am_lvat hl hg) (k H locs ls hW hS hl hv (am_vc trivial hst))
theorem s_aload (C : am_Cx p l e R s mm args below meth c cells slots Q E A y d P) {i : Nat} {z : Nat} (hg : am_get lv i = some (.inr (.inr z))) (hd : decode (am_mi y).2.1 pc = .ok (.aload i, 2)) (k : am_at p l e R s mm args below meth c cells slots Q E A y (pc + 2) lv (.inr (.inr z) :: st) m) : am_at p l e R s mm args below meth c cells slots Q E A y (pc) lv (st) m := by
  obtain ⟨hx, hb, hml, hown, hts, hfr, hlo, hce, hsl, hRO, hK, hret⟩ := id C
  intro H locs ls hW hS hl hv hst
  exact lv_aload hx hb hd (am_lvat hl hg) (k H locs ls hW hS hl hv (am_vc trivial hst))
theorem s_aloadn (C : am_Cx p l e R s mm args below meth c cells slots Q E A y d P) {n : Fin 4} {i : Nat} (hi : (n : Nat) = i) {z : Nat} (hg : am_get lv i = some (.inr (.inr z))) (hd : decode (am_mi y).2.1 pc = .ok (.aload_n n, 1)) (k : am_at p l e R s mm args below meth c cells slots Q E A y (pc + 1) lv (.inr (.inr z) :: st) m) : am_at p l e R s mm args below meth c cells slots Q E A y (pc) lv (st) m := by
  obtain ⟨hx, hb, hml, hown, hts, hfr, hlo, hce, hsl, hRO, hK, hret⟩ := id C
  intro H locs ls hW hS hl hv hst
  exact lv_aload_n hx hb hd hi (am_lvat hl hg) (k H locs ls hW hS hl hv (am_vc trivial hst))
theorem s_istore (C : am_Cx p l e R s mm args below meth c cells slots Q E A y d P) {i : Nat} {z : Int} (hn : i < (am_mi y).2.2.1) (hd : decode (am_mi y).2.1 pc = .ok (.istore i, 2)) (k : am_at p l e R s mm args below meth c cells slots Q E A y (pc + 2) (am_set lv i (.inl z)) (st) m) : am_at p l e R s mm args below meth c cells slots Q E A y (pc) lv (.inl z :: st) m := by
  obtain ⟨hx, hb, hml, hown, hts, hfr, hlo, hce, hsl, hRO, hK, hret⟩ := id C
  intro H locs ls hW hS hl hv hst
  exact lv_istore hx hb hd hl hn rfl (fun ls2 hl2 => k H locs ls2 hW hS (am_lvset1 (v := .inl z) rfl hl2) (am_vok_set hv (am_vh hst)) (am_vt hst))
theorem s_istoren (C : am_Cx p l e R s mm args below meth c cells slots Q E A y d P) {n : Fin 4} {i : Nat} (hi : (n : Nat) = i) {z : Int} (hn : i < (am_mi y).2.2.1) (hd : decode (am_mi y).2.1 pc = .ok (.istore_n n, 1)) (k : am_at p l e R s mm args below meth c cells slots Q E A y (pc + 1) (am_set lv i (.inl z)) (st) m) : am_at p l e R s mm args below meth c cells slots Q E A y (pc) lv (.inl z :: st) m := by
  obtain ⟨hx, hb, hml, hown, hts, hfr, hlo, hce, hsl, hRO, hK, hret⟩ := id C
  intro H locs ls hW hS hl hv hst
  exact lv_istore_n hx hb hd hi hl hn rfl (fun ls2 hl2 => k H locs ls2 hW hS (am_lvset1 (v := .inl z) rfl hl2) (am_vok_set hv (am_vh hst)) (am_vt hst))
theorem s_lstore (C : am_Cx p l e R s mm args below meth c cells slots Q E A y d P) {i : Nat} {z : Int64} (hn : i + 1 < (am_mi y).2.2.1) (hd : decode (am_mi y).2.1 pc = .ok (.lstore i, 2)) (k : am_at p l e R s mm args below meth c cells slots Q E A y (pc + 2) (am_set lv i (.inr (.inl z))) (st) m) : am_at p l e R s mm args below meth c cells slots Q E A y (pc) lv (.inr (.inl z) :: st) m := by
  obtain ⟨hx, hb, hml, hown, hts, hfr, hlo, hce, hsl, hRO, hK, hret⟩ := id C
  intro H locs ls hW hS hl hv hst
  exact lv_lstore hx hb hd hl hn rfl (fun ls2 hl2 => k H locs ls2 hW hS (am_lvset2 (v := .inr (.inl z)) rfl hl2) (am_vok_set hv (am_vh hst)) (am_vt hst))
theorem s_lstoren (C : am_Cx p l e R s mm args below meth c cells slots Q E A y d P) {n : Fin 4} {i : Nat} (hi : (n : Nat) = i) {z : Int64} (hn : i + 1 < (am_mi y).2.2.1) (hd : decode (am_mi y).2.1 pc = .ok (.lstore_n n, 1)) (k : am_at p l e R s mm args below meth c cells slots Q E A y (pc + 1) (am_set lv i (.inr (.inl z))) (st) m) : am_at p l e R s mm args below meth c cells slots Q E A y (pc) lv (.inr (.inl z) :: st) m := by
  obtain ⟨hx, hb, hml, hown, hts, hfr, hlo, hce, hsl, hRO, hK, hret⟩ := id C
  intro H locs ls hW hS hl hv hst
  exact lv_lstore_n hx hb hd hi hl hn rfl (fun ls2 hl2 => k H locs ls2 hW hS (am_lvset2 (v := .inr (.inl z)) rfl hl2) (am_vok_set hv (am_vh hst)) (am_vt hst))
theorem s_astore (C : am_Cx p l e R s mm args below meth c cells slots Q E A y d P) {i : Nat} {z : Nat} (hn : i < (am_mi y).2.2.1) (hd : decode (am_mi y).2.1 pc = .ok (.astore i, 2)) (k : am_at p l e R s mm args below meth c cells slots Q E A y (pc + 2) (am_set lv i (.inr (.inr z))) (st) m) : am_at p l e R s mm args below meth c cells slots Q E A y (pc) lv (.inr (.inr z) :: st) m := by
  obtain ⟨hx, hb, hml, hown, hts, hfr, hlo, hce, hsl, hRO, hK, hret⟩ := id C
  intro H locs ls hW hS hl hv hst
  exact lv_astore hx hb hd hl hn rfl (fun ls2 hl2 => k H locs ls2 hW hS (am_lvset1 (v := .inr (.inr z)) rfl hl2) (am_vok_set hv (am_vh hst)) (am_vt hst))
theorem s_astoren (C : am_Cx p l e R s mm args below meth c cells slots Q E A y d P) {n : Fin 4} {i : Nat} (hi : (n : Nat) = i) {z : Nat} (hn : i < (am_mi y).2.2.1) (hd : decode (am_mi y).2.1 pc = .ok (.astore_n n, 1)) (k : am_at p l e R s mm args below meth c cells slots Q E A y (pc + 1) (am_set lv i (.inr (.inr z))) (st) m) : am_at p l e R s mm args below meth c cells slots Q E A y (pc) lv (.inr (.inr z) :: st) m := by
  obtain ⟨hx, hb, hml, hown, hts, hfr, hlo, hce, hsl, hRO, hK, hret⟩ := id C
  intro H locs ls hW hS hl hv hst
  exact lv_astore_n hx hb hd hi hl hn rfl (fun ls2 hl2 => k H locs ls2 hW hS (am_lvset1 (v := .inr (.inr z)) rfl hl2) (am_vok_set hv (am_vh hst)) (am_vt hst))
theorem s_iinc (C : am_Cx p l e R s mm args below meth c cells slots Q E A y d P) {i : Nat} {n z : Int} (hg : am_get lv i = some (.inl z)) (hn : i < (am_mi y).2.2.1) (hr : am_R (z + n)) (hd : decode (am_mi y).2.1 pc = .ok (.iinc i n, 3)) (k : am_at p l e R s mm args below meth c cells slots Q E A y (pc + 3) (am_set lv i (.inl (z + n))) (st) m) : am_at p l e R s mm args below meth c cells slots Q E A y (pc) lv (st) m := by
  obtain ⟨hx, hb, hml, hown, hts, hfr, hlo, hce, hsl, hRO, hK, hret⟩ := id C
  intro H locs ls hW hS hl hv hst
  obtain ⟨j, hj⟩ := List.getElem?_of_mem (List.mem_map.mpr ⟨(i, .inl z), am_lvget hg, rfl⟩ : (i, am_cv E (.inl z)) ∈ lv.map fun q => (q.1, am_cv E q.2))
  exact lv_iinc hx hb hd hl hj (v := Int32.ofInt (z + n)) (by rw [Int32.ofInt_add]) hn rfl (fun ls2 hl2 => k H locs ls2 hW hS (am_lvset1 (v := .inl (z + n)) rfl hl2) (am_vok_set hv hr) hst)
theorem s_iadd (C : am_Cx p l e R s mm args below meth c cells slots Q E A y d P) {a b : Int} (hr : am_R (a + b)) (hd : decode (am_mi y).2.1 pc = .ok (.iadd, 1)) (k : am_at p l e R s mm args below meth c cells slots Q E A y (pc + 1) lv (.inl (a + b) :: st) m) : am_at p l e R s mm args below meth c cells slots Q E A y (pc) lv (.inl b :: .inl a :: st) m := by
  obtain ⟨hx, hb, hml, hown, hts, hfr, hlo, hce, hsl, hRO, hK, hret⟩ := id C
  intro H locs ls hW hS hl hv hst
  have k := k H locs ls hW hS hl hv (am_vc hr (am_vt (am_vt hst)))
  simp only [List.map_cons, am_cv, Int32.ofInt_add] at k
  exact lv_iadd hx hb hd k
theorem s_isub (C : am_Cx p l e R s mm args below meth c cells slots Q E A y d P) {a b : Int} (hr : am_R (a - b)) (hd : decode (am_mi y).2.1 pc = .ok (.isub, 1)) (k : am_at p l e R s mm args below meth c cells slots Q E A y (pc + 1) lv (.inl (a - b) :: st) m) : am_at p l e R s mm args below meth c cells slots Q E A y (pc) lv (.inl b :: .inl a :: st) m := by
  obtain ⟨hx, hb, hml, hown, hts, hfr, hlo, hce, hsl, hRO, hK, hret⟩ := id C
  intro H locs ls hW hS hl hv hst
  have k := k H locs ls hW hS hl hv (am_vc hr (am_vt (am_vt hst)))
  simp only [List.map_cons, am_cv, Int32.ofInt_sub] at k
  exact lv_isub hx hb hd k
theorem s_imul (C : am_Cx p l e R s mm args below meth c cells slots Q E A y d P) {a b : Int} (hr : am_R (a * b)) (hd : decode (am_mi y).2.1 pc = .ok (.imul, 1)) (k : am_at p l e R s mm args below meth c cells slots Q E A y (pc + 1) lv (.inl (a * b) :: st) m) : am_at p l e R s mm args below meth c cells slots Q E A y (pc) lv (.inl b :: .inl a :: st) m := by
  obtain ⟨hx, hb, hml, hown, hts, hfr, hlo, hce, hsl, hRO, hK, hret⟩ := id C
  intro H locs ls hW hS hl hv hst
  have k := k H locs ls hW hS hl hv (am_vc hr (am_vt (am_vt hst)))
  simp only [List.map_cons, am_cv, Int32.ofInt_mul] at k
  exact lv_imul hx hb hd k
theorem s_iand (C : am_Cx p l e R s mm args below meth c cells slots Q E A y d P) {a b : Int} (hd : decode (am_mi y).2.1 pc = .ok (.iand, 1)) (k : am_at p l e R s mm args below meth c cells slots Q E A y (pc + 1) lv (.inl (am_and a b) :: st) m) : am_at p l e R s mm args below meth c cells slots Q E A y (pc) lv (.inl b :: .inl a :: st) m := by
  obtain ⟨hx, hb, hml, hown, hts, hfr, hlo, hce, hsl, hRO, hK, hret⟩ := id C
  intro H locs ls hW hS hl hv hst
  have k := k H locs ls hW hS hl hv (am_vc (am_RT _) (am_vt (am_vt hst)))
  simp only [List.map_cons, am_cv, am_and, am_of] at k
  exact lv_iand hx hb hd k
theorem s_ior (C : am_Cx p l e R s mm args below meth c cells slots Q E A y d P) {a b : Int} (hd : decode (am_mi y).2.1 pc = .ok (.ior, 1)) (k : am_at p l e R s mm args below meth c cells slots Q E A y (pc + 1) lv (.inl (am_or a b) :: st) m) : am_at p l e R s mm args below meth c cells slots Q E A y (pc) lv (.inl b :: .inl a :: st) m := by
  obtain ⟨hx, hb, hml, hown, hts, hfr, hlo, hce, hsl, hRO, hK, hret⟩ := id C
  intro H locs ls hW hS hl hv hst
  have k := k H locs ls hW hS hl hv (am_vc (am_RT _) (am_vt (am_vt hst)))
  simp only [List.map_cons, am_cv, am_or, am_of] at k
  exact lv_ior hx hb hd k
theorem s_ixor (C : am_Cx p l e R s mm args below meth c cells slots Q E A y d P) {a b : Int} (hd : decode (am_mi y).2.1 pc = .ok (.ixor, 1)) (k : am_at p l e R s mm args below meth c cells slots Q E A y (pc + 1) lv (.inl (am_xor a b) :: st) m) : am_at p l e R s mm args below meth c cells slots Q E A y (pc) lv (.inl b :: .inl a :: st) m := by
  obtain ⟨hx, hb, hml, hown, hts, hfr, hlo, hce, hsl, hRO, hK, hret⟩ := id C
  intro H locs ls hW hS hl hv hst
  have k := k H locs ls hW hS hl hv (am_vc (am_RT _) (am_vt (am_vt hst)))
  simp only [List.map_cons, am_cv, am_xor, am_of] at k
  exact lv_ixor hx hb hd k
theorem s_ishl (C : am_Cx p l e R s mm args below meth c cells slots Q E A y d P) {a b : Int} (hd : decode (am_mi y).2.1 pc = .ok (.ishl, 1)) (k : am_at p l e R s mm args below meth c cells slots Q E A y (pc + 1) lv (.inl (am_shl a b) :: st) m) : am_at p l e R s mm args below meth c cells slots Q E A y (pc) lv (.inl b :: .inl a :: st) m := by
  obtain ⟨hx, hb, hml, hown, hts, hfr, hlo, hce, hsl, hRO, hK, hret⟩ := id C
  intro H locs ls hW hS hl hv hst
  have k := k H locs ls hW hS hl hv (am_vc (am_RT _) (am_vt (am_vt hst)))
  simp only [List.map_cons, am_cv, am_shl, am_of] at k
  exact lv_ishl hx hb hd k
theorem s_ishr (C : am_Cx p l e R s mm args below meth c cells slots Q E A y d P) {a b : Int} (hd : decode (am_mi y).2.1 pc = .ok (.ishr, 1)) (k : am_at p l e R s mm args below meth c cells slots Q E A y (pc + 1) lv (.inl (am_shr a b) :: st) m) : am_at p l e R s mm args below meth c cells slots Q E A y (pc) lv (.inl b :: .inl a :: st) m := by
  obtain ⟨hx, hb, hml, hown, hts, hfr, hlo, hce, hsl, hRO, hK, hret⟩ := id C
  intro H locs ls hW hS hl hv hst
  have k := k H locs ls hW hS hl hv (am_vc (am_RT _) (am_vt (am_vt hst)))
  simp only [List.map_cons, am_cv, am_shr, am_of] at k
  exact lv_ishr hx hb hd k
theorem s_iushr (C : am_Cx p l e R s mm args below meth c cells slots Q E A y d P) {a b : Int} (hd : decode (am_mi y).2.1 pc = .ok (.iushr, 1)) (k : am_at p l e R s mm args below meth c cells slots Q E A y (pc + 1) lv (.inl (am_ushr a b) :: st) m) : am_at p l e R s mm args below meth c cells slots Q E A y (pc) lv (.inl b :: .inl a :: st) m := by
  obtain ⟨hx, hb, hml, hown, hts, hfr, hlo, hce, hsl, hRO, hK, hret⟩ := id C
  intro H locs ls hW hS hl hv hst
  have k := k H locs ls hW hS hl hv (am_vc (am_RT _) (am_vt (am_vt hst)))
  simp only [List.map_cons, am_cv, am_ushr, am_of] at k
  exact lv_iushr hx hb hd rfl k
theorem s_idiv (C : am_Cx p l e R s mm args below meth c cells slots Q E A y d P) {a b : Int} (ha : 0 ≤ a) (hb0 : 0 < b) (hd : decode (am_mi y).2.1 pc = .ok (.idiv, 1)) (k : am_at p l e R s mm args below meth c cells slots Q E A y (pc + 1) lv (.inl (a / b) :: st) m) : am_at p l e R s mm args below meth c cells slots Q E A y (pc) lv (.inl b :: .inl a :: st) m := by
  obtain ⟨hx, hb, hml, hown, hts, hfr, hlo, hce, hsl, hRO, hK, hret⟩ := id C
  intro H locs ls hW hS hl hv hst
  have ra : am_R a := am_vh (am_vt hst)
  have rb : am_R b := am_vh hst
  have hq : 0 ≤ a / b := Int.ediv_nonneg ha (by omega)
  have hq2 : a / b ≤ a := Int.ediv_le_self b ha
  have e1 : Int32.ofInt (a / b) = Int32.ofInt a / Int32.ofInt b := by
    rw [← Int.tdiv_eq_ediv_of_nonneg ha]
    exact Int32.ofInt_tdiv (by rw [am_R_min]; exact ra.1) (by rw [am_R_max]; exact ra.2) (by rw [am_R_min]; exact rb.1) (by rw [am_R_max]; exact rb.2)
  have k := k H locs ls hW hS hl hv (am_vc (v := .inl (a / b)) ⟨by omega, by have := ra.2; omega⟩ (am_vt (am_vt hst)))
  simp only [List.map_cons, am_cv, e1] at k
  exact lv_idiv hx hb hd (fun h => by have := (am_eqI rb am_R0).mp h; omega) k
theorem s_irem (C : am_Cx p l e R s mm args below meth c cells slots Q E A y d P) {a b : Int} (ha : 0 ≤ a) (hb0 : 0 < b) (hd : decode (am_mi y).2.1 pc = .ok (.irem, 1)) (k : am_at p l e R s mm args below meth c cells slots Q E A y (pc + 1) lv (.inl (a % b) :: st) m) : am_at p l e R s mm args below meth c cells slots Q E A y (pc) lv (.inl b :: .inl a :: st) m := by
  obtain ⟨hx, hb, hml, hown, hts, hfr, hlo, hce, hsl, hRO, hK, hret⟩ := id C
  intro H locs ls hW hS hl hv hst
  have ra : am_R a := am_vh (am_vt hst)
  have rb : am_R b := am_vh hst
  have e0 : Int32.ofInt (a / b) = Int32.ofInt a / Int32.ofInt b := by
    rw [← Int.tdiv_eq_ediv_of_nonneg ha]
    exact Int32.ofInt_tdiv (by rw [am_R_min]; exact ra.1) (by rw [am_R_max]; exact ra.2) (by rw [am_R_min]; exact rb.1) (by rw [am_R_max]; exact rb.2)
  have e1 : Int32.ofInt (a % b) = Int32.ofInt a - Int32.ofInt a / Int32.ofInt b * Int32.ofInt b := by
    rw [← e0, ← Int32.ofInt_mul, ← Int32.ofInt_sub]
    congr 1
    rw [Int.mul_comm, Int.emod_def]
  have h1 : 0 ≤ a % b := Int.emod_nonneg a (by omega)
  have h2 : a % b < b := Int.emod_lt_of_pos a hb0
  have k := k H locs ls hW hS hl hv (am_vc (v := .inl (a % b)) ⟨by omega, by have := rb.2; omega⟩ (am_vt (am_vt hst)))
  simp only [List.map_cons, am_cv, e1] at k
  exact lv_irem hx hb hd (fun h => by have := (am_eqI rb am_R0).mp h; omega) k
theorem s_i2b (C : am_Cx p l e R s mm args below meth c cells slots Q E A y d P) {a : Int} (hd : decode (am_mi y).2.1 pc = .ok (.i2b, 1)) (k : am_at p l e R s mm args below meth c cells slots Q E A y (pc + 1) lv (.inl (am_i2b a) :: st) m) : am_at p l e R s mm args below meth c cells slots Q E A y (pc) lv (.inl a :: st) m := by
  obtain ⟨hx, hb, hml, hown, hts, hfr, hlo, hce, hsl, hRO, hK, hret⟩ := id C
  intro H locs ls hW hS hl hv hst
  have k := k H locs ls hW hS hl hv (am_vc (am_RT _) (am_vt hst))
  simp only [List.map_cons, am_cv, am_i2b, am_of] at k
  exact lv_i2b hx hb hd rfl k
theorem s_i2l (C : am_Cx p l e R s mm args below meth c cells slots Q E A y d P) {a : Int} (hd : decode (am_mi y).2.1 pc = .ok (.i2l, 1)) (k : am_at p l e R s mm args below meth c cells slots Q E A y (pc + 1) lv (.inr (.inl (am_i2l a)) :: st) m) : am_at p l e R s mm args below meth c cells slots Q E A y (pc) lv (.inl a :: st) m := by
  obtain ⟨hx, hb, hml, hown, hts, hfr, hlo, hce, hsl, hRO, hK, hret⟩ := id C
  intro H locs ls hW hS hl hv hst
  exact lv_i2l hx hb hd rfl (k H locs ls hW hS hl hv (am_vc trivial (am_vt hst)))
theorem s_l2i (C : am_Cx p l e R s mm args below meth c cells slots Q E A y d P) {a : Int64} (hd : decode (am_mi y).2.1 pc = .ok (.l2i, 1)) (k : am_at p l e R s mm args below meth c cells slots Q E A y (pc + 1) lv (.inl (am_l2i a) :: st) m) : am_at p l e R s mm args below meth c cells slots Q E A y (pc) lv (.inr (.inl a) :: st) m := by
  obtain ⟨hx, hb, hml, hown, hts, hfr, hlo, hce, hsl, hRO, hK, hret⟩ := id C
  intro H locs ls hW hS hl hv hst
  have k := k H locs ls hW hS hl hv (am_vc (am_RT _) (am_vt hst))
  simp only [List.map_cons, am_cv, am_l2i, am_of] at k
  exact lv_l2i hx hb hd rfl k
theorem s_ladd (C : am_Cx p l e R s mm args below meth c cells slots Q E A y d P) {a b : Int64} (hd : decode (am_mi y).2.1 pc = .ok (.ladd, 1)) (k : am_at p l e R s mm args below meth c cells slots Q E A y (pc + 1) lv (.inr (.inl (a + b)) :: st) m) : am_at p l e R s mm args below meth c cells slots Q E A y (pc) lv (.inr (.inl b) :: .inr (.inl a) :: st) m := by
  obtain ⟨hx, hb, hml, hown, hts, hfr, hlo, hce, hsl, hRO, hK, hret⟩ := id C
  intro H locs ls hW hS hl hv hst
  exact lv_ladd hx hb hd (k H locs ls hW hS hl hv (am_vc trivial (am_vt (am_vt hst))))
theorem s_lsub (C : am_Cx p l e R s mm args below meth c cells slots Q E A y d P) {a b : Int64} (hd : decode (am_mi y).2.1 pc = .ok (.lsub, 1)) (k : am_at p l e R s mm args below meth c cells slots Q E A y (pc + 1) lv (.inr (.inl (a - b)) :: st) m) : am_at p l e R s mm args below meth c cells slots Q E A y (pc) lv (.inr (.inl b) :: .inr (.inl a) :: st) m := by
  obtain ⟨hx, hb, hml, hown, hts, hfr, hlo, hce, hsl, hRO, hK, hret⟩ := id C
  intro H locs ls hW hS hl hv hst
  exact lv_lsub hx hb hd (k H locs ls hW hS hl hv (am_vc trivial (am_vt (am_vt hst))))
theorem s_lmul (C : am_Cx p l e R s mm args below meth c cells slots Q E A y d P) {a b : Int64} (hd : decode (am_mi y).2.1 pc = .ok (.lmul, 1)) (k : am_at p l e R s mm args below meth c cells slots Q E A y (pc + 1) lv (.inr (.inl (a * b)) :: st) m) : am_at p l e R s mm args below meth c cells slots Q E A y (pc) lv (.inr (.inl b) :: .inr (.inl a) :: st) m := by
  obtain ⟨hx, hb, hml, hown, hts, hfr, hlo, hce, hsl, hRO, hK, hret⟩ := id C
  intro H locs ls hW hS hl hv hst
  exact lv_lmul hx hb hd (k H locs ls hW hS hl hv (am_vc trivial (am_vt (am_vt hst))))
theorem s_land (C : am_Cx p l e R s mm args below meth c cells slots Q E A y d P) {a b : Int64} (hd : decode (am_mi y).2.1 pc = .ok (.land, 1)) (k : am_at p l e R s mm args below meth c cells slots Q E A y (pc + 1) lv (.inr (.inl (a &&& b)) :: st) m) : am_at p l e R s mm args below meth c cells slots Q E A y (pc) lv (.inr (.inl b) :: .inr (.inl a) :: st) m := by
  obtain ⟨hx, hb, hml, hown, hts, hfr, hlo, hce, hsl, hRO, hK, hret⟩ := id C
  intro H locs ls hW hS hl hv hst
  exact lv_land hx hb hd (k H locs ls hW hS hl hv (am_vc trivial (am_vt (am_vt hst))))
theorem s_lor (C : am_Cx p l e R s mm args below meth c cells slots Q E A y d P) {a b : Int64} (hd : decode (am_mi y).2.1 pc = .ok (.lor, 1)) (k : am_at p l e R s mm args below meth c cells slots Q E A y (pc + 1) lv (.inr (.inl (a ||| b)) :: st) m) : am_at p l e R s mm args below meth c cells slots Q E A y (pc) lv (.inr (.inl b) :: .inr (.inl a) :: st) m := by
  obtain ⟨hx, hb, hml, hown, hts, hfr, hlo, hce, hsl, hRO, hK, hret⟩ := id C
  intro H locs ls hW hS hl hv hst
  exact lv_lor hx hb hd (k H locs ls hW hS hl hv (am_vc trivial (am_vt (am_vt hst))))
theorem s_lxor (C : am_Cx p l e R s mm args below meth c cells slots Q E A y d P) {a b : Int64} (hd : decode (am_mi y).2.1 pc = .ok (.lxor, 1)) (k : am_at p l e R s mm args below meth c cells slots Q E A y (pc + 1) lv (.inr (.inl (a ^^^ b)) :: st) m) : am_at p l e R s mm args below meth c cells slots Q E A y (pc) lv (.inr (.inl b) :: .inr (.inl a) :: st) m := by
  obtain ⟨hx, hb, hml, hown, hts, hfr, hlo, hce, hsl, hRO, hK, hret⟩ := id C
  intro H locs ls hW hS hl hv hst
  exact lv_lxor hx hb hd (k H locs ls hW hS hl hv (am_vc trivial (am_vt (am_vt hst))))
theorem s_lneg (C : am_Cx p l e R s mm args below meth c cells slots Q E A y d P) {a : Int64} (hd : decode (am_mi y).2.1 pc = .ok (.lneg, 1)) (k : am_at p l e R s mm args below meth c cells slots Q E A y (pc + 1) lv (.inr (.inl (-a)) :: st) m) : am_at p l e R s mm args below meth c cells slots Q E A y (pc) lv (.inr (.inl a) :: st) m := by
  obtain ⟨hx, hb, hml, hown, hts, hfr, hlo, hce, hsl, hRO, hK, hret⟩ := id C
  intro H locs ls hW hS hl hv hst
  exact lv_lneg hx hb hd (k H locs ls hW hS hl hv (am_vc trivial (am_vt hst)))
theorem s_lshl (C : am_Cx p l e R s mm args below meth c cells slots Q E A y d P) {a : Int64} {b : Int} (hd : decode (am_mi y).2.1 pc = .ok (.lshl, 1)) (k : am_at p l e R s mm args below meth c cells slots Q E A y (pc + 1) lv (.inr (.inl (am_lshl a b)) :: st) m) : am_at p l e R s mm args below meth c cells slots Q E A y (pc) lv (.inl b :: .inr (.inl a) :: st) m := by
  obtain ⟨hx, hb, hml, hown, hts, hfr, hlo, hce, hsl, hRO, hK, hret⟩ := id C
  intro H locs ls hW hS hl hv hst
  exact lv_lshl hx hb hd rfl (k H locs ls hW hS hl hv (am_vc trivial (am_vt (am_vt hst))))
theorem s_lshr (C : am_Cx p l e R s mm args below meth c cells slots Q E A y d P) {a : Int64} {b : Int} (hd : decode (am_mi y).2.1 pc = .ok (.lshr, 1)) (k : am_at p l e R s mm args below meth c cells slots Q E A y (pc + 1) lv (.inr (.inl (am_lshr a b)) :: st) m) : am_at p l e R s mm args below meth c cells slots Q E A y (pc) lv (.inl b :: .inr (.inl a) :: st) m := by
  obtain ⟨hx, hb, hml, hown, hts, hfr, hlo, hce, hsl, hRO, hK, hret⟩ := id C
  intro H locs ls hW hS hl hv hst
  exact lv_lshr hx hb hd rfl (k H locs ls hW hS hl hv (am_vc trivial (am_vt (am_vt hst))))
theorem s_lushr (C : am_Cx p l e R s mm args below meth c cells slots Q E A y d P) {a : Int64} {b : Int} (hd : decode (am_mi y).2.1 pc = .ok (.lushr, 1)) (k : am_at p l e R s mm args below meth c cells slots Q E A y (pc + 1) lv (.inr (.inl (am_lushr a b)) :: st) m) : am_at p l e R s mm args below meth c cells slots Q E A y (pc) lv (.inl b :: .inr (.inl a) :: st) m := by
  obtain ⟨hx, hb, hml, hown, hts, hfr, hlo, hce, hsl, hRO, hK, hret⟩ := id C
  intro H locs ls hW hS hl hv hst
  exact lv_lushr hx hb hd rfl (k H locs ls hW hS hl hv (am_vc trivial (am_vt (am_vt hst))))
theorem s_lcmp (C : am_Cx p l e R s mm args below meth c cells slots Q E A y d P) {a b : Int64} (hd : decode (am_mi y).2.1 pc = .ok (.lcmp, 1)) (k : am_at p l e R s mm args below meth c cells slots Q E A y (pc + 1) lv (.inl (am_lcmp a b) :: st) m) : am_at p l e R s mm args below meth c cells slots Q E A y (pc) lv (.inr (.inl b) :: .inr (.inl a) :: st) m := by
  obtain ⟨hx, hb, hml, hown, hts, hfr, hlo, hce, hsl, hRO, hK, hret⟩ := id C
  intro H locs ls hW hS hl hv hst
  have k := k H locs ls hW hS hl hv (am_vc (am_RT _) (am_vt (am_vt hst)))
  simp only [List.map_cons, am_cv, am_lcmp, am_of] at k
  exact W.lcmp hx hb hd k
theorem s_dup (C : am_Cx p l e R s mm args below meth c cells slots Q E A y d P) {v : am_V} (hv1 : am_lng v = false) (hd : decode (am_mi y).2.1 pc = .ok (.dup, 1)) (k : am_at p l e R s mm args below meth c cells slots Q E A y (pc + 1) lv (v :: v :: st) m) : am_at p l e R s mm args below meth c cells slots Q E A y (pc) lv (v :: st) m := by
  obtain ⟨hx, hb, hml, hown, hts, hfr, hlo, hce, hsl, hRO, hK, hret⟩ := id C
  intro H locs ls hW hS hl hv hst
  exact lv_dup hx hb hd (by rw [am_cat_cv, hv1]; rfl) (k H locs ls hW hS hl hv (am_vc (am_vh hst) hst))
theorem s_dup2l (C : am_Cx p l e R s mm args below meth c cells slots Q E A y d P) {v : am_V} (hv1 : am_lng v = true) (hd : decode (am_mi y).2.1 pc = .ok (.dup2, 1)) (k : am_at p l e R s mm args below meth c cells slots Q E A y (pc + 1) lv (v :: v :: st) m) : am_at p l e R s mm args below meth c cells slots Q E A y (pc) lv (v :: st) m := by
  obtain ⟨hx, hb, hml, hown, hts, hfr, hlo, hce, hsl, hRO, hK, hret⟩ := id C
  intro H locs ls hW hS hl hv hst
  exact lv_dup2_2 hx hb hd (by rw [am_cat_cv, hv1]; rfl) (k H locs ls hW hS hl hv (am_vc (am_vh hst) hst))
theorem s_dup2s (C : am_Cx p l e R s mm args below meth c cells slots Q E A y d P) {v w : am_V} (hv1 : am_lng v = false) (hw1 : am_lng w = false) (hd : decode (am_mi y).2.1 pc = .ok (.dup2, 1)) (k : am_at p l e R s mm args below meth c cells slots Q E A y (pc + 1) lv (v :: w :: v :: w :: st) m) : am_at p l e R s mm args below meth c cells slots Q E A y (pc) lv (v :: w :: st) m := by
  obtain ⟨hx, hb, hml, hown, hts, hfr, hlo, hce, hsl, hRO, hK, hret⟩ := id C
  intro H locs ls hW hS hl hv hst
  exact lv_dup2_11 hx hb hd (by rw [am_cat_cv, hv1]; rfl) (by rw [am_cat_cv, hw1]; rfl) (k H locs ls hW hS hl hv (am_vc (am_vh hst) (am_vc (am_vh (am_vt hst)) hst)))
theorem s_pop (C : am_Cx p l e R s mm args below meth c cells slots Q E A y d P) {v : am_V} (hv1 : am_lng v = false) (hd : decode (am_mi y).2.1 pc = .ok (.pop, 1)) (k : am_at p l e R s mm args below meth c cells slots Q E A y (pc + 1) lv (st) m) : am_at p l e R s mm args below meth c cells slots Q E A y (pc) lv (v :: st) m := by
  obtain ⟨hx, hb, hml, hown, hts, hfr, hlo, hce, hsl, hRO, hK, hret⟩ := id C
  intro H locs ls hW hS hl hv hst
  exact lv_pop hx hb hd (by rw [am_cat_cv, hv1]; rfl) (k H locs ls hW hS hl hv (am_vt hst))
theorem s_icmp_eq (C : am_Cx p l e R s mm args below meth c cells slots Q E A y d P) {a b : Int} {off : Int} {t : Nat} (ht : (pc : Int) + off = (t : Int)) (hd : decode (am_mi y).2.1 pc = .ok (.if_icmp .eq off, 3)) (k1 : am_cmp .eq a b → am_at p l e R s mm args below meth c cells slots Q E A y (t) lv (st) m) (k2 : ¬ am_cmp .eq a b → am_at p l e R s mm args below meth c cells slots Q E A y (pc + 3) lv (st) m) : am_at p l e R s mm args below meth c cells slots Q E A y (pc) lv (.inl b :: .inl a :: st) m := by
  obtain ⟨hx, hb, hml, hown, hts, hfr, hlo, hce, hsl, hRO, hK, hret⟩ := id C
  intro H locs ls hW hS hl hv hst
  have ra : am_R a := am_vh (am_vt hst)
  have rb : am_R b := am_vh hst
  exact lv_icmp_eq hx hb hd ht (fun h => k1 ((am_eqI ra rb).mp h) H locs ls hW hS hl hv (am_vt (am_vt hst))) (fun h => k2 (fun z => h ((am_eqI ra rb).mpr z)) H locs ls hW hS hl hv (am_vt (am_vt hst)))
theorem s_if_eq (C : am_Cx p l e R s mm args below meth c cells slots Q E A y d P) {a : Int} {off : Int} {t : Nat} (ht : (pc : Int) + off = (t : Int)) (hd : decode (am_mi y).2.1 pc = .ok (.ifCond .eq off, 3)) (k1 : am_cmp .eq a 0 → am_at p l e R s mm args below meth c cells slots Q E A y (t) lv (st) m) (k2 : ¬ am_cmp .eq a 0 → am_at p l e R s mm args below meth c cells slots Q E A y (pc + 3) lv (st) m) : am_at p l e R s mm args below meth c cells slots Q E A y (pc) lv (.inl a :: st) m := by
  obtain ⟨hx, hb, hml, hown, hts, hfr, hlo, hce, hsl, hRO, hK, hret⟩ := id C
  intro H locs ls hW hS hl hv hst
  have ra : am_R a := am_vh hst
  exact lv_if_eq hx hb hd ht (fun h => k1 ((am_eqI ra am_R0).mp h) H locs ls hW hS hl hv (am_vt hst)) (fun h => k2 (fun z => h ((am_eqI ra am_R0).mpr z)) H locs ls hW hS hl hv (am_vt hst))
theorem s_icmp_ne (C : am_Cx p l e R s mm args below meth c cells slots Q E A y d P) {a b : Int} {off : Int} {t : Nat} (ht : (pc : Int) + off = (t : Int)) (hd : decode (am_mi y).2.1 pc = .ok (.if_icmp .ne off, 3)) (k1 : am_cmp .ne a b → am_at p l e R s mm args below meth c cells slots Q E A y (t) lv (st) m) (k2 : ¬ am_cmp .ne a b → am_at p l e R s mm args below meth c cells slots Q E A y (pc + 3) lv (st) m) : am_at p l e R s mm args below meth c cells slots Q E A y (pc) lv (.inl b :: .inl a :: st) m := by
  obtain ⟨hx, hb, hml, hown, hts, hfr, hlo, hce, hsl, hRO, hK, hret⟩ := id C
  intro H locs ls hW hS hl hv hst
  have ra : am_R a := am_vh (am_vt hst)
  have rb : am_R b := am_vh hst
  exact lv_icmp_ne hx hb hd ht (fun h => k1 ((not_congr (am_eqI ra rb)).mp h) H locs ls hW hS hl hv (am_vt (am_vt hst))) (fun h => k2 (fun z => z ((am_eqI ra rb).mp h)) H locs ls hW hS hl hv (am_vt (am_vt hst)))
theorem s_if_ne (C : am_Cx p l e R s mm args below meth c cells slots Q E A y d P) {a : Int} {off : Int} {t : Nat} (ht : (pc : Int) + off = (t : Int)) (hd : decode (am_mi y).2.1 pc = .ok (.ifCond .ne off, 3)) (k1 : am_cmp .ne a 0 → am_at p l e R s mm args below meth c cells slots Q E A y (t) lv (st) m) (k2 : ¬ am_cmp .ne a 0 → am_at p l e R s mm args below meth c cells slots Q E A y (pc + 3) lv (st) m) : am_at p l e R s mm args below meth c cells slots Q E A y (pc) lv (.inl a :: st) m := by
  obtain ⟨hx, hb, hml, hown, hts, hfr, hlo, hce, hsl, hRO, hK, hret⟩ := id C
  intro H locs ls hW hS hl hv hst
  have ra : am_R a := am_vh hst
  exact lv_if_ne hx hb hd ht (fun h => k1 ((not_congr (am_eqI ra am_R0)).mp h) H locs ls hW hS hl hv (am_vt hst)) (fun h => k2 (fun z => z ((am_eqI ra am_R0).mp h)) H locs ls hW hS hl hv (am_vt hst))
theorem s_icmp_lt (C : am_Cx p l e R s mm args below meth c cells slots Q E A y d P) {a b : Int} {off : Int} {t : Nat} (ht : (pc : Int) + off = (t : Int)) (hd : decode (am_mi y).2.1 pc = .ok (.if_icmp .lt off, 3)) (k1 : am_cmp .lt a b → am_at p l e R s mm args below meth c cells slots Q E A y (t) lv (st) m) (k2 : ¬ am_cmp .lt a b → am_at p l e R s mm args below meth c cells slots Q E A y (pc + 3) lv (st) m) : am_at p l e R s mm args below meth c cells slots Q E A y (pc) lv (.inl b :: .inl a :: st) m := by
  obtain ⟨hx, hb, hml, hown, hts, hfr, hlo, hce, hsl, hRO, hK, hret⟩ := id C
  intro H locs ls hW hS hl hv hst
  have ra : am_R a := am_vh (am_vt hst)
  have rb : am_R b := am_vh hst
  exact lv_icmp_lt hx hb hd ht (fun h => k1 ((am_ltI ra rb).mp h) H locs ls hW hS hl hv (am_vt (am_vt hst))) (fun h => k2 (fun z => h ((am_ltI ra rb).mpr z)) H locs ls hW hS hl hv (am_vt (am_vt hst)))
theorem s_if_lt (C : am_Cx p l e R s mm args below meth c cells slots Q E A y d P) {a : Int} {off : Int} {t : Nat} (ht : (pc : Int) + off = (t : Int)) (hd : decode (am_mi y).2.1 pc = .ok (.ifCond .lt off, 3)) (k1 : am_cmp .lt a 0 → am_at p l e R s mm args below meth c cells slots Q E A y (t) lv (st) m) (k2 : ¬ am_cmp .lt a 0 → am_at p l e R s mm args below meth c cells slots Q E A y (pc + 3) lv (st) m) : am_at p l e R s mm args below meth c cells slots Q E A y (pc) lv (.inl a :: st) m := by
  obtain ⟨hx, hb, hml, hown, hts, hfr, hlo, hce, hsl, hRO, hK, hret⟩ := id C
  intro H locs ls hW hS hl hv hst
  have ra : am_R a := am_vh hst
  exact lv_if_lt hx hb hd ht (fun h => k1 ((am_ltI ra am_R0).mp h) H locs ls hW hS hl hv (am_vt hst)) (fun h => k2 (fun z => h ((am_ltI ra am_R0).mpr z)) H locs ls hW hS hl hv (am_vt hst))
theorem s_icmp_ge (C : am_Cx p l e R s mm args below meth c cells slots Q E A y d P) {a b : Int} {off : Int} {t : Nat} (ht : (pc : Int) + off = (t : Int)) (hd : decode (am_mi y).2.1 pc = .ok (.if_icmp .ge off, 3)) (k1 : am_cmp .ge a b → am_at p l e R s mm args below meth c cells slots Q E A y (t) lv (st) m) (k2 : ¬ am_cmp .ge a b → am_at p l e R s mm args below meth c cells slots Q E A y (pc + 3) lv (st) m) : am_at p l e R s mm args below meth c cells slots Q E A y (pc) lv (.inl b :: .inl a :: st) m := by
  obtain ⟨hx, hb, hml, hown, hts, hfr, hlo, hce, hsl, hRO, hK, hret⟩ := id C
  intro H locs ls hW hS hl hv hst
  have ra : am_R a := am_vh (am_vt hst)
  have rb : am_R b := am_vh hst
  exact lv_icmp_ge hx hb hd ht (fun h => k1 ((am_leI rb ra).mp h) H locs ls hW hS hl hv (am_vt (am_vt hst))) (fun h => k2 (fun z => h ((am_leI rb ra).mpr z)) H locs ls hW hS hl hv (am_vt (am_vt hst)))
theorem s_if_ge (C : am_Cx p l e R s mm args below meth c cells slots Q E A y d P) {a : Int} {off : Int} {t : Nat} (ht : (pc : Int) + off = (t : Int)) (hd : decode (am_mi y).2.1 pc = .ok (.ifCond .ge off, 3)) (k1 : am_cmp .ge a 0 → am_at p l e R s mm args below meth c cells slots Q E A y (t) lv (st) m) (k2 : ¬ am_cmp .ge a 0 → am_at p l e R s mm args below meth c cells slots Q E A y (pc + 3) lv (st) m) : am_at p l e R s mm args below meth c cells slots Q E A y (pc) lv (.inl a :: st) m := by
  obtain ⟨hx, hb, hml, hown, hts, hfr, hlo, hce, hsl, hRO, hK, hret⟩ := id C
  intro H locs ls hW hS hl hv hst
  have ra : am_R a := am_vh hst
  exact lv_if_ge hx hb hd ht (fun h => k1 ((am_leI am_R0 ra).mp h) H locs ls hW hS hl hv (am_vt hst)) (fun h => k2 (fun z => h ((am_leI am_R0 ra).mpr z)) H locs ls hW hS hl hv (am_vt hst))
theorem s_icmp_gt (C : am_Cx p l e R s mm args below meth c cells slots Q E A y d P) {a b : Int} {off : Int} {t : Nat} (ht : (pc : Int) + off = (t : Int)) (hd : decode (am_mi y).2.1 pc = .ok (.if_icmp .gt off, 3)) (k1 : am_cmp .gt a b → am_at p l e R s mm args below meth c cells slots Q E A y (t) lv (st) m) (k2 : ¬ am_cmp .gt a b → am_at p l e R s mm args below meth c cells slots Q E A y (pc + 3) lv (st) m) : am_at p l e R s mm args below meth c cells slots Q E A y (pc) lv (.inl b :: .inl a :: st) m := by
  obtain ⟨hx, hb, hml, hown, hts, hfr, hlo, hce, hsl, hRO, hK, hret⟩ := id C
  intro H locs ls hW hS hl hv hst
  have ra : am_R a := am_vh (am_vt hst)
  have rb : am_R b := am_vh hst
  exact lv_icmp_gt hx hb hd ht (fun h => k1 ((am_ltI rb ra).mp h) H locs ls hW hS hl hv (am_vt (am_vt hst))) (fun h => k2 (fun z => h ((am_ltI rb ra).mpr z)) H locs ls hW hS hl hv (am_vt (am_vt hst)))
theorem s_if_gt (C : am_Cx p l e R s mm args below meth c cells slots Q E A y d P) {a : Int} {off : Int} {t : Nat} (ht : (pc : Int) + off = (t : Int)) (hd : decode (am_mi y).2.1 pc = .ok (.ifCond .gt off, 3)) (k1 : am_cmp .gt a 0 → am_at p l e R s mm args below meth c cells slots Q E A y (t) lv (st) m) (k2 : ¬ am_cmp .gt a 0 → am_at p l e R s mm args below meth c cells slots Q E A y (pc + 3) lv (st) m) : am_at p l e R s mm args below meth c cells slots Q E A y (pc) lv (.inl a :: st) m := by
  obtain ⟨hx, hb, hml, hown, hts, hfr, hlo, hce, hsl, hRO, hK, hret⟩ := id C
  intro H locs ls hW hS hl hv hst
  have ra : am_R a := am_vh hst
  exact lv_if_gt hx hb hd ht (fun h => k1 ((am_ltI am_R0 ra).mp h) H locs ls hW hS hl hv (am_vt hst)) (fun h => k2 (fun z => h ((am_ltI am_R0 ra).mpr z)) H locs ls hW hS hl hv (am_vt hst))
theorem s_icmp_le (C : am_Cx p l e R s mm args below meth c cells slots Q E A y d P) {a b : Int} {off : Int} {t : Nat} (ht : (pc : Int) + off = (t : Int)) (hd : decode (am_mi y).2.1 pc = .ok (.if_icmp .le off, 3)) (k1 : am_cmp .le a b → am_at p l e R s mm args below meth c cells slots Q E A y (t) lv (st) m) (k2 : ¬ am_cmp .le a b → am_at p l e R s mm args below meth c cells slots Q E A y (pc + 3) lv (st) m) : am_at p l e R s mm args below meth c cells slots Q E A y (pc) lv (.inl b :: .inl a :: st) m := by
  obtain ⟨hx, hb, hml, hown, hts, hfr, hlo, hce, hsl, hRO, hK, hret⟩ := id C
  intro H locs ls hW hS hl hv hst
  have ra : am_R a := am_vh (am_vt hst)
  have rb : am_R b := am_vh hst
  exact lv_icmp_le hx hb hd ht (fun h => k1 ((am_leI ra rb).mp h) H locs ls hW hS hl hv (am_vt (am_vt hst))) (fun h => k2 (fun z => h ((am_leI ra rb).mpr z)) H locs ls hW hS hl hv (am_vt (am_vt hst)))
theorem s_if_le (C : am_Cx p l e R s mm args below meth c cells slots Q E A y d P) {a : Int} {off : Int} {t : Nat} (ht : (pc : Int) + off = (t : Int)) (hd : decode (am_mi y).2.1 pc = .ok (.ifCond .le off, 3)) (k1 : am_cmp .le a 0 → am_at p l e R s mm args below meth c cells slots Q E A y (t) lv (st) m) (k2 : ¬ am_cmp .le a 0 → am_at p l e R s mm args below meth c cells slots Q E A y (pc + 3) lv (st) m) : am_at p l e R s mm args below meth c cells slots Q E A y (pc) lv (.inl a :: st) m := by
  obtain ⟨hx, hb, hml, hown, hts, hfr, hlo, hce, hsl, hRO, hK, hret⟩ := id C
  intro H locs ls hW hS hl hv hst
  have ra : am_R a := am_vh hst
  exact lv_if_le hx hb hd ht (fun h => k1 ((am_leI ra am_R0).mp h) H locs ls hW hS hl hv (am_vt hst)) (fun h => k2 (fun z => h ((am_leI ra am_R0).mpr z)) H locs ls hW hS hl hv (am_vt hst))
theorem s_goto (C : am_Cx p l e R s mm args below meth c cells slots Q E A y d P) {off : Int} {t : Nat} (ht : (pc : Int) + off = (t : Int)) (hd : decode (am_mi y).2.1 pc = .ok (.goto off, 3)) (k : am_at p l e R s mm args below meth c cells slots Q E A y (t) lv (st) m) : am_at p l e R s mm args below meth c cells slots Q E A y (pc) lv (st) m := by
  obtain ⟨hx, hb, hml, hown, hts, hfr, hlo, hce, hsl, hRO, hK, hret⟩ := id C
  intro H locs ls hW hS hl hv hst
  exact lv_goto hx hb hd ht (k H locs ls hW hS hl hv hst)
theorem s_tableOut (C : am_Cx p l e R s mm args below meth c cells slots Q E A y d P) {a : Int} {dflt lo hi : Int} {offs : Array Int} {len t : Nat} (h : a < lo ∨ hi < a) (ht : (pc : Int) + dflt = (t : Int)) (hd : decode (am_mi y).2.1 pc = .ok (.tableswitch dflt lo hi offs, len)) (k : am_at p l e R s mm args below meth c cells slots Q E A y (t) lv (st) m) : am_at p l e R s mm args below meth c cells slots Q E A y (pc) lv (.inl a :: st) m := by
  obtain ⟨hx, hb, hml, hown, hts, hfr, hlo, hce, hsl, hRO, hK, hret⟩ := id C
  intro H locs ls hW hS hl hv hst
  exact lv_tableOut hx hb hd (by rw [am_to (am_vh hst)]; exact h) ht (k H locs ls hW hS hl hv (am_vt hst))
theorem s_tableIn (C : am_Cx p l e R s mm args below meth c cells slots Q E A y d P) {a : Int} {dflt lo hi off : Int} {offs : Array Int} {len t : Nat} (h1 : ¬ a < lo) (h2 : ¬ hi < a) (ho : offs[(a - lo).toNat]? = some off) (ht : (pc : Int) + off = (t : Int)) (hd : decode (am_mi y).2.1 pc = .ok (.tableswitch dflt lo hi offs, len)) (k : am_at p l e R s mm args below meth c cells slots Q E A y (t) lv (st) m) : am_at p l e R s mm args below meth c cells slots Q E A y (pc) lv (.inl a :: st) m := by
  obtain ⟨hx, hb, hml, hown, hts, hfr, hlo, hce, hsl, hRO, hK, hret⟩ := id C
  intro H locs ls hW hS hl hv hst
  exact lv_tableIn hx hb hd (by rw [am_to (am_vh hst)]; exact h1) (by rw [am_to (am_vh hst)]; exact h2) (by rw [am_to (am_vh hst)]; exact ho) ht (k H locs ls hW hS hl hv (am_vt hst))
theorem s_lookup (C : am_Cx p l e R s mm args below meth c cells slots Q E A y d P) {a : Int} {dflt off : Int} {ps : Array (Int × Int)} {len t : Nat} (hp : (ps.toList.zip (ps.toList.drop 1)).all (fun (a, next) => a.1 < next.1) = true) (ho : Op.lookupswitch.offset ps.toList dflt a = off) (ht : (pc : Int) + off = (t : Int)) (hd : decode (am_mi y).2.1 pc = .ok (.lookupswitch dflt ps, len)) (k : am_at p l e R s mm args below meth c cells slots Q E A y (t) lv (st) m) : am_at p l e R s mm args below meth c cells slots Q E A y (pc) lv (.inl a :: st) m := by
  obtain ⟨hx, hb, hml, hown, hts, hfr, hlo, hce, hsl, hRO, hK, hret⟩ := id C
  intro H locs ls hW hS hl hv hst
  exact lv_lookup hx hb hd hp (by rw [am_to (am_vh hst)]; exact ho) ht (k H locs ls hW hS hl hv (am_vt hst))
end
