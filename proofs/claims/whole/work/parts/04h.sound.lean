section
variable {p : Program} {l : Launch} {e : Env} {R : Room} {s : State} {mm : MethodId} {args : Array Value} {below : List Frame} {meth : Method} {c : Code} {cells slots : Nat} {Q : State → Prop} {E : am_E} {A : Nat → Prop} {y d : Nat} {P : am_V → am_M → Prop}
  {pc : Nat} {lv : am_L} {r st : List am_V} {m : am_M}
theorem am_lsw_spec {x : Int} {J : Int → Prop} {d : Int} : ∀ {ps : List (Int × Int)} {ns : List Int}, am_lsw x J d ps ns → (∀ n ∈ ns, x ≠ n) → J (am_lkI ps x d)
  | [], ns, h, hn => by
    unfold am_lsw at h
    show J d
    induction ns with
    | nil => exact h
    | cons a ns ih => exact ih (fun n hh => hn n (List.mem_cons_of_mem _ hh)) (h (hn a List.mem_cons_self))
  | (k, t) :: ps, ns, h, hn => by
    unfold am_lsw at h
    unfold am_lkI
    by_cases hx : x = k
    · rw [if_pos hx]; exact h.1 hx
    · rw [if_neg hx]
      exact am_lsw_spec h.2 (fun n hh => by
        rcases List.mem_cons.mp hh with rfl | hh
        · exact hx
        · exact hn n hh)
theorem am_lkI_none {x d : Int} : ∀ {ps : List (Int × Int)}, (∀ q ∈ ps, q.1 ≠ x) → am_lkI ps x d = d
  | [], _ => rfl
  | (k, t) :: ps, h => by
    unfold am_lkI
    rw [if_neg (fun hh => h (k, t) List.mem_cons_self hh.symm)]
    exact am_lkI_none (fun q hq => h q (List.mem_cons_of_mem _ hq))
theorem am_lkI_nn {x d : Int} (hd : 0 ≤ d) : ∀ {ps : List (Int × Int)}, (∀ q ∈ ps, 0 ≤ q.2) → 0 ≤ am_lkI ps x d
  | [], _ => hd
  | (k, t) :: ps, h => by
    unfold am_lkI
    split
    · exact h (k, t) List.mem_cons_self
    · exact am_lkI_nn hd (fun q hq => h q (List.mem_cons_of_mem _ hq))
theorem am_off {x dd : Int} : ∀ {qs : List (Int × Int)}, (∃ q ∈ qs, q.1 = x ∧ Op.lookupswitch.offset qs dd x = q.2) ∨ ((∀ q ∈ qs, q.1 ≠ x) ∧ Op.lookupswitch.offset qs dd x = dd)
  | [] => Or.inr ⟨fun _ h => absurd h List.not_mem_nil, rfl⟩
  | (a, t) :: qs => by
    rw [Op.lookupswitch.offset_cons]
    by_cases h : a = x
    · rw [if_pos h]
      exact Or.inl ⟨(a, t), List.mem_cons_self, h, rfl⟩
    · rw [if_neg h]
      rcases am_off (x := x) (dd := dd) (qs := qs) with ⟨q, h1, h2, h3⟩ | ⟨h1, h2⟩
      · exact Or.inl ⟨q, List.mem_cons_of_mem _ h1, h2, h3⟩
      · refine Or.inr ⟨fun q hq => ?_, h2⟩
        rcases List.mem_cons.mp hq with rfl | hq
        · exact h
        · exact h1 q hq
theorem am_lk_mem {α : Type} : ∀ {l : List (Nat × α)} {i : Nat} {v : α}, am_lk l i = some v → (i, v) ∈ l
  | [], _, _, h => by cases h
  | (k, w) :: r, i, v, h => by
    unfold am_lk at h
    split at h
    · rename_i hb
      cases h
      have := Nat.eq_of_beq_eq_true hb
      subst this
      exact List.mem_cons_self
    · exact List.mem_cons_of_mem _ (am_lk_mem h)
theorem am_pick_mem : ∀ {ks : List Nat} {lv lv2 : am_L}, am_pick lv ks = some lv2 → ∀ q ∈ lv2, q ∈ lv
  | [], lv, lv2, h => by
    cases h
    intro q hq
    cases hq
  | k :: ks, lv, lv2, h => by
    unfold am_pick at h
    split at h
    · cases h
    · rename_i v hv
      split at h
      · cases h
      · rename_i r hr
        cases h
        intro q hq
        rcases List.mem_cons.mp hq with rfl | hq
        · exact am_lvget hv
        · exact am_pick_mem hr q hq
theorem am_at_sub {lv2 : am_L} (hs : ∀ q ∈ lv2, q ∈ lv) (h : am_at p l e R s mm args below meth c cells slots Q E A y pc lv2 st m) : am_at p l e R s mm args below meth c cells slots Q E A y pc lv st m := by
  intro H locs ls hW hS hl hv hst
  refine h H locs ls hW hS ⟨hl.1, hl.2.1, fun q hq => ?_⟩ (fun q hq => hv q (hs q hq)) hst
  obtain ⟨x, hx, rfl⟩ := List.mem_map.mp hq
  exact hl.2.2 _ (List.mem_map.mpr ⟨x, hs x hx, rfl⟩)
theorem am_beq {a b : Nat} : (Nat.beq a b = true) ↔ a = b := ⟨Nat.eq_of_beq_eq_true, fun h => by rw [h]; exact Nat.beq_refl b⟩
theorem am_ble {a b : Nat} : (Nat.ble a b = true) ↔ a ≤ b := ⟨Nat.le_of_ble_eq_true, Nat.ble_eq_true_of_le⟩
theorem am_blt {a b : Nat} : (Nat.blt a b = true) ↔ a < b := am_ble
theorem am_rgf {q k t x : Nat} (hq : q < am_N) (hk : (am_lay q).1 < 100) (he : (am_lay q).2[k]? = some (t, x)) (ht : t ≠ 2) (ht3 : t ≠ 3) : am_rg x = 0 := by
  obtain ⟨hx, h100⟩ := am_idq hq hk he ht
  have e1 : (x - 1000) / 100 = q := by omega
  have e2 : (x - 1000) % 100 = k := by omega
  have e3 : (am_lay q).2.getD k (0, 0) = (t, x) := by rw [List.getD_eq_getElem?_getD, he]; rfl
  unfold am_rg
  rw [if_neg (by omega), e1, e2, e3, if_neg (fun h => ht3 h.1)]
theorem am_rgz {q k x : Nat} (hq : q < am_N) (hk : (am_lay q).1 < 100) (he : (am_lay q).2[k]? = some (3, x)) : am_rg x = 1 := by
  obtain ⟨hx, h100⟩ := am_idq hq hk he (by decide)
  have e1 : (x - 1000) / 100 = q := by omega
  have e2 : (x - 1000) % 100 = k := by omega
  have e3 : (am_lay q).2.getD k (0, 0) = (3, x) := by rw [List.getD_eq_getElem?_getD, he]; rfl
  unfold am_rg
  rw [if_neg (by omega), e1, e2, e3, if_pos ⟨rfl, hk⟩]
theorem am_lenL : ∀ q, q < am_N → am_len q < 2147483648 := by decide +kernel
theorem s_ret (C : am_Cx p l e R s mm args below meth c cells slots Q E A y d P) {i : Instr} {v : am_V} (hd : decode (am_mi y).2.1 pc = .ok (i, 1)) (hrt : am_rtk (am_mi y).2.2.2.1 i = true) (hi : am_isRet i v) (hb2 : am_bool y = true → ∀ z, v = .inl z → z = 0 ∨ z = 1) (hp : P v m) : am_at p l e R s mm args below meth c cells slots Q E A y pc lv (match i with | .return_ => [] | _ => [v]) m := by
  obtain ⟨hx, hb, hml, hown, hts, hfr, hlo, hce, hsl, hRO, hK, hret⟩ := id C
  intro H locs ls hW hS hl hv hst
  have hvok : am_vok v := by
    cases i <;> first | exact hst v List.mem_cons_self | skip
    rcases v with z | z | z
    · rw [show z = 0 from hi]; exact am_R0
    · exact trivial
    · exact trivial
  have h := hret i pc ls H locs m v hd hrt hi hvok hb2 hp hW hS
  unfold am_rst at h
  cases i <;> exact h
theorem am_aldL_spec {i : Int} {k : Nat → Prop} : ∀ {n : Int} {l : List (Nat × Nat)}, am_aldL i k n l → n ≤ i → i < n + (l.length : Int) → k (l.getD (i - n).toNat (0, 0)).1
  | n, [], h, h1, h2 => by simp at h2; omega
  | n, (q, x) :: l, h, h1, h2 => by
    unfold am_aldL at h
    by_cases hn : i = n
    · subst hn
      rw [Int.sub_self]
      exact h.1 rfl
    · have h3 := am_aldL_spec h.2 (by omega) (by rw [List.length_cons] at h2; omega)
      have e : (i - n).toNat = (i - (n + 1)).toNat + 1 := by omega
      rw [e]
      exact h3
theorem am_inv_spec {call : am_Call} {y2 cc : Nat} {K : am_K} (h : am_inv call y2 cc lv st m K) : ∃ (as r : List am_V) (K2 : am_V → am_M → Prop), am_popn (cc % 1000 / 10) [] st = some (as, r) ∧ am_cat r ≤ 8 ∧ (cc / 1000 = 0 ∨ ∃ q as', as = .inr (.inr q) :: as' ∧ ((cc / 1000 = 17 ∧ 1000 ≤ q ∧ q < 1014) ∨ (cc / 1000 ≠ 17 ∧ (am_lay q).1 = cc / 1000 - 1))) ∧ call y2 as m K2 ∧ ∀ v m', K2 v m' → K lv (if cc % 10 = 0 then r else v :: r) m' := by
  unfold am_inv at h
  split at h
  · exact h.elim
  · rename_i as r hp
    split at h
    · exact h.elim
    · rename_i hc
      have key : ∀ X : Prop, am_rcv (cc / 1000) as X → X ∧ (cc / 1000 = 0 ∨ ∃ q as', as = .inr (.inr q) :: as' ∧ ((cc / 1000 = 17 ∧ 1000 ≤ q ∧ q < 1014) ∨ (cc / 1000 ≠ 17 ∧ (am_lay q).1 = cc / 1000 - 1))) := by
        intro X hX
        generalize cc / 1000 = n at hX ⊢
        unfold am_rcv at hX
        split at hX
        · exact ⟨hX, Or.inl rfl⟩
        · split at hX
          · exact ⟨hX.2, Or.inr ⟨_, _, rfl, Or.inl ⟨rfl, hX.1⟩⟩⟩
          · exact hX.elim
        · rename_i n hn
          split at hX
          · split at hX
            · rename_i hb
              exact ⟨hX, Or.inr ⟨_, _, rfl, Or.inr ⟨fun hh => hn (by omega), by rw [am_beq.mp hb]; rfl⟩⟩⟩
            · exact hX.elim
          · exact hX.elim
      obtain ⟨h, hr⟩ := key _ h
      split at h
      · rename_i h0
        exact ⟨as, r, _, hp, am_ble.mp hc, hr, h, fun v m' hv => by rw [if_pos h0]; exact hv⟩
      · rename_i h0
        refine ⟨as, r, _, hp, am_ble.mp hc, hr, h, fun v m' hv => ?_⟩
        rw [if_neg (by omega)]
        rcases v with z | z | z
        · exact hv
        · exact hv.elim
        · exact hv.elim
      · rename_i h0
        refine ⟨as, r, _, hp, am_ble.mp hc, hr, h, fun v m' hv => ?_⟩
        rw [if_neg (by omega)]
        rcases v with z | z | z
        · exact hv.elim
        · exact hv
        · exact hv.elim
      · rename_i h0 h1 h2
        refine ⟨as, r, _, hp, am_ble.mp hc, hr, h, fun v m' hv => ?_⟩
        rw [if_neg h0]
        rcases v with z | z | z
        · exact hv.elim
        · exact hv.elim
        · exact hv
theorem s_min (C : am_Cx p l e R s mm args below meth c cells slots Q E A y (d + 1) P) {i cc w1 w2 w3 w4 : Nat} {a b : Int} (hf : (i, 196, 0, cc, w1, w2, w3, w4) ∈ am_mt.getD (am_mi y).2.2.2.2 []) (hcat : am_cat st ≤ 8) (hd : decode (am_mi y).2.1 pc = .ok (.invokestatic i, 3)) (k : am_at p l e R s mm args below meth c cells slots Q E A y (pc + 3) lv (.inl (if b < a then b else a) :: st) m) : am_at p l e R s mm args below meth c cells slots Q E A y pc lv (.inl b :: .inl a :: st) m := by
  obtain ⟨hx, hb, hml, hown, hts, hfr, hlo, hce, hsl, hRO, hK, hret⟩ := id C
  intro H locs ls hW hS hl hv hst
  have h1 := am_all17 (f := fun o => am_mt.getD o []) (List.all_eq_true.mpr fun o ho => am_mt_ok o (List.mem_range.mp ho)) am_mt17 hf
  simp only [am_mck, Bool.and_eq_true, decide_eq_true_eq, Bool.or_eq_true] at h1
  obtain ⟨⟨⟨⟨⟨⟨⟨⟨⟨⟨g1, g2⟩, g3⟩, g4⟩, g5⟩, g6⟩, g7⟩, g8⟩, g9⟩, g10⟩, g11⟩ := h1
  have ra : am_R a := am_vh (am_vt hst)
  have rb : am_R b := am_vh hst
  have rr : am_R (if b < a then b else a) := by split <;> assumption
  have k := k H locs ls hW hS hl hv (am_vc rr (am_vt (am_vt hst)))
  have e1 : Int32.ofInt (if b < a then b else a) = if Int32.ofInt b < Int32.ofInt a then Int32.ofInt b else Int32.ofInt a := by
    by_cases hc : b < a
    · rw [if_pos hc, if_pos ((am_ltI rb ra).mpr hc)]
    · rw [if_neg hc, if_neg (fun hh => hc ((am_ltI rb ra).mp hh))]
  simp only [List.map_cons, am_cv, e1] at k
  exact va_mmin hx hb (hml.trans hl.1.symm) hown (hts _ (am_big_of g1 rfl)) (hts _ (am_big_of g2 rfl)) (hts _ (am_big_of g4 rfl)) (hts _ (cwb_196 : am_cwP 196)) (by omega) (by rw [am_cat_sum]; omega) hce hsl hd k
theorem s_max (C : am_Cx p l e R s mm args below meth c cells slots Q E A y (d + 1) P) {i cc w1 w2 w3 w4 : Nat} {a b : Int} (hf : (i, 197, 0, cc, w1, w2, w3, w4) ∈ am_mt.getD (am_mi y).2.2.2.2 []) (hcat : am_cat st ≤ 8) (hd : decode (am_mi y).2.1 pc = .ok (.invokestatic i, 3)) (k : am_at p l e R s mm args below meth c cells slots Q E A y (pc + 3) lv (.inl (if a < b then b else a) :: st) m) : am_at p l e R s mm args below meth c cells slots Q E A y pc lv (.inl b :: .inl a :: st) m := by
  obtain ⟨hx, hb, hml, hown, hts, hfr, hlo, hce, hsl, hRO, hK, hret⟩ := id C
  intro H locs ls hW hS hl hv hst
  have h1 := am_all17 (f := fun o => am_mt.getD o []) (List.all_eq_true.mpr fun o ho => am_mt_ok o (List.mem_range.mp ho)) am_mt17 hf
  simp only [am_mck, Bool.and_eq_true, decide_eq_true_eq, Bool.or_eq_true] at h1
  obtain ⟨⟨⟨⟨⟨⟨⟨⟨⟨⟨g1, g2⟩, g3⟩, g4⟩, g5⟩, g6⟩, g7⟩, g8⟩, g9⟩, g10⟩, g11⟩ := h1
  have ra : am_R a := am_vh (am_vt hst)
  have rb : am_R b := am_vh hst
  have rr : am_R (if a < b then b else a) := by split <;> assumption
  have k := k H locs ls hW hS hl hv (am_vc rr (am_vt (am_vt hst)))
  have e1 : Int32.ofInt (if a < b then b else a) = if Int32.ofInt a < Int32.ofInt b then Int32.ofInt b else Int32.ofInt a := by
    by_cases hc : a < b
    · rw [if_pos hc, if_pos ((am_ltI ra rb).mpr hc)]
    · rw [if_neg hc, if_neg (fun hh => hc ((am_ltI ra rb).mp hh))]
  simp only [List.map_cons, am_cv, e1] at k
  exact va_mmax hx hb (hml.trans hl.1.symm) hown (hts _ (am_big_of g1 rfl)) (hts _ (am_big_of g2 rfl)) (hts _ (am_big_of g4 rfl)) (hts _ (cwb_197 : am_cwP 197)) (by omega) (by rw [am_cat_sum]; omega) hce hsl hd k
theorem am_any {α : Type} {l : List α} {f : α → Bool} (h : l.any f = true) : ∃ x, x ∈ l ∧ f x = true := List.any_eq_true.mp h
set_option maxHeartbeats 4000000 in
set_option maxRecDepth 20000 in
theorem am_stepS (C : am_Cx p l e R s mm args below meth c cells slots Q E A y (d + 1) P) (hLs : am_R (am_sc E).1) {x : am_I} (hone : am_one (am_mi y).2.2.2.1 (am_mi y).2.2.2.2 (am_mi y).2.2.1 (am_mi y).2.1 x = true) {b : Bool} (hbb : b = am_bool y) {K : am_K} {J : Nat → am_K}
    (hK : ∀ lv st m, K lv st m → am_at p l e R s mm args below meth c cells slots Q E A y (x.1 + x.2.2.1) lv st m) (hJ : ∀ t lv st m, J t lv st m → am_at p l e R s mm args below meth c cells slots Q E A y t lv st m) (h : am_step (am_sc E) (am_Ok d) b P x.2.2.2 lv st m K J) : am_at p l e R s mm args below meth c cells slots Q E A y x.1 lv st m := by
  obtain ⟨pc, real, len, abs⟩ := x
  simp only at hK h ⊢
  simp only [am_one] at hone
  split at hone
  · rename_i t
    simp only [decide_eq_true_eq] at hone
    have h := hJ _ _ _ _ h
    rw [← hone] at h
    exact h
  · simp only [Bool.and_eq_true, decide_eq_true_eq] at hone
    obtain ⟨hd, hrel⟩ := hone
    unfold am_rel at hrel
    split at hrel
    all_goals simp only [Bool.and_eq_true, decide_eq_true_eq, am_beq, am_blt, am_ble, am_rng, Bool.false_eq_true] at hrel
    all_goals simp only [am_step] at h
    · obtain ⟨⟨h1, h2⟩, rfl⟩ := hrel
      exact s_iconst C h1 h2 hd (hK _ _ _ h)
    · obtain ⟨⟨h1, h2⟩, rfl⟩ := hrel
      exact s_bipush C h1 h2 hd (hK _ _ _ h)
    · obtain ⟨⟨h1, h2⟩, rfl⟩ := hrel
      exact s_sipush C h1 h2 hd (hK _ _ _ h)
    · obtain ⟨⟨h1, h2⟩, rfl⟩ := hrel
      obtain ⟨⟨i1, z1, w1⟩, g1, g2⟩ := am_any h1
      simp only [Bool.and_eq_true, decide_eq_true_eq, am_beq] at g2
      obtain ⟨rfl, rfl⟩ := g2
      exact s_ldc C (am_clink g1) h2 hd (hK _ _ _ h)
    · obtain ⟨⟨h1, h2⟩, rfl⟩ := hrel
      obtain ⟨⟨i1, z1, w1⟩, g1, g2⟩ := am_any h1
      simp only [Bool.and_eq_true, decide_eq_true_eq, am_beq] at g2
      obtain ⟨rfl, rfl⟩ := g2
      exact s_ldcw C (am_clink g1) h2 hd (hK _ _ _ h)
    · obtain ⟨⟨h0, h1⟩, rfl⟩ := hrel
      obtain ⟨⟨i1, n1⟩, g1, g2⟩ := am_any h1
      simp only [Bool.and_eq_true, am_beq] at g2
      obtain ⟨rfl, rfl⟩ := g2
      exact s_ldcS C (by rw [h0]; rfl) g1 hd (hK _ _ _ h)
    · obtain ⟨rfl, rfl⟩ := hrel
      exact s_lconst C hd (hK _ _ _ h)
    · obtain ⟨h1, rfl⟩ := hrel
      obtain ⟨⟨i1, n1, w1⟩, g1, g2⟩ := am_any h1
      simp only [Bool.and_eq_true, am_beq] at g2
      obtain ⟨rfl, rfl⟩ := g2
      exact s_ldc2 C (am_llink g1) hd (hK _ _ _ h)
    · obtain ⟨h1, rfl⟩ := hrel
      unfold am_oi at h
      split at h
      · rename_i z hz
        exact s_iloadn C h1 hz hd (hK _ _ _ h)
      · exact h.elim
    · obtain ⟨h1, rfl⟩ := hrel
      unfold am_ol at h
      split at h
      · rename_i z hz
        exact s_lloadn C h1 hz hd (hK _ _ _ h)
      · exact h.elim
    · obtain ⟨h1, rfl⟩ := hrel
      unfold am_or' at h
      split at h
      · rename_i z hz
        exact s_aloadn C h1 hz hd (hK _ _ _ h)
      · exact h.elim
    · obtain ⟨rfl, rfl⟩ := hrel
      unfold am_oi at h
      split at h
      · rename_i z hz
        exact s_iload C hz hd (hK _ _ _ h)
      · exact h.elim
    · obtain ⟨rfl, rfl⟩ := hrel
      unfold am_ol at h
      split at h
      · rename_i z hz
        exact s_lload C hz hd (hK _ _ _ h)
      · exact h.elim
    · obtain ⟨rfl, rfl⟩ := hrel
      unfold am_or' at h
      split at h
      · rename_i z hz
        exact s_aload C hz hd (hK _ _ _ h)
      · exact h.elim
    · obtain ⟨⟨h1, h2⟩, rfl⟩ := hrel
      unfold am_i1 at h
      split at h
      · exact s_istoren C h1 h2 hd (hK _ _ _ h)
      · exact h.elim
    · obtain ⟨⟨h1, h2⟩, rfl⟩ := hrel
      unfold am_l1 at h
      split at h
      · exact s_lstoren C h1 h2 hd (hK _ _ _ h)
      · exact h.elim
    · obtain ⟨⟨h1, h2⟩, rfl⟩ := hrel
      unfold am_r1 at h
      split at h
      · exact s_astoren C h1 h2 hd (hK _ _ _ h)
      · exact h.elim
    · obtain ⟨⟨rfl, h2⟩, rfl⟩ := hrel
      unfold am_i1 at h
      split at h
      · exact s_istore C h2 hd (hK _ _ _ h)
      · exact h.elim
    · obtain ⟨⟨rfl, h2⟩, rfl⟩ := hrel
      unfold am_l1 at h
      split at h
      · exact s_lstore C h2 hd (hK _ _ _ h)
      · exact h.elim
    · obtain ⟨⟨rfl, h2⟩, rfl⟩ := hrel
      unfold am_r1 at h
      split at h
      · exact s_astore C h2 hd (hK _ _ _ h)
      · exact h.elim
    · obtain ⟨⟨⟨rfl, rfl⟩, h2⟩, rfl⟩ := hrel
      unfold am_oi at h
      split at h
      · rename_i z hz
        exact s_iinc C hz h2 h.1 hd (hK _ _ _ h.2)
      · exact h.elim
    · obtain ⟨h1, rfl⟩ := hrel
      obtain ⟨⟨i1, n1, f1, w1⟩, g1, g2⟩ := am_any h1
      simp only [Bool.and_eq_true, am_beq] at g2
      obtain ⟨rfl, rfl⟩ := g2
      unfold am_r1 at h
      split at h
      · unfold am_gf at h
        split at h
        · rename_i hg
          exact s_getfield (v := .inl _) C g1 hg (by decide) rfl (fun hM => hM.R _ _) hd (hK _ _ _ h)
        · rename_i hg
          exact s_getfield (v := .inr (.inl _)) C g1 hg (by decide) rfl (fun _ => trivial) hd (hK _ _ _ h)
        · rename_i hg
          exact s_getfield (v := .inr (.inr _)) C g1 hg (by decide) rfl (fun _ => trivial) hd (hK _ _ _ h)
        · rename_i hg
          exact s_getfield (v := .inl _) C g1 hg (by decide) rfl (fun hM => hM.R _ _) hd (hK _ _ _ h)
        · exact h.elim
      · exact h.elim
    · obtain ⟨h1, rfl⟩ := hrel
      obtain ⟨⟨i1, n1, f1, w1⟩, g1, g2⟩ := am_any h1
      simp only [Bool.and_eq_true, am_beq] at g2
      obtain ⟨rfl, rfl⟩ := g2
      unfold am_pf at h
      split at h
      · rename_i v q r
        split at h
        · rename_i x hg
          have hg' := am_fld_spec hg (by decide)
          have hk100 : (am_lay q).1 < 100 := by rw [hg'.2.1]; have := (am_flink g1).1; omega
          refine s_putfield C g1 hg (by decide) (by decide) (am_wr1 m x 0 v) (fun _ _ => rfl) (by show Value.int (Int32.ofInt ((am_wr m x 0 v).1 x 0)) = _; rw [am_wr_self]; rfl) ?_ (fun hM hv => hM.wr ?_) hd (hK _ _ _ h)
          · intro ty hty
            rcases hty with ⟨-, rfl⟩ | ⟨h0, -⟩ | ⟨h0, -⟩
            · exact ⟨rfl, rfl⟩
            · cases h0
            · cases h0
          · have hx := am_idq hg'.1 hk100 hg'.2.2 (by decide)
            rw [am_rgf hg'.1 hk100 hg'.2.2 (by decide) (by decide)]
            exact hv
        · rename_i x hg
          have hg' := am_fld_spec hg (by decide)
          have hk100 : (am_lay q).1 < 100 := by rw [hg'.2.1]; have := (am_flink g1).1; omega
          refine s_putfield C g1 hg (by decide) (by decide) (am_wr1 m x 0 v) (fun _ _ => rfl) (by show Value.int (Int32.ofInt ((am_wr m x 0 v).1 x 0)) = _; rw [am_wr_self]; rfl) ?_ (fun hM hv => hM.wr ?_) hd (hK _ _ _ h.2)
          · intro ty hty
            rcases hty with ⟨h0, -⟩ | ⟨h0, -⟩ | ⟨-, rfl⟩
            · cases h0
            · cases h0
            · exact ⟨(am_nb v h.1).1, (am_nb v h.1).2.1⟩
          · rw [am_rgz hg'.1 hk100 hg'.2.2]
            exact h.1
        · exact h.elim
      · rename_i v q r
        split at h
        · rename_i x hg
          refine s_putfield (m2 := am_wl m x 0 v) C g1 hg (by decide) (by decide) (fun _ _ => rfl) (am_wl2 m x 0 v) (by show Value.long ((am_wl m x 0 v).2 x 0) = _; rw [am_wl_self]; rfl) ?_ (fun hM hv => hM.wl) hd (hK _ _ _ h)
          intro ty hty
          rcases hty with ⟨h0, -⟩ | ⟨-, rfl⟩ | ⟨h0, -⟩
          · cases h0
          · exact ⟨rfl, rfl⟩
          · cases h0
        · exact h.elim
      · exact h.elim
    · obtain ⟨h1, rfl⟩ := hrel
      obtain ⟨⟨i1, n1, f1, w1⟩, g1, g2⟩ := am_any h1
      simp only [Bool.and_eq_true, am_beq] at g2
      obtain ⟨rfl, rfl⟩ := g2
      exact s_getstatic C g1 hd (hK _ _ _ h)
    · obtain ⟨⟨⟨rfl, h1⟩, h2⟩, rfl⟩ := hrel
      unfold am_i1 at h
      split at h
      · rename_i cnd off t _ _ a r
        have ht : (pc : Int) + off = ((t.toNat : Nat) : Int) := h1.trans (Int.toNat_of_nonneg h2).symm
        cases cnd
        · exact s_if_eq C ht hd (fun hh => hJ _ _ _ _ (h.1 hh)) (fun hh => hK _ _ _ (h.2 hh))
        · exact s_if_ne C ht hd (fun hh => hJ _ _ _ _ (h.1 hh)) (fun hh => hK _ _ _ (h.2 hh))
        · exact s_if_lt C ht hd (fun hh => hJ _ _ _ _ (h.1 hh)) (fun hh => hK _ _ _ (h.2 hh))
        · exact s_if_ge C ht hd (fun hh => hJ _ _ _ _ (h.1 hh)) (fun hh => hK _ _ _ (h.2 hh))
        · exact s_if_gt C ht hd (fun hh => hJ _ _ _ _ (h.1 hh)) (fun hh => hK _ _ _ (h.2 hh))
        · exact s_if_le C ht hd (fun hh => hJ _ _ _ _ (h.1 hh)) (fun hh => hK _ _ _ (h.2 hh))
      · exact h.elim
    · obtain ⟨⟨⟨rfl, h1⟩, h2⟩, rfl⟩ := hrel
      unfold am_i2 at h
      split at h
      · rename_i cnd off t _ _ b a r
        have ht : (pc : Int) + off = ((t.toNat : Nat) : Int) := h1.trans (Int.toNat_of_nonneg h2).symm
        cases cnd
        · exact s_icmp_eq C ht hd (fun hh => hJ _ _ _ _ (h.1 hh)) (fun hh => hK _ _ _ (h.2 hh))
        · exact s_icmp_ne C ht hd (fun hh => hJ _ _ _ _ (h.1 hh)) (fun hh => hK _ _ _ (h.2 hh))
        · exact s_icmp_lt C ht hd (fun hh => hJ _ _ _ _ (h.1 hh)) (fun hh => hK _ _ _ (h.2 hh))
        · exact s_icmp_ge C ht hd (fun hh => hJ _ _ _ _ (h.1 hh)) (fun hh => hK _ _ _ (h.2 hh))
        · exact s_icmp_gt C ht hd (fun hh => hJ _ _ _ _ (h.1 hh)) (fun hh => hK _ _ _ (h.2 hh))
        · exact s_icmp_le C ht hd (fun hh => hJ _ _ _ _ (h.1 hh)) (fun hh => hK _ _ _ (h.2 hh))
      · exact h.elim
    · obtain ⟨⟨h1, h2⟩, rfl⟩ := hrel
      exact s_goto C (h1.trans (Int.toNat_of_nonneg h2).symm) hd (hJ _ _ _ _ h)
    · obtain ⟨⟨⟨h1, h2⟩, h3⟩, h4⟩ := hrel
      unfold am_i1 at h
      split at h
      · rename_i dd lo hi offs d2 ps _ _ a r
        have hj := am_lsw_spec h (fun n hn => absurd hn List.not_mem_nil)
        have h3' : ∀ q ∈ ps.toList, (lo ≤ q.1 ∧ q.1 ≤ hi) ∧ 0 ≤ q.2 := fun q hq => by
          have := List.all_eq_true.mp h3 q hq
          simp only [Bool.and_eq_true, decide_eq_true_eq] at this
          exact this
        have hnn : 0 ≤ am_lkI ps.toList a d2 := am_lkI_nn h2 (fun q hq => (h3' q hq).2)
        by_cases hr : a < lo ∨ hi < a
        · rw [am_lkI_none (fun q hq hh => by have := h3' q hq; omega)] at hj
          exact s_tableOut C hr (h1.trans (Int.toNat_of_nonneg h2).symm) hd (hJ _ _ _ _ hj)
        · have hj4 := List.all_eq_true.mp h4 (a - lo).toNat (List.mem_range.mpr (by omega))
          split at hj4
          · rename_i of hof
            simp only [decide_eq_true_eq] at hj4
            rw [show lo + (((a - lo).toNat : Nat) : Int) = a by omega] at hj4
            exact s_tableIn C (fun hh => hr (Or.inl hh)) (fun hh => hr (Or.inr hh)) hof (hj4.trans (Int.toNat_of_nonneg hnn).symm) hd (hJ _ _ _ _ hj)
          · cases hj4
      · exact h.elim
    · obtain ⟨⟨⟨⟨h1, h2⟩, h3⟩, h4⟩, h5⟩ := hrel
      unfold am_i1 at h
      split at h
      · rename_i dd qs d2 ps _ _ a r
        have hj := am_lsw_spec h (fun n hn => absurd hn List.not_mem_nil)
        have h4' : ∀ q ∈ ps.toList, 0 ≤ q.2 ∧ ∃ x ∈ qs.toList, x.1 = q.1 := fun q hq => by
          have := List.all_eq_true.mp h4 q hq
          simp only [Bool.and_eq_true, decide_eq_true_eq] at this
          obtain ⟨x, hx1, hx2⟩ := am_any this.2
          exact ⟨this.1, x, hx1, of_decide_eq_true hx2⟩
        have hnn : 0 ≤ am_lkI ps.toList a d2 := am_lkI_nn h2 (fun q hq => (h4' q hq).1)
        refine s_lookup C h3 rfl (t := (am_lkI ps.toList a d2).toNat) ?_ hd (hJ _ _ _ _ hj)
        rw [Int.toNat_of_nonneg hnn]
        rcases am_off (x := a) (dd := dd) (qs := qs.toList) with ⟨q, g1, g2, g3⟩ | ⟨g1, g2⟩
        · have := of_decide_eq_true (List.all_eq_true.mp h5 q g1)
          rw [g3, this, g2]
        · rw [g2, h1, am_lkI_none (fun q hq hh => by
            obtain ⟨x, hx1, hx2⟩ := (h4' q hq).2
            exact g1 x hx1 (hx2.trans hh))]
      · exact h.elim
    · obtain ⟨h1, rfl⟩ := hrel
      obtain ⟨⟨i1, y1, k1, c1, w1, w2, w3, w4⟩, g1, g2⟩ := am_any h1
      simp only [Bool.and_eq_true, am_beq, am_ble, am_blt] at g2
      obtain ⟨⟨⟨rfl, rfl⟩, g3⟩, rfl⟩ := g2
      obtain ⟨as, r, K2, i1, i2, i3, i4, i5⟩ := am_inv_spec h
      exact s_call C g1 (Or.inr ⟨by omega, rfl⟩) i1 i2 i3 i4 hd (fun v m' hv => hK _ _ _ (i5 v m' hv))
    · obtain ⟨h1, rfl⟩ := hrel
      obtain ⟨⟨i1, y1, k1, c1, w1, w2, w3, w4⟩, g1, g2⟩ := am_any h1
      simp only [Bool.and_eq_true, am_beq, am_ble, am_blt] at g2
      obtain ⟨⟨⟨rfl, rfl⟩, g3⟩, rfl⟩ := g2
      obtain ⟨as, r, K2, i1, i2, i3, i4, i5⟩ := am_inv_spec h
      exact s_call C g1 (Or.inl ⟨g3, rfl⟩) i1 i2 i3 i4 hd (fun v m' hv => hK _ _ _ (i5 v m' hv))
    · obtain ⟨h1, rfl⟩ := hrel
      obtain ⟨⟨i1, y1, k1, c1, w1, w2, w3, w4⟩, g1, g2⟩ := am_any h1
      simp only [Bool.and_eq_true, am_beq] at g2
      obtain ⟨⟨rfl, rfl⟩, rfl⟩ := g2
      unfold am_i2s at h
      split at h
      · split at h
        · rename_i hc
          exact s_min C g1 (am_ble.mp hc) hd (hK _ _ _ h)
        · exact h.elim
      · exact h.elim
    · obtain ⟨h1, rfl⟩ := hrel
      obtain ⟨⟨i1, y1, k1, c1, w1, w2, w3, w4⟩, g1, g2⟩ := am_any h1
      simp only [Bool.and_eq_true, am_beq] at g2
      obtain ⟨⟨rfl, rfl⟩, rfl⟩ := g2
      unfold am_i2s at h
      split at h
      · split at h
        · rename_i hc
          exact s_max C g1 (am_ble.mp hc) hd (hK _ _ _ h)
        · exact h.elim
      · exact h.elim
    · obtain ⟨h1, rfl⟩ := hrel
      obtain ⟨⟨i1, w1⟩, g1, g2⟩ := am_any h1
      simp only [am_beq] at g2
      subst g2
      unfold am_cp at h
      split at h
      · split at h
        · split at h
          · rename_i hk
            simp only [Bool.and_eq_true, am_beq] at hk
            obtain ⟨rfl, hk⟩ := hk
            exact s_copyt C g1 hk h.1 h.2.1 h.2.2.1 h.2.2.2.1 h.2.2.2.2.1 (by omega) hd (hK _ _ _ h.2.2.2.2.2)
          · exact h.elim
        · split at h
          · rename_i hk
            simp only [Bool.and_eq_true, am_beq] at hk
            exact s_copyi C g1 hk.1 hk.2 h.1 h.2.1 h.2.2.1 h.2.2.2.1 h.2.2.2.2.1 (by omega) hd (hK _ _ _ h.2.2.2.2.2)
          · split at h
            · rename_i hk
              simp only [Bool.and_eq_true, am_beq] at hk
              exact s_copyl C g1 hk.1 hk.2 h.1 h.2.1 h.2.2.1 h.2.2.2.1 h.2.2.2.2.1 (by omega) hd (hK _ _ _ h.2.2.2.2.2)
            · exact h.elim
      · exact h.elim
    · subst hrel
      unfold am_i2 at h
      split at h
      · exact s_iadd C h.1 hd (hK _ _ _ h.2)
      · exact h.elim
    · subst hrel
      unfold am_i2 at h
      split at h
      · exact s_isub C h.1 hd (hK _ _ _ h.2)
      · exact h.elim
    · subst hrel
      unfold am_i2 at h
      split at h
      · exact s_imul C h.1 hd (hK _ _ _ h.2)
      · exact h.elim
    · subst hrel
      unfold am_i2 at h
      split at h
      · exact s_idiv C h.1 h.2.1 hd (hK _ _ _ h.2.2)
      · exact h.elim
    · subst hrel
      unfold am_i2 at h
      split at h
      · exact s_irem C h.1 h.2.1 hd (hK _ _ _ h.2.2)
      · exact h.elim
    · subst hrel
      unfold am_i2 at h
      split at h
      · exact s_iand C hd (hK _ _ _ h)
      · exact h.elim
    · subst hrel
      unfold am_i2 at h
      split at h
      · exact s_ior C hd (hK _ _ _ h)
      · exact h.elim
    · subst hrel
      unfold am_i2 at h
      split at h
      · exact s_ixor C hd (hK _ _ _ h)
      · exact h.elim
    · subst hrel
      unfold am_i2 at h
      split at h
      · exact s_ishl C hd (hK _ _ _ h)
      · exact h.elim
    · subst hrel
      unfold am_i2 at h
      split at h
      · exact s_ishr C hd (hK _ _ _ h)
      · exact h.elim
    · subst hrel
      unfold am_i2 at h
      split at h
      · exact s_iushr C hd (hK _ _ _ h)
      · exact h.elim
    · subst hrel
      unfold am_i1 at h
      split at h
      · exact s_i2b C hd (hK _ _ _ h)
      · exact h.elim
    · subst hrel
      unfold am_i1 at h
      split at h
      · exact s_i2l C hd (hK _ _ _ h)
      · exact h.elim
    · subst hrel
      unfold am_l1 at h
      split at h
      · exact s_l2i C hd (hK _ _ _ h)
      · exact h.elim
    · subst hrel
      unfold am_l2 at h
      split at h
      · exact s_ladd C hd (hK _ _ _ h)
      · exact h.elim
    · subst hrel
      unfold am_l2 at h
      split at h
      · exact s_lsub C hd (hK _ _ _ h)
      · exact h.elim
    · subst hrel
      unfold am_l2 at h
      split at h
      · exact s_lmul C hd (hK _ _ _ h)
      · exact h.elim
    · subst hrel
      unfold am_l2 at h
      split at h
      · exact s_land C hd (hK _ _ _ h)
      · exact h.elim
    · subst hrel
      unfold am_l2 at h
      split at h
      · exact s_lor C hd (hK _ _ _ h)
      · exact h.elim
    · subst hrel
      unfold am_l2 at h
      split at h
      · exact s_lxor C hd (hK _ _ _ h)
      · exact h.elim
    · subst hrel
      unfold am_l1 at h
      split at h
      · exact s_lneg C hd (hK _ _ _ h)
      · exact h.elim
    · subst hrel
      unfold am_li at h
      split at h
      · exact s_lshl C hd (hK _ _ _ h)
      · exact h.elim
    · subst hrel
      unfold am_li at h
      split at h
      · exact s_lshr C hd (hK _ _ _ h)
      · exact h.elim
    · subst hrel
      unfold am_li at h
      split at h
      · exact s_lushr C hd (hK _ _ _ h)
      · exact h.elim
    · subst hrel
      unfold am_l2 at h
      split at h
      · exact s_lcmp C hd (hK _ _ _ h)
      · exact h.elim
    · subst hrel
      unfold am_dup at h
      split at h
      · split at h
        · exact h.elim
        · rename_i hv
          exact s_dup C hv hd (hK _ _ _ h)
      · exact h.elim
    · subst hrel
      unfold am_dup2 at h
      split at h
      · split at h
        · rename_i hv
          exact s_dup2l C hv hd (hK _ _ _ h)
        · rename_i hv
          split at h
          · split at h
            · exact h.elim
            · rename_i hw
              exact s_dup2s C hv hw hd (hK _ _ _ h)
          · exact h.elim
      · exact h.elim
    · subst hrel
      unfold am_pop at h
      split at h
      · split at h
        · exact h.elim
        · rename_i hv
          exact s_pop C hv hd (hK _ _ _ h)
      · exact h.elim
    · subst hrel
      unfold am_ri at h
      split at h
      · unfold am_ild at h
        split at h
        · rename_i hq
          have := am_beq.mp hq
          subst this
          exact s_scriptload C h.1 h.2.1 hd (hK _ _ _ h.2.2)
        · split at h
          · rename_i hq
            simp only [Bool.and_eq_true, am_ble] at hq
            exact s_tabload C hq h.1 h.2.1 hd (hK _ _ _ h.2.2)
          · split at h
            · rename_i hq
              exact s_iaload C (am_beq.mp hq) h.1 h.2.1 hd (hK _ _ _ h.2.2)
            · exact h.elim
      · exact h.elim
    · subst hrel
      unfold am_ri at h
      split at h
      · unfold am_bld at h
        split at h
        · rename_i hq
          simp only [Bool.or_eq_true, am_beq] at hq
          rcases hq with hq | hq
          · exact s_zaload C hq h.1 h.2.1 hd (hK _ _ _ h.2.2)
          · exact s_baload C hq h.1 h.2.1 hd (hK _ _ _ h.2.2)
        · exact h.elim
      · exact h.elim
    · subst hrel
      unfold am_ri at h
      split at h
      · unfold am_lld at h
        split at h
        · rename_i hq
          exact s_laload C (am_beq.mp hq) h.1 h.2.1 hd (hK _ _ _ h.2.2)
        · exact h.elim
      · exact h.elim
    · subst hrel
      unfold am_ri at h
      split at h
      · unfold am_ald at h
        split at h
        · rename_i hq
          have hk := am_aldL_spec (n := 0) h.2.2 (by simpa using h.1) (by simpa using h.2.1)
          rw [Int.sub_zero] at hk
          exact s_aaload C (am_beq.mp hq) h.1 h.2.1 rfl hd (hK _ _ _ hk)
        · exact h.elim
      · exact h.elim
    · subst hrel
      unfold am_rii at h
      split at h
      · unfold am_ist at h
        split at h
        · rename_i hq
          exact s_iastore C (am_beq.mp hq) h.1 h.2.1 hd (hK _ _ _ h.2.2)
        · exact h.elim
      · exact h.elim
    · subst hrel
      unfold am_rii at h
      split at h
      · unfold am_bst at h
        split at h
        · rename_i hq
          exact s_zastore C (am_beq.mp hq) h.1 h.2.1 h.2.2.1 hd (hK _ _ _ h.2.2.2)
        · split at h
          · rename_i hq
            exact s_bastore C (am_beq.mp hq) h.1 h.2.1 h.2.2.1 hd (hK _ _ _ h.2.2.2)
          · exact h.elim
      · exact h.elim
    · subst hrel
      unfold am_ril at h
      split at h
      · unfold am_lst at h
        split at h
        · rename_i hq
          exact s_lastore C (am_beq.mp hq) h.1 h.2.1 hd (hK _ _ _ h.2.2)
        · exact h.elim
      · exact h.elim
    · subst hrel
      unfold am_r1 at h
      split at h
      · unfold am_al at h
        split at h
        · rename_i hq
          have := am_beq.mp hq
          subst this
          exact s_scriptlen C hd hLs (hK _ _ _ h)
        · split at h
          · rename_i hq
            simp only [Bool.and_eq_true, am_ble] at hq
            exact s_tablen C hq hd (hK _ _ _ h)
          · split at h
            · rename_i hq
              simp only [Bool.and_eq_true, am_ble] at hq
              exact s_arrlen C hq (am_lenL _ (am_lay_lt (by omega))) hd (hK _ _ _ h)
            · exact h.elim
      · exact h.elim
    · obtain ⟨rfl, hrt⟩ := hrel
      split at h
      · split at h
        · exact s_ret C (i := .ireturn) (v := .inl _) hd hrt trivial (fun _ z hz => by cases hz; exact h.1) h.2
        · refine s_ret C (i := .ireturn) (v := .inl _) hd hrt trivial (fun hz => ?_) h
          rw [← hbb] at hz
          cases hz
      · exact h.elim
    · obtain ⟨rfl, hrt⟩ := hrel
      split at h
      · exact s_ret C (i := .lreturn) (v := .inr (.inl _)) hd hrt trivial (fun _ z hz => by cases hz) h
      · exact h.elim
    · obtain ⟨rfl, hrt⟩ := hrel
      split at h
      · exact s_ret C (i := .areturn) (v := .inr (.inr _)) hd hrt trivial (fun _ z hz => by cases hz) h
      · exact h.elim
    · obtain ⟨rfl, hrt⟩ := hrel
      split at h
      · exact s_ret C (i := .return_) (v := .inl 0) hd hrt rfl (fun _ z hz => by cases hz; exact Or.inl rfl) h
      · exact h.elim
end
