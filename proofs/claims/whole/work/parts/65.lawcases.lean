/-! THE LAW: its cases (written by wip/gen65.py) -/
theorem am_scR (E : am_E) (i : Int) : am_R ((am_sc E).2 i) := ⟨by have := Int32.le_toInt (E.2.2.2.1.2 i.toNat); show -2147483648 ≤ (E.2.2.2.1.2 i.toNat).toInt; omega, by have := Int32.toInt_lt (E.2.2.2.1.2 i.toNat); show (E.2.2.2.1.2 i.toNat).toInt ≤ 2147483647; omega⟩
theorem am_sc0 (E : am_E) : 0 ≤ (am_sc E).1 := Int.natCast_nonneg _
def lwB (E : am_E) (x4 : Int) : Prop := 0 ≤ x4 ∧ x4 + 6 ≤ (am_sc E).1 ∧ (am_sc E).1 ≤ 3072
section LAWD
variable {p : Program} {l : Launch} {e : Env} {R : Room} {s : State} {mm : MethodId} {args : Array Value} {below : List Frame} {meth : Method} {c : Code} {cells slots : Nat} {Q : State → Prop} {E : am_E} {A : Nat → Prop} {d : Nat}
theorem lc_188 (C : am_Cx p l e R s mm args below meth c cells slots Q E A 194 (d + 10 + 1) lwR) {x4 : Int} {m : am_M} {k : Nat} (hB : lwB E x4) (hI : LI m k) (hk : k ≤ 600) (hgo : ∀ m2, LI m2 (k + 1) → am_at p l e R s mm args below meth c cells slots Q E A 194 1440 (lwV x4) [] m2) : am_at p l e R s mm args below meth c cells slots Q E A 194 188 (lwV x4) [] m := by
  obtain ⟨σ, L, tl, tb, Z, ch, dc, hch, hdc, hC, hR⟩ := hI
  obtain ⟨hx0, hx1, hx2⟩ := hB
  refine fl_188 C (G := fun t lv st m => am_at p l e R s mm args below meth c cells slots Q E A 194 t lv st m) (fun _ _ _ _ h => h) ?_
  ((repeat' (first | with_reducible apply And.intro | with_reducible intro hh)) <;> (try (first | omega | exact ⟨by omega, by omega⟩)))
  refine c_feed (am_scR E _) (am_scR E _) (am_scR E _) (am_scR E _) (am_scR E _) hC.2.2.1 (fun m1 t1 f1 => ?_)
  replace hC := hC.tape f1 t1
  replace hR := hR.fr f1 (by decide) (by decide)
  ((repeat' (first | with_reducible apply And.intro | with_reducible intro hh)) <;> (try (first | omega | exact ⟨by omega, by omega⟩)))
  refine r_feed (am_scR E _) (am_scR E _) (am_scR E _) (am_scR E _) (am_scR E _) hR.2.2.1 (fun m2 t2 f2 => ?_)
  replace hR := hR.tape f2 t2
  replace hC := hC.fr f2 (by decide) (by decide)
  exact ⟨fun _ => hgo _ ⟨σ, L, _, _, Z, ch, dc, by omega, by omega, hC, hR⟩, fun h => absurd rfl h⟩
theorem lc_261 (C : am_Cx p l e R s mm args below meth c cells slots Q E A 194 (d + 10 + 1) lwR) {x4 : Int} {m : am_M} {k : Nat} (hB : lwB E x4) (hI : LI m k) (hk : k ≤ 600) (hgo : ∀ m2, LI m2 (k + 1) → am_at p l e R s mm args below meth c cells slots Q E A 194 1440 (lwV x4) [] m2) : am_at p l e R s mm args below meth c cells slots Q E A 194 261 (lwV x4) [] m := by
  obtain ⟨σ, L, tl, tb, Z, ch, dc, hch, hdc, hC, hR⟩ := hI
  obtain ⟨hx0, hx1, hx2⟩ := hB
  refine fl_261 C (G := fun t lv st m => am_at p l e R s mm args below meth c cells slots Q E A 194 t lv st m) (fun _ _ _ _ h => h) ?_
  ((repeat' (first | with_reducible apply And.intro | with_reducible intro hh)) <;> (try (first | omega | exact ⟨by omega, by omega⟩)))
  refine c_end hC.2.2.1 (fun m1 t1 f1 => ?_)
  replace hC := hC.tape f1 t1
  replace hR := hR.fr f1 (by decide) (by decide)
  ((repeat' (first | with_reducible apply And.intro | with_reducible intro hh)) <;> (try (first | omega | exact ⟨by omega, by omega⟩)))
  refine r_end hR.2.2.1 (fun m2 t2 f2 => ?_)
  replace hR := hR.tape f2 t2
  replace hC := hC.fr f2 (by decide) (by decide)
  exact ⟨fun _ => hgo _ ⟨σ, L, _, _, Z, ch, dc, by omega, by omega, hC, hR⟩, fun h => absurd rfl h⟩
theorem lc_286 (C : am_Cx p l e R s mm args below meth c cells slots Q E A 194 (d + 10 + 1) lwR) {x4 : Int} {m : am_M} {k : Nat} (hB : lwB E x4) (hI : LI m k) (hk : k ≤ 600) (hgo : ∀ m2, LI m2 (k + 1) → am_at p l e R s mm args below meth c cells slots Q E A 194 1440 (lwV x4) [] m2) : am_at p l e R s mm args below meth c cells slots Q E A 194 286 (lwV x4) [] m := by
  obtain ⟨σ, L, tl, tb, Z, ch, dc, hch, hdc, hC, hR⟩ := hI
  obtain ⟨hx0, hx1, hx2⟩ := hB
  refine fl_286 C (G := fun t lv st m => am_at p l e R s mm args below meth c cells slots Q E A 194 t lv st m) (fun _ _ _ _ h => h) ?_
  ((repeat' (first | with_reducible apply And.intro | with_reducible intro hh)) <;> (try (first | omega | exact ⟨by omega, by omega⟩)))
  have hbt : ∀ e, pText tb tl = .inl e → e ≤ 100000 := fun e h => by
    have h1 := pText_lt h
    have h2 := hC.2.2.1.2.1
    omega
  refine c_text (Z := Z) hC.2.2.1 hC.2.2.2.2.2.2 (by omega) hC.2.2.2.2.2.1 (by omega) hC.2.1 hbt (fun e1 dc1 m1 hp1 hd1 hl1 ht1 f1 => ?_) (fun s1 dc1 m1 hp1 hG1 hR1 hS1 hc1 hd1 hl1 ht1 f1 => ?_)
  · replace hC := hC.txl f1 ht1 hd1
    replace hR := hR.fr f1 (by decide) (by decide)
    refine r_text hR.2.2.1 (fun e2 m2 hp2 ht2 f2 => ?_) (fun s2 m2 hp2 _ _ _ _ _ => ?_)
    · replace hR := hR.txl f2 ht2
      replace hC := hC.fr f2 (by decide) (by decide)
      exact ⟨fun _ => hgo _ ⟨σ, L, 0, tb, Z, ch, dc1, by omega, by omega, hC, hR⟩, fun h => absurd rfl h⟩
    · rw [hp1] at hp2
      cases hp2
  · replace hC := hC.txr f1 hG1 hR1 hS1 hc1 hd1 ht1
    replace hR := hR.fr f1 (by decide) (by decide)
    refine r_text hR.2.2.1 (fun e2 m2 hp2 _ _ => ?_) (fun s2 m2 hp2 hM2 hK2 hS2 ht2 f2 => ?_)
    · rw [hp1] at hp2
      cases hp2
    · rw [hp1] at hp2
      cases hp2
      replace hC := hC.fr f2 (by decide) (by decide)
      exact ⟨fun _ => hgo _ ⟨s1, [], 0, tb, fun _ => none, ch + 1, dc1, by omega, by omega, hC, hM2, hK2, ht2, hS2⟩, fun h => absurd rfl h⟩
theorem lc_354 (C : am_Cx p l e R s mm args below meth c cells slots Q E A 194 (d + 10 + 1) lwR) {x4 : Int} {m : am_M} {k : Nat} (hB : lwB E x4) (hI : LI m k) (hk : k ≤ 600) (hgo : ∀ m2, LI m2 (k + 1) → am_at p l e R s mm args below meth c cells slots Q E A 194 1440 (lwV x4) [] m2) : am_at p l e R s mm args below meth c cells slots Q E A 194 354 (lwV x4) [] m := by
  obtain ⟨σ, L, tl, tb, Z, ch, dc, hch, hdc, hC, hR⟩ := hI
  obtain ⟨hx0, hx1, hx2⟩ := hB
  refine fl_354 C (G := fun t lv st m => am_at p l e R s mm args below meth c cells slots Q E A 194 t lv st m) (fun _ _ _ _ h => h) ?_
  ((repeat' (first | with_reducible apply And.intro | with_reducible intro hh)) <;> (try (first | omega | exact ⟨by omega, by omega⟩)))
  all_goals refine c_worth hC.1 ?_
  all_goals ((repeat' (first | with_reducible apply And.intro | with_reducible intro hh)) <;> (try (first | omega | exact ⟨by omega, by omega⟩)))
  all_goals refine r_worth hR.1 (fun m2 f2 => ?_)
  all_goals replace hC := hC.mf f2
  all_goals replace hR := hR.mf f2
  all_goals exact ⟨fun _ => hgo _ ⟨σ, L, tl, tb, Z, ch, dc, by omega, by omega, hC, hR⟩, fun h => absurd rfl h⟩
theorem lc_379 (C : am_Cx p l e R s mm args below meth c cells slots Q E A 194 (d + 10 + 1) lwR) {x4 : Int} {m : am_M} {k : Nat} (hB : lwB E x4) (hI : LI m k) (hk : k ≤ 600) (hgo : ∀ m2, LI m2 (k + 1) → am_at p l e R s mm args below meth c cells slots Q E A 194 1440 (lwV x4) [] m2) : am_at p l e R s mm args below meth c cells slots Q E A 194 379 (lwV x4) [] m := by
  obtain ⟨σ, L, tl, tb, Z, ch, dc, hch, hdc, hC, hR⟩ := hI
  obtain ⟨hx0, hx1, hx2⟩ := hB
  refine fl_379 C (G := fun t lv st m => am_at p l e R s mm args below meth c cells slots Q E A 194 t lv st m) (fun _ _ _ _ h => h) ?_
  ((repeat' (first | with_reducible apply And.intro | with_reducible intro hh)) <;> (try (first | omega | exact ⟨by omega, by omega⟩)))
  refine c_add hC.1 hC.2.1 hC.2.2.2.2.2.1 (by omega) (fun hn1 => ?_) (fun m1 t1 hs1 hG1 hR1 hc1 f1 => ?_)
  · ((repeat' (first | with_reducible apply And.intro | with_reducible intro hh)) <;> (try (first | omega | exact ⟨by omega, by omega⟩)))
    refine r_add hR.1 hR.2.1 (fun m2 hn2 f2 => ?_) (fun m2 t2 hs2 _ _ _ => ?_)
    · replace hC := hC.mf f2
      replace hR := hR.mf f2
      exact ⟨fun _ => hgo _ ⟨σ, L, tl, tb, Z, ch, dc, by omega, by omega, hC, hR⟩, fun h => absurd rfl h⟩
    · rw [hn1] at hs2
      cases hs2
  · replace hC := hC.acts f1 hG1 hR1 hc1
    replace hR := hR.fr f1 (by decide) (by decide)
    ((repeat' (first | with_reducible apply And.intro | with_reducible intro hh)) <;> (try (first | omega | exact ⟨by omega, by omega⟩)))
    refine r_add hR.1 hR.2.1 (fun m2 hn2 f2 => ?_) (fun m2 t2 hs2 hM2 hK2 f2 => ?_)
    · rw [hs1] at hn2
      cases hn2
    · rw [hs1] at hs2
      cases hs2
      replace hC := hC.fr f2 (by decide) (by decide)
      replace hR := hR.acts f2 hM2 hK2
      exact ⟨fun _ => hgo _ ⟨t1, _, tl, tb, Z, ch + 1, dc, by omega, by omega, hC, hR⟩, fun h => absurd rfl h⟩
theorem lc_448 (C : am_Cx p l e R s mm args below meth c cells slots Q E A 194 (d + 10 + 1) lwR) {x4 : Int} {m : am_M} {k : Nat} (hB : lwB E x4) (hI : LI m k) (hk : k ≤ 600) (hgo : ∀ m2, LI m2 (k + 1) → am_at p l e R s mm args below meth c cells slots Q E A 194 1440 (lwV x4) [] m2) : am_at p l e R s mm args below meth c cells slots Q E A 194 448 (lwV x4) [] m := by
  obtain ⟨σ, L, tl, tb, Z, ch, dc, hch, hdc, hC, hR⟩ := hI
  obtain ⟨hx0, hx1, hx2⟩ := hB
  refine fl_448 C (G := fun t lv st m => am_at p l e R s mm args below meth c cells slots Q E A 194 t lv st m) (fun _ _ _ _ h => h) ?_
  ((repeat' (first | with_reducible apply And.intro | with_reducible intro hh)) <;> (try (first | omega | exact ⟨by omega, by omega⟩)))
  refine c_gone hC.1 hC.2.1 hC.2.2.2.2.2.1 (by omega) (fun hn1 => ?_) (fun m1 t1 hs1 hG1 hR1 hc1 f1 => ?_)
  · ((repeat' (first | with_reducible apply And.intro | with_reducible intro hh)) <;> (try (first | omega | exact ⟨by omega, by omega⟩)))
    refine r_gone hR.1 hR.2.1 (fun m2 hn2 f2 => ?_) (fun m2 t2 hs2 _ _ _ => ?_)
    · replace hC := hC.mf f2
      replace hR := hR.mf f2
      exact ⟨fun _ => hgo _ ⟨σ, L, tl, tb, Z, ch, dc, by omega, by omega, hC, hR⟩, fun h => absurd rfl h⟩
    · rw [hn1] at hs2
      cases hs2
  · replace hC := hC.acts f1 hG1 hR1 hc1
    replace hR := hR.fr f1 (by decide) (by decide)
    ((repeat' (first | with_reducible apply And.intro | with_reducible intro hh)) <;> (try (first | omega | exact ⟨by omega, by omega⟩)))
    refine r_gone hR.1 hR.2.1 (fun m2 hn2 f2 => ?_) (fun m2 t2 hs2 hM2 hK2 f2 => ?_)
    · rw [hs1] at hn2
      cases hn2
    · rw [hs1] at hs2
      cases hs2
      replace hC := hC.fr f2 (by decide) (by decide)
      replace hR := hR.acts f2 hM2 hK2
      exact ⟨fun _ => hgo _ ⟨t1, _, tl, tb, Z, ch + 1, dc, by omega, by omega, hC, hR⟩, fun h => absurd rfl h⟩
theorem lc_505 (C : am_Cx p l e R s mm args below meth c cells slots Q E A 194 (d + 10 + 1) lwR) {x4 : Int} {m : am_M} {k : Nat} (hB : lwB E x4) (hI : LI m k) (hk : k ≤ 600) (hgo : ∀ m2, LI m2 (k + 1) → am_at p l e R s mm args below meth c cells slots Q E A 194 1440 (lwV x4) [] m2) : am_at p l e R s mm args below meth c cells slots Q E A 194 505 (lwV x4) [] m := by
  obtain ⟨σ, L, tl, tb, Z, ch, dc, hch, hdc, hC, hR⟩ := hI
  obtain ⟨hx0, hx1, hx2⟩ := hB
  refine fl_505 C (G := fun t lv st m => am_at p l e R s mm args below meth c cells slots Q E A 194 t lv st m) (fun _ _ _ _ h => h) ?_
  ((repeat' (first | with_reducible apply And.intro | with_reducible intro hh)) <;> (try (first | omega | exact ⟨by omega, by omega⟩)))
  refine c_turn hC.1 hC.2.1 hC.2.2.2.2.2.1 (by omega) (fun hn1 => ?_) (fun m1 t1 hs1 hG1 hR1 hc1 f1 => ?_)
  · ((repeat' (first | with_reducible apply And.intro | with_reducible intro hh)) <;> (try (first | omega | exact ⟨by omega, by omega⟩)))
    refine r_turn hR.1 hR.2.1 (fun m2 hn2 f2 => ?_) (fun m2 t2 hs2 _ _ _ => ?_)
    · replace hC := hC.mf f2
      replace hR := hR.mf f2
      exact ⟨fun _ => hgo _ ⟨σ, L, tl, tb, Z, ch, dc, by omega, by omega, hC, hR⟩, fun h => absurd rfl h⟩
    · rw [hn1] at hs2
      cases hs2
  · replace hC := hC.acts f1 hG1 hR1 hc1
    replace hR := hR.fr f1 (by decide) (by decide)
    ((repeat' (first | with_reducible apply And.intro | with_reducible intro hh)) <;> (try (first | omega | exact ⟨by omega, by omega⟩)))
    refine r_turn hR.1 hR.2.1 (fun m2 hn2 f2 => ?_) (fun m2 t2 hs2 hM2 hK2 f2 => ?_)
    · rw [hs1] at hn2
      cases hn2
    · rw [hs1] at hs2
      cases hs2
      replace hC := hC.fr f2 (by decide) (by decide)
      replace hR := hR.acts f2 hM2 hK2
      exact ⟨fun _ => hgo _ ⟨t1, _, tl, tb, Z, ch + 1, dc, by omega, by omega, hC, hR⟩, fun h => absurd rfl h⟩
theorem lc_542 (C : am_Cx p l e R s mm args below meth c cells slots Q E A 194 (d + 10 + 1) lwR) {x4 : Int} {m : am_M} {k : Nat} (hB : lwB E x4) (hI : LI m k) (hk : k ≤ 600) (hgo : ∀ m2, LI m2 (k + 1) → am_at p l e R s mm args below meth c cells slots Q E A 194 1440 (lwV x4) [] m2) : am_at p l e R s mm args below meth c cells slots Q E A 194 542 (lwV x4) [] m := by
  obtain ⟨σ, L, tl, tb, Z, ch, dc, hch, hdc, hC, hR⟩ := hI
  obtain ⟨hx0, hx1, hx2⟩ := hB
  refine fl_542 C (G := fun t lv st m => am_at p l e R s mm args below meth c cells slots Q E A 194 t lv st m) (fun _ _ _ _ h => h) ?_
  ((repeat' (first | with_reducible apply And.intro | with_reducible intro hh)) <;> (try (first | omega | exact ⟨by omega, by omega⟩)))
  refine c_set hC.1 hC.2.1 hC.2.2.2.2.2.1 (by omega) (fun hn1 => ?_) (fun m1 t1 hs1 hG1 hR1 hc1 f1 => ?_)
  · ((repeat' (first | with_reducible apply And.intro | with_reducible intro hh)) <;> (try (first | omega | exact ⟨by omega, by omega⟩)))
    refine r_set hR.1 hR.2.1 (fun m2 hn2 f2 => ?_) (fun m2 t2 hs2 _ _ _ => ?_)
    · replace hC := hC.mf f2
      replace hR := hR.mf f2
      exact ⟨fun _ => hgo _ ⟨σ, L, tl, tb, Z, ch, dc, by omega, by omega, hC, hR⟩, fun h => absurd rfl h⟩
    · rw [hn1] at hs2
      cases hs2
  · replace hC := hC.acts f1 hG1 hR1 hc1
    replace hR := hR.fr f1 (by decide) (by decide)
    ((repeat' (first | with_reducible apply And.intro | with_reducible intro hh)) <;> (try (first | omega | exact ⟨by omega, by omega⟩)))
    refine r_set hR.1 hR.2.1 (fun m2 hn2 f2 => ?_) (fun m2 t2 hs2 hM2 hK2 f2 => ?_)
    · rw [hs1] at hn2
      cases hn2
    · rw [hs1] at hs2
      cases hs2
      replace hC := hC.fr f2 (by decide) (by decide)
      replace hR := hR.acts f2 hM2 hK2
      exact ⟨fun _ => hgo _ ⟨t1, _, tl, tb, Z, ch + 1, dc, by omega, by omega, hC, hR⟩, fun h => absurd rfl h⟩
theorem lc_579 (C : am_Cx p l e R s mm args below meth c cells slots Q E A 194 (d + 10 + 1) lwR) {x4 : Int} {m : am_M} {k : Nat} (hB : lwB E x4) (hI : LI m k) (hk : k ≤ 600) (hgo : ∀ m2, LI m2 (k + 1) → am_at p l e R s mm args below meth c cells slots Q E A 194 1440 (lwV x4) [] m2) : am_at p l e R s mm args below meth c cells slots Q E A 194 579 (lwV x4) [] m := by
  obtain ⟨σ, L, tl, tb, Z, ch, dc, hch, hdc, hC, hR⟩ := hI
  obtain ⟨hx0, hx1, hx2⟩ := hB
  refine fl_579 C (G := fun t lv st m => am_at p l e R s mm args below meth c cells slots Q E A 194 t lv st m) (fun _ _ _ _ h => h) ?_
  ((repeat' (first | with_reducible apply And.intro | with_reducible intro hh)) <;> (try (first | omega | exact ⟨by omega, by omega⟩)))
  all_goals refine c_hash  ?_
  all_goals ((repeat' (first | with_reducible apply And.intro | with_reducible intro hh)) <;> (try (first | omega | exact ⟨by omega, by omega⟩)))
  all_goals refine r_hash  (fun m2 f2 => ?_)
  all_goals replace hC := hC.mf f2
  all_goals replace hR := hR.mf f2
  all_goals exact ⟨fun _ => hgo _ ⟨σ, L, tl, tb, Z, ch, dc, by omega, by omega, hC, hR⟩, fun h => absurd (lcmp0.mpr rfl) h⟩
theorem lc_649 (C : am_Cx p l e R s mm args below meth c cells slots Q E A 194 (d + 10 + 1) lwR) {x4 : Int} {m : am_M} {k : Nat} (hB : lwB E x4) (hI : LI m k) (hk : k ≤ 600) (hgo : ∀ m2, LI m2 (k + 1) → am_at p l e R s mm args below meth c cells slots Q E A 194 1440 (lwV x4) [] m2) : am_at p l e R s mm args below meth c cells slots Q E A 194 649 (lwV x4) [] m := by
  obtain ⟨σ, L, tl, tb, Z, ch, dc, hch, hdc, hC, hR⟩ := hI
  obtain ⟨hx0, hx1, hx2⟩ := hB
  refine fl_649 C (G := fun t lv st m => am_at p l e R s mm args below meth c cells slots Q E A 194 t lv st m) (fun _ _ _ _ h => h) ?_
  ((repeat' (first | with_reducible apply And.intro | with_reducible intro hh)) <;> (try (first | omega | exact ⟨by omega, by omega⟩)))
  all_goals refine c_cell hC.1 (fun m1 f1 => ?_)
  all_goals replace hC := hC.cf f1
  all_goals replace hR := hR.cf f1
  all_goals ((repeat' (first | with_reducible apply And.intro | with_reducible intro hh)) <;> (try (first | omega | exact ⟨by omega, by omega⟩)))
  all_goals refine r_cell hR.1 (fun m2 f2 => ?_)
  all_goals replace hC := hC.mf f2
  all_goals replace hR := hR.mf f2
  all_goals exact ⟨fun _ => hgo _ ⟨σ, L, tl, tb, Z, ch, dc, by omega, by omega, hC, hR⟩, fun h => absurd rfl h⟩
theorem lc_718 (C : am_Cx p l e R s mm args below meth c cells slots Q E A 194 (d + 10 + 1) lwR) {x4 : Int} {m : am_M} {k : Nat} (hB : lwB E x4) (hI : LI m k) (hk : k ≤ 600) (hgo : ∀ m2, LI m2 (k + 1) → am_at p l e R s mm args below meth c cells slots Q E A 194 1440 (lwV x4) [] m2) : am_at p l e R s mm args below meth c cells slots Q E A 194 718 (lwV x4) [] m := by
  obtain ⟨σ, L, tl, tb, Z, ch, dc, hch, hdc, hC, hR⟩ := hI
  obtain ⟨hx0, hx1, hx2⟩ := hB
  refine fl_718 C (G := fun t lv st m => am_at p l e R s mm args below meth c cells slots Q E A 194 t lv st m) (fun _ _ _ _ h => h) ?_
  ((repeat' (first | with_reducible apply And.intro | with_reducible intro hh)) <;> (try (first | omega | exact ⟨by omega, by omega⟩)))
  all_goals refine c_print hC.1 (fun m1 f1 => ?_)
  all_goals replace hC := hC.cf f1
  all_goals replace hR := hR.cf f1
  all_goals ((repeat' (first | with_reducible apply And.intro | with_reducible intro hh)) <;> (try (first | omega | exact ⟨by omega, by omega⟩)))
  all_goals refine r_print hR.1 (fun m2 f2 => ?_)
  all_goals replace hC := hC.mf f2
  all_goals replace hR := hR.mf f2
  all_goals exact ⟨fun _ => hgo _ ⟨σ, L, tl, tb, Z, ch, dc, by omega, by omega, hC, hR⟩, fun h => absurd rfl h⟩
theorem lc_775 (C : am_Cx p l e R s mm args below meth c cells slots Q E A 194 (d + 10 + 1) lwR) {x4 : Int} {m : am_M} {k : Nat} (hB : lwB E x4) (hI : LI m k) (hk : k ≤ 600) (hgo : ∀ m2, LI m2 (k + 1) → am_at p l e R s mm args below meth c cells slots Q E A 194 1440 (lwV x4) [] m2) : am_at p l e R s mm args below meth c cells slots Q E A 194 775 (lwV x4) [] m := by
  obtain ⟨σ, L, tl, tb, Z, ch, dc, hch, hdc, hC, hR⟩ := hI
  obtain ⟨hx0, hx1, hx2⟩ := hB
  refine fl_775 C (G := fun t lv st m => am_at p l e R s mm args below meth c cells slots Q E A 194 t lv st m) (fun _ _ _ _ h => h) ?_
  ((repeat' (first | with_reducible apply And.intro | with_reducible intro hh)) <;> (try (first | omega | exact ⟨by omega, by omega⟩)))
  all_goals refine c_load hC.1 (fun m1 f1 => ?_)
  all_goals replace hC := hC.cf f1
  all_goals replace hR := hR.cf f1
  all_goals ((repeat' (first | with_reducible apply And.intro | with_reducible intro hh)) <;> (try (first | omega | exact ⟨by omega, by omega⟩)))
  all_goals refine r_load hR.1 (fun m2 f2 => ?_)
  all_goals replace hC := hC.mf f2
  all_goals replace hR := hR.mf f2
  all_goals exact ⟨fun _ => hgo _ ⟨σ, L, tl, tb, Z, ch, dc, by omega, by omega, hC, hR⟩, fun h => absurd rfl h⟩
theorem lc_800 (C : am_Cx p l e R s mm args below meth c cells slots Q E A 194 (d + 10 + 1) lwR) {x4 : Int} {m : am_M} {k : Nat} (hB : lwB E x4) (hI : LI m k) (hk : k ≤ 600) (hgo : ∀ m2, LI m2 (k + 1) → am_at p l e R s mm args below meth c cells slots Q E A 194 1440 (lwV x4) [] m2) : am_at p l e R s mm args below meth c cells slots Q E A 194 800 (lwV x4) [] m := by
  obtain ⟨σ, L, tl, tb, Z, ch, dc, hch, hdc, hC, hR⟩ := hI
  obtain ⟨hx0, hx1, hx2⟩ := hB
  refine fl_800 C (G := fun t lv st m => am_at p l e R s mm args below meth c cells slots Q E A 194 t lv st m) (fun _ _ _ _ h => h) ?_
  ((repeat' (first | with_reducible apply And.intro | with_reducible intro hh)) <;> (try (first | omega | exact ⟨by omega, by omega⟩)))
  all_goals refine c_twins hC.1 (fun m1 f1 => ?_)
  all_goals replace hC := hC.cf f1
  all_goals replace hR := hR.cf f1
  all_goals ((repeat' (first | with_reducible apply And.intro | with_reducible intro hh)) <;> (try (first | omega | exact ⟨by omega, by omega⟩)))
  all_goals refine r_twins hR.1 (fun m2 f2 => ?_)
  all_goals replace hC := hC.mf f2
  all_goals replace hR := hR.mf f2
  all_goals exact ⟨fun _ => hgo _ ⟨σ, L, tl, tb, Z, ch, dc, by omega, by omega, hC, hR⟩, fun h => absurd rfl h⟩
theorem lc_813 (C : am_Cx p l e R s mm args below meth c cells slots Q E A 194 (d + 10 + 1) lwR) {x4 : Int} {m : am_M} {k : Nat} (hB : lwB E x4) (hI : LI m k) (hk : k ≤ 600) (hgo : ∀ m2, LI m2 (k + 1) → am_at p l e R s mm args below meth c cells slots Q E A 194 1440 (lwV x4) [] m2) : am_at p l e R s mm args below meth c cells slots Q E A 194 813 (lwV x4) [] m := by
  obtain ⟨σ, L, tl, tb, Z, ch, dc, hch, hdc, hC, hR⟩ := hI
  obtain ⟨hx0, hx1, hx2⟩ := hB
  refine fl_813 C (G := fun t lv st m => am_at p l e R s mm args below meth c cells slots Q E A 194 t lv st m) (fun _ _ _ _ h => h) ?_
  ((repeat' (first | with_reducible apply And.intro | with_reducible intro hh)) <;> (try (first | omega | exact ⟨by omega, by omega⟩)))
  all_goals refine c_peel hC.1 (fun m1 f1 => ?_)
  all_goals replace hC := hC.cf f1
  all_goals replace hR := hR.cf f1
  all_goals ((repeat' (first | with_reducible apply And.intro | with_reducible intro hh)) <;> (try (first | omega | exact ⟨by omega, by omega⟩)))
  all_goals refine r_peel hR.1 (fun m2 f2 => ?_)
  all_goals replace hC := hC.mf f2
  all_goals replace hR := hR.mf f2
  all_goals exact ⟨fun _ => hgo _ ⟨σ, L, tl, tb, Z, ch, dc, by omega, by omega, hC, hR⟩, fun h => absurd rfl h⟩
theorem lc_850 (C : am_Cx p l e R s mm args below meth c cells slots Q E A 194 (d + 10 + 1) lwR) {x4 : Int} {m : am_M} {k : Nat} (hB : lwB E x4) (hI : LI m k) (hk : k ≤ 600) (hgo : ∀ m2, LI m2 (k + 1) → am_at p l e R s mm args below meth c cells slots Q E A 194 1440 (lwV x4) [] m2) : am_at p l e R s mm args below meth c cells slots Q E A 194 850 (lwV x4) [] m := by
  obtain ⟨σ, L, tl, tb, Z, ch, dc, hch, hdc, hC, hR⟩ := hI
  obtain ⟨hx0, hx1, hx2⟩ := hB
  refine fl_850 C (G := fun t lv st m => am_at p l e R s mm args below meth c cells slots Q E A 194 t lv st m) (fun _ _ _ _ h => h) ?_
  ((repeat' (first | with_reducible apply And.intro | with_reducible intro hh)) <;> (try (first | omega | exact ⟨by omega, by omega⟩)))
  all_goals refine c_core hC.1 (fun m1 f1 => ?_)
  all_goals replace hC := hC.cf f1
  all_goals replace hR := hR.cf f1
  all_goals ((repeat' (first | with_reducible apply And.intro | with_reducible intro hh)) <;> (try (first | omega | exact ⟨by omega, by omega⟩)))
  all_goals refine r_core (am_scR E _) hR.1 (fun m2 f2 => ?_)
  all_goals replace hC := hC.mf f2
  all_goals replace hR := hR.mf f2
  all_goals exact ⟨fun _ => hgo _ ⟨σ, L, tl, tb, Z, ch, dc, by omega, by omega, hC, hR⟩, fun h => absurd rfl h⟩
theorem lc_875 (C : am_Cx p l e R s mm args below meth c cells slots Q E A 194 (d + 10 + 1) lwR) {x4 : Int} {m : am_M} {k : Nat} (hB : lwB E x4) (hI : LI m k) (hk : k ≤ 600) (hgo : ∀ m2, LI m2 (k + 1) → am_at p l e R s mm args below meth c cells slots Q E A 194 1440 (lwV x4) [] m2) : am_at p l e R s mm args below meth c cells slots Q E A 194 875 (lwV x4) [] m := by
  obtain ⟨σ, L, tl, tb, Z, ch, dc, hch, hdc, hC, hR⟩ := hI
  obtain ⟨hx0, hx1, hx2⟩ := hB
  refine fl_875 C (G := fun t lv st m => am_at p l e R s mm args below meth c cells slots Q E A 194 t lv st m) (fun _ _ _ _ h => h) ?_
  ((repeat' (first | with_reducible apply And.intro | with_reducible intro hh)) <;> (try (first | omega | exact ⟨by omega, by omega⟩)))
  all_goals refine c_level hC.1 (fun m1 f1 => ?_)
  all_goals replace hC := hC.cf f1
  all_goals replace hR := hR.cf f1
  all_goals ((repeat' (first | with_reducible apply And.intro | with_reducible intro hh)) <;> (try (first | omega | exact ⟨by omega, by omega⟩)))
  all_goals refine r_level hR.1 (fun m2 f2 => ?_)
  all_goals replace hC := hC.mf f2
  all_goals replace hR := hR.mf f2
  all_goals exact ⟨fun _ => hgo _ ⟨σ, L, tl, tb, Z, ch, dc, by omega, by omega, hC, hR⟩, fun h => absurd rfl h⟩
theorem lc_900 (C : am_Cx p l e R s mm args below meth c cells slots Q E A 194 (d + 10 + 1) lwR) {x4 : Int} {m : am_M} {k : Nat} (hB : lwB E x4) (hI : LI m k) (hk : k ≤ 600) (hgo : ∀ m2, LI m2 (k + 1) → am_at p l e R s mm args below meth c cells slots Q E A 194 1440 (lwV x4) [] m2) : am_at p l e R s mm args below meth c cells slots Q E A 194 900 (lwV x4) [] m := by
  obtain ⟨σ, L, tl, tb, Z, ch, dc, hch, hdc, hC, hR⟩ := hI
  obtain ⟨hx0, hx1, hx2⟩ := hB
  refine fl_900 C (G := fun t lv st m => am_at p l e R s mm args below meth c cells slots Q E A 194 t lv st m) (fun _ _ _ _ h => h) ?_
  ((repeat' (first | with_reducible apply And.intro | with_reducible intro hh)) <;> (try (first | omega | exact ⟨by omega, by omega⟩)))
  all_goals refine c_rank hC.1 (fun m1 f1 => ?_)
  all_goals replace hC := hC.cf f1
  all_goals replace hR := hR.cf f1
  all_goals ((repeat' (first | with_reducible apply And.intro | with_reducible intro hh)) <;> (try (first | omega | exact ⟨by omega, by omega⟩)))
  all_goals refine r_rank hR.1 (fun m2 f2 => ?_)
  all_goals replace hC := hC.mf f2
  all_goals replace hR := hR.mf f2
  all_goals exact ⟨fun _ => hgo _ ⟨σ, L, tl, tb, Z, ch, dc, by omega, by omega, hC, hR⟩, fun h => absurd rfl h⟩
theorem lc_913 (C : am_Cx p l e R s mm args below meth c cells slots Q E A 194 (d + 10 + 1) lwR) {x4 : Int} {m : am_M} {k : Nat} (hB : lwB E x4) (hI : LI m k) (hk : k ≤ 600) (hgo : ∀ m2, LI m2 (k + 1) → am_at p l e R s mm args below meth c cells slots Q E A 194 1440 (lwV x4) [] m2) : am_at p l e R s mm args below meth c cells slots Q E A 194 913 (lwV x4) [] m := by
  obtain ⟨σ, L, tl, tb, Z, ch, dc, hch, hdc, hC, hR⟩ := hI
  obtain ⟨hx0, hx1, hx2⟩ := hB
  refine fl_913 C (G := fun t lv st m => am_at p l e R s mm args below meth c cells slots Q E A 194 t lv st m) (fun _ _ _ _ h => h) ?_
  ((repeat' (first | with_reducible apply And.intro | with_reducible intro hh)) <;> (try (first | omega | exact ⟨by omega, by omega⟩)))
  refine c_mend hC.1 hC.2.2.2.2.2.1 hC.2.2.2.2.1 (fun m1 n1 f1 => ?_)
  replace hC := hC.mend f1 n1
  replace hR := hR.fr f1 (by decide) (by decide)
  ((repeat' (first | with_reducible apply And.intro | with_reducible intro hh)) <;> (try (first | omega | exact ⟨by omega, by omega⟩)))
  refine r_mend hR.1 (fun m2 f2 => ?_)
  replace hC := hC.mf f2
  replace hR := hR.mf f2
  exact ⟨fun _ => hgo _ ⟨σ, L, tl, tb, Z, ch, dc, by omega, by omega, hC, hR⟩, fun h => absurd rfl h⟩
theorem lc_938 (C : am_Cx p l e R s mm args below meth c cells slots Q E A 194 (d + 10 + 1) lwR) {x4 : Int} {m : am_M} {k : Nat} (hB : lwB E x4) (hI : LI m k) (hk : k ≤ 600) (hgo : ∀ m2, LI m2 (k + 1) → am_at p l e R s mm args below meth c cells slots Q E A 194 1440 (lwV x4) [] m2) : am_at p l e R s mm args below meth c cells slots Q E A 194 938 (lwV x4) [] m := by
  obtain ⟨σ, L, tl, tb, Z, ch, dc, hch, hdc, hC, hR⟩ := hI
  obtain ⟨hx0, hx1, hx2⟩ := hB
  refine fl_938 C (G := fun t lv st m => am_at p l e R s mm args below meth c cells slots Q E A 194 t lv st m) (fun _ _ _ _ h => h) ?_
  ((repeat' (first | with_reducible apply And.intro | with_reducible intro hh)) <;> (try (first | omega | exact ⟨by omega, by omega⟩)))
  all_goals refine c_tight hC.1 (fun m1 f1 => ?_)
  all_goals replace hC := hC.cf f1
  all_goals replace hR := hR.cf f1
  all_goals ((repeat' (first | with_reducible apply And.intro | with_reducible intro hh)) <;> (try (first | omega | exact ⟨by omega, by omega⟩)))
  all_goals refine r_tight hR.1 (fun m2 f2 => ?_)
  all_goals replace hC := hC.mf f2
  all_goals replace hR := hR.mf f2
  all_goals exact ⟨fun _ => hgo _ ⟨σ, L, tl, tb, Z, ch, dc, by omega, by omega, hC, hR⟩, fun h => absurd rfl h⟩
theorem lc_951 (C : am_Cx p l e R s mm args below meth c cells slots Q E A 194 (d + 10 + 1) lwR) {x4 : Int} {m : am_M} {k : Nat} (hB : lwB E x4) (hI : LI m k) (hk : k ≤ 600) (hgo : ∀ m2, LI m2 (k + 1) → am_at p l e R s mm args below meth c cells slots Q E A 194 1440 (lwV x4) [] m2) : am_at p l e R s mm args below meth c cells slots Q E A 194 951 (lwV x4) [] m := by
  obtain ⟨σ, L, tl, tb, Z, ch, dc, hch, hdc, hC, hR⟩ := hI
  obtain ⟨hx0, hx1, hx2⟩ := hB
  refine fl_951 C (G := fun t lv st m => am_at p l e R s mm args below meth c cells slots Q E A 194 t lv st m) (fun _ _ _ _ h => h) ?_
  ((repeat' (first | with_reducible apply And.intro | with_reducible intro hh)) <;> (try (first | omega | exact ⟨by omega, by omega⟩)))
  all_goals refine c_peels hC.1 (fun m1 f1 => ?_)
  all_goals replace hC := hC.cf f1
  all_goals replace hR := hR.cf f1
  all_goals ((repeat' (first | with_reducible apply And.intro | with_reducible intro hh)) <;> (try (first | omega | exact ⟨by omega, by omega⟩)))
  all_goals refine r_peels hR.1 (fun m2 f2 => ?_)
  all_goals replace hC := hC.mf f2
  all_goals replace hR := hR.mf f2
  all_goals exact ⟨fun _ => hgo _ ⟨σ, L, tl, tb, Z, ch, dc, by omega, by omega, hC, hR⟩, fun h => absurd rfl h⟩
theorem lc_976 (C : am_Cx p l e R s mm args below meth c cells slots Q E A 194 (d + 10 + 1) lwR) {x4 : Int} {m : am_M} {k : Nat} (hB : lwB E x4) (hI : LI m k) (hk : k ≤ 600) (hgo : ∀ m2, LI m2 (k + 1) → am_at p l e R s mm args below meth c cells slots Q E A 194 1440 (lwV x4) [] m2) : am_at p l e R s mm args below meth c cells slots Q E A 194 976 (lwV x4) [] m := by
  obtain ⟨σ, L, tl, tb, Z, ch, dc, hch, hdc, hC, hR⟩ := hI
  obtain ⟨hx0, hx1, hx2⟩ := hB
  refine fl_976 C (G := fun t lv st m => am_at p l e R s mm args below meth c cells slots Q E A 194 t lv st m) (fun _ _ _ _ h => h) ?_
  ((repeat' (first | with_reducible apply And.intro | with_reducible intro hh)) <;> (try (first | omega | exact ⟨by omega, by omega⟩)))
  all_goals refine c_wake hC.1 (fun m1 f1 => ?_)
  all_goals replace hC := hC.cf f1
  all_goals replace hR := hR.cf f1
  all_goals ((repeat' (first | with_reducible apply And.intro | with_reducible intro hh)) <;> (try (first | omega | exact ⟨by omega, by omega⟩)))
  all_goals refine r_wake hR.1 (fun m2 f2 => ?_)
  all_goals replace hC := hC.mf f2
  all_goals replace hR := hR.mf f2
  all_goals exact ⟨fun _ => hgo _ ⟨σ, L, tl, tb, Z, ch, dc, by omega, by omega, hC, hR⟩, fun h => absurd rfl h⟩
theorem lc_1013 (C : am_Cx p l e R s mm args below meth c cells slots Q E A 194 (d + 10 + 1) lwR) {x4 : Int} {m : am_M} {k : Nat} (hB : lwB E x4) (hI : LI m k) (hk : k ≤ 600) (hgo : ∀ m2, LI m2 (k + 1) → am_at p l e R s mm args below meth c cells slots Q E A 194 1440 (lwV x4) [] m2) : am_at p l e R s mm args below meth c cells slots Q E A 194 1013 (lwV x4) [] m := by
  obtain ⟨σ, L, tl, tb, Z, ch, dc, hch, hdc, hC, hR⟩ := hI
  obtain ⟨hx0, hx1, hx2⟩ := hB
  refine fl_1013 C (G := fun t lv st m => am_at p l e R s mm args below meth c cells slots Q E A 194 t lv st m) (fun _ _ _ _ h => h) ?_
  ((repeat' (first | with_reducible apply And.intro | with_reducible intro hh)) <;> (try (first | omega | exact ⟨by omega, by omega⟩)))
  refine c_build hC.1 (fun m1 hn1 f1 => ?_) (fun m1 s1 hs1 hS1 f1 => ?_)
  · replace hC := hC.cf f1
    replace hR := hR.cf f1
    ((repeat' (first | with_reducible apply And.intro | with_reducible intro hh)) <;> (try (first | omega | exact ⟨by omega, by omega⟩)))
    refine r_build hR.1 (fun m2 hn2 f2 => ?_) (fun m2 s2 hs2 _ _ _ => ?_)
    · replace hC := hC.mf f2
      replace hR := hR.mf f2
      exact ⟨fun _ => hgo _ ⟨σ, L, tl, tb, Z, ch, dc, by omega, by omega, hC, hR⟩, fun h => absurd rfl h⟩
    · rw [hn1] at hs2
      cases hs2
  · replace hC := hC.bld f1 hS1
    replace hR := hR.fr f1 (by decide) (by decide)
    ((repeat' (first | with_reducible apply And.intro | with_reducible intro hh)) <;> (try (first | omega | exact ⟨by omega, by omega⟩)))
    refine r_build hR.1 (fun m2 hn2 f2 => ?_) (fun m2 s2 hs2 hS2 hk2 f2 => ?_)
    · rw [hs1] at hn2
      cases hn2
    · rw [hs1] at hs2
      cases hs2
      replace hC := hC.fr f2 (by decide) (by decide)
      replace hR := hR.bld f2 hS2 hk2
      exact ⟨fun _ => hgo _ ⟨σ, L, tl, tb, _, ch, dc, by omega, by omega, hC, hR⟩, fun h => absurd rfl h⟩
theorem lc_1038 (C : am_Cx p l e R s mm args below meth c cells slots Q E A 194 (d + 10 + 1) lwR) {x4 : Int} {m : am_M} {k : Nat} (hB : lwB E x4) (hI : LI m k) (hk : k ≤ 600) (hgo : ∀ m2, LI m2 (k + 1) → am_at p l e R s mm args below meth c cells slots Q E A 194 1440 (lwV x4) [] m2) : am_at p l e R s mm args below meth c cells slots Q E A 194 1038 (lwV x4) [] m := by
  obtain ⟨σ, L, tl, tb, Z, ch, dc, hch, hdc, hC, hR⟩ := hI
  obtain ⟨hx0, hx1, hx2⟩ := hB
  refine fl_1038 C (G := fun t lv st m => am_at p l e R s mm args below meth c cells slots Q E A 194 t lv st m) (fun _ _ _ _ h => h) ?_
  ((repeat' (first | with_reducible apply And.intro | with_reducible intro hh)) <;> (try (first | omega | exact ⟨by omega, by omega⟩)))
  all_goals refine c_built hC.2.2.2.1.1 ?_
  all_goals ((repeat' (first | with_reducible apply And.intro | with_reducible intro hh)) <;> (try (first | omega | exact ⟨by omega, by omega⟩)))
  all_goals refine r_built hR.2.2.2.1 (fun m2 f2 => ?_)
  all_goals replace hC := hC.mf f2
  all_goals replace hR := hR.mf f2
  all_goals exact ⟨fun _ => hgo _ ⟨σ, L, tl, tb, Z, ch, dc, by omega, by omega, hC, hR⟩, fun h => absurd rfl h⟩
theorem lc_1063 (C : am_Cx p l e R s mm args below meth c cells slots Q E A 194 (d + 10 + 1) lwR) {x4 : Int} {m : am_M} {k : Nat} (hB : lwB E x4) (hI : LI m k) (hk : k ≤ 600) (hgo : ∀ m2, LI m2 (k + 1) → am_at p l e R s mm args below meth c cells slots Q E A 194 1440 (lwV x4) [] m2) : am_at p l e R s mm args below meth c cells slots Q E A 194 1063 (lwV x4) [] m := by
  obtain ⟨σ, L, tl, tb, Z, ch, dc, hch, hdc, hC, hR⟩ := hI
  obtain ⟨hx0, hx1, hx2⟩ := hB
  refine fl_1063 C (G := fun t lv st m => am_at p l e R s mm args below meth c cells slots Q E A 194 t lv st m) (fun _ _ _ _ h => h) ?_
  ((repeat' (first | with_reducible apply And.intro | with_reducible intro hh)) <;> (try (first | omega | exact ⟨by omega, by omega⟩)))
  all_goals refine c_filled hC.2.2.2.1.1 ?_
  all_goals ((repeat' (first | with_reducible apply And.intro | with_reducible intro hh)) <;> (try (first | omega | exact ⟨by omega, by omega⟩)))
  all_goals refine r_filled hR.2.2.2.1 (fun m2 f2 => ?_)
  all_goals replace hC := hC.mf f2
  all_goals replace hR := hR.mf f2
  all_goals exact ⟨fun _ => hgo _ ⟨σ, L, tl, tb, Z, ch, dc, by omega, by omega, hC, hR⟩, fun h => absurd rfl h⟩
theorem lc_1116 (C : am_Cx p l e R s mm args below meth c cells slots Q E A 194 (d + 10 + 1) lwR) {x4 : Int} {m : am_M} {k : Nat} (hB : lwB E x4) (hI : LI m k) (hk : k ≤ 600) (hgo : ∀ m2, LI m2 (k + 1) → am_at p l e R s mm args below meth c cells slots Q E A 194 1440 (lwV x4) [] m2) : am_at p l e R s mm args below meth c cells slots Q E A 194 1116 (lwV x4) [] m := by
  obtain ⟨σ, L, tl, tb, Z, ch, dc, hch, hdc, hC, hR⟩ := hI
  obtain ⟨hx0, hx1, hx2⟩ := hB
  refine fl_1116 C (G := fun t lv st m => am_at p l e R s mm args below meth c cells slots Q E A 194 t lv st m) (fun _ _ _ _ h => h) ?_
  ((repeat' (first | with_reducible apply And.intro | with_reducible intro hh)) <;> (try (first | omega | exact ⟨by omega, by omega⟩)))
  all_goals refine c_passes hC.2.2.2.1.1 (fun m1 f1 => ?_)
  all_goals replace hC := hC.cf f1
  all_goals replace hR := hR.cf f1
  all_goals ((repeat' (first | with_reducible apply And.intro | with_reducible intro hh)) <;> (try (first | omega | exact ⟨by omega, by omega⟩)))
  all_goals refine r_passes hR.2.2.2.1 (fun m2 f2 => ?_)
  all_goals replace hC := hC.mf f2
  all_goals replace hR := hR.mf f2
  all_goals exact ⟨fun _ => hgo _ ⟨σ, L, tl, tb, Z, ch, dc, by omega, by omega, hC, hR⟩, fun h => absurd rfl h⟩
theorem lc_1173 (C : am_Cx p l e R s mm args below meth c cells slots Q E A 194 (d + 10 + 1) lwR) {x4 : Int} {m : am_M} {k : Nat} (hB : lwB E x4) (hI : LI m k) (hk : k ≤ 600) (hgo : ∀ m2, LI m2 (k + 1) → am_at p l e R s mm args below meth c cells slots Q E A 194 1440 (lwV x4) [] m2) : am_at p l e R s mm args below meth c cells slots Q E A 194 1173 (lwV x4) [] m := by
  obtain ⟨σ, L, tl, tb, Z, ch, dc, hch, hdc, hC, hR⟩ := hI
  obtain ⟨hx0, hx1, hx2⟩ := hB
  refine fl_1173 C (G := fun t lv st m => am_at p l e R s mm args below meth c cells slots Q E A 194 t lv st m) (fun _ _ _ _ h => h) ?_
  ((repeat' (first | with_reducible apply And.intro | with_reducible intro hh)) <;> (try (first | omega | exact ⟨by omega, by omega⟩)))
  all_goals refine c_told hC.2.2.2.1.1 (fun m1 f1 => ?_)
  all_goals replace hC := hC.cf f1
  all_goals replace hR := hR.cf f1
  all_goals ((repeat' (first | with_reducible apply And.intro | with_reducible intro hh)) <;> (try (first | omega | exact ⟨by omega, by omega⟩)))
  all_goals refine r_told hR.2.2.2.1 (fun m2 f2 => ?_)
  all_goals replace hC := hC.mf f2
  all_goals replace hR := hR.mf f2
  all_goals exact ⟨fun _ => hgo _ ⟨σ, L, tl, tb, Z, ch, dc, by omega, by omega, hC, hR⟩, fun h => absurd rfl h⟩
theorem lc_1230 (C : am_Cx p l e R s mm args below meth c cells slots Q E A 194 (d + 10 + 1) lwR) {x4 : Int} {m : am_M} {k : Nat} (hB : lwB E x4) (hI : LI m k) (hk : k ≤ 600) (hgo : ∀ m2, LI m2 (k + 1) → am_at p l e R s mm args below meth c cells slots Q E A 194 1440 (lwV x4) [] m2) : am_at p l e R s mm args below meth c cells slots Q E A 194 1230 (lwV x4) [] m := by
  obtain ⟨σ, L, tl, tb, Z, ch, dc, hch, hdc, hC, hR⟩ := hI
  obtain ⟨hx0, hx1, hx2⟩ := hB
  refine fl_1230 C (G := fun t lv st m => am_at p l e R s mm args below meth c cells slots Q E A 194 t lv st m) (fun _ _ _ _ h => h) ?_
  ((repeat' (first | with_reducible apply And.intro | with_reducible intro hh)) <;> (try (first | omega | exact ⟨by omega, by omega⟩)))
  all_goals refine c_right hC.1 hC.2.2.2.1.1 (fun m1 f1 => ?_)
  all_goals replace hC := hC.cf f1
  all_goals replace hR := hR.cf f1
  all_goals ((repeat' (first | with_reducible apply And.intro | with_reducible intro hh)) <;> (try (first | omega | exact ⟨by omega, by omega⟩)))
  all_goals refine r_right hR.1 hR.2.2.2.1 (fun m2 f2 => ?_)
  all_goals replace hC := hC.mf f2
  all_goals replace hR := hR.mf f2
  all_goals exact ⟨fun _ => hgo _ ⟨σ, L, tl, tb, Z, ch, dc, by omega, by omega, hC, hR⟩, fun h => absurd rfl h⟩
theorem lc_1243 (C : am_Cx p l e R s mm args below meth c cells slots Q E A 194 (d + 10 + 1) lwR) {x4 : Int} {m : am_M} {k : Nat} (hB : lwB E x4) (hI : LI m k) (hk : k ≤ 600) (hgo : ∀ m2, LI m2 (k + 1) → am_at p l e R s mm args below meth c cells slots Q E A 194 1440 (lwV x4) [] m2) : am_at p l e R s mm args below meth c cells slots Q E A 194 1243 (lwV x4) [] m := by
  obtain ⟨σ, L, tl, tb, Z, ch, dc, hch, hdc, hC, hR⟩ := hI
  obtain ⟨hx0, hx1, hx2⟩ := hB
  refine fl_1243 C (G := fun t lv st m => am_at p l e R s mm args below meth c cells slots Q E A 194 t lv st m) (fun _ _ _ _ h => h) ?_
  ((repeat' (first | with_reducible apply And.intro | with_reducible intro hh)) <;> (try (first | omega | exact ⟨by omega, by omega⟩)))
  all_goals refine c_strangers hC.1 hC.2.2.2.1.1 (fun m1 f1 => ?_)
  all_goals replace hC := hC.cf f1
  all_goals replace hR := hR.cf f1
  all_goals ((repeat' (first | with_reducible apply And.intro | with_reducible intro hh)) <;> (try (first | omega | exact ⟨by omega, by omega⟩)))
  all_goals refine r_strangers hR.1 hR.2.2.2.1 (fun m2 f2 => ?_)
  all_goals replace hC := hC.mf f2
  all_goals replace hR := hR.mf f2
  all_goals exact ⟨fun _ => hgo _ ⟨σ, L, tl, tb, Z, ch, dc, by omega, by omega, hC, hR⟩, fun h => absurd rfl h⟩
theorem lc_1324 (C : am_Cx p l e R s mm args below meth c cells slots Q E A 194 (d + 10 + 1) lwR) {x4 : Int} {m : am_M} {k : Nat} (hB : lwB E x4) (hI : LI m k) (hk : k ≤ 600) (hgo : ∀ m2, LI m2 (k + 1) → am_at p l e R s mm args below meth c cells slots Q E A 194 1440 (lwV x4) [] m2) : am_at p l e R s mm args below meth c cells slots Q E A 194 1324 (lwV x4) [] m := by
  obtain ⟨σ, L, tl, tb, Z, ch, dc, hch, hdc, hC, hR⟩ := hI
  obtain ⟨hx0, hx1, hx2⟩ := hB
  refine fl_1324 C (G := fun t lv st m => am_at p l e R s mm args below meth c cells slots Q E A 194 t lv st m) (fun _ _ _ _ h => h) ?_
  ((repeat' (first | with_reducible apply And.intro | with_reducible intro hh)) <;> (try (first | omega | exact ⟨by omega, by omega⟩)))
  all_goals refine c_shelf hC.2.2.2.1 (fun m1 t1 f1 => ?_)
  all_goals replace hC := hC.shelf f1 t1
  all_goals replace hR := hR.fr f1 (by decide) (by decide)
  all_goals ((repeat' (first | with_reducible apply And.intro | with_reducible intro hh)) <;> (try (first | omega | exact ⟨by omega, by omega⟩)))
  all_goals try (exact absurd ‹_› ‹_›)
  all_goals refine r_shelf hR.2.2.2 (fun m2 t2 f2 => ?_)
  all_goals replace hR := hR.shelf f2 t2
  all_goals replace hC := hC.fr f2 (by decide) (by decide)
  all_goals exact ⟨fun _ => hgo _ ⟨σ, L, tl, tb, _, ch, dc, by omega, by omega, hC, hR⟩, fun h => absurd rfl h⟩
theorem lc_1377 (C : am_Cx p l e R s mm args below meth c cells slots Q E A 194 (d + 10 + 1) lwR) {x4 : Int} {m : am_M} {k : Nat} (hB : lwB E x4) (hI : LI m k) (hk : k ≤ 600) (hgo : ∀ m2, LI m2 (k + 1) → am_at p l e R s mm args below meth c cells slots Q E A 194 1440 (lwV x4) [] m2) : am_at p l e R s mm args below meth c cells slots Q E A 194 1377 (lwV x4) [] m := by
  obtain ⟨σ, L, tl, tb, Z, ch, dc, hch, hdc, hC, hR⟩ := hI
  obtain ⟨hx0, hx1, hx2⟩ := hB
  refine fl_1377 C (G := fun t lv st m => am_at p l e R s mm args below meth c cells slots Q E A 194 t lv st m) (fun _ _ _ _ h => h) ?_
  ((repeat' (first | with_reducible apply And.intro | with_reducible intro hh)) <;> (try (first | omega | exact ⟨by omega, by omega⟩)))
  all_goals refine c_unlike hC.2.2.2.1 ?_
  all_goals ((repeat' (first | with_reducible apply And.intro | with_reducible intro hh)) <;> (try (first | omega | exact ⟨by omega, by omega⟩)))
  all_goals refine r_unlike hR.2.2.2 (fun m2 f2 => ?_)
  all_goals replace hC := hC.mf f2
  all_goals replace hR := hR.mf f2
  all_goals exact ⟨fun _ => hgo _ ⟨σ, L, tl, tb, Z, ch, dc, by omega, by omega, hC, hR⟩, fun h => absurd rfl h⟩
theorem lc_1402 (C : am_Cx p l e R s mm args below meth c cells slots Q E A 194 (d + 10 + 1) lwR) {x4 : Int} {m : am_M} {k : Nat} (hB : lwB E x4) (hI : LI m k) (hk : k ≤ 600) (hgo : ∀ m2, LI m2 (k + 1) → am_at p l e R s mm args below meth c cells slots Q E A 194 1440 (lwV x4) [] m2) : am_at p l e R s mm args below meth c cells slots Q E A 194 1402 (lwV x4) [] m := by
  obtain ⟨σ, L, tl, tb, Z, ch, dc, hch, hdc, hC, hR⟩ := hI
  obtain ⟨hx0, hx1, hx2⟩ := hB
  refine fl_1402 C (G := fun t lv st m => am_at p l e R s mm args below meth c cells slots Q E A 194 t lv st m) (fun _ _ _ _ h => h) ?_
  ((repeat' (first | with_reducible apply And.intro | with_reducible intro hh)) <;> (try (first | omega | exact ⟨by omega, by omega⟩)))
  refine c_undo hC.1 hC.2.1 hC.2.2.2.2.2.1 (by omega) (fun hn1 => ?_) (fun m1 t1 L1 hs1 hG1 hR1 hc1 f1 => ?_)
  · refine r_undo hR.1 hR.2.1 (fun m2 hn2 f2 => ?_) (fun m2 t2 L2 hs2 _ _ _ => ?_)
    · replace hC := hC.mf f2
      replace hR := hR.mf f2
      exact ⟨fun _ => hgo _ ⟨σ, L, tl, tb, Z, ch, dc, by omega, by omega, hC, hR⟩, fun h => absurd rfl h⟩
    · rw [hn1] at hs2
      cases hs2
  · replace hC := hC.acts f1 hG1 hR1 hc1
    replace hR := hR.fr f1 (by decide) (by decide)
    refine r_undo hR.1 hR.2.1 (fun m2 hn2 f2 => ?_) (fun m2 t2 L2 hs2 hM2 hK2 f2 => ?_)
    · rw [hs1] at hn2
      cases hn2
    · rw [hs1] at hs2
      cases hs2
      replace hC := hC.fr f2 (by decide) (by decide)
      replace hR := hR.acts f2 hM2 hK2
      exact ⟨fun _ => hgo _ ⟨t1, _, tl, tb, Z, ch + 1, dc, by omega, by omega, hC, hR⟩, fun h => absurd rfl h⟩
theorem lc_1415 (C : am_Cx p l e R s mm args below meth c cells slots Q E A 194 (d + 10 + 1) lwR) {x4 : Int} {m : am_M} {k : Nat} (hB : lwB E x4) (hI : LI m k) (hk : k ≤ 600) (hgo : ∀ m2, LI m2 (k + 1) → am_at p l e R s mm args below meth c cells slots Q E A 194 1440 (lwV x4) [] m2) : am_at p l e R s mm args below meth c cells slots Q E A 194 1415 (lwV x4) [] m := by
  obtain ⟨σ, L, tl, tb, Z, ch, dc, hch, hdc, hC, hR⟩ := hI
  obtain ⟨hx0, hx1, hx2⟩ := hB
  refine fl_1415 C (G := fun t lv st m => am_at p l e R s mm args below meth c cells slots Q E A 194 t lv st m) (fun _ _ _ _ h => h) ?_
  ((repeat' (first | with_reducible apply And.intro | with_reducible intro hh)) <;> (try (first | omega | exact ⟨by omega, by omega⟩)))
  all_goals refine c_count hC.1 hC.2.1 hC.2.2.1 hC.2.2.2.1.1 (fun m1 f1 => ?_)
  all_goals replace hC := hC.cf f1
  all_goals replace hR := hR.cf f1
  all_goals ((repeat' (first | with_reducible apply And.intro | with_reducible intro hh)) <;> (try (first | omega | exact ⟨by omega, by omega⟩)))
  all_goals refine r_count hR.1 hR.2.1 hR.2.2.1 hR.2.2.2.1 (fun m2 f2 => ?_)
  all_goals replace hC := hC.mf f2
  all_goals replace hR := hR.mf f2
  all_goals exact ⟨fun _ => hgo _ ⟨σ, L, tl, tb, Z, ch, dc, by omega, by omega, hC, hR⟩, fun h => absurd rfl h⟩
end LAWD
