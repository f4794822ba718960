/-! THE LAW: the call that may throw, and the loop (written by wip/gen69.py) -/
theorem GoodLk : GoodIn am_big (va_wsS "TripleSieveLaw" 34 yLk wLk) := by
  have key : ∀ w ∈ am_big, w ∈ am_big ∧ ((w.onTables && w.keeps) = true ∨ ∃ ty, w = .arrayClass ty) := fun w hw => ⟨hw, good_of_word (List.mem_filter.mp hw).2⟩
  intro w hw
  unfold va_wsS wLk at hw
  simp only [List.cons_append, List.nil_append, List.mem_cons] at hw
  rcases hw with rfl | rfl | rfl | rfl | hw
  · exact key _ (am_big_of (i := 1047) (by decide +kernel) rfl)
  · exact key _ (am_big_of (i := 1048) (by decide +kernel) rfl)
  · exact key _ (am_big_of (i := 107) (by decide +kernel) rfl)
  · exact key _ wLk_big
  · exact key _ hw
theorem dw_307 : decode code 307 = .ok (.invokestatic 34, 3) := by decide +kernel
theorem LI.up {m : am_M} {k : Nat} (h : LI m k) : LI m (k + 1) := by
  obtain ⟨σ, L, tl, tb, Z, ch, dc, hch, hdc, hC, hR⟩ := h
  exact ⟨σ, L, tl, tb, Z, ch, dc, by omega, by omega, hC, hR⟩
section LAWE
variable {p : Program} {l : Launch} {e : Env} {R : Room} {s : State} {mm : MethodId} {args : Array Value} {below : List Frame} {meth : Method} {c : Code} {cells slots : Nat} {Q : State → Prop} {E : am_E} {A : Nat → Prop} {d : Nat}
set_option maxHeartbeats 1000000 in
theorem lk_307 (C : am_Cx p l e R s mm args below meth c cells slots Q E A 194 (d + 10 + 1) lwR) (hfl : l.stackTraces = false) (hXS : xS A s s.heap) (hR0 : 32 ≤ R.frames ∧ 4096 ≤ R.locals ∧ cells + 1 ≤ R.cells ∧ slots + 6 ≤ R.slots) {m : am_M} {n : Nat} {K : Nat → Int64} {V S : Nat → Nat} {z : Int} (hG : GSt m n K V S) {lv : am_L}
    (k : ∀ (r : Int) (m' : am_M), am_R r → lkQ m n K z (Int32.ofInt r) m' → am_at p l e R s mm args below meth c (cells + 1) (slots + 6) Q E A 194 310 lv [.inl r] m') : am_at p l e R s mm args below meth c cells slots Q E A 194 307 lv [.inr (.inr 87), .inl z, .inr (.inr 0)] m := by
  obtain ⟨hx, hb, hml, hown, hts, hfr, hlo, hce, hsl, hRO, hK, hret⟩ := id C
  intro H locs ls hW hS hl hv hst
  obtain ⟨hP, -, hD, hMR⟩ := id hW
  have hfix : CallFix p mm c code 8 s args am_big "TripleSieveLaw" := ⟨hx, hb, hml, hown, hts⟩
  have hok2 : ∀ x ∈ lkA z, am_vok x := fun x hx => hst x (by
    simp only [lkA, List.mem_cons, List.not_mem_nil, or_false] at hx ⊢
    rcases hx with h | h | h
    · exact Or.inr (Or.inr h)
    · exact Or.inr (Or.inl h)
    · exact Or.inl h)
  have hpre : ∀ U : State, U.heap = H → s.WarmedH U.vm → kyP E A (lkA z) m ((lkA z).map (am_cv E)).toArray U := fun U hU hWm => ⟨⟨rfl, hok2, ⟨by rw [hU]; exact hP, va_K.moved hWm.alike hK, hD, hMR⟩, hRO.at hS hU hWm⟩, hXS.at hS hU hWm⟩
  have cw := vx_cwSW (R := R) (s := s) (args := args) (own := "TripleSieveLaw") (index := 34) (rm := kyR (0 + 10)) (mc := 1) (ms := 6) 3 hts GoodLk rfl rfl rfl (by decide +kernel) ⟨by show 0 + 10 + 1 ≤ R.frames; omega, by show 8 + (4 + 11) + 64 * (0 + 10) ≤ R.locals; omega⟩
  have hrun := vx_runSW (g := F0 mm 307 ls [.ref (am_ad E 87), .int (Int32.ofInt z), .ref (am_ad E 0)]) (H := H) (locs := locs) (cells := cells) (slots := slots) (below := below) (e := e) (meth := meth) (As := [.ref (am_ad E 0), .int (Int32.ofInt z), .ref (am_ad E 87)]) (rest := []) hfix (x_lkey l hfl E A 0 hG) cw ⟨ky_blind E A _ m, hpre⟩ rfl rfl hl.1 rfl (lv_room (show 0 ≤ 8 by decide)) dw_307 ⟨hR0.2.2.1, hR0.2.2.2⟩
  refine va_calli hrun hS (fun q _ h => h) (fun q h => h) (fun r u t H1 locs1 ht hal hp hB hz hk hS1 => ?_)
  have hP1 : va_P E.1 vwCl (am_ws E u) H1 := by rw [← ht]; exact hB
  have fin : ∀ r0 : Int, am_R r0 → r = Int32.ofInt r0 → am_MR u → W p l e R s mm args below meth c H1 locs1 (cells + 1) (slots + 6) Q (F0 mm (307 + 3) ls (.int r :: [])) := fun r0 h0 e0 hM => by
    subst e0
    exact k r0 u h0 hp H1 locs1 ls ⟨hP1, hK, am_D_any hD, hM⟩ hS1 hl hv (fun v hv => by
      rcases List.mem_cons.mp hv with rfl | hv
      · exact h0
      · cases hv)
  rcases id hp with ⟨-, rfl, rfl⟩ | ⟨-, rfl, rfl⟩
  · exact fin 1 ⟨by decide, by decide⟩ rfl hMR
  · exact fin 0 ⟨by decide, by decide⟩ rfl hMR.wl
set_option maxHeartbeats 1000000 in
theorem lc_299 (C : am_Cx p l e R s mm args below meth c cells slots Q E A 194 (d + 10 + 1) lwR) (C2 : am_Cx p l e R s mm args below meth c (cells + 1) (slots + 6) Q E A 194 (d + 10 + 1) lwR) (hfl : l.stackTraces = false) (hXS : xS A s s.heap) (hR0 : 32 ≤ R.frames ∧ 4096 ≤ R.locals ∧ cells + 1 ≤ R.cells ∧ slots + 6 ≤ R.slots) {x4 : Int} {m : am_M} {k : Nat} (hB : lwB E x4) (hI : LI m k) (hk : k ≤ 600) (hgo : ∀ m2, LI m2 (k + 1) → am_at p l e R s mm args below meth c (cells + 1) (slots + 6) Q E A 194 1440 (lwV x4) [] m2) : am_at p l e R s mm args below meth c cells slots Q E A 194 299 (lwV x4) [] m := by
  obtain ⟨σ, L, tl, tb, Z, ch, dc, hch, hdc, hC, hR⟩ := hI
  obtain ⟨hx0, hx1, hx2⟩ := hB
  refine fl_299 C (G := fun t lv st m => am_at p l e R s mm args below meth c cells slots Q E A 194 t lv st m) (fun _ _ _ _ h => h) ?_
  ((repeat' (first | with_reducible apply And.intro | with_reducible intro hh)) <;> (try (first | omega | exact ⟨by omega, by omega⟩)))
  refine lk_307 C hfl hXS hR0 hC.1 (fun r m' hr hq => ?_)
  refine fl_310 C2 (G := fun t lv st m => am_at p l e R s mm args below meth c (cells + 1) (slots + 6) Q E A 194 t lv st m) (fun _ _ _ _ h => h) ?_
  rcases hq with ⟨hn, hr1, rfl⟩ | ⟨hn, hr1, rfl⟩
  · have e1 : r = 1 := by
      have := congrArg Int32.toInt hr1
      rw [am_to hr] at this
      exact this
    subst e1
    ((repeat' (first | with_reducible apply And.intro | with_reducible intro hh)) <;> (try (first | omega | exact ⟨by omega, by omega⟩)))
    refine r_key hR.1 (fun m2 _ ht f2 => ?_) (fun m2 h0 h1 _ _ => absurd ⟨h0, h1⟩ hn)
    refine f_M_thrown ?_
    rw [ht]
    replace hC := hC.mf f2
    replace hR := hR.mf f2
    exact ⟨fun _ => ⟨fun _ => hgo _ ⟨σ, L, tl, tb, Z, ch, dc, by omega, by omega, hC, hR⟩, fun h => absurd (by decide) h⟩, fun h => absurd rfl h⟩
  · have e1 : r = 0 := by
      have := congrArg Int32.toInt hr1
      rw [am_to hr] at this
      exact this
    subst e1
    have f1 : Fr [] [87] m (am_wl m 87 0 (σ.2.1 ((am_sc E).2 (x4 + 1)).toNat)) := Fr.rf.wl (by decide)
    have hv : (am_wl m 87 0 (σ.2.1 ((am_sc E).2 (x4 + 1)).toNat)).2 87 0 = σ.2.1 ((am_sc E).2 (x4 + 1)).toNat := by simp [am_wl]
    replace hC := hC.fr f1 (by decide) (by decide)
    replace hR := hR.fr f1 (by decide) (by decide)
    generalize am_wl m 87 0 (σ.2.1 ((am_sc E).2 (x4 + 1)).toNat) = m1 at *
    ((repeat' (first | with_reducible apply And.intro | with_reducible intro hh)) <;> (try (first | omega | exact ⟨by omega, by omega⟩)))
    refine r_key hR.1 (fun m2 hn2 _ _ => absurd hn hn2) (fun m2 h0 h1 ht f2 => ?_)
    refine f_M_thrown ?_
    rw [ht]
    replace hC := hC.mf f2
    replace hR := hR.mf f2
    have hv2 : m2.2 87 0 = σ.2.1 ((am_sc E).2 (x4 + 1)).toNat := by rw [f2.2 87 (by decide)]; exact hv
    exact ⟨fun _ => ⟨fun h => absurd rfl h, fun _ => ⟨by decide, by decide, fun _ => hgo _ ⟨σ, L, tl, tb, Z, ch, dc, by omega, by omega, hC, hR⟩, fun h => absurd (by rw [hv2]; exact lcmp0.mpr rfl) h⟩⟩, fun h => absurd rfl h⟩
set_option maxHeartbeats 1000000 in
theorem lw_loop (hCX : ∀ cells slots, cells ≤ 601024 → slots ≤ 7293034 → am_Cx p l e R s mm args below meth c cells slots Q E A 194 (d + 10 + 1) lwR) (hfl : l.stackTraces = false) (hXS : xS A s s.heap) (hR0 : 32 ≤ R.frames ∧ 4096 ≤ R.locals ∧ 601024 ≤ R.cells ∧ 7293034 ≤ R.slots) (h3 : (am_sc E).1 ≤ 3072) :
    ∀ (f k cells slots : Nat) (x4 : Int) (m : am_M), x4 = 6 * (k : Int) → (am_sc E).1 - x4 ≤ 6 * (f : Int) → LI m k → k + f ≤ 600 → cells ≤ 200 + k → slots ≤ 10000 + 6 * k → am_at p l e R s mm args below meth c cells slots Q E A 194 23 (lwV x4) [] m
  | 0, k, cells, slots, x4, m, e4, hf, hI, hk, hc, hs => by
    have C := hCX cells slots (by omega) (by omega)
    refine fl_23 C (G := fun t lv st m => am_at p l e R s mm args below meth c cells slots Q E A 194 t lv st m) (fun _ _ _ _ h => h) ?_
    have := am_sc0 E
    exact ⟨⟨by omega, by omega⟩, fun _ => ⟨Or.inr rfl, rfl⟩, fun h => absurd (by omega) h⟩
  | f + 1, k, cells, slots, x4, m, e4, hf, hI, hk, hc, hs => by
    have C := hCX cells slots (by omega) (by omega)
    have h0 := am_sc0 E
    refine fl_23 C (G := fun t lv st m => am_at p l e R s mm args below meth c cells slots Q E A 194 t lv st m) (fun _ _ _ _ h => h) ?_
    refine ⟨⟨by omega, by omega⟩, fun _ => ⟨Or.inr rfl, rfl⟩, fun h => ?_⟩
    have hB : lwB E x4 := ⟨by omega, by omega, h3⟩
    have hgo : ∀ m2, LI m2 (k + 1) → am_at p l e R s mm args below meth c cells slots Q E A 194 1440 (lwV x4) [] m2 := fun m2 hI2 => fl_1440 C (G := fun t lv st m => am_at p l e R s mm args below meth c cells slots Q E A 194 t lv st m) (fun _ _ _ _ h => h) ⟨⟨by omega, by omega⟩, lw_loop hCX hfl hXS hR0 h3 f (k + 1) cells slots (x4 + 6) m2 (by omega) (by omega) hI2 (by omega) (by omega) (by omega)⟩
    have hgo2 : ∀ m2, LI m2 (k + 1) → am_at p l e R s mm args below meth c (cells + 1) (slots + 6) Q E A 194 1440 (lwV x4) [] m2 := fun m2 hI2 => fl_1440 (hCX (cells + 1) (slots + 6) (by omega) (by omega)) (G := fun t lv st m => am_at p l e R s mm args below meth c (cells + 1) (slots + 6) Q E A 194 t lv st m) (fun _ _ _ _ h => h) ⟨⟨by omega, by omega⟩, lw_loop hCX hfl hXS hR0 h3 f (k + 1) (cells + 1) (slots + 6) (x4 + 6) m2 (by omega) (by omega) hI2 (by omega) (by omega) (by omega)⟩
    have hk6 : k ≤ 600 := by omega
    refine ⟨by omega, by omega, fun _ => lc_188 C hB hI hk6 hgo, fun _ => lc_261 C hB hI hk6 hgo, fun _ => lc_286 C hB hI hk6 hgo, fun _ => lc_299 C (hCX (cells + 1) (slots + 6) (by omega) (by omega)) hfl hXS ⟨hR0.1, hR0.2.1, by omega, by omega⟩ hB hI hk6 hgo2, fun _ => lc_354 C hB hI hk6 hgo, fun _ => lc_379 C hB hI hk6 hgo, fun _ => lc_448 C hB hI hk6 hgo, fun _ => lc_505 C hB hI hk6 hgo, fun _ => lc_542 C hB hI hk6 hgo, fun _ => lc_579 C hB hI hk6 hgo, fun _ => lc_649 C hB hI hk6 hgo, fun _ => lc_718 C hB hI hk6 hgo, fun _ => lc_775 C hB hI hk6 hgo, fun _ => lc_800 C hB hI hk6 hgo, fun _ => lc_813 C hB hI hk6 hgo, fun _ => lc_850 C hB hI hk6 hgo, fun _ => lc_875 C hB hI hk6 hgo, fun _ => lc_900 C hB hI hk6 hgo, fun _ => lc_913 C hB hI hk6 hgo, fun _ => lc_938 C hB hI hk6 hgo, fun _ => lc_951 C hB hI hk6 hgo, fun _ => lc_976 C hB hI hk6 hgo, fun _ => lc_1013 C hB hI hk6 hgo, fun _ => lc_1038 C hB hI hk6 hgo, fun _ => lc_1063 C hB hI hk6 hgo, fun _ => lc_1116 C hB hI hk6 hgo, fun _ => lc_1173 C hB hI hk6 hgo, fun _ => lc_1230 C hB hI hk6 hgo, fun _ => lc_1243 C hB hI hk6 hgo, fun _ => lc_1324 C hB hI hk6 hgo, fun _ => lc_1377 C hB hI hk6 hgo, fun _ => lc_1402 C hB hI hk6 hgo, fun _ => lc_1415 C hB hI hk6 hgo, ?_⟩
    intros
    exact hgo m hI.up
end LAWE
