/-! numbers and worlds: the plain facts that the soundness of the abstract machine stands on -/
theorem am_R_min : Int32.minValue.toInt = -2147483648 := by decide
theorem am_R_max : Int32.maxValue.toInt = 2147483647 := by decide
theorem am_to {z : Int} (h : am_R z) : (Int32.ofInt z).toInt = z := Int32.toInt_ofInt_of_le (by have := h.1; omega) (by have := h.2; omega)
theorem am_ltI {a b : Int} (ha : am_R a) (hb : am_R b) : Int32.ofInt a < Int32.ofInt b ↔ a < b := by rw [Int32.lt_iff_toInt_lt, am_to ha, am_to hb]
theorem am_leI {a b : Int} (ha : am_R a) (hb : am_R b) : Int32.ofInt a ≤ Int32.ofInt b ↔ a ≤ b := by rw [Int32.le_iff_toInt_le, am_to ha, am_to hb]
theorem am_eqI {a b : Int} (ha : am_R a) (hb : am_R b) : Int32.ofInt a = Int32.ofInt b ↔ a = b := by rw [← Int32.toInt_inj, am_to ha, am_to hb]
theorem am_R0 : am_R 0 := ⟨by decide, by decide⟩
theorem am_RT (x : Int32) : am_R x.toInt := ⟨by have := Int32.le_toInt x; omega, by have := Int32.toInt_lt x; omega⟩
theorem am_of (x : Int32) : Int32.ofInt x.toInt = x := Int32.ofInt_toInt x
theorem am_clamp {z : Int} (h : am_R z) : (Int32.ofInt z).toNatClampNeg = z.toNat := Int32.toNatClampNeg_ofInt_of_le (by have := h.1; omega) (by have := h.2; omega)
theorem am_vin {z : Int} {n : Nat} (h : am_R z) (h0 : 0 ≤ z) (h1 : z < (n : Int)) : vp_in (Int32.ofInt z) n := by
  intro hn
  rcases hn with hn | hn
  · have := (am_ltI h am_R0).mp hn
    omega
  · rw [am_clamp h] at hn
    omega
theorem am_In_R {r : Nat} {z : Int} (h : am_In r z) : am_R z := by
  unfold am_In at h
  split at h
  · rcases h with rfl | rfl <;> exact ⟨by decide, by decide⟩
  · exact ⟨by omega, by omega⟩
  · exact h
theorem am_MR.R {m : am_M} (h : am_MR m) (id : Nat) (z : Int) : am_R (m.1 id z) := am_In_R (h id z)
theorem am_rg0 {q : Nat} (h : q < 1000) (hk : (am_lay q).1 ≠ 101) (hk2 : (am_lay q).1 ≠ 102) : am_rg q = 0 := by simp [am_rg, h, hk, hk2]
theorem am_rg1 {q : Nat} (h : q < 1000) (hk : (am_lay q).1 = 101) : am_rg q = 1 := by simp [am_rg, h, hk]
theorem am_rg2 {q : Nat} (h : q < 1000) (hk : (am_lay q).1 = 102) : am_rg q = 2 := by simp [am_rg, h, hk]
theorem am_MR.wr {m : am_M} (h : am_MR m) {id : Nat} {z v : Int} (hv : am_In (am_rg id) v) : am_MR (am_wr m id z v) := by
  intro i j
  show am_In (am_rg i) ((if i = id then (fun j => if j = z then v else m.1 id j) else m.1 i) j)
  by_cases hi : i = id
  · subst hi
    rw [if_pos rfl]
    show am_In (am_rg i) (if j = z then v else m.1 i j)
    by_cases hj : j = z
    · rw [if_pos hj]; exact hv
    · rw [if_neg hj]; exact h i j
  · rw [if_neg hi]; exact h i j
theorem am_MR.wl {m : am_M} (h : am_MR m) {id : Nat} {z : Int} {v : Int64} : am_MR (am_wl m id z v) := h
theorem am_MR.ws1 {m : am_M} (h : am_MR m) {id : Nat} {f : Int → Int} (hf : ∀ j, am_In (am_rg id) (f j)) : am_MR (am_ws1 m id f) := by
  intro i j
  show am_In (am_rg i) ((if i = id then f else m.1 i) j)
  by_cases hi : i = id
  · subst hi; rw [if_pos rfl]; exact hf j
  · rw [if_neg hi]; exact h i j
theorem am_MR.ws2 {m : am_M} (h : am_MR m) {id : Nat} {f : Int → Int64} : am_MR (am_ws2 m id f) := h
-- the layout's own facts, by the kernel
def am_lok : Bool := (List.range am_N).all fun q => (am_layL.getD q (200, [])).1 < 105 && ((am_layL.getD q (200, [])).1 < 13 || 100 ≤ (am_layL.getD q (200, [])).1) && ((100 ≤ (am_layL.getD q (200, [])).1 && ((am_layL.getD q (200, [])).2.length == 1 || (am_layL.getD q (200, [])).1 == 104)) || ((am_layL.getD q (200, [])).2.length == (vwCl.getD (am_layL.getD q (200, [])).1 ("", fun _ => ("", "", "", false), 0)).2.2 && decide ((am_layL.getD q (200, [])).2.length ≤ 100) && (List.range (am_layL.getD q (200, [])).2.length).all fun k => let e := (am_layL.getD q (200, [])).2.getD k (9, 0); (e.1 == 2 && e.2 < am_N) || (e.1 < 4 && e.1 != 2 && e.2 == 1000 + 100 * q + k)))
theorem am_lok_true : am_lok = true := by decide +kernel
theorem am_N_len : am_layL.length = am_N := by decide +kernel
theorem am_lay_out {q : Nat} (h : am_N ≤ q) : am_lay q = (200, []) := by
  unfold am_lay
  rw [List.getD_eq_getElem?_getD, List.getElem?_eq_none (by rw [am_N_len]; exact h)]
  rfl
theorem am_lay_lt {q : Nat} (h : (am_lay q).1 < 200) : q < am_N := by
  rcases Nat.lt_or_ge q am_N with g | g
  · exact g
  · rw [am_lay_out g] at h
    exact absurd h (by decide)
theorem am_lokq {q : Nat} (hq : q < am_N) : ((am_lay q).1 < 105 ∧ ((am_lay q).1 < 13 ∨ 100 ≤ (am_lay q).1)) ∧ ((100 ≤ (am_lay q).1 ∧ ((am_lay q).2.length = 1 ∨ (am_lay q).1 = 104)) ∨ ((am_lay q).2.length = (vwCl.getD (am_lay q).1 ("", fun _ => ("", "", "", false), 0)).2.2 ∧ (am_lay q).2.length ≤ 100 ∧ ∀ k, k < (am_lay q).2.length → ((((am_lay q).2.getD k (9, 0)).1 = 2 ∧ ((am_lay q).2.getD k (9, 0)).2 < am_N) ∨ (((am_lay q).2.getD k (9, 0)).1 < 4 ∧ ((am_lay q).2.getD k (9, 0)).1 ≠ 2 ∧ ((am_lay q).2.getD k (9, 0)).2 = 1000 + 100 * q + k)))) := by
  have h := List.all_eq_true.mp am_lok_true q (List.mem_range.mpr hq)
  simp only [Bool.and_eq_true, Bool.or_eq_true, decide_eq_true_eq, beq_iff_eq, List.all_eq_true, List.mem_range, bne_iff_ne, ne_eq] at h
  obtain ⟨⟨h1, h2⟩, h3⟩ := h
  refine ⟨⟨h1, h2⟩, ?_⟩
  rcases h3 with h3 | ⟨⟨h3, h4⟩, h5⟩
  · exact Or.inl h3
  · refine Or.inr ⟨h3, h4, fun k hk => ?_⟩
    rcases h5 k hk with h6 | ⟨⟨h6, h7⟩, h8⟩
    · exact Or.inl h6
    · exact Or.inr ⟨h6, h7, h8⟩
theorem am_ws_get (E : am_E) (m : am_M) {q : Nat} (h : q < am_N) : (am_ws E m)[q]? = some (am_ad E q, am_cell E m q) := by
  unfold am_ws
  rw [List.getElem?_map, List.getElem?_range h]
  rfl
theorem am_ws_len (E : am_E) (m : am_M) : (am_ws E m).length = am_N := by simp [am_ws]
theorem am_ws_set (E : am_E) {m m' : am_M} {q : Nat} (ho : ∀ q', q' < am_N → q' ≠ q → am_cell E m' q' = am_cell E m q') : (am_ws E m).set q (am_ad E q, am_cell E m' q) = am_ws E m' := by
  refine List.ext_getElem? fun k => ?_
  rw [List.getElem?_set]
  by_cases hk : k < am_N
  · rw [am_ws_get E m hk, am_ws_get E m' hk]
    by_cases hq : q = k
    · subst hq
      rw [if_pos rfl, if_pos (by rw [am_ws_len]; exact hk)]
    · rw [if_neg hq, ho k hk (Ne.symm hq)]
  · have h1 : (am_ws E m)[k]? = none := List.getElem?_eq_none (by rw [am_ws_len]; omega)
    have h2 : (am_ws E m')[k]? = none := List.getElem?_eq_none (by rw [am_ws_len]; omega)
    rw [h1, h2]
    split
    · rw [if_neg (by rw [am_ws_len]; omega)]
    · rfl
/-- what a write of a row leaves of the other cells -/
theorem am_cell_arr {E : am_E} {m m' : am_M} {q : Nat} (hq : q < 1000) (h1 : ∀ i, i ≠ q → m'.1 i = m.1 i) (h2 : ∀ i, i ≠ q → m'.2 i = m.2 i) : ∀ q', q' < am_N → q' ≠ q → am_cell E m' q' = am_cell E m q' := by
  intro q' hN hne
  unfold am_cell
  split
  · rename_i hk
    congr 2
    refine List.map_congr_left fun e he => ?_
    obtain ⟨k, hk2⟩ := List.getElem?_of_mem he
    have hkl : k < (am_lay q').2.length := (List.getElem?_eq_some_iff.mp hk2).1
    have he2 : (am_lay q').2.getD k (9, 0) = e := by rw [List.getD_eq_getElem?_getD, hk2]; rfl
    rcases (am_lokq hN).2 with ⟨h, -⟩ | ⟨-, -, h⟩
    · omega
    · have h := h k hkl
      rw [he2] at h
      unfold am_fv
      rcases h with ⟨h3, -⟩ | ⟨h3, h4, h5⟩
      · simp only [h3]
      · rw [h1 e.2 (by omega), h2 e.2 (by omega)]
  · split
    · rw [h2 q' hne]
    · split
      · rfl
      · rw [h1 q' hne]
/-- what a write of a field leaves of the other cells -/
theorem am_cell_fld {E : am_E} {m m' : am_M} {q k : Nat} (hN0 : q < am_N) (hk : k < 100) (h1 : ∀ i, i ≠ 1000 + 100 * q + k → m'.1 i = m.1 i) (h2 : ∀ i, i ≠ 1000 + 100 * q + k → m'.2 i = m.2 i) : ∀ q', q' < am_N → q' ≠ q → am_cell E m' q' = am_cell E m q' := by
  intro q' hN hne
  have hNN : am_N < 1000 := by decide
  unfold am_cell
  split
  · rename_i hk
    congr 2
    refine List.map_congr_left fun e he => ?_
    obtain ⟨k', hk2⟩ := List.getElem?_of_mem he
    have hkl : k' < (am_lay q').2.length := (List.getElem?_eq_some_iff.mp hk2).1
    have he2 : (am_lay q').2.getD k' (9, 0) = e := by rw [List.getD_eq_getElem?_getD, hk2]; rfl
    rcases (am_lokq hN).2 with ⟨h, -⟩ | ⟨-, h100, h⟩
    · omega
    · have h := h k' hkl
      rw [he2] at h
      unfold am_fv
      rcases h with ⟨h3, -⟩ | ⟨h3, h4, h5⟩
      · simp only [h3]
      · rw [h1 e.2 (by omega), h2 e.2 (by omega)]
  · split
    · rw [h2 q' (by omega)]
    · split
      · rfl
      · rw [h1 q' (by omega)]
theorem am_D_any {E : am_E} {A : Nat → Prop} {m m' : am_M} (h : va_D A (am_ws E m)) : va_D A (am_ws E m') := by
  have key : ∀ (k : Nat) (x : Nat × va_E), (am_ws E m')[k]? = some x → (am_ws E m)[k]? = some (x.1, am_cell E m k) := by
    intro k x hx
    have hk : k < am_N := by
      have := (List.getElem?_eq_some_iff.mp hx).1
      rwa [am_ws_len] at this
    rw [am_ws_get E m' hk] at hx
    cases hx
    exact am_ws_get E m hk
  exact ⟨fun i j x z hi hj hxy => h.1 i j (x.1, am_cell E m i) (z.1, am_cell E m j) (key i x hi) (key j z hj) hxy, fun k x hk => h.2 k (x.1, am_cell E m k) (key k x hk)⟩
