theorem am_inbig {ws : List Cond} (ps : List Nat) (hp : ws = ps.filterMap (fun i => lw_tbl[i]?)) (h : ws.all goodWord = true) : ∀ w ∈ ws, w ∈ am_big := by
  intro w hw
  have h1 := List.all_eq_true.mp h w hw
  rw [hp] at hw
  obtain ⟨i, -, hi⟩ := List.mem_filterMap.mp hw
  exact List.mem_filter.mpr ⟨List.mem_of_getElem? hi, h1⟩
theorem am_big_of {i : Nat} {w : Cond} (h : lw_tbl[i]? = some w) (hg : goodWord w = true) : w ∈ am_big := List.mem_filter.mpr ⟨List.mem_of_getElem? h, hg⟩
theorem am_inX0 : ∀ w ∈ u_ws RX0 TX0 6, w ∈ am_big := am_inbig [238, 240, 242, 244, 246, 248] (by decide +kernel) (by decide +kernel)
theorem am_inX1 : ∀ w ∈ u_ws RX1 TX1 3, w ∈ am_big := am_inbig [395, 397, 399] (by decide +kernel) (by decide +kernel)
theorem am_inX2 : ∀ w ∈ u_ws RX2 TX2 5, w ∈ am_big := am_inbig [212, 214, 216, 218, 220] (by decide +kernel) (by decide +kernel)
theorem am_inX3 : ∀ w ∈ u_ws RX3 TX3 8, w ∈ am_big := am_inbig [271, 273, 275, 277, 279, 281, 283, 285] (by decide +kernel) (by decide +kernel)
theorem am_inX4 : ∀ w ∈ u_ws RX4 TX4 7, w ∈ am_big := am_inbig [418, 420, 422, 424, 426, 428, 430] (by decide +kernel) (by decide +kernel)
theorem am_inX5 : ∀ w ∈ u_ws RX5 TX5 8, w ∈ am_big := am_inbig [358, 360, 362, 364, 366, 368, 370, 372] (by decide +kernel) (by decide +kernel)
theorem am_inX6 : ∀ w ∈ u_ws RX6 TX6 1, w ∈ am_big := am_inbig [177] (by decide +kernel) (by decide +kernel)
theorem am_inX7 : ∀ w ∈ u_ws RX7 TX7 1, w ∈ am_big := am_inbig [383] (by decide +kernel) (by decide +kernel)
theorem am_inX8 : ∀ w ∈ u_ws RX8 TX8 9, w ∈ am_big := am_inbig [321, 323, 325, 327, 329, 331, 333, 335, 337] (by decide +kernel) (by decide +kernel)
theorem am_inX9 : ∀ w ∈ u_ws RX9 TX9 4, w ∈ am_big := am_inbig [447, 449, 451, 453] (by decide +kernel) (by decide +kernel)
theorem am_inX10 : ∀ w ∈ u_ws RX10 TX10 6, w ∈ am_big := am_inbig [156, 158, 160, 162, 164, 166] (by decide +kernel) (by decide +kernel)
theorem am_inX11 : ∀ w ∈ u_ws RX11 TX11 13, w ∈ am_big := am_inbig [470, 472, 474, 476, 478, 480, 482, 484, 486, 488, 490, 492, 494] (by decide +kernel) (by decide +kernel)
theorem am_inX12 : ∀ w ∈ u_ws RX12 TX12 49, w ∈ am_big := am_inbig [1190, 1192, 1194, 1196, 1198, 1200, 1202, 1204, 1206, 1208, 1210, 1212, 1214, 1216, 1218, 1220, 1222, 1224, 1226, 1228, 1230, 1232, 1234, 1236, 1238, 1240, 1242, 1244, 1246, 1248, 1250, 1252, 1254, 1256, 1258, 1260, 1262, 1264, 1266, 1268, 1270, 1272, 1274, 1276, 1278, 1280, 1282, 1284, 1286] (by decide +kernel) (by decide +kernel)
/-- what the tables say of a class -/
def am_clsF (C : String) (T : u_T) (N : Nat) : Prop := (∀ w ∈ u_ws C T N, w ∈ am_big) ∧ (∃ ty : Nat → FieldType, ∀ k, k < N → parseFieldDescriptor (T k).2.2.1 = some (ty k)) ∧ (∀ a, a < N → ∀ b, b < N → a ≠ b → (T a).2.1 ≠ (T b).2.1) ∧ ∀ k, k < N → (T k).1 = C
theorem am_cls : ∀ {ci : Nat} {C : String} {T : u_T} {N : Nat}, vwCl[ci]? = some (C, T, N) → am_clsF C T N := by
  intro ci C T N h
  match ci, h with
  | 0, h => cases h; exact ⟨am_inX0, ⟨tyX0, tyX0_ok⟩, nmX0, by decide +kernel⟩
  | 1, h => cases h; exact ⟨am_inX1, ⟨tyX1, tyX1_ok⟩, nmX1, by decide +kernel⟩
  | 2, h => cases h; exact ⟨am_inX2, ⟨tyX2, tyX2_ok⟩, nmX2, by decide +kernel⟩
  | 3, h => cases h; exact ⟨am_inX3, ⟨tyX3, tyX3_ok⟩, nmX3, by decide +kernel⟩
  | 4, h => cases h; exact ⟨am_inX4, ⟨tyX4, tyX4_ok⟩, nmX4, by decide +kernel⟩
  | 5, h => cases h; exact ⟨am_inX5, ⟨tyX5, tyX5_ok⟩, nmX5, by decide +kernel⟩
  | 6, h => cases h; exact ⟨am_inX6, ⟨tyX6, tyX6_ok⟩, nmX6, by decide +kernel⟩
  | 7, h => cases h; exact ⟨am_inX7, ⟨tyX7, tyX7_ok⟩, nmX7, by decide +kernel⟩
  | 8, h => cases h; exact ⟨am_inX8, ⟨tyX8, tyX8_ok⟩, nmX8, by decide +kernel⟩
  | 9, h => cases h; exact ⟨am_inX9, ⟨tyX9, tyX9_ok⟩, nmX9, by decide +kernel⟩
  | 10, h => cases h; exact ⟨am_inX10, ⟨tyX10, tyX10_ok⟩, nmX10, by decide +kernel⟩
  | 11, h => cases h; exact ⟨am_inX11, ⟨tyX11, tyX11_ok⟩, nmX11, by decide +kernel⟩
  | 12, h => cases h; exact ⟨am_inX12, ⟨tyX12, tyX12_ok⟩, nmX12, by decide +kernel⟩
  | n + 13, h => simp [vwCl] at h
def am_C (ci : Nat) : vw_C := vwCl.getD ci ("", fun _ => ("", "", "", false), 0)
theorem am_C_at {ci : Nat} (h : ci < 13) : vwCl[ci]? = some ((am_C ci).1, (am_C ci).2.1, (am_C ci).2.2) := by
  have hl : vwCl.length = 13 := rfl
  unfold am_C
  rw [List.getD_eq_getElem?_getD]
  cases hc : vwCl[ci]? with
  | none =>
    rw [List.getElem?_eq_none_iff] at hc
    omega
  | some x => rfl
def am_fck (o : Nat) (e : Nat × Nat × Nat × Nat) : Bool := decide (e.2.1 / 100 < 13) && decide (e.2.1 % 100 < (am_C (e.2.1 / 100)).2.2) && decide (lw_tbl[e.2.2.2]? = some (if e.2.2.1 = 0 then Cond.fieldLink (am_cn.getD o "") e.1 (am_C (e.2.1 / 100)).1 ((am_C (e.2.1 / 100)).2.1 (e.2.1 % 100)).2.1 ((am_C (e.2.1 / 100)).2.1 (e.2.1 % 100)).2.2.1 else Cond.fieldLinkNest (am_cn.getD o "") e.1 (am_C (e.2.1 / 100)).1 ((am_C (e.2.1 / 100)).2.1 (e.2.1 % 100)).2.1 ((am_C (e.2.1 / 100)).2.1 (e.2.1 % 100)).2.2.1 "TripleSieve"))
theorem am_ft_ok : (List.range 17).all (fun o => (am_ft.getD o []).all (am_fck o)) = true := by decide +kernel
def am_gck (o : Nat) (e : Nat × Nat × Nat × Nat) : Bool := decide (900 ≤ e.2.1 ∧ e.2.1 ≤ 902) && decide (lw_tbl[e.2.2.2]? = some (if e.2.2.1 = 0 then Cond.fieldLink (am_cn.getD o "") e.1 "TripleSieve" (["LOWEST", "HIGHEST", "UNTOLD"].getD (e.2.1 - 900) "") "[I" else Cond.fieldLinkNest (am_cn.getD o "") e.1 "TripleSieve" (["LOWEST", "HIGHEST", "UNTOLD"].getD (e.2.1 - 900) "") "[I" "TripleSieve"))
theorem am_gs_ok : (List.range 17).all (fun o => (am_gs.getD o []).all (am_gck o)) = true := by decide +kernel
def am_cck (o : Nat) (e : Nat × Int × Nat) : Bool := decide (lw_tbl[e.2.2]? = some (Cond.constant (am_cn.getD o "") e.1 (Int32.ofInt e.2.1)))
theorem am_ct_ok : (List.range 17).all (fun o => (am_ct.getD o []).all (am_cck o)) = true := by decide +kernel
def am_lck (o : Nat) (e : Nat × Nat × Nat) : Bool := decide (lw_tbl[e.2.2]? = some (Cond.constantLong (am_cn.getD o "") e.1 (Int64.ofNat e.2.1)))
theorem am_lt_ok : (List.range 17).all (fun o => (am_lt.getD o []).all (am_lck o)) = true := by decide +kernel
def am_ack (o : Nat) (e : Nat × Nat) : Bool := decide (lw_tbl[e.2]? = some (Cond.methodLink (am_cn.getD o "") e.1 arraycopyName))
theorem am_act_ok : (List.range 17).all (fun o => (am_act.getD o []).all (am_ack o)) = true := by decide +kernel
theorem am_acw1 : lw_tbl[am_acw.1]? = some (Cond.static arraycopyName) := by decide +kernel
theorem am_acw2 : lw_tbl[am_acw.2.1]? = some (Cond.native arraycopyName) := by decide +kernel
theorem am_acw3 : lw_tbl[am_acw.2.2]? = some (Cond.initialized "java/lang/System") := by decide +kernel
theorem am_all17 {α : Type} {f : Nat → List α} {g : Nat → α → Bool} (h : (List.range 17).all (fun o => (f o).all (g o)) = true) (hf : ∀ o, 17 ≤ o → f o = []) {o : Nat} {e : α} (he : e ∈ f o) : g o e = true := by
  rcases Nat.lt_or_ge o 17 with ho | ho
  · exact List.all_eq_true.mp (List.all_eq_true.mp h o (List.mem_range.mpr ho)) e he
  · rw [hf o ho] at he
    cases he
theorem am_ft17 (o : Nat) (h : 17 ≤ o) : am_ft.getD o [] = [] := by
  rw [List.getD_eq_getElem?_getD, List.getElem?_eq_none (show am_ft.length ≤ o from h)]; rfl
theorem am_gs17 (o : Nat) (h : 17 ≤ o) : am_gs.getD o [] = [] := by
  rw [List.getD_eq_getElem?_getD, List.getElem?_eq_none (show am_gs.length ≤ o from h)]; rfl
theorem am_ct17 (o : Nat) (h : 17 ≤ o) : am_ct.getD o [] = [] := by
  rw [List.getD_eq_getElem?_getD, List.getElem?_eq_none (show am_ct.length ≤ o from h)]; rfl
theorem am_lt17 (o : Nat) (h : 17 ≤ o) : am_lt.getD o [] = [] := by
  rw [List.getD_eq_getElem?_getD, List.getElem?_eq_none (show am_lt.length ≤ o from h)]; rfl
theorem am_act17 (o : Nat) (h : 17 ≤ o) : am_act.getD o [] = [] := by
  rw [List.getD_eq_getElem?_getD, List.getElem?_eq_none (show am_act.length ≤ o from h)]; rfl
theorem am_flink {o i n nest w : Nat} (h : (i, n, nest, w) ∈ am_ft.getD o []) : n / 100 < 13 ∧ n % 100 < (am_C (n / 100)).2.2 ∧ (Cond.fieldLink (am_cn.getD o "") i (am_C (n / 100)).1 ((am_C (n / 100)).2.1 (n % 100)).2.1 ((am_C (n / 100)).2.1 (n % 100)).2.2.1 ∈ am_big ∨ Cond.fieldLinkNest (am_cn.getD o "") i (am_C (n / 100)).1 ((am_C (n / 100)).2.1 (n % 100)).2.1 ((am_C (n / 100)).2.1 (n % 100)).2.2.1 "TripleSieve" ∈ am_nst) := by
  have h1 := am_all17 (f := fun o => am_ft.getD o []) am_ft_ok am_ft17 h
  simp only [am_fck, Bool.and_eq_true, decide_eq_true_eq] at h1
  obtain ⟨⟨h1, h2⟩, h3⟩ := h1
  refine ⟨h1, h2, ?_⟩
  by_cases hn : nest = 0
  · rw [if_pos hn] at h3
    exact Or.inl (am_big_of h3 rfl)
  · rw [if_neg hn] at h3
    exact Or.inr (List.mem_filter.mpr ⟨List.mem_of_getElem? h3, rfl⟩)
theorem am_glink {o i n nest w : Nat} (h : (i, n, nest, w) ∈ am_gs.getD o []) : (900 ≤ n ∧ n ≤ 902) ∧ (Cond.fieldLink (am_cn.getD o "") i "TripleSieve" (["LOWEST", "HIGHEST", "UNTOLD"].getD (n - 900) "") "[I" ∈ am_big ∨ Cond.fieldLinkNest (am_cn.getD o "") i "TripleSieve" (["LOWEST", "HIGHEST", "UNTOLD"].getD (n - 900) "") "[I" "TripleSieve" ∈ am_nst) := by
  have h1 := am_all17 (f := fun o => am_gs.getD o []) am_gs_ok am_gs17 h
  simp only [am_gck, Bool.and_eq_true, decide_eq_true_eq] at h1
  obtain ⟨h1, h3⟩ := h1
  refine ⟨h1, ?_⟩
  by_cases hn : nest = 0
  · rw [if_pos hn] at h3
    exact Or.inl (am_big_of h3 rfl)
  · rw [if_neg hn] at h3
    exact Or.inr (List.mem_filter.mpr ⟨List.mem_of_getElem? h3, rfl⟩)
theorem am_clink {o i w : Nat} {z : Int} (h : (i, z, w) ∈ am_ct.getD o []) : Cond.constant (am_cn.getD o "") i (Int32.ofInt z) ∈ am_big := by
  have h1 := am_all17 (f := fun o => am_ct.getD o []) am_ct_ok am_ct17 h
  simp only [am_cck, decide_eq_true_eq] at h1
  exact am_big_of h1 rfl
theorem am_llink {o i w n : Nat} (h : (i, n, w) ∈ am_lt.getD o []) : Cond.constantLong (am_cn.getD o "") i (Int64.ofNat n) ∈ am_big := by
  have h1 := am_all17 (f := fun o => am_lt.getD o []) am_lt_ok am_lt17 h
  simp only [am_lck, decide_eq_true_eq] at h1
  exact am_big_of h1 rfl
theorem am_alink {o i w : Nat} (h : (i, w) ∈ am_act.getD o []) : Cond.methodLink (am_cn.getD o "") i arraycopyName ∈ am_big := by
  have h1 := am_all17 (f := fun o => am_act.getD o []) am_act_ok am_act17 h
  simp only [am_ack, decide_eq_true_eq] at h1
  exact am_big_of h1 rfl
-- fields by the layout
theorem am_fld_spec {q n t x : Nat} (h : am_fld q n = (t, x)) (ht : t ≠ 9) : q < am_N ∧ (am_lay q).1 = n / 100 ∧ (am_lay q).2[n % 100]? = some (t, x) := by
  unfold am_fld at h
  split at h
  · rename_i hb
    have hk := Nat.eq_of_beq_eq_true hb
    rw [List.getD_eq_getElem?_getD] at h
    cases hc : (am_lay q).2[n % 100]? with
    | none => rw [hc] at h; cases h; exact absurd rfl ht
    | some e =>
      rw [hc] at h
      cases h
      refine ⟨?_, hk, rfl⟩
      rcases Nat.lt_or_ge q am_N with g | g
      · exact g
      · rw [am_lay_out g] at hc
        cases hc
  · cases h; exact absurd rfl ht
def am_fty : Bool := (List.range am_N).all fun q => decide (100 ≤ (am_lay q).1) || (List.range (am_lay q).2.length).all fun k => let e := (am_lay q).2.getD k (9, 0); let f := (am_C (am_lay q).1).2.1 k; e.1 == 2 || (f.2.2.2 == false && ((e.1 == 0 && f.2.2.1 == "I") || (e.1 == 1 && f.2.2.1 == "J") || (e.1 == 3 && f.2.2.1 == "Z")))
theorem am_fty_true : am_fty = true := by decide +kernel
theorem am_ftyq {q k t x : Nat} (hq : q < am_N) (hk : (am_lay q).1 < 100) (he : (am_lay q).2[k]? = some (t, x)) (ht : t ≠ 2) : ((am_C (am_lay q).1).2.1 k).2.2.2 = false ∧ ((t = 0 ∧ ((am_C (am_lay q).1).2.1 k).2.2.1 = "I") ∨ (t = 1 ∧ ((am_C (am_lay q).1).2.1 k).2.2.1 = "J") ∨ (t = 3 ∧ ((am_C (am_lay q).1).2.1 k).2.2.1 = "Z")) := by
  have h := List.all_eq_true.mp am_fty_true q (List.mem_range.mpr hq)
  simp only [Bool.or_eq_true, decide_eq_true_eq] at h
  rcases h with h | h
  · omega
  · have hl : k < (am_lay q).2.length := (List.getElem?_eq_some_iff.mp he).1
    have h := List.all_eq_true.mp h k (List.mem_range.mpr hl)
    have he2 : (am_lay q).2.getD k (9, 0) = (t, x) := by rw [List.getD_eq_getElem?_getD, he]; rfl
    simp only [he2, Bool.or_eq_true, Bool.and_eq_true, beq_iff_eq] at h
    rcases h with h | ⟨h1, h2⟩
    · exact absurd h ht
    · refine ⟨h1, ?_⟩
      rcases h2 with (h2 | h2) | h2
      · exact Or.inl h2
      · exact Or.inr (Or.inl h2)
      · exact Or.inr (Or.inr h2)
theorem am_idq {q k t x : Nat} (hq : q < am_N) (hk : (am_lay q).1 < 100) (he : (am_lay q).2[k]? = some (t, x)) (ht : t ≠ 2) : x = 1000 + 100 * q + k ∧ k < 100 := by
  have hl : k < (am_lay q).2.length := (List.getElem?_eq_some_iff.mp he).1
  have he2 : (am_lay q).2.getD k (9, 0) = (t, x) := by rw [List.getD_eq_getElem?_getD, he]; rfl
  rcases (am_lokq hq).2 with ⟨h, -⟩ | ⟨-, h100, h⟩
  · omega
  · have h := h k hl
    rw [he2] at h
    rcases h with ⟨h3, -⟩ | ⟨-, -, h5⟩
    · exact absurd h3 ht
    · exact ⟨h5, by omega⟩
theorem am_cell_obj {E : am_E} {m : am_M} {q : Nat} (hk : (am_lay q).1 < 100) : am_cell E m q = .inr ((am_lay q).1, (am_lay q).2.map (am_fv E m)) := by
  unfold am_cell
  rw [if_pos hk]
theorem am_cell_put {E : am_E} {m m' : am_M} {q k t x : Nat} (hq : q < am_N) (hk : (am_lay q).1 < 100) (he : (am_lay q).2[k]? = some (t, x)) (ht : t ≠ 2) (h1 : ∀ i, i ≠ x → m'.1 i = m.1 i) (h2 : ∀ i, i ≠ x → m'.2 i = m.2 i) : am_cell E m' q = .inr ((am_lay q).1, ((am_lay q).2.map (am_fv E m)).set k (am_fv E m' (t, x))) := by
  rw [am_cell_obj hk]
  congr 2
  obtain ⟨hx, h100⟩ := am_idq hq hk he ht
  refine List.ext_getElem? fun j => ?_
  rw [List.getElem?_set, List.getElem?_map]
  by_cases hj : k = j
  · subst hj
    have hl : k < (am_lay q).2.length := (List.getElem?_eq_some_iff.mp he).1
    rw [if_pos rfl, if_pos (by simpa using hl), he]
    rfl
  · rw [if_neg hj, List.getElem?_map]
    cases hc : (am_lay q).2[j]? with
    | none => rfl
    | some e =>
      obtain ⟨t', x'⟩ := e
      show some (am_fv E m' (t', x')) = some (am_fv E m (t', x'))
      congr 1
      by_cases ht' : t' = 2
      · subst ht'; rfl
      · obtain ⟨hx', -⟩ := am_idq hq hk hc ht'
        unfold am_fv
        rw [h1 x' (by omega), h2 x' (by omega)]
theorem am_wr1 (m : am_M) (id : Nat) (z v : Int) : ∀ i, i ≠ id → (am_wr m id z v).1 i = m.1 i := fun i hi => by simp [am_wr, hi]
theorem am_wl2 (m : am_M) (id : Nat) (z : Int) (v : Int64) : ∀ i, i ≠ id → (am_wl m id z v).2 i = m.2 i := fun i hi => by simp [am_wl, hi]
theorem am_ws11 (m : am_M) (id : Nat) (f : Int → Int) : ∀ i, i ≠ id → (am_ws1 m id f).1 i = m.1 i := fun i hi => by simp [am_ws1, hi]
theorem am_ws22 (m : am_M) (id : Nat) (f : Int → Int64) : ∀ i, i ≠ id → (am_ws2 m id f).2 i = m.2 i := fun i hi => by simp [am_ws2, hi]
theorem am_wr_self (m : am_M) (id : Nat) (z v : Int) : (am_wr m id z v).1 id z = v := by simp [am_wr]
theorem am_wl_self (m : am_M) (id : Nat) (z : Int) (v : Int64) : (am_wl m id z v).2 id z = v := by simp [am_wl]
theorem am_nb : ∀ z : Int, (z = 0 ∨ z = 1) → narrow .boolean (.int (Int32.ofInt z)) = .int (Int32.ofInt z) ∧ fits .boolean (.int (Int32.ofInt z)) = true ∧ vp_nar .boolean (Int32.ofInt z) = Int32.ofInt z := by
  intro z hz
  rcases hz with rfl | rfl <;> exact ⟨by decide, by decide, by decide⟩
theorem am_nby {z : Int} (h1 : -128 ≤ z) (h2 : z ≤ 127) : (Int32.ofInt z).toInt8.toInt32 = Int32.ofInt z := by
  have hr : am_R z := ⟨by omega, by omega⟩
  rw [← Int32.toInt_inj, Int8.toInt_toInt32, Int32.toInt_toInt8, am_to hr]
  exact Int.bmod_eq_of_le (by omega) (by omega)
