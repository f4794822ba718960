theorem c_fill_25 {d : Nat} {P : am_M → Prop} {m : am_M} {v : Int} (kpost : ∀ m' : am_M, (∀ j : Nat, j < 96 → m'.1 25 j = v) → Fr [25] [] m m' → P m') : am_OkV (d + 1) 195 [.inr (.inr 25), .inl v] m P := by
  refine f_Arrays_fill_25 ?_
  have key : ∀ (r j : Nat) (m' : am_M), j + r = 96 → Fr [25] [] m m' → (∀ i : Nat, i < j → m'.1 25 i = v) → am_GV (d + 1) 195 P 5 [(0, .inr (.inr 25)), (1, .inl v), (2, .inl j), (3, .inl 96)] [] m' := by
    intro r
    induction r with
    | zero =>
      intro j m' hj hf hi
      exact f_Arrays_fill_25_5 ⟨fun _ => kpost m' (fun i hi2 => hi i (by omega)) hf, fun hn => by omega⟩
    | succ r ih =>
      intro j m' hj hf hi
      refine f_Arrays_fill_25_5 ⟨fun hn => by omega, fun _ => ⟨by omega, by omega, am_RI (by omega) (by omega), ih (j + 1) _ (by omega) (hf.wr (by decide)) (fun i hij => ?_)⟩⟩
      rw [wr_at]
      by_cases hij2 : i = j
      · rw [if_pos (by omega)]
      · rw [if_neg (by omega)]
        exact hi i (by omega)
  exact key 96 0 m (by omega) Fr.rf (fun i hi => by omega)
theorem c_fill_26 {d : Nat} {P : am_M → Prop} {m : am_M} {v : Int} (kpost : ∀ m' : am_M, (∀ j : Nat, j < 96 → m'.1 26 j = v) → Fr [26] [] m m' → P m') : am_OkV (d + 1) 195 [.inr (.inr 26), .inl v] m P := by
  refine f_Arrays_fill_26 ?_
  have key : ∀ (r j : Nat) (m' : am_M), j + r = 96 → Fr [26] [] m m' → (∀ i : Nat, i < j → m'.1 26 i = v) → am_GV (d + 1) 195 P 5 [(0, .inr (.inr 26)), (1, .inl v), (2, .inl j), (3, .inl 96)] [] m' := by
    intro r
    induction r with
    | zero =>
      intro j m' hj hf hi
      exact f_Arrays_fill_26_5 ⟨fun _ => kpost m' (fun i hi2 => hi i (by omega)) hf, fun hn => by omega⟩
    | succ r ih =>
      intro j m' hj hf hi
      refine f_Arrays_fill_26_5 ⟨fun hn => by omega, fun _ => ⟨by omega, by omega, am_RI (by omega) (by omega), ih (j + 1) _ (by omega) (hf.wr (by decide)) (fun i hij => ?_)⟩⟩
      rw [wr_at]
      by_cases hij2 : i = j
      · rw [if_pos (by omega)]
      · rw [if_neg (by omega)]
        exact hi i (by omega)
  exact key 96 0 m (by omega) Fr.rf (fun i hi => by omega)
theorem c_fill_44 {d : Nat} {P : am_M → Prop} {m : am_M} {v : Int} (kpost : ∀ m' : am_M, (∀ j : Nat, j < 96 → m'.1 44 j = v) → Fr [44] [] m m' → P m') : am_OkV (d + 1) 195 [.inr (.inr 44), .inl v] m P := by
  refine f_Arrays_fill_44 ?_
  have key : ∀ (r j : Nat) (m' : am_M), j + r = 96 → Fr [44] [] m m' → (∀ i : Nat, i < j → m'.1 44 i = v) → am_GV (d + 1) 195 P 5 [(0, .inr (.inr 44)), (1, .inl v), (2, .inl j), (3, .inl 96)] [] m' := by
    intro r
    induction r with
    | zero =>
      intro j m' hj hf hi
      exact f_Arrays_fill_44_5 ⟨fun _ => kpost m' (fun i hi2 => hi i (by omega)) hf, fun hn => by omega⟩
    | succ r ih =>
      intro j m' hj hf hi
      refine f_Arrays_fill_44_5 ⟨fun hn => by omega, fun _ => ⟨by omega, by omega, am_RI (by omega) (by omega), ih (j + 1) _ (by omega) (hf.wr (by decide)) (fun i hij => ?_)⟩⟩
      rw [wr_at]
      by_cases hij2 : i = j
      · rw [if_pos (by omega)]
      · rw [if_neg (by omega)]
        exact hi i (by omega)
  exact key 96 0 m (by omega) Fr.rf (fun i hi => by omega)
theorem c_fill_45 {d : Nat} {P : am_M → Prop} {m : am_M} {v : Int} (kpost : ∀ m' : am_M, (∀ j : Nat, j < 96 → m'.1 45 j = v) → Fr [45] [] m m' → P m') : am_OkV (d + 1) 195 [.inr (.inr 45), .inl v] m P := by
  refine f_Arrays_fill_45 ?_
  have key : ∀ (r j : Nat) (m' : am_M), j + r = 96 → Fr [45] [] m m' → (∀ i : Nat, i < j → m'.1 45 i = v) → am_GV (d + 1) 195 P 5 [(0, .inr (.inr 45)), (1, .inl v), (2, .inl j), (3, .inl 96)] [] m' := by
    intro r
    induction r with
    | zero =>
      intro j m' hj hf hi
      exact f_Arrays_fill_45_5 ⟨fun _ => kpost m' (fun i hi2 => hi i (by omega)) hf, fun hn => by omega⟩
    | succ r ih =>
      intro j m' hj hf hi
      refine f_Arrays_fill_45_5 ⟨fun hn => by omega, fun _ => ⟨by omega, by omega, am_RI (by omega) (by omega), ih (j + 1) _ (by omega) (hf.wr (by decide)) (fun i hij => ?_)⟩⟩
      rw [wr_at]
      by_cases hij2 : i = j
      · rw [if_pos (by omega)]
      · rw [if_neg (by omega)]
        exact hi i (by omega)
  exact key 96 0 m (by omega) Fr.rf (fun i hi => by omega)
theorem c_fill_32 {d : Nat} {P : am_M → Prop} {m : am_M} {v : Int} (kpost : ∀ m' : am_M, (∀ j : Nat, j < 96 → m'.1 32 j = v) → Fr [32] [] m m' → P m') : am_OkV (d + 1) 195 [.inr (.inr 32), .inl v] m P := by
  refine f_Arrays_fill_32 ?_
  have key : ∀ (r j : Nat) (m' : am_M), j + r = 96 → Fr [32] [] m m' → (∀ i : Nat, i < j → m'.1 32 i = v) → am_GV (d + 1) 195 P 5 [(0, .inr (.inr 32)), (1, .inl v), (2, .inl j), (3, .inl 96)] [] m' := by
    intro r
    induction r with
    | zero =>
      intro j m' hj hf hi
      exact f_Arrays_fill_32_5 ⟨fun _ => kpost m' (fun i hi2 => hi i (by omega)) hf, fun hn => by omega⟩
    | succ r ih =>
      intro j m' hj hf hi
      refine f_Arrays_fill_32_5 ⟨fun hn => by omega, fun _ => ⟨by omega, by omega, am_RI (by omega) (by omega), ih (j + 1) _ (by omega) (hf.wr (by decide)) (fun i hij => ?_)⟩⟩
      rw [wr_at]
      by_cases hij2 : i = j
      · rw [if_pos (by omega)]
      · rw [if_neg (by omega)]
        exact hi i (by omega)
  exact key 96 0 m (by omega) Fr.rf (fun i hi => by omega)
theorem c_fill_31 {d : Nat} {P : am_M → Prop} {m : am_M} {v : Int} (kpost : ∀ m' : am_M, (∀ j : Nat, j < 48 → m'.1 31 j = v) → Fr [31] [] m m' → P m') : am_OkV (d + 1) 195 [.inr (.inr 31), .inl v] m P := by
  refine f_Arrays_fill_31 ?_
  have key : ∀ (r j : Nat) (m' : am_M), j + r = 48 → Fr [31] [] m m' → (∀ i : Nat, i < j → m'.1 31 i = v) → am_GV (d + 1) 195 P 5 [(0, .inr (.inr 31)), (1, .inl v), (2, .inl j), (3, .inl 48)] [] m' := by
    intro r
    induction r with
    | zero =>
      intro j m' hj hf hi
      exact f_Arrays_fill_31_5 ⟨fun _ => kpost m' (fun i hi2 => hi i (by omega)) hf, fun hn => by omega⟩
    | succ r ih =>
      intro j m' hj hf hi
      refine f_Arrays_fill_31_5 ⟨fun hn => by omega, fun _ => ⟨by omega, by omega, am_RI (by omega) (by omega), ih (j + 1) _ (by omega) (hf.wr (by decide)) (fun i hij => ?_)⟩⟩
      rw [wr_at]
      by_cases hij2 : i = j
      · rw [if_pos (by omega)]
      · rw [if_neg (by omega)]
        exact hi i (by omega)
  exact key 48 0 m (by omega) Fr.rf (fun i hi => by omega)
theorem c_fill_34 {d : Nat} {P : am_M → Prop} {m : am_M} {v : Int} (kpost : ∀ m' : am_M, (∀ j : Nat, j < 48 → m'.1 34 j = v) → Fr [34] [] m m' → P m') : am_OkV (d + 1) 195 [.inr (.inr 34), .inl v] m P := by
  refine f_Arrays_fill_34 ?_
  have key : ∀ (r j : Nat) (m' : am_M), j + r = 48 → Fr [34] [] m m' → (∀ i : Nat, i < j → m'.1 34 i = v) → am_GV (d + 1) 195 P 5 [(0, .inr (.inr 34)), (1, .inl v), (2, .inl j), (3, .inl 48)] [] m' := by
    intro r
    induction r with
    | zero =>
      intro j m' hj hf hi
      exact f_Arrays_fill_34_5 ⟨fun _ => kpost m' (fun i hi2 => hi i (by omega)) hf, fun hn => by omega⟩
    | succ r ih =>
      intro j m' hj hf hi
      refine f_Arrays_fill_34_5 ⟨fun hn => by omega, fun _ => ⟨by omega, by omega, am_RI (by omega) (by omega), ih (j + 1) _ (by omega) (hf.wr (by decide)) (fun i hij => ?_)⟩⟩
      rw [wr_at]
      by_cases hij2 : i = j
      · rw [if_pos (by omega)]
      · rw [if_neg (by omega)]
        exact hi i (by omega)
  exact key 48 0 m (by omega) Fr.rf (fun i hi => by omega)
/-! LAY: keys by a seed, on the row -/
/-- what is given: keys, values, settings -/
def SOK (S : Nat → Nat) : Prop := (1 ≤ S 1 ∧ S 1 ≤ 32) ∧ (1 ≤ S 2 ∧ S 2 ≤ 16) ∧ S 3 ≤ 8 ∧ S 4 ≤ 999999999 ∧ S 5 ≤ 2 ∧ S 6 ≤ 2
def GSt (m : am_M) (n : Nat) (K : Nat → Int64) (V S : Nat → Nat) : Prop := m.1 1403 0 = n ∧ n ≤ 48 ∧ (∀ k : Nat, k < n → m.2 5 k = K k) ∧ (∀ k : Nat, k < n → m.1 6 k = V k) ∧ (∀ i : Nat, 1 ≤ i → i ≤ 6 → m.1 7 i = S i) ∧ SOK S ∧ ∀ k, k < n → V k < 2 ^ S 3
theorem GSt.fr {m m' : am_M} {n : Nat} {K : Nat → Int64} {V S : Nat → Nat} (h : GSt m n K V S) {l1 l2 : List Nat} (hf : Fr l1 l2 m m') (h1 : 1403 ∉ l1 ∧ 6 ∉ l1 ∧ 7 ∉ l1 ∧ 5 ∉ l2) : GSt m' n K V S := by
  unfold GSt
  rw [hf.1 _ h1.1, hf.1 _ h1.2.1, hf.1 _ h1.2.2.1, hf.2 _ h1.2.2.2]
  exact h
/-- the cells of keys by a seed -/
def TT (K : Nat → Int64) (seed : Int) (c sp : Nat) : Nat → List Nat := fun k => htouch c sp (h_hash (K k) seed)
theorem TT_ok (K : Nat → Int64) (seed : Int) {c : Nat} (sp n : Nat) (hc : 0 < c) : TOK (TT K seed c sp) n (3 * c) := fun k _ => htouch_ok sp _ hc
def ltb (k : Nat) : Nat → Bool := fun j => decide (j < k)
theorem ltb_set (k : Nat) : pset (ltb k) k true = ltb (k + 1) := by
  funext j
  unfold pset ltb
  by_cases hj : j = k
  · rw [if_pos hj]; simp; omega
  · rw [if_neg hj]
    by_cases h : j < k
    · simp [h]; omega
    · simp [h]; omega
abbrev layF : List Nat := [21, 22, 23, 24, 25, 26, 3006, 3007, 3008, 18, 19, 2702, 2703, 2705, 2706, 2707]
theorem c_lay {d : Nat} {P : am_M → Prop} {m : am_M} {n : Nat} {K : Nat → Int64} {V S : Nat → Nat} {seed : Int} {c : Nat} (hG : GSt m n K V S) (hc : 0 < c ∧ c ≤ 32)
    (kpost : ∀ m' : am_M, RowL m' (TT K seed c (S 6)) n (3 * c) → RowD m' (TT K seed c (S 6)) n (fun _ => true) → (∀ k : Nat, k < n → m'.1 23 k = h_print (h_hash (K k) seed) (S 2)) → Fr layF [2704] m m' → P m') : am_OkV (d + 4) 52 [.inr (.inr 20), .inr (.inr 4), .inr (.inr 17), .inl seed, .inl c] m P := by
  obtain ⟨g1, g2, g3, -, g5, ⟨-, s2, -, -, -, s6⟩, -⟩ := id hG
  refine f_Row_lay ?_
  rw [show m.1 7 2 = S 2 from g5 2 (by decide) (by decide), show m.1 7 6 = S 6 from g5 6 (by decide) (by decide)]
  refine ⟨by omega, by omega, by omega, by omega, c_aim (d := d + 1) hc s2.2 s6 (fun m1 hA hf1 => ⟨am_RI (by omega) (by omega), ?_⟩)⟩
  rw [show m1.1 1403 0 = n by rw [hf1.1 _ (by decide)]; exact g1]
  refine c_fill_25 (d := d + 2) (fun m2 z2 hf2 => c_fill_26 (d := d + 2) (fun m3 z3 hf3 => ?_))
  have hf12 : Fr layF [2704] m m3 := ((((hf1.mono (k1 := layF) (k2 := [2704]) (by decide) (by decide)).tr (((Fr.rf.wr (l1 := layF) (l2 := [2704]) (by decide)).wr (by decide)).wr (by decide)) (fun _ h => h) (fun _ h => h) (fun _ h => h) (fun _ h => h)).tr hf2 (fun _ h => h) (fun _ h => h) (by decide) (by decide)).tr hf3 (fun _ h => h) (fun _ h => h) (by decide) (by decide))
  have e3c : (3 : Int) * (c : Int) = ((3 * c : Nat) : Int) := by omega
  have k1 : m3.1 3006 0 = n := by rw [hf3.1 _ (by decide), hf2.1 _ (by decide), wr_ne _ _ _ (by decide), wr_ne _ _ _ (by decide), wr_at, if_pos rfl]
  have k2 : m3.1 3007 0 = 0 := by rw [hf3.1 _ (by decide), hf2.1 _ (by decide), wr_ne _ _ _ (by decide), wr_at, if_pos rfl]
  have k3 : m3.1 3008 0 = ((3 * c : Nat) : Int) := by rw [hf3.1 _ (by decide), hf2.1 _ (by decide), wr_at, if_pos rfl, e3c]
  have k4 : ∀ x : Nat, x < 96 → m3.1 25 x = 0 := fun x hx => by rw [hf3.1 _ (by decide)]; exact z2 x hx
  have hA3 : MarkA m3 seed c (S 2) (S 6) := by
    obtain ⟨a1, a2, a3, a4, a5⟩ := hA
    have f3 : ∀ i, i ∉ [3006, 3007, 3008, 25, 26] → m3.1 i = m1.1 i := fun i hi => by
      simp only [List.mem_cons, List.not_mem_nil, or_false, not_or] at hi
      rw [hf3.1 _ (by simp only [List.mem_cons, List.not_mem_nil, or_false]; omega), hf2.1 _ (by simp only [List.mem_cons, List.not_mem_nil, or_false]; omega), wr_ne _ _ _ (by omega), wr_ne _ _ _ (by omega), wr_ne _ _ _ (by omega)]
    have f4 : m3.2 = m1.2 := funext fun i => by rw [hf3.2 i (by simp), hf2.2 i (by simp), wr_2, wr_2, wr_2]
    exact ⟨by rw [f4]; exact a1, by rw [f3 _ (by decide)]; exact a2, by rw [f3 _ (by decide)]; exact a3, by rw [f3 _ (by decide)]; exact a4, a5⟩
  have key : ∀ (r k : Nat) (m' : am_M), k + r = n → Fr layF [2704] m m' → m'.1 3006 0 = n → m'.1 3008 0 = ((3 * c : Nat) : Int) → MarkA m' seed c (S 2) (S 6) → RowC m' (TT K seed c (S 6)) k (3 * c) → RowD m' (TT K seed c (S 6)) k (ltb k) → (∀ j : Nat, j < k → m'.1 23 j = h_print (h_hash (K j) seed) (S 2)) → am_GV (d + 4) 52 P 60 [(0, .inr (.inr 20)), (1, .inr (.inr 4)), (2, .inr (.inr 17)), (5, .inl k)] [] m' := by
    intro r
    induction r with
    | zero =>
      intro k m' hk hf r1 r2 hA' hC hD hpr
      refine f_Row_lay_60 ?_
      rw [r1]
      have hkn : k = n := by omega
      subst hkn
      exact ⟨fun _ => kpost m' ⟨r1, r2, hC⟩ (hD.congr (fun j hj => by unfold ltb; simp [hj])) hpr hf, fun hn => by omega⟩
    | succ r ih =>
      intro k m' hk hf r1 r2 hA' hC hD hpr
      refine f_Row_lay_60 ?_
      rw [r1]
      have hnum : m'.2 5 k = K k := by rw [hf.2 _ (by decide)]; exact g3 k (by omega)
      rw [hnum]
      refine ⟨fun hn => by omega, fun _ => ⟨by omega, by omega, c_look (d := d) hA' (fun m4 hT4 hA4 hf4 => ⟨by omega, by omega, by omega, by omega, ?_⟩)⟩⟩
      obtain ⟨t0, t1, t2, t3⟩ := hT4
      rw [t1, t3]
      have hlen := (htouch_ok (S 6) (h_hash (K k) seed) hc.1).1
      have hmk : Fr layF [2704] m' m4 := hf4.mono (by decide) (by decide)
      -- the key's cells are copied
      have inner : ∀ (r2 t : Nat) (m5 : am_M), t + r2 = (htouch c (S 6) (h_hash (K k) seed)).length → Fr layF [2704] m4 m5 → Fr [22, 23, 21] [] m4 m5 → m5.1 22 k = (htouch c (S 6) (h_hash (K k) seed)).length → m5.1 23 k = h_print (h_hash (K k) seed) (S 2) → (∀ j : Nat, j ≠ k → m5.1 22 j = m4.1 22 j ∧ m5.1 23 j = m4.1 23 j) → (∀ j : Nat, j < 3 * k → m5.1 21 j = m4.1 21 j) → (∀ i x : Nat, i < t → (htouch c (S 6) (h_hash (K k) seed))[i]? = some x → m5.1 21 (3 * k + i) = x) → am_GV (d + 4) 52 P 105 [(0, .inr (.inr 20)), (1, .inr (.inr 4)), (2, .inr (.inr 17)), (5, .inl k), (6, .inl t)] [] m5 := by
        intro r2
        induction r2 with
        | zero =>
          intro t m5 ht hf5 hf5' u1 u2 u3 u4 u5
          refine f_Row_lay_105 ?_
          rw [show m5.1 2702 0 = (htouch c (S 6) (h_hash (K k) seed)).length by rw [hf5'.1 _ (by decide)]; exact t1]
          refine ⟨fun _ => ?_, fun hn => by omega⟩
          have hC5 : RowC m5 (TT K seed c (S 6)) (k + 1) (3 * c) := by
            refine ⟨by omega, by omega, TT_ok K seed (S 6) (k + 1) hc.1, fun j hj => ?_⟩
            by_cases hjk : j = k
            · subst hjk
              exact ⟨u1, fun i x hx => u5 i x (by have := (List.getElem?_eq_some_iff.mp hx).1; have e : (TT K seed c (S 6) j).length = (htouch c (S 6) (h_hash (K j) seed)).length := rfl; omega) hx⟩
            · obtain ⟨c1, c2⟩ := hC.2.2.2 j (by omega)
              have hlj := (TT_ok K seed (S 6) (k + 1) hc.1 j hj).1
              refine ⟨by rw [(u3 j hjk).1, hf4.1 _ (by decide)]; exact c1, fun i x hx => ?_⟩
              have hi := (List.getElem?_eq_some_iff.mp hx).1
              have e3 : 3 * (j : Int) + (i : Int) = ((3 * j + i : Nat) : Int) := by omega
              rw [e3, u4 _ (by omega), hf4.1 _ (by decide), ← e3]
              exact c2 i x hx
          have hD5 : RowD m5 (TT K seed c (S 6)) k (ltb k) := hD.fr (hf4.tr hf5' (k1 := [18, 19, 2702, 2703, 22, 23, 21]) (k2 := []) (by decide) (by decide) (by decide) (by decide)) (by decide)
          have hlk : ltb k k = false := by simp [ltb]
          have ep : pleft (ltb k) (k + 1) = pleft (ltb k) k := by
            show pleft (ltb k) k + (if ltb k k = true then 1 else 0) = _
            rw [hlk]; rfl
          have ec : ∀ x, pcnt (TT K seed c (S 6)) (ltb k) x (k + 1) = pcnt (TT K seed c (S 6)) (ltb k) x k := fun x => by
            show pcnt (TT K seed c (S 6)) (ltb k) x k + (if ltb k k = true ∧ x ∈ TT K seed c (S 6) k then 1 else 0) = _
            rw [hlk, if_neg (by simp)]; rfl
          have ex : ∀ x, px32 (TT K seed c (S 6)) (ltb k) x (k + 1) = px32 (TT K seed c (S 6)) (ltb k) x k := fun x => by
            show px32 (TT K seed c (S 6)) (ltb k) x k ^^^ (if ltb k k = true ∧ x ∈ TT K seed c (S 6) k then Int32.ofNat k else 0) = _
            rw [hlk, if_neg (by simp), Int32.xor_zero]
          refine c_putBack (d := d + 2) hC5 (by rw [ep]; exact hD5.1) (fun j hj hjk => hD5.2.1 j (by omega)) (fun x hx => by rw [ec, ex]; exact hD5.2.2 x hx) (by omega) hlk (fun m6 hD6 hf6 => ⟨am_RI (by omega) (by omega), ?_⟩)
          rw [ltb_set] at hD6
          have hf46 : Fr layF [2704] m m6 := ((hf.tr1 hmk).tr1 hf5).tr1 (hf6.mono (by decide) (by decide))
          have hb5 : Fr [18, 19, 2702, 2703, 22, 23, 21, 25, 26, 24, 3007] [] m' m6 := (hf4.tr hf5' (k1 := [18, 19, 2702, 2703, 22, 23, 21]) (k2 := []) (by decide) (by decide) (by decide) (by decide)).tr hf6 (by decide) (by decide) (by decide) (by decide)
          refine ih (k + 1) m6 (by omega) hf46 (by rw [hb5.1 _ (by decide)]; exact r1) (by rw [hb5.1 _ (by decide)]; exact r2) ?_ (hC5.fr hf6 (by decide)) hD6 (fun j hj => ?_)
          · obtain ⟨a1, a2, a3, a4, a5⟩ := hA'
            exact ⟨by rw [hb5.2 _ (by decide)]; exact a1, by rw [hb5.1 _ (by decide)]; exact a2, by rw [hb5.1 _ (by decide)]; exact a3, by rw [hb5.1 _ (by decide)]; exact a4, a5⟩
          · rw [hf6.1 _ (by decide)]
            by_cases hjk : j = k
            · subst hjk; exact u2
            · rw [(u3 j hjk).2, hf4.1 _ (by decide)]
              exact hpr j (by omega)
        | succ r2 ih2 =>
          intro t m5 ht hf5 hf5' u1 u2 u3 u4 u5
          have et : (htouch c (S 6) (h_hash (K k) seed))[t]? = some ((htouch c (S 6) (h_hash (K k) seed))[t]'(by omega)) := List.getElem?_eq_getElem (by omega)
          have e19 : m5.1 19 t = ((htouch c (S 6) (h_hash (K k) seed))[t]'(by omega) : Nat) := by rw [hf5'.1 _ (by decide)]; exact t2 t _ et
          refine f_Row_lay_105 ?_
          rw [show m5.1 2702 0 = (htouch c (S 6) (h_hash (K k) seed)).length by rw [hf5'.1 _ (by decide)]; exact t1, e19]
          refine ⟨fun hn => by omega, fun _ => ⟨am_RI (by omega) (by omega), am_RI (by omega) (by omega), by omega, by omega, by omega, by omega, am_RI (by omega) (by omega), ?_⟩⟩
          refine ih2 (t + 1) _ (by omega) (hf5.wr (by decide)) (hf5'.wr (by decide)) (by rw [wr_ne _ _ _ (by decide)]; exact u1) (by rw [wr_ne _ _ _ (by decide)]; exact u2) (fun j hj => by rw [wr_ne _ _ _ (by decide), wr_ne _ _ _ (by decide)]; exact u3 j hj) (fun j hj => by rw [wr_at, if_neg (by omega)]; exact u4 j hj) (fun i x hi hx => ?_)
          rw [wr_at]
          by_cases hit : i = t
          · subst hit
            rw [if_pos (by omega)]
            rw [et] at hx
            exact congrArg _ (Option.some.inj hx)
          · rw [if_neg (by omega)]
            exact u5 i x (by omega) hx
      refine inner (htouch c (S 6) (h_hash (K k) seed)).length 0 _ (by omega) ((Fr.rf.wr (by decide)).wr (by decide)) ((Fr.rf.wr (by decide)).wr (by decide)) ?_ ?_ (fun j hj => ?_) (fun j hj => ?_) (fun i x hi => absurd hi (by omega))
      · rw [wr_ne _ _ _ (by decide), wr_at, if_pos rfl]
      · rw [wr_at, if_pos rfl]
      · exact ⟨by rw [wr_ne _ _ _ (by decide), wr_at, if_neg (by omega)], by rw [wr_at, if_neg (by omega), wr_ne _ _ _ (by decide)]⟩
      · rw [wr_ne _ _ _ (by decide), wr_ne _ _ _ (by decide)]
  refine key n 0 m3 (by omega) hf12 k1 k3 hA3 ⟨by omega, by omega, fun j hj => absurd hj (by omega), fun j hj => absurd hj (by omega)⟩ ⟨by rw [k2]; rfl, fun j hj => absurd hj (by omega), fun x hx => ⟨by rw [k4 x hx]; rfl, by rw [z3 x hx]; rfl⟩⟩ (fun j hj => absurd hj (by omega))
