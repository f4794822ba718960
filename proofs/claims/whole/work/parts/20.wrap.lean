/-! WRAPPERS: what several calls need -/
abbrev CF : List Nat := [18, 19, 2702, 2703, 2705, 2706, 2707, 21, 22, 23, 24, 25, 26, 3006, 3007, 3008, 28, 29, 3702, 30, 3704, 3705, 31, 32, 34, 4502]
abbrev CF2 : List Nat := [2704, 36, 37]
abbrev MF : List Nat := [6500, 67, 68, 69, 70, 71, 72, 6530, 73, 74, 75, 76, 6535, 6536, 6537, 77, 80, 81, 82, 6548]
abbrev MF2 : List Nat := [78, 79]
theorem GSt.set {m : am_M} {n : Nat} {K : Nat → Int64} {V S : Nat → Nat} (h : GSt m n K V S) {i : Nat} (h1 : 1 ≤ i) (h2 : i ≤ 6) : m.1 7 i = S i := h.2.2.2.2.1 i h1 h2
theorem MSt.set {m : am_M} {n : Nat} {K : Nat → Int64} {V S : Nat → Nat} (h : MSt m n K V S) {i : Nat} (h1 : 1 ≤ i) (h2 : i ≤ 6) : m.1 63 i = S i := h.2.2.2.2.1 i h1 h2
theorem c_lookNow {d : Nat} {P : am_M → Prop} {m : am_M} {n : Nat} {K : Nat → Int64} {V S : Nat → Nat} {x : Int64} (hG : GSt m n K V S) (kpost : ∀ m' : am_M, MarkT m' (S 1) (S 6) (S 2) (h_hash x (S 4)) → Fr CF CF2 m m' → P m') : am_OkV (d + 4) 108 [.inr (.inr 0), .inr (.inl x)] m P := by
  obtain ⟨s1, s2, -, -, -, s6⟩ := hG.2.2.2.2.2.1
  refine f_T_lookNow ⟨by decide, by decide, by decide, by decide, by decide, by decide, by decide, by decide, ?_⟩
  rw [show m.1 7 4 = S 4 from hG.set (by decide) (by decide), show m.1 7 1 = S 1 from hG.set (by decide) (by decide), show m.1 7 2 = S 2 from hG.set (by decide) (by decide), show m.1 7 6 = S 6 from hG.set (by decide) (by decide)]
  refine c_aim ⟨by omega, by omega⟩ (by omega) s6 (fun m1 hA hf => c_look hA (fun m2 hT _ hf2 => kpost m2 hT (hf.tr hf2 (by decide) (by decide) (by decide) (by decide))))
theorem c_layNow {d : Nat} {P : am_M → Prop} {m : am_M} {n : Nat} {K : Nat → Int64} {V S : Nat → Nat} (hG : GSt m n K V S)
    (kpost : ∀ m' : am_M, RowL m' (TT K (S 4) (S 1) (S 6)) n (3 * S 1) → RowD m' (TT K (S 4) (S 1) (S 6)) n (fun _ => true) → (∀ k : Nat, k < n → m'.1 23 k = h_print (h_hash (K k) (S 4)) (S 2)) → Fr CF CF2 m m' → P m') : am_OkV (d + 5) 109 [.inr (.inr 0)] m P := by
  obtain ⟨s1, s2, -, -, -, s6⟩ := hG.2.2.2.2.2.1
  refine f_T_layNow ⟨by decide, by decide, by decide, by decide, ?_⟩
  rw [show m.1 7 4 = S 4 from hG.set (by decide) (by decide), show m.1 7 1 = S 1 from hG.set (by decide) (by decide)]
  exact c_lay hG ⟨by omega, by omega⟩ (fun m1 a b c e => kpost m1 a b c (e.mono (by decide) (by decide)))
theorem c_peelNow {d : Nat} {P : am_M → Prop} {m : am_M} {n : Nat} {K : Nat → Int64} {V S : Nat → Nat} (hG : GSt m n K V S)
    (kpost : ∀ m' : am_M, RowL m' (TT K (S 4) (S 1) (S 6)) n (3 * S 1) → RowD m' (TT K (S 4) (S 1) (S 6)) n (pres (TT K (S 4) (S 1) (S 6)) n (3 * S 1) (S 5) (fun _ => true)).1 → OutM m' (pres (TT K (S 4) (S 1) (S 6)) n (3 * S 1) (S 5) (fun _ => true)).2 → Fr CF CF2 m m' → P m') : am_OkV (d + 6) 110 [.inr (.inr 0)] m P := by
  obtain ⟨-, -, -, -, s5, -⟩ := hG.2.2.2.2.2.1
  refine f_T_peelNow (c_layNow hG (fun m1 hL hD _ hf => ⟨by decide, by decide, ?_⟩))
  rw [show m1.1 7 5 = S 5 from (hG.fr hf (by decide)).set (by decide) (by decide)]
  exact c_run s5 hL hD (fun m2 a b c e => kpost m2 a b c (hf.tr e (by decide) (by decide) (by decide) (by decide)))
theorem c_allPeel {d : Nat} {P : Int → am_M → Prop} {m : am_M} {n : Nat} {K : Nat → Int64} {V S : Nat → Nat} {seed : Int} {c : Nat} (hG : GSt m n K V S) (hc : 0 < c ∧ c ≤ 32)
    (k0 : ∀ m' : am_M, ¬ pall (TT K seed c (S 6)) n (3 * c) (fun _ => true) → Fr CF CF2 m m' → P 0 m')
    (k1 : ∀ m' : am_M, pall (TT K seed c (S 6)) n (3 * c) (fun _ => true) → RowL m' (TT K seed c (S 6)) n (3 * c) → (∀ k : Nat, k < n → m'.1 23 k = h_print (h_hash (K k) seed) (S 2)) → OutM m' (pres (TT K seed c (S 6)) n (3 * c) (S 5) (fun _ => true)).2 → Fr CF CF2 m m' → P 1 m') : am_OkI (d + 6) 111 [.inr (.inr 0), .inl seed, .inl c] m P := by
  obtain ⟨-, -, -, -, s5, -⟩ := hG.2.2.2.2.2.1
  refine f_T_allPeel (c_lay hG hc (fun m1 hL hD hp hf => ⟨by decide, by decide, ?_⟩))
  rw [show m1.1 7 5 = S 5 from (hG.fr hf (by decide)).set (by decide) (by decide)]
  refine c_run s5 hL hD (fun m2 hL2 hD2 hO2 e => ?_)
  have hfr : Fr CF CF2 m m2 := hf.tr e (by decide) (by decide) (by decide) (by decide)
  have hi := pall_iff (S 5) (fun _ => true) (TT_ok K seed (S 6) n hc.1) (by omega : 3 * c ≤ 96)
  rw [hD2.1]
  refine ⟨fun h => ⟨Or.inl rfl, k0 m2 (fun hh => h (by rw [hi.mpr hh]; rfl)) hfr⟩, fun h => ⟨Or.inr rfl, k1 m2 (hi.mp (by omega)) hL2 (fun k hk => ?_) hO2 hfr⟩⟩
  rw [e.1 _ (by decide)]
  exact hp k hk
theorem r_isIn {d : Nat} {P : Int → am_M → Prop} {m : am_M} {a b c : Int} (k0 : ¬ (b ≤ a ∧ a ≤ c) → P 0 m) (k1 : b ≤ a → a ≤ c → P 1 m) : am_OkI (d + 1) 114 [.inl a, .inl b, .inl c] m P :=
  f_M_isIn ⟨fun h => ⟨Or.inl rfl, k0 (by omega)⟩, fun h => ⟨fun h2 => ⟨Or.inl rfl, k0 (by omega)⟩, fun h2 => ⟨Or.inr rfl, k1 (by omega) (by omega)⟩⟩⟩
theorem r_netNow {d : Nat} {P : am_M → Prop} {m : am_M} {n : Nat} {K : Nat → Int64} {V S : Nat → Nat} (hM : MSt m n K V S)
    (kpost : ∀ m' : am_M, RefC m' (UT K (S 4) (S 1) (S 6)) n → RefD m' (TT K (S 4) (S 1) (S 6)) n (fun _ => true) → Fr MF MF2 m m' → P m') : am_OkV (d + 4) 159 [.inr (.inr 55)] m P := by
  obtain ⟨s1, s2, -, -, -, s6⟩ := hM.2.2.2.2.2.1
  refine f_M_netNow ⟨by decide, by decide, by decide, by decide, ?_⟩
  rw [show m.1 63 4 = S 4 from hM.set (by decide) (by decide), show m.1 63 1 = S 1 from hM.set (by decide) (by decide)]
  exact r_nets (wo := 0) hM ⟨by omega, by omega⟩ (by omega) (fun m1 a b e => kpost m1 a b (e.mono (by decide) (by decide)))
theorem r_peelNow {d : Nat} {P : am_M → Prop} {m : am_M} {n : Nat} {K : Nat → Int64} {V S : Nat → Nat} (hM : MSt m n K V S)
    (kpost : ∀ m' : am_M, RefC m' (UT K (S 4) (S 1) (S 6)) n → RefD m' (TT K (S 4) (S 1) (S 6)) n (pres (TT K (S 4) (S 1) (S 6)) n (3 * S 1) (S 5) (fun _ => true)).1 → OutR m' (pres (TT K (S 4) (S 1) (S 6)) n (3 * S 1) (S 5) (fun _ => true)).2 → Fr MF MF2 m m' → P m') : am_OkV (d + 5) 165 [.inr (.inr 55)] m P := by
  obtain ⟨s1, -, -, -, s5, -⟩ := hM.2.2.2.2.2.1
  refine f_M_peelNow (r_netNow hM (fun m1 hC hD hf => ⟨by decide, by decide, by decide, by decide, ?_⟩))
  have hM1 := hM.fr hf (by decide)
  rw [show m1.1 63 5 = S 5 from hM1.set (by decide) (by decide), show m1.1 63 1 = S 1 from hM1.set (by decide) (by decide)]
  exact r_peelsBy hM.2.1 (by omega) s5 (TT_ok K _ (S 6) n (by omega)) (UT_ok K _ _ _ n) hC hD (fun m2 a b c e => kpost m2 a b c (hf.tr e (by decide) (by decide) (by decide) (by decide)))
theorem r_peelsAll {d : Nat} {P : Int → am_M → Prop} {m : am_M} {n : Nat} {K : Nat → Int64} {V S : Nat → Nat} {seed : Int} {c wo : Nat} (hM : MSt m n K V S) (hc : 0 < c ∧ c ≤ 32) (hwo : wo ≤ 3)
    (k0 : ∀ m' : am_M, ¬ pall (TT K seed c (S 6)) n (3 * c) (lwo (m.1 73) wo) → Fr (netF ++ rpF) [] m m' → P 0 m')
    (k1 : ∀ m' : am_M, pall (TT K seed c (S 6)) n (3 * c) (lwo (m.1 73) wo) → Fr (netF ++ rpF) [] m m' → P 1 m') : am_OkI (d + 4) 166 [.inr (.inr 55), .inl c, .inr (.inl (am_i2l seed)), .inl wo] m P := by
  refine f_M_peelsAll (r_nets hM hc hwo (fun m1 hC hD hf => ?_))
  refine r_peelsBy (w := 0) hM.2.1 hc.2 (by decide) (TT_ok K _ (S 6) n hc.1) (UT_ok K _ _ _ n) hC hD (fun m2 hC2 hD2 hO2 e => ?_)
  have hfr : Fr (netF ++ rpF) [] m m2 := hf.tr e (by decide) (by decide) (by decide) (by decide)
  have hi := pall_iff 0 (lwo (m.1 73) wo) (TT_ok K seed (S 6) n hc.1) (by omega : 3 * c ≤ 96)
  rw [hD2.1]
  exact ⟨fun h => ⟨Or.inl rfl, k0 m2 (fun hh => h (by rw [hi.mpr hh]; rfl)) hfr⟩, fun h => ⟨Or.inr rfl, k1 m2 (hi.mp (by omega)) hfr⟩⟩
