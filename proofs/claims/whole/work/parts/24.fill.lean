/-! FILLING -/
def xr (F : Nat → Int32) : List Nat → Int32
  | [] => 0
  | a :: l => F a ^^^ xr F l
def pfl (T : Nat → List Nat) (g : Nat → Int32) : List (Nat × Nat) → Nat → Int32
  | [] => fun _ => 0
  | (k, c) :: r => fun x => if x = c then g k ^^^ xr (pfl T g r) (T k) else pfl T g r x
theorem pfl_cons {T : Nat → List Nat} {g : Nat → Int32} {k c : Nat} {r : List (Nat × Nat)} {x : Nat} : pfl T g ((k, c) :: r) x = if x = c then g k ^^^ xr (pfl T g r) (T k) else pfl T g r x := rfl
theorem xor_int (a b : Int32) : am_xor a.toInt b.toInt = (a ^^^ b).toInt := by
  unfold am_xor
  rw [Int32.ofInt_toInt, Int32.ofInt_toInt]
def FilM (m : am_M) (id : Nat) (F : Nat → Int32) : Prop := ∀ x : Nat, x < 96 → m.1 id x = (F x).toInt
def pok (T : Nat → List Nat) (n N : Nat) : List (Nat × Nat) → Prop
  | [] => True
  | (k, c) :: r => (k < n ∧ c ∈ T k ∧ c < N ∧ ∀ p, p ∈ r → p.2 ≠ c) ∧ pok T n N r
theorem pchain_ne {T : Nat → List Nat} {n N c : Nat} : ∀ {out : List (Nat × Nat)} {left l : Nat → Bool}, pchain T n N left out l → (∀ j, j < n → left j = true → c ∉ T j) → ∀ p, p ∈ out → p.2 ≠ c
  | [], _, _, _, _, p, hp => by cases hp
  | (k, c') :: r, left, l, h, hc, p, hp => by
    obtain ⟨⟨h1, h2, h3, h4, h5⟩, h6⟩ := h
    rcases List.mem_cons.mp hp with e | e
    · subst e
      intro e2
      exact hc k h1 h2 (e2 ▸ h3)
    · refine pchain_ne h6 (fun j hj hl => ?_) p e
      unfold pset at hl
      by_cases hjk : j = k
      · rw [if_pos hjk] at hl; cases hl
      · rw [if_neg hjk] at hl; exact hc j hj hl
theorem pchain_ok {T : Nat → List Nat} {n N : Nat} : ∀ {out : List (Nat × Nat)} {left l : Nat → Bool}, pchain T n N left out l → pok T n N out
  | [], _, _, _ => trivial
  | (k, c) :: r, left, l, h => by
    obtain ⟨⟨h1, h2, h3, h4, h5⟩, h6⟩ := h
    refine ⟨⟨h1, h3, h4, pchain_ne h6 (fun j hj hl hc => ?_)⟩, pchain_ok h6⟩
    unfold pset at hl
    by_cases hjk : j = k
    · rw [if_pos hjk] at hl; cases hl
    · rw [if_neg hjk] at hl; exact hjk (h5 j hj hl hc)
theorem pok_at {T : Nat → List Nat} {n N : Nat} : ∀ {out : List (Nat × Nat)} {i k c : Nat}, pok T n N out → out[i]? = some (k, c) → k < n ∧ c ∈ T k ∧ c < N ∧ (∀ p, p ∈ out.drop (i + 1) → p.2 ≠ c) ∧ out.drop i = (k, c) :: out.drop (i + 1)
  | [], i, k, c, _, h => by simp at h
  | p :: r, 0, k, c, h, e => by
    simp at e
    subst e
    obtain ⟨⟨a, b, c1, d⟩, _⟩ := h
    exact ⟨a, b, c1, by simpa using d, rfl⟩
  | (k', c') :: r, i + 1, k, c, h, e => by
    simp only [List.getElem?_cons_succ] at e
    exact pok_at (out := r) h.2 e
theorem pfl_zero {T : Nat → List Nat} {g : Nat → Int32} {c : Nat} : ∀ {out : List (Nat × Nat)}, (∀ p, p ∈ out → p.2 ≠ c) → pfl T g out c = 0
  | [], _ => rfl
  | (k, c') :: r, h => by
    unfold pfl
    rw [if_neg (fun e => h (k, c') List.mem_cons_self e.symm)]
    exact pfl_zero (fun p hp => h p (List.mem_cons_of_mem _ hp))
theorem c_fillBack_44 {d : Nat} {P : am_M → Prop} {m : am_M} {T : Nat → List Nat} {n N : Nat} {out : List (Nat × Nat)} {g : Nat → Int32} (hL : RowL m T n N) (hO : OutM m out) (ho : out.length ≤ n) (hk : pok T n N out) (hg : ∀ k : Nat, k < n → m.1 23 k = (g k).toInt)
    (kpost : ∀ m' : am_M, FilM m' 44 (pfl T g out) → Fr [44] [] m m' → P m') : am_OkV (d + 2) 37 [.inr (.inr 27), .inr (.inr 20), .inr (.inr 23), .inr (.inr 44)] m P := by
  have hn := hL.2.2.1
  have hN := hL.2.2.2.1
  have hT := hL.2.2.2.2.1
  have inner : ∀ (i k c : Nat) (m1 : am_M) (F : Nat → Int32), out[i]? = some (k, c) → i < 48 → k < n → c < N → Fr [44] [] m m1 → FilM m1 44 F →
      ∀ (l : List Nat) (j : Nat) (a : Int32), (T k).drop j = l → am_GV (d + 2) 37 P 13 [(0, .inr (.inr 27)), (1, .inr (.inr 20)), (2, .inr (.inr 23)), (3, .inr (.inr 44)), (4, .inl ((i : Int) + -1))] [] (am_wr m1 44 c (a ^^^ xr F l).toInt) →
      am_GV (d + 2) 37 P 39 [(0, .inr (.inr 27)), (1, .inr (.inr 20)), (2, .inr (.inr 23)), (3, .inr (.inr 44)), (4, .inl i), (5, .inl k), (6, .inl a.toInt), (7, .inl (3 * (k : Int) + j))] [] m1 := by
    intro i k c m1 F hi hi48 hkn hcN hf1 hF l
    have hL1 := hL.fr hf1 (by decide)
    have hO1 := hO.fr hf1 (by decide)
    have hlen : (T k).length ≤ 3 := by rcases (hT k hkn).1 with e | e <;> omega
    obtain ⟨c1, c2⟩ := hL1.2.2.2.2.2 k hkn
    induction l with
    | nil =>
      intro j a hl hp
      have hj : (T k).length ≤ j := List.drop_eq_nil_iff.mp hl
      refine f_Peeling_fillBack_23_44_39 ⟨am_RI (by omega) (by omega), by omega, by omega, ?_⟩
      rw [c1, (hO1.2 i k c hi).2]
      refine ⟨am_RI (by omega) (by omega), fun _ => ⟨by omega, by omega, by omega, by omega, am_RI (by omega) (by omega), ?_⟩, fun z => absurd (by omega) z⟩
      unfold xr at hp
      rw [Int32.xor_zero] at hp
      exact hp
    | cons x l ih =>
      intro j a hl hp
      have hj : j < (T k).length := by
        rcases Nat.lt_or_ge j (T k).length with h | h
        · exact h
        · rw [List.drop_eq_nil_iff.mpr h] at hl; cases hl
      have hx : (T k)[j]? = some x := by
        have := congrArg List.head? hl
        rw [List.head?_drop] at this
        exact this
      have hxN := (hT k hkn).2.2 x (List.mem_of_getElem? hx)
      have htl : (T k).drop (j + 1) = l := by
        rw [← List.tail_drop, hl]; rfl
      refine f_Peeling_fillBack_23_44_39 ⟨am_RI (by omega) (by omega), by omega, by omega, ?_⟩
      rw [c1, c2 j x hx, hF x (by omega)]
      refine ⟨am_RI (by omega) (by omega), fun z => absurd z (by omega), fun _ => ⟨by omega, by omega, by omega, by omega, am_RI (by omega) (by omega), ?_⟩⟩
      rw [xor_int, show 3 * (k : Int) + j + 1 = 3 * (k : Int) + ((j + 1 : Nat) : Int) by omega]
      refine ih (j + 1) (a ^^^ F x) htl ?_
      unfold xr at hp
      rw [← Int32.xor_assoc] at hp
      exact hp
  have main : ∀ (i : Nat) (m1 : am_M), i ≤ out.length → Fr [44] [] m m1 → FilM m1 44 (pfl T g (out.drop i)) → am_GV (d + 2) 37 P 13 [(0, .inr (.inr 27)), (1, .inr (.inr 20)), (2, .inr (.inr 23)), (3, .inr (.inr 44)), (4, .inl ((i : Int) - 1))] [] m1 := by
    intro i
    induction i with
    | zero =>
      intro m1 hi hf1 hF
      exact f_Peeling_fillBack_23_44_13 ⟨fun _ => kpost m1 hF hf1, fun z => absurd (by decide) z⟩
    | succ i ih =>
      intro m1 hi hf1 hF
      obtain ⟨k, c, e⟩ : ∃ k c, out[i]? = some (k, c) := ⟨_, _, List.getElem?_eq_getElem (show i < out.length by omega)⟩
      obtain ⟨p1, p2, p3, p4, p5⟩ := pok_at hk e
      have hO1 := hO.fr hf1 (by decide)
      rw [show ((i + 1 : Nat) : Int) - 1 = (i : Int) by omega]
      refine f_Peeling_fillBack_23_44_13 ⟨fun z => by omega, fun _ => ⟨by omega, by omega, ?_⟩⟩
      rw [(hO1.2 i k c e).1]
      refine ⟨by omega, by omega, am_RI (by omega) (by omega), ?_⟩
      rw [show m1.1 23 k = (g k).toInt by rw [hf1.1 _ (by decide)]; exact hg k p1]
      have hin := inner i k c m1 _ e (by omega) p1 p3 hf1 hF (T k) 0 (g k) rfl ?_
      · simpa using hin
      · have h2 := ih (am_wr m1 44 c (g k ^^^ xr (pfl T g (out.drop (i + 1))) (T k)).toInt) (by omega) (hf1.wr (by decide)) (fun x hx => ?_)
        · exact h2
        · rw [wr_at, p5, pfl_cons]
          by_cases hxc : x = c
          · rw [if_pos (by omega), if_pos hxc]
          · rw [if_neg (by omega), if_neg hxc]
            exact hF x hx
  refine f_Peeling_fillBack_23_44 (c_fill_44 (fun m1 h0 hf => ?_))
  rw [(hO.fr hf (by decide)).1]
  refine ⟨am_RI (by omega) (by omega), main out.length m1 (by omega) hf (fun x hx => ?_)⟩
  rw [h0 x hx, List.drop_length]
  rfl
theorem c_fillBack_45 {d : Nat} {P : am_M → Prop} {m : am_M} {T : Nat → List Nat} {n N : Nat} {out : List (Nat × Nat)} {g : Nat → Int32} (hL : RowL m T n N) (hO : OutM m out) (ho : out.length ≤ n) (hk : pok T n N out) (hg : ∀ k : Nat, k < n → m.1 6 k = (g k).toInt)
    (kpost : ∀ m' : am_M, FilM m' 45 (pfl T g out) → Fr [45] [] m m' → P m') : am_OkV (d + 2) 37 [.inr (.inr 27), .inr (.inr 20), .inr (.inr 6), .inr (.inr 45)] m P := by
  have hn := hL.2.2.1
  have hN := hL.2.2.2.1
  have hT := hL.2.2.2.2.1
  have inner : ∀ (i k c : Nat) (m1 : am_M) (F : Nat → Int32), out[i]? = some (k, c) → i < 48 → k < n → c < N → Fr [45] [] m m1 → FilM m1 45 F →
      ∀ (l : List Nat) (j : Nat) (a : Int32), (T k).drop j = l → am_GV (d + 2) 37 P 13 [(0, .inr (.inr 27)), (1, .inr (.inr 20)), (2, .inr (.inr 6)), (3, .inr (.inr 45)), (4, .inl ((i : Int) + -1))] [] (am_wr m1 45 c (a ^^^ xr F l).toInt) →
      am_GV (d + 2) 37 P 39 [(0, .inr (.inr 27)), (1, .inr (.inr 20)), (2, .inr (.inr 6)), (3, .inr (.inr 45)), (4, .inl i), (5, .inl k), (6, .inl a.toInt), (7, .inl (3 * (k : Int) + j))] [] m1 := by
    intro i k c m1 F hi hi48 hkn hcN hf1 hF l
    have hL1 := hL.fr hf1 (by decide)
    have hO1 := hO.fr hf1 (by decide)
    have hlen : (T k).length ≤ 3 := by rcases (hT k hkn).1 with e | e <;> omega
    obtain ⟨c1, c2⟩ := hL1.2.2.2.2.2 k hkn
    induction l with
    | nil =>
      intro j a hl hp
      have hj : (T k).length ≤ j := List.drop_eq_nil_iff.mp hl
      refine f_Peeling_fillBack_6_45_39 ⟨am_RI (by omega) (by omega), by omega, by omega, ?_⟩
      rw [c1, (hO1.2 i k c hi).2]
      refine ⟨am_RI (by omega) (by omega), fun _ => ⟨by omega, by omega, by omega, by omega, am_RI (by omega) (by omega), ?_⟩, fun z => absurd (by omega) z⟩
      unfold xr at hp
      rw [Int32.xor_zero] at hp
      exact hp
    | cons x l ih =>
      intro j a hl hp
      have hj : j < (T k).length := by
        rcases Nat.lt_or_ge j (T k).length with h | h
        · exact h
        · rw [List.drop_eq_nil_iff.mpr h] at hl; cases hl
      have hx : (T k)[j]? = some x := by
        have := congrArg List.head? hl
        rw [List.head?_drop] at this
        exact this
      have hxN := (hT k hkn).2.2 x (List.mem_of_getElem? hx)
      have htl : (T k).drop (j + 1) = l := by
        rw [← List.tail_drop, hl]; rfl
      refine f_Peeling_fillBack_6_45_39 ⟨am_RI (by omega) (by omega), by omega, by omega, ?_⟩
      rw [c1, c2 j x hx, hF x (by omega)]
      refine ⟨am_RI (by omega) (by omega), fun z => absurd z (by omega), fun _ => ⟨by omega, by omega, by omega, by omega, am_RI (by omega) (by omega), ?_⟩⟩
      rw [xor_int, show 3 * (k : Int) + j + 1 = 3 * (k : Int) + ((j + 1 : Nat) : Int) by omega]
      refine ih (j + 1) (a ^^^ F x) htl ?_
      unfold xr at hp
      rw [← Int32.xor_assoc] at hp
      exact hp
  have main : ∀ (i : Nat) (m1 : am_M), i ≤ out.length → Fr [45] [] m m1 → FilM m1 45 (pfl T g (out.drop i)) → am_GV (d + 2) 37 P 13 [(0, .inr (.inr 27)), (1, .inr (.inr 20)), (2, .inr (.inr 6)), (3, .inr (.inr 45)), (4, .inl ((i : Int) - 1))] [] m1 := by
    intro i
    induction i with
    | zero =>
      intro m1 hi hf1 hF
      exact f_Peeling_fillBack_6_45_13 ⟨fun _ => kpost m1 hF hf1, fun z => absurd (by decide) z⟩
    | succ i ih =>
      intro m1 hi hf1 hF
      obtain ⟨k, c, e⟩ : ∃ k c, out[i]? = some (k, c) := ⟨_, _, List.getElem?_eq_getElem (show i < out.length by omega)⟩
      obtain ⟨p1, p2, p3, p4, p5⟩ := pok_at hk e
      have hO1 := hO.fr hf1 (by decide)
      rw [show ((i + 1 : Nat) : Int) - 1 = (i : Int) by omega]
      refine f_Peeling_fillBack_6_45_13 ⟨fun z => by omega, fun _ => ⟨by omega, by omega, ?_⟩⟩
      rw [(hO1.2 i k c e).1]
      refine ⟨by omega, by omega, am_RI (by omega) (by omega), ?_⟩
      rw [show m1.1 6 k = (g k).toInt by rw [hf1.1 _ (by decide)]; exact hg k p1]
      have hin := inner i k c m1 _ e (by omega) p1 p3 hf1 hF (T k) 0 (g k) rfl ?_
      · simpa using hin
      · have h2 := ih (am_wr m1 45 c (g k ^^^ xr (pfl T g (out.drop (i + 1))) (T k)).toInt) (by omega) (hf1.wr (by decide)) (fun x hx => ?_)
        · exact h2
        · rw [wr_at, p5, pfl_cons]
          by_cases hxc : x = c
          · rw [if_pos (by omega), if_pos hxc]
          · rw [if_neg (by omega), if_neg hxc]
            exact hF x hx
  refine f_Peeling_fillBack_6_45 (c_fill_45 (fun m1 h0 hf => ?_))
  rw [(hO.fr hf (by decide)).1]
  refine ⟨am_RI (by omega) (by omega), main out.length m1 (by omega) hf (fun x hx => ?_)⟩
  rw [h0 x hx, List.drop_length]
  rfl
theorem c_fillBack_32 {d : Nat} {P : am_M → Prop} {m : am_M} {T : Nat → List Nat} {n N : Nat} {out : List (Nat × Nat)} {g : Nat → Int32} (hL : RowL m T n N) (hO : OutM m out) (ho : out.length ≤ n) (hk : pok T n N out) (hg : ∀ k : Nat, k < n → m.1 31 k = (g k).toInt)
    (kpost : ∀ m' : am_M, FilM m' 32 (pfl T g out) → Fr [32] [] m m' → P m') : am_OkV (d + 2) 37 [.inr (.inr 27), .inr (.inr 20), .inr (.inr 31), .inr (.inr 32)] m P := by
  have hn := hL.2.2.1
  have hN := hL.2.2.2.1
  have hT := hL.2.2.2.2.1
  have inner : ∀ (i k c : Nat) (m1 : am_M) (F : Nat → Int32), out[i]? = some (k, c) → i < 48 → k < n → c < N → Fr [32] [] m m1 → FilM m1 32 F →
      ∀ (l : List Nat) (j : Nat) (a : Int32), (T k).drop j = l → am_GV (d + 2) 37 P 13 [(0, .inr (.inr 27)), (1, .inr (.inr 20)), (2, .inr (.inr 31)), (3, .inr (.inr 32)), (4, .inl ((i : Int) + -1))] [] (am_wr m1 32 c (a ^^^ xr F l).toInt) →
      am_GV (d + 2) 37 P 39 [(0, .inr (.inr 27)), (1, .inr (.inr 20)), (2, .inr (.inr 31)), (3, .inr (.inr 32)), (4, .inl i), (5, .inl k), (6, .inl a.toInt), (7, .inl (3 * (k : Int) + j))] [] m1 := by
    intro i k c m1 F hi hi48 hkn hcN hf1 hF l
    have hL1 := hL.fr hf1 (by decide)
    have hO1 := hO.fr hf1 (by decide)
    have hlen : (T k).length ≤ 3 := by rcases (hT k hkn).1 with e | e <;> omega
    obtain ⟨c1, c2⟩ := hL1.2.2.2.2.2 k hkn
    induction l with
    | nil =>
      intro j a hl hp
      have hj : (T k).length ≤ j := List.drop_eq_nil_iff.mp hl
      refine f_Peeling_fillBack_31_32_39 ⟨am_RI (by omega) (by omega), by omega, by omega, ?_⟩
      rw [c1, (hO1.2 i k c hi).2]
      refine ⟨am_RI (by omega) (by omega), fun _ => ⟨by omega, by omega, by omega, by omega, am_RI (by omega) (by omega), ?_⟩, fun z => absurd (by omega) z⟩
      unfold xr at hp
      rw [Int32.xor_zero] at hp
      exact hp
    | cons x l ih =>
      intro j a hl hp
      have hj : j < (T k).length := by
        rcases Nat.lt_or_ge j (T k).length with h | h
        · exact h
        · rw [List.drop_eq_nil_iff.mpr h] at hl; cases hl
      have hx : (T k)[j]? = some x := by
        have := congrArg List.head? hl
        rw [List.head?_drop] at this
        exact this
      have hxN := (hT k hkn).2.2 x (List.mem_of_getElem? hx)
      have htl : (T k).drop (j + 1) = l := by
        rw [← List.tail_drop, hl]; rfl
      refine f_Peeling_fillBack_31_32_39 ⟨am_RI (by omega) (by omega), by omega, by omega, ?_⟩
      rw [c1, c2 j x hx, hF x (by omega)]
      refine ⟨am_RI (by omega) (by omega), fun z => absurd z (by omega), fun _ => ⟨by omega, by omega, by omega, by omega, am_RI (by omega) (by omega), ?_⟩⟩
      rw [xor_int, show 3 * (k : Int) + j + 1 = 3 * (k : Int) + ((j + 1 : Nat) : Int) by omega]
      refine ih (j + 1) (a ^^^ F x) htl ?_
      unfold xr at hp
      rw [← Int32.xor_assoc] at hp
      exact hp
  have main : ∀ (i : Nat) (m1 : am_M), i ≤ out.length → Fr [32] [] m m1 → FilM m1 32 (pfl T g (out.drop i)) → am_GV (d + 2) 37 P 13 [(0, .inr (.inr 27)), (1, .inr (.inr 20)), (2, .inr (.inr 31)), (3, .inr (.inr 32)), (4, .inl ((i : Int) - 1))] [] m1 := by
    intro i
    induction i with
    | zero =>
      intro m1 hi hf1 hF
      exact f_Peeling_fillBack_31_32_13 ⟨fun _ => kpost m1 hF hf1, fun z => absurd (by decide) z⟩
    | succ i ih =>
      intro m1 hi hf1 hF
      obtain ⟨k, c, e⟩ : ∃ k c, out[i]? = some (k, c) := ⟨_, _, List.getElem?_eq_getElem (show i < out.length by omega)⟩
      obtain ⟨p1, p2, p3, p4, p5⟩ := pok_at hk e
      have hO1 := hO.fr hf1 (by decide)
      rw [show ((i + 1 : Nat) : Int) - 1 = (i : Int) by omega]
      refine f_Peeling_fillBack_31_32_13 ⟨fun z => by omega, fun _ => ⟨by omega, by omega, ?_⟩⟩
      rw [(hO1.2 i k c e).1]
      refine ⟨by omega, by omega, am_RI (by omega) (by omega), ?_⟩
      rw [show m1.1 31 k = (g k).toInt by rw [hf1.1 _ (by decide)]; exact hg k p1]
      have hin := inner i k c m1 _ e (by omega) p1 p3 hf1 hF (T k) 0 (g k) rfl ?_
      · simpa using hin
      · have h2 := ih (am_wr m1 32 c (g k ^^^ xr (pfl T g (out.drop (i + 1))) (T k)).toInt) (by omega) (hf1.wr (by decide)) (fun x hx => ?_)
        · exact h2
        · rw [wr_at, p5, pfl_cons]
          by_cases hxc : x = c
          · rw [if_pos (by omega), if_pos hxc]
          · rw [if_neg (by omega), if_neg hxc]
            exact hF x hx
  refine f_Peeling_fillBack_31_32 (c_fill_32 (fun m1 h0 hf => ?_))
  rw [(hO.fr hf (by decide)).1]
  refine ⟨am_RI (by omega) (by omega), main out.length m1 (by omega) hf (fun x hx => ?_)⟩
  rw [h0 x hx, List.drop_length]
  rfl
