/-! SHELVES: the reference; unlike -/
theorem r_copies {d : Nat} {P : am_M → Prop} {m : am_M} {Z : Nat → Option Sv} {a b : Nat} (ha : a ≤ 2) (hb : b ≤ 2) (hab : a ≠ b) (hA : RSv m a (Z a)) (hi : (Z a).isSome = true) (kpost : ∀ m' : am_M, RSv m' b (Z a) → (∀ c o, c ≠ b → RSv m c o → RSv m' c o) → Fr svG [] m m' → P m') : am_OkV (d + 1) 189 [.inr (.inr 55), .inl a, .inl b] m P := by
  cases hZ : Z a with
  | none => rw [hZ] at hi; cases hi
  | some s =>
    rw [hZ] at hA kpost
    obtain ⟨h0, hok, hfa, hpv⟩ := hA
    have l38 : ∀ (t x : Nat) (m1 : am_M), x + t = 96 → Fr [83, 84, 85] [] m m1 → (∀ i : Nat, i < 7 → m1.1 83 (7 * b + i) = s.1 i) → (∀ w : Int, (w < 7 * b ∨ 7 * b + 7 ≤ w) → m1.1 83 w = m.1 83 w) →
        (∀ y : Nat, y < x → m1.1 84 (96 * b + y) = (s.2.1 y).toInt ∧ m1.1 85 (96 * b + y) = (s.2.2 y).toInt) → (∀ w : Int, (w < 96 * b ∨ 96 * b + 96 ≤ w) → m1.1 84 w = m.1 84 w ∧ m1.1 85 w = m.1 85 w) → am_GV (d + 1) 189 P 38 [(0, .inr (.inr 55)), (1, .inl a), (2, .inl b), (3, .inl x)] [] m1 := by
      intro t
      induction t with
      | zero =>
        intro x m1 hx hf h1 h2 h3 h4
        refine f_M_copies_38 ⟨fun _ => ⟨by omega, by omega, Or.inr rfl, ?_⟩, fun y => absurd (by omega) y⟩
        refine kpost _ ⟨by rw [wr_at, if_pos rfl], hok, fun i hi => by rw [wr_ne _ _ _ (by decide)]; exact h1 i hi, fun y hy => by rw [wr_ne _ _ _ (by decide), wr_ne _ _ _ (by decide)]; exact h3 y (by omega)⟩ (fun c o hc hR => ?_) ((hf.mono (by decide) (by decide)).wr (by decide))
        have hit : (am_wr m1 86 b 1).1 86 c = m.1 86 c := by
          rw [wr_at, if_neg (by omega), hf.1 _ (by decide)]
        cases o with
        | none => unfold RSv at *; rw [hit]; exact hR
        | some q =>
          obtain ⟨q1, q2, q3, q4⟩ := hR
          refine ⟨by rw [hit]; exact q1, q2, fun i hi => ?_, fun y hy => ?_⟩
          · rw [wr_ne _ _ _ (by decide), h2 _ (by omega)]; exact q3 i hi
          · rw [wr_ne _ _ _ (by decide), wr_ne _ _ _ (by decide), (h4 _ (by omega)).1, (h4 _ (by omega)).2]; exact q4 y hy
      | succ t ih =>
        intro x m1 hx hf h1 h2 h3 h4
        have e4 := h4 (96 * a + x) (by omega)
        have e5 := hpv x (by omega)
        refine f_M_copies_38 ⟨fun y => by omega, fun _ => ⟨am_RI (by omega) (by omega), am_RI (by omega) (by omega), am_RI (by omega) (by omega), am_RI (by omega) (by omega), by omega, by omega, by omega, by omega, am_RI (by omega) (by omega), am_RI (by omega) (by omega), am_RI (by omega) (by omega), am_RI (by omega) (by omega), by omega, by omega, by omega, by omega, am_RI (by omega) (by omega), ?_⟩⟩
        rw [e4.1, e4.2, e5.1, e5.2]
        refine ih (x + 1) _ (by omega) ((hf.wr (by decide)).wr (by decide)) (fun i hi => by rw [wr_ne _ _ _ (by decide), wr_ne _ _ _ (by decide)]; exact h1 i hi) (fun w hw => by rw [wr_ne _ _ _ (by decide), wr_ne _ _ _ (by decide)]; exact h2 w hw) (fun y hy => ⟨?_, ?_⟩) (fun w hw => ⟨?_, ?_⟩)
        · rw [wr_ne _ _ _ (by decide), wr_at]
          by_cases e : y = x
          · rw [if_pos (by omega), e]
          · rw [if_neg (by omega)]; exact (h3 y (by omega)).1
        · rw [wr_at]
          by_cases e : y = x
          · rw [if_pos (by omega), e]
          · rw [if_neg (by omega), wr_ne _ _ _ (by decide)]; exact (h3 y (by omega)).2
        · rw [wr_ne _ _ _ (by decide), wr_at, if_neg (by omega)]; exact (h4 w hw).1
        · rw [wr_at, if_neg (by omega), wr_ne _ _ _ (by decide)]; exact (h4 w hw).2
    have l2 : ∀ (t i : Nat) (m1 : am_M), i + t = 7 → Fr [83, 84, 85] [] m m1 → m1.1 84 = m.1 84 → m1.1 85 = m.1 85 → (∀ j : Nat, j < i → m1.1 83 (7 * b + j) = s.1 j) → (∀ w : Int, (w < 7 * b ∨ 7 * b + 7 ≤ w) → m1.1 83 w = m.1 83 w) → am_GV (d + 1) 189 P 2 [(0, .inr (.inr 55)), (1, .inl a), (2, .inl b), (3, .inl i)] [] m1 := by
      intro t
      induction t with
      | zero =>
        intro i m1 hi hf p1 p2 h1 h2
        refine f_M_copies_2 ⟨fun _ => l38 96 0 m1 (by omega) hf (fun j hj => h1 j (by omega)) h2 (fun y hy => absurd hy (by omega)) (fun w _ => by rw [p1, p2]; exact ⟨rfl, rfl⟩), fun y => absurd (by omega) y⟩
      | succ t ih =>
        intro i m1 hi hf p1 p2 h1 h2
        refine f_M_copies_2 ⟨fun y => by omega, fun _ => ⟨am_RI (by omega) (by omega), am_RI (by omega) (by omega), am_RI (by omega) (by omega), am_RI (by omega) (by omega), by omega, by omega, by omega, by omega, am_RI (by omega) (by omega), ?_⟩⟩
        rw [h2 (7 * a + i) (by omega), hfa i (by omega)]
        refine ih (i + 1) _ (by omega) (hf.wr (by decide)) (by rw [wr_ne _ _ _ (by decide)]; exact p1) (by rw [wr_ne _ _ _ (by decide)]; exact p2) (fun j hj => ?_) (fun w hw => ?_)
        · rw [wr_at]
          by_cases e : j = i
          · rw [if_pos (by omega), e]
          · rw [if_neg (by omega)]; exact h1 j (by omega)
        · rw [wr_at, if_neg (by omega)]; exact h2 w hw
    exact f_M_copies (l2 7 0 m (by omega) Fr.rf rfl rfl (fun j hj => absurd hj (by omega)) (fun _ _ => rfl))
theorem r_shelf {d : Nat} {P : Int → am_M → Prop} {m : am_M} {Z : Nat → Option Sv} {z b : Int} (hS : RSAll m Z) (kpost : ∀ m' : am_M, RSAll m' (a_shz Z z b).2 → Fr (MF ++ svG) MF2 m m' → P (a_shz Z z b).1 m') : am_OkI (d + 2) 190 [.inr (.inr 55), .inl z, .inl b] m P := by
  have hf0 : Fr (MF ++ svG) MF2 m (am_wr m 6500 0 0) := Fr.rf.wr (by decide)
  have hf00 : Fr MF MF2 m (am_wr m 6500 0 0) := Fr.rf.wr (by decide)
  obtain ⟨S0', S1', S2'⟩ := hS
  have S0 := S0'.fr hf00 (by decide)
  have S1 := S1'.fr hf00 (by decide)
  have S2 := S2'.fr hf00 (by decide)
  have i0 := isSome_of S0.st
  have i1 := isSome_of S1.st
  have i2 := isSome_of S2.st
  have hA : RSAll (am_wr m 6500 0 0) Z := ⟨S0, S1, S2⟩
  unfold a_shz at kpost
  have hz : ¬ (0 ≤ z ∧ z ≤ 1) ∨ z = 0 ∨ z = 1 := by omega
  rcases hz with hz | hz | hz
  · rw [if_neg hz] at kpost
    exact f_M_shelf (r_isIn (fun _ => ⟨fun _ => ⟨Or.inl rfl, kpost _ hA hf0⟩, fun y => absurd rfl y⟩) (fun h1 h2 => absurd ⟨h1, h2⟩ hz))
  · subst hz
    rw [if_pos (by decide)] at kpost
    refine f_M_shelf (r_isIn (fun h => absurd (by decide) h) (fun h1 h2 => ⟨fun y => absurd y (by decide), fun _ => ?_⟩))
    refine ⟨fun hb => ⟨by decide, by decide, fun hst => ⟨fun _ => ⟨fun _ => ⟨am_RI (by decide) (by decide), ?_⟩, fun h => absurd hb h⟩, fun h => absurd hb h⟩, fun hst => ⟨Or.inl rfl, ?_⟩⟩, fun hb => ⟨am_RI (by decide) (by decide), by decide, by decide, fun hst => ⟨fun h => absurd h hb, fun _ => ⟨am_RI (by decide) (by decide), fun h => absurd h hb, fun _ => ?_⟩⟩, fun hst => ⟨Or.inl rfl, ?_⟩⟩⟩
    · have hi := i0.1 hst
      simp only [if_pos hb] at kpost
      rw [if_pos hi] at kpost
      exact r_copies (a := 0) (b := 1) (by decide) (by decide) (by decide) S0 hi (fun m' r1 r2 hf => ⟨Or.inr rfl, kpost m' ⟨r2 0 _ (by decide) S0, r1, r2 2 _ (by decide) S2⟩ (hf0.tr hf (by decide) (by decide) (by decide) (by decide))⟩)
    · have hi := i0.2 hst
      simp only [if_pos hb] at kpost
      rw [if_neg (fun e => Bool.false_ne_true (hi.symm.trans e))] at kpost
      exact kpost _ hA hf0
    · have hi := i1.1 hst
      simp only [if_neg hb] at kpost
      rw [if_pos (show (Z ((0 : Int).toNat + 1)).isSome = true from hi)] at kpost
      exact r_copies (a := 1) (b := 0) (by decide) (by decide) (by decide) S1 hi (fun m' r1 r2 hf => ⟨Or.inr rfl, kpost m' ⟨r1, r2 1 _ (by decide) S1, r2 2 _ (by decide) S2⟩ (hf0.tr hf (by decide) (by decide) (by decide) (by decide))⟩)
    · have hi := i1.2 hst
      simp only [if_neg hb] at kpost
      rw [if_neg (show ¬ (Z ((0 : Int).toNat + 1)).isSome = true from fun e => Bool.false_ne_true (hi.symm.trans e))] at kpost
      exact kpost _ hA hf0
  · subst hz
    rw [if_pos (by decide)] at kpost
    refine f_M_shelf (r_isIn (fun h => absurd (by decide) h) (fun h1 h2 => ⟨fun y => absurd y (by decide), fun _ => ?_⟩))
    refine ⟨fun hb => ⟨by decide, by decide, fun hst => ⟨fun _ => ⟨fun _ => ⟨am_RI (by decide) (by decide), ?_⟩, fun h => absurd hb h⟩, fun h => absurd hb h⟩, fun hst => ⟨Or.inl rfl, ?_⟩⟩, fun hb => ⟨am_RI (by decide) (by decide), by decide, by decide, fun hst => ⟨fun h => absurd h hb, fun _ => ⟨am_RI (by decide) (by decide), fun h => absurd h hb, fun _ => ?_⟩⟩, fun hst => ⟨Or.inl rfl, ?_⟩⟩⟩
    · have hi := i0.1 hst
      simp only [if_pos hb] at kpost
      rw [if_pos hi] at kpost
      exact r_copies (a := 0) (b := 2) (by decide) (by decide) (by decide) S0 hi (fun m' r1 r2 hf => ⟨Or.inr rfl, kpost m' ⟨r2 0 _ (by decide) S0, r2 1 _ (by decide) S1, r1⟩ (hf0.tr hf (by decide) (by decide) (by decide) (by decide))⟩)
    · have hi := i0.2 hst
      simp only [if_pos hb] at kpost
      rw [if_neg (fun e => Bool.false_ne_true (hi.symm.trans e))] at kpost
      exact kpost _ hA hf0
    · have hi := i2.1 hst
      simp only [if_neg hb] at kpost
      rw [if_pos (show (Z ((1 : Int).toNat + 1)).isSome = true from hi)] at kpost
      exact r_copies (a := 2) (b := 0) (by decide) (by decide) (by decide) S2 hi (fun m' r1 r2 hf => ⟨Or.inr rfl, kpost m' ⟨r1, r2 1 _ (by decide) S1, r2 2 _ (by decide) S2⟩ (hf0.tr hf (by decide) (by decide) (by decide) (by decide))⟩)
    · have hi := i2.2 hst
      simp only [if_neg hb] at kpost
      rw [if_neg (show ¬ (Z ((1 : Int).toNat + 1)).isSome = true from fun e => Bool.false_ne_true (hi.symm.trans e))] at kpost
      exact kpost _ hA hf0
