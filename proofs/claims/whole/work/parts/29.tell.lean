/-! CALLS: passes, told, right, strangers -/
def a_passes (o : Option Sv) (x : Int64) : Int := match o with
  | none => 0
  | some s => if a_pass s x = true then 1 else 0
def a_told (o : Option Sv) (x : Int64) : Int := match o with
  | none => -1
  | some s => a_val s x
theorem c_passes {d : Nat} {P : Int → am_M → Prop} {m : am_M} {o : Option Sv} {x : Int64} (hS : CS0 m o) (kpost : ∀ m' : am_M, Fr CF CF2 m m' → P (a_passes o x) m') : am_OkI (d + 4) 100 [.inr (.inr 0), .inr (.inl x)] m P := by
  unfold a_passes at kpost
  cases o with
  | none =>
    have h0 : m.1 5203 0 = 0 := hS
    exact f_T_passes ⟨fun h => absurd h0 h, fun _ => ⟨Or.inl rfl, kpost m Fr.rf⟩⟩
  | some s =>
    have h0 : m.1 5203 0 = 1 := hS.1
    refine f_T_passes ⟨fun _ => c_saim hS (fun m1 hA hf => c_look hA (fun m2 hT hA2 hf2 => ?_)), fun h => absurd (by rw [h0]; decide) h⟩
    have hff : Fr CF CF2 m m2 := hf.tr hf2 (by decide) (by decide) (by decide) (by decide)
    refine c_letsThrough (hS.fr hff (by decide)) hT ⟨?_, kpost m2 hff⟩
    split <;> decide
theorem r_passes {d : Nat} {P : Int → am_M → Prop} {m : am_M} {o : Option Sv} {x : Int64} (hS : RSv m 0 o) (kpost : ∀ m' : am_M, Fr MF MF2 m m' → P (a_passes o x) m') : am_OkI (d + 4) 185 [.inr (.inr 55), .inr (.inl x)] m P := by
  have hf0 : Fr MF MF2 m (am_wr m 6500 0 0) := Fr.rf.wr (by decide)
  unfold a_passes at kpost
  cases o with
  | none =>
    have h0 : m.1 86 0 = 0 := hS
    exact f_M_passes ⟨by decide, by decide, fun _ => ⟨Or.inl rfl, kpost _ hf0⟩, fun h => absurd h0 h⟩
  | some s =>
    have h0 : m.1 86 0 = 1 := hS.1
    refine f_M_passes ⟨by decide, by decide, fun h => absurd (h0.symm.trans h) (by decide), fun _ => r_asks (hS.fr hf0 (by decide)) (fun m1 _ hf => ?_)⟩
    have kp := kpost m1 (hf0.tr hf (by decide) (by decide) (by decide) (by decide))
    simp only at kp
    by_cases e : a_pass s x = true
    · rw [if_pos e] at kp ⊢
      exact ⟨fun z => absurd z (by decide), fun _ => ⟨Or.inr rfl, kp⟩⟩
    · rw [if_neg e] at kp ⊢
      exact ⟨fun _ => ⟨Or.inl rfl, kp⟩, fun z => absurd rfl z⟩
theorem c_told {d : Nat} {P : Int → am_M → Prop} {m : am_M} {o : Option Sv} {x : Int64} (hS : CS0 m o) (kpost : ∀ m' : am_M, Fr CF CF2 m m' → P (a_told o x) m') : am_OkI (d + 4) 101 [.inr (.inr 0), .inr (.inl x)] m P := by
  unfold a_told at kpost
  cases o with
  | none =>
    have h0 : m.1 5203 0 = 0 := hS
    exact f_T_told ⟨fun h => absurd h0 h, fun _ => kpost m Fr.rf⟩
  | some s =>
    have h0 : m.1 5203 0 = 1 := hS.1
    have ok := hS.2.1
    refine f_T_told ⟨fun _ => c_saim hS (fun m1 hA hf => c_look hA (fun m2 hT hA2 hf2 => ?_)), fun h => absurd (by rw [h0]; decide) h⟩
    have hff : Fr CF CF2 m m2 := hf.tr hf2 (by decide) (by decide) (by decide) (by decide)
    exact c_sum_45 ⟨by have := ok.2.1; omega, by have := ok.2.1; omega⟩ hT (hS.fr hff (by decide)).2.2.2.2 (kpost m2 hff)
theorem r_told {d : Nat} {P : Int → am_M → Prop} {m : am_M} {o : Option Sv} {x : Int64} (hS : RSv m 0 o) (kpost : ∀ m' : am_M, Fr MF MF2 m m' → P (a_told o x) m') : am_OkI (d + 4) 186 [.inr (.inr 55), .inr (.inl x)] m P := by
  have hf0 : Fr MF MF2 m (am_wr m 6500 0 0) := Fr.rf.wr (by decide)
  unfold a_told at kpost
  cases o with
  | none =>
    have h0 : m.1 86 0 = 0 := hS
    exact f_M_told ⟨by decide, by decide, fun h => absurd h0 h, fun _ => kpost _ hf0⟩
  | some s =>
    have h0 : m.1 86 0 = 1 := hS.1
    refine f_M_told ⟨by decide, by decide, fun _ => r_asks (hS.fr hf0 (by decide)) (fun m1 ha hf => ?_), fun h => absurd (by rw [h0]; decide) h⟩
    rw [ha]
    exact kpost m1 (hf0.tr hf (by decide) (by decide) (by decide) (by decide))
def a_good (s : Sv) (K : Nat → Int64) (V : Nat → Nat) (k : Nat) : Bool := a_pass s (K k) && decide (a_val s (K k) = V k)
def a_right (o : Option Sv) (n : Nat) (K : Nat → Int64) (V : Nat → Nat) : Int := match o with
  | none => -1
  | some s => cntb (a_good s K V) n
theorem c_right {d : Nat} {P : Int → am_M → Prop} {m : am_M} {o : Option Sv} {n : Nat} {K : Nat → Int64} {V S : Nat → Nat} (hG : GSt m n K V S) (hS : CS0 m o) (kpost : ∀ m' : am_M, Fr CF CF2 m m' → P (a_right o n K V) m') : am_OkI (d + 4) 102 [.inr (.inr 0)] m P := by
  unfold a_right at kpost
  have hn := hG.2.1
  cases o with
  | none =>
    have h0 : m.1 5203 0 = 0 := hS
    exact f_T_right ⟨fun h => absurd h0 h, fun _ => kpost m Fr.rf⟩
  | some s =>
    have h0 : m.1 5203 0 = 1 := hS.1
    have ok := hS.2.1
    have main : ∀ (r k : Nat) (m1 : am_M), k + r = n → Fr CF CF2 m m1 → MarkA m1 (s.1 0) (s.1 1) (s.1 2) (s.1 4) → am_GI (d + 4) 102 P 27 [(0, .inr (.inr 0)), (1, .inl (cntb (a_good s K V) k : Nat)), (2, .inl k)] [] m1 := by
      intro r
      induction r with
      | zero =>
        intro k m1 hk hf hA
        have : k = n := by omega
        subst this
        have hG1 := hG.fr hf (by decide)
        refine f_T_right_27 ⟨fun _ => kpost m1 hf, fun z => ?_⟩
        rw [hG1.1] at z; omega
      | succ r ih =>
        intro k m1 hk hf hA
        have hG1 := hG.fr hf (by decide)
        have hle := cntb_le (B := a_good s K V) (n := k)
        refine f_T_right_27 ⟨fun z => ?_, fun _ => ⟨by omega, by omega, ?_⟩⟩
        · rw [hG1.1] at z; omega
        rw [hG1.2.2.1 k (by omega)]
        refine c_look hA (fun m2 hT hA2 hf2 => ?_)
        have hff : Fr CF CF2 m m2 := hf.tr hf2 (by decide) (by decide) (by decide) (by decide)
        have hG2 := hG.fr hff (by decide)
        have hS2 := hS.fr hff (by decide)
        have h2 := ih (k + 1) m2 (by omega) hff hA2
        unfold cntb a_good at h2
        refine c_letsThrough hS2 hT ?_
        by_cases e : a_pass s (K k) = true
        · rw [if_pos e]
          refine ⟨fun z => absurd z (by decide), fun _ => c_sum_45 ⟨by have := ok.2.1; omega, by have := ok.2.1; omega⟩ hT hS2.2.2.2.2 ⟨by omega, by omega, ?_⟩⟩
          rw [hG2.2.2.2.1 k (by omega)]
          refine ⟨fun h => ⟨am_RI (by omega) (by omega), ?_⟩, fun h => ⟨am_RI (by omega) (by omega), am_RI (by omega) (by omega), ?_⟩⟩
          · rw [if_neg (by rw [Bool.and_eq_true, decide_eq_true_eq]; exact fun z => h z.2)] at h2
            exact h2
          · rw [if_pos (by rw [Bool.and_eq_true, decide_eq_true_eq]; exact ⟨e, Decidable.byContradiction h⟩)] at h2
            exact h2
        · rw [if_neg e]
          refine ⟨fun _ => ⟨am_RI (by omega) (by omega), ?_⟩, fun z => absurd rfl z⟩
          rw [if_neg (by rw [Bool.and_eq_true]; exact fun z => e z.1)] at h2
          exact h2
    refine f_T_right ⟨fun _ => c_saim hS (fun m1 hA hf => main n 0 m1 (by omega) hf hA), fun h => absurd (by rw [h0]; decide) h⟩
theorem r_right {d : Nat} {P : Int → am_M → Prop} {m : am_M} {o : Option Sv} {n : Nat} {K : Nat → Int64} {V S : Nat → Nat} (hM : MSt m n K V S) (hS : RSv m 0 o) (kpost : ∀ m' : am_M, Fr MF MF2 m m' → P (a_right o n K V) m') : am_OkI (d + 4) 187 [.inr (.inr 55)] m P := by
  have hf0 : Fr MF MF2 m (am_wr m 6500 0 0) := Fr.rf.wr (by decide)
  unfold a_right at kpost
  have hn := hM.2.1
  cases o with
  | none =>
    have h0 : m.1 86 0 = 0 := hS
    exact f_M_right ⟨by decide, by decide, fun h => absurd h0 h, fun _ => kpost _ hf0⟩
  | some s =>
    have h0 : m.1 86 0 = 1 := hS.1
    have main : ∀ (r k : Nat) (m1 : am_M), k + r = n → Fr MF MF2 m m1 → am_GI (d + 4) 187 P 20 [(0, .inr (.inr 55)), (1, .inl (cntb (a_good s K V) k : Nat)), (2, .inl k)] [] m1 := by
      intro r
      induction r with
      | zero =>
        intro k m1 hk hf
        have : k = n := by omega
        subst this
        have hM1 := hM.fr hf (by decide)
        refine f_M_right_20 ⟨fun _ => kpost m1 hf, fun z => ?_⟩
        rw [hM1.1] at z; omega
      | succ r ih =>
        intro k m1 hk hf
        have hM1 := hM.fr hf (by decide)
        have hle := cntb_le (B := a_good s K V) (n := k)
        refine f_M_right_20 ⟨fun z => ?_, fun _ => ⟨by omega, by omega, ?_⟩⟩
        · rw [hM1.1] at z; omega
        rw [hM1.2.2.1 k (by omega)]
        refine r_asks (hS.fr hf (by decide)) (fun m2 ha hf2 => ?_)
        have hff : Fr MF MF2 m m2 := hf.tr hf2 (by decide) (by decide) (by decide) (by decide)
        have hM2 := hM.fr hff (by decide)
        have h2 := ih (k + 1) m2 (by omega) hff
        unfold cntb a_good at h2
        rw [ha, hM2.2.2.2.1 k (by omega)]
        by_cases e : a_pass s (K k) = true
        · rw [if_pos e]
          refine ⟨fun z => absurd z (by decide), fun _ => ⟨by omega, by omega, fun h => ⟨am_RI (by omega) (by omega), ?_⟩, fun h => ⟨am_RI (by omega) (by omega), am_RI (by omega) (by omega), ?_⟩⟩⟩
          · rw [if_neg (by rw [Bool.and_eq_true, decide_eq_true_eq]; exact fun z => h z.2)] at h2
            exact h2
          · rw [if_pos (by rw [Bool.and_eq_true, decide_eq_true_eq]; exact ⟨e, Decidable.byContradiction h⟩)] at h2
            exact h2
        · rw [if_neg e]
          refine ⟨fun _ => ⟨am_RI (by omega) (by omega), ?_⟩, fun z => absurd rfl z⟩
          rw [if_neg (by rw [Bool.and_eq_true]; exact fun z => e z.1)] at h2
          exact h2
    refine f_M_right ⟨by decide, by decide, fun _ => main n 0 _ (by omega) hf0, fun h => absurd (by rw [h0]; decide) h⟩
def a_str (s : Sv) (n : Nat) (K : Nat → Int64) (x : Int64) (k : Int) : Nat → Nat → Int → Int
  | 0, _, met => if k = -1 then met else -2
  | r + 1, i, met => if a_pass s (x + am_i2l i) = true ∧ pfd K (x + am_i2l i) n 0 = -1 then (if met = k then i else a_str s n K x k r (i + 1) (met + 1)) else a_str s n K x k r (i + 1) met
def a_strangers (o : Option Sv) (n : Nat) (K : Nat → Int64) (x : Int64) (z k : Int) : Int := match o with
  | none => -1
  | some s => if 1 ≤ z ∧ z ≤ 1000 then a_str s n K x k z.toNat 0 0 else -1
theorem c_strangers {d : Nat} {P : Int → am_M → Prop} {m : am_M} {o : Option Sv} {n : Nat} {K : Nat → Int64} {V S : Nat → Nat} {x : Int64} {z k : Int} (hG : GSt m n K V S) (hS : CS0 m o) (kpost : ∀ m' : am_M, Fr CF CF2 m m' → P (a_strangers o n K x z k) m') : am_OkI (d + 4) 103 [.inr (.inr 0), .inr (.inl x), .inl z, .inl k] m P := by
  unfold a_strangers at kpost
  cases o with
  | none =>
    have h0 : m.1 5203 0 = 0 := hS
    exact f_T_strangers ⟨fun _ => kpost m Fr.rf, fun h => absurd h0 h⟩
  | some s =>
    have h0 : m.1 5203 0 = 1 := hS.1
    simp only at kpost
    have main : ∀ (r i : Nat) (met : Int) (m1 : am_M), ((i + r : Nat) : Int) = z → z ≤ 1000 → 0 ≤ met → met ≤ i → Fr CF CF2 m m1 → MarkA m1 (s.1 0) (s.1 1) (s.1 2) (s.1 4) → (∀ m' : am_M, Fr CF CF2 m m' → P (a_str s n K x k r i met) m') → am_GI (d + 4) 103 P 41 [(0, .inr (.inr 0)), (1, .inr (.inl x)), (3, .inl z), (4, .inl k), (5, .inl met), (6, .inl i)] [] m1 := by
      intro r
      induction r with
      | zero =>
        intro i met m1 hi hz hm0 hm1 hf hA kp
        have kp := kp m1 hf
        unfold a_str at kp
        refine f_T_strangers_41 ⟨fun _ => ⟨fun h => ?_, fun h => ?_⟩, fun y => absurd (by omega) y⟩
        · rw [if_neg h] at kp; exact kp
        · rw [if_pos (by omega)] at kp; exact kp
      | succ r ih =>
        intro i met m1 hi hz hm0 hm1 hf hA kp
        unfold a_str at kp
        refine f_T_strangers_41 ⟨fun y => by omega, fun _ => c_look hA (fun m2 hT hA2 hf2 => ?_)⟩
        have hff : Fr CF CF2 m m2 := hf.tr hf2 (by decide) (by decide) (by decide) (by decide)
        have hG2 := hG.fr hff (by decide)
        have hS2 := hS.fr hff (by decide)
        refine c_letsThrough hS2 hT ?_
        by_cases e : a_pass s (x + am_i2l i) = true
        · rw [if_pos e]
          refine ⟨fun y => absurd y (by decide), fun _ => c_find hG2 ⟨fun h => ⟨am_RI (by omega) (by omega), ?_⟩, fun h => ⟨fun h2 => ⟨am_RI (by omega) (by omega), am_RI (by omega) (by omega), ?_⟩, fun h2 => ?_⟩⟩⟩
          · rw [if_neg (fun y => h y.2)] at kp
            exact ih (i + 1) met m2 (by omega) hz hm0 (by omega) hff hA2 kp
          · rw [if_pos ⟨e, Decidable.byContradiction h⟩, if_neg h2] at kp
            exact ih (i + 1) (met + 1) m2 (by omega) hz (by omega) (by omega) hff hA2 kp
          · rw [if_pos ⟨e, Decidable.byContradiction h⟩, if_pos (Decidable.byContradiction h2)] at kp
            exact kp m2 hff
        · rw [if_neg e]
          rw [if_neg (fun y => e y.1)] at kp
          exact ⟨fun _ => ⟨am_RI (by omega) (by omega), ih (i + 1) met m2 (by omega) hz hm0 (by omega) hff hA2 kp⟩, fun y => absurd rfl y⟩
    refine f_T_strangers ⟨fun h => absurd (h0.symm.trans h) (by decide), fun _ => ⟨fun h => ?_, fun h => ⟨fun h2 => c_saim hS (fun m1 hA hf => ?_), fun h2 => ?_⟩⟩⟩
    · rw [if_neg (by omega)] at kpost; exact kpost m Fr.rf
    · rw [if_pos (by omega)] at kpost
      exact main z.toNat 0 0 m1 (by omega) h2 (Int.le_refl 0) (Int.le_refl 0) hf hA kpost
    · rw [if_neg (by omega)] at kpost; exact kpost m Fr.rf
theorem r_strangers {d : Nat} {P : Int → am_M → Prop} {m : am_M} {o : Option Sv} {n : Nat} {K : Nat → Int64} {V S : Nat → Nat} {x : Int64} {z k : Int} (hM : MSt m n K V S) (hS : RSv m 0 o) (kpost : ∀ m' : am_M, Fr MF MF2 m m' → P (a_strangers o n K x z k) m') : am_OkI (d + 4) 188 [.inr (.inr 55), .inr (.inl x), .inl z, .inl k] m P := by
  have hf0 : Fr MF MF2 m (am_wr m 6500 0 0) := Fr.rf.wr (by decide)
  unfold a_strangers at kpost
  cases o with
  | none =>
    have h0 : m.1 86 0 = 0 := hS
    exact f_M_strangers ⟨by decide, by decide, fun _ => kpost _ hf0, fun h => absurd h0 h⟩
  | some s =>
    have h0 : m.1 86 0 = 1 := hS.1
    simp only at kpost
    have main : ∀ (r i : Nat) (met : Int) (m1 : am_M), ((i + r : Nat) : Int) = z → z ≤ 1000 → 0 ≤ met → met ≤ i → Fr MF MF2 m m1 → (∀ m' : am_M, Fr MF MF2 m m' → P (a_str s n K x k r i met) m') → am_GI (d + 4) 188 P 33 [(0, .inr (.inr 55)), (1, .inr (.inl x)), (3, .inl z), (4, .inl k), (5, .inl met), (6, .inl i)] [] m1 := by
      intro r
      induction r with
      | zero =>
        intro i met m1 hi hz hm0 hm1 hf kp
        have kp := kp m1 hf
        unfold a_str at kp
        refine f_M_strangers_33 ⟨fun _ => ⟨fun h => ?_, fun h => ?_⟩, fun y => absurd (by omega) y⟩
        · rw [if_neg h] at kp; exact kp
        · rw [if_pos (by omega)] at kp; exact kp
      | succ r ih =>
        intro i met m1 hi hz hm0 hm1 hf kp
        unfold a_str at kp
        refine f_M_strangers_33 ⟨fun y => by omega, fun _ => r_asks (hS.fr hf (by decide)) (fun m2 ha hf2 => ?_)⟩
        have hff : Fr MF MF2 m m2 := hf.tr hf2 (by decide) (by decide) (by decide) (by decide)
        have hM2 := hM.fr hff (by decide)
        by_cases e : a_pass s (x + am_i2l i) = true
        · rw [if_pos e]
          refine ⟨fun y => absurd y (by decide), fun _ => r_indexOf hM2 ⟨fun h => ⟨fun h2 => ⟨am_RI (by omega) (by omega), am_RI (by omega) (by omega), ?_⟩, fun h2 => ?_⟩, fun h => ⟨am_RI (by omega) (by omega), ?_⟩⟩⟩
          · rw [if_pos ⟨e, h⟩, if_neg h2] at kp
            exact ih (i + 1) (met + 1) m2 (by omega) hz (by omega) (by omega) hff kp
          · rw [if_pos ⟨e, h⟩, if_pos (Decidable.byContradiction h2)] at kp
            exact kp m2 hff
          · rw [if_neg (fun y => h y.2)] at kp
            exact ih (i + 1) met m2 (by omega) hz hm0 (by omega) hff kp
        · rw [if_neg e]
          rw [if_neg (fun y => e y.1)] at kp
          exact ⟨fun _ => ⟨am_RI (by omega) (by omega), ih (i + 1) met m2 (by omega) hz hm0 (by omega) hff kp⟩, fun y => absurd rfl y⟩
    refine f_M_strangers ⟨by decide, by decide, fun h => absurd (h0.symm.trans h) (by decide), fun _ => r_isIn (fun h => ⟨fun y => absurd rfl y, fun _ => ?_⟩) (fun h1 h2 => ⟨fun _ => ?_, fun y => absurd (by decide) y⟩)⟩
    · rw [if_neg (by omega)] at kpost; exact kpost _ hf0
    · rw [if_pos (by omega)] at kpost
      exact main z.toNat 0 0 _ (by omega) h2 (Int.le_refl 0) (Int.le_refl 0) hf0 kpost
