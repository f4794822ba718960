/-! THE SIEVE that is filled -/
abbrev Sv : Type := (Nat → Nat) × (Nat → Int32) × (Nat → Int32)
def SvOK (s : Sv) : Prop := s.1 0 ≤ 1000000100 ∧ (1 ≤ s.1 1 ∧ s.1 1 ≤ 32) ∧ (1 ≤ s.1 2 ∧ s.1 2 ≤ 16) ∧ s.1 3 ≤ 8 ∧ s.1 4 ≤ 2 ∧ ∀ x, 3 * s.1 1 ≤ x → s.2.1 x = 0 ∧ s.2.2 x = 0
def CSv (m : am_M) (fa pr va st : Nat) : Option Sv → Prop
  | none => m.1 st 0 = 0
  | some s => m.1 st 0 = 1 ∧ SvOK s ∧ (∀ i : Nat, i < 7 → m.1 fa i = s.1 i) ∧ FilM m pr s.2.1 ∧ FilM m va s.2.2
def RSv (m : am_M) (b : Nat) : Option Sv → Prop
  | none => m.1 86 b = 0
  | some s => m.1 86 b = 1 ∧ SvOK s ∧ (∀ i : Nat, i < 7 → m.1 83 (7 * b + i) = s.1 i) ∧ ∀ x : Nat, x < 96 → m.1 84 (96 * b + x) = (s.2.1 x).toInt ∧ m.1 85 (96 * b + x) = (s.2.2 x).toInt
theorem CSv.fr {m m' : am_M} {fa pr va st : Nat} {o : Option Sv} (h : CSv m fa pr va st o) {l1 l2 : List Nat} (hf : Fr l1 l2 m m') (h1 : fa ∉ l1 ∧ pr ∉ l1 ∧ va ∉ l1 ∧ st ∉ l1) : CSv m' fa pr va st o := by
  cases o with
  | none => unfold CSv at *; rw [hf.1 _ h1.2.2.2]; exact h
  | some s =>
    unfold CSv FilM at *
    rw [hf.1 _ h1.2.2.2, hf.1 _ h1.1, hf.1 _ h1.2.1, hf.1 _ h1.2.2.1]; exact h
theorem RSv.fr {m m' : am_M} {b : Nat} {o : Option Sv} (h : RSv m b o) {l1 l2 : List Nat} (hf : Fr l1 l2 m m') (h1 : 86 ∉ l1 ∧ 83 ∉ l1 ∧ 84 ∉ l1 ∧ 85 ∉ l1) : RSv m' b o := by
  cases o with
  | none => unfold RSv at *; rw [hf.1 _ h1.1]; exact h
  | some s =>
    unfold RSv at *
    rw [hf.1 _ h1.1, hf.1 _ h1.2.1, hf.1 _ h1.2.2.1, hf.1 _ h1.2.2.2]; exact h
abbrev CS0 (m : am_M) (o : Option Sv) : Prop := CSv m 43 44 45 5203 o
-- built
def a_built (o : Option Sv) (z : Int) : Int := match o with
  | none => -1
  | some s => if 0 ≤ z ∧ z ≤ 7 then (if z = 7 then 3 * (s.1 1 : Int) * (s.1 2 + s.1 3) else s.1 z.toNat) else -1
theorem bits_R {s : Sv} (h : SvOK s) : am_R (3 * (s.1 1 : Int) * (s.1 2 + s.1 3)) := by
  obtain ⟨-, h1, h2, h3, -, -⟩ := h
  have : 3 * (s.1 1 : Int) * (s.1 2 + s.1 3) ≤ 96 * 24 := Int.mul_le_mul (by omega) (by omega) (by omega) (by omega)
  have : 0 ≤ 3 * (s.1 1 : Int) * (s.1 2 + s.1 3) := Int.mul_nonneg (by omega) (by omega)
  exact am_RI (by omega) (by omega)
theorem c_built {d : Nat} {P : Int → am_M → Prop} {m : am_M} {o : Option Sv} {z : Int} (hS : CS0 m o) (kpost : P (a_built o z) m) : am_OkI (d + 3) 98 [.inr (.inr 0), .inl z] m P := by
  unfold a_built at kpost
  cases o with
  | none =>
    have h0 : m.1 5203 0 = 0 := hS
    exact f_T_built ⟨fun _ => kpost, fun h => absurd h0 h⟩
  | some s =>
    obtain ⟨h0, hok, hfa, -, -⟩ := hS
    have hr := bits_R hok
    simp only at kpost
    refine f_T_built ⟨fun h => absurd (h0.symm.trans h) (by decide), fun h => ⟨fun h1 => ?_, fun h1 => ⟨fun h2 => ⟨fun h3 => ⟨by omega, by omega, ?_⟩, fun h3 => ?_⟩, fun h2 => ?_⟩⟩⟩
    · rw [if_neg (by omega)] at kpost; exact kpost
    · rw [if_pos (by omega), if_neg h3] at kpost
      have := hfa z.toNat (by omega)
      rw [show ((z.toNat : Nat) : Int) = z by omega] at this
      rw [this]; exact kpost
    · rw [if_pos (by omega), if_pos (by omega)] at kpost
      refine f_Sieve_countBits (f_Sieve_length_42 ⟨by decide, by decide, ?_⟩)
      rw [show m.1 43 1 = s.1 1 from hfa 1 (by decide), show m.1 43 2 = s.1 2 from hfa 2 (by decide), show m.1 43 3 = s.1 3 from hfa 3 (by decide)]
      obtain ⟨-, h1, h2, h3, -, -⟩ := hok
      exact ⟨am_RI (by omega) (by omega), by decide, by decide, by decide, by decide, am_RI (by omega) (by omega), hr, kpost⟩
    · rw [if_neg (by omega)] at kpost; exact kpost
theorem r_built {d : Nat} {P : Int → am_M → Prop} {m : am_M} {o : Option Sv} {z : Int} (hS : RSv m 0 o) (kpost : ∀ m' : am_M, Fr MF MF2 m m' → P (a_built o z) m') : am_OkI (d + 2) 182 [.inr (.inr 55), .inl z] m P := by
  have hf0 : Fr MF MF2 m (am_wr m 6500 0 0) := Fr.rf.wr (by decide)
  have kp := kpost _ hf0
  have hS1 := hS.fr hf0 (by decide)
  unfold a_built at kp
  cases o with
  | none =>
    have h0 : m.1 86 0 = 0 := hS
    exact f_M_built ⟨by decide, by decide, fun _ => kp, fun h => absurd h0 h⟩
  | some s =>
    have h0 : m.1 86 0 = 1 := hS.1
    obtain ⟨-, hok, hfa, -⟩ := hS1
    have hr := bits_R hok
    simp only at kp
    refine f_M_built ⟨by decide, by decide, fun h => absurd (h0.symm.trans h) (by decide), fun h => r_isIn (fun h1 => ⟨fun z => absurd rfl z, fun _ => ?_⟩) (fun h1 h2 => ⟨fun _ => ⟨fun h3 => ?_, fun h3 => ⟨by omega, by omega, ?_⟩⟩, fun z => absurd (by decide) z⟩)⟩
    · rw [if_neg (by omega)] at kp; exact kp
    · rw [if_pos (by omega), if_pos (by omega)] at kp
      rw [show (am_wr m 6500 0 0).1 83 1 = s.1 1 from hfa 1 (by decide), show (am_wr m 6500 0 0).1 83 2 = s.1 2 from hfa 2 (by decide), show (am_wr m 6500 0 0).1 83 3 = s.1 3 from hfa 3 (by decide)]
      obtain ⟨-, h1, h2, h3, -, -⟩ := hok
      exact ⟨by decide, by decide, am_RI (by omega) (by omega), by decide, by decide, by decide, by decide, am_RI (by omega) (by omega), hr, kp⟩
    · rw [if_pos (by omega), if_neg (by omega)] at kp
      have := hfa z.toNat (by omega)
      rw [show 7 * ((0 : Nat) : Int) + ((z.toNat : Nat) : Int) = z by omega] at this
      rw [this]; exact kp
-- filled
def a_filled (o : Option Sv) (z b : Int) : Int := match o with
  | none => -1
  | some s => if 0 ≤ z ∧ z < 3 * s.1 1 then (if b = 0 then (s.2.1 z.toNat).toInt else (s.2.2 z.toNat).toInt) else -1
theorem c_filled {d : Nat} {P : Int → am_M → Prop} {m : am_M} {o : Option Sv} {z b : Int} (hS : CS0 m o) (kpost : P (a_filled o z b) m) : am_OkI (d + 3) 99 [.inr (.inr 0), .inl z, .inl b] m P := by
  unfold a_filled at kpost
  cases o with
  | none =>
    have h0 : m.1 5203 0 = 0 := hS
    exact f_T_filled ⟨fun _ => kpost, fun h => absurd h0 h⟩
  | some s =>
    obtain ⟨h0, hok, hfa, hp, hv⟩ := hS
    obtain ⟨-, ok1, -, -, -, -⟩ := hok
    simp only at kpost
    refine f_T_filled ⟨fun h => absurd (h0.symm.trans h) (by decide), fun h => ⟨fun h1 => ?_, fun h1 => f_Sieve_length_42 ⟨by decide, by decide, ?_⟩⟩⟩
    · rw [if_neg (by omega)] at kpost; exact kpost
    · rw [show m.1 43 1 = s.1 1 from hfa 1 (by decide)]
      refine ⟨am_RI (by omega) (by omega), fun h2 => ⟨fun h3 => ⟨by omega, by omega, ?_⟩, fun h3 => ⟨by omega, by omega, ?_⟩⟩, fun h2 => ?_⟩
      · rw [if_pos (by omega), if_pos h3] at kpost
        have := hp z.toNat (by omega)
        rw [show ((z.toNat : Nat) : Int) = z by omega] at this
        rw [this]; exact kpost
      · rw [if_pos (by omega), if_neg h3] at kpost
        have := hv z.toNat (by omega)
        rw [show ((z.toNat : Nat) : Int) = z by omega] at this
        rw [this]; exact kpost
      · rw [if_neg (by omega)] at kpost; exact kpost
theorem r_filled {d : Nat} {P : Int → am_M → Prop} {m : am_M} {o : Option Sv} {z b : Int} (hS : RSv m 0 o) (kpost : ∀ m' : am_M, Fr MF MF2 m m' → P (a_filled o z b) m') : am_OkI (d + 2) 183 [.inr (.inr 55), .inl z, .inl b] m P := by
  have hf0 : Fr MF MF2 m (am_wr m 6500 0 0) := Fr.rf.wr (by decide)
  have kp := kpost _ hf0
  have hS1 := hS.fr hf0 (by decide)
  unfold a_filled at kp
  cases o with
  | none =>
    have h0 : m.1 86 0 = 0 := hS
    exact f_M_filled ⟨by decide, by decide, fun _ => kp, fun h => absurd h0 h⟩
  | some s =>
    have h0 : m.1 86 0 = 1 := hS.1
    have hfa0 := hS.2.2.1 1 (by decide)
    obtain ⟨-, hok, -, hpv⟩ := hS1
    obtain ⟨-, ok1, -, -, -, -⟩ := hok
    simp only at kp
    refine f_M_filled ⟨by decide, by decide, fun h => absurd (h0.symm.trans h) (by decide), fun h => ⟨by decide, by decide, ?_⟩⟩
    rw [show m.1 83 1 = s.1 1 from hfa0]
    refine ⟨am_RI (by omega) (by omega), am_RI (by omega) (by omega), r_isIn (fun h1 => ⟨fun z => absurd rfl z, fun _ => ?_⟩) (fun h1 h2 => ⟨fun _ => ⟨fun h3 => ⟨by omega, by omega, ?_⟩, fun h3 => ⟨by omega, by omega, ?_⟩⟩, fun z => absurd (by decide) z⟩)⟩
    · rw [if_neg (by omega)] at kp; exact kp
    · rw [if_pos (by omega), if_pos h3] at kp
      have := (hpv z.toNat (by omega)).1
      rw [show 96 * ((0 : Nat) : Int) + ((z.toNat : Nat) : Int) = z by omega] at this
      rw [this]; exact kp
    · rw [if_pos (by omega), if_neg h3] at kp
      have := (hpv z.toNat (by omega)).2
      rw [show 96 * ((0 : Nat) : Int) + ((z.toNat : Nat) : Int) = z by omega] at this
      rw [this]; exact kp
