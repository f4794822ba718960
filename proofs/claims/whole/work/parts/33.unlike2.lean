/-! UNLIKE -/
def a_df (s t : Sv) (x : Nat) : Bool := decide (s.2.1 x ≠ t.2.1 x) || decide (s.2.2 x ≠ t.2.2 x)
theorem a_df_t {s t : Sv} {x : Nat} (h : (s.2.1 x).toInt ≠ (t.2.1 x).toInt ∨ (s.2.2 x).toInt ≠ (t.2.2 x).toInt) : a_df s t x = true := by
  unfold a_df
  rw [Bool.or_eq_true, decide_eq_true_eq, decide_eq_true_eq]
  rcases h with h | h
  · exact Or.inl (fun e => h (by rw [e]))
  · exact Or.inr (fun e => h (by rw [e]))
theorem a_df_f {s t : Sv} {x : Nat} (h1 : (s.2.1 x).toInt = (t.2.1 x).toInt) (h2 : (s.2.2 x).toInt = (t.2.2 x).toInt) : a_df s t x = false := by
  unfold a_df
  rw [Int32.toInt_inj.mp h1, Int32.toInt_inj.mp h2]
  simp
def a_unl : Option Sv → Option Sv → Int
  | some s, some t => if s.1 1 = t.1 1 then cntb (a_df s t) (3 * s.1 1) else -2
  | _, _ => -1
def a_unlike (Z : Nat → Option Sv) (z : Int) : Int := if 0 ≤ z ∧ z ≤ 1 then a_unl (Z 0) (Z (z.toNat + 1)) else -1
theorem c_countUnlike_46 {d : Nat} {P : Int → am_M → Prop} {m : am_M} {s t : Sv} (hS : CS0 m (some s)) (hT : CSv m 47 48 49 5603 (some t)) (kpost : P (cntb (a_df s t) (3 * s.1 1)) m) : am_OkI (d + 2) 66 [.inr (.inr 42), .inr (.inr 46)] m P := by
  obtain ⟨h0, hok, hfa, hp, hv⟩ := hS
  obtain ⟨-, -, -, tp, tv⟩ := hT
  obtain ⟨-, ok1, -, -, -, -⟩ := hok
  have hN : 3 * s.1 1 ≤ 96 := by omega
  have main : ∀ (r x : Nat), x + r = 3 * s.1 1 → am_GI (d + 2) 66 P 4 [(0, .inr (.inr 42)), (1, .inr (.inr 46)), (2, .inl (cntb (a_df s t) x : Nat)), (3, .inl x)] [] m := by
    intro r
    induction r with
    | zero =>
      intro x hx
      have : x = 3 * s.1 1 := by omega
      subst this
      refine f_Sieve_countUnlike_46_4 (f_Sieve_length_42 ⟨by decide, by decide, ?_⟩)
      rw [show m.1 43 1 = s.1 1 from hfa 1 (by decide)]
      exact ⟨am_RI (by omega) (by omega), fun _ => kpost, fun y => absurd (by omega) y⟩
    | succ r ih =>
      intro x hx
      have h2 := ih (x + 1) (by omega)
      have hle := cntb_le (B := a_df s t) (n := x)
      unfold cntb at h2
      refine f_Sieve_countUnlike_46_4 (f_Sieve_length_42 ⟨by decide, by decide, ?_⟩)
      rw [show m.1 43 1 = s.1 1 from hfa 1 (by decide), hp x (by omega), hv x (by omega), tp x (by omega), tv x (by omega)]
      refine ⟨am_RI (by omega) (by omega), fun y => by omega, fun _ => ⟨by omega, by omega, by omega, by omega, fun h => ⟨am_RI (by omega) (by omega), am_RI (by omega) (by omega), ?_⟩, fun h => ⟨by omega, by omega, by omega, by omega, fun h3 => ⟨am_RI (by omega) (by omega), ?_⟩, fun h3 => ⟨am_RI (by omega) (by omega), am_RI (by omega) (by omega), ?_⟩⟩⟩⟩
      · rw [if_pos (a_df_t (Or.inl h))] at h2; exact h2
      · rw [if_neg (by rw [a_df_f (Decidable.byContradiction h) h3]; decide)] at h2; exact h2
      · rw [if_pos (a_df_t (Or.inr h3))] at h2; exact h2
  exact f_Sieve_countUnlike_46 (main (3 * s.1 1) 0 (by omega))
theorem c_countUnlike_50 {d : Nat} {P : Int → am_M → Prop} {m : am_M} {s t : Sv} (hS : CS0 m (some s)) (hT : CSv m 51 52 53 6003 (some t)) (kpost : P (cntb (a_df s t) (3 * s.1 1)) m) : am_OkI (d + 2) 66 [.inr (.inr 42), .inr (.inr 50)] m P := by
  obtain ⟨h0, hok, hfa, hp, hv⟩ := hS
  obtain ⟨-, -, -, tp, tv⟩ := hT
  obtain ⟨-, ok1, -, -, -, -⟩ := hok
  have hN : 3 * s.1 1 ≤ 96 := by omega
  have main : ∀ (r x : Nat), x + r = 3 * s.1 1 → am_GI (d + 2) 66 P 4 [(0, .inr (.inr 42)), (1, .inr (.inr 50)), (2, .inl (cntb (a_df s t) x : Nat)), (3, .inl x)] [] m := by
    intro r
    induction r with
    | zero =>
      intro x hx
      have : x = 3 * s.1 1 := by omega
      subst this
      refine f_Sieve_countUnlike_50_4 (f_Sieve_length_42 ⟨by decide, by decide, ?_⟩)
      rw [show m.1 43 1 = s.1 1 from hfa 1 (by decide)]
      exact ⟨am_RI (by omega) (by omega), fun _ => kpost, fun y => absurd (by omega) y⟩
    | succ r ih =>
      intro x hx
      have h2 := ih (x + 1) (by omega)
      have hle := cntb_le (B := a_df s t) (n := x)
      unfold cntb at h2
      refine f_Sieve_countUnlike_50_4 (f_Sieve_length_42 ⟨by decide, by decide, ?_⟩)
      rw [show m.1 43 1 = s.1 1 from hfa 1 (by decide), hp x (by omega), hv x (by omega), tp x (by omega), tv x (by omega)]
      refine ⟨am_RI (by omega) (by omega), fun y => by omega, fun _ => ⟨by omega, by omega, by omega, by omega, fun h => ⟨am_RI (by omega) (by omega), am_RI (by omega) (by omega), ?_⟩, fun h => ⟨by omega, by omega, by omega, by omega, fun h3 => ⟨am_RI (by omega) (by omega), ?_⟩, fun h3 => ⟨am_RI (by omega) (by omega), am_RI (by omega) (by omega), ?_⟩⟩⟩⟩
      · rw [if_pos (a_df_t (Or.inl h))] at h2; exact h2
      · rw [if_neg (by rw [a_df_f (Decidable.byContradiction h) h3]; decide)] at h2; exact h2
      · rw [if_pos (a_df_t (Or.inr h3))] at h2; exact h2
  exact f_Sieve_countUnlike_50 (main (3 * s.1 1) 0 (by omega))
theorem c_unlike {d : Nat} {P : Int → am_M → Prop} {m : am_M} {Z : Nat → Option Sv} {z : Int} (hS : CSAll m Z) (kpost : P (a_unlike Z z) m) : am_OkI (d + 3) 105 [.inr (.inr 0), .inl z] m P := by
  obtain ⟨S0, S1, S2⟩ := hS
  have i0 := isSome_of S0.st
  have i1 := isSome_of S1.st
  have i2 := isSome_of S2.st
  unfold a_unlike at kpost
  have hz : ¬ (0 ≤ z ∧ z ≤ 1) ∨ z = 0 ∨ z = 1 := by omega
  rcases hz with hz | hz | hz
  · rw [if_neg hz] at kpost
    exact f_T_unlike ⟨fun _ => kpost, fun _ => ⟨fun _ => kpost, fun _ => absurd (by omega) hz⟩⟩
  · subst hz
    rw [if_pos (by decide)] at kpost
    change P (a_unl (Z 0) (Z 1)) m at kpost
    refine f_T_unlike ⟨fun h => absurd h (by decide), fun _ => ⟨fun h => absurd h (by decide), fun _ => ⟨fun h => ?_, fun h => ?_⟩⟩⟩
    · cases h0 : Z 0 with
      | none => rw [h0] at kpost; exact kpost
      | some s => rw [h0] at S0; exact absurd (S0.1.symm.trans h) (by decide)
    · cases h0 : Z 0 with
      | none => rw [h0] at S0; exact absurd S0 h
      | some s =>
        rw [h0] at S0 kpost
        have ok := S0.2.1.2.1
        have e1 : m.1 43 1 = s.1 1 := S0.2.2.1 1 (by decide)
        have hgo : (m.1 5603 0 ≠ 0 → ∃ t, Z 1 = some t) ∧ (¬ (m.1 5603 0 ≠ 0) → P (-1) m) := by
          constructor
          · intro h2
            cases h1 : Z 1 with
            | none => rw [h1] at S1; exact absurd S1 h2
            | some t => exact ⟨t, rfl⟩
          · intro h2
            cases h1 : Z 1 with
            | none => rw [h1] at kpost; exact kpost
            | some t => rw [h1] at S1; exact absurd (by rw [S1.1]; decide) h2
        have hmid : True := by trivial
        refine ⟨by decide, by decide, fun _ => ⟨fun h2 => ?_, fun h2 => hgo.2 h2⟩, fun h => absurd h (by decide), trivial⟩
        · obtain ⟨t, ht⟩ := hgo.1 h2
          rw [ht] at S1 kpost
          have okt := S1.2.1.2.1
          have e2 : m.1 47 1 = t.1 1 := S1.2.2.1 1 (by decide)
          have kpost : P (if s.1 1 = t.1 1 then cntb (a_df s t) (3 * s.1 1) else -2) m := kpost
          refine f_Sieve_length_42 ⟨by decide, by decide, ?_⟩
          rw [e1]
          refine ⟨am_RI (by omega) (by omega), by decide, by decide, fun _ => f_Sieve_length_46 ⟨by decide, by decide, ?_⟩, fun h => absurd h (by decide), trivial⟩
          rw [e2]
          refine ⟨am_RI (by omega) (by omega), fun h => ?_, fun h => ⟨by decide, by decide, fun _ => ?_, fun h => absurd h (by decide), trivial⟩⟩
          · rw [if_neg (by omega)] at kpost; exact kpost
          · rw [if_pos (by omega)] at kpost
            exact c_countUnlike_46 S0 S1 kpost
  · subst hz
    rw [if_pos (by decide)] at kpost
    change P (a_unl (Z 0) (Z 2)) m at kpost
    refine f_T_unlike ⟨fun h => absurd h (by decide), fun _ => ⟨fun h => absurd h (by decide), fun _ => ⟨fun h => ?_, fun h => ?_⟩⟩⟩
    · cases h0 : Z 0 with
      | none => rw [h0] at kpost; exact kpost
      | some s => rw [h0] at S0; exact absurd (S0.1.symm.trans h) (by decide)
    · cases h0 : Z 0 with
      | none => rw [h0] at S0; exact absurd S0 h
      | some s =>
        rw [h0] at S0 kpost
        have ok := S0.2.1.2.1
        have e1 : m.1 43 1 = s.1 1 := S0.2.2.1 1 (by decide)
        have hgo : (m.1 6003 0 ≠ 0 → ∃ t, Z 2 = some t) ∧ (¬ (m.1 6003 0 ≠ 0) → P (-1) m) := by
          constructor
          · intro h2
            cases h1 : Z 2 with
            | none => rw [h1] at S2; exact absurd S2 h2
            | some t => exact ⟨t, rfl⟩
          · intro h2
            cases h1 : Z 2 with
            | none => rw [h1] at kpost; exact kpost
            | some t => rw [h1] at S2; exact absurd (by rw [S2.1]; decide) h2
        have hmid : True := by trivial
        refine ⟨by decide, by decide, fun h => absurd h (by decide), fun _ => ⟨fun h2 => ?_, fun h2 => hgo.2 h2⟩, trivial⟩
        · obtain ⟨t, ht⟩ := hgo.1 h2
          rw [ht] at S2 kpost
          have okt := S2.2.1.2.1
          have e2 : m.1 51 1 = t.1 1 := S2.2.2.1 1 (by decide)
          have kpost : P (if s.1 1 = t.1 1 then cntb (a_df s t) (3 * s.1 1) else -2) m := kpost
          refine f_Sieve_length_42 ⟨by decide, by decide, ?_⟩
          rw [e1]
          refine ⟨am_RI (by omega) (by omega), by decide, by decide, fun h => absurd h (by decide), fun _ => f_Sieve_length_50 ⟨by decide, by decide, ?_⟩, trivial⟩
          rw [e2]
          refine ⟨am_RI (by omega) (by omega), fun h => ?_, fun h => ⟨by decide, by decide, fun h => absurd h (by decide), fun _ => ?_, trivial⟩⟩
          · rw [if_neg (by omega)] at kpost; exact kpost
          · rw [if_pos (by omega)] at kpost
            exact c_countUnlike_50 S0 S2 kpost
theorem a_df_z {s t : Sv} (h1 : SvOK s) (h2 : SvOK t) (he : s.1 1 = t.1 1) : cntb (a_df s t) 96 = cntb (a_df s t) (3 * s.1 1) := by
  obtain ⟨-, a1, -, -, -, a2⟩ := h1
  obtain ⟨-, b1, -, -, -, b2⟩ := h2
  have hm := cntb_more (B := a_df s t) (N := 3 * s.1 1) (fun x hx => a_df_f (by rw [(a2 x hx).1, (b2 x (by omega)).1]) (by rw [(a2 x hx).2, (b2 x (by omega)).2])) (96 - 3 * s.1 1)
  rw [show 3 * s.1 1 + (96 - 3 * s.1 1) = 96 by omega] at hm
  exact hm
theorem r_unlike {d : Nat} {P : Int → am_M → Prop} {m : am_M} {Z : Nat → Option Sv} {z : Int} (hS : RSAll m Z) (kpost : ∀ m' : am_M, Fr MF MF2 m m' → P (a_unlike Z z) m') : am_OkI (d + 3) 191 [.inr (.inr 55), .inl z] m P := by
  have hf0 : Fr MF MF2 m (am_wr m 6500 0 0) := Fr.rf.wr (by decide)
  have kp := kpost _ hf0
  obtain ⟨S0', S1', S2'⟩ := hS
  have S0 := S0'.fr hf0 (by decide)
  have S1 := S1'.fr hf0 (by decide)
  have S2 := S2'.fr hf0 (by decide)
  unfold a_unlike at kp
  refine f_M_unlike (r_isIn (fun h => ⟨fun _ => by rw [if_neg h] at kp; exact kp, fun y => absurd rfl y⟩) (fun h1 h2 => ⟨fun y => absurd y (by decide), fun _ => ⟨by decide, by decide, ?_⟩⟩))
  rw [if_pos ⟨h1, h2⟩] at kp
  have Si : RSv (am_wr m 6500 0 0) (z.toNat + 1) (Z (z.toNat + 1)) := by
    have hz : z = 0 ∨ z = 1 := by omega
    rcases hz with hz | hz
    · subst hz; exact S1
    · subst hz; exact S2
  generalize am_wr m 6500 0 0 = m0 at *
  have hzi : z + 1 = ((z.toNat + 1 : Nat) : Int) := by omega
  have hile : 1 ≤ z.toNat + 1 ∧ z.toNat + 1 ≤ 2 := by omega
  rw [hzi]
  generalize z.toNat + 1 = i at *
  refine ⟨fun h => ?_, fun h => ⟨am_RI (by omega) (by omega), by omega, by omega, fun h3 => ?_, fun h3 => ?_⟩⟩
  · cases h0 : Z 0 with
    | none => rw [h0] at kp; exact kp
    | some s => rw [h0] at S0; exact absurd (S0.1.symm.trans h) (by decide)
  · cases h0 : Z 0 with
    | none => rw [h0] at S0; exact absurd S0 h
    | some s =>
      cases h4 : Z i with
      | none => rw [h4] at Si; exact absurd Si h3
      | some t =>
        rw [h0, h4] at kp
        rw [h0] at S0
        rw [h4] at Si
        have kp : P (if s.1 1 = t.1 1 then cntb (a_df s t) (3 * s.1 1) else -2) m0 := kp
        obtain ⟨-, ok0, fa0, pv0⟩ := S0
        obtain ⟨-, oki, fai, pvi⟩ := Si
        have e1 : m0.1 83 1 = s.1 1 := fa0 1 (by decide)
        have e2 : m0.1 83 (7 * (i : Int) + 1) = t.1 1 := fai 1 (by decide)
        refine ⟨by decide, by decide, am_RI (by omega) (by omega), am_RI (by omega) (by omega), am_RI (by omega) (by omega), by omega, by omega, ?_⟩
        rw [e1, e2]
        refine ⟨fun he => ?_, fun he => ?_⟩
        · have he : s.1 1 = t.1 1 := by omega
          rw [if_pos he, ← a_df_z ok0 oki he] at kp
          have main : ∀ (r x : Nat), x + r = 96 → am_GI (d + 3) 191 P 65 [(0, .inr (.inr 55)), (1, .inl z), (2, .inl (cntb (a_df s t) x : Nat)), (3, .inl x)] [] m0 := by
            intro r
            induction r with
            | zero =>
              intro x hx
              have : x = 96 := by omega
              subst this
              exact f_M_unlike_65 ⟨fun _ => kp, fun y => absurd (by decide) y⟩
            | succ r ih =>
              intro x hx
              have h5 := ih (x + 1) (by omega)
              have hle := cntb_le (B := a_df s t) (n := x)
              unfold cntb at h5
              have p0 := pv0 x (by omega)
              have pi := pvi x (by omega)
              rw [show 96 * ((0 : Nat) : Int) + ((x : Nat) : Int) = x by omega] at p0
              refine f_M_unlike_65 ⟨fun y => by omega, fun _ => ⟨by omega, by omega, ?_⟩⟩
              rw [hzi, p0.1, p0.2, pi.1, pi.2]
              refine ⟨am_RI (by omega) (by omega), am_RI (by omega) (by omega), am_RI (by omega) (by omega), by omega, by omega, fun h => ⟨am_RI (by omega) (by omega), am_RI (by omega) (by omega), ?_⟩, fun h => ⟨by omega, by omega, am_RI (by omega) (by omega), am_RI (by omega) (by omega), am_RI (by omega) (by omega), by omega, by omega, fun h3 => ⟨am_RI (by omega) (by omega), ?_⟩, fun h3 => ⟨am_RI (by omega) (by omega), am_RI (by omega) (by omega), ?_⟩⟩⟩
              · rw [if_pos (a_df_t (Or.inl h))] at h5; exact h5
              · rw [if_neg (by rw [a_df_f (Decidable.byContradiction h) h3]; decide)] at h5; exact h5
              · rw [if_pos (a_df_t (Or.inr h3))] at h5; exact h5
          exact main 96 0 (by omega)
        · rw [if_neg (by omega)] at kp; exact kp
  · cases h0 : Z 0 with
    | none => rw [h0] at kp; exact kp
    | some s =>
      cases h4 : Z i with
      | none => rw [h0, h4] at kp; exact kp
      | some t => rw [h4] at Si; exact absurd (by rw [Si.1]; decide) h3
