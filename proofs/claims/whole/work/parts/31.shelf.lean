/-! SHELVES -/
abbrev svF : List Nat := [43, 44, 45, 5203, 47, 48, 49, 5603, 51, 52, 53, 6003]
abbrev svG : List Nat := [83, 84, 85, 86]
def CSAll (m : am_M) (Z : Nat → Option Sv) : Prop := CSv m 43 44 45 5203 (Z 0) ∧ CSv m 47 48 49 5603 (Z 1) ∧ CSv m 51 52 53 6003 (Z 2)
def RSAll (m : am_M) (Z : Nat → Option Sv) : Prop := RSv m 0 (Z 0) ∧ RSv m 1 (Z 1) ∧ RSv m 2 (Z 2)
def a_shz (Z : Nat → Option Sv) (z b : Int) : Int × (Nat → Option Sv) :=
  if 0 ≤ z ∧ z ≤ 1 then (if (Z (if b = 0 then 0 else z.toNat + 1)).isSome = true then (1, fun j => if j = (if b = 0 then z.toNat + 1 else 0) then Z (if b = 0 then 0 else z.toNat + 1) else Z j) else (0, Z)) else (0, Z)
theorem ws1_ne (m : am_M) {id i : Nat} (f : Int → Int) (h : i ≠ id) : (am_ws1 m id f).1 i = m.1 i := by simp [am_ws1, h]
theorem ws2_ne (m : am_M) {id i : Nat} (f : Int → Int64) (h : i ≠ id) : (am_ws2 m id f).2 i = m.2 i := by simp [am_ws2, h]
theorem ws1_2 (m : am_M) (id : Nat) (f : Int → Int) : (am_ws1 m id f).2 = m.2 := rfl
theorem ws2_1 (m : am_M) (id : Nat) (f : Int → Int64) : (am_ws2 m id f).1 = m.1 := rfl
theorem CSv.st {m : am_M} {fa pr va st : Nat} {o : Option Sv} (h : CSv m fa pr va st o) : m.1 st 0 = if o.isSome = true then 1 else 0 := by
  cases o with
  | none => exact h
  | some s => exact h.1
theorem RSv.st {m : am_M} {b : Nat} {o : Option Sv} (h : RSv m b o) : m.1 86 b = if o.isSome = true then 1 else 0 := by
  cases o with
  | none => exact h
  | some s => exact h.1
theorem isSome_of {o : Option Sv} {z : Int} (h : z = if o.isSome = true then 1 else 0) : (z ≠ 0 → o.isSome = true) ∧ (¬ (z ≠ 0) → o.isSome = false) := by
  cases o with
  | none => exact ⟨fun h2 => absurd h h2, fun _ => rfl⟩
  | some s => exact ⟨fun _ => rfl, fun h2 => absurd (by rw [h]; exact (by decide : (1 : Int) ≠ 0)) h2⟩
theorem c_copy_46_42 {d : Nat} {P : am_M → Prop} {m : am_M} {o : Option Sv} (hS : CSv m 43 44 45 5203 o) (ho : o.isSome = true) (kpost : ∀ m' : am_M, CSv m' 47 48 49 5603 o → Fr [47, 48, 49, 5603] [] m m' → P m') : am_OkV (d + 1) 61 [.inr (.inr 46), .inr (.inr 42)] m P := by
  cases o with
  | none => cases ho
  | some s =>
    obtain ⟨h0, hok, hfa, hp, hv⟩ := hS
    refine f_Sieve_copy_46_42 ⟨by decide, by decide, by decide, by decide, by decide, by decide, by decide, by decide, by decide, by decide, by decide, by decide, by decide, by decide, by decide, Or.inr h0, ?_⟩
    refine kpost _ ⟨?_, hok, fun i hi => ?_, fun x hx => ?_, fun x hx => ?_⟩ ((((Fr.rf.ws1 (by decide)).ws1 (by decide)).ws1 (by decide)).wr (by decide))
    · rw [wr_at, if_pos rfl]; exact h0
    · rw [wr_ne _ _ _ (by decide), ws1_ne _ _ (by decide), ws1_ne _ _ (by decide), ws1_at]
      unfold am_cpy
      rw [if_pos (by omega), show 0 + ((i : Int) - 0) = i by omega]
      exact hfa i hi
    · rw [wr_ne _ _ _ (by decide), ws1_ne _ _ (by decide), ws1_at]
      unfold am_cpy
      rw [if_pos (by omega), ws1_ne _ _ (by decide), show 0 + ((x : Int) - 0) = x by omega]
      exact hp x hx
    · rw [wr_ne _ _ _ (by decide), ws1_at]
      unfold am_cpy
      rw [if_pos (by omega), ws1_ne _ _ (by decide), ws1_ne _ _ (by decide), show 0 + ((x : Int) - 0) = x by omega]
      exact hv x hx
theorem c_copy_50_42 {d : Nat} {P : am_M → Prop} {m : am_M} {o : Option Sv} (hS : CSv m 43 44 45 5203 o) (ho : o.isSome = true) (kpost : ∀ m' : am_M, CSv m' 51 52 53 6003 o → Fr [51, 52, 53, 6003] [] m m' → P m') : am_OkV (d + 1) 61 [.inr (.inr 50), .inr (.inr 42)] m P := by
  cases o with
  | none => cases ho
  | some s =>
    obtain ⟨h0, hok, hfa, hp, hv⟩ := hS
    refine f_Sieve_copy_50_42 ⟨by decide, by decide, by decide, by decide, by decide, by decide, by decide, by decide, by decide, by decide, by decide, by decide, by decide, by decide, by decide, Or.inr h0, ?_⟩
    refine kpost _ ⟨?_, hok, fun i hi => ?_, fun x hx => ?_, fun x hx => ?_⟩ ((((Fr.rf.ws1 (by decide)).ws1 (by decide)).ws1 (by decide)).wr (by decide))
    · rw [wr_at, if_pos rfl]; exact h0
    · rw [wr_ne _ _ _ (by decide), ws1_ne _ _ (by decide), ws1_ne _ _ (by decide), ws1_at]
      unfold am_cpy
      rw [if_pos (by omega), show 0 + ((i : Int) - 0) = i by omega]
      exact hfa i hi
    · rw [wr_ne _ _ _ (by decide), ws1_ne _ _ (by decide), ws1_at]
      unfold am_cpy
      rw [if_pos (by omega), ws1_ne _ _ (by decide), show 0 + ((x : Int) - 0) = x by omega]
      exact hp x hx
    · rw [wr_ne _ _ _ (by decide), ws1_at]
      unfold am_cpy
      rw [if_pos (by omega), ws1_ne _ _ (by decide), ws1_ne _ _ (by decide), show 0 + ((x : Int) - 0) = x by omega]
      exact hv x hx
theorem c_copy_42_46 {d : Nat} {P : am_M → Prop} {m : am_M} {o : Option Sv} (hS : CSv m 47 48 49 5603 o) (ho : o.isSome = true) (kpost : ∀ m' : am_M, CSv m' 43 44 45 5203 o → Fr [43, 44, 45, 5203] [] m m' → P m') : am_OkV (d + 1) 61 [.inr (.inr 42), .inr (.inr 46)] m P := by
  cases o with
  | none => cases ho
  | some s =>
    obtain ⟨h0, hok, hfa, hp, hv⟩ := hS
    refine f_Sieve_copy_42_46 ⟨by decide, by decide, by decide, by decide, by decide, by decide, by decide, by decide, by decide, by decide, by decide, by decide, by decide, by decide, by decide, Or.inr h0, ?_⟩
    refine kpost _ ⟨?_, hok, fun i hi => ?_, fun x hx => ?_, fun x hx => ?_⟩ ((((Fr.rf.ws1 (by decide)).ws1 (by decide)).ws1 (by decide)).wr (by decide))
    · rw [wr_at, if_pos rfl]; exact h0
    · rw [wr_ne _ _ _ (by decide), ws1_ne _ _ (by decide), ws1_ne _ _ (by decide), ws1_at]
      unfold am_cpy
      rw [if_pos (by omega), show 0 + ((i : Int) - 0) = i by omega]
      exact hfa i hi
    · rw [wr_ne _ _ _ (by decide), ws1_ne _ _ (by decide), ws1_at]
      unfold am_cpy
      rw [if_pos (by omega), ws1_ne _ _ (by decide), show 0 + ((x : Int) - 0) = x by omega]
      exact hp x hx
    · rw [wr_ne _ _ _ (by decide), ws1_at]
      unfold am_cpy
      rw [if_pos (by omega), ws1_ne _ _ (by decide), ws1_ne _ _ (by decide), show 0 + ((x : Int) - 0) = x by omega]
      exact hv x hx
theorem c_copy_42_50 {d : Nat} {P : am_M → Prop} {m : am_M} {o : Option Sv} (hS : CSv m 51 52 53 6003 o) (ho : o.isSome = true) (kpost : ∀ m' : am_M, CSv m' 43 44 45 5203 o → Fr [43, 44, 45, 5203] [] m m' → P m') : am_OkV (d + 1) 61 [.inr (.inr 42), .inr (.inr 50)] m P := by
  cases o with
  | none => cases ho
  | some s =>
    obtain ⟨h0, hok, hfa, hp, hv⟩ := hS
    refine f_Sieve_copy_42_50 ⟨by decide, by decide, by decide, by decide, by decide, by decide, by decide, by decide, by decide, by decide, by decide, by decide, by decide, by decide, by decide, Or.inr h0, ?_⟩
    refine kpost _ ⟨?_, hok, fun i hi => ?_, fun x hx => ?_, fun x hx => ?_⟩ ((((Fr.rf.ws1 (by decide)).ws1 (by decide)).ws1 (by decide)).wr (by decide))
    · rw [wr_at, if_pos rfl]; exact h0
    · rw [wr_ne _ _ _ (by decide), ws1_ne _ _ (by decide), ws1_ne _ _ (by decide), ws1_at]
      unfold am_cpy
      rw [if_pos (by omega), show 0 + ((i : Int) - 0) = i by omega]
      exact hfa i hi
    · rw [wr_ne _ _ _ (by decide), ws1_ne _ _ (by decide), ws1_at]
      unfold am_cpy
      rw [if_pos (by omega), ws1_ne _ _ (by decide), show 0 + ((x : Int) - 0) = x by omega]
      exact hp x hx
    · rw [wr_ne _ _ _ (by decide), ws1_at]
      unfold am_cpy
      rw [if_pos (by omega), ws1_ne _ _ (by decide), ws1_ne _ _ (by decide), show 0 + ((x : Int) - 0) = x by omega]
      exact hv x hx
theorem c_shelf {d : Nat} {P : Int → am_M → Prop} {m : am_M} {Z : Nat → Option Sv} {z b : Int} (hS : CSAll m Z) (kpost : ∀ m' : am_M, CSAll m' (a_shz Z z b).2 → Fr svF [] m m' → P (a_shz Z z b).1 m') : am_OkI (d + 2) 104 [.inr (.inr 0), .inl z, .inl b] m P := by
  obtain ⟨S0, S1, S2⟩ := id hS
  have i0 := isSome_of S0.st
  have i1 := isSome_of S1.st
  have i2 := isSome_of S2.st
  unfold a_shz at kpost
  have kno : ∀ h : ¬ (0 ≤ z ∧ z ≤ 1), P 0 m := fun h => by
    rw [if_neg h] at kpost
    exact kpost m hS Fr.rf
  refine f_T_shelf ?_
  repeat' (first | with_reducible apply And.intro | with_reducible intro hh)
  all_goals try (first | omega | exact Or.inl rfl | exact Or.inr rfl | exact trivial | exact kno (by omega))
  · have hz : z = 0 := by assumption
    have hb : b = 0 := by assumption
    subst hz
    have hi := i0.1 (by assumption)
    simp only [if_pos hb] at kpost
    rw [if_pos (by decide), if_pos (show (Z 0).isSome = true from hi)] at kpost
    exact c_copy_46_42 S0 hi (fun m' hc hf => ⟨Or.inr rfl, kpost m' ⟨S0.fr hf (by decide), hc, S2.fr hf (by decide)⟩ (hf.mono (by decide) (by decide))⟩)
  · have hz : z = 0 := by assumption
    have hb : b = 0 := by assumption
    subst hz
    have hi := i0.2 (by assumption)
    simp only [if_pos hb] at kpost
    rw [if_pos (by decide), if_neg (show ¬ (Z 0).isSome = true from fun e => Bool.false_ne_true (hi.symm.trans e))] at kpost
    exact kpost m hS Fr.rf
  · have hz : z = 1 := by assumption
    have hb : b = 0 := by assumption
    subst hz
    have hi := i0.1 (by assumption)
    simp only [if_pos hb] at kpost
    rw [if_pos (by decide), if_pos (show (Z 0).isSome = true from hi)] at kpost
    exact c_copy_50_42 S0 hi (fun m' hc hf => ⟨Or.inr rfl, kpost m' ⟨S0.fr hf (by decide), S1.fr hf (by decide), hc⟩ (hf.mono (by decide) (by decide))⟩)
  · have hz : z = 1 := by assumption
    have hb : b = 0 := by assumption
    subst hz
    have hi := i0.2 (by assumption)
    simp only [if_pos hb] at kpost
    rw [if_pos (by decide), if_neg (show ¬ (Z 0).isSome = true from fun e => Bool.false_ne_true (hi.symm.trans e))] at kpost
    exact kpost m hS Fr.rf
  · have hz : z = 0 := by assumption
    have hb : ¬ (b = 0) := by assumption
    subst hz
    have hi := i1.1 (by assumption)
    simp only [if_neg hb] at kpost
    rw [if_pos (by decide), if_pos (show (Z ((0 : Int).toNat + 1)).isSome = true from hi)] at kpost
    exact c_copy_42_46 S1 hi (fun m' hc hf => ⟨Or.inr rfl, kpost m' ⟨hc, S1.fr hf (by decide), S2.fr hf (by decide)⟩ (hf.mono (by decide) (by decide))⟩)
  · have hz : z = 0 := by assumption
    have hb : ¬ (b = 0) := by assumption
    subst hz
    have hi := i1.2 (by assumption)
    simp only [if_neg hb] at kpost
    rw [if_pos (by decide), if_neg (show ¬ (Z ((0 : Int).toNat + 1)).isSome = true from fun e => Bool.false_ne_true (hi.symm.trans e))] at kpost
    exact kpost m hS Fr.rf
  · have hz : z = 1 := by assumption
    have hb : ¬ (b = 0) := by assumption
    subst hz
    have hi := i2.1 (by assumption)
    simp only [if_neg hb] at kpost
    rw [if_pos (by decide), if_pos (show (Z ((1 : Int).toNat + 1)).isSome = true from hi)] at kpost
    exact c_copy_42_50 S2 hi (fun m' hc hf => ⟨Or.inr rfl, kpost m' ⟨hc, S1.fr hf (by decide), S2.fr hf (by decide)⟩ (hf.mono (by decide) (by decide))⟩)
  · have hz : z = 1 := by assumption
    have hb : ¬ (b = 0) := by assumption
    subst hz
    have hi := i2.2 (by assumption)
    simp only [if_neg hb] at kpost
    rw [if_pos (by decide), if_neg (show ¬ (Z ((1 : Int).toNat + 1)).isSome = true from fun e => Bool.false_ne_true (hi.symm.trans e))] at kpost
    exact kpost m hS Fr.rf
