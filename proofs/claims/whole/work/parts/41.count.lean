/-! count -/
def a_count (s : St) (L : List St) (tl : Nat) (o : Option Sv) (z : Int) : Int :=
  if 1 ≤ z ∧ z ≤ 6 then s.2.2.2 z.toNat else if z = 0 then s.1 else if z = 7 then L.length else if z = 8 then tl
  else if z = 9 then ((3 * s.2.2.2 1 : Nat) : Int) - (ptch (TT s.2.1 (s.2.2.2 4) (s.2.2.2 1) (s.2.2.2 6)) (fun _ => true) s.1 (3 * s.2.2.2 1) : Nat)
  else if z = 10 then (if o.isSome = true then 1 else 0) else -1
theorem c_count {d : Nat} {P : Int → am_M → Prop} {m : am_M} {s : St} {L : List St} {tl : Nat} {tb : Nat → Nat} {o : Option Sv} {z : Int} (hG : GS m s) (hR : Ring m s L) (hT : TapC m tl tb) (hS : CS0 m o) (kpost : ∀ m' : am_M, Fr CF CF2 m m' → P (a_count s L tl o z) m') : am_OkI (d + 6) 107 [.inr (.inr 0), .inl z] m P := by
  unfold a_count at kpost
  have hst := CSv.st hS
  have inner : ¬ (1 ≤ z ∧ z ≤ 6) → ((z = 0 → (P (m.1 1403 (0 : Int)) m)) ∧ (z = 7 → (P (m.1 2205 (0 : Int)) m)) ∧ (z = 8 → (P (m.1 1101 (0 : Int)) m)) ∧ (z = 9 → (am_OkV (d + 5) 109 [.inr (.inr 0)] m (fun m1 => am_OkI (d + 5) 57 [.inr (.inr 20)] m1 (fun z3 m2 => am_R ((m1.1 3008 (0 : Int)) - z3) ∧ (P ((m1.1 3008 (0 : Int)) - z3) m2))))) ∧ (z = 10 → (((m.1 5203 (0 : Int)) = (0 : Int) → (P (0 : Int) m)) ∧ (¬ ((m.1 5203 (0 : Int)) = (0 : Int)) → (P (1 : Int) m)))) ∧ (z ≠ 10 → z ≠ 9 → z ≠ 8 → z ≠ 7 → z ≠ 0 → (P (-1 : Int) m))) := by
    intro h
    rw [if_neg h] at kpost
    refine ⟨fun e => ?_, fun e => ?_, fun e => ?_, fun e => ?_, fun e => ?_, fun e1 e2 e3 e4 e5 => ?_⟩
    · rw [if_pos e] at kpost; rw [hG.1]; exact kpost m Fr.rf
    · rw [if_neg (by omega), if_pos e] at kpost; rw [hR.1]; exact kpost m Fr.rf
    · rw [if_neg (by omega), if_neg (by omega), if_pos e] at kpost; rw [hT.1]; exact kpost m Fr.rf
    · rw [if_neg (by omega), if_neg (by omega), if_neg (by omega), if_pos e] at kpost
      refine c_layNow hG (fun m1 hL hD _ hf => c_countTouched hL hD ?_)
      have hle : ptch (TT s.2.1 (s.2.2.2 4) (s.2.2.2 1) (s.2.2.2 6)) (fun _ => true) s.1 (3 * s.2.2.2 1) ≤ 3 * s.2.2.2 1 := ptch_le
      have hN := hL.2.2.2.1
      rw [hL.2.1]
      exact ⟨am_RI (by omega) (by omega), kpost m1 hf⟩
    · rw [if_neg (by omega), if_neg (by omega), if_neg (by omega), if_neg (by omega), if_pos e] at kpost
      rw [hst]
      cases ho : o.isSome with
      | true => rw [ho] at kpost; exact ⟨fun y => absurd y (by decide), fun _ => kpost m Fr.rf⟩
      | false => rw [ho] at kpost; exact ⟨fun _ => kpost m Fr.rf, fun y => absurd rfl y⟩
    · rw [if_neg e5, if_neg e4, if_neg e3, if_neg e2, if_neg e1] at kpost; exact kpost m Fr.rf
  refine f_T_count ⟨fun h => inner (by omega), fun h => ⟨fun h2 => inner (by omega), fun h2 => ⟨by omega, by omega, ?_⟩⟩⟩
  rw [if_pos (by omega)] at kpost
  have := hG.set (i := z.toNat) (by omega) (by omega)
  rw [show ((z.toNat : Nat) : Int) = z by omega] at this
  rw [this]; exact kpost m Fr.rf
theorem r_count {d : Nat} {P : Int → am_M → Prop} {m : am_M} {s : St} {L : List St} {tl : Nat} {tb : Nat → Nat} {o : Option Sv} {z : Int} (hM : MS m s) (hK : Kept m L) (hT : TapR m tl tb) (hS : RSv m 0 o) (kpost : ∀ m' : am_M, Fr MF MF2 m m' → P (a_count s L tl o z) m') : am_OkI (d + 6) 193 [.inr (.inr 55), .inl z] m P := by
  unfold a_count at kpost
  have hf0 : Fr MF MF2 m (am_wr m 6500 0 0) := Fr.rf.wr (by decide)
  have hM0 := hM.fr hf0 (by decide)
  have hK0 := hK.fr hf0 (by decide)
  have hT0 := hT.fr hf0 (by decide)
  have hst := RSv.st (hS.fr hf0 (by decide))
  refine f_M_count (r_isIn (fun h => ⟨fun _ => ?_, fun y => absurd rfl y⟩) (fun h1 h2 => ⟨fun y => absurd y (by decide), fun _ => ⟨by omega, by omega, ?_⟩⟩))
  · rw [if_neg h] at kpost
    refine ⟨fun e => ?_, fun e => ?_, fun e => ?_, fun e => ?_, fun e => ⟨by decide, by decide, ?_⟩, fun e1 e2 e3 e4 e5 => ?_⟩
    · rw [if_pos e] at kpost; rw [hM0.1]; exact kpost _ hf0
    · rw [if_neg (by omega), if_pos e] at kpost; rw [hK0.1]; exact kpost _ hf0
    · rw [if_neg (by omega), if_neg (by omega), if_pos e] at kpost; rw [hT0.1]; exact kpost _ hf0
    · rw [if_neg (by omega), if_neg (by omega), if_neg (by omega), if_pos e] at kpost
      exact r_emptyCells hM0 (fun m1 hf => kpost m1 (hf0.tr1 hf))
    · rw [if_neg (by omega), if_neg (by omega), if_neg (by omega), if_neg (by omega), if_pos e] at kpost
      rw [show ((am_wr m 6500 0 0).1 86 (0 : Int)) = if o.isSome = true then 1 else 0 from hst]
      cases ho : o.isSome with
      | true => rw [ho] at kpost; exact ⟨fun y => absurd y (by decide), fun _ => kpost _ hf0⟩
      | false => rw [ho] at kpost; exact ⟨fun _ => kpost _ hf0, fun y => absurd rfl y⟩
    · rw [if_neg e5, if_neg e4, if_neg e3, if_neg e2, if_neg e1] at kpost; exact kpost _ hf0
  · rw [if_pos ⟨h1, h2⟩] at kpost
    have := hM0.set (i := z.toNat) (by omega) (by omega)
    rw [show ((z.toNat : Nat) : Int) = z by omega] at this
    rw [this]; exact kpost _ hf0
