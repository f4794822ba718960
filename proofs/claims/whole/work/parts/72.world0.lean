/-! THE START: the first memory and its world (written by wip/gen72.py) -/
def am_m0 : am_M := (fun id z => if id = 7 then am_tab 902 z else if id = 11 then am_tab 902 z else if id = 63 then am_tab 902 z else if id = 4802 then -1 else 0, fun _ _ => 0)
theorem tab_R (z : Int) : am_R (am_tab 902 z) := by
  show am_R (am_untT.getD z.toNat 0)
  rcases z.toNat with _ | _ | _ | _ | _ | _ | _ | n
  all_goals first | exact ⟨by decide, by decide⟩ | (show am_R 0; exact ⟨by decide, by decide⟩)
theorem m0_MR : am_MR am_m0 := by
  intro id z
  have h0 : ∀ r, am_In r 0 := fun r => by
    unfold am_In
    split
    · exact Or.inl rfl
    · exact ⟨by decide, by decide⟩
    · exact ⟨by decide, by decide⟩
  show am_In (am_rg id) (if id = 7 then am_tab 902 z else if id = 11 then am_tab 902 z else if id = 63 then am_tab 902 z else if id = 4802 then -1 else 0)
  by_cases h7 : id = 7
  · subst h7; exact tab_R z
  · rw [if_neg h7]
    by_cases h11 : id = 11
    · subst h11; exact tab_R z
    · rw [if_neg h11]
      by_cases h63 : id = 63
      · subst h63; exact tab_R z
      · rw [if_neg h63]
        by_cases h48 : id = 4802
        · subst h48; exact ⟨by decide, by decide⟩
        · rw [if_neg h48]; exact h0 _
theorem m0_CI : CI am_m0 sNew [] 0 (fun _ => 0) (fun _ => none) 0 0 := by
  refine ⟨⟨rfl, by decide, fun k hk => absurd hk (Nat.not_lt_zero k), fun k hk => absurd hk (Nat.not_lt_zero k), fun i h1 h2 => ?_, sNew_ok.2.1, fun k hk => absurd hk (Nat.not_lt_zero k)⟩, ⟨rfl, by decide, fun _ h => (by cases h), 0, by decide, rfl, fun j a b h1 h2 => (by simp at h2)⟩, ⟨rfl, by decide, fun i hi => absurd hi (Nat.not_lt_zero i)⟩, ⟨rfl, rfl, rfl⟩, ⟨by decide, fun h => absurd h (by decide)⟩, rfl, rfl⟩
  obtain rfl | rfl | rfl | rfl | rfl | rfl : i = 1 ∨ i = 2 ∨ i = 3 ∨ i = 4 ∨ i = 5 ∨ i = 6 := by omega
  all_goals rfl
theorem m0_RI : RI am_m0 sNew [] 0 (fun _ => 0) (fun _ => none) := by
  refine ⟨⟨rfl, by decide, fun k hk => absurd hk (Nat.not_lt_zero k), fun k hk => absurd hk (Nat.not_lt_zero k), fun i h1 h2 => ?_, sNew_ok.2.1, fun k hk => absurd hk (Nat.not_lt_zero k)⟩, ⟨rfl, by decide, fun _ h => (by cases h), fun j a h => (by simp at h)⟩, ⟨rfl, by decide, fun i hi => absurd hi (Nat.not_lt_zero i)⟩, ⟨rfl, rfl, rfl⟩⟩
  obtain rfl | rfl | rfl | rfl | rfl | rfl : i = 1 ∨ i = 2 ∨ i = 3 ∨ i = 4 ∨ i = 5 ∨ i = 6 := by omega
  all_goals rfl
theorem m0_LI : LI am_m0 0 := ⟨sNew, [], 0, fun _ => 0, fun _ => none, 0, 0, Nat.le_refl _, Nat.le_refl _, m0_CI, m0_RI⟩
theorem D_addr {A : Nat → Prop} {w w' : va_W} (h : w.map (fun q => q.1) = w'.map (fun q => q.1)) (hD : va_D A w) : va_D A w' := by
  have key : ∀ (i : Nat) (q : Nat × va_E), w'[i]? = some q → ∃ q0, w[i]? = some q0 ∧ q0.1 = q.1 := fun i q hq => by
    have h1 : (w'.map (fun q => q.1))[i]? = some q.1 := by rw [List.getElem?_map, hq]; rfl
    rw [← h, List.getElem?_map] at h1
    cases hw : w[i]? with
    | none => rw [hw] at h1; cases h1
    | some q0 => rw [hw] at h1; exact ⟨q0, rfl, Option.some.inj h1⟩
  refine ⟨fun i j p q hi hj hpq => ?_, fun k q hq => ?_⟩
  · obtain ⟨p0, g1, g2⟩ := key i p hi
    obtain ⟨q0, g3, g4⟩ := key j q hj
    exact hD.1 i j p0 q0 g1 g3 (by rw [g2, g4]; exact hpq)
  · obtain ⟨q0, g1, g2⟩ := key k q hq
    rw [← g2]
    exact hD.2 k q0 g1
def adF (q0 : Nat) (u0 : Nat → Nat) (q1 : Nat) (u1 : Nat → Nat) (q2 b tl th t0 : Nat) (adK : Nat → Nat) : Nat → Nat := fun q => if q = 0 then q0 else if q < 55 then u0 q else if q = 55 then q1 else if q < 87 then u1 (q - 56) else if q = 87 then q2 else if q = 800 then b else if q = 900 then tl else if q = 901 then th else if q = 902 then t0 else adK (q - 1000)
abbrev w1_all (I : Nat → ClassId) (q0 : Nat) (u0 : Nat → Nat) (q1 : Nat) (u1 : Nat → Nat) (q2 : Nat) : va_W := (w1_TS I q0 u0 ++ w1_Mo I q1 u1) ++ [(q2, .inl (I 103, (1, .inr (.inl (fun _ => 0)))))]
section
variable {D : va_G} {I : Nat → ClassId} {q0 : Nat} {u0 : Nat → Nat} {q1 : Nat} {u1 : Nat → Nat} {q2 b tl th t0 : Nat} {adK : Nat → Nat} {sc : Nat × (Nat → Int32)} {adV : Nat → Nat} {H : Heap} {A : Nat → Prop}
theorem w_D (hD : va_D A (w1_all I q0 u0 q1 u1 q2)) : va_D A (am_ws (D, I, adF q0 u0 q1 u1 q2 b tl th t0 adK, sc, adV) am_m0) := by
  refine D_addr (w := [0, 1, 2, 3, 4, 5, 6, 7, 8, 9, 10, 11, 12, 13, 14, 15, 16, 17, 18, 19, 20, 21, 22, 23, 24, 25, 26, 27, 28, 29, 30, 31, 32, 33, 34, 35, 36, 37, 38, 39, 40, 41, 42, 43, 44, 45, 47, 48, 49, 50, 51, 52, 53, 54, 46, 55, 56, 57, 58, 59, 60, 61, 62, 63, 64, 65, 66, 67, 68, 69, 70, 71, 72, 73, 74, 75, 76, 77, 78, 79, 80, 81, 82, 83, 84, 85, 86, 87].filterMap (fun i => (w1_all I q0 u0 q1 u1 q2)[i]?)) rfl (hD.sub [0, 1, 2, 3, 4, 5, 6, 7, 8, 9, 10, 11, 12, 13, 14, 15, 16, 17, 18, 19, 20, 21, 22, 23, 24, 25, 26, 27, 28, 29, 30, 31, 32, 33, 34, 35, 36, 37, 38, 39, 40, 41, 42, 43, 44, 45, 47, 48, 49, 50, 51, 52, 53, 54, 46, 55, 56, 57, 58, 59, 60, 61, 62, 63, 64, 65, 66, 67, 68, 69, 70, 71, 72, 73, 74, 75, 76, 77, 78, 79, 80, 81, 82, 83, 84, 85, 86, 87] rfl rfl)
theorem w_P (hP : va_P D vwCl (w1_all I q0 u0 q1 u1 q2) H) : va_P D vwCl (am_ws (D, I, adF q0 u0 q1 u1 q2 b tl th t0 adK, sc, adV) am_m0) H := by
  intro k y hy
  have hk : k < am_N := by
    have := (List.getElem?_eq_some_iff.mp hy).1
    unfold am_ws at this
    rw [List.length_map, List.length_range] at this
    exact this
  rw [am_ws_get _ _ hk] at hy
  cases hy
  match k, hk with
  | 0, _ => exact hP 0 _ rfl
  | 1, _ => exact hP 1 _ rfl
  | 2, _ => exact hP 2 _ rfl
  | 3, _ => exact hP 3 _ rfl
  | 4, _ => exact hP 4 _ rfl
  | 5, _ => exact hP 5 _ rfl
  | 6, _ => exact hP 6 _ rfl
  | 7, _ => exact hP 7 _ rfl
  | 8, _ => exact hP 8 _ rfl
  | 9, _ => exact hP 9 _ rfl
  | 10, _ => exact hP 10 _ rfl
  | 11, _ => exact hP 11 _ rfl
  | 12, _ => exact hP 12 _ rfl
  | 13, _ => exact hP 13 _ rfl
  | 14, _ => exact hP 14 _ rfl
  | 15, _ => exact hP 15 _ rfl
  | 16, _ => exact hP 16 _ rfl
  | 17, _ => exact hP 17 _ rfl
  | 18, _ => exact hP 18 _ rfl
  | 19, _ => exact hP 19 _ rfl
  | 20, _ => exact hP 20 _ rfl
  | 21, _ => exact hP 21 _ rfl
  | 22, _ => exact hP 22 _ rfl
  | 23, _ => exact hP 23 _ rfl
  | 24, _ => exact hP 24 _ rfl
  | 25, _ => exact hP 25 _ rfl
  | 26, _ => exact hP 26 _ rfl
  | 27, _ => exact hP 27 _ rfl
  | 28, _ => exact hP 28 _ rfl
  | 29, _ => exact hP 29 _ rfl
  | 30, _ => exact hP 30 _ rfl
  | 31, _ => exact hP 31 _ rfl
  | 32, _ => exact hP 32 _ rfl
  | 33, _ => exact hP 33 _ rfl
  | 34, _ => exact hP 34 _ rfl
  | 35, _ => exact hP 35 _ rfl
  | 36, _ => exact hP 36 _ rfl
  | 37, _ => exact hP 37 _ rfl
  | 38, _ => exact hP 38 _ rfl
  | 39, _ => exact hP 39 _ rfl
  | 40, _ => exact hP 40 _ rfl
  | 41, _ => exact hP 41 _ rfl
  | 42, _ => exact hP 42 _ rfl
  | 43, _ => exact hP 43 _ rfl
  | 44, _ => exact hP 44 _ rfl
  | 45, _ => exact hP 45 _ rfl
  | 46, _ => exact hP 47 _ rfl
  | 47, _ => exact hP 48 _ rfl
  | 48, _ => exact hP 49 _ rfl
  | 49, _ => exact hP 50 _ rfl
  | 50, _ => exact hP 51 _ rfl
  | 51, _ => exact hP 52 _ rfl
  | 52, _ => exact hP 53 _ rfl
  | 53, _ => exact hP 54 _ rfl
  | 54, _ =>
    have h : H[u0 54]? = some (arrV (I 104) 2 (fun j => va_rf (va_up (va_up (fun _ => none) 0 (some (u0 46))) 1 (some (u0 50)) j))) := hP 46 _ rfl
    show H[u0 54]? = some (arrV (I 104) 2 (fun j => va_rf (some (am_ad (D, I, adF q0 u0 q1 u1 q2 b tl th t0 adK, sc, adV) ((am_lay 54).2.getD j (0, 0)).1))))
    rw [h]
    refine congrArg some (arrV_cong (fun j hj => ?_))
    obtain rfl | rfl : j = 0 ∨ j = 1 := by omega
    all_goals rfl
  | 55, _ => exact hP 55 _ rfl
  | 56, _ => exact hP 56 _ rfl
  | 57, _ => exact hP 57 _ rfl
  | 58, _ => exact hP 58 _ rfl
  | 59, _ => exact hP 59 _ rfl
  | 60, _ => exact hP 60 _ rfl
  | 61, _ => exact hP 61 _ rfl
  | 62, _ => exact hP 62 _ rfl
  | 63, _ => exact hP 63 _ rfl
  | 64, _ => exact hP 64 _ rfl
  | 65, _ => exact hP 65 _ rfl
  | 66, _ => exact hP 66 _ rfl
  | 67, _ => exact hP 67 _ rfl
  | 68, _ => exact hP 68 _ rfl
  | 69, _ => exact hP 69 _ rfl
  | 70, _ => exact hP 70 _ rfl
  | 71, _ => exact hP 71 _ rfl
  | 72, _ => exact hP 72 _ rfl
  | 73, _ => exact hP 73 _ rfl
  | 74, _ => exact hP 74 _ rfl
  | 75, _ => exact hP 75 _ rfl
  | 76, _ => exact hP 76 _ rfl
  | 77, _ => exact hP 77 _ rfl
  | 78, _ => exact hP 78 _ rfl
  | 79, _ => exact hP 79 _ rfl
  | 80, _ => exact hP 80 _ rfl
  | 81, _ => exact hP 81 _ rfl
  | 82, _ => exact hP 82 _ rfl
  | 83, _ => exact hP 83 _ rfl
  | 84, _ => exact hP 84 _ rfl
  | 85, _ => exact hP 85 _ rfl
  | 86, _ => exact hP 86 _ rfl
  | 87, _ => exact hP 87 _ rfl
  | n + 88, h => exact absurd h (by show ¬ n + 88 < 88; omega)
end
