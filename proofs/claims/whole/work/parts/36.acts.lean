/-! ACTS of the class: a ring of what undoes them -/
def slot (nx j : Nat) : Nat := if j < nx then nx - 1 - j else nx + 11 - j
def ActOK (kd p v : Nat) (s : St) : Prop := (kd = 0 ∧ p < s.1) ∨ (kd = 1 ∧ p ≤ s.1 ∧ s.1 < 48) ∨ (kd = 2 ∧ p < s.1) ∨ (kd = 3 ∧ SetOK p v)
def sInv (kd p : Nat) (x : Int64) (v : Nat) (s : St) : St := if kd = 0 then sDrop s p else if kd = 1 then sIns s p x v else if kd = 2 then sTurn s p v else sSet s p v
def ActAt (m : am_M) (i : Nat) (a b : St) : Prop := ∃ kd p v : Nat, m.1 13 i = kd ∧ m.1 14 i = p ∧ m.1 16 i = v ∧ ActOK kd p v a ∧ SEq (sInv kd p (m.2 15 i) v a) b
def Ring (m : am_M) (cur : St) (L : List St) : Prop := m.1 2205 0 = L.length ∧ L.length ≤ 12 ∧ (∀ s ∈ L, StOK s) ∧ ∃ nx : Nat, nx < 12 ∧ m.1 2204 0 = nx ∧ ∀ (j : Nat) (a b : St), (cur :: L)[j]? = some a → L[j]? = some b → ActAt m (slot nx j) a b
abbrev acF : List Nat := [13, 14, 16, 2204, 2205]
abbrev acF2 : List Nat := [15]
theorem Ring.fr {m m' : am_M} {cur : St} {L : List St} (h : Ring m cur L) {l1 l2 : List Nat} (hf : Fr l1 l2 m m') (h1 : 13 ∉ l1 ∧ 14 ∉ l1 ∧ 16 ∉ l1 ∧ 2204 ∉ l1 ∧ 2205 ∉ l1 ∧ 15 ∉ l2) : Ring m' cur L := by
  unfold Ring ActAt at *
  rw [hf.1 _ h1.1, hf.1 _ h1.2.1, hf.1 _ h1.2.2.1, hf.1 _ h1.2.2.2.1, hf.1 _ h1.2.2.2.2.1, hf.2 _ h1.2.2.2.2.2]; exact h
theorem c_note {d : Nat} {P : am_M → Prop} {m : am_M} {cur new : St} {L : List St} {kd p v : Nat} {x : Int64} (hR : Ring m cur L) (hcur : StOK cur) (ha : ActOK kd p v new) (he : SEq (sInv kd p x v new) cur)
    (kpost : ∀ m' : am_M, Ring m' new ((cur :: L).take 12) → Fr acF acF2 m m' → P m') : am_OkV (d + 1) 1 [.inr (.inr 12), .inl kd, .inl p, .inr (.inl x), .inl v] m P := by
  obtain ⟨r1, r2, r3, nx, r4, r5, r6⟩ := hR
  have key : ∀ (nx' : Int) (nn : Nat), nx' = nn → nn < 12 → (nn = if nx = 11 then 0 else nx + 1) → P (am_wr (am_wr (am_wr (am_wl (am_wr (am_wr m 13 (nx : Int) (kd : Int)) 14 (nx : Int) (p : Int)) 15 (nx : Int) x) 16 (nx : Int) (v : Int)) 2204 (0 : Int) nx') 2205 (0 : Int) (if (12 : Int) < ((L.length : Int) + (1 : Int)) then (12 : Int) else ((L.length : Int) + (1 : Int)))) := by
    intro nx' nn e1 e2 e3
    refine kpost _ ⟨?_, ?_, ?_, nn, e2, ?_, ?_⟩ ((((((Fr.rf.wr (by decide)).wr (by decide)).wl (by decide)).wr (by decide)).wr (by decide)).wr (by decide))
    · rw [wr_at, if_pos rfl, List.length_take, List.length_cons]
      split <;> omega
    · rw [List.length_take]; omega
    · intro s hs
      rcases List.mem_cons.mp (List.mem_of_mem_take hs) with e | e
      · exact e ▸ hcur
      · exact r3 s e
    · rw [wr_ne _ _ _ (by decide), wr_at, if_pos rfl]; exact e1
    · intro j a b ha' hb'
      have hj12 : j < 12 := by
        have := (List.getElem?_eq_some_iff.mp hb').1
        rw [List.length_take] at this
        omega
      rw [List.getElem?_take_of_lt hj12] at hb'
      have k1 : ∀ i : Nat, (am_wr (am_wr (am_wr (am_wl (am_wr (am_wr m 13 (nx : Int) (kd : Int)) 14 (nx : Int) (p : Int)) 15 (nx : Int) x) 16 (nx : Int) (v : Int)) 2204 (0 : Int) nx') 2205 (0 : Int) (if (12 : Int) < ((L.length : Int) + (1 : Int)) then (12 : Int) else ((L.length : Int) + (1 : Int)))).1 13 i = if i = nx then (kd : Int) else m.1 13 i := fun i => by
        rw [wr_ne _ _ _ (by decide), wr_ne _ _ _ (by decide), wr_ne _ _ _ (by decide), wl_1, wr_ne _ _ _ (by decide), wr_at]
        by_cases e : i = nx
        · rw [if_pos (by omega), if_pos e]
        · rw [if_neg (by omega), if_neg e]
      have k2 : ∀ i : Nat, (am_wr (am_wr (am_wr (am_wl (am_wr (am_wr m 13 (nx : Int) (kd : Int)) 14 (nx : Int) (p : Int)) 15 (nx : Int) x) 16 (nx : Int) (v : Int)) 2204 (0 : Int) nx') 2205 (0 : Int) (if (12 : Int) < ((L.length : Int) + (1 : Int)) then (12 : Int) else ((L.length : Int) + (1 : Int)))).1 14 i = if i = nx then (p : Int) else m.1 14 i := fun i => by
        rw [wr_ne _ _ _ (by decide), wr_ne _ _ _ (by decide), wr_ne _ _ _ (by decide), wl_1, wr_at]
        by_cases e : i = nx
        · rw [if_pos (by omega), if_pos e]
        · rw [if_neg (by omega), if_neg e, wr_ne _ _ _ (by decide)]
      have k3 : ∀ i : Nat, (am_wr (am_wr (am_wr (am_wl (am_wr (am_wr m 13 (nx : Int) (kd : Int)) 14 (nx : Int) (p : Int)) 15 (nx : Int) x) 16 (nx : Int) (v : Int)) 2204 (0 : Int) nx') 2205 (0 : Int) (if (12 : Int) < ((L.length : Int) + (1 : Int)) then (12 : Int) else ((L.length : Int) + (1 : Int)))).1 16 i = if i = nx then (v : Int) else m.1 16 i := fun i => by
        rw [wr_ne _ _ _ (by decide), wr_ne _ _ _ (by decide), wr_at]
        by_cases e : i = nx
        · rw [if_pos (by omega), if_pos e]
        · rw [if_neg (by omega), if_neg e, wl_1, wr_ne _ _ _ (by decide), wr_ne _ _ _ (by decide)]
      have k4 : ∀ i : Nat, (am_wr (am_wr (am_wr (am_wl (am_wr (am_wr m 13 (nx : Int) (kd : Int)) 14 (nx : Int) (p : Int)) 15 (nx : Int) x) 16 (nx : Int) (v : Int)) 2204 (0 : Int) nx') 2205 (0 : Int) (if (12 : Int) < ((L.length : Int) + (1 : Int)) then (12 : Int) else ((L.length : Int) + (1 : Int)))).2 15 i = if i = nx then x else m.2 15 i := fun i => by
        rw [wr_2, wr_2, wr_2, wl_at]
        by_cases e : i = nx
        · rw [if_pos (by omega), if_pos e]
        · rw [if_neg (by omega), if_neg e]; rfl
      unfold ActAt
      rw [k1, k2, k3, k4]
      cases j with
      | zero =>
        have hs : slot nn 0 = nx := by
          unfold slot
          rw [e3]
          split <;> split <;> omega
        rw [hs, if_pos rfl, if_pos rfl, if_pos rfl, if_pos rfl]
        simp at ha' hb'
        subst ha' hb'
        exact ⟨kd, p, v, rfl, rfl, rfl, ha, he⟩
      | succ j =>
        have hs : slot nn (j + 1) = slot nx j ∧ slot nx j ≠ nx := by
          unfold slot
          rw [e3]
          constructor
          · split <;> split <;> (try split) <;> omega
          · split <;> omega
        rw [hs.1, if_neg hs.2, if_neg hs.2, if_neg hs.2, if_neg hs.2]
        simp only [List.getElem?_cons_succ] at hb' ha'
        rw [List.getElem?_take_of_lt (by omega)] at ha'
        exact r6 j a b ha' hb'
  refine f_Acts_note ?_
  rw [r5, r1]
  refine ⟨by omega, by omega, by omega, by omega, by omega, by omega, by omega, by omega, am_RI (by omega) (by omega), fun h => ⟨am_RI (by omega) (by omega), ?_⟩, fun h => ⟨am_RI (by omega) (by omega), am_RI (by omega) (by omega), ?_⟩⟩
  · exact key 0 0 rfl (by decide) (by rw [if_pos (by omega)])
  · exact key _ (nx + 1) (by omega) (by omega) (by rw [if_neg (by omega)])
