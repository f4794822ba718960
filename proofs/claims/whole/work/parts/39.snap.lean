/-! ACTS of the reference: snapshots -/
def Snap (m : am_M) (i : Nat) (s : St) : Prop := m.1 66 i = s.1 ∧ (∀ k : Nat, k < s.1 → m.2 59 (48 * i + k) = s.2.1 k ∧ m.1 62 (48 * i + k) = s.2.2.1 k) ∧ ∀ j : Nat, 1 ≤ j → j ≤ 6 → m.1 65 (7 * i + j) = s.2.2.2 j
def Kept (m : am_M) (L : List St) : Prop := m.1 6523 0 = L.length ∧ L.length ≤ 12 ∧ (∀ s ∈ L, StOK s) ∧ ∀ (j : Nat) (s : St), L[j]? = some s → Snap m (L.length - 1 - j) s
abbrev snF : List Nat := [62, 65, 66, 6523]
abbrev snF2 : List Nat := [59]
theorem Kept.fr {m m' : am_M} {L : List St} (h : Kept m L) {l1 l2 : List Nat} (hf : Fr l1 l2 m m') (h1 : 62 ∉ l1 ∧ 65 ∉ l1 ∧ 66 ∉ l1 ∧ 6523 ∉ l1 ∧ 59 ∉ l2) : Kept m' L := by
  unfold Kept Snap at *
  rw [hf.1 _ h1.1, hf.1 _ h1.2.1, hf.1 _ h1.2.2.1, hf.1 _ h1.2.2.2.1, hf.2 _ h1.2.2.2.2]; exact h
theorem r_snap {d : Nat} {P : am_M → Prop} {m : am_M} {cur : St} {L : List St} (hM : MS m cur) (hK : Kept m L) (kpost : ∀ m' : am_M, Kept m' ((cur :: L).take 12) → Fr snF snF2 m m' → P m') : am_OkV (d + 1) 141 [.inr (.inr 55)] m P := by
  obtain ⟨k1, k2, k3, k4⟩ := hK
  have hn := hM.2.1
  -- from 134 on: the new one is laid
  have lay : ∀ (q : Nat) (m1 : am_M), q < 12 → (q = if L.length = 12 then 11 else L.length) → Fr snF snF2 m m1 → m1.1 6523 0 = q → (∀ (j : Nat) (s : St), j < q → L[j]? = some s → Snap m1 (q - 1 - j) s) → am_GV (d + 1) 141 P 134 [(0, .inr (.inr 55)), (1, .inl 0)] [] m1 := by
    intro q m1 hq hqe hf1 hk1 hs1
    have hM1 := hM.fr hf1 (by decide)
    obtain ⟨g1, g2, g3, g4, g5, -, -⟩ := id hM1
    have l188 : ∀ (r x : Nat) (m2 : am_M), x + r = 7 → Fr snF snF2 m1 m2 → m2.1 6523 0 = q → m2.1 66 = m1.1 66 → (∀ k : Nat, k < cur.1 → m2.2 59 (48 * q + k) = cur.2.1 k ∧ m2.1 62 (48 * q + k) = cur.2.2.1 k) → (∀ w : Int, w < 48 * q → m2.2 59 w = m1.2 59 w ∧ m2.1 62 w = m1.1 62 w) →
        (∀ j : Nat, 1 ≤ j → j < x → m2.1 65 (7 * q + j) = cur.2.2.2 j) → (∀ w : Int, w < 7 * q → m2.1 65 w = m1.1 65 w) → am_GV (d + 1) 141 P 188 [(0, .inr (.inr 55)), (1, .inl x)] [] m2 := by
      intro r
      induction r with
      | zero =>
        intro x m2 hx hf2 hk2 h1 h2 h3 h4 h5
        have hM2 := hM1.fr hf2 (by decide)
        refine f_M_snap_188 ⟨fun _ => ?_, fun y => absurd (by omega) y⟩
        rw [hk2, hM2.1]
        refine ⟨by omega, by omega, am_RI (by omega) (by omega), ?_⟩
        have hlen : ((cur :: L).take 12).length = q + 1 := by
          rw [List.length_take, List.length_cons, hqe]
          split <;> omega
        refine kpost _ ⟨by rw [wr_at, if_pos rfl, hlen]; rfl, by omega, fun s hs => ?_, fun j s hj => ?_⟩ (hf1.tr1 ((hf2.wr (by decide)).wr (by decide)))
        · rcases List.mem_cons.mp (List.mem_of_mem_take hs) with e | e
          · exact e ▸ hM.ok
          · exact k3 s e
        · have hj12 : j < q + 1 := by
            have := (List.getElem?_eq_some_iff.mp hj).1
            omega
          rw [List.getElem?_take_of_lt (by omega)] at hj
          rw [hlen]
          cases j with
          | zero =>
            simp at hj
            subst hj
            refine ⟨?_, fun k hk => ⟨?_, ?_⟩, fun i i1 i2 => ?_⟩
            · rw [wr_ne _ _ _ (by decide), wr_at, if_pos (by omega)]
            · rw [show q + 1 - 1 - 0 = q by omega]; exact (h2 k hk).1
            · rw [wr_ne _ _ _ (by decide), wr_ne _ _ _ (by decide), show q + 1 - 1 - 0 = q by omega]; exact (h2 k hk).2
            · rw [wr_ne _ _ _ (by decide), wr_ne _ _ _ (by decide), show q + 1 - 1 - 0 = q by omega]; exact h4 i i1 (by omega)
          | succ j =>
            simp only [List.getElem?_cons_succ] at hj
            obtain ⟨a, b, c⟩ := hs1 j s (by omega) hj
            have hok := k3 s (List.mem_of_getElem? hj)
            have hsn := hok.1
            rw [show q + 1 - 1 - (j + 1) = q - 1 - j by omega]
            refine ⟨?_, fun k hk => ⟨?_, ?_⟩, fun i i1 i2 => ?_⟩
            · rw [wr_ne _ _ _ (by decide), wr_at, if_neg (by omega), h1]; exact a
            · rw [wr_2, wr_2, (h3 _ (by omega)).1]; exact (b k hk).1
            · rw [wr_ne _ _ _ (by decide), wr_ne _ _ _ (by decide), (h3 _ (by omega)).2]; exact (b k hk).2
            · rw [wr_ne _ _ _ (by decide), wr_ne _ _ _ (by decide), h5 _ (by omega)]; exact c i i1 i2
      | succ r ih =>
        intro x m2 hx hf2 hk2 h1 h2 h3 h4 h5
        have hM2 := hM1.fr hf2 (by decide)
        refine f_M_snap_188 ⟨fun y => by omega, fun _ => ?_⟩
        rw [hk2]
        refine ⟨am_RI (by omega) (by omega), am_RI (by omega) (by omega), by omega, by omega, by omega, by omega, am_RI (by omega) (by omega), ih (x + 1) _ (by omega) (hf2.wr (by decide)) ?_ ?_ (fun k hk => ?_) (fun w hw => ?_) (fun j j1 j2 => ?_) (fun w hw => ?_)⟩
        · rw [wr_ne _ _ _ (by decide)]; exact hk2
        · rw [wr_ne _ _ _ (by decide)]; exact h1
        · rw [wr_2, wr_ne _ _ _ (by decide)]; exact h2 k hk
        · rw [wr_2, wr_ne _ _ _ (by decide)]; exact h3 w hw
        · rw [wr_at]
          by_cases e : j = x
          · rw [if_pos (by omega), ← e]; exact hM2.2.2.2.2.1 j j1 (by omega)
          · rw [if_neg (by omega)]; exact h4 j j1 (by omega)
        · rw [wr_at, if_neg (by omega)]; exact h5 w hw
    have l134 : ∀ (r x : Nat) (m2 : am_M), x + r = 48 → Fr snF snF2 m1 m2 → m2.1 6523 0 = q → m2.1 66 = m1.1 66 → m2.1 65 = m1.1 65 → (∀ k : Nat, k < x → k < cur.1 → m2.2 59 (48 * q + k) = cur.2.1 k ∧ m2.1 62 (48 * q + k) = cur.2.2.1 k) → (∀ w : Int, w < 48 * q → m2.2 59 w = m1.2 59 w ∧ m2.1 62 w = m1.1 62 w) → am_GV (d + 1) 141 P 134 [(0, .inr (.inr 55)), (1, .inl x)] [] m2 := by
      intro r
      induction r with
      | zero =>
        intro x m2 hx hf2 hk2 h1 h6 h2 h3
        refine f_M_snap_134 ⟨fun _ => l188 7 0 m2 (by omega) hf2 hk2 h1 (fun k hk => h2 k (by omega) hk) h3 (fun j _ hj => absurd hj (by omega)) (fun w _ => by rw [h6]), fun y => absurd (by omega) y⟩
      | succ r ih =>
        intro x m2 hx hf2 hk2 h1 h6 h2 h3
        have hM2 := hM1.fr hf2 (by decide)
        refine f_M_snap_134 ⟨fun y => by omega, fun _ => ?_⟩
        rw [hk2]
        refine ⟨am_RI (by omega) (by omega), am_RI (by omega) (by omega), by omega, by omega, by omega, by omega, am_RI (by omega) (by omega), am_RI (by omega) (by omega), by omega, by omega, by omega, by omega, am_RI (by omega) (by omega), ih (x + 1) _ (by omega) ((hf2.wl (by decide)).wr (by decide)) ?_ ?_ ?_ (fun k j1 j2 => ?_) (fun w hw => ?_)⟩
        · rw [wr_ne _ _ _ (by decide), wl_1]; exact hk2
        · rw [wr_ne _ _ _ (by decide), wl_1]; exact h1
        · rw [wr_ne _ _ _ (by decide), wl_1]; exact h6
        · rw [wr_2, wl_at, wr_at]
          by_cases e : k = x
          · rw [if_pos (by omega), if_pos (by omega), ← e]
            exact ⟨hM2.2.2.1 k j2, hM2.2.2.2.1 k j2⟩
          · rw [if_neg (by omega), if_neg (by omega), wl_1]; exact h2 k (by omega) j2
        · rw [wr_2, wl_at, wr_at, if_neg (by omega), if_neg (by omega), wl_1]; exact h3 w hw
    exact l134 48 0 m1 (by omega) Fr.rf hk1 rfl rfl (fun k hk => absurd hk (by omega)) (fun w _ => ⟨rfl, rfl⟩)
  refine f_M_snap ?_
  rw [k1]
  refine ⟨fun h => ?_, fun h => ⟨am_RI (by omega) (by omega), ?_⟩⟩
  · exact lay L.length m (by omega) (by rw [if_neg (by omega)]) Fr.rf k1 (fun j s _ hj => k4 j s hj)
  · have hL : L.length = 12 := by omega
    rw [hL]
    rw [hL] at k4
    generalize hm0 : am_wr m 6523 (0 : Int) (((12 : Nat) : Int) - 1) = m0
    have hf0 : Fr snF snF2 m m0 := by rw [← hm0]; exact Fr.rf.wr (by decide)
    have hk0 : m0.1 6523 0 = (11 : Nat) := by rw [← hm0, wr_at, if_pos rfl]; rfl
    have e0 : m0.2 59 = m.2 59 ∧ m0.1 62 = m.1 62 ∧ m0.1 65 = m.1 65 ∧ m0.1 66 = m.1 66 := by
      rw [← hm0]
      exact ⟨rfl, wr_ne _ _ _ (by decide), wr_ne _ _ _ (by decide), wr_ne _ _ _ (by decide)⟩
    have l104 : ∀ (r x : Nat) (m2 : am_M), x + r = 11 → Fr snF snF2 m m2 → m2.1 6523 0 = (11 : Nat) → (∀ w : Nat, w < 528 → m2.2 59 w = m.2 59 ((w + 48 : Nat) : Int) ∧ m2.1 62 w = m.1 62 ((w + 48 : Nat) : Int)) → (∀ w : Nat, w < 77 → m2.1 65 w = m.1 65 ((w + 7 : Nat) : Int)) → (∀ w : Nat, w < x → m2.1 66 w = m.1 66 ((w + 1 : Nat) : Int)) → (∀ w : Nat, x ≤ w → m2.1 66 w = m.1 66 w) → am_GV (d + 1) 141 P 104 [(0, .inr (.inr 55)), (1, .inl x)] [] m2 := by
      intro r
      induction r with
      | zero =>
        intro x m2 hx hf2 hk2 h1 h2 h3 h4
        refine f_M_snap_104 ⟨fun _ => lay 11 m2 (by decide) (by rw [if_pos hL]) hf2 hk2 (fun j s hj hs => ?_), fun y => ?_⟩
        · obtain ⟨a, b, c⟩ := k4 j s hs
          have hsn := (k3 s (List.mem_of_getElem? hs)).1
          refine ⟨?_, fun k hk => ⟨?_, ?_⟩, fun i i1 i2 => ?_⟩
          · rw [h3 _ (by omega), show 11 - 1 - j + 1 = 12 - 1 - j by omega]; exact a
          · have := (b k hk).1
            rw [show 48 * ((11 - 1 - j : Nat) : Int) + (k : Int) = ((48 * (11 - 1 - j) + k : Nat) : Int) by omega, (h1 _ (by omega)).1, show ((48 * (11 - 1 - j) + k + 48 : Nat) : Int) = 48 * ((12 - 1 - j : Nat) : Int) + (k : Int) by omega]
            exact this
          · have := (b k hk).2
            rw [show 48 * ((11 - 1 - j : Nat) : Int) + (k : Int) = ((48 * (11 - 1 - j) + k : Nat) : Int) by omega, (h1 _ (by omega)).2, show ((48 * (11 - 1 - j) + k + 48 : Nat) : Int) = 48 * ((12 - 1 - j : Nat) : Int) + (k : Int) by omega]
            exact this
          · have := c i i1 i2
            rw [show 7 * ((11 - 1 - j : Nat) : Int) + (i : Int) = ((7 * (11 - 1 - j) + i : Nat) : Int) by omega, h2 _ (by omega), show ((7 * (11 - 1 - j) + i + 7 : Nat) : Int) = 7 * ((12 - 1 - j : Nat) : Int) + (i : Int) by omega]
            exact this
        · rw [hk2] at y; omega
      | succ r ih =>
        intro x m2 hx hf2 hk2 h1 h2 h3 h4
        refine f_M_snap_104 ⟨fun y => ?_, fun _ => ⟨am_RI (by omega) (by omega), by omega, by omega, by omega, by omega, am_RI (by omega) (by omega), ?_⟩⟩
        · rw [hk2] at y; omega
        refine ih (x + 1) _ (by omega) (hf2.wr (by decide)) (by rw [wr_ne _ _ _ (by decide)]; exact hk2) (fun w hw => by rw [wr_2, wr_ne _ _ _ (by decide)]; exact h1 w hw) (fun w hw => by rw [wr_ne _ _ _ (by decide)]; exact h2 w hw) (fun w hw => ?_) (fun w hw => ?_)
        · rw [wr_at]
          by_cases e : w = x
          · rw [if_pos (by omega), e]; exact h4 (x + 1) (by omega)
          · rw [if_neg (by omega)]; exact h3 w (by omega)
        · rw [wr_at, if_neg (by omega)]; exact h4 w (by omega)
    have l70 : ∀ (r x : Nat) (m2 : am_M), x + r = 77 → Fr snF snF2 m m2 → m2.1 6523 0 = (11 : Nat) → m2.1 66 = m.1 66 → (∀ w : Nat, w < 528 → m2.2 59 w = m.2 59 ((w + 48 : Nat) : Int) ∧ m2.1 62 w = m.1 62 ((w + 48 : Nat) : Int)) → (∀ w : Nat, w < x → m2.1 65 w = m.1 65 ((w + 7 : Nat) : Int)) → (∀ w : Nat, x ≤ w → m2.1 65 w = m.1 65 w) → am_GV (d + 1) 141 P 70 [(0, .inr (.inr 55)), (1, .inl x)] [] m2 := by
      intro r
      induction r with
      | zero =>
        intro x m2 hx hf2 hk2 h5 h1 h2 h3
        refine f_M_snap_70 ?_
        rw [hk2]
        exact ⟨am_RI (by omega) (by omega), fun _ => l104 11 0 m2 (by omega) hf2 hk2 h1 (fun w hw => h2 w (by omega)) (fun w hw => absurd hw (by omega)) (fun w _ => by rw [h5]), fun y => absurd (by omega) y⟩
      | succ r ih =>
        intro x m2 hx hf2 hk2 h5 h1 h2 h3
        refine f_M_snap_70 ?_
        rw [hk2]
        refine ⟨am_RI (by omega) (by omega), fun y => by omega, fun _ => ⟨am_RI (by omega) (by omega), by omega, by omega, by omega, by omega, am_RI (by omega) (by omega), ?_⟩⟩
        refine ih (x + 1) _ (by omega) (hf2.wr (by decide)) (by rw [wr_ne _ _ _ (by decide)]; exact hk2) (by rw [wr_ne _ _ _ (by decide)]; exact h5) (fun w hw => by rw [wr_2, wr_ne _ _ _ (by decide)]; exact h1 w hw) (fun w hw => ?_) (fun w hw => ?_)
        · rw [wr_at]
          by_cases e : w = x
          · rw [if_pos (by omega), e]; exact h3 (x + 7) (by omega)
          · rw [if_neg (by omega)]; exact h2 w (by omega)
        · rw [wr_at, if_neg (by omega)]; exact h3 w (by omega)
    have l21 : ∀ (r x : Nat) (m2 : am_M), x + r = 528 → Fr snF snF2 m m2 → m2.1 6523 0 = (11 : Nat) → m2.1 66 = m.1 66 → m2.1 65 = m.1 65 → (∀ w : Nat, w < x → m2.2 59 w = m.2 59 ((w + 48 : Nat) : Int) ∧ m2.1 62 w = m.1 62 ((w + 48 : Nat) : Int)) → (∀ w : Nat, x ≤ w → m2.2 59 w = m.2 59 w ∧ m2.1 62 w = m.1 62 w) → am_GV (d + 1) 141 P 21 [(0, .inr (.inr 55)), (1, .inl x)] [] m2 := by
      intro r
      induction r with
      | zero =>
        intro x m2 hx hf2 hk2 h5 h6 h1 h2
        refine f_M_snap_21 ?_
        rw [hk2]
        exact ⟨am_RI (by omega) (by omega), fun _ => l70 77 0 m2 (by omega) hf2 hk2 h5 (fun w hw => h1 w (by omega)) (fun w hw => absurd hw (by omega)) (fun w _ => by rw [h6]), fun y => absurd (by omega) y⟩
      | succ r ih =>
        intro x m2 hx hf2 hk2 h5 h6 h1 h2
        refine f_M_snap_21 ?_
        rw [hk2]
        refine ⟨am_RI (by omega) (by omega), fun y => by omega, fun _ => ⟨am_RI (by omega) (by omega), by omega, by omega, by omega, by omega, am_RI (by omega) (by omega), by omega, by omega, by omega, by omega, am_RI (by omega) (by omega), ?_⟩⟩
        refine ih (x + 1) _ (by omega) ((hf2.wl (by decide)).wr (by decide)) (by rw [wr_ne _ _ _ (by decide), wl_1]; exact hk2) (by rw [wr_ne _ _ _ (by decide), wl_1]; exact h5) (by rw [wr_ne _ _ _ (by decide), wl_1]; exact h6) (fun w hw => ?_) (fun w hw => ?_)
        · rw [wr_2, wl_at, wr_at]
          by_cases e : w = x
          · rw [if_pos (by omega), if_pos (by omega), e]; exact h2 (x + 48) (by omega)
          · rw [if_neg (by omega), if_neg (by omega), wl_1]; exact h1 w (by omega)
        · rw [wr_2, wl_at, wr_at, if_neg (by omega), if_neg (by omega), wl_1]; exact h2 w (by omega)
    exact l21 528 0 m0 (by omega) hf0 hk0 e0.2.2.2 e0.2.2.1 (fun w hw => absurd hw (by omega)) (fun w _ => by rw [e0.1, e0.2.1]; exact ⟨rfl, rfl⟩)
