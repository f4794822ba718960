/-! WHAT IS GIVEN: its changes -/
abbrev St : Type := Nat × (Nat → Int64) × (Nat → Nat) × (Nat → Nat)
def StOK (s : St) : Prop := s.1 ≤ 48 ∧ SOK s.2.2.2 ∧ ∀ k, k < s.1 → s.2.2.1 k < 2 ^ s.2.2.2 3
def SEq (s t : St) : Prop := s.1 = t.1 ∧ (∀ k, k < t.1 → s.2.1 k = t.2.1 k ∧ s.2.2.1 k = t.2.2.1 k) ∧ ∀ i, 1 ≤ i → i ≤ 6 → s.2.2.2 i = t.2.2.2 i
abbrev GS (m : am_M) (s : St) : Prop := GSt m s.1 s.2.1 s.2.2.1 s.2.2.2
abbrev MS (m : am_M) (s : St) : Prop := MSt m s.1 s.2.1 s.2.2.1 s.2.2.2
theorem GSt.ok {m : am_M} {s : St} (h : GS m s) : StOK s := ⟨h.2.1, h.2.2.2.2.2.1, h.2.2.2.2.2.2⟩
theorem MSt.ok {m : am_M} {s : St} (h : MS m s) : StOK s := ⟨h.2.1, h.2.2.2.2.2.1, h.2.2.2.2.2.2⟩
theorem SEq.sok {s t : St} (h : SEq s t) (ho : SOK t.2.2.2) : SOK s.2.2.2 := by
  obtain ⟨-, -, h3⟩ := h
  unfold SOK at *
  rw [h3 1 (by decide) (by decide), h3 2 (by decide) (by decide), h3 3 (by decide) (by decide), h3 4 (by decide) (by decide), h3 5 (by decide) (by decide), h3 6 (by decide) (by decide)]
  exact ho
theorem SEq.ok {s t : St} (h : SEq s t) (ho : StOK t) : StOK s := by
  refine ⟨h.1 ▸ ho.1, h.sok ho.2.1, fun k hk => ?_⟩
  rw [(h.2.1 k (h.1 ▸ hk)).2, h.2.2 3 (by decide) (by decide)]
  exact ho.2.2 k (h.1 ▸ hk)
theorem SEq.rf {s : St} : SEq s s := ⟨rfl, fun _ _ => ⟨rfl, rfl⟩, fun _ _ _ => rfl⟩
theorem GSt.eq {m : am_M} {s t : St} (h : GS m s) (he : SEq s t) (ho : StOK t) : GS m t := by
  obtain ⟨g1, g2, g3, g4, g5, -, -⟩ := h
  refine ⟨g1.trans (by rw [he.1]), ho.1, fun k hk => ?_, fun k hk => ?_, fun i h1 h2 => ?_, ho.2.1, ho.2.2⟩
  · rw [g3 k (by rw [he.1]; exact hk), (he.2.1 k hk).1]
  · rw [g4 k (by rw [he.1]; exact hk), (he.2.1 k hk).2]
  · rw [g5 i h1 h2, he.2.2 i h1 h2]
def sIns (s : St) (p : Nat) (x : Int64) (v : Nat) : St := (s.1 + 1, fun k => if k < p then s.2.1 k else if k = p then x else s.2.1 (k - 1), fun k => if k < p then s.2.2.1 k else if k = p then v else s.2.2.1 (k - 1), s.2.2.2)
def sDrop (s : St) (p : Nat) : St := (s.1 - 1, fun k => if k < p then s.2.1 k else s.2.1 (k + 1), fun k => if k < p then s.2.2.1 k else s.2.2.1 (k + 1), s.2.2.2)
def sTurn (s : St) (p v : Nat) : St := (s.1, s.2.1, fun k => if k = p then v else s.2.2.1 k, s.2.2.2)
def sSet (s : St) (i v : Nat) : St := (s.1, s.2.1, s.2.2.1, fun j => if j = i then v else s.2.2.2 j)
def slo (i : Nat) : Nat := if i = 1 ∨ i = 2 then 1 else 0
def shi (i : Nat) : Nat := if i = 1 then 32 else if i = 2 then 16 else if i = 3 then 8 else if i = 4 then 999999999 else 2
def SetOK (i v : Nat) : Prop := 1 ≤ i ∧ i ≤ 6 ∧ slo i ≤ v ∧ v ≤ shi i
theorem sSet_sok {S : Nat → Nat} {i v : Nat} (h : SOK S) (hs : SetOK i v) : SOK (fun j => if j = i then v else S j) := by
  obtain ⟨h1, h2, h3, h4, h5, h6⟩ := h
  obtain ⟨a, b, c, d⟩ := hs
  have : i = 1 ∨ i = 2 ∨ i = 3 ∨ i = 4 ∨ i = 5 ∨ i = 6 := by omega
  unfold SOK
  rcases this with e | e | e | e | e | e <;> subst e <;> simp [slo, shi] at c d ⊢ <;> omega
theorem c_insert {d : Nat} {P : am_M → Prop} {m : am_M} {s : St} {p v ch : Nat} {x : Int64} (hG : GS m s) (hc : m.1 1404 0 = ch) (hch : ch ≤ 100000000) (hp : p ≤ s.1) (hn : s.1 < 48) (ho : StOK (sIns s p x v)) (kpost : ∀ m' : am_M, GS m' (sIns s p x v) → m'.1 1404 0 = (ch + 1 : Nat) → Fr [6, 1403, 1404] [5] m m' → P m') : am_OkV (d + 1) 9 [.inr (.inr 4), .inl p, .inr (.inl x), .inl v] m P := by
  obtain ⟨g1, g2, g3, g4, g5, -, -⟩ := hG
  refine f_Given_insert_4 ?_
  rw [g1, hc]
  refine ⟨fun y => by omega, fun _ => ⟨fun y => by omega, fun _ => ⟨fun _ => ⟨am_RI (by omega) (by omega), am_RI (by omega) (by omega), by omega, by omega, by omega, by omega, by omega, am_RI (by omega) (by omega), am_RI (by omega) (by omega), by omega, by omega, by omega, by omega, by omega, by omega, by omega, by omega, by omega, am_RI (by omega) (by omega), am_RI (by omega) (by omega), ?_⟩, fun y => by omega⟩⟩⟩
  refine kpost _ ⟨?_, ho.1, fun k hk => ?_, fun k hk => ?_, fun i h1 h2 => ?_, ho.2.1, ho.2.2⟩ ?_ ((((((Fr.rf.ws2 (by decide)).ws1 (by decide)).wl (by decide)).wr (by decide)).wr (by decide)).wr (by decide))
  · rw [wr_ne _ _ _ (by decide), wr_at, if_pos rfl]; rfl
  · have hk : k < s.1 + 1 := hk
    rw [wr_2, wr_2, wr_2, wl_at, ws1_2, ws2_at]
    show _ = if k < p then s.2.1 k else if k = p then x else s.2.1 (k - 1)
    unfold am_cpy
    by_cases h1 : k < p
    · rw [if_neg (by omega), if_neg (by omega), if_pos h1]; exact g3 k (by omega)
    · by_cases h2 : k = p
      · rw [if_pos (by omega), if_neg h1, if_pos h2]
      · rw [if_neg (by omega), if_pos (by omega), if_neg h1, if_neg h2, show (p : Int) + ((k : Int) - ((p : Int) + 1)) = ((k - 1 : Nat) : Int) by omega]
        exact g3 (k - 1) (by omega)
  · have hk : k < s.1 + 1 := hk
    rw [wr_ne _ _ _ (by decide), wr_ne _ _ _ (by decide), wr_at, wl_1, ws1_at, ws2_1]
    show _ = ((if k < p then s.2.2.1 k else if k = p then v else s.2.2.1 (k - 1) : Nat) : Int)
    unfold am_cpy
    by_cases h1 : k < p
    · rw [if_neg (by omega), if_neg (by omega), if_pos h1]; exact g4 k (by omega)
    · by_cases h2 : k = p
      · rw [if_pos (by omega), if_neg h1, if_pos h2]
      · rw [if_neg (by omega), if_pos (by omega), if_neg h1, if_neg h2, show (p : Int) + ((k : Int) - ((p : Int) + 1)) = ((k - 1 : Nat) : Int) by omega]
        exact g4 (k - 1) (by omega)
  · rw [wr_ne _ _ _ (by decide), wr_ne _ _ _ (by decide), wr_ne _ _ _ (by decide), wl_1, ws1_ne _ _ (by decide), ws2_1]
    exact g5 i h1 h2
  · rw [wr_at, if_pos rfl]; rfl
theorem c_drop {d : Nat} {P : am_M → Prop} {m : am_M} {s : St} {p ch : Nat} (hG : GS m s) (hc : m.1 1404 0 = ch) (hch : ch ≤ 100000000) (hp : p < s.1) (ho : StOK (sDrop s p)) (kpost : ∀ m' : am_M, GS m' (sDrop s p) → m'.1 1404 0 = (ch + 1 : Nat) → Fr [6, 1403, 1404] [5] m m' → P m') : am_OkV (d + 2) 10 [.inr (.inr 4), .inl p] m P := by
  obtain ⟨g1, g2, g3, g4, g5, -, -⟩ := id hG
  refine f_Given_drop_4 (c_has hG (fun h => absurd (by omega) h) (fun _ _ => ⟨fun _ => ?_, fun y => absurd (by decide) y⟩))
  rw [g1, hc]
  refine ⟨am_RI (by omega) (by omega), am_RI (by omega) (by omega), am_RI (by omega) (by omega), by omega, by omega, by omega, by omega, by omega, am_RI (by omega) (by omega), am_RI (by omega) (by omega), by omega, by omega, by omega, by omega, by omega, am_RI (by omega) (by omega), ?_⟩
  refine kpost _ ⟨?_, ho.1, fun k hk => ?_, fun k hk => ?_, fun i h1 h2 => ?_, ho.2.1, ho.2.2⟩ ?_ ((((Fr.rf.wr (by decide)).ws2 (by decide)).ws1 (by decide)).wr (by decide))
  · rw [wr_ne _ _ _ (by decide), ws1_ne _ _ (by decide), ws2_1, wr_at, if_pos rfl]
    show (s.1 : Int) - 1 = ((s.1 - 1 : Nat) : Int)
    omega
  · have hk : k < s.1 - 1 := hk
    rw [wr_2, ws1_2, ws2_at]
    show _ = if k < p then s.2.1 k else s.2.1 (k + 1)
    unfold am_cpy
    rw [wr_2]
    by_cases h1 : k < p
    · rw [if_neg (by omega), if_pos h1]; exact g3 k (by omega)
    · rw [if_pos (by omega), if_neg h1, show (p : Int) + 1 + ((k : Int) - p) = ((k + 1 : Nat) : Int) by omega]
      exact g3 (k + 1) (by omega)
  · have hk : k < s.1 - 1 := hk
    rw [wr_ne _ _ _ (by decide), ws1_at, ws2_1, wr_ne _ _ _ (by decide)]
    show _ = ((if k < p then s.2.2.1 k else s.2.2.1 (k + 1) : Nat) : Int)
    unfold am_cpy
    by_cases h1 : k < p
    · rw [if_neg (by omega), if_pos h1]; exact g4 k (by omega)
    · rw [if_pos (by omega), if_neg h1, show (p : Int) + 1 + ((k : Int) - p) = ((k + 1 : Nat) : Int) by omega]
      exact g4 (k + 1) (by omega)
  · rw [wr_ne _ _ _ (by decide), ws1_ne _ _ (by decide), ws2_1, wr_ne _ _ _ (by decide)]
    exact g5 i h1 h2
  · rw [wr_at, if_pos rfl]; rfl
theorem c_revalue {d : Nat} {P : am_M → Prop} {m : am_M} {s : St} {p v ch : Nat} (hG : GS m s) (hc : m.1 1404 0 = ch) (hch : ch ≤ 100000000) (hp : p < s.1) (ho : StOK (sTurn s p v)) (kpost : ∀ m' : am_M, GS m' (sTurn s p v) → m'.1 1404 0 = (ch + 1 : Nat) → Fr [6, 1404] [] m m' → P m') : am_OkV (d + 2) 11 [.inr (.inr 4), .inl p, .inl v] m P := by
  obtain ⟨g1, g2, g3, g4, g5, -, -⟩ := id hG
  refine f_Given_revalue_4 (c_has hG (fun h => absurd (by omega) h) (fun _ _ => ⟨fun y => absurd y (by decide), fun _ => ?_⟩))
  rw [hc]
  refine ⟨by omega, by omega, am_RI (by omega) (by omega), ?_⟩
  refine kpost _ ⟨?_, ho.1, fun k hk => ?_, fun k hk => ?_, fun i h1 h2 => ?_, ho.2.1, ho.2.2⟩ ?_ ((Fr.rf.wr (by decide)).wr (by decide))
  · rw [wr_ne _ _ _ (by decide), wr_ne _ _ _ (by decide)]; exact g1
  · exact g3 k hk
  · rw [wr_ne _ _ _ (by decide), wr_at]
    show _ = ((if k = p then v else s.2.2.1 k : Nat) : Int)
    by_cases h1 : k = p
    · rw [if_pos (by omega), if_pos h1]
    · rw [if_neg (by omega), if_neg h1]; exact g4 k hk
  · rw [wr_ne _ _ _ (by decide), wr_ne _ _ _ (by decide)]; exact g5 i h1 h2
  · rw [wr_at, if_pos rfl]; rfl
theorem tab_lo : ∀ i : Nat, i < 7 → 1 ≤ i → am_tab 900 i = slo i := by decide
theorem tab_hi : ∀ i : Nat, i < 7 → 1 ≤ i → am_tab 901 i = shi i := by decide
theorem c_canBeSetting {d : Nat} {P : Int → am_M → Prop} {m : am_M} {i v : Int} (k0 : ¬ (0 ≤ i ∧ 0 ≤ v ∧ SetOK i.toNat v.toNat) → P 0 m) (k1 : 0 ≤ i → 0 ≤ v → SetOK i.toNat v.toNat → P 1 m) : am_OkI (d + 1) 15 [.inl i, .inl v] m P := by
  unfold SetOK at *
  refine f_Given_canBeSetting ⟨fun h => ⟨Or.inl rfl, k0 (by omega)⟩, fun h => ⟨fun h2 => ⟨Or.inl rfl, k0 (by omega)⟩, fun h2 => ⟨by omega, by omega, ?_⟩⟩⟩
  have e1 := tab_lo i.toNat (by omega) (by omega)
  have e2 := tab_hi i.toNat (by omega) (by omega)
  rw [show ((i.toNat : Nat) : Int) = i by omega] at e1 e2
  rw [e1, e2]
  refine ⟨fun h3 => ⟨Or.inl rfl, k0 (by omega)⟩, fun h3 => ⟨by omega, by omega, fun h4 => ⟨Or.inl rfl, k0 (by omega)⟩, fun h4 => ⟨Or.inr rfl, k1 (by omega) (by omega) (by omega)⟩⟩⟩
theorem c_resettle {d : Nat} {P : am_M → Prop} {m : am_M} {s : St} {i v ch : Nat} (hG : GS m s) (hc : m.1 1404 0 = ch) (hch : ch ≤ 100000000) (hs : SetOK i v) (ho : StOK (sSet s i v)) (kpost : ∀ m' : am_M, GS m' (sSet s i v) → m'.1 1404 0 = (ch + 1 : Nat) → Fr [7, 1404] [] m m' → P m') : am_OkV (d + 2) 12 [.inr (.inr 4), .inl i, .inl v] m P := by
  obtain ⟨g1, g2, g3, g4, g5, -, -⟩ := id hG
  refine f_Given_resettle_4 (c_canBeSetting (fun h => absurd ⟨by omega, by omega, hs⟩ h) (fun _ _ _ => ⟨fun y => absurd y (by decide), fun _ => ?_⟩))
  rw [hc]
  obtain ⟨s1, s2, -, -⟩ := hs
  refine ⟨by omega, by omega, am_RI (by omega) (by omega), ?_⟩
  refine kpost _ ⟨?_, ho.1, fun k hk => ?_, fun k hk => ?_, fun j h1 h2 => ?_, ho.2.1, ho.2.2⟩ ?_ ((Fr.rf.wr (by decide)).wr (by decide))
  · rw [wr_ne _ _ _ (by decide), wr_ne _ _ _ (by decide)]; exact g1
  · exact g3 k hk
  · rw [wr_ne _ _ _ (by decide), wr_ne _ _ _ (by decide)]; exact g4 k hk
  · rw [wr_ne _ _ _ (by decide), wr_at]
    show _ = ((if j = i then v else s.2.2.2 j : Nat) : Int)
    by_cases h3 : j = i
    · rw [if_pos (by omega), if_pos h3]
    · rw [if_neg (by omega), if_neg h3]; exact g5 j h1 h2
  · rw [wr_at, if_pos rfl]; rfl
theorem c_fitsBits {d : Nat} {P : Int → am_M → Prop} {m : am_M} {s : St} {b : Nat} (hG : GS m s) (hb : b ≤ 8) (k0 : ¬ (∀ k, k < s.1 → s.2.2.1 k < 2 ^ b) → P 0 m) (k1 : (∀ k, k < s.1 → s.2.2.1 k < 2 ^ b) → P 1 m) : am_OkI (d + 1) 14 [.inr (.inr 4), .inl b] m P := by
  obtain ⟨g1, g2, g3, g4, g5, -, -⟩ := id hG
  have main : ∀ (r k : Nat), k + r = s.1 → (∀ j, j < k → s.2.2.1 j < 2 ^ b) → am_GI (d + 1) 14 P 2 [(0, .inr (.inr 4)), (1, .inl b), (2, .inl k)] [] m := by
    intro r
    induction r with
    | zero =>
      intro k hk ha
      refine f_Given_fitsBits_4_2 ⟨fun _ => ⟨Or.inr rfl, k1 (fun j hj => ha j (by omega))⟩, fun y => ?_⟩
      rw [g1] at y; omega
    | succ r ih =>
      intro k hk ha
      refine f_Given_fitsBits_4_2 ⟨fun y => ?_, fun _ => ⟨by omega, by omega, ?_⟩⟩
      · rw [g1] at y; omega
      rw [g4 k (by omega), shl1 b (by omega)]
      refine ⟨fun h => ⟨am_RI (by omega) (by omega), ih (k + 1) (by omega) (fun j hj => ?_)⟩, fun h => ⟨Or.inl rfl, k0 (fun hh => h (by have := hh k (by omega); omega))⟩⟩
      by_cases e : j = k
      · subst e; omega
      · exact ha j (by omega)
  exact f_Given_fitsBits_4 (main s.1 0 (by omega) (fun j hj => absurd hj (by omega)))
