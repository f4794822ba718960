/-! CALLS of the reference that are ACTS -/
abbrev mvF : List Nat := [60, 63, 6521]
abbrev mvF2 : List Nat := [57]
theorem r_add {d : Nat} {P : Int → am_M → Prop} {m : am_M} {s : St} {L : List St} {x : Int64} {v : Int} (hM : MS m s) (hK : Kept m L)
    (kn : ∀ m' : am_M, (a_add s x v).2 = none → Fr MF MF2 m m' → P (a_add s x v).1 m')
    (ks : ∀ (m' : am_M) (t : St), (a_add s x v).2 = some t → MS m' t → Kept m' ((s :: L).take 12) → Fr (MF ++ snF ++ mvF) (MF2 ++ snF2 ++ mvF2) m m' → P (a_add s x v).1 m') : am_OkI (d + 3) 145 [.inr (.inr 55), .inr (.inl x), .inl v] m P := by
  unfold a_add at *
  have hf0 : Fr MF MF2 m (am_wr m 6500 0 0) := Fr.rf.wr (by decide)
  have hM0 := hM.fr hf0 (by decide)
  have hK0 := hK.fr hf0 (by decide)
  have hn := hM.2.1
  refine f_M_add ?_
  rw [hM.1]
  refine ⟨fun h => ?_, fun h => r_isValue hM0 (fun h2 => ⟨fun y => absurd rfl y, fun _ => ?_⟩) (fun h2 h3 => ⟨fun _ => r_indexOf hM0 ⟨fun h4 => ?_, fun h4 => ?_⟩, fun y => absurd (by decide) y⟩)⟩
  · rw [if_pos (Or.inl (by omega))] at kn; exact kn _ rfl hf0
  · rw [if_pos (Or.inr h2)] at kn; exact kn _ rfl hf0
  · rw [if_neg (by omega), if_neg (fun y => y h4)] at ks
    refine r_snap hM0 hK0 (fun m5 hK5 hf5 => ?_)
    have hM5 := hM0.fr hf5 (by decide)
    rw [hM5.1]
    obtain ⟨g1, g2, g3, g4, g5, -, -⟩ := id hM5
    have hok := ok_ins (x := x) hM.ok (by omega) (Nat.le_refl s.1) (show v.toNat < 2 ^ s.2.2.2 3 by omega)
    have hf6 : Fr mvF mvF2 m5 (am_wr (am_wr (am_wl m5 57 (s.1 : Int) x) 60 (s.1 : Int) v) 6521 (0 : Int) ((s.1 : Int) + 1)) := ((Fr.rf.wl (by decide)).wr (by decide)).wr (by decide)
    refine ⟨by omega, by omega, by omega, by omega, am_RI (by omega) (by omega), ks _ _ rfl ⟨?_, hok.1, fun k hk => ?_, fun k hk => ?_, fun i i1 i2 => ?_, hok.2.1, hok.2.2⟩ (hK5.fr hf6 (by decide)) (((hf0.tr hf5 (by decide) (by decide) (by decide) (by decide) : Fr (MF ++ snF) (MF2 ++ snF2) m m5)).tr hf6 (by decide) (by decide) (by decide) (by decide))⟩
    · rw [wr_at, if_pos rfl]; rfl
    · have hk : k < s.1 + 1 := hk
      rw [wr_2, wr_2, wl_at]
      show _ = if k < s.1 then s.2.1 k else if k = s.1 then x else s.2.1 (k - 1)
      by_cases e : k = s.1
      · rw [if_pos (by omega), if_neg (by omega), if_pos e]
      · rw [if_neg (by omega), if_pos (by omega)]; exact g3 k (by omega)
    · have hk : k < s.1 + 1 := hk
      rw [wr_ne _ _ _ (by decide), wr_at]
      show _ = ((if k < s.1 then s.2.2.1 k else if k = s.1 then v.toNat else s.2.2.1 (k - 1) : Nat) : Int)
      by_cases e : k = s.1
      · rw [if_pos (by omega), if_neg (by omega), if_pos e]; omega
      · rw [if_neg (by omega), if_pos (by omega)]; exact g4 k (by omega)
    · rw [wr_ne _ _ _ (by decide), wr_ne _ _ _ (by decide)]; exact g5 i i1 i2
  · rw [if_neg (by omega), if_pos h4] at kn; exact kn _ rfl hf0
theorem r_gone {d : Nat} {P : Int → am_M → Prop} {m : am_M} {s : St} {L : List St} {x : Int64} (hM : MS m s) (hK : Kept m L)
    (kn : ∀ m' : am_M, (a_gone s x).2 = none → Fr MF MF2 m m' → P (a_gone s x).1 m')
    (ks : ∀ (m' : am_M) (t : St), (a_gone s x).2 = some t → MS m' t → Kept m' ((s :: L).take 12) → Fr (MF ++ snF ++ mvF) (MF2 ++ snF2 ++ mvF2) m m' → P (a_gone s x).1 m') : am_OkI (d + 3) 146 [.inr (.inr 55), .inr (.inl x)] m P := by
  unfold a_gone at *
  have hf0 : Fr MF MF2 m (am_wr m 6500 0 0) := Fr.rf.wr (by decide)
  have hM0 := hM.fr hf0 (by decide)
  have hK0 := hK.fr hf0 (by decide)
  have hn := hM.2.1
  refine f_M_gone (r_indexOf hM0 ⟨fun h => ?_, fun h => ?_⟩)
  · rw [if_neg h] at ks
    obtain ⟨p, e1, e2, e3, e4⟩ := pfd_spec h
    rw [e1] at ks ⊢
    have e3 : p < s.1 := by omega
    have ks := fun m' => ks m' _ rfl
    rw [show ((p : Nat) : Int).toNat = p by omega] at ks
    refine r_snap hM0 hK0 (fun m5 hK5 hf5 => ?_)
    have hM5 := hM0.fr hf5 (by decide)
    rw [hM5.1]
    refine ⟨am_RI (by omega) (by omega), ?_⟩
    obtain ⟨g1, g2, g3, g4, g5, -, -⟩ := id hM5
    have hok := ok_drop hM.ok e3
    have main : ∀ (r k : Nat) (m6 : am_M), k + r = s.1 - 1 → p ≤ k → Fr mvF mvF2 m5 m6 → m6.1 6521 0 = ((s.1 - 1 : Nat) : Int) → (∀ j : Nat, j < k → m6.2 57 j = (sDrop s p).2.1 j ∧ m6.1 60 j = (sDrop s p).2.2.1 j) → (∀ j : Nat, k ≤ j → j < s.1 → m6.2 57 j = s.2.1 j ∧ m6.1 60 j = s.2.2.1 j) → (m6.1 63 = m5.1 63) → am_GI (d + 3) 146 P 35 [(0, .inr (.inr 55)), (3, .inl p), (4, .inl k)] [] m6 := by
      intro r
      induction r with
      | zero =>
        intro k m6 hk hpk hf6 hm6 h1 h2 h3
        refine f_M_gone_35 ?_
        rw [hm6]
        refine ⟨fun _ => ?_, fun y => absurd (by omega) y⟩
        refine ks m6 ⟨hm6, hok.1, fun j hj => (h1 j (by have hj : j < s.1 - 1 := hj; omega)).1, fun j hj => (h1 j (by have hj : j < s.1 - 1 := hj; omega)).2, fun i i1 i2 => by rw [h3]; exact g5 i i1 i2, hok.2.1, hok.2.2⟩ (hK5.fr hf6 (by decide)) (((hf0.tr hf5 (by decide) (by decide) (by decide) (by decide) : Fr (MF ++ snF) (MF2 ++ snF2) m m5)).tr hf6 (by decide) (by decide) (by decide) (by decide))
      | succ r ih =>
        intro k m6 hk hpk hf6 hm6 h1 h2 h3
        refine f_M_gone_35 ?_
        rw [hm6]
        refine ⟨fun y => by omega, fun _ => ⟨am_RI (by omega) (by omega), by omega, by omega, by omega, by omega, am_RI (by omega) (by omega), by omega, by omega, by omega, by omega, am_RI (by omega) (by omega), ?_⟩⟩
        refine ih (k + 1) _ (by omega) (by omega) ((hf6.wl (by decide)).wr (by decide)) (by rw [wr_ne _ _ _ (by decide), wl_1]; exact hm6) (fun j hj => ?_) (fun j j1 j2 => ?_) (by rw [wr_ne _ _ _ (by decide), wl_1]; exact h3)
        · rw [wr_2, wl_at, wr_at, wl_1]
          by_cases e : j = k
          · rw [if_pos (by omega), if_pos (by omega)]
            have := h2 (k + 1) (by omega) (by omega)
            rw [show ((k + 1 : Nat) : Int) = (k : Int) + 1 by omega] at this
            show _ = (if j < p then s.2.1 j else s.2.1 (j + 1)) ∧ _ = ((if j < p then s.2.2.1 j else s.2.2.1 (j + 1) : Nat) : Int)
            rw [if_neg (by omega), if_neg (by omega), e]
            exact this
          · rw [if_neg (by omega), if_neg (by omega)]; exact h1 j (by omega)
        · rw [wr_2, wl_at, wr_at, wl_1, if_neg (by omega), if_neg (by omega)]
          exact h2 j (by omega) j2
    have hf6 : Fr mvF mvF2 m5 (am_wr m5 6521 (0 : Int) ((s.1 : Int) - 1)) := Fr.rf.wr (by decide)
    refine main (s.1 - 1 - p) p _ (by omega) (Nat.le_refl p) hf6 (by rw [wr_at, if_pos rfl]; omega) (fun j hj => ?_) (fun j j1 j2 => ?_) (wr_ne _ _ _ (by decide))
    · rw [wr_2, wr_ne _ _ _ (by decide)]
      show _ = (if j < p then s.2.1 j else s.2.1 (j + 1)) ∧ _ = ((if j < p then s.2.2.1 j else s.2.2.1 (j + 1) : Nat) : Int)
      rw [if_pos hj, if_pos hj]
      exact ⟨g3 j (by omega), g4 j (by omega)⟩
    · rw [wr_2, wr_ne _ _ _ (by decide)]
      exact ⟨g3 j j2, g4 j j2⟩
  · have h := Decidable.byContradiction h
    rw [if_pos h] at kn; exact kn _ rfl hf0
theorem r_turn {d : Nat} {P : Int → am_M → Prop} {m : am_M} {s : St} {L : List St} {k v : Int} (hM : MS m s) (hK : Kept m L)
    (kn : ∀ m' : am_M, (a_turn s k v).2 = none → Fr MF MF2 m m' → P (a_turn s k v).1 m')
    (ks : ∀ (m' : am_M) (t : St), (a_turn s k v).2 = some t → MS m' t → Kept m' ((s :: L).take 12) → Fr (MF ++ snF ++ mvF) (MF2 ++ snF2 ++ mvF2) m m' → P (a_turn s k v).1 m') : am_OkI (d + 3) 147 [.inr (.inr 55), .inl k, .inl v] m P := by
  unfold a_turn at *
  have hf0 : Fr MF MF2 m (am_wr m 6500 0 0) := Fr.rf.wr (by decide)
  have hM0 := hM.fr hf0 (by decide)
  have hK0 := hK.fr hf0 (by decide)
  have hn := hM.2.1
  refine f_M_turn (r_isKey hM0 (fun h => ⟨fun _ => ?_, fun y => absurd rfl y⟩) (fun h1 h2 => ⟨fun y => absurd y (by decide), fun _ => r_isValue hM0 (fun h => ⟨fun y => absurd rfl y, fun _ => ?_⟩) (fun h3 h4 => ⟨fun _ => ?_, fun y => absurd (by decide) y⟩)⟩))
  · rw [if_neg (by omega)] at kn; exact kn _ rfl hf0
  · rw [if_neg (fun y => h y.2.2)] at kn; exact kn _ rfl hf0
  · rw [if_pos ⟨h1, h2, h3, h4⟩] at ks
    have ks := fun m' => ks m' _ rfl
    obtain ⟨j, rfl⟩ : ∃ j : Nat, k = j := ⟨k.toNat, by omega⟩
    obtain ⟨w, rfl⟩ : ∃ w : Nat, v = w := ⟨v.toNat, by omega⟩
    have h2 : j < s.1 := by omega
    have hw : w < 2 ^ s.2.2.2 3 := by omega
    refine r_snap hM0 hK0 (fun m5 hK5 hf5 => ?_)
    have hM5 := hM0.fr hf5 (by decide)
    obtain ⟨g1, g2, g3, g4, g5, -, -⟩ := id hM5
    have hok : StOK (sTurn s j w) := ok_turn hM.ok hw
    have hf6 : Fr mvF mvF2 m5 (am_wr m5 60 (j : Int) (w : Int)) := Fr.rf.wr (by decide)
    rw [g4 j h2]
    refine ⟨by omega, by omega, by omega, by omega, ks _ ⟨?_, hok.1, fun q hq => g3 q hq, fun q hq => ?_, fun i i1 i2 => ?_, hok.2.1, hok.2.2⟩ (hK5.fr hf6 (by decide)) (((hf0.tr hf5 (by decide) (by decide) (by decide) (by decide) : Fr (MF ++ snF) (MF2 ++ snF2) m m5)).tr hf6 (by decide) (by decide) (by decide) (by decide))⟩
    · rw [wr_ne _ _ _ (by decide)]; exact g1
    · rw [wr_at]
      show _ = ((if q = j then w else s.2.2.1 q : Nat) : Int)
      by_cases e : q = j
      · rw [if_pos (by omega), if_pos e]
      · rw [if_neg (by omega), if_neg e]; exact g4 q hq
    · rw [wr_ne _ _ _ (by decide)]; exact g5 i i1 i2
theorem r_lowOf {d : Nat} {P : Int → am_M → Prop} {m : am_M} {i : Nat} (kpost : P (slo i) m) : am_OkI (d + 1) 128 [.inl i] m P := by
  unfold slo at kpost
  refine f_M_lowOf ⟨fun h => ?_, fun h => ⟨fun h2 => ?_, fun h2 => ?_⟩⟩
  · rw [if_pos (by omega)] at kpost; exact kpost
  · rw [if_neg (by omega)] at kpost; exact kpost
  · rw [if_pos (by omega)] at kpost; exact kpost
theorem r_highOf {d : Nat} {P : Int → am_M → Prop} {m : am_M} {i : Nat} (kpost : P (shi i) m) : am_OkI (d + 1) 129 [.inl i] m P := by
  unfold shi at kpost
  refine f_M_highOf ⟨fun h => ⟨fun h2 => ⟨fun h3 => ⟨fun h4 => ?_, fun h4 => ?_⟩, fun h3 => ?_⟩, fun h2 => ?_⟩, fun h => ?_⟩
  · rw [if_neg (by omega), if_neg (by omega), if_neg (by omega), if_neg (by omega)] at kpost; exact kpost
  · rw [if_neg (by omega), if_neg (by omega), if_neg (by omega), if_pos (by omega)] at kpost; exact kpost
  · rw [if_neg (by omega), if_neg (by omega), if_pos (by omega)] at kpost; exact kpost
  · rw [if_neg (by omega), if_pos (by omega)] at kpost; exact kpost
  · rw [if_pos (by omega)] at kpost; exact kpost
theorem r_set {d : Nat} {P : Int → am_M → Prop} {m : am_M} {s : St} {L : List St} {i v : Int} (hM : MS m s) (hK : Kept m L)
    (kn : ∀ m' : am_M, (a_set s i v).2 = none → Fr MF MF2 m m' → P (a_set s i v).1 m')
    (ks : ∀ (m' : am_M) (t : St), (a_set s i v).2 = some t → MS m' t → Kept m' ((s :: L).take 12) → Fr (MF ++ snF ++ mvF) (MF2 ++ snF2 ++ mvF2) m m' → P (a_set s i v).1 m') : am_OkI (d + 2) 148 [.inr (.inr 55), .inl i, .inl v] m P := by
  unfold a_set at *
  have hf0 : Fr MF MF2 m (am_wr m 6500 0 0) := Fr.rf.wr (by decide)
  have hM0 := hM.fr hf0 (by decide)
  have hK0 := hK.fr hf0 (by decide)
  have hn := hM.2.1
  refine f_M_set (r_isIn (fun h => ⟨fun _ => ?_, fun y => absurd rfl y⟩) (fun h1 h2 => ⟨fun y => absurd y (by decide), fun _ => ?_⟩))
  · rw [if_neg (fun y => by have := (sob_iff.mp y.2.2.1); have a := this.1; have b := this.2.1; omega)] at kn; exact kn _ rfl hf0
  obtain ⟨j, rfl⟩ : ∃ j : Nat, i = j := ⟨i.toNat, by omega⟩
  refine r_lowOf (r_highOf (r_isIn (fun h => ⟨fun y => absurd rfl y, fun _ => ?_⟩) (fun h3 h4 => ⟨fun _ => ?_, fun y => absurd (by decide) y⟩)))
  · rw [if_neg (fun y => by
      have := (sob_iff.mp y.2.2.1); have a := this.2.2.1; have b := this.2.2.2
      rw [show ((j : Nat) : Int).toNat = j by omega] at a b
      omega)] at kn
    exact kn _ rfl hf0
  obtain ⟨w, rfl⟩ : ∃ w : Nat, v = w := ⟨v.toNat, by omega⟩
  have hso : SetOK j w := ⟨by omega, by omega, by omega, by omega⟩
  have go : (j ≠ 3 ∨ fitb s.2.2.1 w s.1 = true) → am_OkV (d + 1) 141 [.inr (.inr 55)] (am_wr m 6500 0 0) (fun m1 => 0 ≤ (j : Int) ∧ (j : Int) < 7 ∧ (0 ≤ (j : Int) ∧ (j : Int) < 7 ∧ (P (m1.1 63 (j : Int)) (am_wr m1 63 (j : Int) (w : Int))))) := by
    intro hh
    rw [if_pos ⟨by omega, by omega, sob_iff.mpr hso, by rcases hh with h | h; exact Or.inl (by omega); exact Or.inr h⟩] at ks
    have ks := fun m' => ks m' _ rfl
    refine r_snap hM0 hK0 (fun m5 hK5 hf5 => ?_)
    have hM5 := hM0.fr hf5 (by decide)
    obtain ⟨g1, g2, g3, g4, g5, -, -⟩ := id hM5
    have hok : StOK (sSet s j w) := ok_set hM.ok hso hh
    have hf6 : Fr mvF mvF2 m5 (am_wr m5 63 (j : Int) (w : Int)) := Fr.rf.wr (by decide)
    rw [g5 j (by omega) (by omega)]
    refine ⟨by omega, by omega, by omega, by omega, ks _ ⟨?_, hok.1, fun q hq => g3 q hq, fun q hq => ?_, fun q i1 i2 => ?_, hok.2.1, hok.2.2⟩ (hK5.fr hf6 (by decide)) (((hf0.tr hf5 (by decide) (by decide) (by decide) (by decide) : Fr (MF ++ snF) (MF2 ++ snF2) m m5)).tr hf6 (by decide) (by decide) (by decide) (by decide))⟩
    · rw [wr_ne _ _ _ (by decide)]; exact g1
    · rw [wr_ne _ _ _ (by decide)]; exact g4 q hq
    · rw [wr_at]
      show _ = ((if q = j then w else s.2.2.2 q : Nat) : Int)
      by_cases e : q = j
      · rw [if_pos (by omega), if_pos e]
      · rw [if_neg (by omega), if_neg e]; exact g5 q i1 i2
  have main : ∀ (r k : Nat), k + r = s.1 → (∀ q, q < k → s.2.2.1 q < 2 ^ w ∨ j ≠ 3) → am_GI (d + 2) 148 P 34 [(0, .inr (.inr 55)), (1, .inl j), (2, .inl w), (3, .inl k)] [] (am_wr m 6500 0 0) := by
    intro r
    induction r with
    | zero =>
      intro k hk ha
      refine f_M_set_34 ?_
      rw [hM0.1]
      refine ⟨fun _ => go ?_, fun y => absurd (by omega) y⟩
      by_cases e : j = 3
      · exact Or.inr (fitb_iff.mpr (fun q hq => by rcases ha q (by omega) with h | h; exact h; exact absurd e h))
      · exact Or.inl e
    | succ r ih =>
      intro k hk ha
      refine f_M_set_34 ?_
      rw [hM0.1]
      refine ⟨fun y => by omega, fun _ => ⟨fun y => go (Or.inl (by omega)), fun y => ⟨by omega, by omega, ?_⟩⟩⟩
      have hj : j = 3 := by omega
      have hw : w ≤ 8 := by have := hso.2.2.2; rw [hj] at this; exact this
      rw [hM0.2.2.2.1 k (by omega), shl1 w (by omega)]
      refine ⟨fun h => ⟨am_RI (by omega) (by omega), ih (k + 1) (by omega) (fun q hq => ?_)⟩, fun h => ?_⟩
      · by_cases e : q = k
        · subst e; left; omega
        · exact ha q (by omega)
      · rw [if_neg (fun y => by
          rcases y.2.2.2 with z | z
          · omega
          · exact h (by have := fitb_iff.mp z k (by omega); rw [show ((w : Nat) : Int).toNat = w by omega] at this; omega))] at kn
        exact kn _ rfl hf0
  exact main s.1 0 (by omega) (fun q hq => absurd hq (by omega))
theorem r_undo {d : Nat} {P : Int → am_M → Prop} {m : am_M} {s : St} {L : List St} (hM : MS m s) (hK : Kept m L)
    (kn : ∀ m' : am_M, L = [] → Fr MF MF2 m m' → P (-1) m')
    (ks : ∀ (m' : am_M) (t : St) (L' : List St), L = t :: L' → MS m' t → Kept m' L' → Fr (MF ++ snF ++ mvF) (MF2 ++ snF2 ++ mvF2) m m' → P (L'.length : Nat) m') : am_OkI (d + 1) 142 [.inr (.inr 55)] m P := by
  have hf0 : Fr MF MF2 m (am_wr m 6500 0 0) := Fr.rf.wr (by decide)
  obtain ⟨k1, k2, k3, k4⟩ := id hK
  refine f_M_undo ?_
  rw [k1]
  cases L with
  | nil => exact ⟨fun y => absurd rfl y, fun _ => kn _ rfl hf0⟩
  | cons t L' =>
    have hlen : (t :: L').length = L'.length + 1 := rfl
    have hq : L'.length < 12 := by rw [hlen] at k2; omega
    refine ⟨fun _ => ⟨am_RI (by rw [hlen]; omega) (by rw [hlen]; omega), ?_⟩, fun y => absurd (by rw [hlen]; omega) y⟩
    rw [show (((t :: L').length : Nat) : Int) - 1 = ((L'.length : Nat) : Int) by rw [hlen]; omega]
    generalize hqe : L'.length = q at *
    generalize hm0 : am_wr (am_wr m 6500 (0 : Int) (0 : Int)) 6523 (0 : Int) (q : Int) = m0
    have hf1 : Fr [6500, 6523] [] m m0 := by rw [← hm0]; exact (Fr.rf.wr (by decide)).wr (by decide)
    have hk0 : m0.1 6523 0 = q := by rw [← hm0, wr_at, if_pos rfl]
    have hsn : Snap m0 q t := by
      have := k4 0 t rfl
      rw [hlen] at this
      unfold Snap at *
      rw [hf1.1 _ (by decide), hf1.1 _ (by decide), hf1.1 _ (by decide), hf1.2 _ (by decide)]
      exact this
    obtain ⟨n1, n2, n3⟩ := hsn
    have hot := k3 t List.mem_cons_self
    have hK0 : Kept m0 L' := by
      refine ⟨by rw [hk0, hqe], by omega, fun s hs => k3 s (List.mem_cons_of_mem _ hs), fun j s hj => ?_⟩
      have := k4 (j + 1) s hj
      rw [hlen] at this
      unfold Snap at *
      rw [hf1.1 _ (by decide), hf1.1 _ (by decide), hf1.1 _ (by decide), hf1.2 _ (by decide), hqe, show q - 1 - j = q + 1 - 1 - (j + 1) by omega]
      exact this
    have hot1 := hot.1
    have l80 : ∀ (r x : Nat) (m2 : am_M), x + r = 7 → Fr mvF mvF2 m0 m2 → (∀ k : Nat, k < t.1 → m2.2 57 k = t.2.1 k ∧ m2.1 60 k = t.2.2.1 k) → (∀ j : Nat, 1 ≤ j → j < x → m2.1 63 j = t.2.2.2 j) → am_GI (d + 1) 142 P 80 [(0, .inr (.inr 55)), (1, .inl x)] [] m2 := by
      intro r
      induction r with
      | zero =>
        intro x m2 hx hf2 h1 h2
        have hk2 : m2.1 6523 0 = q := by rw [hf2.1 _ (by decide)]; exact hk0
        refine f_M_undo_80 ?_
        rw [hk2]
        refine ⟨fun _ => ⟨by omega, by omega, ?_⟩, fun y => absurd (by omega) y⟩
        have hf3 : Fr mvF mvF2 m0 (am_wr m2 6521 (0 : Int) (m2.1 66 (q : Int))) := hf2.wr (by decide)
        have := ks (am_wr m2 6521 (0 : Int) (m2.1 66 (q : Int))) t L' rfl ⟨?_, hot.1, fun k hk => ?_, fun k hk => ?_, fun i i1 i2 => ?_, hot.2.1, hot.2.2⟩ (hK0.fr hf3 (by decide)) (hf1.tr hf3 (by decide) (by decide) (by decide) (by decide))
        · rw [hqe] at this; exact this
        · rw [wr_at, if_pos rfl, hf2.1 _ (by decide)]; exact n1
        · exact (h1 k hk).1
        · rw [wr_ne _ _ _ (by decide)]; exact (h1 k hk).2
        · rw [wr_ne _ _ _ (by decide)]; exact h2 i i1 (by omega)
      | succ r ih =>
        intro x m2 hx hf2 h1 h2
        have hk2 : m2.1 6523 0 = q := by rw [hf2.1 _ (by decide)]; exact hk0
        refine f_M_undo_80 ?_
        rw [hk2]
        refine ⟨fun y => by omega, fun _ => ⟨am_RI (by omega) (by omega), am_RI (by omega) (by omega), by omega, by omega, by omega, by omega, am_RI (by omega) (by omega), ih (x + 1) _ (by omega) (hf2.wr (by decide)) (fun k hk => ?_) (fun j j1 j2 => ?_)⟩⟩
        · rw [wr_2, wr_ne _ _ _ (by decide)]; exact h1 k hk
        · rw [wr_at]
          by_cases e : j = x
          · rw [if_pos (by omega), ← e, hf2.1 _ (by decide)]; exact n3 j j1 (by omega)
          · rw [if_neg (by omega)]; exact h2 j j1 (by omega)
    have l26 : ∀ (r x : Nat) (m2 : am_M), x + r = 48 → Fr mvF mvF2 m0 m2 → (∀ k : Nat, k < x → k < t.1 → m2.2 57 k = t.2.1 k ∧ m2.1 60 k = t.2.2.1 k) → am_GI (d + 1) 142 P 26 [(0, .inr (.inr 55)), (1, .inl x)] [] m2 := by
      intro r
      induction r with
      | zero =>
        intro x m2 hx hf2 h1
        refine f_M_undo_26 ⟨fun _ => l80 7 0 m2 (by omega) hf2 (fun k hk => h1 k (by omega) hk) (fun j _ hj => absurd hj (by omega)), fun y => absurd (by omega) y⟩
      | succ r ih =>
        intro x m2 hx hf2 h1
        have hk2 : m2.1 6523 0 = q := by rw [hf2.1 _ (by decide)]; exact hk0
        refine f_M_undo_26 ?_
        rw [hk2]
        refine ⟨fun y => by omega, fun _ => ⟨am_RI (by omega) (by omega), am_RI (by omega) (by omega), by omega, by omega, by omega, by omega, am_RI (by omega) (by omega), am_RI (by omega) (by omega), by omega, by omega, by omega, by omega, am_RI (by omega) (by omega), ih (x + 1) _ (by omega) ((hf2.wl (by decide)).wr (by decide)) (fun k j1 j2 => ?_)⟩⟩
        rw [wr_2, wl_at, wr_at]
        by_cases e : k = x
        · rw [if_pos (by omega), if_pos (by omega), ← e, hf2.1 _ (by decide), hf2.2 _ (by decide)]
          exact n2 k j2
        · rw [if_neg (by omega), if_neg (by omega), wl_1]; exact h1 k (by omega) j2
    exact l26 48 0 m0 (by omega) Fr.rf (fun k hk => absurd hk (by omega))
