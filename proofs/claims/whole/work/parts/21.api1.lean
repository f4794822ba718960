/-! CALLS: hash, cell, print, load, twins, peel, core, tight, peels -/
theorem c_hash {d : Nat} {P : Int64 → am_M → Prop} {m : am_M} {x : Int64} {s : Int} (kpost : P (h_hash x s) m) : am_OkL (d + 2) 84 [.inr (.inr 0), .inr (.inl x), .inl s] m P := f_T_hash (c_mix (c_mix kpost))
theorem r_hash {d : Nat} {P : Int64 → am_M → Prop} {m : am_M} {x : Int64} {s : Int} (kpost : ∀ m' : am_M, Fr MF MF2 m m' → P (h_hash x s) m') : am_OkL (d + 3) 155 [.inr (.inr 55), .inr (.inl x), .inl s] m P := f_M_hash (r_hashOf (kpost _ (Fr.rf.wr (by decide))))
def a_cell (S : Nat → Nat) (x : Int64) (j : Int) : Int := if 0 ≤ j ∧ j ≤ 2 then h3 (S 1) (S 6) (h_hash x (S 4)) j.toNat else -1
theorem c_cell {d : Nat} {P : Int → am_M → Prop} {m : am_M} {n : Nat} {K : Nat → Int64} {V S : Nat → Nat} {x : Int64} {j : Int} (hG : GSt m n K V S) (kpost : ∀ m' : am_M, Fr CF CF2 m m' → P (a_cell S x j) m') : am_OkI (d + 5) 85 [.inr (.inr 0), .inr (.inl x), .inl j] m P := by
  unfold a_cell at kpost
  refine f_T_cell ⟨fun h => ?_, fun h => ⟨fun h2 => ?_, fun h2 => ?_⟩⟩
  · rw [if_neg (by omega)] at kpost; exact kpost m Fr.rf
  · rw [if_pos (by omega)] at kpost
    refine c_lookNow hG (fun m1 hT hf => ⟨by omega, by omega, ?_⟩)
    have := hT.1 j.toNat (by omega)
    rw [show ((j.toNat : Nat) : Int) = j by omega] at this
    rw [this]
    exact kpost m1 hf
  · rw [if_neg (by omega)] at kpost; exact kpost m Fr.rf
theorem r_cell {d : Nat} {P : Int → am_M → Prop} {m : am_M} {n : Nat} {K : Nat → Int64} {V S : Nat → Nat} {x : Int64} {j : Int} (hM : MSt m n K V S) (kpost : ∀ m' : am_M, Fr MF MF2 m m' → P (a_cell S x j) m') : am_OkI (d + 4) 156 [.inr (.inr 55), .inr (.inl x), .inl j] m P := by
  unfold a_cell at kpost
  have hf0 : Fr MF MF2 m (am_wr m 6500 0 0) := Fr.rf.wr (by decide)
  have hM0 := hM.fr hf0 (by decide)
  obtain ⟨s1, s2, -, -, -, s6⟩ := hM.2.2.2.2.2.1
  refine f_M_cell (r_isIn (fun h => ⟨fun z => absurd rfl z, fun _ => ?_⟩) (fun h1 h2 => ⟨fun _ => ⟨by decide, by decide, ?_⟩, fun z => absurd (by decide) z⟩))
  · rw [if_neg h] at kpost; exact kpost _ hf0
  · rw [if_pos (by omega)] at kpost
    rw [show (am_wr m 6500 0 0).1 63 4 = S 4 from hM0.set (by decide) (by decide)]
    refine r_hashOf ⟨by decide, by decide, by decide, by decide, ?_⟩
    rw [show (am_wr m 6500 0 0).1 63 1 = S 1 from hM0.set (by decide) (by decide), show (am_wr m 6500 0 0).1 63 6 = S 6 from hM0.set (by decide) (by decide)]
    refine r_lays3 ⟨by omega, by omega⟩ s6 (fun m1 hT hf => ⟨by omega, by omega, ?_⟩)
    have := hT j.toNat (by omega)
    rw [show ((j.toNat : Nat) : Int) = j by omega] at this
    rw [this]
    exact kpost m1 (hf0.tr hf (by decide) (by decide) (by decide) (by decide))
def a_print (S : Nat → Nat) (x : Int64) : Int := h_print (h_hash x (S 4)) (S 2)
theorem c_print {d : Nat} {P : Int → am_M → Prop} {m : am_M} {n : Nat} {K : Nat → Int64} {V S : Nat → Nat} {x : Int64} (hG : GSt m n K V S) (kpost : ∀ m' : am_M, Fr CF CF2 m m' → P (a_print S x) m') : am_OkI (d + 5) 86 [.inr (.inr 0), .inr (.inl x)] m P := by
  refine f_T_print (c_lookNow hG (fun m1 hT hf => ?_))
  rw [hT.2.2.2]
  exact kpost m1 hf
theorem r_print {d : Nat} {P : Int → am_M → Prop} {m : am_M} {n : Nat} {K : Nat → Int64} {V S : Nat → Nat} {x : Int64} (hM : MSt m n K V S) (kpost : ∀ m' : am_M, Fr MF MF2 m m' → P (a_print S x) m') : am_OkI (d + 4) 157 [.inr (.inr 55), .inr (.inl x)] m P := by
  have hf0 : Fr MF MF2 m (am_wr m 6500 0 0) := Fr.rf.wr (by decide)
  have hM0 := hM.fr hf0 (by decide)
  obtain ⟨s1, s2, -, -, -, s6⟩ := hM.2.2.2.2.2.1
  refine f_M_print ⟨by decide, by decide, ?_⟩
  rw [show m.1 63 4 = S 4 from hM.set (by decide) (by decide)]
  refine r_hashOf ⟨by decide, by decide, ?_⟩
  rw [show (am_wr m 6500 0 0).1 63 2 = S 2 from hM0.set (by decide) (by decide)]
  exact r_printOf (by omega) (kpost _ hf0)
def a_load (n : Nat) (K : Nat → Int64) (S : Nat → Nat) (x : Int) : Int := if 0 ≤ x ∧ x < 3 * S 1 then pcnt (TT K (S 4) (S 1) (S 6)) (fun _ => true) x.toNat n else -1
theorem c_load {d : Nat} {P : Int → am_M → Prop} {m : am_M} {n : Nat} {K : Nat → Int64} {V S : Nat → Nat} {x : Int} (hG : GSt m n K V S) (kpost : ∀ m' : am_M, Fr CF CF2 m m' → P (a_load n K S x) m') : am_OkI (d + 6) 87 [.inr (.inr 0), .inl x] m P := by
  unfold a_load at kpost
  obtain ⟨s1, s2, -, -, -, s6⟩ := hG.2.2.2.2.2.1
  refine f_T_load ⟨fun h => ?_, fun h => ⟨by decide, by decide, ?_⟩⟩
  · rw [if_neg (by omega)] at kpost; exact kpost m Fr.rf
  rw [show m.1 7 1 = S 1 from hG.set (by decide) (by decide)]
  refine ⟨am_RI (by omega) (by omega), fun h2 => ?_, fun h2 => ?_⟩
  · rw [if_pos (by omega)] at kpost
    refine c_layNow hG (fun m1 _ hD _ hf => ⟨by omega, by omega, ?_⟩)
    have := (hD.2.2 x.toNat (by omega)).1
    rw [show ((x.toNat : Nat) : Int) = x by omega] at this
    rw [this]
    exact kpost m1 hf
  · rw [if_neg (by omega)] at kpost; exact kpost m Fr.rf
theorem r_load {d : Nat} {P : Int → am_M → Prop} {m : am_M} {n : Nat} {K : Nat → Int64} {V S : Nat → Nat} {x : Int} (hM : MSt m n K V S) (kpost : ∀ m' : am_M, Fr MF MF2 m m' → P (a_load n K S x) m') : am_OkI (d + 5) 167 [.inr (.inr 55), .inl x] m P := by
  unfold a_load at kpost
  have hf0 : Fr MF MF2 m (am_wr m 6500 0 0) := Fr.rf.wr (by decide)
  have hM0 := hM.fr hf0 (by decide)
  obtain ⟨s1, s2, -, -, -, s6⟩ := hM.2.2.2.2.2.1
  refine f_M_load ⟨by decide, by decide, ?_⟩
  rw [show m.1 63 1 = S 1 from hM.set (by decide) (by decide)]
  refine ⟨am_RI (by omega) (by omega), am_RI (by omega) (by omega), r_isIn (fun h => ⟨fun z => absurd rfl z, fun _ => ?_⟩) (fun h1 h2 => ⟨fun _ => ?_, fun z => absurd (by decide) z⟩)⟩
  · rw [if_neg (by omega)] at kpost; exact kpost _ hf0
  · rw [if_pos (by omega)] at kpost
    refine r_netNow hM0 (fun m1 _ hD hf => ⟨by omega, by omega, ?_⟩)
    have := (hD.2.2 x.toNat (by omega)).1
    rw [show ((x.toNat : Nat) : Int) = x by omega] at this
    rw [this]
    exact kpost m1 (hf0.tr1 hf)
-- twins
def ptw (T : Nat → List Nat) (k : Nat) : Nat → Nat
  | 0 => 0
  | i + 1 => ptw T k i + if T i = T k then 1 else 0
theorem ptw_le {T : Nat → List Nat} {k : Nat} : ∀ {i : Nat}, ptw T k i ≤ i
  | 0 => by simp [ptw]
  | i + 1 => by
    have := ptw_le (T := T) (k := k) (i := i)
    unfold ptw
    split <;> omega
def ptws (T : Nat → List Nat) : Nat → Nat
  | 0 => 0
  | k + 1 => ptws T k + ptw T k k
theorem ptws_le {T : Nat → List Nat} : ∀ {k : Nat}, k ≤ 48 → ptws T k ≤ 48 * k
  | 0, _ => by simp [ptws]
  | k + 1, h => by
    have := ptws_le (T := T) (k := k) (by omega)
    have := ptw_le (T := T) (k := k) (i := k)
    unfold ptws
    omega
theorem c_twins {d : Nat} {P : Int → am_M → Prop} {m : am_M} {n : Nat} {K : Nat → Int64} {V S : Nat → Nat} (hG : GSt m n K V S) (kpost : ∀ m' : am_M, Fr CF CF2 m m' → P (ptws (TT K (S 4) (S 1) (S 6)) n) m') : am_OkI (d + 6) 88 [.inr (.inr 0)] m P := by
  refine f_T_twins (c_layNow hG (fun m1 hL hD _ hf => ?_))
  have hn := hG.2.1
  generalize hT : TT K (S 4) (S 1) (S 6) = T at *
  have inner : ∀ (r i k a : Nat), i + r = k → k < n → a + ptw T k k ≤ 2400 → (am_GI (d + 6) 88 P 8 [(0, .inr (.inr 0)), (1, .inl ((a + ptw T k k : Nat) : Int)), (2, .inl ((k : Int) + 1))] [] m1) → am_GI (d + 6) 88 P 21 [(0, .inr (.inr 0)), (1, .inl ((a + ptw T k i : Nat) : Int)), (2, .inl k), (3, .inl i)] [] m1 := by
    intro r
    induction r with
    | zero =>
      intro i k a hi hk ha hp
      have : i = k := by omega
      subst this
      exact f_T_twins_21 ⟨fun _ => ⟨am_RI (by omega) (by omega), hp⟩, fun z => absurd (Int.le_refl _) z⟩
    | succ r ih =>
      intro i k a hi hk ha hp
      have h2 := ih (i + 1) k a (by omega) hk ha hp
      refine f_T_twins_21 ⟨fun z => by omega, fun _ => c_touchSame hL (by omega) hk ?_⟩
      have hle : ptw T k (i + 1) ≤ 48 := Nat.le_trans ptw_le (by omega)
      unfold ptw at h2 hle
      by_cases e : T i = T k
      · rw [if_pos e] at h2 hle ⊢
        refine ⟨fun z => absurd z (by decide), fun _ => ⟨?_, am_RI (by omega) (by omega), ?_⟩⟩
        · have := ptw_le (T := T) (k := k) (i := i)
          exact am_RI (by omega) (by omega)
        · rw [show ((a + ptw T k i : Nat) : Int) + 1 = ((a + (ptw T k i + 1) : Nat) : Int) by omega, show (i : Int) + 1 = ((i + 1 : Nat) : Int) by omega]
          exact h2
      · rw [if_neg e] at h2 ⊢
        refine ⟨fun _ => ⟨am_RI (by omega) (by omega), ?_⟩, fun z => absurd rfl z⟩
        rw [show (i : Int) + 1 = ((i + 1 : Nat) : Int) by omega]
        exact h2
  have main : ∀ (r k : Nat), k + r = n → am_GI (d + 6) 88 P 8 [(0, .inr (.inr 0)), (1, .inl (ptws T k : Nat)), (2, .inl k)] [] m1 := by
    intro r
    induction r with
    | zero =>
      intro k hk
      have : k = n := by omega
      subst this
      refine f_T_twins_8 ⟨fun _ => kpost m1 hf, fun z => ?_⟩
      rw [hL.1] at z
      omega
    | succ r ih =>
      intro k hk
      have h2 := ih (k + 1) (by omega)
      have h1 := ptws_le (T := T) (k := k + 1) (by omega)
      refine f_T_twins_8 ⟨fun z => ?_, fun _ => ?_⟩
      · rw [hL.1] at z
        omega
      · refine inner k 0 k (ptws T k) (by omega) (by omega) (by unfold ptws at h1; omega) ?_
        unfold ptws at h2
        exact h2
  by_cases h0 : n = 0
  · refine f_T_twins_8 ⟨fun _ => ?_, fun z => ?_⟩
    · subst h0; exact kpost m1 hf
    · rw [hL.1] at z; omega
  · exact main (n - 1) 1 (by omega)
theorem nd_len : ∀ {l1 l2 : List Nat}, l1.Nodup → (∀ x ∈ l1, x ∈ l2) → l1.length ≤ l2.length
  | [], _, _, _ => Nat.zero_le _
  | a :: l, l2, h, hs => by
    have ha := hs a List.mem_cons_self
    have h1 := List.nodup_cons.mp h
    have := nd_len (l2 := l2.erase a) h1.2 (fun x hx => (List.mem_erase_of_ne (fun (e : x = a) => h1.1 (e ▸ hx))).mpr (hs x (List.mem_cons_of_mem _ hx)))
    rw [List.length_erase_of_mem ha] at this
    have := List.length_pos_of_mem ha
    simp only [List.length_cons]
    omega
theorem nd_back {l1 l2 : List Nat} (h : l1.Nodup) (hs : ∀ x ∈ l1, x ∈ l2) (hl : l2.length ≤ l1.length) : ∀ x, x ∈ l2 → x ∈ l1 := fun x hx => by
  by_cases hm : x ∈ l1
  · exact hm
  · have := nd_len (l1 := x :: l1) (l2 := l2) (List.nodup_cons.mpr ⟨hm, h⟩) (fun y hy => by
      rcases List.mem_cons.mp hy with e | e
      · exact e ▸ hx
      · exact hs y e)
    simp only [List.length_cons] at this
    omega
theorem r_areTwins {d : Nat} {P : Int → am_M → Prop} {m : am_M} {U T : Nat → List Nat} {n N k i : Nat} (hn : n ≤ 48) (hT : TOK T n N) (hU : UOK U T n) (hC : RefC m U n) (hk : k < n) (hi : i < n) (kpost : P (if T i = T k then 1 else 0) m) : am_OkI (d + 2) 169 [.inr (.inr 55), .inl k, .inl i] m P := by
  refine f_M_areTwins ⟨by omega, by omega, by omega, by omega, fun h => ?_, fun h => ⟨Or.inl rfl, ?_⟩⟩
  · rw [(hC k hk).1, (hC i hi).1] at h
    have main : ∀ (r j : Nat), j + r = (U k).length → (∀ t x : Nat, t < j → (U k)[t]? = some x → x ∈ T i) → am_GI (d + 2) 169 P 19 [(0, .inr (.inr 55)), (1, .inl k), (2, .inl i), (3, .inl j)] [] m := by
      intro r
      induction r with
      | zero =>
        intro j hj ha
        refine f_M_areTwins_19 ⟨by omega, by omega, fun _ => ⟨Or.inr rfl, ?_⟩, fun z => ?_⟩
        · rw [if_pos] at kpost
          · exact kpost
          · have hsub : ∀ x, x ∈ T k → x ∈ T i := fun x hx => by
              have := ((hU k hk).2.2 x).mpr hx
              obtain ⟨t, ht, e⟩ := List.getElem_of_mem this
              exact ha t x (by omega) (by rw [List.getElem?_eq_getElem ht, e])
            have hl : (T k).length = (T i).length := by
              rw [← (hU k hk).2.1, ← (hU i hi).2.1]; omega
            exact sorted_ext (hT i hi).2.1 (hT k hk).2.1 (fun x => ⟨nd_back (pw_nodup (hT k hk).2.1) hsub (by omega) x, hsub x⟩)
        · rw [(hC k hk).1] at z
          omega
      | succ r ih =>
        intro j hj ha
        have hx : (U k)[j]? = some ((U k)[j]'(by omega)) := List.getElem?_eq_getElem (by omega)
        have hlen : (U k).length ≤ 3 := by
          rw [(hU k hk).2.1]
          rcases (hT k hk).1 with e | e <;> omega
        refine f_M_areTwins_19 ⟨by omega, by omega, fun z => ?_, fun _ => ⟨am_RI (by omega) (by omega), am_RI (by omega) (by omega), by omega, by omega, ?_⟩⟩
        · rw [(hC k hk).1] at z
          omega
        · rw [(hC k hk).2 j _ hx]
          refine r_isOf hn hT hU hC hi ?_
          by_cases e : (U k)[j]'(by omega) ∈ T i
          · rw [if_pos e]
            refine ⟨fun _ => ⟨am_RI (by omega) (by omega), ?_⟩, fun z => absurd (by decide) z⟩
            rw [show (j : Int) + 1 = ((j + 1 : Nat) : Int) by omega]
            refine ih (j + 1) (by omega) (fun t x ht e2 => ?_)
            by_cases htj : t = j
            · subst htj
              rw [hx] at e2
              exact (Option.some.inj e2) ▸ e
            · exact ha t x (by omega) e2
          · rw [if_neg e]
            refine ⟨fun z => absurd rfl z, fun _ => ⟨Or.inl rfl, ?_⟩⟩
            rw [if_neg] at kpost
            · exact kpost
            · intro e3
              exact e (e3 ▸ ((hU k hk).2.2 _).mp (List.getElem_mem _))
    exact main (U k).length 0 (by omega) (fun t x ht => absurd ht (by omega))
  · rw [(hC k hk).1, (hC i hi).1, (hU k hk).2.1, (hU i hi).2.1] at h
    rw [if_neg (fun e => h (by rw [e]))] at kpost
    exact kpost
theorem r_twins {d : Nat} {P : Int → am_M → Prop} {m : am_M} {n : Nat} {K : Nat → Int64} {V S : Nat → Nat} (hM : MSt m n K V S) (kpost : ∀ m' : am_M, Fr MF MF2 m m' → P (ptws (TT K (S 4) (S 1) (S 6)) n) m') : am_OkI (d + 5) 168 [.inr (.inr 55)] m P := by
  have hf0 : Fr MF MF2 m (am_wr m 6500 0 0) := Fr.rf.wr (by decide)
  have hM0 := hM.fr hf0 (by decide)
  obtain ⟨s1, -, -, -, -, -⟩ := hM.2.2.2.2.2.1
  refine f_M_twins (r_netNow hM0 (fun m1 hC _ hf => ?_))
  have hM1 := hM0.fr hf (by decide)
  have hTok := TT_ok K (S 4) (c := S 1) (S 6) n (by omega)
  have hU := UT_ok K (S 4) (S 1) (S 6) n
  have hn := hM.2.1
  generalize hT : TT K (S 4) (S 1) (S 6) = T at *
  have inner : ∀ (r i k a : Nat), i + r = k → k < n → a + ptw T k k ≤ 2400 → (am_GI (d + 5) 168 P 13 [(0, .inr (.inr 55)), (1, .inl ((a + ptw T k k : Nat) : Int)), (2, .inl ((k : Int) + 1))] [] m1) → am_GI (d + 5) 168 P 23 [(0, .inr (.inr 55)), (1, .inl ((a + ptw T k i : Nat) : Int)), (2, .inl k), (3, .inl i)] [] m1 := by
    intro r
    induction r with
    | zero =>
      intro i k a hi hk ha hp
      have : i = k := by omega
      subst this
      exact f_M_twins_23 ⟨fun _ => ⟨am_RI (by omega) (by omega), hp⟩, fun z => absurd (Int.le_refl _) z⟩
    | succ r ih =>
      intro i k a hi hk ha hp
      have h2 := ih (i + 1) k a (by omega) hk ha hp
      refine f_M_twins_23 ⟨fun z => by omega, fun _ => r_areTwins hn hTok hU hC hk (by omega) ?_⟩
      have hle : ptw T k (i + 1) ≤ 48 := Nat.le_trans ptw_le (by omega)
      unfold ptw at h2 hle
      by_cases e : T i = T k
      · rw [if_pos e] at h2 hle ⊢
        refine ⟨fun z => absurd z (by decide), fun _ => ⟨?_, am_RI (by omega) (by omega), ?_⟩⟩
        · have := ptw_le (T := T) (k := k) (i := i)
          exact am_RI (by omega) (by omega)
        · rw [show ((a + ptw T k i : Nat) : Int) + 1 = ((a + (ptw T k i + 1) : Nat) : Int) by omega, show (i : Int) + 1 = ((i + 1 : Nat) : Int) by omega]
          exact h2
      · rw [if_neg e] at h2 ⊢
        refine ⟨fun _ => ⟨am_RI (by omega) (by omega), ?_⟩, fun z => absurd rfl z⟩
        rw [show (i : Int) + 1 = ((i + 1 : Nat) : Int) by omega]
        exact h2
  have main : ∀ (r k : Nat), k + r = n → am_GI (d + 5) 168 P 13 [(0, .inr (.inr 55)), (1, .inl (ptws T k : Nat)), (2, .inl k)] [] m1 := by
    intro r
    induction r with
    | zero =>
      intro k hk
      have : k = n := by omega
      subst this
      refine f_M_twins_13 ⟨fun _ => kpost m1 (hf0.tr1 hf), fun z => ?_⟩
      rw [hM1.1] at z
      omega
    | succ r ih =>
      intro k hk
      have h2 := ih (k + 1) (by omega)
      have h1 := ptws_le (T := T) (k := k + 1) (by omega)
      refine f_M_twins_13 ⟨fun z => ?_, fun _ => ?_⟩
      · rw [hM1.1] at z
        omega
      · refine inner k 0 k (ptws T k) (by omega) (by omega) (by unfold ptws at h1; omega) ?_
        unfold ptws at h2
        exact h2
  exact main n 0 (by omega)
