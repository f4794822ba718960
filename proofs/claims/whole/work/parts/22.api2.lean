/-! CALLS: peel, core, tight, peels, the empty cells -/
abbrev PN (n : Nat) (K : Nat → Int64) (S : Nat → Nat) : (Nat → Bool) × List (Nat × Nat) := pres (TT K (S 4) (S 1) (S 6)) n (3 * S 1) (S 5) (fun _ => true)
def a_peel (out : List (Nat × Nat)) (i w : Int) : Int := if i = -1 then (if w = 0 then out.length else -1) else if 0 ≤ i ∧ i < out.length ∧ 0 ≤ w ∧ w ≤ 1 then (if w = 0 then (out.getD i.toNat (0, 0)).1 else (out.getD i.toNat (0, 0)).2 : Nat) else -1
theorem out_le {T : Nat → List Nat} {n N w : Nat} (hT : TOK T n N) (hN : N ≤ 96) : (pres T n N w (fun _ => true)).2.length ≤ n := by
  have := pchain_len (pres_spec w (fun _ => true) hT hN).1
  have := pleft_le (left := fun _ => true) (n := n)
  omega
theorem c_peel {d : Nat} {P : Int → am_M → Prop} {m : am_M} {n : Nat} {K : Nat → Int64} {V S : Nat → Nat} {i w : Int} (hG : GSt m n K V S) (kpost : ∀ m' : am_M, Fr CF CF2 m m' → P (a_peel (PN n K S).2 i w) m') : am_OkI (d + 7) 89 [.inr (.inr 0), .inl i, .inl w] m P := by
  refine f_T_peel (c_peelNow hG (fun m1 hL _ hO hf => ?_))
  have kp := kpost m1 hf
  have ho := out_le (w := S 5) hL.2.2.2.2.1 hL.2.2.2.1
  have hn := hG.2.1
  change (PN n K S).2.length ≤ n at ho
  change OutM m1 (PN n K S).2 at hO
  generalize (PN n K S).2 = out at *
  unfold a_peel at kp
  obtain ⟨o1, o2⟩ := hO
  have hB : ((i < (0 : Int) → (P (-1 : Int) m1)) ∧ (¬ (i < (0 : Int)) → (((m1.1 3702 (0 : Int)) ≤ i → (P (-1 : Int) m1)) ∧ (¬ ((m1.1 3702 (0 : Int)) ≤ i) → ((w < (0 : Int) → (P (-1 : Int) m1)) ∧ (¬ (w < (0 : Int)) → ((w ≤ (1 : Int) → ((w ≠ (0 : Int) → (0 ≤ i ∧ i < 48 ∧ (P (m1.1 29 i) m1))) ∧ (¬ (w ≠ (0 : Int)) → (0 ≤ i ∧ i < 48 ∧ (P (m1.1 28 i) m1))))) ∧ (¬ (w ≤ (1 : Int)) → (P (-1 : Int) m1))))))))) ∨ (i = -1 ∧ w = 0) := by
    by_cases h0 : i = -1 ∧ w = 0
    · exact Or.inr h0
    · refine Or.inl ?_
      rw [o1]
      by_cases hb : 0 ≤ i ∧ i < out.length ∧ 0 ≤ w ∧ w ≤ 1
      · rw [if_neg (by omega), if_pos hb] at kp
        obtain ⟨k, c, e⟩ : ∃ k c, out[i.toNat]? = some (k, c) := ⟨_, _, List.getElem?_eq_getElem (show i.toNat < out.length by omega)⟩
        have hk := o2 i.toNat k c e
        rw [show ((i.toNat : Nat) : Int) = i by omega] at hk
        rw [List.getD_eq_getElem?_getD, e] at kp
        refine ⟨fun z => by omega, fun _ => ⟨fun z => by omega, fun _ => ⟨fun z => by omega, fun _ => ⟨fun _ => ⟨fun z => ⟨by omega, by omega, ?_⟩, fun z => ⟨by omega, by omega, ?_⟩⟩, fun z => by omega⟩⟩⟩⟩
        · rw [if_neg z] at kp
          rw [hk.2]; exact kp
        · rw [if_pos (by omega)] at kp
          rw [hk.1]; exact kp
      · have kp2 : P (-1) m1 := by
          by_cases h1 : i = -1
          · rw [if_pos h1, if_neg (by omega)] at kp; exact kp
          · rw [if_neg h1, if_neg hb] at kp; exact kp
        exact ⟨fun _ => kp2, fun _ => ⟨fun _ => kp2, fun _ => ⟨fun _ => kp2, fun _ => ⟨fun _ => by omega, fun _ => kp2⟩⟩⟩⟩
  refine ⟨fun h => ?_, fun h => ⟨fun h2 => ?_, fun h2 => ?_⟩⟩
  · rcases hB with hB | hB
    · exact hB
    · omega
  · rcases hB with hB | hB
    · exact hB
    · omega
  · rw [if_pos (by omega), if_pos (by omega)] at kp
    rw [o1]; exact kp
theorem r_peel {d : Nat} {P : Int → am_M → Prop} {m : am_M} {n : Nat} {K : Nat → Int64} {V S : Nat → Nat} {i w : Int} (hM : MSt m n K V S) (kpost : ∀ m' : am_M, Fr MF MF2 m m' → P (a_peel (PN n K S).2 i w) m') : am_OkI (d + 6) 170 [.inr (.inr 55), .inl i, .inl w] m P := by
  have hf0 : Fr MF MF2 m (am_wr m 6500 0 0) := Fr.rf.wr (by decide)
  have hM0 := hM.fr hf0 (by decide)
  obtain ⟨s1, -, -, -, -, -⟩ := hM.2.2.2.2.2.1
  refine f_M_peel (r_peelNow hM0 (fun m1 _ _ hO hf => ?_))
  have kp := kpost m1 (hf0.tr1 hf)
  have ho := out_le (w := S 5) (TT_ok K (S 4) (c := S 1) (S 6) n (by omega)) (by omega)
  have hn := hM.2.1
  change (PN n K S).2.length ≤ n at ho
  change OutR m1 (PN n K S).2 at hO
  generalize (PN n K S).2 = out at *
  unfold a_peel at kp
  obtain ⟨o1, o2⟩ := hO
  rw [o1]
  refine ⟨fun h => ⟨am_RI (by omega) (by omega), r_isIn (fun h2 => ⟨fun _ => ?_, fun z => absurd rfl z⟩) (fun h2 h3 => ⟨fun z => absurd z (by decide), fun _ => r_isIn (fun h4 => ⟨fun z => absurd rfl z, fun _ => ?_⟩) (fun h4 h5 => ⟨fun _ => ?_, fun z => absurd (by decide) z⟩)⟩)⟩, fun h => ⟨fun h2 => ?_, fun h2 => ?_⟩⟩
  · rw [if_neg h, if_neg (by omega)] at kp; exact kp
  · rw [if_neg h, if_neg (by omega)] at kp; exact kp
  · rw [if_neg h, if_pos (by omega)] at kp
    obtain ⟨k, c, e⟩ : ∃ k c, out[i.toNat]? = some (k, c) := ⟨_, _, List.getElem?_eq_getElem (show i.toNat < out.length by omega)⟩
    have hk := o2 i.toNat k c e
    rw [show ((i.toNat : Nat) : Int) = i by omega] at hk
    rw [List.getD_eq_getElem?_getD, e] at kp
    refine ⟨fun z => ⟨by omega, by omega, ?_⟩, fun z => ⟨by omega, by omega, ?_⟩⟩
    · rw [if_neg z] at kp
      rw [hk.2]; exact kp
    · rw [if_pos (by omega)] at kp
      rw [hk.1]; exact kp
  · rw [if_pos (by omega), if_neg h2] at kp; exact kp
  · rw [if_pos (by omega), if_pos (by omega)] at kp; exact kp
-- core
def a_core (left : Nat → Bool) (n : Nat) (i : Int) : Int := if i = -1 then (pleft left n : Nat) else pat left n i (n + 1) 0 0
theorem c_core {d : Nat} {P : Int → am_M → Prop} {m : am_M} {n : Nat} {K : Nat → Int64} {V S : Nat → Nat} {i : Int} (hG : GSt m n K V S) (kpost : ∀ m' : am_M, Fr CF CF2 m m' → P (a_core (PN n K S).1 n i) m') : am_OkI (d + 7) 90 [.inr (.inr 0), .inl i] m P := by
  refine f_T_core (c_peelNow hG (fun m1 hL hD _ hf => ⟨fun h => ?_, fun h => ?_⟩))
  · refine c_leftAt hL hD ?_
    have kp := kpost m1 hf
    unfold a_core at kp
    rw [if_neg h] at kp
    exact kp
  · have kp := kpost m1 hf
    unfold a_core at kp
    rw [if_pos (by omega)] at kp
    rw [hD.1]
    exact kp
theorem pat_neg {left : Nat → Bool} {n : Nat} {i : Int} (hi : i < 0) : ∀ (f k : Nat) (met : Int), 0 ≤ met → pat left n i f k met = -2
  | 0, _, _, _ => rfl
  | f + 1, k, met, h => by
    unfold pat
    split
    · rfl
    · split
      · rw [if_neg (by omega)]; exact pat_neg hi f _ _ (by omega)
      · exact pat_neg hi f _ _ h
theorem r_core {d : Nat} {P : Int → am_M → Prop} {m : am_M} {n : Nat} {K : Nat → Int64} {V S : Nat → Nat} {i : Int} (hi : am_R i) (hM : MSt m n K V S) (kpost : ∀ m' : am_M, Fr MF MF2 m m' → P (a_core (PN n K S).1 n i) m') : am_OkI (d + 6) 171 [.inr (.inr 55), .inl i] m P := by
  have hf0 : Fr MF MF2 m (am_wr m 6500 0 0) := Fr.rf.wr (by decide)
  have hM0 := hM.fr hf0 (by decide)
  have hn := hM.2.1
  refine f_M_core (r_peelNow hM0 (fun m1 _ hD _ hf => ⟨fun h => ?_, fun h => ?_⟩))
  · have kp := kpost m1 (hf0.tr1 hf)
    have hM1 := hM0.fr hf (by decide)
    unfold a_core at kp
    rw [if_neg h] at kp
    change RefD m1 _ n (PN n K S).1 at hD
    generalize (PN n K S).1 = left at *
    by_cases hneg : i < 0
    · rw [pat_neg hneg _ _ _ (Int.le_refl 0)] at kp
      exact f_M_core_23 ⟨fun _ => kp, fun _ => ⟨fun _ => kp, fun z => absurd hneg z⟩⟩
    · have main : ∀ (f k : Nat) (met : Int), k + f = n + 1 → 0 ≤ met → met ≤ i → P (pat left n i f k met) m1 → am_GI (d + 6) 171 P 23 [(0, .inr (.inr 55)), (1, .inl i), (2, .inl (i - met)), (3, .inl k)] [] m1 := by
        intro f
        induction f with
        | zero =>
          intro k met hk h0 h1 hp
          refine f_M_core_23 ⟨fun _ => hp, fun z => ?_⟩
          rw [hM1.1] at z
          omega
        | succ f ih =>
          intro k met hk h0 h1 hp
          unfold pat at hp
          refine f_M_core_23 ⟨fun z => ?_, fun z => ⟨fun z2 => absurd z2 hneg, fun _ => ?_⟩⟩
          · rw [hM1.1] at z
            rw [if_pos (by omega)] at hp
            exact hp
          · rw [hM1.1] at z
            rw [if_neg (by omega)] at hp
            obtain ⟨r1, r2⟩ := hi
            refine ⟨by omega, by omega, ?_⟩
            rw [hD.2.1 k (by omega)]
            by_cases hl : left k = true
            · rw [if_pos hl] at hp ⊢
              refine ⟨fun _ => ⟨fun z3 => ⟨am_RI (by omega) (by omega), am_RI (by omega) (by omega), ?_⟩, fun z3 => ?_⟩, fun z3 => absurd (by decide) z3⟩
              · rw [if_neg (by omega)] at hp
                rw [show i - met + -1 = i - (met + 1) by omega, show (k : Int) + 1 = ((k + 1 : Nat) : Int) by omega]
                exact ih (k + 1) (met + 1) (by omega) (by omega) (by omega) hp
              · rw [if_pos (by omega)] at hp
                exact hp
            · rw [if_neg hl] at hp ⊢
              refine ⟨fun z3 => absurd rfl z3, fun _ => ⟨am_RI (by omega) (by omega), ?_⟩⟩
              rw [show (k : Int) + 1 = ((k + 1 : Nat) : Int) by omega]
              exact ih (k + 1) met (by omega) h0 h1 hp
      have := main (n + 1) 0 0 (by omega) (Int.le_refl 0) (by omega) kp
      rw [show i - 0 = i by omega] at this
      exact this
  · have kp := kpost m1 (hf0.tr1 hf)
    unfold a_core at kp
    rw [if_pos (by omega)] at kp
    rw [hD.1]
    exact kp
-- empty cells
theorem r_emptyCells {d : Nat} {P : Int → am_M → Prop} {m : am_M} {n : Nat} {K : Nat → Int64} {V S : Nat → Nat} (hM : MSt m n K V S) (kpost : ∀ m' : am_M, Fr MF MF2 m m' → P (((3 * S 1 : Nat) : Int) - (ptch (TT K (S 4) (S 1) (S 6)) (fun _ => true) n (3 * S 1) : Nat)) m') : am_OkI (d + 5) 192 [.inr (.inr 55)] m P := by
  obtain ⟨s1, -, -, -, -, -⟩ := hM.2.2.2.2.2.1
  refine f_M_emptyCells (r_netNow hM (fun m1 _ hD hf => ?_))
  have hM1 := hM.fr hf (by decide)
  have kp := kpost m1 hf
  generalize TT K (S 4) (S 1) (S 6) = T at *
  have main : ∀ (r c : Nat), c + r = 3 * S 1 → am_GI (d + 5) 192 P 8 [(0, .inr (.inr 55)), (1, .inl ((c : Int) - (ptch T (fun _ => true) n c : Nat))), (2, .inl c)] [] m1 := by
    intro r
    induction r with
    | zero =>
      intro c hc
      have : c = 3 * S 1 := by omega
      subst this
      refine f_M_emptyCells_8 ⟨by decide, by decide, ?_⟩
      rw [show m1.1 63 1 = S 1 from hM1.set (by decide) (by decide)]
      exact ⟨am_RI (by omega) (by omega), fun _ => kp, fun z => by omega⟩
    | succ r ih =>
      intro c hc
      have h2 := ih (c + 1) (by omega)
      have hl := ptch_le (T := T) (left := fun _ => true) (n := n) (c := c)
      refine f_M_emptyCells_8 ⟨by decide, by decide, ?_⟩
      rw [show m1.1 63 1 = S 1 from hM1.set (by decide) (by decide)]
      refine ⟨am_RI (by omega) (by omega), fun z => by omega, fun _ => ⟨by omega, by omega, ?_⟩⟩
      rw [(hD.2.2 c (by omega)).1]
      unfold ptch at h2
      by_cases e : pcnt T (fun _ => true) c n ≠ 0
      · rw [if_neg e] at h2
        refine ⟨fun _ => ⟨am_RI (by omega) (by omega), ?_⟩, fun z => by omega⟩
        rw [show (c : Int) + 1 = ((c + 1 : Nat) : Int) by omega, show (c : Int) - (ptch T (fun _ => true) n c : Nat) = ((c + 1 : Nat) : Int) - ((ptch T (fun _ => true) n c + 1 : Nat) : Int) by omega]
        exact h2
      · rw [if_pos (by omega)] at h2
        refine ⟨fun z => by omega, fun _ => ⟨am_RI (by omega) (by omega), am_RI (by omega) (by omega), ?_⟩⟩
        rw [show (c : Int) + 1 = ((c + 1 : Nat) : Int) by omega, show (c : Int) - (ptch T (fun _ => true) n c : Nat) + 1 = ((c + 1 : Nat) : Int) - ((ptch T (fun _ => true) n c + 0 : Nat) : Int) by omega]
        exact h2
  exact main (3 * S 1) 0 (by omega)
-- tight, peels
def pab (T : Nat → List Nat) (n N : Nat) (left : Nat → Bool) : Bool := decide (pleft (pres T n N 0 left).1 n = 0)
theorem pab_iff {T : Nat → List Nat} {n N : Nat} {left : Nat → Bool} (hT : TOK T n N) (hN : N ≤ 96) : pab T n N left = true ↔ pall T n N left := by
  rw [← pall_iff 0 left hT hN]
  simp [pab]
def a_tight (n : Nat) (K : Nat → Int64) (S : Nat → Nat) : Nat → Nat → Int
  | 0, _ => -2
  | f + 1, c => if pab (TT K (S 4) c (S 6)) n (3 * c) (fun _ => true) = true then c else a_tight n K S f (c + 1)
theorem c_tight {d : Nat} {P : Int → am_M → Prop} {m : am_M} {n : Nat} {K : Nat → Int64} {V S : Nat → Nat} (hG : GSt m n K V S) (kpost : ∀ m' : am_M, Fr CF CF2 m m' → P (a_tight n K S 32 1) m') : am_OkI (d + 7) 94 [.inr (.inr 0)] m P := by
  have main : ∀ (f c : Nat) (m1 : am_M), c + f = 33 → 0 < c → Fr CF CF2 m m1 → (∀ m' : am_M, Fr CF CF2 m m' → P (a_tight n K S f c) m') → am_GI (d + 7) 94 P 2 [(0, .inr (.inr 0)), (1, .inl c)] [] m1 := by
    intro f
    induction f with
    | zero =>
      intro c m1 hc h0 hf kp
      exact f_T_tight_2 ⟨fun _ => kp m1 hf, fun z => by omega⟩
    | succ f ih =>
      intro c m1 hc h0 hf kp
      have hG1 := hG.fr hf (by decide)
      refine f_T_tight_2 ⟨fun z => by omega, fun _ => ⟨by decide, by decide, ?_⟩⟩
      rw [show m1.1 7 4 = S 4 from hG1.set (by decide) (by decide)]
      have hi := pab_iff (left := fun _ => true) (TT_ok K (S 4) (c := c) (S 6) n h0) (by omega)
      refine c_allPeel hG1 ⟨h0, by omega⟩ (fun m2 hp hf2 => ⟨fun _ => ⟨am_RI (by omega) (by omega), ?_⟩, fun z => absurd rfl z⟩) (fun m2 hp _ _ _ hf2 => ⟨fun z => absurd z (by decide), fun _ => ?_⟩)
      · rw [show (c : Int) + 1 = ((c + 1 : Nat) : Int) by omega]
        refine ih (c + 1) m2 (by omega) (by omega) (hf.tr1 hf2) (fun m3 hf3 => ?_)
        have := kp m3 hf3
        unfold a_tight at this
        rw [if_neg (fun z => hp (hi.mp z))] at this
        exact this
      · have := kp m2 (hf.tr1 hf2)
        unfold a_tight at this
        rw [if_pos (hi.mpr hp)] at this
        exact this
  exact f_T_tight (main 32 1 m (by omega) (by omega) Fr.rf kpost)
theorem r_tight {d : Nat} {P : Int → am_M → Prop} {m : am_M} {n : Nat} {K : Nat → Int64} {V S : Nat → Nat} (hM : MSt m n K V S) (kpost : ∀ m' : am_M, Fr MF MF2 m m' → P (a_tight n K S 32 1) m') : am_OkI (d + 5) 177 [.inr (.inr 55)] m P := by
  have main : ∀ (f c : Nat) (m1 : am_M), c + f = 33 → 0 < c → Fr MF MF2 m m1 → (∀ m' : am_M, Fr MF MF2 m m' → P (a_tight n K S f c) m') → am_GI (d + 5) 177 P 7 [(0, .inr (.inr 55)), (1, .inl c)] [] m1 := by
    intro f
    induction f with
    | zero =>
      intro c m1 hc h0 hf kp
      exact f_M_tight_7 ⟨fun _ => kp m1 hf, fun z => by omega⟩
    | succ f ih =>
      intro c m1 hc h0 hf kp
      have hM1 := hM.fr hf (by decide)
      refine f_M_tight_7 ⟨fun z => by omega, fun _ => ⟨by decide, by decide, ?_⟩⟩
      rw [show m1.1 63 4 = S 4 from hM1.set (by decide) (by decide)]
      have hi := pab_iff (left := fun _ => true) (TT_ok K (S 4) (c := c) (S 6) n h0) (by omega)
      refine r_peelsAll (wo := 0) hM1 ⟨h0, by omega⟩ (by omega) (fun m2 hp hf2 => ⟨fun _ => ⟨am_RI (by omega) (by omega), ?_⟩, fun z => absurd rfl z⟩) (fun m2 hp hf2 => ⟨fun z => absurd z (by decide), fun _ => ?_⟩)
      · rw [show (c : Int) + 1 = ((c + 1 : Nat) : Int) by omega]
        refine ih (c + 1) m2 (by omega) (by omega) (hf.tr1 (hf2.mono (by decide) (by decide))) (fun m3 hf3 => ?_)
        have := kp m3 hf3
        unfold a_tight at this
        rw [if_neg (fun z => hp (hi.mp z))] at this
        exact this
      · have := kp m2 (hf.tr1 (hf2.mono (by decide) (by decide)))
        unfold a_tight at this
        rw [if_pos (hi.mpr hp)] at this
        exact this
  exact f_M_tight (main 32 1 _ (by omega) (by omega) (Fr.rf.wr (by decide)) kpost)
def a_pls (n : Nat) (K : Nat → Int64) (S : Nat → Nat) : Nat → Nat
  | 0 => 0
  | s + 1 => a_pls n K S s + if pab (TT K ((S 4 : Int) + s) (S 1) (S 6)) n (3 * S 1) (fun _ => true) = true then 1 else 0
def a_peels (n : Nat) (K : Nat → Int64) (S : Nat → Nat) (z : Int) : Int := if 1 ≤ z ∧ z ≤ 200 then a_pls n K S z.toNat else -1
theorem a_pls_le {n : Nat} {K : Nat → Int64} {S : Nat → Nat} : ∀ {s : Nat}, a_pls n K S s ≤ s
  | 0 => by simp [a_pls]
  | s + 1 => by
    have := a_pls_le (n := n) (K := K) (S := S) (s := s)
    unfold a_pls
    split <;> omega
theorem c_peels {d : Nat} {P : Int → am_M → Prop} {m : am_M} {n : Nat} {K : Nat → Int64} {V S : Nat → Nat} {z : Int} (hG : GSt m n K V S) (kpost : ∀ m' : am_M, Fr CF CF2 m m' → P (a_peels n K S z) m') : am_OkI (d + 7) 95 [.inr (.inr 0), .inl z] m P := by
  unfold a_peels at kpost
  obtain ⟨s1, -, -, s4, -, -⟩ := hG.2.2.2.2.2.1
  have main : ∀ (r s : Nat) (m1 : am_M), s + r = z.toNat → 1 ≤ z → z ≤ 200 → Fr CF CF2 m m1 → am_GI (d + 7) 95 P 18 [(0, .inr (.inr 0)), (1, .inl z), (2, .inl (a_pls n K S s : Nat)), (3, .inl s)] [] m1 := by
    intro r
    induction r with
    | zero =>
      intro s m1 hs h1 h2 hf
      have kp := kpost m1 hf
      rw [if_pos ⟨h1, h2⟩, ← hs] at kp
      exact f_T_peels_18 ⟨fun _ => kp, fun y => by omega⟩
    | succ r ih =>
      intro s m1 hs h1 h2 hf
      have hG1 := hG.fr hf (by decide)
      have hle := a_pls_le (n := n) (K := K) (S := S) (s := s)
      refine f_T_peels_18 ⟨fun y => by omega, fun _ => ⟨by decide, by decide, ?_⟩⟩
      rw [show m1.1 7 4 = S 4 from hG1.set (by decide) (by decide), show m1.1 7 1 = S 1 from hG1.set (by decide) (by decide)]
      refine ⟨am_RI (by omega) (by omega), by decide, by decide, ?_⟩
      have hi := pab_iff (left := fun _ => true) (TT_ok K ((S 4 : Int) + s) (c := S 1) (S 6) n (by omega)) (by omega)
      refine c_allPeel hG1 ⟨by omega, by omega⟩ (fun m2 hp hf2 => ⟨fun _ => ⟨am_RI (by omega) (by omega), ?_⟩, fun z => absurd rfl z⟩) (fun m2 hp _ _ _ hf2 => ⟨fun z => absurd z (by decide), fun _ => ⟨am_RI (by omega) (by omega), am_RI (by omega) (by omega), ?_⟩⟩)
      · have := ih (s + 1) m2 (by omega) h1 h2 (hf.tr1 hf2)
        unfold a_pls at this
        rw [if_neg (fun z => hp (hi.mp z))] at this
        exact this
      · have := ih (s + 1) m2 (by omega) h1 h2 (hf.tr1 hf2)
        unfold a_pls at this
        rw [if_pos (hi.mpr hp)] at this
        exact this
  refine f_T_peels ⟨fun h => ?_, fun h => ⟨fun h2 => main z.toNat 0 m (by omega) (by omega) h2 Fr.rf, fun h2 => ?_⟩⟩
  · rw [if_neg (by omega)] at kpost; exact kpost m Fr.rf
  · rw [if_neg (by omega)] at kpost; exact kpost m Fr.rf
theorem r_peels {d : Nat} {P : Int → am_M → Prop} {m : am_M} {n : Nat} {K : Nat → Int64} {V S : Nat → Nat} {z : Int} (hM : MSt m n K V S) (kpost : ∀ m' : am_M, Fr MF MF2 m m' → P (a_peels n K S z) m') : am_OkI (d + 5) 178 [.inr (.inr 55), .inl z] m P := by
  unfold a_peels at kpost
  obtain ⟨s1, -, -, s4, -, -⟩ := hM.2.2.2.2.2.1
  have main : ∀ (r s : Nat) (m1 : am_M), s + r = z.toNat → 1 ≤ z → z ≤ 200 → Fr MF MF2 m m1 → am_GI (d + 5) 178 P 22 [(0, .inr (.inr 55)), (1, .inl z), (2, .inl (a_pls n K S s : Nat)), (3, .inl s)] [] m1 := by
    intro r
    induction r with
    | zero =>
      intro s m1 hs h1 h2 hf
      have kp := kpost m1 hf
      rw [if_pos ⟨h1, h2⟩, ← hs] at kp
      exact f_M_peels_22 ⟨fun _ => kp, fun y => by omega⟩
    | succ r ih =>
      intro s m1 hs h1 h2 hf
      have hM1 := hM.fr hf (by decide)
      have hle := a_pls_le (n := n) (K := K) (S := S) (s := s)
      refine f_M_peels_22 ⟨fun y => by omega, fun _ => ⟨by decide, by decide, by decide, by decide, ?_⟩⟩
      rw [show m1.1 63 4 = S 4 from hM1.set (by decide) (by decide), show m1.1 63 1 = S 1 from hM1.set (by decide) (by decide)]
      refine ⟨am_RI (by omega) (by omega), ?_⟩
      have hi := pab_iff (left := fun _ => true) (TT_ok K ((S 4 : Int) + s) (c := S 1) (S 6) n (by omega)) (by omega)
      refine r_peelsAll (wo := 0) hM1 ⟨by omega, by omega⟩ (by omega) (fun m2 hp hf2 => ⟨fun _ => ⟨am_RI (by omega) (by omega), ?_⟩, fun z => absurd rfl z⟩) (fun m2 hp hf2 => ⟨fun z => absurd z (by decide), fun _ => ⟨am_RI (by omega) (by omega), am_RI (by omega) (by omega), ?_⟩⟩)
      · have := ih (s + 1) m2 (by omega) h1 h2 (hf.tr1 (hf2.mono (by decide) (by decide)))
        unfold a_pls at this
        rw [if_neg (fun z => hp (hi.mp z))] at this
        exact this
      · have := ih (s + 1) m2 (by omega) h1 h2 (hf.tr1 (hf2.mono (by decide) (by decide)))
        unfold a_pls at this
        rw [if_pos (hi.mpr hp)] at this
        exact this
  have hf0 : Fr MF MF2 m (am_wr m 6500 0 0) := Fr.rf.wr (by decide)
  refine f_M_peels (r_isIn (fun h => ⟨fun z => absurd rfl z, fun _ => ?_⟩) (fun h1 h2 => ⟨fun _ => main z.toNat 0 _ (by omega) h1 h2 hf0, fun z => absurd (by decide) z⟩))
  rw [if_neg h] at kpost; exact kpost _ hf0
