/-! THE REFERENCE: peeling -/
theorem sorted_ext : ∀ {l1 l2 : List Nat}, l1.Pairwise (· < ·) → l2.Pairwise (· < ·) → (∀ x, x ∈ l1 ↔ x ∈ l2) → l1 = l2
  | [], [], _, _, _ => rfl
  | [], b :: l2, _, _, h => absurd ((h b).mpr List.mem_cons_self) List.not_mem_nil
  | a :: l1, [], _, _, h => absurd ((h a).mp List.mem_cons_self) List.not_mem_nil
  | a :: l1, b :: l2, h1, h2, h => by
    rw [List.pairwise_cons] at h1 h2
    have hab : a = b := by
      have ha : a ∈ b :: l2 := (h a).mp List.mem_cons_self
      have hb : b ∈ a :: l1 := (h b).mpr List.mem_cons_self
      rcases List.mem_cons.mp ha with ha | ha
      · exact ha
      · rcases List.mem_cons.mp hb with hb | hb
        · exact hb.symm
        · have := h1.1 b hb
          have := h2.1 a ha
          omega
    subst hab
    congr 1
    refine sorted_ext h1.2 h2.2 (fun x => ?_)
    have hx := h x
    simp only [List.mem_cons] at hx
    constructor
    · intro hm
      rcases hx.mp (Or.inr hm) with e | e
      · subst e
        exact absurd (h1.1 x hm) (by omega)
      · exact e
    · intro hm
      rcases hx.mpr (Or.inr hm) with e | e
      · subst e
        exact absurd (h2.1 x hm) (by omega)
      · exact e
/-- the cells of k that are alone, found by a walk through all cells -/
def pl1 (T : Nat → List Nat) (left : Nat → Bool) (n k : Nat) : Nat → List Nat
  | 0 => []
  | x + 1 => pl1 T left n k x ++ if pcnt T left x n = 1 ∧ x ∈ T k then [x] else []
theorem mem_pl1 {T : Nat → List Nat} {left : Nat → Bool} {n k x : Nat} : ∀ {N : Nat}, x ∈ pl1 T left n k N ↔ x < N ∧ pcnt T left x n = 1 ∧ x ∈ T k
  | 0 => by simp [pl1]
  | N + 1 => by
    simp only [pl1, List.mem_append, mem_pl1 (N := N)]
    by_cases h1 : pcnt T left N n = 1 ∧ N ∈ T k
    · rw [if_pos h1]
      simp only [List.mem_singleton]
      constructor
      · rintro (⟨a, b⟩ | rfl)
        · exact ⟨by omega, b⟩
        · exact ⟨by omega, h1⟩
      · rintro ⟨a, b⟩
        rcases Nat.lt_or_ge x N with h | h
        · exact Or.inl ⟨h, b⟩
        · exact Or.inr (by omega)
    · rw [if_neg h1]
      simp only [List.not_mem_nil, or_false]
      constructor
      · rintro ⟨a, b⟩; exact ⟨by omega, b⟩
      · rintro ⟨a, b⟩
        refine ⟨?_, b⟩
        rcases Nat.lt_or_ge x N with h | h
        · exact h
        · exact absurd (show pcnt T left N n = 1 ∧ N ∈ T k by rw [show N = x by omega]; exact b) h1
theorem pl1_sorted {T : Nat → List Nat} {left : Nat → Bool} {n k : Nat} : ∀ N, (pl1 T left n k N).Pairwise (· < ·)
  | 0 => List.Pairwise.nil
  | N + 1 => by
    unfold pl1
    refine List.pairwise_append.mpr ⟨pl1_sorted N, by split <;> simp, fun x hx z hz => ?_⟩
    have := (mem_pl1.mp hx).1
    split at hz
    · simp at hz; omega
    · cases hz
theorem pl1_eq {T : Nat → List Nat} {left : Nat → Bool} {n N k : Nat} (hT : TOK T n N) (hk : k < n) : pl1 T left n k N = pnew T left n k := by
  refine sorted_ext (pl1_sorted N) (List.Pairwise.sublist List.filter_sublist (hT k hk).2.1) (fun x => ?_)
  rw [mem_pl1, mem_pnew]
  exact ⟨fun h => ⟨h.2.2, h.2.1⟩, fun h => ⟨(hT k hk).2.2 x h.1, h.2, h.1⟩⟩
def LineR (m : am_M) (A : List Nat) (hd : Nat) : Prop := m.1 6535 0 = hd ∧ m.1 6536 0 = hd + A.length ∧ ∀ i x : Nat, A[i]? = some x → m.1 74 (hd + i) = x
def OutR (m : am_M) (out : List (Nat × Nat)) : Prop := m.1 6537 0 = out.length ∧ ∀ i k c : Nat, out[i]? = some (k, c) → m.1 75 i = k ∧ m.1 76 i = c
theorem LineR.fr {m m' : am_M} {A : List Nat} {hd : Nat} (h : LineR m A hd) {l1 l2 : List Nat} (hf : Fr l1 l2 m m') (h1 : 6535 ∉ l1 ∧ 6536 ∉ l1 ∧ 74 ∉ l1) : LineR m' A hd := by
  unfold LineR
  rw [hf.1 _ h1.1, hf.1 _ h1.2.1, hf.1 _ h1.2.2]
  exact h
theorem OutR.fr {m m' : am_M} {out : List (Nat × Nat)} (h : OutR m out) {l1 l2 : List Nat} (hf : Fr l1 l2 m m') (h1 : 6537 ∉ l1 ∧ 75 ∉ l1 ∧ 76 ∉ l1) : OutR m' out := by
  unfold OutR
  rw [hf.1 _ h1.1, hf.1 _ h1.2.1, hf.1 _ h1.2.2]
  exact h
theorem r_comesBehind {d : Nat} {P : am_M → Prop} {m : am_M} {c hd : Nat} {A : List Nat} (hA : LineR m A hd) (hr : hd + A.length < 512) (kpost : ∀ m' : am_M, LineR m' (A ++ [c]) hd → Fr [74, 6536] [] m m' → P m') : am_OkV (d + 1) 162 [.inr (.inr 55), .inl c] m P := by
  obtain ⟨a1, a2, a3⟩ := id hA
  refine f_M_comesBehind ?_
  rw [a2]
  refine ⟨by omega, by omega, am_RI (by omega) (by omega), kpost _ ⟨?_, ?_, fun i x hx => ?_⟩ ((Fr.rf.wr (by decide)).wr (by decide))⟩
  · rw [wr_ne _ _ _ (by decide), wr_ne _ _ _ (by decide)]; exact a1
  · rw [wr_at, if_pos rfl, List.length_append]; simp; omega
  · rw [wr_ne _ _ _ (by decide), wr_at]
    by_cases hi : i = A.length
    · subst hi
      rw [List.getElem?_append_right (by omega)] at hx
      simp at hx
      rw [if_pos (by omega), hx]
    · have hl := (List.getElem?_eq_some_iff.mp hx).1
      simp at hl
      rw [List.getElem?_append_left (by omega)] at hx
      rw [if_neg (by omega)]
      exact a3 i x hx
/-- the next cell that goes out, of a line -/
theorem r_nextLine {d : Nat} {P : Int → am_M → Prop} {T : Nat → List Nat} {n w c : Nat} {left : Nat → Bool} (hw : w ≤ 1) : ∀ (A : List Nat) (hd : Nat) (m : am_M), RefD m T n left → LineR m A hd → hd + A.length ≤ 96 → (∀ x ∈ A, x < 96) →
    ((∀ f out, pq w T n f left A out = (left, out)) → (∀ m' : am_M, Fr [6535, 6536] [] m m' → P (-1) m')) →
    (∀ (cc : Nat) (A' : List Nat) (j : Nat), A.length = A'.length + j + 1 → cc ∈ A → (∀ x ∈ A', x ∈ A) → pcnt T left cc n = 1 → (∀ f out, pq w T n (f + j + 1) left A out = pq w T n f (pset left (psum T left cc n) false) (A' ++ pnew T (pset left (psum T left cc n) false) n (psum T left cc n)) (out ++ [(psum T left cc n, cc)])) → ∀ m' : am_M, LineR m' A' (if w = 0 then hd + j + 1 else hd) → Fr [6535, 6536] [] m m' → P cc m') →
    am_GI (d + 1) 161 P 34 [(0, .inr (.inr 55)), (2, .inl w)] [] m := by
  intro A
  generalize hlen : A.length = len
  induction len generalizing A with
  | zero =>
    intro hd m hD hA hb hx kn ks
    have hA0 : A = [] := List.eq_nil_of_length_eq_zero hlen
    subst hA0
    obtain ⟨a1, a2, a3⟩ := id hA
    refine f_M_nextCell_34 ?_
    rw [a1, a2]
    refine ⟨fun _ => kn (fun f out => ?_) m Fr.rf, fun hh => absurd (by simp) hh⟩
    cases f with
    | zero => rfl
    | succ f =>
      unfold pq
      have : ppop w ([] : List Nat) = none := by
        unfold ppop
        split <;> rfl
      rw [this]
  | succ len ih =>
    intro hd m hD hA hb hx kn ks
    obtain ⟨a1, a2, a3⟩ := id hA
    obtain ⟨c0, A', hp⟩ : ∃ c0 A', ppop w A = some (c0, A') := by
      cases hp : ppop w A with
      | none =>
        have := ppop_none hp
        rw [this] at hlen
        cases hlen
      | some q => exact ⟨q.1, q.2, rfl⟩
    obtain ⟨q1, q2, q3⟩ := ppop_some hp
    have hsub : ∀ x ∈ A', x ∈ A := fun x hm => by
      rcases q3 with ⟨-, e⟩ | ⟨-, e⟩
      · rw [e]; exact List.mem_cons_of_mem _ hm
      · rw [e]; exact List.mem_append_left _ hm
    have hc96 : c0 < 96 := hx c0 q2
    -- behind the pop
    have rest : ∀ m1 : am_M, RefD m1 T n left → LineR m1 A' (if w = 0 then hd + 1 else hd) → Fr [6535, 6536] [] m m1 → (¬ pcnt T left c0 n = 1 → am_GI (d + 1) 161 P 34 [(0, .inr (.inr 55)), (2, .inl w)] [] m1) ∧ (pcnt T left c0 n = 1 → P c0 m1) := by
      intro m1 hD1 hA1 hf1
      refine ⟨fun hn1 => ih A' (by omega) (if w = 0 then hd + 1 else hd) m1 hD1 hA1 (by split <;> omega) (fun x hm => hx x (hsub x hm)) (fun hall m2 hf2 => kn (fun f out => ?_) m2 (hf1.tr1 hf2)) (fun cc A2 j e1 e2 e3 e4 e5 m2 hA2 hf2 => ks cc A2 (j + 1) (by omega) (hsub _ e2) (fun x hm => hsub x (e3 x hm)) e4 (fun f out => ?_) m2 ?_ (hf1.tr1 hf2)), fun h1 => ks c0 A' 0 (by omega) q2 hsub h1 (fun f out => ?_) m1 hA1 hf1⟩
      · cases f with
        | zero => rfl
        | succ f =>
          unfold pq
          rw [hp]
          simp only
          rw [if_neg hn1]
          exact hall f out
      · show pq w T n (f + (j + 1) + 1) left A out = _
        have e : f + (j + 1) + 1 = (f + j + 1) + 1 := by omega
        rw [e]
        conv => lhs; unfold pq
        rw [hp]
        simp only
        rw [if_neg hn1]
        exact e5 f out
      · by_cases hw0 : w = 0
        · rw [if_pos hw0] at hA2 ⊢
          rw [if_pos hw0] at hA2
          rw [show hd + (j + 1) + 1 = hd + 1 + j + 1 by omega]
          exact hA2
        · rw [if_neg hw0] at hA2 ⊢
          rw [if_neg hw0] at hA2
          exact hA2
      · rw [show f + 0 + 1 = f + 1 from rfl]
        conv => lhs; unfold pq
        rw [hp]
        simp only
        rw [if_pos h1]
    refine f_M_nextCell_34 ?_
    rw [a1, a2]
    refine ⟨fun hh => by omega, fun _ => ⟨fun hw0 => ?_, fun hw0 => ?_⟩⟩
    · rcases q3 with ⟨e, -⟩ | ⟨-, rfl⟩
      · omega
      · have hw1 : w ≠ 0 := by omega
        have e : ((hd : Int) + ((A' ++ [c0]).length : Int) - 1) = (hd : Int) + (A'.length : Int) := by simp; omega
        rw [e, show m.1 74 (hd + A'.length) = c0 from a3 A'.length c0 (by simp), (hD.2.2 c0 hc96).1]
        have hfx : Fr [6535, 6536] [] m (am_wr m 6536 0 ((hd : Int) + (A'.length : Int))) := Fr.rf.wr (by decide)
        obtain ⟨r1, r2⟩ := rest _ (hD.fr hfx (by decide)) ⟨by rw [wr_ne _ _ _ (by decide), if_neg hw1]; exact a1, by rw [wr_at, if_pos rfl, if_neg hw1], fun i x hm => by
          rw [wr_ne _ _ _ (by decide), if_neg hw1]
          have hl := (List.getElem?_eq_some_iff.mp hm).1
          exact a3 i x (by rw [List.getElem?_append_left hl]; exact hm)⟩ hfx
        exact ⟨am_RI (by omega) (by omega), by omega, by omega, by omega, by omega, fun hne => r1 (by omega), fun he => r2 (by omega)⟩
    · rcases q3 with ⟨hw1, rfl⟩ | ⟨e, -⟩
      · rw [show m.1 74 hd = c0 by have := a3 0 c0 rfl; simpa using this, (hD.2.2 c0 hc96).1]
        have hfx : Fr [6535, 6536] [] m (am_wr m 6535 0 ((hd : Int) + 1)) := Fr.rf.wr (by decide)
        obtain ⟨r1, r2⟩ := rest _ (hD.fr hfx (by decide)) ⟨by rw [wr_at, if_pos rfl, if_pos hw1]; rfl, by rw [wr_ne _ _ _ (by decide), a2, if_pos hw1]; simp; omega, fun i x hm => by
          rw [wr_ne _ _ _ (by decide), if_pos hw1]
          have := a3 (i + 1) x (by simpa using hm)
          rw [show ((hd + 1 : Nat) : Int) + (i : Int) = (hd : Int) + ((i + 1 : Nat) : Int) by omega]
          exact this⟩ hfx
        exact ⟨by omega, by omega, am_RI (by omega) (by omega), by omega, by omega, fun hne => r1 (by omega), fun he => r2 (by omega)⟩
      · omega
theorem r_nextLeast {d : Nat} {P : Int → am_M → Prop} {m : am_M} {T : Nat → List Nat} {n c : Nat} {left : Nat → Bool} (hc : c ≤ 32) (hD : RefD m T n left) (kn : pfst T left n (3 * c) 0 = none → P (-1) m) (ks : ∀ x, pfst T left n (3 * c) 0 = some x → P x m) : am_GI (d + 1) 161 P 7 [(0, .inr (.inr 55)), (1, .inl c), (3, .inl 0)] [] m := by
  have key : ∀ (r x : Nat), x + r = 3 * c → (∀ y, y < x → pcnt T left y n ≠ 1) → am_GI (d + 1) 161 P 7 [(0, .inr (.inr 55)), (1, .inl c), (3, .inl x)] [] m := by
    intro r
    induction r with
    | zero =>
      intro x hx hy
      refine f_M_nextCell_7 ⟨am_RI (by omega) (by omega), fun _ => kn (pfst_no (fun y hyN => hy y (by omega))), fun hh => by omega⟩
    | succ r ih =>
      intro x hx hy
      refine f_M_nextCell_7 ⟨am_RI (by omega) (by omega), fun hh => by omega, fun _ => ?_⟩
      rw [(hD.2.2 x (by omega)).1]
      refine ⟨by omega, by omega, fun hne => ⟨am_RI (by omega) (by omega), ih (x + 1) (by omega) (fun y hyx => ?_)⟩, fun he => ks x (pfst_eq (by omega) (by omega) hy)⟩
      by_cases hyx2 : y = x
      · rw [hyx2]; omega
      · exact hy y (by omega)
  exact key (3 * c) 0 (by omega) (fun y hy => by omega)
abbrev rpF : List Nat := [70, 71, 72, 6530, 74, 6535, 6536, 6537, 75, 76]
theorem r_peelsBy {d : Nat} {P : am_M → Prop} {m : am_M} {U T : Nat → List Nat} {n c w : Nat} {left0 : Nat → Bool} (hn : n ≤ 48) (hc : c ≤ 32) (hw : w ≤ 2) (hT : TOK T n (3 * c)) (hU : UOK U T n) (hC : RefC m U n) (hD : RefD m T n left0) (kpost : ∀ m' : am_M, RefC m' U n → RefD m' T n (pres T n (3 * c) w left0).1 → OutR m' (pres T n (3 * c) w left0).2 → Fr rpF [] m m' → P m') : am_OkV (d + 2) 163 [.inr (.inr 55), .inl c, .inl w] m P := by
  have hpc := hn
  -- 105: the cells of the key that are alone now come behind the line
  have behind : ∀ (k : Nat) (left : Nat → Bool) (hk : k < n) (kn : ∀ m2 : am_M, True → True) (r x : Nat) (A : List Nat) (hd : Nat) (m' : am_M), x + r = 3 * c → RefC m' U n → RefD m' T n left → LineR m' (A ++ pl1 T left n k x) hd → hd + A.length + (pnew T left n k).length ≤ 96 → (∀ m2 : am_M, LineR m2 (A ++ pnew T left n k) hd → Fr [74, 6536] [] m' m2 → am_OkI (d + 1) 161 [.inr (.inr 55), .inl c, .inl w] m2 (fun z2 m1 => am_GV (d + 2) 163 P 52 [(0, .inr (.inr 55)), (1, .inl c), (2, .inl w), (3, .inl z2)] [] m1)) → am_GV (d + 2) 163 P 105 [(0, .inr (.inr 55)), (1, .inl c), (2, .inl w), (4, .inl k), (5, .inl x)] [] m' := by
    intro k left hk _ r
    induction r with
    | zero =>
      intro x A hd m' hx hC' hD' hA' hb kk
      have hx3 : x = 3 * c := by omega
      subst hx3
      rw [pl1_eq hT hk] at hA'
      exact f_M_peelsBy_105 ⟨am_RI (by omega) (by omega), fun _ => kk m' hA' Fr.rf, fun hh => by omega⟩
    | succ r ih =>
      intro x A hd m' hx hC' hD' hA' hb kk
      have hlen : (pl1 T left n k x).length + (if pcnt T left x n = 1 ∧ x ∈ T k then 1 else 0) ≤ (pnew T left n k).length := by
        rw [← pl1_eq hT hk]
        have mono : ∀ (r2 y : Nat), (pl1 T left n k y).length ≤ (pl1 T left n k (y + r2)).length := by
          intro r2
          induction r2 with
          | zero => intro y; exact Nat.le_refl _
          | succ r2 ih2 =>
            intro y
            have := ih2 y
            rw [show y + (r2 + 1) = (y + r2) + 1 from rfl, pl1, List.length_append]
            omega
        have h1 := mono r (x + 1)
        rw [show x + 1 + r = 3 * c by omega] at h1
        have h2 : (pl1 T left n k (x + 1)).length = (pl1 T left n k x).length + (if pcnt T left x n = 1 ∧ x ∈ T k then 1 else 0) := by
          rw [pl1, List.length_append]
          split <;> rfl
        omega
      refine f_M_peelsBy_105 ⟨am_RI (by omega) (by omega), fun hh => by omega, fun _ => ?_⟩
      rw [(hD'.2.2 x (by omega)).1]
      refine ⟨by omega, by omega, fun hne => ⟨am_RI (by omega) (by omega), ih (x + 1) A hd m' (by omega) hC' hD' ?_ hb kk⟩, fun he => r_isOf (d := d) hn hT hU hC' hk ?_⟩
      · rw [pl1, if_neg (fun z => hne (by omega)), List.append_nil]
        exact hA'
      · by_cases hxk : x ∈ T k
        · rw [if_pos hxk]
          have h1 : pcnt T left x n = 1 ∧ x ∈ T k := ⟨by omega, hxk⟩
          rw [if_pos h1] at hlen
          refine ⟨fun hz => absurd hz (by decide), fun _ => r_comesBehind (d := d) hA' (by rw [List.length_append]; omega) (fun m2 hA2 hf2 => ⟨am_RI (by omega) (by omega), ih (x + 1) A hd m2 (by omega) (hC'.fr hf2 (by decide)) (hD'.fr hf2 (by decide)) ?_ hb (fun m3 hA3 hf3 => kk m3 hA3 (hf2.tr1 hf3))⟩)⟩
          rw [pl1, if_pos h1, ← List.append_assoc]
          exact hA2
        · rw [if_neg hxk]
          refine ⟨fun _ => ⟨am_RI (by omega) (by omega), ih (x + 1) A hd m' (by omega) hC' hD' ?_ hb kk⟩, fun hz => absurd rfl hz⟩
          rw [pl1, if_neg (fun z => hxk z.2), List.append_nil]
          exact hA'
  -- one cell goes out
  have goes : ∀ (x : Nat) (left : Nat → Bool) (A : List Nat) (hd : Nat) (out : List (Nat × Nat)) (m' : am_M), x < 96 → pcnt T left x n = 1 → RefC m' U n → RefD m' T n left → LineR m' A hd → OutR m' out → out.length + pleft left n ≤ n → hd + A.length + pbig T left n (3 * c) ≤ 96 → Fr rpF [] m m' →
      (∀ m2 : am_M, RefC m2 U n → RefD m2 T n (pset left (psum T left x n) false) → LineR m2 (A ++ pnew T (pset left (psum T left x n) false) n (psum T left x n)) hd → OutR m2 (out ++ [(psum T left x n, x)]) → Fr rpF [] m m2 → am_OkI (d + 1) 161 [.inr (.inr 55), .inl c, .inl w] m2 (fun z2 m1 => am_GV (d + 2) 163 P 52 [(0, .inr (.inr 55)), (1, .inl c), (2, .inl w), (3, .inl z2)] [] m1)) →
      am_GV (d + 2) 163 P 52 [(0, .inr (.inr 55)), (1, .inl c), (2, .inl w), (3, .inl x)] [] m' := by
    intro x left A hd out m' hx h1 hC' hD' hA' hO' hol hb hf kk
    obtain ⟨k, k1, k2, k3, k4, k5, k6⟩ := palone h1
    rw [k5] at kk
    have hpo := pleft_off k1 k2
    have hbig := pbig_set (T := T) k1 k2 (3 * c)
    rw [pnew_len hT k1] at hbig
    refine f_M_peelsBy_52 ⟨fun hh => by omega, fun _ => ?_⟩
    rw [hO'.1, (hD'.2.2 x hx).2, k5]
    have hfx : Fr [75, 76, 6537] [] m' (am_wr (am_wr (am_wr m' 75 (out.length : Int) (k : Int)) 76 (out.length : Int) (x : Int)) 6537 0 ((out.length : Int) + 1)) := ((Fr.rf.wr (by decide)).wr (by decide)).wr (by decide)
    refine ⟨by omega, by omega, by omega, by omega, by omega, by omega, am_RI (by omega) (by omega), r_takesOut (d := d) hn (by omega) hT hU (hC'.fr hfx (by decide)) (hD'.fr hfx (by decide)) k1 k2 (fun m2 hD2 hf2 => ?_)⟩
    have hO2 : OutR m2 (out ++ [(k, x)]) := by
      refine OutR.fr ⟨?_, fun i k' c' hm => ?_⟩ hf2 (by decide)
      · rw [wr_at, if_pos rfl, List.length_append]; simp
      · by_cases hi : i = out.length
        · subst hi
          rw [List.getElem?_append_right (by omega)] at hm
          simp at hm
          exact ⟨by rw [wr_ne _ _ _ (by decide), wr_ne _ _ _ (by decide), wr_at, if_pos rfl, hm.1], by rw [wr_ne _ _ _ (by decide), wr_at, if_pos rfl, hm.2]⟩
        · have hl := (List.getElem?_eq_some_iff.mp hm).1
          simp at hl
          rw [List.getElem?_append_left (by omega)] at hm
          obtain ⟨o1, o2⟩ := hO'.2 i k' c' hm
          exact ⟨by rw [wr_ne _ _ _ (by decide), wr_ne _ _ _ (by decide), wr_at, if_neg (by omega)]; exact o1, by rw [wr_ne _ _ _ (by decide), wr_at, if_neg (by omega), wr_ne _ _ _ (by decide)]; exact o2⟩
    have hff : Fr rpF [] m m2 := (hf.tr1 (hfx.mono (by decide) (by decide))).tr1 (hf2.mono (by decide) (by decide))
    have hA2 : LineR m2 (A ++ pl1 T (pset left k false) n k 0) hd := by
      rw [pl1, List.append_nil]
      exact (hA'.fr hfx (by decide)).fr hf2 (by decide)
    refine behind k (pset left k false) k1 (fun _ h => h) (3 * c) 0 A hd m2 (by omega) ((hC'.fr hfx (by decide)).fr hf2 (by decide)) hD2 hA2 (by omega) (fun m3 hA3 hf3 => kk m3 (((hC'.fr hfx (by decide)).fr hf2 (by decide)).fr hf3 (by decide)) (hD2.fr hf3 (by decide)) hA3 (hO2.fr hf3 (by decide)) (hff.tr1 (hf3.mono (by decide) (by decide))))
  -- 17: the line at first
  have first : ∀ (r x : Nat) (m' : am_M), x + r = 3 * c → LineR m' (pl0 T left0 n x) 0 → Fr [74, 6535, 6536, 6537] [] m m' → (∀ m2 : am_M, LineR m2 (pl0 T left0 n (3 * c)) 0 → Fr [74, 6536] [] m' m2 → am_OkI (d + 1) 161 [.inr (.inr 55), .inl c, .inl w] m2 (fun z2 m1 => am_GV (d + 2) 163 P 52 [(0, .inr (.inr 55)), (1, .inl c), (2, .inl w), (3, .inl z2)] [] m1)) → am_GV (d + 2) 163 P 17 [(0, .inr (.inr 55)), (1, .inl c), (2, .inl w), (3, .inl x)] [] m' := by
    intro r
    induction r with
    | zero =>
      intro x m' hx hA' hf kk
      have hx3 : x = 3 * c := by omega
      subst hx3
      exact f_M_peelsBy_17 ⟨am_RI (by omega) (by omega), fun _ => kk m' hA' Fr.rf, fun hh => by omega⟩
    | succ r ih =>
      intro x m' hx hA' hf kk
      have hll := pl0_len (T := T) (left := left0) (n := n) x
      refine f_M_peelsBy_17 ⟨am_RI (by omega) (by omega), fun hh => by omega, fun _ => ?_⟩
      rw [((hD.fr hf (by decide)).2.2 x (by omega)).1]
      refine ⟨by omega, by omega, fun hne => ⟨am_RI (by omega) (by omega), ih (x + 1) m' (by omega) ?_ hf kk⟩, fun he => r_comesBehind (d := d) hA' (by omega) (fun m2 hA2 hf2 => ⟨am_RI (by omega) (by omega), ih (x + 1) m2 (by omega) ?_ (hf.tr hf2 (by decide) (by decide) (by decide) (by decide)) (fun m3 hA3 hf3 => kk m3 hA3 (hf2.tr1 hf3))⟩)⟩
      · rw [pl0, if_neg (by omega), List.append_nil]; exact hA'
      · rw [pl0, if_pos (by omega)]; exact hA2
  have hb0 := pl0_len (T := T) (left := left0) (n := n) (3 * c)
  have hpl : pleft left0 n ≤ n := pleft_le
  have hfx : Fr [74, 6535, 6536, 6537] [] m (am_wr (am_wr (am_wr m 6535 0 0) 6536 0 0) 6537 0 0) := ((Fr.rf.wr (by decide)).wr (by decide)).wr (by decide)
  have hO1 : OutR (am_wr (am_wr (am_wr m 6535 0 0) 6536 0 0) 6537 0 0) [] := ⟨by rw [wr_at, if_pos rfl]; rfl, fun i k' c' hm => by simp at hm⟩
  refine f_M_peelsBy (first (3 * c) 0 _ (by omega) ⟨?_, ?_, fun i x hm => by simp [pl0] at hm⟩ hfx (fun m2 hA2 hf2 => ?_))
  · rw [wr_ne _ _ _ (by decide), wr_ne _ _ _ (by decide), wr_at, if_pos rfl]; rfl
  · rw [wr_ne _ _ _ (by decide), wr_at, if_pos rfl]; rfl
  · have hC2 : RefC m2 U n := (hC.fr hfx (by decide)).fr hf2 (by decide)
    have hD2 : RefD m2 T n left0 := (hD.fr hfx (by decide)).fr hf2 (by decide)
    have hO2 : OutR m2 [] := hO1.fr hf2 (by decide)
    have hff2 : Fr rpF [] m m2 := (hfx.mono (by decide) (by decide)).tr1 (hf2.mono (by decide) (by decide))
    by_cases hw2 : w = 2
    · -- the least one
      have kp : ∀ m' : am_M, RefC m' U n → RefD m' T n (plst T n (3 * c) n left0 []).1 → OutR m' (plst T n (3 * c) n left0 []).2 → Fr rpF [] m m' → P m' := by
        unfold pres at kpost
        rw [if_pos hw2] at kpost
        exact kpost
      have main : ∀ (f : Nat) (left : Nat → Bool) (A : List Nat) (out : List (Nat × Nat)) (m' : am_M), pleft left n ≤ f → RefC m' U n → RefD m' T n left → LineR m' A 0 → OutR m' out → out.length + pleft left n ≤ n → A.length + pbig T left n (3 * c) ≤ 96 → Fr rpF [] m m' → (∀ m'' : am_M, RefC m'' U n → RefD m'' T n (plst T n (3 * c) f left out).1 → OutR m'' (plst T n (3 * c) f left out).2 → Fr rpF [] m m'' → P m'') → am_OkI (d + 1) 161 [.inr (.inr 55), .inl c, .inl w] m' (fun z2 m1 => am_GV (d + 2) 163 P 52 [(0, .inr (.inr 55)), (1, .inl c), (2, .inl w), (3, .inl z2)] [] m1) := by
        intro f
        induction f with
        | zero =>
          intro left A out m' hpf hC' hD' hA' hO' hol hb hf kp
          refine f_M_nextCell ⟨fun hh => by omega, fun _ => r_nextLeast hc hD' (fun hno => f_M_peelsBy_52 ⟨fun _ => kp m' hC' hD' hO' hf, fun hh => absurd rfl hh⟩) (fun x hx => ?_)⟩
          obtain ⟨b1, b2, b3, b4⟩ := pfst_spec.1 x hx
          obtain ⟨k, k1, k2, -⟩ := palone b3
          have := pleft_zero.mp (by omega : pleft left n = 0) k k1
          rw [k2] at this
          cases this
        | succ f ih =>
          intro left A out m' hpf hC' hD' hA' hO' hol hb hf kp
          refine f_M_nextCell ⟨fun hh => by omega, fun _ => r_nextLeast hc hD' (fun hno => f_M_peelsBy_52 ⟨fun _ => ?_, fun hh => absurd rfl hh⟩) (fun x hx => ?_)⟩
          · have kp := kp m' hC'
            unfold plst at kp
            rw [hno] at kp
            exact kp hD' hO' hf
          · obtain ⟨b1, b2, b3, b4⟩ := pfst_spec.1 x hx
            obtain ⟨k, k1, k2, k3, k4, k5, k6⟩ := palone b3
            have hpo := pleft_off k1 k2
            have hbig := pbig_set (T := T) k1 k2 (3 * c)
            rw [pnew_len hT k1] at hbig
            refine goes x left A 0 out m' (by omega) b3 hC' hD' hA' hO' hol (by omega) hf (fun m3 hC3 hD3 hA3 hO3 hf3 => ih _ _ _ m3 (by rw [k5]; omega) hC3 hD3 hA3 hO3 (by rw [k5, List.length_append]; simp; omega) (by rw [k5, List.length_append]; omega) hf3 (fun m4 => ?_))
            have kp := kp m4
            unfold plst at kp
            rw [hx] at kp
            exact kp
      exact main n left0 _ [] m2 hpl hC2 hD2 hA2 hO2 (by simpa using hpl) (by omega) hff2 kp
    · have kp : ∀ m' : am_M, RefC m' U n → RefD m' T n (pq w T n 96 left0 (pl0 T left0 n (3 * c)) []).1 → OutR m' (pq w T n 96 left0 (pl0 T left0 n (3 * c)) []).2 → Fr rpF [] m m' → P m' := by
        unfold pres at kpost
        rw [if_neg hw2] at kpost
        exact kpost
      have main : ∀ (F f : Nat) (left : Nat → Bool) (A : List Nat) (hd : Nat) (out : List (Nat × Nat)) (m' : am_M), f ≤ F → pbig T left n (3 * c) + A.length ≤ f → RefC m' U n → RefD m' T n left → LineR m' A hd → OutR m' out → out.length + pleft left n ≤ n → hd + A.length + pbig T left n (3 * c) ≤ 96 → (∀ x ∈ A, x < 96) → Fr rpF [] m m' → (∀ m'' : am_M, RefC m'' U n → RefD m'' T n (pq w T n f left A out).1 → OutR m'' (pq w T n f left A out).2 → Fr rpF [] m m'' → P m'') → am_OkI (d + 1) 161 [.inr (.inr 55), .inl c, .inl w] m' (fun z2 m1 => am_GV (d + 2) 163 P 52 [(0, .inr (.inr 55)), (1, .inl c), (2, .inl w), (3, .inl z2)] [] m1) := by
        intro F
        induction F with
        | zero =>
          intro f left A hd out m' hfF hphi hC' hD' hA' hO' hol hb hx hf kp
          have hf0 : f = 0 := by omega
          subst hf0
          refine f_M_nextCell ⟨fun _ => r_nextLine (c := c) (by omega) A hd m' hD' hA' (by omega) hx (fun hall m3 hf3 => f_M_peelsBy_52 ⟨fun _ => kp m3 (hC'.fr hf3 (by decide)) (hD'.fr hf3 (by decide)) (hO'.fr hf3 (by decide)) (hf.tr1 (hf3.mono (by decide) (by decide))), fun hh => absurd rfl hh⟩) (fun cc A' j e1 e2 e3 e4 e5 m3 hA3 hf3 => by omega), fun hh => by omega⟩
        | succ F ih =>
          intro f left A hd out m' hfF hphi hC' hD' hA' hO' hol hb hx hf kp
          refine f_M_nextCell ⟨fun _ => r_nextLine (c := c) (by omega) A hd m' hD' hA' (by omega) hx (fun hall m3 hf3 => f_M_peelsBy_52 ⟨fun _ => ?_, fun hh => absurd rfl hh⟩) (fun cc A' j e1 e2 e3 e4 e5 m3 hA3 hf3 => ?_), fun hh => by omega⟩
          · have kp := kp m3
            rw [hall f out] at kp
            exact kp (hC'.fr hf3 (by decide)) (hD'.fr hf3 (by decide)) (hO'.fr hf3 (by decide)) (hf.tr1 (hf3.mono (by decide) (by decide)))
          · obtain ⟨k, k1, k2, k3, k4, k5, k6⟩ := palone e4
            have hpo := pleft_off k1 k2
            have hbig := pbig_set (T := T) k1 k2 (3 * c)
            rw [pnew_len hT k1] at hbig
            obtain ⟨g, rfl⟩ : ∃ g, f = g + j + 1 := ⟨f - j - 1, by omega⟩
            have hhd : (if w = 0 then hd + j + 1 else hd) + A'.length ≤ hd + A.length := by split <;> omega
            refine goes cc left A' (if w = 0 then hd + j + 1 else hd) out m3 (hx cc e2) e4 (hC'.fr hf3 (by decide)) (hD'.fr hf3 (by decide)) hA3 (hO'.fr hf3 (by decide)) hol (by omega) (hf.tr1 (hf3.mono (by decide) (by decide))) (fun m4 hC4 hD4 hA4 hO4 hf4 => ih g _ _ _ _ m4 (by omega) (by rw [k5, List.length_append]; omega) hC4 hD4 hA4 hO4 (by rw [k5, List.length_append]; simp; omega) (by rw [k5, List.length_append]; omega) (fun x hm => ?_) hf4 (fun m5 => ?_))
            · rcases List.mem_append.mp hm with h | h
              · exact hx x (e3 x h)
              · rw [k5] at h
                have := (hT k k1).2.2 x (mem_pnew.mp h).1
                omega
            · have kp := kp m5
              rw [e5 g out] at kp
              exact kp
      exact main 96 96 left0 _ 0 [] m2 (by omega) (by omega) hC2 hD2 hA2 hO2 (by simpa using hpl) (by omega) (fun x hm => by have := (mem_pl0.mp hm).1; omega) hff2 kp
