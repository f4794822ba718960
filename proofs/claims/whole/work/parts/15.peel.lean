/-! PEELING, the class's -/
def LineA (m : am_M) (A : List Nat) (hd : Nat) : Prop := m.1 3704 0 = hd ∧ m.1 3705 0 = hd + A.length ∧ ∀ i x : Nat, A[i]? = some x → m.1 30 (hd + i) = x
def OutM (m : am_M) (out : List (Nat × Nat)) : Prop := m.1 3702 0 = out.length ∧ ∀ i k c : Nat, out[i]? = some (k, c) → m.1 28 i = k ∧ m.1 29 i = c
theorem LineA.fr {m m' : am_M} {A : List Nat} {hd : Nat} (h : LineA m A hd) {l1 l2 : List Nat} (hf : Fr l1 l2 m m') (h1 : 3704 ∉ l1 ∧ 3705 ∉ l1 ∧ 30 ∉ l1) : LineA m' A hd := by
  unfold LineA
  rw [hf.1 _ h1.1, hf.1 _ h1.2.1, hf.1 _ h1.2.2]
  exact h
theorem OutM.fr {m m' : am_M} {out : List (Nat × Nat)} (h : OutM m out) {l1 l2 : List Nat} (hf : Fr l1 l2 m m') (h1 : 3702 ∉ l1 ∧ 28 ∉ l1 ∧ 29 ∉ l1) : OutM m' out := by
  unfold OutM
  rw [hf.1 _ h1.1, hf.1 _ h1.2.1, hf.1 _ h1.2.2]
  exact h
theorem c_lineUp {d : Nat} {P : am_M → Prop} {m : am_M} {T : Nat → List Nat} {n N c : Nat} {left : Nat → Bool} {A : List Nat} {hd : Nat} (hL : RowL m T n N) (hD : RowD m T n left) (hc : c < N) (hA : LineA m A hd) (hr : pcnt T left c n = 1 → hd + A.length < 96) (kpost : ∀ m' : am_M, LineA m' (A ++ if pcnt T left c n = 1 then [c] else []) hd → Fr [30, 3705] [] m m' → P m') : am_OkV (d + 3) 33 [.inr (.inr 27), .inr (.inr 20), .inl c] m P := by
  refine f_Peeling_lineUp (c_isAlone hL hD hc ?_)
  by_cases h1 : pcnt T left c n = 1
  · rw [if_pos h1] at kpost ⊢
    have hr := hr h1
    obtain ⟨a1, a2, a3⟩ := id hA
    rw [a2]
    refine ⟨fun hz => absurd hz (by decide), fun _ => ⟨fun hn => by omega, fun _ => ⟨by omega, by omega, am_RI (by omega) (by omega), kpost _ ⟨?_, ?_, fun i x hx => ?_⟩ ((Fr.rf.wr (by decide)).wr (by decide))⟩⟩⟩
    · rw [wr_ne _ _ _ (by decide), wr_ne _ _ _ (by decide)]; exact a1
    · rw [wr_at, if_pos rfl, List.length_append]; simp; omega
    · rw [wr_ne _ _ _ (by decide), wr_at]
      by_cases hi : i = A.length
      · subst hi
        rw [List.getElem?_append_right (by omega)] at hx
        simp at hx
        rw [if_pos (by omega), hx]
      · have hl := (List.getElem?_eq_some_iff.mp hx).1
        simp at hl
        rw [List.getElem?_append_left (by omega)] at hx
        rw [if_neg (by omega)]
        exact a3 i x hx
  · rw [if_neg h1] at kpost ⊢
    exact ⟨fun _ => kpost m (by rw [List.append_nil]; exact hA) Fr.rf, fun hz => absurd rfl hz⟩
theorem c_leaveLine {d : Nat} {P : Int → am_M → Prop} {m : am_M} {w hd c : Nat} {A A' : List Nat} (hw : w ≤ 1) (hA : LineA m A hd) (hb : hd + A.length ≤ 96) (hp : ppop w A = some (c, A')) (kpost : ∀ m' : am_M, LineA m' A' (if w = 0 then hd + 1 else hd) → Fr [3704, 3705] [] m m' → P c m') : am_OkI (d + 1) 34 [.inr (.inr 27), .inl w] m P := by
  obtain ⟨h1, h2, h3⟩ := ppop_some hp
  obtain ⟨a1, a2, a3⟩ := id hA
  refine f_Peeling_leaveLine ?_
  rw [a1, a2]
  rcases h3 with ⟨rfl, rfl⟩ | ⟨hw0, rfl⟩
  · refine ⟨fun _ => ?_, fun hz => absurd rfl hz⟩
    have e : ((hd : Int) + 1 - 1) = (hd : Int) := by omega
    rw [e]
    have ec : m.1 30 hd = c := by have := a3 0 c rfl; simpa using this
    rw [ec]
    refine ⟨am_RI (by omega) (by omega), am_RI (by omega) (by omega), by omega, by simp at hb; omega, kpost _ ⟨?_, ?_, fun i x hx => ?_⟩ (Fr.rf.wr (by decide))⟩
    · rw [wr_at, if_pos rfl]; simp
    · rw [wr_ne _ _ _ (by decide), a2]; simp; omega
    · rw [wr_ne _ _ _ (by decide)]
      have := a3 (i + 1) x (by simpa using hx)
      simp only [if_pos]
      rw [show ((hd + 1 : Nat) : Int) + (i : Int) = (hd : Int) + ((i + 1 : Nat) : Int) by omega]
      exact this
  · have hw1 : w = 1 := by omega
    subst hw1
    refine ⟨fun hz => absurd hz (by decide), fun _ => ?_⟩
    have e : ((hd : Int) + ((A' ++ [c]).length : Int) - 1) = (hd : Int) + (A'.length : Int) := by simp; omega
    rw [e]
    have ec : m.1 30 (hd + A'.length) = c := a3 A'.length c (by simp)
    rw [ec]
    simp at hb
    refine ⟨am_RI (by omega) (by omega), by omega, by omega, kpost _ ⟨?_, ?_, fun i x hx => ?_⟩ (Fr.rf.wr (by decide))⟩
    · rw [wr_ne _ _ _ (by decide)]; simpa using a1
    · rw [wr_at, if_pos rfl]; simp
    · rw [wr_ne _ _ _ (by decide)]
      have hl := (List.getElem?_eq_some_iff.mp hx).1
      simpa using a3 i x (by rw [List.getElem?_append_left hl]; exact hx)
theorem c_goOut {d : Nat} {P : am_M → Prop} {m : am_M} {T : Nat → List Nat} {n N c : Nat} {left : Nat → Bool} {out : List (Nat × Nat)} (hL : RowL m T n N) (hD : RowD m T n left) (hO : OutM m out) (hc : c < 96) (h1 : pcnt T left c n = 1) (ho : out.length + pleft left n ≤ n) (kpost : ∀ m' : am_M, RowL m' T n N → RowD m' T n (pset left (psum T left c n) false) → OutM m' (out ++ [(psum T left c n, c)]) → Fr [25, 26, 24, 3007, 28, 29, 3702] [] m m' → P m') : am_OkV (d + 2) 36 [.inr (.inr 27), .inr (.inr 20), .inl ((psum T left c n : Nat) : Int), .inl c] m P := by
  obtain ⟨k, k1, k2, k3, k4, k5, k6⟩ := palone h1
  have hn : n ≤ 48 := hL.2.2.1
  rw [k5] at kpost ⊢
  have hpl : 1 ≤ pleft left n := by
    rcases Nat.eq_zero_or_pos (pleft left n) with h | h
    · have := pleft_zero.mp h k k1
      rw [k2] at this
      cases this
    · exact h
  refine f_Peeling_goOut (c_takeOff hL hD k1 k2 (fun m1 hL1 hD1 hf1 => ?_))
  have e : m1.1 3702 0 = out.length := by rw [hf1.1 _ (by decide)]; exact hO.1
  rw [e]
  refine ⟨fun hz => by omega, fun _ => ⟨by omega, by omega, by omega, by omega, am_RI (by omega) (by omega), ?_⟩⟩
  have hfx : Fr [28, 29, 3702] [] m1 (am_wr (am_wr (am_wr m1 28 (out.length : Int) (k : Int)) 29 (out.length : Int) (c : Int)) 3702 0 ((out.length : Int) + 1)) := ((Fr.rf.wr (by decide)).wr (by decide)).wr (by decide)
  refine kpost _ (hL1.fr hfx (by decide)) (hD1.fr hfx (by decide)) ⟨?_, fun i k' c' hx => ?_⟩ (hf1.tr hfx (by decide) (by decide) (by decide) (by decide))
  · rw [wr_at, if_pos rfl, List.length_append]; simp
  · by_cases hi : i = out.length
    · subst hi
      rw [List.getElem?_append_right (by omega)] at hx
      simp at hx
      exact ⟨by rw [wr_ne _ _ _ (by decide), wr_ne _ _ _ (by decide), wr_at, if_pos rfl, hx.1], by rw [wr_ne _ _ _ (by decide), wr_at, if_pos rfl, hx.2]⟩
    · have hl := (List.getElem?_eq_some_iff.mp hx).1
      simp at hl
      rw [List.getElem?_append_left (by omega)] at hx
      obtain ⟨o1, o2⟩ := hO.2 i k' c' hx
      exact ⟨by rw [wr_ne _ _ _ (by decide), wr_ne _ _ _ (by decide), wr_at, if_neg (by omega), hf1.1 _ (by decide)]; exact o1, by rw [wr_ne _ _ _ (by decide), wr_at, if_neg (by omega), wr_ne _ _ _ (by decide), hf1.1 _ (by decide)]; exact o2⟩
theorem pleft_off {left : Nat → Bool} {n k : Nat} (hk : k < n) (hl : left k = true) : pleft (pset left k false) n + 1 = pleft left n := by
  have := pleft_set (left := left) (b := false) hk
  rw [if_pos hl, if_neg (by decide)] at this
  omega
abbrev runF : List Nat := [25, 26, 24, 3007, 28, 29, 3702, 30, 3704, 3705]
theorem c_runLine {d : Nat} {P : am_M → Prop} {m : am_M} {T : Nat → List Nat} {n N w : Nat} {left0 : Nat → Bool} (hw : w ≤ 1) (hL : RowL m T n N) (hD : RowD m T n left0) (hO : OutM m []) (kpost : ∀ m' : am_M, RowL m' T n N → RowD m' T n (pq w T n 96 left0 (pl0 T left0 n N) []).1 → OutM m' (pq w T n 96 left0 (pl0 T left0 n N) []).2 → Fr runF [] m m' → P m') : am_OkV (d + 4) 32 [.inr (.inr 27), .inr (.inr 20), .inl w] m P := by
  have hN : N ≤ 96 := hL.2.2.2.1
  have hn : n ≤ 48 := hL.2.2.1
  have hT : TOK T n N := hL.2.2.2.2.1
  -- the main loop
  have main : ∀ (f i hd : Nat) (left : Nat → Bool) (A : List Nat) (out : List (Nat × Nat)) (m' : am_M), i + f = 96 → pbig T left n N + A.length ≤ f → hd ≤ i → (w ≠ 0 → hd = 0) → (∀ x ∈ A, x < N) → out.length + pleft left n ≤ n → RowL m' T n N → RowD m' T n left → LineA m' A hd → OutM m' out → Fr runF [] m m' → (∀ m'' : am_M, RowL m'' T n N → RowD m'' T n (pq w T n f left A out).1 → OutM m'' (pq w T n f left A out).2 → Fr runF [] m m'' → P m'') → am_GV (d + 4) 32 P 34 [(0, .inr (.inr 27)), (1, .inr (.inr 20)), (2, .inl w), (3, .inl i)] [] m' := by
    intro f
    induction f with
    | zero =>
      intro i hd left A out m' hi hphi hh hh0 hAN hol hL' hD' hA' hO' hf kp
      refine f_Peeling_runLine_34 ⟨fun _ => kp m' hL' hD' hO' hf, fun hn => by omega⟩
    | succ f ih =>
      intro i hd left A out m' hi hphi hh hh0 hAN hol hL' hD' hA' hO' hf kp
      obtain ⟨a1, a2, a3⟩ := id hA'
      refine f_Peeling_runLine_34 ⟨fun hn => by omega, fun _ => ?_⟩
      rw [a1, a2]
      cases hp : ppop w A with
      | none =>
        have hA0 := ppop_none hp
        subst hA0
        have kp2 := kp m' hL'
        simp only [pq, hp] at kp2
        exact ⟨fun _ => kp2 hD' hO' hf, fun hn => absurd (by simp) hn⟩
      | some cA =>
        obtain ⟨c, A'⟩ := cA
        obtain ⟨q1, q2, q3⟩ := ppop_some hp
        have hcN : c < N := hAN c q2
        have hAN' : ∀ x ∈ A', x < N := fun x hx => hAN x (by
          rcases q3 with ⟨-, e⟩ | ⟨-, e⟩
          · rw [e]; exact List.mem_cons_of_mem _ hx
          · rw [e]; exact List.mem_append_left _ hx)
        refine ⟨fun hn => by omega, fun _ => c_leaveLine (d := d + 2) hw hA' (by omega) hp (fun m1 hA1 hf1 => ?_)⟩
        have hD1 : RowD m1 T n left := hD'.fr hf1 (by decide)
        have hL1 : RowL m1 T n N := hL'.fr hf1 (by decide)
        have hO1 : OutM m1 out := hO'.fr hf1 (by decide)
        have hff1 : Fr runF [] m m1 := hf.tr1 (hf1.mono (by decide) (by decide))
        refine c_loneKey (d := d + 2) hL1 hD1 hcN ?_
        by_cases h1 : pcnt T left c n = 1
        · rw [if_pos h1]
          refine ⟨fun hz => by omega, fun _ => c_goOut (d := d + 1) hL1 hD1 hO1 (by omega) h1 hol (fun m2 hL2 hD2 hO2 hf2 => ?_)⟩
          obtain ⟨k, k1, k2, k3, k4, k5, k6⟩ := palone h1
          rw [k5] at hD2 hO2 ⊢
          have kp2 : ∀ m'' : am_M, RowL m'' T n N → RowD m'' T n (pq w T n f (pset left k false) (A' ++ pnew T (pset left k false) n k) (out ++ [(k, c)])).1 → OutM m'' (pq w T n f (pset left k false) (A' ++ pnew T (pset left k false) n k) (out ++ [(k, c)])).2 → Fr runF [] m m'' → P m'' := by
            intro m''
            have := kp m''
            simp only [pq, hp] at this
            rw [if_pos h1, k5] at this
            exact this
          refine ⟨am_RI (by omega) (by omega), ?_⟩
          have hbig := pbig_set (T := T) k1 k2 N
          rw [pnew_len hT k1] at hbig
          have hA2 : LineA m2 A' (if w = 0 then hd + 1 else hd) := hA1.fr hf2 (by decide)
          have hff2 : Fr runF [] m m2 := hff1.tr1 (hf2.mono (by decide) (by decide))
          generalize hhd : (if w = 0 then hd + 1 else hd) = hd2 at hA2
          have hhd1 : hd2 ≤ i + 1 := by rw [← hhd]; split <;> omega
          have hhd0 : w ≠ 0 → hd2 = 0 := fun hw0 => by rw [← hhd, if_neg hw0]; exact hh0 hw0
          obtain ⟨hk22, hk21⟩ := hL2.2.2.2.2.2 k k1
          have hTk := hT k k1
          have inner : ∀ (l : List Nat) (j : Nat) (B : List Nat) (m3 : am_M), (T k).drop j = l → Fr [30, 3705] [] m2 m3 → LineA m3 B hd2 → hd2 + B.length + (l.filter (fun x => decide (pcnt T (pset left k false) x n = 1))).length ≤ 96 → (∀ m4 : am_M, Fr [30, 3705] [] m2 m4 → LineA m4 (B ++ l.filter (fun x => decide (pcnt T (pset left k false) x n = 1))) hd2 → am_GV (d + 4) 32 P 34 [(0, .inr (.inr 27)), (1, .inr (.inr 20)), (2, .inl w), (3, .inl ((i : Int) + 1))] [] m4) → am_GV (d + 4) 32 P 87 [(0, .inr (.inr 27)), (1, .inr (.inr 20)), (2, .inl w), (3, .inl i), (5, .inl k), (6, .inl (3 * k + j))] [] m3 := by
            intro l
            induction l with
            | nil =>
              intro j B m3 hdr hf3 hA3 hb kk
              have hjl : (T k).length ≤ j := by
                have := congrArg List.length hdr
                rw [List.length_drop] at this
                simp at this
                omega
              refine f_Peeling_runLine_87 ?_
              rw [show m3.1 22 k = (T k).length by rw [hf3.1 _ (by decide)]; exact hk22]
              refine ⟨am_RI (by omega) (by omega), by omega, by omega, am_RI (by omega) (by omega), fun _ => ⟨am_RI (by omega) (by omega), kk m3 hf3 (by simpa using hA3)⟩, fun hn => by omega⟩
            | cons a l ihl =>
              intro j B m3 hdr hf3 hA3 hb kk
              have ha0 : (T k)[j]? = some a := by
                have := congrArg (fun z => z[0]?) hdr
                simpa using this
              have hjl : j < (T k).length := (List.getElem?_eq_some_iff.mp ha0).1
              have haN : a < N := hTk.2.2 a (List.mem_of_getElem? ha0)
              have hlen3 := hTk.1
              refine f_Peeling_runLine_87 ?_
              rw [show m3.1 22 k = (T k).length by rw [hf3.1 _ (by decide)]; exact hk22, show m3.1 21 (3 * k + j) = a by rw [hf3.1 _ (by decide)]; exact hk21 j a ha0]
              refine ⟨am_RI (by omega) (by omega), by omega, by omega, am_RI (by omega) (by omega), fun hn => by omega, fun _ => ⟨by omega, by omega, c_lineUp (d := d) (hL2.fr hf3 (by decide)) (hD2.fr hf3 (by decide)) haN hA3 (fun h1' => ?_) (fun m4 hA4 hf4 => ⟨am_RI (by omega) (by omega), ?_⟩)⟩⟩
              · rw [List.filter_cons_of_pos (by simpa using h1')] at hb
                simp at hb
                omega
              · have e : (3 * (k : Int) + (j : Int) + 1) = 3 * (k : Int) + ((j + 1 : Nat) : Int) := by omega
                rw [e]
                refine ihl (j + 1) _ m4 (by rw [← List.drop_drop, hdr]; rfl) (hf3.tr1 hf4) hA4 ?_ (fun m5 hf5 hA5 => kk m5 hf5 ?_)
                · by_cases h1' : pcnt T (pset left k false) a n = 1
                  · rw [List.filter_cons_of_pos (by simpa using h1')] at hb
                    rw [if_pos h1']
                    simp at hb ⊢
                    omega
                  · rw [List.filter_cons_of_neg (by simpa using h1')] at hb
                    rw [if_neg h1']
                    simpa using hb
                · by_cases h1' : pcnt T (pset left k false) a n = 1
                  · rw [List.filter_cons_of_pos (by simpa using h1')]
                    rw [if_pos h1'] at hA5
                    simpa using hA5
                  · rw [List.filter_cons_of_neg (by simpa using h1')]
                    rw [if_neg h1'] at hA5
                    simpa using hA5
          have e : 3 * (k : Int) = 3 * (k : Int) + ((0 : Nat) : Int) := by omega
          rw [e]
          refine inner (T k) 0 A' m2 rfl Fr.rf hA2 (by show hd2 + A'.length + (pnew T (pset left k false) n k).length ≤ 96; omega) (fun m4 hf4 hA4 => ?_)
          have hpo := pleft_off k1 k2
          exact ih (i + 1) hd2 (pset left k false) (A' ++ pnew T (pset left k false) n k) (out ++ [(k, c)]) m4 (by omega) (by rw [List.length_append]; omega) hhd1 hhd0 (fun x hx => by
            rcases List.mem_append.mp hx with h | h
            · exact hAN' x h
            · exact hTk.2.2 x (mem_pnew.mp h).1) (by rw [List.length_append]; simp; omega) (hL2.fr hf4 (by decide)) (hD2.fr hf4 (by decide)) hA4 (hO2.fr hf4 (by decide)) (hff2.tr1 (hf4.mono (by decide) (by decide))) kp2
        · rw [if_neg h1]
          have kp2 : ∀ m'' : am_M, RowL m'' T n N → RowD m'' T n (pq w T n f left A' out).1 → OutM m'' (pq w T n f left A' out).2 → Fr runF [] m m'' → P m'' := by
            intro m''
            have := kp m''
            simp only [pq, hp] at this
            rw [if_neg h1] at this
            exact this
          refine ⟨fun _ => ⟨am_RI (by omega) (by omega), ih (i + 1) (if w = 0 then hd + 1 else hd) left A' out m1 (by omega) (by omega) (by split <;> omega) (fun hw0 => by rw [if_neg hw0]; exact hh0 hw0) hAN' hol hL1 hD1 hA1 hO1 hff1 kp2⟩, fun hz => absurd rfl hz⟩
  have first : ∀ (r c : Nat) (m' : am_M), c + r = N → LineA m' (pl0 T left0 n c) 0 → Fr [30, 3705, 3704] [] m m' → am_GV (d + 4) 32 P 12 [(0, .inr (.inr 27)), (1, .inr (.inr 20)), (2, .inl w), (3, .inl c)] [] m' := by
    intro r
    induction r with
    | zero =>
      intro c m' hc hA hf
      have hcN : c = N := by omega
      subst hcN
      refine f_Peeling_runLine_12 ?_
      rw [show m'.1 3008 0 = c by rw [hf.1 _ (by decide)]; exact hL.2.1]
      refine ⟨fun _ => main 96 0 0 left0 (pl0 T left0 n c) [] m' rfl (by have := pl0_len (T := T) (left := left0) (n := n) c; omega) (by omega) (fun _ => rfl) (fun x hx => (mem_pl0.mp hx).1) (by have : pleft left0 n ≤ n := pleft_le; simpa using this) (hL.fr hf (by decide)) (hD.fr hf (by decide)) hA (hO.fr hf (by decide)) (hf.mono (by decide) (by decide)) kpost, fun hn => by omega⟩
    | succ r ih =>
      intro c m' hc hA hf
      refine f_Peeling_runLine_12 ?_
      rw [show m'.1 3008 0 = N by rw [hf.1 _ (by decide)]; exact hL.2.1]
      refine ⟨fun hn => by omega, fun _ => c_lineUp (d := d) (hL.fr hf (by decide)) (hD.fr hf (by decide)) (by omega) hA (fun _ => ?_) (fun m1 hA1 hf1 => ⟨am_RI (by omega) (by omega), ih (c + 1) m1 (by omega) hA1 (hf.tr hf1 (by decide) (by decide) (by decide) (by decide))⟩)⟩
      have := pl0_len (T := T) (left := left0) (n := n) c
      omega
  refine f_Peeling_runLine ?_
  refine first N 0 _ (by omega) ⟨?_, ?_, fun i x hx => ?_⟩ ((Fr.rf.wr (by decide)).wr (by decide))
  · rw [wr_ne _ _ _ (by decide), wr_at, if_pos rfl]; rfl
  · rw [wr_at, if_pos rfl]; rfl
  · simp [pl0] at hx
theorem plst_stop {T : Nat → List Nat} {n N : Nat} {left : Nat → Bool} {out : List (Nat × Nat)} (h : ∀ y, y < N → pcnt T left y n ≠ 1) : ∀ f, plst T n N f left out = (left, out)
  | 0 => rfl
  | f + 1 => by
    unfold plst
    rw [pfst_no h]
theorem c_runLeast {d : Nat} {P : am_M → Prop} {m : am_M} {T : Nat → List Nat} {n N : Nat} {left0 : Nat → Bool} (hL : RowL m T n N) (hD : RowD m T n left0) (hO : OutM m []) (kpost : ∀ m' : am_M, RowL m' T n N → RowD m' T n (plst T n N n left0 []).1 → OutM m' (plst T n N n left0 []).2 → Fr runF [] m m' → P m') : am_OkV (d + 3) 35 [.inr (.inr 27), .inr (.inr 20)] m P := by
  have hN : N ≤ 96 := hL.2.2.2.1
  have hn : n ≤ 48 := hL.2.2.1
  have hT : TOK T n N := hL.2.2.2.2.1
  have main : ∀ (r i cell f : Nat) (left : Nat → Bool) (out : List (Nat × Nat)) (m' : am_M), i + r = 4704 → 96 * pleft left n + (N - cell) ≤ r → cell ≤ N → (∀ y, y < cell → pcnt T left y n ≠ 1) → pleft left n ≤ f → out.length + pleft left n ≤ n → RowL m' T n N → RowD m' T n left → OutM m' out → Fr runF [] m m' → (∀ m'' : am_M, RowL m'' T n N → RowD m'' T n (plst T n N f left out).1 → OutM m'' (plst T n N f left out).2 → Fr runF [] m m'' → P m'') → am_GV (d + 3) 35 P 4 [(0, .inr (.inr 27)), (1, .inr (.inr 20)), (2, .inl cell), (3, .inl i)] [] m' := by
    intro r
    induction r with
    | zero =>
      intro i cell f left out m' hi hphi hc hy hpf hol hL' hD' hO' hf kp
      have kp := kp m' hL'
      rw [plst_stop (fun y hyN => hy y (by omega))] at kp
      exact f_Peeling_runLeast_4 ⟨fun _ => kp hD' hO' hf, fun hn => by omega⟩
    | succ r ih =>
      intro i cell f left out m' hi hphi hc hy hpf hol hL' hD' hO' hf kp
      refine f_Peeling_runLeast_4 ⟨fun hn => by omega, fun _ => ?_⟩
      rw [hL'.2.1]
      refine ⟨fun hge => ?_, fun hlt => c_loneKey (d := d + 1) hL' hD' (by omega) ?_⟩
      · have kp := kp m' hL'
        rw [plst_stop (fun y hyN => hy y (by omega))] at kp
        exact kp hD' hO' hf
      · by_cases h1 : pcnt T left cell n = 1
        · rw [if_pos h1]
          refine ⟨fun hz => by omega, fun _ => c_goOut (d := d) hL' hD' hO' (by omega) h1 hol (fun m2 hL2 hD2 hO2 hf2 => ?_)⟩
          obtain ⟨k, k1, k2, k3, k4, k5, k6⟩ := palone h1
          rw [k5] at hD2 hO2 ⊢
          have hpo := pleft_off k1 k2
          obtain ⟨g, rfl⟩ : ∃ g, f = g + 1 := ⟨f - 1, by omega⟩
          have hpf2 : pfst T left n N 0 = some cell := pfst_eq (by omega) h1 hy
          have hTk := hT k k1
          obtain ⟨a, ha⟩ : ∃ a, (T k)[0]? = some a := ⟨(T k)[0]'(by omega), List.getElem?_eq_getElem (by omega)⟩
          have haN : a < N := hTk.2.2 a (List.mem_of_getElem? ha)
          have hle : ∀ x ∈ T k, a ≤ x := by
            intro x hx
            obtain ⟨l, hl⟩ : ∃ l, T k = a :: l := by
              cases hTe : T k with
              | nil => rw [hTe] at ha; cases ha
              | cons b l => rw [hTe] at ha; cases ha; exact ⟨l, rfl⟩
            have hpw := hTk.2.1
            rw [hl] at hpw hx
            rcases List.mem_cons.mp hx with rfl | hx
            · exact Nat.le_refl _
            · exact Nat.le_of_lt ((List.pairwise_cons.mp hpw).1 x hx)
          have e21 : m2.1 21 (3 * (k : Int)) = a := by
            have := (hL2.2.2.2.2.2 k k1).2 0 a ha
            simpa using this
          rw [e21]
          refine ⟨am_RI (by omega) (by omega), by omega, by omega, am_RI (by omega) (by omega), ?_⟩
          have hac : a ≤ cell := hle cell k3
          refine ih (i + 1) a g (pset left k false) (out ++ [(k, cell)]) m2 (by omega) (by omega) (by omega) (fun y hya => ?_) (by omega) (by rw [List.length_append]; simp; omega) hL2 hD2 hO2 (hf.tr1 (hf2.mono (by decide) (by decide))) (fun m'' => ?_)
          · have hs := pcnt_set (T := T) (left := left) (x := y) (b := false) k1
            have hny : y ∉ T k := fun hm => by have := hle y hm; omega
            rw [if_neg (fun z => hny z.2), if_neg (fun z => hny z.2)] at hs
            have := hy y (by omega)
            omega
          · have kp := kp m''
            unfold plst at kp
            rw [hpf2] at kp
            simp only [k5] at kp
            exact kp
        · rw [if_neg h1]
          refine ⟨fun _ => ⟨am_RI (by omega) (by omega), am_RI (by omega) (by omega), ih (i + 1) (cell + 1) f left out m' (by omega) (by omega) (by omega) (fun y hya => ?_) hpf hol hL' hD' hO' hf kp⟩, fun hz => absurd rfl hz⟩
          by_cases hyc : y = cell
          · rw [hyc]; exact h1
          · exact hy y (by omega)
  have hpl : pleft left0 n ≤ n := pleft_le
  refine f_Peeling_runLeast (main 4704 0 0 n left0 [] m (by omega) (by omega) (by omega) (fun y hy => by omega) hpl (by simpa using hpl) hL hD hO Fr.rf kpost)
theorem c_run {d : Nat} {P : am_M → Prop} {m : am_M} {T : Nat → List Nat} {n N w : Nat} {left0 : Nat → Bool} (hw : w ≤ 2) (hL : RowL m T n N) (hD : RowD m T n left0) (kpost : ∀ m' : am_M, RowL m' T n N → RowD m' T n (pres T n N w left0).1 → OutM m' (pres T n N w left0).2 → Fr runF [] m m' → P m') : am_OkV (d + 5) 31 [.inr (.inr 27), .inr (.inr 20), .inl w] m P := by
  have hf : Fr runF [] m (am_wr m 3702 0 0) := Fr.rf.wr (by decide)
  have hf2 : Fr [3702] [] m (am_wr m 3702 0 0) := Fr.rf.wr (by decide)
  have hO : OutM (am_wr m 3702 0 0) [] := ⟨by rw [wr_at, if_pos rfl]; rfl, fun i k c h => by simp at h⟩
  have hL1 := hL.fr hf2 (by decide)
  have hD1 := hD.fr hf2 (by decide)
  unfold pres at kpost
  refine f_Peeling_run ⟨fun h2 => ⟨fun h1 => ?_, fun h1 => ?_⟩, fun h2 => ?_⟩
  · have hw0 : w = 0 := by omega
    subst hw0
    rw [if_neg (by decide)] at kpost
    exact c_runLine (w := 0) (by decide) hL1 hD1 hO (fun m' a b c e => kpost m' a b c (hf.tr1 e))
  · have hw0 : w = 1 := by omega
    subst hw0
    rw [if_neg (by decide)] at kpost
    exact c_runLine (w := 1) (by decide) hL1 hD1 hO (fun m' a b c e => kpost m' a b c (hf.tr1 e))
  · have hw0 : w = 2 := by omega
    subst hw0
    rw [if_pos rfl] at kpost
    exact c_runLeast (d := d + 1) hL1 hD1 hO (fun m' a b c e => kpost m' a b c (hf.tr1 e))
