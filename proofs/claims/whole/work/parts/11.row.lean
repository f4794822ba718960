/-! ROW: keys on the row -/
def RowC (m : am_M) (T : Nat → List Nat) (n N : Nat) : Prop :=
  n ≤ 48 ∧ N ≤ 96 ∧ TOK T n N ∧ ∀ k : Nat, k < n → m.1 22 k = (T k).length ∧ ∀ t x : Nat, (T k)[t]? = some x → m.1 21 (3 * k + t) = x
def RowL (m : am_M) (T : Nat → List Nat) (n N : Nat) : Prop := m.1 3006 0 = n ∧ m.1 3008 0 = N ∧ RowC m T n N
def RowD (m : am_M) (T : Nat → List Nat) (n : Nat) (left : Nat → Bool) : Prop :=
  m.1 3007 0 = pleft left n ∧ (∀ k : Nat, k < n → m.1 24 k = if left k = true then 0 else 1) ∧ ∀ x : Nat, x < 96 → m.1 25 x = pcnt T left x n ∧ m.1 26 x = (px32 T left x n).toInt
theorem RowL.fr {m m' : am_M} {T : Nat → List Nat} {n N : Nat} (h : RowL m T n N) {l1 l2 : List Nat} (hf : Fr l1 l2 m m') (h1 : 3006 ∉ l1 ∧ 3008 ∉ l1 ∧ 22 ∉ l1 ∧ 21 ∉ l1) : RowL m' T n N := by
  unfold RowL RowC
  rw [hf.1 _ h1.1, hf.1 _ h1.2.1, hf.1 _ h1.2.2.1, hf.1 _ h1.2.2.2]
  exact h
theorem RowC.fr {m m' : am_M} {T : Nat → List Nat} {n N : Nat} (h : RowC m T n N) {l1 l2 : List Nat} (hf : Fr l1 l2 m m') (h1 : 22 ∉ l1 ∧ 21 ∉ l1) : RowC m' T n N := by
  unfold RowC
  rw [hf.1 _ h1.1, hf.1 _ h1.2]
  exact h
theorem RowD.congr {m : am_M} {T : Nat → List Nat} {n : Nat} {l1 l2 : Nat → Bool} (h : RowD m T n l1) (he : ∀ j, j < n → l1 j = l2 j) : RowD m T n l2 := by
  refine ⟨by rw [← pleft_congr he]; exact h.1, fun k hk => by rw [← he k hk]; exact h.2.1 k hk, fun x hx => ?_⟩
  rw [← pcnt_congr he, ← px32_congr he]
  exact h.2.2 x hx
theorem RowD.fr {m m' : am_M} {T : Nat → List Nat} {n : Nat} {left : Nat → Bool} (h : RowD m T n left) {l1 l2 : List Nat} (hf : Fr l1 l2 m m') (h1 : 3007 ∉ l1 ∧ 24 ∉ l1 ∧ 25 ∉ l1 ∧ 26 ∉ l1) : RowD m' T n left := by
  unfold RowD
  rw [hf.1 _ h1.1, hf.1 _ h1.2.1, hf.1 _ h1.2.2.1, hf.1 _ h1.2.2.2]
  exact h
theorem pw_nodup : ∀ {l : List Nat}, l.Pairwise (· < ·) → l.Nodup
  | [], _ => List.Pairwise.nil
  | a :: l, h => by
    rw [List.pairwise_cons] at h
    exact List.nodup_cons.mpr ⟨fun hm => Nat.lt_irrefl _ (h.1 a hm), pw_nodup h.2⟩
/-- cells one after the other: two rows, each by a function of what was there -/
def tk (i1 i2 : Nat) (g1 g2 : Int → Int) : am_M → List Nat → am_M
  | m, [] => m
  | m, c :: l => tk i1 i2 g1 g2 (am_wr (am_wr m i1 c (g1 (m.1 i1 c))) i2 c (g2 (m.1 i2 c))) l
theorem tk_spec {i1 i2 : Nat} {g1 g2 : Int → Int} (hi : i1 ≠ i2) : ∀ {l : List Nat} {m : am_M}, l.Nodup → Fr [i1, i2] [] m (tk i1 i2 g1 g2 m l) ∧ ∀ x : Nat, (tk i1 i2 g1 g2 m l).1 i1 x = (if x ∈ l then g1 (m.1 i1 x) else m.1 i1 x) ∧ (tk i1 i2 g1 g2 m l).1 i2 x = (if x ∈ l then g2 (m.1 i2 x) else m.1 i2 x)
  | [], m, _ => ⟨Fr.rf, fun x => ⟨by simp [tk], by simp [tk]⟩⟩
  | c :: l, m, h => by
    rw [List.nodup_cons] at h
    obtain ⟨hf, hs⟩ := tk_spec (g1 := g1) (g2 := g2) hi (l := l) (m := am_wr (am_wr m i1 c (g1 (m.1 i1 c))) i2 c (g2 (m.1 i2 c))) h.2
    refine ⟨((Fr.rf.wr (by simp)).wr (by simp)).tr1 hf, fun x => ?_⟩
    obtain ⟨h1, h2⟩ := hs x
    unfold tk
    rw [h1, h2]
    by_cases hx : x = c
    · subst hx
      simp only [List.mem_cons_self, if_true, if_neg h.1]
      exact ⟨by rw [wr_ne _ _ _ hi, wr_at, if_pos rfl], by rw [wr_at, if_pos rfl]⟩
    · have hxi : ¬ (x : Int) = (c : Int) := by omega
      have hm : (x ∈ c :: l) ↔ x ∈ l := by simp [hx]
      have e1 : (am_wr (am_wr m i1 c (g1 (m.1 i1 c))) i2 c (g2 (m.1 i2 c))).1 i1 x = m.1 i1 x := by rw [wr_ne _ _ _ hi, wr_at, if_neg hxi]
      have e2 : (am_wr (am_wr m i1 c (g1 (m.1 i1 c))) i2 c (g2 (m.1 i2 c))).1 i2 x = m.1 i2 x := by rw [wr_at, if_neg hxi, wr_ne _ _ _ hi.symm]
      rw [e1, e2]
      simp only [hm]
      exact ⟨trivial, trivial⟩
theorem l_takeOff {d : Nat} {P : am_M → Prop} {m : am_M} {T : Nat → List Nat} {n N k : Nat} (hL : RowL m T n N) (hk : k < n) : ∀ (l : List Nat) (j : Nat) (m' : am_M), (T k).drop j = l → l.Nodup → Fr [25, 26, 24, 3007] [] m m' → (∀ c ∈ l, am_R (m'.1 25 (c : Int) - 1)) → P (tk 25 26 (fun z => z - 1) (fun z => am_xor z k) m' l) → am_GV (d + 1) 54 P 21 [(0, .inr (.inr 20)), (1, .inl k), (2, .inl (3 * k + j))] [] m' := by
  obtain ⟨-, -, hn, hN, hT, hr⟩ := hL
  obtain ⟨h22, h21⟩ := hr k hk
  obtain ⟨hlen, -, hlt⟩ := hT k hk
  intro l
  induction l with
  | nil =>
    intro j m' hd _ hf _ hp
    have h22' : m'.1 22 k = (T k).length := by rw [hf.1 _ (by decide)]; exact h22
    have hj : (T k).length ≤ j := by
      rcases Nat.lt_or_ge j (T k).length with h | h
      · have := congrArg List.length hd
        rw [List.length_drop] at this
        simp at this
        omega
      · exact h
    refine f_Row_takeOff_21 ?_
    rw [h22']
    refine ⟨am_RI (by omega) (by omega), by omega, by omega, am_RI (by omega) (by omega), fun _ => hp, fun hc => absurd ?_ hc⟩
    omega
  | cons c l ih =>
    intro j m' hd hnd hf hb hp
    have h22' : m'.1 22 k = (T k).length := by rw [hf.1 _ (by decide)]; exact h22
    have hc0 : (T k)[j]? = some c := by
      have := congrArg (fun z => z[0]?) hd
      simpa using this
    have hjl : j < (T k).length := (List.getElem?_eq_some_iff.mp hc0).1
    have h21' : m'.1 21 (3 * k + j) = c := by rw [hf.1 _ (by decide)]; exact h21 j c hc0
    have hcN : c < N := hlt c (List.mem_of_getElem? hc0)
    rw [List.nodup_cons] at hnd
    refine f_Row_takeOff_21 ?_
    rw [h22', h21']
    refine ⟨am_RI (by omega) (by omega), by omega, by omega, am_RI (by omega) (by omega), fun hc => by omega, fun _ => ?_⟩
    refine ⟨by omega, by omega, by omega, by omega, hb c List.mem_cons_self, by omega, by omega, by omega, by omega, by omega, by omega, by omega, by omega, am_RI (by omega) (by omega), ?_⟩
    have e : (3 * (k : Int) + (j : Int) + 1) = 3 * (k : Int) + ((j + 1 : Nat) : Int) := by omega
    rw [e]
    refine ih (j + 1) _ ?_ hnd.2 ((hf.wr (by decide)).wr (by decide)) (fun x hx => ?_) hp
    · rw [← List.drop_drop, hd]
      rfl
    · have hxc : x ≠ c := fun e => hnd.1 (e ▸ hx)
      rw [wr_ne _ _ _ (by decide), wr_at, if_neg (by omega)]
      exact hb x (List.mem_cons_of_mem _ hx)
theorem l_putBack {d : Nat} {P : am_M → Prop} {m : am_M} {T : Nat → List Nat} {n N k : Nat} (hL : RowC m T n N) (hk : k < n) : ∀ (l : List Nat) (j : Nat) (m' : am_M), (T k).drop j = l → l.Nodup → Fr [25, 26, 24, 3007] [] m m' → (∀ c ∈ l, am_R (m'.1 25 (c : Int) + 1)) → P (tk 25 26 (fun z => z + 1) (fun z => am_xor z k) m' l) → am_GV (d + 1) 53 P 21 [(0, .inr (.inr 20)), (1, .inl k), (2, .inl (3 * k + j))] [] m' := by
  obtain ⟨hn, hN, hT, hr⟩ := hL
  obtain ⟨h22, h21⟩ := hr k hk
  obtain ⟨hlen, -, hlt⟩ := hT k hk
  intro l
  induction l with
  | nil =>
    intro j m' hd _ hf _ hp
    have h22' : m'.1 22 k = (T k).length := by rw [hf.1 _ (by decide)]; exact h22
    have hj : (T k).length ≤ j := by
      rcases Nat.lt_or_ge j (T k).length with h | h
      · have := congrArg List.length hd
        rw [List.length_drop] at this
        simp at this
        omega
      · exact h
    refine f_Row_putBack_21 ?_
    rw [h22']
    refine ⟨am_RI (by omega) (by omega), by omega, by omega, am_RI (by omega) (by omega), fun _ => hp, fun hc => absurd ?_ hc⟩
    omega
  | cons c l ih =>
    intro j m' hd hnd hf hb hp
    have h22' : m'.1 22 k = (T k).length := by rw [hf.1 _ (by decide)]; exact h22
    have hc0 : (T k)[j]? = some c := by
      have := congrArg (fun z => z[0]?) hd
      simpa using this
    have hjl : j < (T k).length := (List.getElem?_eq_some_iff.mp hc0).1
    have h21' : m'.1 21 (3 * k + j) = c := by rw [hf.1 _ (by decide)]; exact h21 j c hc0
    have hcN : c < N := hlt c (List.mem_of_getElem? hc0)
    rw [List.nodup_cons] at hnd
    refine f_Row_putBack_21 ?_
    rw [h22', h21']
    refine ⟨am_RI (by omega) (by omega), by omega, by omega, am_RI (by omega) (by omega), fun hc => by omega, fun _ => ?_⟩
    refine ⟨by omega, by omega, by omega, by omega, hb c List.mem_cons_self, by omega, by omega, by omega, by omega, by omega, by omega, by omega, by omega, am_RI (by omega) (by omega), ?_⟩
    have e : (3 * (k : Int) + (j : Int) + 1) = 3 * (k : Int) + ((j + 1 : Nat) : Int) := by omega
    rw [e]
    refine ih (j + 1) _ ?_ hnd.2 ((hf.wr (by decide)).wr (by decide)) (fun x hx => ?_) hp
    · rw [← List.drop_drop, hd]
      rfl
    · have hxc : x ≠ c := fun e => hnd.1 (e ▸ hx)
      rw [wr_ne _ _ _ (by decide), wr_at, if_neg (by omega)]
      exact hb x (List.mem_cons_of_mem _ hx)
theorem xor_nat (x : Int32) (k : Nat) : am_xor x.toInt k = (x ^^^ Int32.ofNat k).toInt := by
  unfold am_xor
  rw [am_of, Int32.ofInt_eq_ofNat]
theorem xor_back {a b k : Int32} (h : a ^^^ k = b) : a = b ^^^ k := by rw [← h, Int32.xor_assoc, Int32.xor_self, Int32.xor_zero]
theorem c_takeOff {d : Nat} {P : am_M → Prop} {m : am_M} {T : Nat → List Nat} {n N k : Nat} {left : Nat → Bool} (hL : RowL m T n N) (hD : RowD m T n left) (hk : k < n) (hl : left k = true) (h : ∀ m', RowL m' T n N → RowD m' T n (pset left k false) → Fr [25, 26, 24, 3007] [] m m' → P m') : am_OkV (d + 1) 54 [.inr (.inr 20), .inl k] m P := by
  obtain ⟨d1, d2, d3⟩ := id hD
  have hn : n ≤ 48 := hL.2.2.1
  have hpl : pleft left n ≤ n := pleft_le
  have hT := (hL.2.2.2.2.1 k hk)
  have hN : N ≤ 96 := hL.2.2.2.1
  have hnd : (T k).Nodup := pw_nodup hT.2.1
  refine f_Row_takeOff ?_
  rw [d1]
  refine ⟨by omega, by omega, Or.inr rfl, am_RI (by omega) (by omega), am_RI (by omega) (by omega), ?_⟩
  have e : 3 * (k : Int) = 3 * (k : Int) + ((0 : Nat) : Int) := by omega
  rw [e]
  have hf1 : Fr [25, 26, 24, 3007] [] m (am_wr (am_wr m 24 k 1) 3007 0 ((pleft left n : Int) - 1)) := (Fr.rf.wr (by decide)).wr (by decide)
  generalize hm1 : am_wr (am_wr m 24 k 1) 3007 0 ((pleft left n : Int) - 1) = m1 at hf1 ⊢
  have l1 : m1.1 25 = m.1 25 := by rw [← hm1, wr_ne _ _ _ (by decide), wr_ne _ _ _ (by decide)]
  have l2 : m1.1 26 = m.1 26 := by rw [← hm1, wr_ne _ _ _ (by decide), wr_ne _ _ _ (by decide)]
  have l3 : m1.1 3007 0 = (pleft left n : Int) - 1 := by rw [← hm1, wr_at, if_pos rfl]
  have l4 : ∀ j : Nat, m1.1 24 j = if j = k then 1 else m.1 24 j := fun j => by
    rw [← hm1, wr_ne _ _ _ (by decide), wr_at]
    by_cases hj : j = k
    · rw [if_pos hj, if_pos (by omega)]
    · rw [if_neg hj, if_neg (by omega)]
  refine l_takeOff hL hk (T k) 0 m1 rfl hnd hf1 (fun c hc => ?_) ?_
  · have hc96 : c < 96 := by have := hT.2.2 c hc; omega
    rw [l1, (d3 c hc96).1]
    have : pcnt T left c n ≤ n := pcnt_le
    exact am_RI (by omega) (by omega)
  · obtain ⟨hf2, hs⟩ := tk_spec (i1 := 25) (i2 := 26) (g1 := fun z => z - 1) (g2 := fun z => am_xor z k) (by decide) (m := m1) hnd
    have hf := hf1.tr hf2 (k1 := [25, 26, 24, 3007]) (k2 := []) (fun _ h => h) (fun _ h => h) (by decide) (fun _ h => h)
    refine h _ (hL.fr hf (by decide)) ⟨?_, fun j hj => ?_, fun x hx => ?_⟩ hf
    · rw [hf2.1 _ (by decide), l3]
      have := pleft_set (left := left) (b := false) hk
      rw [if_pos hl, if_neg (by decide)] at this
      omega
    · rw [hf2.1 _ (by decide), l4, pset]
      by_cases hjk : j = k
      · simp [hjk]
      · rw [if_neg hjk, if_neg hjk]
        exact d2 j hj
    · obtain ⟨s1, s2⟩ := hs x
      rw [s1, s2, l1, l2, (d3 x hx).1, (d3 x hx).2]
      have c1 := pcnt_set (T := T) (left := left) (x := x) (b := false) hk
      have c2 := px32_set (T := T) (left := left) (x := x) (b := false) hk
      simp only [hl, true_and, Bool.false_eq_true, false_and, if_false, Int32.xor_zero] at c1 c2
      by_cases hxk : x ∈ T k
      · rw [if_pos hxk] at c1 c2 ⊢
        rw [if_pos hxk]
        refine ⟨by omega, ?_⟩
        rw [xor_nat, xor_back c2]
      · rw [if_neg hxk] at c1 c2 ⊢
        rw [if_neg hxk]
        rw [Int32.xor_zero] at c2
        exact ⟨by omega, by rw [c2]⟩
/-- put back: k may be the next one that is laid (n is then the count with it) -/
theorem c_putBack {d : Nat} {P : am_M → Prop} {m : am_M} {T : Nat → List Nat} {n N k : Nat} {left : Nat → Bool} (hL : RowC m T n N) (hD1 : m.1 3007 0 = pleft left n) (hD2 : ∀ j : Nat, j < n → j ≠ k → m.1 24 j = if left j = true then 0 else 1) (hD3 : ∀ x : Nat, x < 96 → m.1 25 x = pcnt T left x n ∧ m.1 26 x = (px32 T left x n).toInt) (hk : k < n) (hl : left k = false) (h : ∀ m', RowD m' T n (pset left k true) → Fr [25, 26, 24, 3007] [] m m' → P m') : am_OkV (d + 1) 53 [.inr (.inr 20), .inl k] m P := by
  have hn : n ≤ 48 := hL.1
  have hpl : pleft left n ≤ n := pleft_le
  have hT := (hL.2.2.1 k hk)
  have hN : N ≤ 96 := hL.2.1
  have hnd : (T k).Nodup := pw_nodup hT.2.1
  refine f_Row_putBack ?_
  rw [hD1]
  refine ⟨by omega, by omega, Or.inl rfl, am_RI (by omega) (by omega), am_RI (by omega) (by omega), ?_⟩
  have e : 3 * (k : Int) = 3 * (k : Int) + ((0 : Nat) : Int) := by omega
  rw [e]
  have hf1 : Fr [25, 26, 24, 3007] [] m (am_wr (am_wr m 24 k 0) 3007 0 ((pleft left n : Int) + 1)) := (Fr.rf.wr (by decide)).wr (by decide)
  generalize hm1 : am_wr (am_wr m 24 k 0) 3007 0 ((pleft left n : Int) + 1) = m1 at hf1 ⊢
  have l1 : m1.1 25 = m.1 25 := by rw [← hm1, wr_ne _ _ _ (by decide), wr_ne _ _ _ (by decide)]
  have l2 : m1.1 26 = m.1 26 := by rw [← hm1, wr_ne _ _ _ (by decide), wr_ne _ _ _ (by decide)]
  have l3 : m1.1 3007 0 = (pleft left n : Int) + 1 := by rw [← hm1, wr_at, if_pos rfl]
  have l4 : ∀ j : Nat, m1.1 24 j = if j = k then 0 else m.1 24 j := fun j => by
    rw [← hm1, wr_ne _ _ _ (by decide), wr_at]
    by_cases hj : j = k
    · rw [if_pos hj, if_pos (by omega)]
    · rw [if_neg hj, if_neg (by omega)]
  refine l_putBack hL hk (T k) 0 m1 rfl hnd hf1 (fun c hc => ?_) ?_
  · have hc96 : c < 96 := by have := hT.2.2 c hc; omega
    rw [l1, (hD3 c hc96).1]
    have : pcnt T left c n ≤ n := pcnt_le
    exact am_RI (by omega) (by omega)
  · obtain ⟨hf2, hs⟩ := tk_spec (i1 := 25) (i2 := 26) (g1 := fun z => z + 1) (g2 := fun z => am_xor z k) (by decide) (m := m1) hnd
    have hf := hf1.tr hf2 (k1 := [25, 26, 24, 3007]) (k2 := []) (fun _ h => h) (fun _ h => h) (by decide) (fun _ h => h)
    refine h _ ⟨?_, fun j hj => ?_, fun x hx => ?_⟩ hf
    · rw [hf2.1 _ (by decide), l3]
      have := pleft_set (left := left) (b := true) hk
      rw [if_neg (by rw [hl]; decide), if_pos rfl] at this
      omega
    · rw [hf2.1 _ (by decide), l4, pset]
      by_cases hjk : j = k
      · simp [hjk]
      · rw [if_neg hjk, if_neg hjk]
        exact hD2 j hj hjk
    · obtain ⟨s1, s2⟩ := hs x
      rw [s1, s2, l1, l2, (hD3 x hx).1, (hD3 x hx).2]
      have c1 := pcnt_set (T := T) (left := left) (x := x) (b := true) hk
      have c2 := px32_set (T := T) (left := left) (x := x) (b := true) hk
      simp only [hl, true_and, Bool.false_eq_true, false_and, if_false, Int32.xor_zero] at c1 c2
      by_cases hxk : x ∈ T k
      · rw [if_pos hxk] at c1 c2 ⊢
        rw [if_pos hxk]
        refine ⟨by omega, ?_⟩
        rw [xor_nat, c2]
      · rw [if_neg hxk] at c1 c2 ⊢
        rw [if_neg hxk]
        rw [Int32.xor_zero] at c2
        exact ⟨by omega, by rw [c2]⟩
theorem c_loneKey {d : Nat} {P : Int → am_M → Prop} {m : am_M} {T : Nat → List Nat} {n N x : Nat} {left : Nat → Bool} (hL : RowL m T n N) (hD : RowD m T n left) (hx : x < N) (h : P (if pcnt T left x n = 1 then ((psum T left x n : Nat) : Int) else -1) m) : am_OkI (d + 1) 55 [.inr (.inr 20), .inl x] m P := by
  have hN : N ≤ 96 := hL.2.2.2.1
  have hn : n ≤ 48 := hL.2.2.1
  refine f_Row_loneKey ?_
  rw [hL.1, hL.2.1, (hD.2.2 x (by omega)).1]
  refine ⟨fun hz => by omega, fun _ => ⟨fun hz => by omega, fun _ => ⟨by omega, by omega, fun h1 => ⟨by omega, by omega, ?_⟩, fun h1 => ?_⟩⟩⟩
  · have h1' : pcnt T left x n = 1 := by omega
    obtain ⟨k, k1, k2, k3, k4, k5, k6⟩ := palone h1'
    rw [if_pos h1', k5] at h
    have hmix : m.1 26 x = k := by
      rw [(hD.2.2 x (by omega)).2, k6]
      exact (nI_toInt (n := k) (by omega))
    rw [hmix]
    exact ⟨fun hz => by omega, fun _ => ⟨fun _ => h, fun hz => by omega⟩⟩
  · rw [if_neg (by omega)] at h
    exact h
theorem c_isAlone {d : Nat} {P : Int → am_M → Prop} {m : am_M} {T : Nat → List Nat} {n N x : Nat} {left : Nat → Bool} (hL : RowL m T n N) (hD : RowD m T n left) (hx : x < N) (h : P (if pcnt T left x n = 1 then 1 else 0) m) : am_OkI (d + 2) 56 [.inr (.inr 20), .inl x] m P := by
  refine f_Row_isAlone (c_loneKey hL hD hx ?_)
  by_cases h1 : pcnt T left x n = 1
  · rw [if_pos h1] at h ⊢
    exact ⟨fun hz => by omega, fun _ => ⟨Or.inr rfl, h⟩⟩
  · rw [if_neg h1] at h ⊢
    exact ⟨fun _ => ⟨Or.inl rfl, h⟩, fun hz => absurd rfl hz⟩
/-- how many of the first c cells are touched -/
def ptch (T : Nat → List Nat) (left : Nat → Bool) (n : Nat) : Nat → Nat
  | 0 => 0
  | c + 1 => ptch T left n c + if pcnt T left c n = 0 then 0 else 1
theorem ptch_le {T : Nat → List Nat} {left : Nat → Bool} {n : Nat} : ∀ {c : Nat}, ptch T left n c ≤ c
  | 0 => Nat.le_refl _
  | c + 1 => by
    unfold ptch
    have := ptch_le (T := T) (left := left) (n := n) (c := c)
    split <;> omega
theorem c_countTouched {d : Nat} {P : Int → am_M → Prop} {m : am_M} {T : Nat → List Nat} {n N : Nat} {left : Nat → Bool} (hL : RowL m T n N) (hD : RowD m T n left) (h : P (ptch T left n N) m) : am_OkI (d + 1) 57 [.inr (.inr 20)] m P := by
  refine f_Row_countTouched ?_
  have key : ∀ (r c : Nat), c + r = N → am_GI (d + 1) 57 P 4 [(0, .inr (.inr 20)), (1, .inl (ptch T left n c)), (2, .inl c)] [] m := by
    intro r
    induction r with
    | zero =>
      intro c hc
      refine f_Row_countTouched_4 ?_
      rw [hL.2.1]
      refine ⟨fun _ => ?_, fun hh => by omega⟩
      rw [show c = N by omega]
      exact h
    | succ r ih =>
      intro c hc
      have hN : N ≤ 96 := hL.2.2.2.1
      have hle : ptch T left n c ≤ c := ptch_le
      refine f_Row_countTouched_4 ?_
      rw [hL.2.1, (hD.2.2 c (by omega)).1]
      refine ⟨fun hh => by omega, fun _ => ⟨by omega, by omega, fun hz => ⟨am_RI (by omega) (by omega), ?_⟩, fun hz => ⟨am_RI (by omega) (by omega), am_RI (by omega) (by omega), ?_⟩⟩⟩
      · have := ih (c + 1) (by omega)
        unfold ptch at this
        rw [if_pos (by omega)] at this
        simpa using this
      · have := ih (c + 1) (by omega)
        unfold ptch at this
        rw [if_neg (by omega)] at this
        simpa using this
  simpa [ptch] using key N 0 (by omega)
/-- the i-th of the keys from k on that are left; none: the other answer -/
def pat (left : Nat → Bool) (n : Nat) (i : Int) : Nat → Nat → Int → Int
  | 0, _, _ => -2
  | f + 1, k, met => if n ≤ k then -2 else if left k = true then (if met = i then k else pat left n i f (k + 1) (met + 1)) else pat left n i f (k + 1) met
theorem c_leftAt {d : Nat} {P : Int → am_M → Prop} {m : am_M} {T : Nat → List Nat} {n N : Nat} {left : Nat → Bool} {i : Int} (hL : RowL m T n N) (hD : RowD m T n left) (h : P (pat left n i (n + 1) 0 0) m) : am_OkI (d + 1) 58 [.inr (.inr 20), .inl i] m P := by
  refine f_Row_leftAt ?_
  have hn : n ≤ 48 := hL.2.2.1
  have key : ∀ (r k met : Nat), k + r = n + 1 → met ≤ k → P (pat left n i r k met) m → am_GI (d + 1) 58 P 4 [(0, .inr (.inr 20)), (1, .inl i), (2, .inl met), (3, .inl k)] [] m := by
    intro r
    induction r with
    | zero =>
      intro k met hk hm hp
      refine f_Row_leftAt_4 ?_
      rw [hL.1]
      exact ⟨fun _ => hp, fun hh => by omega⟩
    | succ r ih =>
      intro k met hk hm hp
      refine f_Row_leftAt_4 ?_
      rw [hL.1]
      unfold pat at hp
      by_cases hkn : n ≤ k
      · rw [if_pos hkn] at hp
        exact ⟨fun _ => hp, fun hh => by omega⟩
      · rw [if_neg hkn] at hp
        rw [hD.2.1 k (by omega)]
        refine ⟨fun hh => by omega, fun _ => ⟨by omega, by omega, fun hz => ?_, fun hz => ?_⟩⟩
        · have hlk : ¬ left k = true := fun hh => hz (by rw [if_pos hh])
          rw [if_neg hlk] at hp
          exact ⟨am_RI (by omega) (by omega), ih (k + 1) met (by omega) (by omega) hp⟩
        · have hlk : left k = true := Classical.byContradiction fun hh => hz (by rw [if_neg hh]; decide)
          rw [if_pos hlk] at hp
          refine ⟨fun hmi => ⟨am_RI (by omega) (by omega), am_RI (by omega) (by omega), ?_⟩, fun hmi => ?_⟩
          · rw [if_neg hmi] at hp
            exact ih (k + 1) (met + 1) (by omega) (by omega) hp
          · rw [if_pos (Classical.byContradiction hmi)] at hp
            exact hp
  exact key (n + 1) 0 0 (by omega) (by omega) h
theorem c_touchSame {d : Nat} {P : Int → am_M → Prop} {m : am_M} {T : Nat → List Nat} {n N i k : Nat} (hL : RowL m T n N) (hi : i < n) (hk : k < n) (h : P (if T i = T k then 1 else 0) m) : am_OkI (d + 1) 59 [.inr (.inr 20), .inl i, .inl k] m P := by
  obtain ⟨-, -, hn, hN, hT, hr⟩ := hL
  obtain ⟨a1, a2⟩ := hr i hi
  obtain ⟨b1, b2⟩ := hr k hk
  have hl1 := (hT i hi).1
  have hl2 := (hT k hk).1
  refine f_Row_touchSame ?_
  rw [a1, b1]
  refine ⟨by omega, by omega, by omega, by omega, fun he => ?_, fun he => ⟨Or.inl rfl, ?_⟩⟩
  · have key : ∀ (r t : Nat), t + r = (T i).length → (∀ j, j < t → (T i)[j]? = (T k)[j]?) → am_GI (d + 1) 59 P 19 [(0, .inr (.inr 20)), (1, .inl i), (2, .inl k), (3, .inl t)] [] m := by
      intro r
      induction r with
      | zero =>
        intro t ht hs
        refine f_Row_touchSame_19 ?_
        rw [a1]
        refine ⟨by omega, by omega, fun _ => ⟨Or.inr rfl, ?_⟩, fun hh => by omega⟩
        have : T i = T k := List.ext_getElem? fun j => by
          rcases Nat.lt_or_ge j t with hj | hj
          · exact hs j hj
          · rw [List.getElem?_eq_none (by omega), List.getElem?_eq_none (by omega)]
        rw [if_pos this] at h
        exact h
      | succ r ih =>
        intro t ht hs
        have e1 : (T i)[t]? = some (T i)[t] := List.getElem?_eq_getElem (by omega)
        have e2 : (T k)[t]? = some ((T k)[t]'(by omega)) := List.getElem?_eq_getElem (by omega)
        refine f_Row_touchSame_19 ?_
        rw [a1, a2 t _ e1, b2 t _ e2]
        refine ⟨by omega, by omega, fun hh => by omega, fun _ => ⟨am_RI (by omega) (by omega), am_RI (by omega) (by omega), by omega, by omega, am_RI (by omega) (by omega), am_RI (by omega) (by omega), by omega, by omega, fun heq => ⟨am_RI (by omega) (by omega), ?_⟩, fun hne => ⟨Or.inl rfl, ?_⟩⟩⟩
        · refine ih (t + 1) (by omega) (fun j hj => ?_)
          rcases Nat.lt_or_ge j t with hj2 | hj2
          · exact hs j hj2
          · have : j = t := by omega
            subst this
            rw [e1, e2]
            congr 1
            omega
        · rw [if_neg (fun e => hne (by
            have h3 := e1
            have h4 : (T k)[t]? = some (T i)[t] := by rw [← e]; exact e1
            rw [e2] at h4
            have := Option.some.inj h4
            omega))] at h
          exact h
    exact key (T i).length 0 (by omega) (fun j hj => by omega)
  · rw [if_neg (fun e => he (by rw [e]))] at h
    exact h
