/-! THE REFERENCE: numbers, cells, keys on the row -/
theorem r_mix {d : Nat} {P : Int64 → am_M → Prop} {m : am_M} {x : Int64} (kpost : P (h_mix x) m) : am_OkL (d + 1) 149 [.inr (.inl x)] m P := f_M_mix kpost
theorem r_hashOf {d : Nat} {P : Int64 → am_M → Prop} {m : am_M} {x : Int64} {seed : Int} (kpost : P (h_hash x seed) m) : am_OkL (d + 2) 150 [.inr (.inl x), .inr (.inl (am_i2l seed))] m P := f_M_hashOf (r_mix (r_mix kpost))
theorem r_printOf {d : Nat} {P : Int → am_M → Prop} {m : am_M} {hh : Int64} {pr : Nat} (hp : pr ≤ 16) (kpost : P (h_print hh pr) m) : am_OkI (d + 1) 151 [.inr (.inl hh), .inl pr] m P := f_M_printOf ⟨shl1_R (by omega), kpost⟩
theorem r_part {d : Nat} {P : Int → am_M → Prop} {m : am_M} {hh : Int64} {j : Nat} (hj : j < 3) (kpost : P (hpt hh j) m) : am_OkI (d + 1) 152 [.inr (.inl hh), .inl j] m P := by
  refine f_M_part ⟨am_RI (by omega) (by omega), am_RI (by omega) (by omega), ?_⟩
  rw [hpt_eq]
  exact kpost
theorem r_lays3 {d : Nat} {P : am_M → Prop} {m : am_M} {hh : Int64} {c sp : Nat} (hc : 0 < c ∧ c ≤ 32) (hs : sp ≤ 2) (kpost : ∀ m' : am_M, (∀ j : Nat, j < 3 → m'.1 67 j = h3 c sp hh j) → Fr [67] [] m m' → P m') : am_OkV (d + 2) 153 [.inr (.inr 55), .inr (.inl hh), .inl c, .inl sp] m P := by
  refine f_M_lays3 ?_
  have key : ∀ (r j : Nat) (m' : am_M), j + r = 3 → Fr [67] [] m m' → (∀ i : Nat, i < j → m'.1 67 i = h3 c sp hh i) → am_GV (d + 2) 153 P 3 [(0, .inr (.inr 55)), (1, .inr (.inl hh)), (3, .inl c), (4, .inl sp), (5, .inl j)] [] m' := by
    intro r
    induction r with
    | zero =>
      intro j m' hj hf hi
      exact f_M_lays3_3 ⟨fun _ => kpost m' (fun i hi2 => hi i (by omega)) hf, fun hn => by omega⟩
    | succ r ih =>
      intro j m' hj hf hi
      have hb := hpt_le hh j
      have hm1 : hpt hh j * c ≤ 65535 * 32 := Nat.mul_le_mul hb hc.2
      have hm2 : hpt hh j * 3 * c ≤ 65535 * 3 * 32 := Nat.mul_le_mul (Nat.mul_le_mul_right 3 hb) hc.2
      have hl : hpt hh j * c / 65536 < c := hshare_lt hh j hc.1
      have e1 : (hpt hh j : Int) * (c : Int) = ((hpt hh j * c : Nat) : Int) := by rw [Int.natCast_mul]
      have e2 : (hpt hh j : Int) * 3 * (c : Int) = ((hpt hh j * 3 * c : Nat) : Int) := by rw [Int.natCast_mul, Int.natCast_mul]; rfl
      have e3 : hpt hh j * 3 * c = hpt hh j * (3 * c) := Nat.mul_assoc _ _ _
      have hjc : j * c ≤ 2 * 32 := Nat.mul_le_mul (by omega) hc.2
      have ejc : (j : Int) * (c : Int) = ((j * c : Nat) : Int) := by rw [Int.natCast_mul]
      have stp : ∀ v : Int, v = h3 c sp hh j → am_GV (d + 2) 153 P 3 [(0, .inr (.inr 55)), (1, .inr (.inl hh)), (3, .inl c), (4, .inl sp), (5, .inl ((j : Int) + 1))] [] (am_wr m' 67 j v) := by
        intro v hv
        refine ih (j + 1) _ (by omega) (hf.wr (by decide)) (fun i hij => ?_)
        rw [wr_at]
        by_cases hij2 : i = j
        · subst hij2
          rw [if_pos rfl, hv]
        · rw [if_neg (by omega)]
          exact hi i (by omega)
      refine f_M_lays3_3 ⟨fun hn => by omega, fun _ => r_part (by omega) ⟨fun s0 => ⟨fun s1 => ?_, fun s1 => ⟨fun j0 => ?_, fun j0 => ?_⟩⟩, fun s0 => ?_⟩⟩
      · rw [e2]
        refine ⟨am_RI (by omega) (by omega), am_RI (by omega) (by omega), by omega, by omega, by omega, by omega, am_RI (by omega) (by omega), stp _ ?_⟩
        have hsp : sp = 2 := by omega
        subst hsp
        rw [e3]
        cases j with
        | zero => unfold h3; simp
        | succ j => unfold h3; simp
      · rw [e2]
        refine ⟨am_RI (by omega) (by omega), am_RI (by omega) (by omega), by omega, by omega, by omega, by omega, am_RI (by omega) (by omega), stp _ ?_⟩
        have hsp : sp = 1 := by omega
        subst hsp
        have hj0 : j = 0 := by omega
        subst hj0
        rw [e3]
        unfold h3; simp
      · have hsp : sp = 1 := by omega
        subst hsp
        obtain ⟨i0, rfl⟩ : ∃ i0, j = i0 + 1 := ⟨j - 1, by omega⟩
        have e4 : ((i0 + 1 : Nat) : Int) - 1 = (i0 : Int) := by omega
        have e5 : m'.1 67 i0 = h3 c 1 hh i0 := hi i0 (by omega)
        have hl3 : h3 c 1 hh i0 < 3 * c := h3_lt 1 hh hc.1 (by omega)
        rw [e4, e5, e1]
        refine ⟨am_RI (by omega) (by omega), by omega, by omega, am_RI (by omega) (by omega), am_RI (by omega) (by omega), by omega, by omega, am_RI (by omega) (by omega), am_RI (by omega) (by omega), by omega, by omega, by omega, by omega, am_RI (by omega) (by omega), stp _ ?_⟩
        rw [show h3 c 1 hh (i0 + 1) = (h3 c 1 hh i0 + 1 + hpt hh (i0 + 1) * c / 65536) % (3 * c) by rw [h3]; simp]
        rfl
      · have hsp : sp = 0 := by omega
        subst hsp
        rw [e1, ejc]
        refine ⟨am_RI (by omega) (by omega), am_RI (by omega) (by omega), by omega, by omega, am_RI (by omega) (by omega), by omega, by omega, am_RI (by omega) (by omega), stp _ ?_⟩
        cases j with
        | zero => unfold h3; simp
        | succ j => unfold h3; simp
  exact key 3 0 m (by omega) Fr.rf (fun i hi => by omega)
/-- whether the j-th of three is to be told: r turns from i on, n met -/
def tbv (f : Nat → Nat) (j : Nat) : Nat → Nat → Nat → Bool
  | 0, _, n => decide (n ≠ 2)
  | r + 1, i, n => if f i = f j then (if i < j then false else tbv f j r (i + 1) (n + 1)) else tbv f j r (i + 1) n
theorem r_touchesBy {d : Nat} {P : Int → am_M → Prop} {m : am_M} {f : Nat → Nat} {j : Nat} (hj : j < 3) (hf : ∀ i : Nat, i < 3 → m.1 67 i = f i) (kpost : P (if tbv f j 3 0 0 = true then 1 else 0) m) : am_OkI (d + 1) 154 [.inr (.inr 55), .inl j] m P := by
  refine f_M_touchesBy ?_
  have key : ∀ (r i n : Nat), i + r = 3 → n ≤ i → P (if tbv f j r i n = true then 1 else 0) m → am_GI (d + 1) 154 P 4 [(0, .inr (.inr 55)), (1, .inl j), (2, .inl n), (3, .inl i)] [] m := by
    intro r
    induction r with
    | zero =>
      intro i n hi hn hp
      unfold tbv at hp
      refine f_M_touchesBy_4 ⟨fun _ => ⟨fun h2 => ⟨Or.inl rfl, ?_⟩, fun h2 => ⟨Or.inr rfl, ?_⟩⟩, fun hn => by omega⟩
      · have : n = 2 := by omega
        subst this
        exact hp
      · rw [if_pos (by simp; omega)] at hp
        exact hp
    | succ r ih =>
      intro i n hi hn hp
      refine f_M_touchesBy_4 ⟨fun hn => by omega, fun _ => ?_⟩
      rw [hf i (by omega), hf j hj]
      refine ⟨by omega, by omega, by omega, by omega, fun he => ⟨fun hle => ?_, fun hle => ⟨Or.inl rfl, ?_⟩⟩, fun he => ?_⟩
      · rw [show tbv f j (r + 1) i n = tbv f j r (i + 1) (n + 1) by rw [tbv, if_pos (by omega), if_neg (by omega)]] at hp
        exact ⟨am_RI (by omega) (by omega), am_RI (by omega) (by omega), ih (i + 1) (n + 1) (by omega) (by omega) hp⟩
      · rw [show tbv f j (r + 1) i n = false by rw [tbv, if_pos (by omega), if_pos (by omega)]] at hp
        exact hp
      · rw [show tbv f j (r + 1) i n = tbv f j r (i + 1) n by rw [tbv, if_neg (by omega)]] at hp
        exact ⟨am_RI (by omega) (by omega), ih (i + 1) n (by omega) (by omega) hp⟩
  exact key 3 0 0 (by omega) (by omega) kpost
/-- the cells that are touched, as the reference lays them -/
def utset (a b c : Nat) : List Nat := if a = b then [c] else if a = c then [b] else if b = c then [a] else [a, b, c]
theorem mem_utset {a b c x : Nat} : x ∈ utset a b c ↔ x ∈ tset a b c := by
  unfold utset tset
  split
  · rfl
  · split
    · rfl
    · split
      · rfl
      · simp only [List.mem_cons, List.not_mem_nil, or_false]
        omega
theorem utset_len {a b c : Nat} : (utset a b c).length = (tset a b c).length := by
  unfold utset tset
  split
  · rfl
  · split
    · rfl
    · split <;> rfl
theorem utset_nodup {a b c : Nat} : (utset a b c).Nodup := by
  unfold utset
  split
  · simp
  · split
    · simp
    · split
      · simp
      · simp; omega
/-- the list that is laid while j goes through 0, 1, 2 -/
def ulist (f : Nat → Nat) : Nat → List Nat
  | 0 => []
  | j + 1 => ulist f j ++ if tbv f j 3 0 0 = true then [f j] else []
theorem ulist3 (f : Nat → Nat) : ulist f 3 = utset (f 0) (f 1) (f 2) := by
  unfold utset
  by_cases h1 : f 0 = f 1
  · by_cases h2 : f 0 = f 2
    · have h3 : f 1 = f 2 := h1.symm.trans h2
      simp [ulist, tbv, h1, h3]
    · have h3 : ¬ f 1 = f 2 := fun e => h2 (h1.trans e)
      have h4 : ¬ f 2 = f 1 := fun e => h3 e.symm
      simp [ulist, tbv, h1, h3, h4]
  · by_cases h2 : f 0 = f 2
    · have h3 : ¬ f 1 = f 0 := fun e => h1 e.symm
      have h4 : ¬ f 1 = f 2 := fun e => h1 (h2.trans e.symm)
      have h5 : ¬ f 2 = f 1 := fun e => h4 e.symm
      simp [ulist, tbv, h1, h2, h4, h5]
    · by_cases h3 : f 1 = f 2
      · have h4 : ¬ f 1 = f 0 := fun e => h1 e.symm
        have h5 : ¬ f 2 = f 0 := fun e => h2 e.symm
        simp [ulist, tbv, h2, h3, h5]
      · have h4 : ¬ f 1 = f 0 := fun e => h1 e.symm
        have h5 : ¬ f 2 = f 0 := fun e => h2 e.symm
        have h6 : ¬ f 2 = f 1 := fun e => h3 e.symm
        simp [ulist, tbv, h1, h2, h3, h4, h5, h6]
def UT (K : Nat → Int64) (seed : Int) (c sp : Nat) : Nat → List Nat := fun k => utset (h3 c sp (h_hash (K k) seed) 0) (h3 c sp (h_hash (K k) seed) 1) (h3 c sp (h_hash (K k) seed) 2)
theorem mem_UT {K : Nat → Int64} {seed : Int} {c sp k x : Nat} : x ∈ UT K seed c sp k ↔ x ∈ TT K seed c sp k := mem_utset
/-- U stands for T, in another order -/
def UOK (U T : Nat → List Nat) (n : Nat) : Prop := ∀ k, k < n → (U k).Nodup ∧ (U k).length = (T k).length ∧ ∀ x, x ∈ U k ↔ x ∈ T k
theorem UT_ok (K : Nat → Int64) (seed : Int) (c sp n : Nat) : UOK (UT K seed c sp) (TT K seed c sp) n := fun _ _ => ⟨utset_nodup, utset_len, fun _ => mem_utset⟩
def MSt (m : am_M) (n : Nat) (K : Nat → Int64) (V S : Nat → Nat) : Prop := m.1 6521 0 = n ∧ n ≤ 48 ∧ (∀ k : Nat, k < n → m.2 57 k = K k) ∧ (∀ k : Nat, k < n → m.1 60 k = V k) ∧ (∀ i : Nat, 1 ≤ i → i ≤ 6 → m.1 63 i = S i) ∧ SOK S ∧ ∀ k, k < n → V k < 2 ^ S 3
theorem MSt.fr {m m' : am_M} {n : Nat} {K : Nat → Int64} {V S : Nat → Nat} (h : MSt m n K V S) {l1 l2 : List Nat} (hf : Fr l1 l2 m m') (h1 : 6521 ∉ l1 ∧ 60 ∉ l1 ∧ 63 ∉ l1 ∧ 57 ∉ l2) : MSt m' n K V S := by
  unfold MSt
  rw [hf.1 _ h1.1, hf.1 _ h1.2.1, hf.1 _ h1.2.2.1, hf.2 _ h1.2.2.2]
  exact h
def RefC (m : am_M) (U : Nat → List Nat) (n : Nat) : Prop := ∀ k : Nat, k < n → m.1 69 k = (U k).length ∧ ∀ t x : Nat, (U k)[t]? = some x → m.1 68 (3 * k + t) = x
def RefD (m : am_M) (T : Nat → List Nat) (n : Nat) (left : Nat → Bool) : Prop := m.1 6530 0 = pleft left n ∧ (∀ k : Nat, k < n → m.1 72 k = if left k = true then 1 else 0) ∧ ∀ x : Nat, x < 96 → m.1 70 x = pcnt T left x n ∧ m.1 71 x = psum T left x n
theorem RefC.fr {m m' : am_M} {U : Nat → List Nat} {n : Nat} (h : RefC m U n) {l1 l2 : List Nat} (hf : Fr l1 l2 m m') (h1 : 69 ∉ l1 ∧ 68 ∉ l1) : RefC m' U n := by
  unfold RefC
  rw [hf.1 _ h1.1, hf.1 _ h1.2]
  exact h
theorem RefD.fr {m m' : am_M} {T : Nat → List Nat} {n : Nat} {left : Nat → Bool} (h : RefD m T n left) {l1 l2 : List Nat} (hf : Fr l1 l2 m m') (h1 : 6530 ∉ l1 ∧ 72 ∉ l1 ∧ 70 ∉ l1 ∧ 71 ∉ l1) : RefD m' T n left := by
  unfold RefD
  rw [hf.1 _ h1.1, hf.1 _ h1.2.1, hf.1 _ h1.2.2.1, hf.1 _ h1.2.2.2]
  exact h
theorem RefD.congr {m : am_M} {T : Nat → List Nat} {n : Nat} {l1 l2 : Nat → Bool} (h : RefD m T n l1) (he : ∀ j, j < n → l1 j = l2 j) : RefD m T n l2 := by
  refine ⟨by rw [← pleft_congr he]; exact h.1, fun k hk => by rw [← he k hk]; exact h.2.1 k hk, fun x hx => ?_⟩
  rw [← pcnt_congr he, ← psum_congr he]
  exact h.2.2 x hx
theorem r_takesOut {d : Nat} {P : am_M → Prop} {m : am_M} {U T : Nat → List Nat} {n N k : Nat} {left : Nat → Bool} (hn : n ≤ 48) (hN : N ≤ 96) (hT : TOK T n N) (hU : UOK U T n) (hC : RefC m U n) (hD : RefD m T n left) (hk : k < n) (hl : left k = true) (kpost : ∀ m' : am_M, RefD m' T n (pset left k false) → Fr [70, 71, 72, 6530] [] m m' → P m') : am_OkV (d + 1) 160 [.inr (.inr 55), .inl k] m P := by
  obtain ⟨d1, d2, d3⟩ := id hD
  have hpl : pleft left n ≤ n := pleft_le
  obtain ⟨hC1, hC2⟩ := hC k hk
  obtain ⟨hU1, hU2, hU3⟩ := hU k hk
  have hTk := hT k hk
  have hlt : ∀ x ∈ U k, x < N := fun x hx => hTk.2.2 x ((hU3 x).mp hx)
  have loop : ∀ (l : List Nat) (j : Nat) (m' : am_M), (U k).drop j = l → l.Nodup → Fr [70, 71, 72, 6530] [] m m' → (∀ c ∈ l, am_R (m'.1 70 (c : Int) - 1) ∧ am_R (m'.1 71 (c : Int) - k)) → P (tk 70 71 (fun z => z - 1) (fun z => z - k) m' l) → am_GV (d + 1) 160 P 19 [(0, .inr (.inr 55)), (1, .inl k), (2, .inl j)] [] m' := by
    intro l
    induction l with
    | nil =>
      intro j m' hd _ hf _ hp
      have hj : (U k).length ≤ j := by
        have := congrArg List.length hd
        rw [List.length_drop] at this
        simp at this
        omega
      refine f_M_takesOut_19 ?_
      rw [show m'.1 69 k = (U k).length by rw [hf.1 _ (by decide)]; exact hC1]
      exact ⟨by omega, by omega, fun _ => hp, fun hh => by omega⟩
    | cons c l ih =>
      intro j m' hd hnd hf hb hp
      have hc0 : (U k)[j]? = some c := by
        have := congrArg (fun z => z[0]?) hd
        simpa using this
      have hjl : j < (U k).length := (List.getElem?_eq_some_iff.mp hc0).1
      have hcN : c < N := hlt c (List.mem_of_getElem? hc0)
      have hlen := hTk.1
      rw [List.nodup_cons] at hnd
      refine f_M_takesOut_19 ?_
      rw [show m'.1 69 k = (U k).length by rw [hf.1 _ (by decide)]; exact hC1, show m'.1 68 (3 * k + j) = c by rw [hf.1 _ (by decide)]; exact hC2 j c hc0]
      refine ⟨by omega, by omega, fun hh => by omega, fun _ => ⟨am_RI (by omega) (by omega), am_RI (by omega) (by omega), by omega, by omega, by omega, by omega, (hb c List.mem_cons_self).1, by omega, by omega, am_RI (by omega) (by omega), am_RI (by omega) (by omega), by omega, by omega, by omega, by omega, (hb c List.mem_cons_self).2, by omega, by omega, am_RI (by omega) (by omega), ?_⟩⟩
      refine ih (j + 1) _ (by rw [← List.drop_drop, hd]; rfl) hnd.2 ((hf.wr (by decide)).wr (by decide)) (fun x hx => ?_) hp
      have hxc : x ≠ c := fun e => hnd.1 (e ▸ hx)
      rw [wr_ne _ _ _ (by decide), wr_at, if_neg (by omega), wr_at, if_neg (by omega), wr_ne _ _ _ (by decide)]
      exact hb x (List.mem_cons_of_mem _ hx)
  refine f_M_takesOut ?_
  rw [d1]
  refine ⟨by omega, by omega, Or.inl rfl, am_RI (by omega) (by omega), ?_⟩
  have hf1 : Fr [70, 71, 72, 6530] [] m (am_wr (am_wr m 72 k 0) 6530 0 ((pleft left n : Int) - 1)) := (Fr.rf.wr (by decide)).wr (by decide)
  generalize hm1 : am_wr (am_wr m 72 k 0) 6530 0 ((pleft left n : Int) - 1) = m1 at hf1 ⊢
  have l1 : m1.1 70 = m.1 70 := by rw [← hm1, wr_ne _ _ _ (by decide), wr_ne _ _ _ (by decide)]
  have l2 : m1.1 71 = m.1 71 := by rw [← hm1, wr_ne _ _ _ (by decide), wr_ne _ _ _ (by decide)]
  have l3 : m1.1 6530 0 = (pleft left n : Int) - 1 := by rw [← hm1, wr_at, if_pos rfl]
  have l4 : ∀ j : Nat, m1.1 72 j = if j = k then 0 else m.1 72 j := fun j => by
    rw [← hm1, wr_ne _ _ _ (by decide), wr_at]
    by_cases hj : j = k
    · rw [if_pos hj, if_pos (by omega)]
    · rw [if_neg hj, if_neg (by omega)]
  refine loop (U k) 0 m1 rfl hU1 hf1 (fun c hc => ?_) ?_
  · have hc96 : c < 96 := by have := hlt c hc; omega
    rw [l1, l2, (d3 c hc96).1, (d3 c hc96).2]
    have h1 : pcnt T left c n ≤ n := pcnt_le
    have h2 : psum T left c n ≤ n * n := psum_le
    have h3 : n * n ≤ 48 * 48 := Nat.mul_le_mul hn hn
    exact ⟨am_RI (by omega) (by omega), am_RI (by omega) (by omega)⟩
  · obtain ⟨hf2, hs⟩ := tk_spec (i1 := 70) (i2 := 71) (g1 := fun z => z - 1) (g2 := fun z => z - k) (by decide) (m := m1) hU1
    have hf := hf1.tr hf2 (k1 := [70, 71, 72, 6530]) (k2 := []) (fun _ h => h) (fun _ h => h) (by decide) (fun _ h => h)
    refine kpost _ ⟨?_, fun j hj => ?_, fun x hx => ?_⟩ hf
    · rw [hf2.1 _ (by decide), l3]
      have := pleft_off hk hl
      omega
    · rw [hf2.1 _ (by decide), l4, pset]
      by_cases hjk : j = k
      · simp [hjk]
      · rw [if_neg hjk, if_neg hjk]
        exact d2 j hj
    · obtain ⟨s1, s2⟩ := hs x
      rw [s1, s2, l1, l2, (d3 x hx).1, (d3 x hx).2]
      have c1 := pcnt_set (T := T) (left := left) (x := x) (b := false) hk
      have c2 := psum_set (T := T) (left := left) (x := x) (b := false) hk
      simp only [hl, true_and, Bool.false_eq_true, false_and, if_false] at c1 c2
      by_cases hxk : x ∈ T k
      · rw [if_pos hxk] at c1 c2
        rw [if_pos ((hU3 x).mpr hxk), if_pos ((hU3 x).mpr hxk)]
        exact ⟨by omega, by omega⟩
      · rw [if_neg hxk] at c1 c2
        rw [if_neg (fun z => hxk ((hU3 x).mp z)), if_neg (fun z => hxk ((hU3 x).mp z))]
        exact ⟨by omega, by omega⟩
theorem r_isOf {d : Nat} {P : Int → am_M → Prop} {m : am_M} {U T : Nat → List Nat} {n N k x : Nat} (hn : n ≤ 48) (hT : TOK T n N) (hU : UOK U T n) (hC : RefC m U n) (hk : k < n) (kpost : P (if x ∈ T k then 1 else 0) m) : am_OkI (d + 1) 164 [.inr (.inr 55), .inl k, .inl x] m P := by
  obtain ⟨hC1, hC2⟩ := hC k hk
  obtain ⟨hU1, hU2, hU3⟩ := hU k hk
  have hlen := (hT k hk).1
  refine f_M_isOf ?_
  have key : ∀ (r j : Nat), j + r = (U k).length → (∀ i, i < j → (U k)[i]? ≠ some x) → am_GI (d + 1) 164 P 2 [(0, .inr (.inr 55)), (1, .inl k), (2, .inl x), (3, .inl j)] [] m := by
    intro r
    induction r with
    | zero =>
      intro j hj hi
      refine f_M_isOf_2 ?_
      rw [hC1]
      refine ⟨by omega, by omega, fun _ => ⟨Or.inl rfl, ?_⟩, fun hh => by omega⟩
      rw [if_neg (fun hx => by
        obtain ⟨i, hi2⟩ := List.getElem?_of_mem ((hU3 x).mpr hx)
        exact hi i (by have := (List.getElem?_eq_some_iff.mp hi2).1; omega) hi2)] at kpost
      exact kpost
    | succ r ih =>
      intro j hj hi
      have ej : (U k)[j]? = some ((U k)[j]'(by omega)) := List.getElem?_eq_getElem (by omega)
      refine f_M_isOf_2 ?_
      rw [hC1, hC2 j _ ej]
      refine ⟨by omega, by omega, fun hh => by omega, fun _ => ⟨am_RI (by omega) (by omega), am_RI (by omega) (by omega), by omega, by omega, fun hne => ⟨am_RI (by omega) (by omega), ih (j + 1) (by omega) (fun i hij => ?_)⟩, fun he => ⟨Or.inr rfl, ?_⟩⟩⟩
      · by_cases hij2 : i = j
        · subst hij2
          rw [ej]
          intro e
          exact hne (by rw [Option.some.inj e])
        · exact hi i (by omega)
      · have hx : x ∈ T k := (hU3 x).mp (by
          have e : (U k)[j]'(by omega) = x := by omega
          rw [← e]
          exact List.getElem_mem _)
        rw [if_pos hx] at kpost
        exact kpost
  exact key (U k).length 0 (by omega) (fun i hi => by omega)
