/-! MARKS: what a seed makes of a number -/
def h_mix (x0 : Int64) : Int64 := ((((x0 ^^^ (am_lushr x0 (30 : Int))) * (Int64.ofNat 13787848793156543929)) ^^^ (am_lushr ((x0 ^^^ (am_lushr x0 (30 : Int))) * (Int64.ofNat 13787848793156543929)) (27 : Int))) * (Int64.ofNat 10723151780598845931)) ^^^ (am_lushr ((((x0 ^^^ (am_lushr x0 (30 : Int))) * (Int64.ofNat 13787848793156543929)) ^^^ (am_lushr ((x0 ^^^ (am_lushr x0 (30 : Int))) * (Int64.ofNat 13787848793156543929)) (27 : Int))) * (Int64.ofNat 10723151780598845931)) (31 : Int))
def h_hash (x : Int64) (seed : Int) : Int64 := h_mix (x + h_mix (am_i2l seed))
def h_print (h : Int64) (pr : Int) : Int := am_and (am_l2i (h ^^^ (am_lushr h (32 : Int)))) (am_shl 1 pr - 1)
def hpt (h : Int64) (j : Nat) : Nat := (am_and (am_l2i (am_lushr h (16 + 16 * j))) 65535).toNat
theorem and_mask (z : Int) : 0 ≤ am_and z 65535 ∧ am_and z 65535 ≤ 65535 := by
  unfold am_and
  have h := pk_and (Int32.ofInt z) (m := Int32.ofInt 65535) 16 (by decide)
  rw [h]
  have hlt : (Int32.ofInt z).toBitVec.toNat % 2 ^ 16 < 2 ^ 16 := Nat.mod_lt _ (by decide)
  rw [nI_toInt (by omega)]
  omega
theorem hpt_eq (h : Int64) (j : Nat) : am_and (am_l2i (am_lushr h (16 + 16 * j))) 65535 = (hpt h j : Int) := (Int.toNat_of_nonneg (and_mask _).1).symm
theorem hpt_le (h : Int64) (j : Nat) : hpt h j ≤ 65535 := by
  have := (and_mask (am_l2i (am_lushr h (16 + 16 * j)))).2
  have e := hpt_eq h j
  omega
theorem ushr16 {z : Nat} (h : z < 2 ^ 31) : am_ushr z 16 = (z / 65536 : Nat) := by
  unfold am_ushr
  have e : Int32.ofInt (z : Int) = nI z := Int32.ofInt_eq_ofNat
  rw [e, pk_ushrN (by omega) (Int32.ofInt 16) 16 (by decide)]
  rw [nI_toInt (by omega)]
/-- the j-th of the three -/
def h3 (c sp : Nat) (h : Int64) : Nat → Nat
  | 0 => if sp = 0 then hpt h 0 * c / 65536 else hpt h 0 * (3 * c) / 65536
  | j + 1 => if sp = 0 then (j + 1) * c + hpt h (j + 1) * c / 65536 else if sp = 1 then (h3 c sp h j + 1 + hpt h (j + 1) * c / 65536) % (3 * c) else hpt h (j + 1) * (3 * c) / 65536
theorem hshare_lt (h : Int64) (j : Nat) {c : Nat} (hc : 0 < c) : hpt h j * c / 65536 < c := by
  have := hpt_le h j
  rw [Nat.div_lt_iff_lt_mul (by decide)]
  have h1 : hpt h j * c ≤ 65535 * c := Nat.mul_le_mul_right c this
  omega
theorem h3_lt (sp : Nat) (h : Int64) {c : Nat} (hc : 0 < c) : ∀ {j : Nat}, j < 3 → h3 c sp h j < 3 * c
  | 0, _ => by
    unfold h3
    split
    · have := hshare_lt h 0 hc; omega
    · exact hshare_lt h 0 (by omega)
  | j + 1, hj => by
    unfold h3
    split
    · have := hshare_lt h (j + 1) hc
      rcases (show j = 0 ∨ j = 1 by omega) with rfl | rfl <;> omega
    · split
      · exact Nat.mod_lt _ (by omega)
      · exact hshare_lt h (j + 1) (by omega)
/-- the cells that are touched, by numbers -/
def tset (a b c : Nat) : List Nat := if a = b then [c] else if a = c then [b] else if b = c then [a] else [min a (min b c), a + b + c - min a (min b c) - max a (max b c), max a (max b c)]
theorem tset_ok {a b c N : Nat} (ha : a < N) (hb : b < N) (hc : c < N) : ((tset a b c).length = 1 ∨ (tset a b c).length = 3) ∧ (tset a b c).Pairwise (· < ·) ∧ ∀ x ∈ tset a b c, x < N := by
  unfold tset
  split
  · exact ⟨Or.inl rfl, by simp, by simp; omega⟩
  · split
    · exact ⟨Or.inl rfl, by simp, by simp; omega⟩
    · split
      · exact ⟨Or.inl rfl, by simp, by simp; omega⟩
      · refine ⟨Or.inr rfl, ?_, ?_⟩
        · refine List.pairwise_cons.mpr ⟨fun x hx => ?_, List.pairwise_cons.mpr ⟨fun x hx => ?_, List.pairwise_cons.mpr ⟨fun x hx => absurd hx List.not_mem_nil, List.Pairwise.nil⟩⟩⟩
          · simp only [List.mem_cons, List.not_mem_nil, or_false] at hx
            rcases hx with rfl | rfl <;> omega
          · simp only [List.mem_cons, List.not_mem_nil, or_false] at hx
            subst hx
            omega
        · intro x hx
          simp only [List.mem_cons, List.not_mem_nil, or_false] at hx
          rcases hx with rfl | rfl | rfl <;> omega
theorem mem_tset {a b c x : Nat} (h1 : a ≠ b) (h2 : a ≠ c) (h3 : b ≠ c) : x ∈ tset a b c ↔ x = a ∨ x = b ∨ x = c := by
  unfold tset
  rw [if_neg h1, if_neg h2, if_neg h3]
  simp only [List.mem_cons, List.not_mem_nil, or_false]
  omega
def htouch (c sp : Nat) (h : Int64) : List Nat := tset (h3 c sp h 0) (h3 c sp h 1) (h3 c sp h 2)
theorem htouch_ok (sp : Nat) (h : Int64) {c : Nat} (hc : 0 < c) : ((htouch c sp h).length = 1 ∨ (htouch c sp h).length = 3) ∧ (htouch c sp h).Pairwise (· < ·) ∧ ∀ x ∈ htouch c sp h, x < 3 * c := tset_ok (h3_lt sp h hc (by decide)) (h3_lt sp h hc (by decide)) (h3_lt sp h hc (by decide))
theorem shl1 : ∀ p : Nat, p < 17 → am_shl 1 p = (2 ^ p : Nat) := by decide
theorem shl1_R {p : Nat} (h : p < 17) : am_R (am_shl 1 p - 1) := by
  have h1 : (2 ^ p : Nat) ≤ 2 ^ 16 := Nat.pow_le_pow_right (by decide) (by omega)
  rw [shl1 p h]
  generalize 2 ^ p = z at h1
  exact am_RI (by omega) (by omega)
theorem c_mix {d : Nat} {P : Int64 → am_M → Prop} {m : am_M} {x : Int64} (h : P (h_mix x) m) : am_OkL (d + 1) 16 [.inr (.inl x)] m P := f_Marks_mix h
def MarkA (m : am_M) (seed : Int) (c pr sp : Nat) : Prop := m.2 2704 0 = h_mix (am_i2l seed) ∧ m.1 2705 0 = c ∧ m.1 2706 0 = am_shl 1 pr - 1 ∧ m.1 2707 0 = sp ∧ 0 < c ∧ c ≤ 32 ∧ sp ≤ 2
theorem c_aim {d : Nat} {P : am_M → Prop} {m : am_M} {seed : Int} {c pr sp : Nat} (hc : 0 < c ∧ c ≤ 32) (hp : pr ≤ 16) (hs : sp ≤ 2) (kpost : ∀ m' : am_M, MarkA m' seed c pr sp → Fr [2705, 2706, 2707] [2704] m m' → P m') : am_OkV (d + 2) 17 [.inr (.inr 17), .inl seed, .inl c, .inl pr, .inl sp] m P := by
  refine f_Marks_aim (c_mix ⟨shl1_R (by omega), ?_⟩)
  refine kpost _ ⟨?_, ?_, ?_, ?_, hc.1, hc.2, hs⟩ ((((Fr.rf.wl (by decide)).wr (by decide)).wr (by decide)).wr (by decide))
  · rw [wr_2, wr_2, wr_2, wl_at, if_pos rfl]
  · rw [wr_ne _ _ _ (by decide), wr_ne _ _ _ (by decide), wr_at, if_pos rfl]
  · rw [wr_ne _ _ _ (by decide), wr_at, if_pos rfl]
  · rw [wr_at, if_pos rfl]
theorem c_share {d : Nat} {P : Int → am_M → Prop} {m : am_M} {h : Int64} {j w : Nat} (hj : j < 3) (hw : w ≤ 96) (hp : P (hpt h j * w / 65536 : Nat) m) : am_OkI (d + 1) 22 [.inr (.inl h), .inl j, .inl w] m P := by
  refine f_Marks_share ?_
  have hb := hpt_le h j
  have hm : hpt h j * w ≤ 65535 * 96 := Nat.mul_le_mul hb hw
  rw [hpt_eq]
  have e : ((hpt h j : Nat) : Int) * (w : Int) = ((hpt h j * w : Nat) : Int) := by rw [Int.natCast_mul]
  rw [e, ushr16 (by omega)]
  exact ⟨am_RI (by omega) (by omega), am_RI (by omega) (by omega), am_RI (by omega) (by omega), hp⟩
/-- the three of a hash: they are laid one after the other -/
theorem c_place {d : Nat} {P : am_M → Prop} {m : am_M} {seed : Int} {c pr sp : Nat} {hh : Int64} (hA : MarkA m seed c pr sp) (kpost : ∀ m' : am_M, (∀ j : Nat, j < 3 → m'.1 18 j = h3 c sp hh j) → Fr [18] [] m m' → P m') : (sp = 0 → am_OkV (d + 2) 19 [.inr (.inr 17), .inr (.inl hh)] m P) ∧ (sp = 1 → am_OkV (d + 2) 20 [.inr (.inr 17), .inr (.inl hh)] m P) ∧ (sp = 2 → am_OkV (d + 2) 21 [.inr (.inr 17), .inr (.inl hh)] m P) := by
  obtain ⟨-, a2, -, -, c0, c32, -⟩ := hA
  refine ⟨fun hs => ?_, fun hs => ?_, fun hs => ?_⟩
  · subst hs
    refine f_Marks_placeApart ?_
    have key : ∀ (r j : Nat) (m' : am_M), j + r = 3 → Fr [18] [] m m' → (∀ i : Nat, i < j → m'.1 18 i = h3 c 0 hh i) → am_GV (d + 2) 19 P 2 [(0, .inr (.inr 17)), (1, .inr (.inl hh)), (3, .inl j)] [] m' := by
      intro r
      induction r with
      | zero =>
        intro j m' hj hf hi
        exact f_Marks_placeApart_2 ⟨fun _ => kpost m' (fun i hi2 => hi i (by omega)) hf, fun hn => by omega⟩
      | succ r ih =>
        intro j m' hj hf hi
        have e2 : m'.1 2705 0 = c := by rw [hf.1 _ (by decide)]; exact a2
        have hl : hpt hh j * c / 65536 < c := hshare_lt hh j c0
        have hjc : j * c ≤ 2 * 32 := Nat.mul_le_mul (by omega) c32
        have ejc : (j : Int) * (c : Int) = ((j * c : Nat) : Int) := by rw [Int.natCast_mul]
        refine f_Marks_placeApart_2 ⟨fun hn => by omega, fun _ => ?_⟩
        rw [e2, ejc]
        refine ⟨am_RI (by omega) (by omega), c_share (by omega) (by omega) ⟨am_RI (by omega) (by omega), by omega, by omega, am_RI (by omega) (by omega), ?_⟩⟩
        refine ih (j + 1) _ (by omega) (hf.wr (by decide)) (fun i hij => ?_)
        rw [wr_at]
        by_cases hij2 : i = j
        · subst hij2
          rw [if_pos rfl]
          cases i with
          | zero => unfold h3; simp
          | succ i => unfold h3; simp
        · rw [if_neg (by omega)]
          exact hi i (by omega)
    exact key 3 0 m (by omega) Fr.rf (fun i hi => by omega)
  · subst hs
    refine f_Marks_placeClose ?_
    rw [a2]
    have e3c : (3 : Int) * (c : Int) = ((3 * c : Nat) : Int) := by omega
    rw [e3c]
    refine ⟨am_RI (by omega) (by omega), c_share (j := 0) (by omega) (by omega) ⟨by omega, by omega, ?_⟩⟩
    have key : ∀ (r j : Nat) (m' : am_M), j + r = 3 → 0 < j → Fr [18] [] m m' → (∀ i : Nat, i < j → m'.1 18 i = h3 c 1 hh i) → am_GV (d + 2) 20 P 22 [(0, .inr (.inr 17)), (1, .inr (.inl hh)), (3, .inl ((3 * c : Nat) : Int)), (4, .inl j)] [] m' := by
      intro r
      induction r with
      | zero =>
        intro j m' hj _ hf hi
        exact f_Marks_placeClose_22 ⟨fun _ => kpost m' (fun i hi2 => hi i (by omega)) hf, fun hn => by omega⟩
      | succ r ih =>
        intro j m' hj hj0 hf hi
        obtain ⟨i0, rfl⟩ : ∃ i0, j = i0 + 1 := ⟨j - 1, by omega⟩
        have e2 : m'.1 2705 0 = c := by rw [hf.1 _ (by decide)]; exact a2
        have hl : hpt hh (i0 + 1) * c / 65536 < c := hshare_lt hh (i0 + 1) c0
        have e3 : ((i0 + 1 : Nat) : Int) - 1 = (i0 : Int) := by omega
        have e4 : m'.1 18 i0 = h3 c 1 hh i0 := hi i0 (by omega)
        have hl3 : h3 c 1 hh i0 < 3 * c := h3_lt 1 hh c0 (by omega)
        refine f_Marks_placeClose_22 ⟨fun hn => by omega, fun _ => ?_⟩
        rw [e2, e3, e4]
        refine ⟨am_RI (by omega) (by omega), by omega, by omega, am_RI (by omega) (by omega), c_share (by omega) (by omega) ⟨am_RI (by omega) (by omega), fun hge => ?_, fun hlt => ?_⟩⟩
        · refine ⟨am_RI (by omega) (by omega), by omega, by omega, am_RI (by omega) (by omega), ih (i0 + 1 + 1) _ (by omega) (by omega) (hf.wr (by decide)) (fun i hij => ?_)⟩
          rw [wr_at]
          by_cases hij2 : i = i0 + 1
          · subst hij2
            rw [if_pos rfl]
            rw [show h3 c 1 hh (i0 + 1) = (h3 c 1 hh i0 + 1 + hpt hh (i0 + 1) * c / 65536) % (3 * c) by rw [h3]; simp]
            rw [Nat.mod_eq_sub_mod (by omega), Nat.mod_eq_of_lt (by omega)]
            omega
          · rw [if_neg (by omega)]
            exact hi i (by omega)
        · refine ⟨by omega, by omega, am_RI (by omega) (by omega), ih (i0 + 1 + 1) _ (by omega) (by omega) (hf.wr (by decide)) (fun i hij => ?_)⟩
          rw [wr_at]
          by_cases hij2 : i = i0 + 1
          · subst hij2
            rw [if_pos rfl]
            rw [show h3 c 1 hh (i0 + 1) = (h3 c 1 hh i0 + 1 + hpt hh (i0 + 1) * c / 65536) % (3 * c) by rw [h3]; simp]
            rw [Nat.mod_eq_of_lt (by omega)]
            omega
          · rw [if_neg (by omega)]
            exact hi i (by omega)
    refine key 2 1 _ (by omega) (by omega) (Fr.rf.wr (by decide)) (fun i hi => ?_)
    have : i = 0 := by omega
    subst this
    rw [wr_at, if_pos (by omega)]
    unfold h3
    simp
  · subst hs
    refine f_Marks_placeFree ?_
    have e3c : (3 : Int) * (c : Int) = ((3 * c : Nat) : Int) := by omega
    have key : ∀ (r j : Nat) (m' : am_M), j + r = 3 → Fr [18] [] m m' → (∀ i : Nat, i < j → m'.1 18 i = h3 c 2 hh i) → am_GV (d + 2) 21 P 2 [(0, .inr (.inr 17)), (1, .inr (.inl hh)), (3, .inl j)] [] m' := by
      intro r
      induction r with
      | zero =>
        intro j m' hj hf hi
        exact f_Marks_placeFree_2 ⟨fun _ => kpost m' (fun i hi2 => hi i (by omega)) hf, fun hn => by omega⟩
      | succ r ih =>
        intro j m' hj hf hi
        have e2 : m'.1 2705 0 = c := by rw [hf.1 _ (by decide)]; exact a2
        refine f_Marks_placeFree_2 ⟨fun hn => by omega, fun _ => ?_⟩
        rw [e2, e3c]
        refine ⟨am_RI (by omega) (by omega), c_share (by omega) (by omega) ⟨by omega, by omega, am_RI (by omega) (by omega), ?_⟩⟩
        refine ih (j + 1) _ (by omega) (hf.wr (by decide)) (fun i hij => ?_)
        rw [wr_at]
        by_cases hij2 : i = j
        · subst hij2
          rw [if_pos rfl]
          cases i with
          | zero => unfold h3; simp
          | succ i => unfold h3; simp
        · rw [if_neg (by omega)]
          exact hi i (by omega)
    exact key 3 0 m (by omega) Fr.rf (fun i hi => by omega)
/-- sorted: the least, the middle, the greatest -/
theorem c_gather {d : Nat} {P : am_M → Prop} {m : am_M} {a b c : Nat} (hb : a < 96 ∧ b < 96 ∧ c < 96) (h0 : m.1 18 0 = a) (h1 : m.1 18 1 = b) (h2 : m.1 18 2 = c) (kpost : ∀ m' : am_M, m'.1 2702 0 = (tset a b c).length → (∀ t x : Nat, (tset a b c)[t]? = some x → m'.1 19 t = x) → Fr [19, 2702] [] m m' → P m') : am_OkV (d + 2) 23 [.inr (.inr 17)] m P := by
  have only : ∀ z : Nat, tset a b c = [z] → P (am_wr (am_wr m 19 0 z) 2702 0 1) := by
    intro z hz
    refine kpost _ ?_ (fun t x ht => ?_) ((Fr.rf.wr (by decide)).wr (by decide))
    · rw [wr_at, if_pos rfl, hz]; rfl
    · rw [hz] at ht
      cases t with
      | zero =>
        cases ht
        rw [wr_ne _ _ _ (by decide), wr_at, if_pos (by omega)]
      | succ t => simp at ht
  refine f_Marks_gatherTouched ?_
  simp only [h0, h1, h2]
  refine ⟨by omega, by omega, by omega, by omega, by omega, by omega, fun n1 => ⟨fun n2 => ⟨fun n3 => ?_, fun n3 => ?_⟩, fun n2 => ?_⟩, fun n1 => ?_⟩
  · have hab : a ≠ b := by omega
    have hac : a ≠ c := by omega
    have hbc : b ≠ c := by omega
    have e1 : (if (if (c : Int) < b then (c : Int) else b) < a then (if (c : Int) < b then (c : Int) else b) else a) = ((min a (min b c) : Nat) : Int) := by split <;> split <;> omega
    have e2 : (if (a : Int) < (if (b : Int) < c then (c : Int) else b) then (if (b : Int) < c then (c : Int) else b) else a) = ((max a (max b c) : Nat) : Int) := by split <;> split <;> omega
    simp only [e1, e2]
    have e3 : (a : Int) + b + c - ((min a (min b c) : Nat) : Int) - ((max a (max b c) : Nat) : Int) = ((a + b + c - min a (min b c) - max a (max b c) : Nat) : Int) := by omega
    simp only [e3]
    have ht : tset a b c = [min a (min b c), a + b + c - min a (min b c) - max a (max b c), max a (max b c)] := by
      unfold tset
      rw [if_neg hab, if_neg hac, if_neg hbc]
    refine ⟨by omega, by omega, by omega, by omega, am_RI (by omega) (by omega), am_RI (by omega) (by omega), by omega, by omega, am_RI (by omega) (by omega), by omega, by omega, am_RI (by omega) (by omega), by omega, by omega, ?_⟩
    refine kpost _ ?_ (fun t x hx => ?_) ((((Fr.rf.wr (by decide)).wr (by decide)).wr (by decide)).wr (by decide))
    · rw [wr_at, if_pos rfl, ht]; rfl
    · rw [ht] at hx
      match t, hx with
      | 0, hx =>
        cases hx
        rw [wr_ne _ _ _ (by decide), wr_at, if_neg (by decide), wr_at, if_neg (by decide), wr_at, if_pos (by decide)]
      | 1, hx =>
        cases hx
        rw [wr_ne _ _ _ (by decide), wr_at, if_pos (by decide)]
      | 2, hx =>
        cases hx
        rw [wr_ne _ _ _ (by decide), wr_at, if_neg (by decide), wr_at, if_pos (by decide)]
      | t + 3, hx => simp at hx
  · have hbc : b = c := by omega
    refine f_Marks_touchOnly ⟨by omega, by omega, only a ?_⟩
    unfold tset
    rw [if_neg (by omega), if_neg (by omega), if_pos hbc]
  · refine f_Marks_touchOnly ⟨by omega, by omega, only b ?_⟩
    unfold tset
    rw [if_neg (by omega), if_pos (by omega)]
  · refine f_Marks_touchOnly ⟨by omega, by omega, only c ?_⟩
    unfold tset
    rw [if_pos (by omega)]
/-- what the marks hold of a hash -/
def MarkT (m : am_M) (c sp : Nat) (pr : Nat) (hh : Int64) : Prop := (∀ j : Nat, j < 3 → m.1 18 j = h3 c sp hh j) ∧ m.1 2702 0 = (htouch c sp hh).length ∧ (∀ t x : Nat, (htouch c sp hh)[t]? = some x → m.1 19 t = x) ∧ m.1 2703 0 = h_print hh pr
theorem c_look {d : Nat} {P : am_M → Prop} {m : am_M} {seed : Int} {c pr sp : Nat} {x : Int64} (hA : MarkA m seed c pr sp) (kpost : ∀ m' : am_M, MarkT m' c sp pr (h_hash x seed) → MarkA m' seed c pr sp → Fr [18, 19, 2702, 2703] [] m m' → P m') : am_OkV (d + 3) 18 [.inr (.inr 17), .inr (.inl x)] m P := by
  obtain ⟨a1, a2, a3, a4, c0, c32, hs2⟩ := id hA
  refine f_Marks_look (c_mix ?_)
  rw [a1, a3, a4]
  have hm1 : ∀ w, MarkA (am_wr m 2703 0 w) seed c pr sp := fun w => ⟨a1, by rw [wr_ne _ _ _ (by decide)]; exact a2, by rw [wr_ne _ _ _ (by decide)]; exact a3, by rw [wr_ne _ _ _ (by decide)]; exact a4, c0, c32, hs2⟩
  have last : ∀ m3 : am_M, (∀ j : Nat, j < 3 → m3.1 18 j = h3 c sp (h_hash x seed) j) → Fr [18] [] (am_wr m 2703 0 (h_print (h_hash x seed) pr)) m3 → am_OkV (d + 2) 23 [.inr (.inr 17)] m3 (fun m4 => P m4) := by
    intro m3 h3j hf
    refine c_gather ⟨by have := h3_lt sp (h_hash x seed) c0 (j := 0) (by decide); omega, by have := h3_lt sp (h_hash x seed) c0 (j := 1) (by decide); omega, by have := h3_lt sp (h_hash x seed) c0 (j := 2) (by decide); omega⟩ (h3j 0 (by decide)) (h3j 1 (by decide)) (h3j 2 (by decide)) (fun m4 g1 g2 g3 => ?_)
    have hf2 : Fr [18, 19, 2702, 2703] [] m m4 := ((Fr.rf.wr (v := h_print (h_hash x seed) pr) (z := 0) (id := 2703) (l1 := [18, 19, 2702, 2703]) (by decide)).tr hf (k1 := [18, 19, 2702, 2703]) (fun _ h => h) (fun _ h => h) (by decide) (fun _ h => h)).tr g3 (fun _ h => h) (fun _ h => h) (by decide) (fun _ h => h)
    refine kpost m4 ⟨fun j hj => by rw [g3.1 _ (by decide)]; exact h3j j hj, g1, g2, ?_⟩ ⟨by rw [hf2.2 _ (by decide)]; exact a1, by rw [hf2.1 _ (by decide)]; exact a2, by rw [hf2.1 _ (by decide)]; exact a3, by rw [hf2.1 _ (by decide)]; exact a4, c0, c32, hs2⟩ hf2
    rw [g3.1 _ (by decide), hf.1 _ (by decide), wr_at, if_pos rfl]
  obtain ⟨p0, p1, p2⟩ := c_place (d := d) (hh := h_hash x seed) (P := fun m3 => am_OkV (d + 2) 23 [.inr (.inr 17)] m3 (fun m4 => P m4)) (hm1 (h_print (h_hash x seed) pr)) last
  exact ⟨fun n0 => ⟨fun n1 => p2 (by omega), fun n1 => p1 (by omega)⟩, fun n0 => p0 (by omega)⟩
