/-! RANK of the class: words as rows of bits -/
def wb (a : Int64) (i : Nat) : Bool := a.toBitVec.getLsbD i
theorem wb_ext {a b : Int64} (h : ∀ i, i < 64 → wb a i = wb b i) : a = b := Int64.toBitVec.inj (BitVec.eq_of_getLsbD_eq h)
theorem wb_big {a : Int64} {i : Nat} (h : 64 ≤ i) : wb a i = false := BitVec.getLsbD_of_ge _ _ h
theorem wb_zero (i : Nat) : wb (Int64.ofNat 0) i = false := by
  show (0#64).getLsbD i = false
  exact BitVec.getLsbD_zero
theorem wb_one (i : Nat) : wb (Int64.ofNat 1) i = decide (i = 0) := by
  show (1#64).getLsbD i = _
  rw [BitVec.getLsbD_one]
  simp
theorem wb_xor (a b : Int64) (i : Nat) : wb (a ^^^ b) i = (wb a i != wb b i) := by
  unfold wb
  rw [Int64.toBitVec_xor, BitVec.getLsbD_xor]
theorem wb_and (a b : Int64) (i : Nat) : wb (a &&& b) i = (wb a i && wb b i) := by
  unfold wb
  rw [Int64.toBitVec_and, BitVec.getLsbD_and]
theorem wb_or (a b : Int64) (i : Nat) : wb (a ||| b) i = (wb a i || wb b i) := by
  unfold wb
  rw [Int64.toBitVec_or, BitVec.getLsbD_or]
theorem wb_x0 (a : Int64) : a ^^^ Int64.ofNat 0 = a := wb_ext fun i _ => by rw [wb_xor, wb_zero]; cases wb a i <;> rfl
theorem sh63 : ∀ c : Nat, c < 64 → ((Int32.ofInt (c : Int)).toInt64 &&& 63).toBitVec.smod 64 = BitVec.ofNat 64 c := by decide +kernel
theorem wb_bit {c : Nat} (hc : c < 64) (i : Nat) : wb (am_lshl (Int64.ofNat 1) (c : Int)) i = decide (i = c) := by
  unfold wb am_lshl
  rw [Int64.toBitVec_shiftLeft, sh63 c hc]
  show ((1#64) <<< ((BitVec.ofNat 64 c).toNat)).getLsbD i = _
  rw [BitVec.getLsbD_shiftLeft, BitVec.getLsbD_one, BitVec.toNat_ofNat, Nat.mod_eq_of_lt (by omega)]
  by_cases e : i = c
  · subst e; simp [hc]
  · rw [decide_eq_false e]
    by_cases h : i < c
    · simp [h]
    · have : ¬ (i - c = 0) := by omega
      simp [this]
theorem ne0_iff {a : Int64} : am_lcmp a (Int64.ofNat 0) ≠ 0 ↔ ∃ i, i < 64 ∧ wb a i = true := by
  constructor
  · intro h
    apply Classical.byContradiction
    intro hn
    exact h (lcmp0.mpr (wb_ext fun i hi => by
      rw [wb_zero]
      cases hw : wb a i with
      | false => rfl
      | true => exact absurd ⟨i, hi, hw⟩ hn))
  · rintro ⟨i, _, hi⟩ h
    rw [lcmp0.mp h, wb_zero] at hi
    cases hi
theorem wb_tst (a : Int64) {c : Nat} (hc : c < 64) : am_lcmp (am_lshr a (c : Int) &&& Int64.ofNat 1) (Int64.ofNat 0) ≠ 0 ↔ wb a c = true := by
  have h0 : wb (am_lshr a (c : Int)) 0 = wb a c := by
    unfold wb am_lshr
    rw [Int64.toBitVec_shiftRight, sh63 c hc]
    show (a.toBitVec.sshiftRight ((BitVec.ofNat 64 c).toNat)).getLsbD 0 = _
    rw [BitVec.getLsbD_sshiftRight, BitVec.toNat_ofNat, Nat.mod_eq_of_lt (by omega)]
    simp [hc]
  rw [ne0_iff]
  constructor
  · rintro ⟨i, _, hi⟩
    rw [wb_and, wb_one, Bool.and_eq_true, decide_eq_true_eq] at hi
    rw [hi.2, h0] at hi
    exact hi.1
  · intro h
    exact ⟨0, by omega, by rw [wb_and, wb_one, h0, h]; rfl⟩
theorem least_bit {f : Nat → Bool} {i : Nat} (h : f i = true) : ∃ l, l ≤ i ∧ f l = true ∧ ∀ j, j < l → f j = false := by
  have key : ∀ s : Nat, (∀ j, j < s → f j = false) ∨ ∃ l, l < s ∧ f l = true ∧ ∀ j, j < l → f j = false := by
    intro s
    induction s with
    | zero => exact Or.inl (fun j hj => by omega)
    | succ s ih =>
      rcases ih with h1 | ⟨l, a, b, c⟩
      · cases hs : f s with
        | false => exact Or.inl (fun j hj => by
            by_cases e : j = s
            · rw [e]; exact hs
            · exact h1 j (by omega))
        | true => exact Or.inr ⟨s, by omega, hs, h1⟩
      · exact Or.inr ⟨l, by omega, b, c⟩
  rcases key (i + 1) with h1 | ⟨l, a, b, c⟩
  · rw [h1 i (by omega)] at h; cases h
  · exact ⟨l, by omega, b, c⟩
def isLd (v : Vc) (l : Nat) : Prop := v l = true ∧ ∀ j, j < l → v j = false
theorem wb_low (a : Int64) (i : Nat) : wb (a &&& -a) i = true ↔ isLd (wb a) i := by
  rw [wb_and]
  have e : wb (-a) i = (wb a i != (decide (i < 64) && decide (∃ j < i, a.toBitVec.getLsbD j = true))) := by
    unfold wb
    rw [Int64.toBitVec_neg, BitVec.getLsbD_neg]
  rw [e, Bool.and_eq_true]
  constructor
  · rintro ⟨h1, h2⟩
    refine ⟨h1, fun j hj => ?_⟩
    rw [h1] at h2
    have hi : i < 64 := by
      rcases Nat.lt_or_ge i 64 with h | h
      · exact h
      · rw [wb_big h] at h1; cases h1
    cases hw : wb a j with
    | false => rfl
    | true =>
      have : (∃ j < i, a.toBitVec.getLsbD j = true) := ⟨j, hj, hw⟩
      rw [decide_eq_true hi, decide_eq_true this] at h2
      cases h2
  · rintro ⟨h1, h2⟩
    refine ⟨h1, ?_⟩
    have : ¬ (∃ j < i, a.toBitVec.getLsbD j = true) := fun ⟨j, hj, hw⟩ => by
      have := h2 j hj
      unfold wb at this
      rw [hw] at this; cases this
    rw [h1, decide_eq_false this]
    simp
theorem ld_unique {v : Vc} {l k : Nat} (h1 : isLd v l) (h2 : isLd v k) : l = k := by
  rcases Nat.lt_trichotomy l k with h | h | h
  · have := h2.2 l h; rw [h1.1] at this; cases this
  · exact h
  · have := h1.2 k h; rw [h2.1] at this; cases this
theorem low_tst (a v : Int64) {l : Nat} (h : isLd (wb a) l) : am_lcmp (v &&& (a &&& -a)) (Int64.ofNat 0) ≠ 0 ↔ wb v l = true := by
  have hl : l < 64 := by
    rcases Nat.lt_or_ge l 64 with h1 | h1
    · exact h1
    · have := h.1; rw [wb_big h1] at this; cases this
  rw [ne0_iff]
  constructor
  · rintro ⟨i, _, hi⟩
    rw [wb_and, Bool.and_eq_true, wb_low] at hi
    rw [ld_unique h hi.2]; exact hi.1
  · intro hv
    exact ⟨l, hl, by rw [wb_and, hv, (wb_low a l).mpr h]; rfl⟩
def vwC (a b : Int64) : Vc := fun x => if x < 64 then wb a x else wb b (x - 64)
theorem vwC_xor (a b a' b' : Int64) : vwC (a ^^^ a') (b ^^^ b') = vx (vwC a b) (vwC a' b') := by
  funext x
  unfold vwC vx
  dsimp only
  by_cases h : x < 64
  · rw [if_pos h, if_pos h, if_pos h, wb_xor]
  · rw [if_neg h, if_neg h, if_neg h, wb_xor]
theorem vwC_zero {a b : Int64} : vwC a b = vz ↔ a = Int64.ofNat 0 ∧ b = Int64.ofNat 0 := by
  constructor
  · intro h
    refine ⟨wb_ext fun i hi => ?_, wb_ext fun i hi => ?_⟩
    · have := congrFun h i
      unfold vwC at this
      rw [if_pos hi] at this
      rw [this, wb_zero]; rfl
    · have := congrFun h (i + 64)
      unfold vwC at this
      rw [if_neg (by omega), show i + 64 - 64 = i by omega] at this
      rw [this, wb_zero]; rfl
  · rintro ⟨rfl, rfl⟩
    funext x
    unfold vwC
    split <;> exact wb_zero _
/-- the test of a step: by its lead -/
theorem step_tst {a b : Int64} {l : Nat} (h : isLd (vwC a b) l) : (am_lcmp (a &&& -a) (Int64.ofNat 0) ≠ 0 → ∀ v w : Int64, (am_lcmp (v &&& (a &&& -a)) (Int64.ofNat 0) ≠ 0 ↔ vwC v w l = true) ∧ am_lcmp (w &&& Int64.ofNat 0) (Int64.ofNat 0) = 0)
    ∧ (¬ am_lcmp (a &&& -a) (Int64.ofNat 0) ≠ 0 → ∀ v w : Int64, (am_lcmp (w &&& (b &&& -b)) (Int64.ofNat 0) ≠ 0 ↔ vwC v w l = true) ∧ am_lcmp (v &&& (a &&& -a)) (Int64.ofNat 0) = 0) := by
  constructor
  · intro h1 v w
    obtain ⟨i, hi, hw⟩ := ne0_iff.mp h1
    have hl := (wb_low a i).mp hw
    have hil : i = l := ld_unique (v := vwC a b) ⟨by unfold vwC; rw [if_pos hi]; exact hl.1, fun j hj => by unfold vwC; rw [if_pos (by omega)]; exact hl.2 j hj⟩ h
    subst hil
    refine ⟨?_, lcmp0.mpr (wb_ext fun k _ => by rw [wb_and, wb_zero]; cases wb w k <;> rfl)⟩
    rw [low_tst a v hl]
    unfold vwC
    rw [if_pos hi]
  · intro h1 v w
    have ha : ∀ i, wb (a &&& -a) i = false := fun i => by
      cases hw : wb (a &&& -a) i with
      | false => rfl
      | true =>
        refine absurd (ne0_iff.mpr ⟨i, ?_, hw⟩) h1
        rcases Nat.lt_or_ge i 64 with h2 | h2
        · exact h2
        · rw [wb_big h2] at hw; cases hw
    have ha0 : ∀ i, wb a i = false := fun i => by
      cases hw : wb a i with
      | false => rfl
      | true =>
        obtain ⟨k, _, k1, k2⟩ := least_bit hw
        have := (wb_low a k).mpr ⟨k1, k2⟩
        rw [ha k] at this; cases this
    have hl64 : 64 ≤ l := by
      rcases Nat.lt_or_ge l 64 with h2 | h2
      · have := h.1
        unfold vwC at this
        rw [if_pos h2, ha0] at this; cases this
      · exact h2
    have hl : isLd (wb b) (l - 64) := ⟨by have := h.1; unfold vwC at this; rw [if_neg (by omega)] at this; exact this, fun j hj => by have := h.2 (j + 64) (by omega); unfold vwC at this; rw [if_neg (by omega), show j + 64 - 64 = j by omega] at this; exact this⟩
    refine ⟨?_, lcmp0.mpr (wb_ext fun k _ => by rw [wb_and, wb_zero, ha]; cases wb v k <;> rfl)⟩
    rw [low_tst b w hl]
    unfold vwC
    rw [if_neg (by omega)]
def BasM (m : am_M) (b : Nat) (B : Nat → Vc) : Prop := m.1 4502 0 = b ∧ b ≤ 48 ∧ ∀ i : Nat, i < b → B i = vwC (m.2 36 i) (m.2 37 i)
theorem c_join {d : Nat} {P : am_M → Prop} {m : am_M} {b : Nat} {B : Nat → Vc} {ld : Nat → Nat} {x1 x3 : Int64} (hB : BasM m b B) (hb : b < 48) (hs : Steps B ld b) (hld : ∀ i, i < b → isLd (B i) (ld i))
    (k0 : Sp B b (vwC x1 x3) → P m) (k1 : ∀ (m' : am_M) (w : Vc), ¬ Sp B b (vwC x1 x3) → Sp B b (vx (vwC x1 x3) w) → w ≠ vz → (∀ i, i < b → w (ld i) = false) → BasM m' (b + 1) (wput B b w) → Fr [4502] [36, 37] m m' → P m') : am_OkV (d + 1) 4 [.inr (.inr 35), .inr (.inl x1), .inr (.inl x3)] m P := by
  obtain ⟨b1, b2, b3⟩ := hB
  have fin : ∀ (y1 y3 : Int64), Sp B b (vx (vwC x1 x3) (vwC y1 y3)) → (∀ j, j < b → vwC y1 y3 (ld j) = false) → ¬ (y1 = Int64.ofNat 0 ∧ y3 = Int64.ofNat 0) → P (am_wr (am_wl (am_wl m 36 (b : Int) y1) 37 (b : Int) y3) 4502 (0 : Int) ((b : Int) + 1)) := by
    intro y1 y3 h1 h2 h3
    have hw : vwC y1 y3 ≠ vz := fun e => h3 (vwC_zero.mp e)
    refine k1 _ (vwC y1 y3) (fun hsp => ?_) h1 hw h2 ⟨by rw [wr_at, if_pos rfl]; rfl, by omega, fun i hi => ?_⟩ (((Fr.rf.wl (by decide)).wl (by decide)).wr (by decide))
    · have := hsp.add h1
      rw [← vx_assoc, vx_self, vx_comm, vx_zero] at this
      exact hw (steps_zero hs this h2)
    · rw [wr_2, wl_at, wl_ne _ _ _ (by decide), wl_at]
      unfold wput
      by_cases e : i = b
      · rw [if_pos e, if_pos (by omega), if_pos (by omega)]
      · rw [if_neg e, if_neg (by omega), if_neg (by omega), wl_ne _ _ _ (by decide)]; exact b3 i (by omega)
  have main : ∀ (r i : Nat) (y1 y3 : Int64), i + r = b → Sp B b (vx (vwC x1 x3) (vwC y1 y3)) → (∀ j, j < i → vwC y1 y3 (ld j) = false) → am_GV (d + 1) 4 P 3 [(0, .inr (.inr 35)), (1, .inr (.inl y1)), (3, .inr (.inl y3)), (5, .inl i)] [] m := by
    intro r
    induction r with
    | zero =>
      intro i y1 y3 hi h1 h2
      have hib : i = b := by omega
      subst hib
      refine f_Basis_join_3 ?_
      rw [b1]
      refine ⟨fun _ => ⟨fun h => ⟨fun y => by omega, fun _ => ⟨by omega, by omega, by omega, by omega, am_RI (by omega) (by omega), ?_⟩⟩, fun h => ⟨fun h4 => ?_, fun h4 => ⟨fun y => by omega, fun _ => ⟨by omega, by omega, by omega, by omega, am_RI (by omega) (by omega), ?_⟩⟩⟩⟩, fun y => absurd (by omega) y⟩
      · exact fin y1 y3 h1 h2 (fun e => h (lcmp0.mpr e.1))
      · have hz : vwC y1 y3 = vz := vwC_zero.mpr ⟨lcmp0.mp (Decidable.byContradiction h), lcmp0.mp h4⟩
        rw [hz, vx_zero] at h1
        exact k0 h1
      · exact fin y1 y3 h1 h2 (fun e => h4 (lcmp0.mpr e.2))
    | succ r ih =>
      intro i y1 y3 hi h1 h2
      have hBi := b3 i (by omega)
      have hli := hld i (by omega)
      rw [hBi] at hli
      obtain ⟨t1, t2⟩ := step_tst hli
      have yes : vwC y1 y3 (ld i) = true → am_GV (d + 1) 4 P 3 [(0, .inr (.inr 35)), (1, .inr (.inl (y1 ^^^ (m.2 36 (i : Int))))), (3, .inr (.inl (y3 ^^^ (m.2 37 (i : Int))))), (5, .inl ((i : Int) + 1))] [] m := fun hy => by
        refine ih (i + 1) _ _ (by omega) ?_ (fun j hj => ?_)
        · rw [vwC_xor, ← hBi, ← vx_assoc]
          exact h1.add (Sp.mem (by omega))
        · rw [vwC_xor, ← hBi]
          unfold vx
          by_cases e : j = i
          · subst e; rw [hy, (hs j (by omega)).1]; rfl
          · rw [h2 j (by omega), (hs j (by omega)).2 i (by omega) (by omega)]; rfl
      have no : ¬ vwC y1 y3 (ld i) = true → am_GV (d + 1) 4 P 3 [(0, .inr (.inr 35)), (1, .inr (.inl y1)), (3, .inr (.inl y3)), (5, .inl ((i : Int) + 1))] [] m := fun hy => by
        refine ih (i + 1) _ _ (by omega) h1 (fun j hj => ?_)
        by_cases e : j = i
        · subst e; cases hv : vwC y1 y3 (ld j) with
          | false => rfl
          | true => exact absurd hv hy
        · exact h2 j (by omega)
      refine f_Basis_join_3 ?_
      rw [b1]
      refine ⟨fun y => by omega, fun _ => ⟨by omega, by omega, by omega, by omega, fun h => ?_, fun h => ⟨by omega, by omega, by omega, by omega, ?_⟩⟩⟩
      · obtain ⟨q1, q2⟩ := t1 h y1 y3
        refine f_Basis_join_59 ⟨fun h4 => ⟨by omega, by omega, by omega, by omega, am_RI (by omega) (by omega), yes (q1.mp h4)⟩, fun h4 => ⟨fun _ => ⟨am_RI (by omega) (by omega), no (fun z => h4 (q1.mpr z))⟩, fun y => absurd q2 y⟩⟩
      · obtain ⟨q1, q2⟩ := t2 h y1 y3
        refine f_Basis_join_59 ⟨fun h4 => absurd q2 h4, fun h4 => ⟨fun h5 => ⟨am_RI (by omega) (by omega), no (fun z => q1.mpr z h5)⟩, fun h5 => ⟨by omega, by omega, by omega, by omega, am_RI (by omega) (by omega), yes (q1.mp h5)⟩⟩⟩
  refine f_Basis_join (main b 0 x1 x3 (by omega) ?_ (fun j hj => by omega))
  rw [vx_self]; exact Sp.zero
def tv (l : List Nat) : Vc := fun x => decide (x ∈ l)
theorem tv_nil : tv [] = vz := rfl
theorem vwC_hi {a b : Int64} {l : List Nat} {c : Nat} (h : vwC a b = tv l) (hc : c ∉ l) (h1 : 64 ≤ c) (h2 : c < 128) : vwC (a ^^^ Int64.ofNat 0) (b ^^^ am_lshl (Int64.ofNat 1) ((c : Int) - 64)) = tv (l ++ [c]) := by
  rw [vwC_xor, h]
  funext x
  unfold vx vwC tv
  rw [show (c : Int) - 64 = ((c - 64 : Nat) : Int) by omega]
  by_cases hx : x < 64
  · rw [if_pos hx, wb_zero]
    have : x ≠ c := by omega
    simp [this]
  · rw [if_neg hx, wb_bit (by omega)]
    by_cases e : x = c
    · subst e; simp [hc]
    · have : ¬ (x - 64 = c - 64) := by omega
      simp [e, this]
theorem vwC_lo {a b : Int64} {l : List Nat} {c : Nat} (h : vwC a b = tv l) (hc : c ∉ l) (h1 : c < 64) : vwC (a ^^^ am_lshl (Int64.ofNat 1) (c : Int)) (b ^^^ Int64.ofNat 0) = tv (l ++ [c]) := by
  rw [vwC_xor, h]
  funext x
  unfold vx vwC tv
  by_cases hx : x < 64
  · rw [if_pos hx, wb_bit h1]
    by_cases e : x = c
    · subst e; simp [hc]
    · simp [e]
  · rw [if_neg hx, wb_zero]
    have : x ≠ c := by omega
    simp [this]
abbrev GT (T : Nat → List Nat) : Nat → Vc := fun k => tv (T k)
theorem c_independent {d : Nat} {P : Int → am_M → Prop} {m : am_M} {T : Nat → List Nat} {n N : Nat} (hL : RowL m T n N) (kpost : ∀ m' : am_M, Fr [4502] [36, 37] m m' → P (prk (GT T) n : Nat) m') : am_OkI (d + 2) 3 [.inr (.inr 35), .inr (.inr 20)] m P := by
  obtain ⟨hn, hN, hT⟩ : n ≤ 48 ∧ N ≤ 96 ∧ TOK T n N := ⟨hL.2.2.1, hL.2.2.2.1, hL.2.2.2.2.1⟩
  have main : ∀ (r k : Nat) (m1 : am_M) (B : Nat → Vc) (ld : Nat → Nat), k + r = n → Fr [4502] [36, 37] m m1 → BasM m1 (prk (GT T) k) B → Steps B ld (prk (GT T) k) → (∀ i, i < prk (GT T) k → isLd (B i) (ld i)) → SpEq B (prk (GT T) k) (GT T) k → am_GI (d + 2) 3 P 7 [(0, .inr (.inr 35)), (1, .inr (.inr 20)), (2, .inl k)] [] m1 := by
    intro r
    induction r with
    | zero =>
      intro k m1 B ld hk hf h1 h2 h3 h4
      have hL1 := hL.fr hf (by decide)
      refine f_Basis_independent_7 ?_
      rw [hL1.1, h1.1]
      have hkn : k = n := by omega
      subst hkn
      exact ⟨fun _ => kpost m1 hf, fun y => absurd (by omega) y⟩
    | succ r ih =>
      intro k m1 B ld hk hf h1 h2 h3 h4
      have hL1 := hL.fr hf (by decide)
      obtain ⟨q1, q2⟩ := hL1.2.2.2.2.2 k (by omega)
      obtain ⟨hlen, hpw, hlt⟩ := hT k (by omega)
      have hnd := pw_nodup hpw
      have inner : ∀ (s t : Nat) (a b : Int64), t + s = (T k).length → vwC a b = tv ((T k).take t) → am_GI (d + 2) 3 P 25 [(0, .inr (.inr 35)), (1, .inr (.inr 20)), (2, .inl k), (3, .inr (.inl a)), (5, .inr (.inl b)), (7, .inl ((3 * k + t : Nat) : Int))] [] m1 := by
        intro s
        induction s with
        | zero =>
          intro t a b ht hv
          refine f_Basis_independent_25 ?_
          rw [q1]
          refine ⟨am_RI (by omega) (by omega), by omega, by omega, am_RI (by omega) (by omega), fun _ => ?_, fun y => absurd (by omega) y⟩
          rw [show (T k).take t = T k from List.take_of_length_le (by omega)] at hv
          have hple : prk (GT T) k ≤ k := prk_le
          refine c_join h1 (by omega) h2 h3 (fun hsp => ⟨am_RI (by omega) (by omega), ?_⟩) (fun m2 w hsp hw hwz hwl hB2 hf2 => ⟨am_RI (by omega) (by omega), ?_⟩)
          · rw [hv] at hsp
            have hsp2 : Sp (GT T) k (GT T k) := (h4 _).mp hsp
            refine ih (k + 1) m1 B ld (by omega) hf (by rw [prk_in hsp2]; exact h1) (by rw [prk_in hsp2]; exact h2) (by rw [prk_in hsp2]; exact h3) (by rw [prk_in hsp2]; exact h4.skip hsp2)
          · rw [hv] at hsp hw
            have hsp2 : ¬ Sp (GT T) k (GT T k) := fun z => hsp ((h4 _).mpr z)
            obtain ⟨x0, hx0⟩ : ∃ x, w x = true := by
              apply Classical.byContradiction
              intro hno
              refine hwz (funext fun x => ?_)
              cases hx : w x with
              | false => rfl
              | true => exact absurd ⟨x, hx⟩ hno
            obtain ⟨l, _, l1, l2⟩ := least_bit hx0
            refine ih (k + 1) m2 (wput B (prk (GT T) k) w) (fun i => if i = prk (GT T) k then l else ld i) (by omega) (hf.tr1 hf2) (by rw [prk_out hsp2]; exact hB2) ?_ ?_ ?_
            · rw [prk_out hsp2]
              intro i hi
              unfold wput
              try dsimp only
              by_cases e : i = prk (GT T) k
              · rw [if_pos e, if_pos e]
                exact ⟨l1, fun j hj hj2 => by omega⟩
              · rw [if_neg e, if_neg e]
                refine ⟨(h2 i (by omega)).1, fun j hj hj2 => ?_⟩
                by_cases e2 : j = prk (GT T) k
                · rw [if_pos e2]; exact hwl i (by omega)
                · rw [if_neg e2]; exact (h2 i (by omega)).2 j hj (by omega)
            · rw [prk_out hsp2]
              intro i hi
              unfold wput
              try dsimp only
              by_cases e : i = prk (GT T) k
              · rw [if_pos e, if_pos e]; exact ⟨l1, l2⟩
              · rw [if_neg e, if_neg e]; exact h3 i (by omega)
            · rw [prk_out hsp2]
              intro v
              rw [Sp_succ, ← h4.add hw v]
              have hc : ∀ u, Sp (wput B (prk (GT T) k) w) (prk (GT T) k) u ↔ Sp B (prk (GT T) k) u := fun u => ⟨fun hs => hs.congr (fun j hj => by unfold wput; rw [if_neg (by omega)]), fun hs => hs.congr (fun j hj => by unfold wput; rw [if_neg (by omega)])⟩
              rw [hc, hc, show wput B (prk (GT T) k) w (prk (GT T) k) = w by unfold wput; rw [if_pos rfl]]
        | succ s ih2 =>
          intro t a b ht hv
          have htl : t < (T k).length := by omega
          have hc0 : (T k)[t]? = some (T k)[t] := List.getElem?_eq_getElem htl
          generalize hce : (T k)[t] = c at hc0
          have hcN : c < N := hlt c (List.mem_of_getElem? hc0)
          have hq := q2 t c hc0
          have htk : (T k).take (t + 1) = (T k).take t ++ [c] := by rw [List.take_succ, hc0]; rfl
          have hnin : c ∉ (T k).take t := by
            intro hm
            have hnd2 : ((T k).take (t + 1)).Nodup := (List.take_sublist _ _).nodup hnd
            rw [htk, List.nodup_append] at hnd2
            exact hnd2.2.2 c hm c (List.mem_singleton.mpr rfl) rfl
          have hcell : m1.1 21 ((3 * k + t : Nat) : Int) = (c : Int) := by
            rw [show ((3 * k + t : Nat) : Int) = 3 * (k : Int) + (t : Int) by omega]; exact hq
          refine f_Basis_independent_25 ?_
          rw [q1, hcell]
          refine ⟨am_RI (by omega) (by omega), by omega, by omega, am_RI (by omega) (by omega), fun y => by omega, fun _ => ⟨by omega, by omega, fun h64 => ⟨fun _ => ⟨am_RI (by omega) (by omega), am_RI (by omega) (by omega), ?_⟩, fun y => absurd h64 y⟩, fun h64 => ⟨fun y => absurd y h64, fun _ => ⟨am_RI (by omega) (by omega), ?_⟩⟩⟩⟩
          · rw [show ((3 * k + t : Nat) : Int) + 1 = ((3 * k + (t + 1) : Nat) : Int) by omega]
            exact ih2 (t + 1) _ _ (by omega) (by rw [htk]; exact vwC_hi hv hnin (by omega) (by omega))
          · rw [show ((3 * k + t : Nat) : Int) + 1 = ((3 * k + (t + 1) : Nat) : Int) by omega]
            exact ih2 (t + 1) _ _ (by omega) (by rw [htk]; exact vwC_lo hv hnin (by omega))
      refine f_Basis_independent_7 ?_
      rw [hL1.1]
      refine ⟨fun y => by omega, fun _ => ⟨am_RI (by omega) (by omega), ?_⟩⟩
      have := inner (T k).length 0 (Int64.ofNat 0) (Int64.ofNat 0) (by omega) (by rw [List.take_zero, tv_nil]; exact vwC_zero.mpr ⟨rfl, rfl⟩)
      rw [show ((3 * k + 0 : Nat) : Int) = 3 * (k : Int) by omega] at this
      exact this
  refine f_Basis_independent (main n 0 _ (fun _ => vz) (fun _ => 0) (by omega) (Fr.rf.wr (by decide)) ⟨by rw [wr_at, if_pos rfl]; rfl, by show 0 ≤ 48; omega, fun i hi => absurd hi (by show ¬ i < 0; omega)⟩ (fun i hi => absurd hi (by show ¬ i < 0; omega)) (fun i hi => absurd hi (by show ¬ i < 0; omega)) (fun v => Iff.rfl))
theorem c_rank {d : Nat} {P : Int → am_M → Prop} {m : am_M} {n : Nat} {K : Nat → Int64} {V S : Nat → Nat} (hG : GSt m n K V S) (kpost : ∀ m' : am_M, Fr CF CF2 m m' → P (prk (GT (TT K (S 4) (S 1) (S 6))) n : Nat) m') : am_OkI (d + 6) 92 [.inr (.inr 0)] m P :=
  f_T_rank (c_layNow hG (fun m1 hL _ _ hf => c_independent hL (fun m2 hf2 => kpost m2 (hf.tr hf2 (by decide) (by decide) (by decide) (by decide)))))
