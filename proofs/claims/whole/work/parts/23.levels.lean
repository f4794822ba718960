/-! ROUNDS and LEVELS -/
def qany (f : Nat → Bool) : Nat → Bool
  | 0 => false
  | k + 1 => qany f k || f k
theorem qany_iff {f : Nat → Bool} : ∀ {n : Nat}, qany f n = true ↔ ∃ k, k < n ∧ f k = true
  | 0 => by simp [qany]
  | n + 1 => by
    unfold qany
    rw [Bool.or_eq_true, qany_iff]
    constructor
    · rintro (⟨k, h, e⟩ | h)
      · exact ⟨k, by omega, e⟩
      · exact ⟨n, by omega, h⟩
    · rintro ⟨k, h, e⟩
      by_cases hk : k = n
      · subst hk; exact Or.inr e
      · exact Or.inl ⟨k, by omega, e⟩
def pmk (T : Nat → List Nat) (n : Nat) (left : Nat → Bool) (c k : Nat) : Bool := left k && (T k).any (fun x => decide (x < c) && decide (pcnt T left x n = 1))
theorem pmk_iff {T : Nat → List Nat} {n : Nat} {left : Nat → Bool} {c k : Nat} : pmk T n left c k = true ↔ left k = true ∧ ∃ x, x ∈ T k ∧ x < c ∧ pcnt T left x n = 1 := by
  unfold pmk
  rw [Bool.and_eq_true, List.any_eq_true]
  simp only [Bool.and_eq_true, decide_eq_true_eq]
def prnd (T : Nat → List Nat) (n N : Nat) : Nat → (Nat → Bool) → (Nat → Nat) → Nat → Nat × (Nat → Nat)
  | 0, _, lev, r => (r, lev)
  | f + 1, left, lev, r => if qany (pmk T n left N) n = true then prnd T n N f (fun k => left k && !(pmk T n left N k)) (fun k => if pmk T n left N k = true then r + 1 else lev k) (r + 1) else (r, lev)
def LevC (m : am_M) (n : Nat) (lev : Nat → Nat) : Prop := ∀ k : Nat, k < n → m.1 34 k = lev k
def LevM (m : am_M) (n : Nat) (lev : Nat → Nat) : Prop := ∀ k : Nat, k < n → m.1 77 k = lev k
theorem qany_cells {T : Nat → List Nat} {n N : Nat} {left : Nat → Bool} (hT : TOK T n N) : qany (fun c => decide (pcnt T left c n = 1)) N = qany (pmk T n left N) n := by
  apply Bool.eq_iff_iff.mpr
  rw [qany_iff, qany_iff]
  constructor
  · rintro ⟨c, hc, e⟩
    have e := of_decide_eq_true e
    obtain ⟨k, k1, k2, k3, -⟩ := palone e
    exact ⟨k, k1, pmk_iff.mpr ⟨k2, c, k3, hc, e⟩⟩
  · rintro ⟨k, hk, e⟩
    obtain ⟨-, x, -, h2, h3⟩ := pmk_iff.mp e
    exact ⟨x, h2, decide_eq_true h3⟩
theorem c_mark {d : Nat} {P : Int → am_M → Prop} {m : am_M} {T : Nat → List Nat} {n N r : Nat} {left : Nat → Bool} {lev : Nat → Nat} (hL : RowL m T n N) (hD : RowD m T n left) (hv : LevC m n lev)
    (kpost : ∀ m' : am_M, LevC m' n (fun k => if pmk T n left N k = true then r else lev k) → Fr [34] [] m m' → P (if qany (pmk T n left N) n = true then 1 else 0) m') : am_OkI (d + 2) 50 [.inr (.inr 33), .inr (.inr 20), .inl r] m P := by
  rw [← qany_cells hL.2.2.2.2.1] at kpost
  have hn := hL.2.2.1
  have hN := hL.2.2.2.1
  have main : ∀ (s c : Nat) (m1 : am_M), c + s = N → Fr [34] [] m m1 → LevC m1 n (fun k => if pmk T n left c k = true then r else lev k) → am_GI (d + 2) 50 P 5 [(0, .inr (.inr 33)), (1, .inr (.inr 20)), (2, .inl r), (3, .inl (if qany (fun c => decide (pcnt T left c n = 1)) c = true then 1 else 0)), (4, .inl c)] [] m1 := by
    intro s
    induction s with
    | zero =>
      intro c m1 hc hf hv1
      have : c = N := by omega
      subst this
      have hL1 := hL.fr hf (by decide)
      refine f_Rounds_mark_5 ⟨fun _ => ⟨?_, kpost m1 hv1 hf⟩, fun z => ?_⟩
      · split <;> decide
      · rw [hL1.2.1] at z; omega
    | succ s ih =>
      intro c m1 hc hf hv1
      have hL1 := hL.fr hf (by decide)
      have hD1 := hD.fr hf (by decide)
      refine f_Rounds_mark_5 ⟨fun z => ?_, fun _ => c_loneKey hL1 hD1 (by omega) ?_⟩
      · rw [hL1.2.1] at z; omega
      by_cases h1 : pcnt T left c n = 1
      · rw [if_pos h1]
        obtain ⟨k, k1, k2, k3, k4, k5, k6⟩ := palone h1
        rw [k5]
        refine ⟨fun z => by omega, fun _ => ⟨by omega, by omega, am_RI (by omega) (by omega), ?_⟩⟩
        have h2 := ih (c + 1) (am_wr m1 34 k r) (by omega) (hf.wr (by decide)) (fun j hj => ?_)
        · rw [if_pos (by unfold qany; rw [decide_eq_true h1, Bool.or_true])] at h2
          exact h2
        · rw [wr_at]
          by_cases hjk : j = k
          · subst hjk
            rw [if_pos rfl]
            show (r : Int) = ((if pmk T n left (c + 1) j = true then r else lev j : Nat) : Int)
            rw [if_pos (pmk_iff.mpr ⟨k2, c, k3, Nat.lt_succ_self c, h1⟩)]
          · rw [if_neg (by omega), hv1 j hj]
            have : pmk T n left (c + 1) j = pmk T n left c j := by
              apply Bool.eq_iff_iff.mpr
              rw [pmk_iff, pmk_iff]
              constructor
              · rintro ⟨a, x, b1, b2, b3⟩
                refine ⟨a, x, b1, ?_, b3⟩
                by_cases hx : x = c
                · subst hx; exact absurd (k4 j hj a b1) hjk
                · omega
              · rintro ⟨a, x, b1, b2, b3⟩
                exact ⟨a, x, b1, by omega, b3⟩
            simp only [this]
      · rw [if_neg h1]
        refine ⟨fun _ => ⟨am_RI (by omega) (by omega), ?_⟩, fun z => absurd rfl z⟩
        have h2 := ih (c + 1) m1 (by omega) hf (fun j hj => ?_)
        · unfold qany at h2
          rw [decide_eq_false h1, Bool.or_false] at h2
          exact h2
        · rw [hv1 j hj]
          have : pmk T n left (c + 1) j = pmk T n left c j := by
            apply Bool.eq_iff_iff.mpr
            rw [pmk_iff, pmk_iff]
            constructor
            · rintro ⟨a, x, b1, b2, b3⟩
              refine ⟨a, x, b1, ?_, b3⟩
              by_cases hx : x = c
              · subst hx; exact absurd b3 h1
              · omega
            · rintro ⟨a, x, b1, b2, b3⟩
              exact ⟨a, x, b1, by omega, b3⟩
          simp only [this]
  refine f_Rounds_mark (main N 0 m (by omega) Fr.rf (fun j hj => ?_))
  rw [hv j hj]
  have : pmk T n left 0 j = false := by
    cases e : pmk T n left 0 j with
    | false => rfl
    | true =>
      obtain ⟨-, x, -, b, -⟩ := pmk_iff.mp e
      omega
  simp [this]
abbrev takF : List Nat := [25, 26, 24, 3007]
theorem c_takeMarked {d : Nat} {P : am_M → Prop} {m : am_M} {T : Nat → List Nat} {n N r : Nat} {left mk : Nat → Bool} {lev : Nat → Nat} (hL : RowL m T n N) (hD : RowD m T n left) (hv : LevC m n lev) (hm : ∀ k, k < n → (lev k = r ↔ mk k = true)) (hl : ∀ k, k < n → mk k = true → left k = true)
    (kpost : ∀ m' : am_M, RowL m' T n N → RowD m' T n (fun k => left k && !(mk k)) → Fr takF [] m m' → P m') : am_OkV (d + 2) 51 [.inr (.inr 33), .inr (.inr 20), .inl r] m P := by
  have hn := hL.2.2.1
  have main : ∀ (s k : Nat) (m1 : am_M), k + s = n → Fr takF [] m m1 → RowL m1 T n N → RowD m1 T n (fun j => left j && !(decide (j < k) && mk j)) → am_GV (d + 2) 51 P 2 [(0, .inr (.inr 33)), (1, .inr (.inr 20)), (2, .inl r), (3, .inl k)] [] m1 := by
    intro s
    induction s with
    | zero =>
      intro k m1 hk hf hL1 hD1
      have : k = n := by omega
      subst this
      refine f_Rounds_takeMarked_2 ⟨fun _ => kpost m1 hL1 (hD1.congr (fun j hj => ?_)) hf, fun z => ?_⟩
      · rw [decide_eq_true hj, Bool.true_and]
      · rw [hL1.1] at z; omega
    | succ s ih =>
      intro k m1 hk hf hL1 hD1
      refine f_Rounds_takeMarked_2 ⟨fun z => ?_, fun _ => ⟨by omega, by omega, ?_⟩⟩
      · rw [hL1.1] at z; omega
      rw [show m1.1 34 k = lev k by rw [hf.1 _ (by decide)]; exact hv k (by omega)]
      refine ⟨fun h => ⟨am_RI (by omega) (by omega), ?_⟩, fun h => ?_⟩
      · refine ih (k + 1) m1 (by omega) hf hL1 (hD1.congr (fun j hj => ?_))
        by_cases hjk : j = k
        · subst hjk
          have : mk j = false := by
            cases e : mk j with
            | false => rfl
            | true => exact absurd (congrArg Nat.cast ((hm j hj).mpr e)) h
          simp [this]
        · have : decide (j < k + 1) = decide (j < k) := by
            apply Bool.eq_iff_iff.mpr
            simp only [decide_eq_true_eq]
            omega
          rw [this]
      · have hmk : mk k = true := (hm k (by omega)).mp (by omega)
        refine c_takeOff hL1 hD1 (by omega) (by simp [hl k (by omega) hmk]) (fun m2 hL2 hD2 hf2 => ⟨am_RI (by omega) (by omega), ih (k + 1) m2 (by omega) (hf.tr1 hf2) hL2 (hD2.congr (fun j hj => ?_))⟩)
        unfold pset
        by_cases hjk : j = k
        · subst hjk
          simp [hmk]
        · rw [if_neg hjk]
          have : decide (j < k + 1) = decide (j < k) := by
            apply Bool.eq_iff_iff.mpr
            simp only [decide_eq_true_eq]
            omega
          rw [this]
  refine f_Rounds_takeMarked (main n 0 m (by omega) Fr.rf hL (hD.congr (fun j hj => by simp)))
theorem c_rounds {d : Nat} {P : Int → am_M → Prop} {m : am_M} {T : Nat → List Nat} {n N : Nat} (hL : RowL m T n N) (hD : RowD m T n (fun _ => true))
    (kpost : ∀ m' : am_M, LevC m' n (prnd T n N 48 (fun _ => true) (fun _ => 0) 0).2 → Fr CF CF2 m m' → P (prnd T n N 48 (fun _ => true) (fun _ => 0) 0).1 m') : am_OkI (d + 3) 49 [.inr (.inr 33), .inr (.inr 20)] m P := by
  have hn := hL.2.2.1
  have main : ∀ (f r : Nat) (left : Nat → Bool) (lev : Nat → Nat) (m1 : am_M), r + f = 48 → Fr CF CF2 m m1 → RowL m1 T n N → RowD m1 T n left → LevC m1 n lev → (∀ k, k < n → lev k ≤ r) → (∀ m' : am_M, LevC m' n (prnd T n N f left lev r).2 → Fr CF CF2 m m' → P (prnd T n N f left lev r).1 m') → am_GI (d + 3) 49 P 10 [(0, .inr (.inr 33)), (1, .inr (.inr 20)), (2, .inl ((r : Int) + 1))] [] m1 := by
    intro f
    induction f with
    | zero =>
      intro r left lev m1 hr hf hL1 hD1 hv1 hle kp
      have : r = 48 := by omega
      subst this
      exact f_Rounds_run_10 ⟨fun _ => kp m1 hv1 hf, fun z => absurd (by decide) z⟩
    | succ f ih =>
      intro r left lev m1 hr hf hL1 hD1 hv1 hle kp
      unfold prnd at kp
      refine f_Rounds_run_10 ⟨fun z => by omega, fun _ => ?_⟩
      rw [show (r : Int) + 1 = ((r + 1 : Nat) : Int) by omega]
      refine c_mark hL1 hD1 hv1 (fun m2 hv2 hf2 => ?_)
      have hL2 := hL1.fr hf2 (by decide)
      have hD2 := hD1.fr hf2 (by decide)
      by_cases hq : qany (pmk T n left N) n = true
      · rw [if_pos hq]
        rw [if_pos hq] at kp
        refine ⟨fun _ => c_takeMarked hL2 hD2 hv2 (mk := pmk T n left N) (fun k hk => ⟨fun h => ?_, fun h => by rw [if_pos h]⟩) (fun k hk h => (pmk_iff.mp h).1) (fun m3 hL3 hD3 hf3 => ⟨am_RI (by omega) (by omega), ?_⟩), fun z => absurd (by decide) z⟩
        · by_cases e : pmk T n left N k = true
          · exact e
          · rw [if_neg e] at h
            have := hle k hk
            omega
        · refine ih (r + 1) _ _ m3 (by omega) ((hf.tr hf2 (by decide) (by decide) (by decide) (by decide) : Fr CF CF2 m m2).tr hf3 (by decide) (by decide) (by decide) (by decide)) hL3 hD3 (fun k hk => by rw [hf3.1 _ (by decide)]; exact hv2 k hk) (fun k hk => ?_) kp
          show (if pmk T n left N k = true then r + 1 else lev k) ≤ r + 1
          split
          · omega
          · have := hle k hk; omega
      · rw [if_neg hq]
        rw [if_neg hq] at kp
        refine ⟨fun z => absurd rfl z, fun _ => ⟨am_RI (by omega) (by omega), ?_⟩⟩
        rw [show ((r + 1 : Nat) : Int) - 1 = r by omega]
        refine kp m2 (fun k hk => ?_) (hf.tr hf2 (by decide) (by decide) (by decide) (by decide))
        rw [hv2 k hk]
        show ((if pmk T n left N k = true then r + 1 else lev k : Nat) : Int) = lev k
        rw [if_neg (fun e => hq (qany_iff.mpr ⟨k, hk, e⟩))]
  refine f_Rounds_run (c_fill_34 (fun m1 h0 hf => ?_))
  exact main 48 0 _ _ m1 (by omega) (hf.mono (by decide) (by decide)) (hL.fr hf (by decide)) (hD.fr hf (by decide)) (fun k hk => h0 k (by omega)) (fun k hk => Nat.le_refl 0) kpost
theorem c_has {d : Nat} {P : Int → am_M → Prop} {m : am_M} {n : Nat} {K : Nat → Int64} {V S : Nat → Nat} {z : Int} (hG : GSt m n K V S) (k0 : ¬ (0 ≤ z ∧ z < n) → P 0 m) (k1 : 0 ≤ z → z < n → P 1 m) : am_OkI (d + 1) 7 [.inr (.inr 4), .inl z] m P := by
  refine f_Given_has_4 ?_
  rw [hG.1]
  exact ⟨fun h => ⟨Or.inl rfl, k0 (by omega)⟩, fun h => ⟨fun h2 => ⟨Or.inl rfl, k0 (by omega)⟩, fun h2 => ⟨Or.inr rfl, k1 (by omega) (by omega)⟩⟩⟩
theorem r_isKey {d : Nat} {P : Int → am_M → Prop} {m : am_M} {n : Nat} {K : Nat → Int64} {V S : Nat → Nat} {z : Int} (hM : MSt m n K V S) (k0 : ¬ (0 ≤ z ∧ z < n) → P 0 m) (k1 : 0 ≤ z → z < n → P 1 m) : am_OkI (d + 2) 138 [.inr (.inr 55), .inl z] m P := by
  have hn := hM.2.1
  refine f_M_isKey ?_
  rw [hM.1]
  exact ⟨am_RI (by omega) (by omega), r_isIn (fun h => ⟨Or.inl rfl, k0 (by omega)⟩) (fun h1 h2 => ⟨Or.inr rfl, k1 (by omega) (by omega)⟩)⟩
def a_level (n : Nat) (q : Nat × (Nat → Nat)) (z : Int) : Int := if z = -1 then q.1 else if 0 ≤ z ∧ z < n then (if q.2 z.toNat = 0 then -2 else q.2 z.toNat) else -1
abbrev RN (n : Nat) (K : Nat → Int64) (S : Nat → Nat) : Nat × (Nat → Nat) := prnd (TT K (S 4) (S 1) (S 6)) n (3 * S 1) 48 (fun _ => true) (fun _ => 0) 0
theorem c_level {d : Nat} {P : Int → am_M → Prop} {m : am_M} {n : Nat} {K : Nat → Int64} {V S : Nat → Nat} {z : Int} (hG : GSt m n K V S) (kpost : ∀ m' : am_M, Fr CF CF2 m m' → P (a_level n (RN n K S) z) m') : am_OkI (d + 6) 91 [.inr (.inr 0), .inl z] m P := by
  have hn := hG.2.1
  refine f_T_level ⟨fun h => ?_, fun h => c_has hG (fun h0 => ⟨fun z => absurd rfl z, fun _ => ?_⟩) (fun h0 h1 => ⟨fun _ => ?_, fun z => absurd (by decide) z⟩)⟩
  · refine c_layNow hG (fun m1 hL hD _ hf => c_rounds hL hD (fun m2 hv hf2 => ⟨fun z => absurd h z, fun _ => ?_⟩))
    have kp := kpost m2 (hf.tr1 hf2)
    unfold a_level at kp
    rw [if_pos h] at kp
    exact kp
  · have kp := kpost m Fr.rf
    unfold a_level at kp
    rw [if_neg h, if_neg h0] at kp
    exact kp
  · refine c_layNow hG (fun m1 hL hD _ hf => c_rounds hL hD (fun m2 hv hf2 => ⟨fun _ => ⟨by omega, by omega, ?_⟩, fun z => absurd h z⟩))
    have kp := kpost m2 (hf.tr1 hf2)
    unfold a_level at kp
    rw [if_neg h, if_pos ⟨h0, h1⟩] at kp
    have hz := hv z.toNat (by omega)
    rw [show ((z.toNat : Nat) : Int) = z by omega] at hz
    rw [hz]
    refine ⟨fun h3 => ⟨by omega, by omega, ?_⟩, fun h3 => ?_⟩
    · rw [if_neg (by intro e; exact h3 (congrArg Nat.cast e))] at kp; exact kp
    · rw [if_pos (Decidable.byContradiction (fun e => h3 (fun e2 => e (Int.ofNat.inj e2))))] at kp; exact kp
-- the reference
theorem pleft_sub {l1 l2 : Nat → Bool} : ∀ {n : Nat}, (∀ j, j < n → l1 j = true → l2 j = true) → pleft l1 n ≤ pleft l2 n
  | 0, _ => Nat.le_refl _
  | n + 1, h => by
    have := pleft_sub (l1 := l1) (l2 := l2) (n := n) (fun j hj => h j (by omega))
    unfold pleft
    have h2 := h n (by omega)
    by_cases e : l1 n = true
    · rw [if_pos e, if_pos (h2 e)]; omega
    · rw [if_neg e]; omega
theorem pleft_lt {l1 l2 : Nat → Bool} {k : Nat} : ∀ {n : Nat}, (∀ j, j < n → l1 j = true → l2 j = true) → k < n → l1 k = false → l2 k = true → pleft l1 n < pleft l2 n
  | 0, _, hk, _, _ => by omega
  | n + 1, h, hk, e1, e2 => by
    unfold pleft
    by_cases hkn : k = n
    · subst hkn
      have := pleft_sub (l1 := l1) (l2 := l2) (n := k) (fun j hj => h j (by omega))
      rw [if_neg (by rw [e1]; decide), if_pos e2]; omega
    · have := pleft_lt (l1 := l1) (l2 := l2) (n := n) (k := k) (fun j hj => h j (by omega)) (by omega) e1 e2
      by_cases e : l1 n = true
      · rw [if_pos e, if_pos (h n (by omega) e)]; omega
      · rw [if_neg e]; omega
theorem r_laysLevels {d : Nat} {P : Int → am_M → Prop} {m : am_M} {n : Nat} {K : Nat → Int64} {V S : Nat → Nat} (hM : MSt m n K V S)
    (kpost : ∀ m' : am_M, LevM m' n (RN n K S).2 → Fr MF MF2 m m' → P (RN n K S).1 m') : am_OkI (d + 5) 172 [.inr (.inr 55)] m P := by
  have hn := hM.2.1
  obtain ⟨s1, -, -, -, -, -⟩ := hM.2.2.2.2.2.1
  refine f_M_laysLevels (r_netNow hM (fun m1 hC hD hf => ?_))
  have hT := TT_ok K (S 4) (c := S 1) (S 6) n (by omega)
  have hU := UT_ok K (S 4) (S 1) (S 6) n
  have hM1 := hM.fr hf (by decide)
  generalize hTe : TT K (S 4) (S 1) (S 6) = T at *
  generalize hUe : UT K (S 4) (S 1) (S 6) = U at *
  unfold RN at kpost
  rw [hTe] at kpost
  -- the marking of one key
  have mark1 : ∀ (k r more : Nat) (left : Nat → Bool) (lev : Nat → Nat) (m0 : am_M), k < n → r ≤ 48 → RefC m0 U n → RefD m0 T n left →
      (∀ (s t : Nat) (m2 : am_M), t + s = (U k).length → Fr [77] [] m0 m2 → (∀ j : Nat, j < n → j ≠ k → m2.1 77 j = m0.1 77 j) → (m2.1 77 k = if (left k && ((U k).take t).any (fun x => decide (pcnt T left x n = 1))) = true then ((r + 1 : Nat) : Int) else m0.1 77 k) →
        (∀ m3 : am_M, Fr [77] [] m0 m3 → (∀ j : Nat, j < n → j ≠ k → m3.1 77 j = m0.1 77 j) → (m3.1 77 k = if pmk T n left (3 * S 1) k = true then ((r + 1 : Nat) : Int) else m0.1 77 k) → am_GI (d + 5) 172 P 37 [(0, .inr (.inr 55)), (1, .inl r), (2, .inl more), (3, .inl ((k : Int) + 1))] [] m3) →
        am_GI (d + 5) 172 P 48 [(0, .inr (.inr 55)), (1, .inl r), (2, .inl more), (3, .inl k), (4, .inl t)] [] m2) := by
    intro k r more left lev m0 hk hr hC0 hD0 s
    have hmem : (left k && ((U k).take (U k).length).any (fun x => decide (pcnt T left x n = 1))) = pmk T n left (3 * S 1) k := by
      apply Bool.eq_iff_iff.mpr
      rw [pmk_iff, Bool.and_eq_true, List.any_eq_true, List.take_length]
      constructor
      · rintro ⟨a, x, b1, b2⟩
        have hx := ((hU k hk).2.2 x).mp b1
        exact ⟨a, x, hx, (hT k hk).2.2 x hx, of_decide_eq_true b2⟩
      · rintro ⟨a, x, b1, b2, b3⟩
        exact ⟨a, x, ((hU k hk).2.2 x).mpr b1, decide_eq_true b3⟩
    have hlen : (U k).length ≤ 3 := by
      rw [(hU k hk).2.1]
      rcases (hT k hk).1 with e | e <;> omega
    induction s with
    | zero =>
      intro t m2 ht hf2 h1 h2 kp
      have : t = (U k).length := by omega
      subst this
      have hC2 := hC0.fr hf2 (by decide)
      refine f_M_laysLevels_48 ⟨by omega, by omega, fun _ => ⟨am_RI (by omega) (by omega), kp m2 hf2 h1 ?_⟩, fun z => ?_⟩
      · rw [h2, hmem]
      · rw [(hC2 k hk).1] at z; omega
    | succ s ih =>
      intro t m2 ht hf2 h1 h2 kp
      have hC2 := hC0.fr hf2 (by decide)
      have hD2 := hD0.fr hf2 (by decide)
      refine f_M_laysLevels_48 ⟨by omega, by omega, fun z => ?_, fun _ => ⟨by omega, by omega, ?_⟩⟩
      · rw [(hC2 k hk).1] at z; omega
      rw [hD2.2.1 k hk]
      by_cases hl : left k = true
      · rw [if_pos hl]
        have hx : (U k)[t]? = some ((U k)[t]'(by omega)) := List.getElem?_eq_getElem (by omega)
        have hxm : (U k)[t]'(by omega) ∈ T k := ((hU k hk).2.2 _).mp (List.getElem_mem _)
        have hx3 := (hT k hk).2.2 _ hxm
        rw [(hC2 k hk).2 t _ hx]
        generalize (U k)[t]'(by omega) = x at *
        have htk : ((U k).take (t + 1)).any (fun x => decide (pcnt T left x n = 1)) = (((U k).take t).any (fun x => decide (pcnt T left x n = 1)) || decide (pcnt T left x n = 1)) := by
          rw [List.take_succ, hx, List.any_append]
          simp
        refine ⟨fun z => absurd z (by decide), fun _ => ⟨am_RI (by omega) (by omega), am_RI (by omega) (by omega), by omega, by omega, by omega, by omega, ?_⟩⟩
        rw [(hD2.2.2 x (by omega)).1]
        refine ⟨fun h => ⟨am_RI (by omega) (by omega), ih (t + 1) m2 (by omega) hf2 h1 ?_ kp⟩, fun h => ⟨am_RI (by omega) (by omega), by omega, by omega, am_RI (by omega) (by omega), ih (t + 1) _ (by omega) (hf2.wr (by decide)) (fun j hj hne => ?_) ?_ kp⟩⟩
        · rw [h2, htk, decide_eq_false (fun e => h (congrArg Nat.cast e)), Bool.or_false]
        · rw [wr_at, if_neg (by omega)]; exact h1 j hj hne
        · rw [wr_at, if_pos rfl, htk, decide_eq_true (by omega), Bool.or_true, hl, Bool.and_true, if_pos rfl]
          omega
      · rw [if_neg hl]
        refine ⟨fun _ => ⟨am_RI (by omega) (by omega), kp m2 hf2 h1 ?_⟩, fun z => absurd rfl z⟩
        rw [h2, if_neg (by rw [Bool.and_eq_true]; exact fun z => hl z.1), if_neg (fun z => hl (pmk_iff.mp z).1)]
  -- one round
  have step : ∀ (r : Nat) (left : Nat → Bool) (lev : Nat → Nat) (m0 : am_M), r ≤ 48 → Fr MF MF2 m m0 → RefC m0 U n → RefD m0 T n left → LevM m0 n lev → (∀ k, k < n → left k = true → lev k = 0) →
      (∀ m' : am_M, qany (pmk T n left (3 * S 1)) n = false → LevM m' n lev → Fr MF MF2 m m' → P r m') →
      (∀ m' : am_M, qany (pmk T n left (3 * S 1)) n = true → RefC m' U n → RefD m' T n (fun k => left k && !(pmk T n left (3 * S 1) k)) → LevM m' n (fun k => if pmk T n left (3 * S 1) k = true then r + 1 else lev k) → Fr MF MF2 m m' → am_GI (d + 5) 172 P 29 [(0, .inr (.inr 55)), (1, .inl ((r : Int) + 1)), (2, .inl 1)] [] m') →
      am_GI (d + 5) 172 P 29 [(0, .inr (.inr 55)), (1, .inl r), (2, .inl 1)] [] m0 := by
    intro r left lev m0 hr hf0 hC0 hD0 hv0 hz0 k0 k1
    generalize hmk : pmk T n left (3 * S 1) = mk at *
    have hml : ∀ k, mk k = true → left k = true := fun k h => by rw [← hmk] at h; exact (pmk_iff.mp h).1
    -- 111: the marked ones go
    have l111 : ∀ (s k : Nat) (m1 : am_M), k + s = n → Fr MF MF2 m m1 → RefC m1 U n → RefD m1 T n (fun j => left j && !(decide (j < k) && mk j)) → LevM m1 n (fun k => if mk k = true then r + 1 else lev k) → am_GI (d + 5) 172 P 111 [(0, .inr (.inr 55)), (1, .inl r), (2, .inl (if qany mk k = true then 1 else 0)), (3, .inl k)] [] m1 := by
      intro s
      induction s with
      | zero =>
        intro k m1 hk hf1 hC1 hD1 hv1
        have : k = n := by omega
        subst this
        have hM1 := hM.fr hf1 (by decide)
        have hD2 : RefD m1 T k (fun j => left j && !(mk j)) := hD1.congr (fun j hj => by rw [decide_eq_true hj, Bool.true_and])
        refine f_M_laysLevels_111 ⟨fun _ => ?_, fun z => ?_⟩
        · by_cases hq : qany mk k = true
          · rw [if_pos hq]
            exact ⟨fun z => absurd z (by decide), fun _ => ⟨am_RI (by omega) (by omega), k1 m1 hq hC1 hD2 hv1 hf1⟩⟩
          · rw [if_neg hq]
            refine ⟨fun _ => f_M_laysLevels_29 ⟨fun _ => k0 m1 (Bool.eq_false_iff.mpr hq) (fun j hj => ?_) hf1, fun z => absurd rfl z⟩, fun z => absurd rfl z⟩
            rw [hv1 j hj]
            show ((if mk j = true then r + 1 else lev j : Nat) : Int) = lev j
            rw [if_neg (fun e => hq (qany_iff.mpr ⟨j, hj, e⟩))]
        · rw [hM1.1] at z; omega
      | succ s ih =>
        intro k m1 hk hf1 hC1 hD1 hv1
        have hM1 := hM.fr hf1 (by decide)
        have hdec : ∀ j, j ≠ k → decide (j < k + 1) = decide (j < k) := fun j hj => by
          apply Bool.eq_iff_iff.mpr
          simp only [decide_eq_true_eq]
          omega
        refine f_M_laysLevels_111 ⟨fun z => ?_, fun _ => ⟨by omega, by omega, ?_⟩⟩
        · rw [hM1.1] at z; omega
        rw [hD1.2.1 k (by omega), hv1 k (by omega)]
        by_cases hl : left k = true
        · rw [if_pos (by simp [hl])]
          refine ⟨fun z => absurd z (by decide), fun _ => ⟨by omega, by omega, ?_⟩⟩
          by_cases hm : mk k = true
          · refine ⟨fun _ => r_takesOut hn (by omega : 3 * S 1 ≤ 96) hT hU hC1 hD1 (by omega) (by simp [hl]) (fun m2 hD2 hf2 => ⟨am_RI (by omega) (by omega), ?_⟩), fun z => ?_⟩
            · have := ih (k + 1) m2 (by omega) (hf1.tr hf2 (by decide) (by decide) (by decide) (by decide)) (hC1.fr hf2 (by decide)) (hD2.congr (fun j hj => ?_)) (fun j hj => by rw [hf2.1 _ (by decide)]; exact hv1 j hj)
              · rw [if_pos (by unfold qany; rw [hm, Bool.or_true])] at this
                exact this
              · unfold pset
                by_cases hjk : j = k
                · subst hjk; simp [hm]
                · rw [if_neg hjk, hdec j hjk]
            · simp only [if_pos hm] at z; exact absurd (by omega) z
          · refine ⟨fun z => ?_, fun _ => ⟨am_RI (by omega) (by omega), ?_⟩⟩
            · simp only [if_neg hm, hz0 k (show k < n by omega) hl] at z; exact absurd rfl z
            · have := ih (k + 1) m1 (by omega) hf1 hC1 (hD1.congr (fun j hj => ?_)) hv1
              · unfold qany at this
                rw [Bool.eq_false_iff.mpr hm, Bool.or_false] at this
                exact this
              · by_cases hjk : j = k
                · subst hjk; simp [hm]
                · rw [hdec j hjk]
        · rw [if_neg (by simp [hl])]
          have hm : mk k = false := by
            cases e : mk k with
            | false => rfl
            | true => exact absurd (hml k e) hl
          refine ⟨fun _ => ⟨am_RI (by omega) (by omega), ?_⟩, fun z => absurd rfl z⟩
          have := ih (k + 1) m1 (by omega) hf1 hC1 (hD1.congr (fun j hj => ?_)) hv1
          · unfold qany at this
            rw [hm, Bool.or_false] at this
            exact this
          · by_cases hjk : j = k
            · subst hjk; simp [hm]
            · rw [hdec j hjk]
    -- 37: all are looked at
    have l37 : ∀ (s k : Nat) (m1 : am_M), k + s = n → Fr [77] [] m0 m1 → LevM m1 n (fun j => if (decide (j < k) && mk j) = true then r + 1 else lev j) → am_GI (d + 5) 172 P 37 [(0, .inr (.inr 55)), (1, .inl r), (2, .inl 0), (3, .inl k)] [] m1 := by
      intro s
      induction s with
      | zero =>
        intro k m1 hk hf1 hv1
        have : k = n := by omega
        subst this
        have hf01 : Fr MF MF2 m m1 := hf0.tr hf1 (by decide) (by decide) (by decide) (by decide)
        have hM1 := hM.fr hf01 (by decide)
        refine f_M_laysLevels_37 ⟨fun _ => l111 k 0 m1 (by omega) hf01 (hC0.fr hf1 (by decide)) ((hD0.fr hf1 (by decide)).congr (fun j hj => by simp)) (fun j hj => ?_), fun z => ?_⟩
        · rw [hv1 j hj]
          simp only [decide_eq_true hj, Bool.true_and]
        · rw [hM1.1] at z; omega
      | succ s ih =>
        intro k m1 hk hf1 hv1
        have hf01 : Fr MF MF2 m m1 := hf0.tr hf1 (by decide) (by decide) (by decide) (by decide)
        have hM1 := hM.fr hf01 (by decide)
        refine f_M_laysLevels_37 ⟨fun z => ?_, fun _ => ?_⟩
        · rw [hM1.1] at z; omega
        · refine mark1 k r 0 left lev m1 (by omega) hr (hC0.fr hf1 (by decide)) (hD0.fr hf1 (by decide)) (U k).length 0 m1 (by omega) Fr.rf (fun _ _ _ => rfl) (by simp) (fun m3 hf3 e1 e2 => ?_)
          rw [show (k : Int) + 1 = ((k + 1 : Nat) : Int) by omega]
          refine ih (k + 1) m3 (by omega) (hf1.tr1 hf3) (fun j hj => ?_)
          by_cases hjk : j = k
          · subst hjk
            rw [e2, hmk, hv1 j hj]
            simp only [decide_eq_true (show j < j + 1 by omega), Bool.true_and]
            by_cases hm : mk j = true
            · rw [if_pos hm, if_pos hm]
            · rw [if_neg hm, if_neg hm]
              simp
          · rw [e1 j hj hjk, hv1 j hj]
            have : decide (j < k + 1) = decide (j < k) := by
              apply Bool.eq_iff_iff.mpr
              simp only [decide_eq_true_eq]
              omega
            simp only [this]
    exact f_M_laysLevels_29 ⟨fun z => absurd z (by decide), fun _ => l37 n 0 m0 (by omega) Fr.rf (fun j hj => by rw [hv0 j hj]; simp)⟩
  -- all rounds
  have main : ∀ (f r : Nat) (left : Nat → Bool) (lev : Nat → Nat) (m0 : am_M), r + f = 48 → pleft left n ≤ f → Fr MF MF2 m m0 → RefC m0 U n → RefD m0 T n left → LevM m0 n lev → (∀ k, k < n → left k = true → lev k = 0) → (∀ m' : am_M, LevM m' n (prnd T n (3 * S 1) f left lev r).2 → Fr MF MF2 m m' → P (prnd T n (3 * S 1) f left lev r).1 m') → am_GI (d + 5) 172 P 29 [(0, .inr (.inr 55)), (1, .inl r), (2, .inl 1)] [] m0 := by
    intro f
    induction f with
    | zero =>
      intro r left lev m0 hr hp hf0 hC0 hD0 hv0 hz kp
      refine step r left lev m0 (by omega) hf0 hC0 hD0 hv0 hz (fun m' _ hv hf' => kp m' hv hf') (fun m' hq _ _ _ _ => ?_)
      obtain ⟨k, hk, e⟩ := qany_iff.mp hq
      have := pleft_zero.mp (Nat.le_zero.mp hp) k hk
      rw [(pmk_iff.mp e).1] at this
      cases this
    | succ f ih =>
      intro r left lev m0 hr hp hf0 hC0 hD0 hv0 hz kp
      unfold prnd at kp
      refine step r left lev m0 (by omega) hf0 hC0 hD0 hv0 hz (fun m' hq hv hf' => ?_) (fun m' hq hC' hD' hv' hf' => ?_)
      · rw [if_neg (by rw [hq]; decide)] at kp
        exact kp m' hv hf'
      · rw [if_pos hq] at kp
        rw [show (r : Int) + 1 = ((r + 1 : Nat) : Int) by omega]
        obtain ⟨k, hk, e⟩ := qany_iff.mp hq
        refine ih (r + 1) _ _ m' (by omega) ?_ hf' hC' hD' hv' (fun j hj hl => ?_) kp
        · have := pleft_lt (l1 := fun k => left k && !(pmk T n left (3 * S 1) k)) (l2 := left) (k := k) (n := n) (fun j _ h => (Bool.and_eq_true _ _ ▸ h).1) hk (by simp [e]) (pmk_iff.mp e).1
          omega
        · simp only [Bool.and_eq_true, Bool.not_eq_true'] at hl
          show (if pmk T n left (3 * S 1) j = true then r + 1 else lev j) = 0
          rw [if_neg (by rw [hl.2]; decide)]
          exact hz j hj hl.1
  -- 6: no levels yet
  have l6 : ∀ (s k : Nat) (m0 : am_M), k + s = 48 → Fr [77] [] m1 m0 → (∀ j : Nat, j < k → m0.1 77 j = 0) → am_GI (d + 5) 172 P 6 [(0, .inr (.inr 55)), (1, .inl k)] [] m0 := by
    intro s
    induction s with
    | zero =>
      intro k m0 hk hf1 h0
      have : k = 48 := by omega
      subst this
      refine f_M_laysLevels_6 ⟨fun _ => ?_, fun z => absurd (by decide) z⟩
      exact main 48 0 (fun _ => true) (fun _ => 0) m0 (by omega) (Nat.le_trans pleft_le hn) (hf.tr hf1 (by decide) (by decide) (by decide) (by decide)) (hC.fr hf1 (by decide)) (hD.fr hf1 (by decide)) (fun j hj => h0 j (by omega)) (fun _ _ _ => rfl) kpost
    | succ s ih =>
      intro k m0 hk hf1 h0
      refine f_M_laysLevels_6 ⟨fun z => by omega, fun _ => ⟨by omega, by omega, am_RI (by omega) (by omega), ih (k + 1) _ (by omega) (hf1.wr (by decide)) (fun j hj => ?_)⟩⟩
      rw [wr_at]
      by_cases hjk : j = k
      · rw [if_pos (by omega)]
      · rw [if_neg (by omega)]; exact h0 j (by omega)
  exact l6 48 0 m1 (by omega) Fr.rf (fun j hj => absurd hj (by omega))
theorem r_level {d : Nat} {P : Int → am_M → Prop} {m : am_M} {n : Nat} {K : Nat → Int64} {V S : Nat → Nat} {z : Int} (hM : MSt m n K V S) (kpost : ∀ m' : am_M, Fr MF MF2 m m' → P (a_level n (RN n K S) z) m') : am_OkI (d + 6) 173 [.inr (.inr 55), .inl z] m P := by
  have hn := hM.2.1
  have hf0 : Fr MF MF2 m (am_wr m 6500 0 0) := Fr.rf.wr (by decide)
  have hM0 := hM.fr hf0 (by decide)
  refine f_M_level (r_laysLevels hM0 (fun m1 hv hf => ⟨fun h => r_isKey (hM0.fr hf (by decide)) (fun h0 => ⟨fun z => absurd rfl z, fun _ => ?_⟩) (fun h0 h1 => ⟨fun _ => ⟨by omega, by omega, ?_⟩, fun z => absurd (by decide) z⟩), fun h => ?_⟩))
  · have kp := kpost m1 (hf0.tr1 hf)
    unfold a_level at kp
    rw [if_neg h, if_neg h0] at kp
    exact kp
  · have kp := kpost m1 (hf0.tr1 hf)
    unfold a_level at kp
    rw [if_neg h, if_pos ⟨h0, h1⟩] at kp
    have hz := hv z.toNat (by omega)
    rw [show ((z.toNat : Nat) : Int) = z by omega] at hz
    rw [hz]
    refine ⟨fun h3 => ⟨by omega, by omega, ?_⟩, fun h3 => ?_⟩
    · rw [if_neg (by intro e; exact h3 (congrArg Nat.cast e))] at kp; exact kp
    · rw [if_pos (Decidable.byContradiction (fun e => h3 (fun e2 => e (Int.ofNat.inj e2))))] at kp; exact kp
  · have kp := kpost m1 (hf0.tr1 hf)
    unfold a_level at kp
    rw [if_pos (by omega)] at kp
    exact kp
