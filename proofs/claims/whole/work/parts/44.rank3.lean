/-! RANK of the reference -/
def vwR (a b : Int64) : Vc := fun x => if x < 48 then wb a x else wb b (x - 48)
def lo48 (a : Int64) : Prop := ∀ i, 48 ≤ i → wb a i = false
theorem lo48_zero : lo48 (Int64.ofNat 0) := fun i _ => wb_zero i
theorem lo48_xor {a b : Int64} (h1 : lo48 a) (h2 : lo48 b) : lo48 (a ^^^ b) := fun i hi => by rw [wb_xor, h1 i hi, h2 i hi]; rfl
theorem lo48_bit {a : Int64} {c : Nat} (h1 : lo48 a) (h2 : c < 48) : lo48 (a ||| am_lshl (Int64.ofNat 1) (c : Int)) := fun i hi => by
  rw [wb_or, h1 i hi, wb_bit (by omega), decide_eq_false (by omega)]; rfl
theorem vwR_xor (a b a' b' : Int64) : vwR (a ^^^ a') (b ^^^ b') = vx (vwR a b) (vwR a' b') := by
  funext x
  unfold vwR vx
  dsimp only
  by_cases h : x < 48
  · rw [if_pos h, if_pos h, if_pos h, wb_xor]
  · rw [if_neg h, if_neg h, if_neg h, wb_xor]
theorem vwR_zero {a b : Int64} (ha : lo48 a) (hb : lo48 b) : vwR a b = vz ↔ a = Int64.ofNat 0 ∧ b = Int64.ofNat 0 := by
  constructor
  · intro h
    refine ⟨wb_ext fun i hi => ?_, wb_ext fun i hi => ?_⟩
    · rw [wb_zero]
      by_cases h48 : i < 48
      · have := congrFun h i
        unfold vwR at this
        rw [if_pos h48] at this
        rw [this]; rfl
      · exact ha i (by omega)
    · have := congrFun h (i + 48)
      unfold vwR at this
      rw [if_neg (by omega), show i + 48 - 48 = i by omega] at this
      rw [this, wb_zero]; rfl
  · rintro ⟨rfl, rfl⟩
    funext x
    unfold vwR
    split <;> exact wb_zero _
theorem vwR_hi {a b : Int64} {l : List Nat} {c : Nat} (h : vwR a b = tv l) (h1 : 48 ≤ c) (h2 : c < 96) : vwR a (b ||| am_lshl (Int64.ofNat 1) ((c : Int) - 48)) = tv (l ++ [c]) := by
  funext x
  have hx := congrFun h x
  unfold vwR tv at *
  rw [show (c : Int) - 48 = ((c - 48 : Nat) : Int) by omega]
  by_cases h3 : x < 48
  · rw [if_pos h3] at hx ⊢
    rw [hx]
    have : x ≠ c := by omega
    simp [this]
  · rw [if_neg h3] at hx ⊢
    rw [wb_or, wb_bit (by omega), hx]
    by_cases e : x = c
    · subst e; simp
    · have : ¬ (x - 48 = c - 48) := by omega
      simp [e, this]
theorem vwR_lo {a b : Int64} {l : List Nat} {c : Nat} (h : vwR a b = tv l) (h1 : c < 48) : vwR (a ||| am_lshl (Int64.ofNat 1) (c : Int)) b = tv (l ++ [c]) := by
  funext x
  have hx := congrFun h x
  unfold vwR tv at *
  by_cases h3 : x < 48
  · rw [if_pos h3] at hx ⊢
    rw [wb_or, wb_bit (by omega), hx]
    by_cases e : x = c
    · subst e; simp
    · simp [e]
  · rw [if_neg h3] at hx ⊢
    rw [hx]
    have : x ≠ c := by omega
    simp [this]
def RkM (m : am_M) (W : Nat → Vc) : Prop := ∀ c : Nat, c < 96 → W c = vwR (m.2 78 c) (m.2 79 c) ∧ lo48 (m.2 78 c) ∧ lo48 (m.2 79 c)
theorem red_zero {W : Nat → Vc} : ∀ c, red W c vz = none
  | 0 => rfl
  | c + 1 => by
    unfold red
    rw [if_neg (fun h => Bool.noConfusion h)]
    exact red_zero c
theorem r_red {d : Nat} {P : Int → am_M → Prop} {W : Nat → Vc} {z k : Nat} (hz : z ≤ 48) (hk : k < 48) : ∀ (c : Nat) (m : am_M) (a b : Int64), c ≤ 96 → lo48 a → lo48 b → RkM m W → (red W c (vwR a b) = none → am_GI (d + 1) 174 P 41 [(0, .inr (.inr 55)), (1, .inl z), (2, .inl ((k : Int) + 1))] [] m) →
    (∀ (p : Nat) (a' b' : Int64), red W c (vwR a b) = some (p, vwR a' b') → lo48 a' → lo48 b' → am_GI (d + 1) 174 P 41 [(0, .inr (.inr 55)), (1, .inl ((z : Int) + 1)), (2, .inl ((k : Int) + 1))] [] (am_wl (am_wl m 78 (p : Int) a') 79 (p : Int) b')) →
    am_GI (d + 1) 174 P 120 [(0, .inr (.inr 55)), (1, .inl z), (2, .inl k), (3, .inr (.inl a)), (5, .inr (.inl b)), (7, .inl ((c : Int) - 1))] [] m := by
  have zz : ∀ (c z : Nat) (m : am_M), c ≤ 96 → am_GI (d + 1) 174 P 41 [(0, .inr (.inr 55)), (1, .inl z), (2, .inl ((k : Int) + 1))] [] m → am_GI (d + 1) 174 P 120 [(0, .inr (.inr 55)), (1, .inl z), (2, .inl k), (3, .inr (.inl (Int64.ofNat 0))), (5, .inr (.inl (Int64.ofNat 0))), (7, .inl ((c : Int) - 1))] [] m := by
    intro c
    induction c with
    | zero =>
      intro z m hc kp
      exact f_M_rank_120 ⟨fun _ => ⟨am_RI (by omega) (by omega), kp⟩, fun y => absurd (by omega) y⟩
    | succ c ih =>
      intro z m hc kp
      have e0 : ∀ q : Nat, q < 64 → ¬ am_lcmp (am_lshr (Int64.ofNat 0) (q : Int) &&& Int64.ofNat 1) (Int64.ofNat 0) ≠ 0 := fun q hq y => by
        have := (wb_tst (Int64.ofNat 0) hq).mp y
        rw [wb_zero] at this; cases this
      have ih := ih z m (by omega) kp
      rw [show (c : Int) - 1 = ((c + 1 : Nat) : Int) - 1 + (-1) by omega] at ih
      refine f_M_rank_120 ⟨fun y => by omega, fun _ => ⟨fun h48 => ⟨am_RI (by omega) (by omega), fun y => ?_, fun _ => ⟨am_RI (by omega) (by omega), ih⟩⟩, fun h48 => ⟨fun y => ?_, fun _ => ⟨am_RI (by omega) (by omega), ih⟩⟩⟩⟩
      · rw [show ((c + 1 : Nat) : Int) - 1 - 48 = ((c - 48 : Nat) : Int) by omega] at y
        exact absurd y (e0 (c - 48) (by omega))
      · rw [show ((c + 1 : Nat) : Int) - 1 = ((c : Nat) : Int) by omega] at y
        exact absurd y (e0 c (by omega))
  intro c
  induction c with
  | zero =>
    intro m a b hc ha hb hW k0 k1
    exact f_M_rank_120 ⟨fun _ => ⟨am_RI (by omega) (by omega), k0 rfl⟩, fun y => absurd (by omega) y⟩
  | succ c ih =>
    intro m a b hc ha hb hW k0 k1
    obtain ⟨w1, w2, w3⟩ := hW c (by omega)
    have hbit : ∀ (y : Prop), y = (vwR a b c = true) → True := fun _ _ => trivial
    have yes : vwR a b c = true → (¬ W c = vz → am_GI (d + 1) 174 P 120 [(0, .inr (.inr 55)), (1, .inl z), (2, .inl k), (3, .inr (.inl (a ^^^ (m.2 78 (c : Int))))), (5, .inr (.inl (b ^^^ (m.2 79 (c : Int))))), (7, .inl ((c : Int) + (-1)))] [] m) ∧ (W c = vz → am_GI (d + 1) 174 P 120 [(0, .inr (.inr 55)), (1, .inl ((z : Int) + 1)), (2, .inl k), (3, .inr (.inl (Int64.ofNat 0))), (5, .inr (.inl (Int64.ofNat 0))), (7, .inl ((c : Int) + (-1)))] [] (am_wl (am_wl m 78 (c : Int) a) 79 (c : Int) b)) := by
      intro hv
      refine ⟨fun hz => ?_, fun hz => ?_⟩
      · have e : red W (c + 1) (vwR a b) = red W c (vwR (a ^^^ m.2 78 (c : Int)) (b ^^^ m.2 79 (c : Int))) := by
          rw [vwR_xor, ← w1]
          show (if _ then _ else _) = _
          rw [if_pos hv, if_neg hz]
        rw [e] at k0 k1
        exact ih m _ _ (by omega) (lo48_xor ha w2) (lo48_xor hb w3) hW k0 k1
      · have e : red W (c + 1) (vwR a b) = some (c, vwR a b) := by
          show (if _ then _ else _) = _
          rw [if_pos hv, if_pos hz]
        exact zz c (z + 1) _ (by omega) (k1 c a b e ha hb)
    have no : ¬ vwR a b c = true → am_GI (d + 1) 174 P 120 [(0, .inr (.inr 55)), (1, .inl z), (2, .inl k), (3, .inr (.inl a)), (5, .inr (.inl b)), (7, .inl ((c : Int) + (-1)))] [] m := by
      intro hv
      have e : red W (c + 1) (vwR a b) = red W c (vwR a b) := by
        show (if _ then _ else _) = _
        rw [if_neg hv]
      rw [e] at k0 k1
      exact ih m _ _ (by omega) ha hb hW k0 k1
    have hWz : W c = vz ↔ m.2 78 (c : Int) = Int64.ofNat 0 ∧ m.2 79 (c : Int) = Int64.ofNat 0 := by rw [w1]; exact vwR_zero w2 w3
    refine f_M_rank_120 ?_
    rw [show ((c + 1 : Nat) : Int) - 1 = (c : Int) by omega]
    refine ⟨fun y => by omega, fun _ => ⟨fun h48 => ⟨am_RI (by omega) (by omega), fun y => ?_, fun y => ⟨am_RI (by omega) (by omega), ?_⟩⟩, fun h48 => ⟨fun y => ?_, fun y => ⟨am_RI (by omega) (by omega), ?_⟩⟩⟩⟩
    · rw [show (c : Int) - 48 = ((c - 48 : Nat) : Int) by omega] at y
      have hv : vwR a b c = true := by unfold vwR; rw [if_neg (by omega)]; exact (wb_tst b (by omega)).mp y
      obtain ⟨g1, g2⟩ := yes hv
      refine ⟨by omega, by omega, fun h => ⟨by omega, by omega, by omega, by omega, am_RI (by omega) (by omega), g1 (fun e => h (lcmp0.mpr (hWz.mp e).1))⟩, fun h => ⟨by omega, by omega, fun h2 => ⟨by omega, by omega, by omega, by omega, am_RI (by omega) (by omega), g1 (fun e => h2 (lcmp0.mpr (hWz.mp e).2))⟩, fun h2 => ⟨by omega, by omega, by omega, by omega, am_RI (by omega) (by omega), am_RI (by omega) (by omega), g2 (hWz.mpr ⟨lcmp0.mp (Decidable.byContradiction h), lcmp0.mp (Decidable.byContradiction h2)⟩)⟩⟩⟩
    · rw [show (c : Int) - 48 = ((c - 48 : Nat) : Int) by omega] at y
      exact no (fun hv => y ((wb_tst b (by omega)).mpr (by unfold vwR at hv; rw [if_neg (by omega)] at hv; exact hv)))
    · have hv : vwR a b c = true := by unfold vwR; rw [if_pos (by omega)]; exact (wb_tst a (by omega)).mp y
      obtain ⟨g1, g2⟩ := yes hv
      refine ⟨by omega, by omega, fun h => ⟨by omega, by omega, by omega, by omega, am_RI (by omega) (by omega), g1 (fun e => h (lcmp0.mpr (hWz.mp e).1))⟩, fun h => ⟨by omega, by omega, fun h2 => ⟨by omega, by omega, by omega, by omega, am_RI (by omega) (by omega), g1 (fun e => h2 (lcmp0.mpr (hWz.mp e).2))⟩, fun h2 => ⟨by omega, by omega, by omega, by omega, am_RI (by omega) (by omega), am_RI (by omega) (by omega), g2 (hWz.mpr ⟨lcmp0.mp (Decidable.byContradiction h), lcmp0.mp (Decidable.byContradiction h2)⟩)⟩⟩⟩
    · exact no (fun hv => y ((wb_tst a (by omega)).mpr (by unfold vwR at hv; rw [if_pos (by omega)] at hv; exact hv)))
theorem r_rank {d : Nat} {P : Int → am_M → Prop} {m : am_M} {n : Nat} {K : Nat → Int64} {V S : Nat → Nat} (hM : MSt m n K V S) (kpost : ∀ m' : am_M, Fr MF MF2 m m' → P (prk (GT (TT K (S 4) (S 1) (S 6))) n : Nat) m') : am_OkI (d + 5) 174 [.inr (.inr 55)] m P := by
  have hf0 : Fr MF MF2 m (am_wr m 6500 0 0) := Fr.rf.wr (by decide)
  have hM0 := hM.fr hf0 (by decide)
  have hn := hM.2.1
  have hS := hM.2.2.2.2.2.1
  obtain ⟨s1, -, -, -, -, -⟩ := id hS
  refine f_M_rank (r_netNow hM0 (fun m1 hC hD hf1 => ?_))
  have hf1 := hf0.tr1 hf1
  generalize hTe : TT K (S 4) (S 1) (S 6) = T at *
  generalize hUe : UT K (S 4) (S 1) (S 6) = U at *
  have hT : TOK T n (3 * S 1) := by rw [← hTe]; exact TT_ok K _ _ n (by omega)
  have hU : UOK U T n := by rw [← hTe, ← hUe]; exact UT_ok K _ _ _ n
  have main : ∀ (r k : Nat) (m2 : am_M) (W : Nat → Vc), k + r = n → Fr [] [78, 79] m1 m2 → RkM m2 W → Tri W → SpEq W 96 (GT T) k → am_GI (d + 5) 174 P 41 [(0, .inr (.inr 55)), (1, .inl (prk (GT T) k : Nat)), (2, .inl k)] [] m2 := by
    intro r
    induction r with
    | zero =>
      intro k m2 W hk hf2 h1 h2 h3
      have hM2 := hM.fr (hf1.tr hf2 (by decide) (by decide) (by decide) (by decide) : Fr MF MF2 m m2) (by decide)
      refine f_M_rank_41 ?_
      rw [hM2.1]
      have hkn : k = n := by omega
      subst hkn
      exact ⟨fun _ => kpost m2 (hf1.tr hf2 (by decide) (by decide) (by decide) (by decide)), fun y => absurd (by omega) y⟩
    | succ r ih =>
      intro k m2 W hk hf2 h1 h2 h3
      have hM2 := hM.fr (hf1.tr hf2 (by decide) (by decide) (by decide) (by decide) : Fr MF MF2 m m2) (by decide)
      have hC2 := hC.fr hf2 (by decide)
      obtain ⟨q1, q2⟩ := hC2 k (by omega)
      obtain ⟨u1, u2, u3⟩ := hU k (by omega)
      obtain ⟨hlen, hpw, hlt⟩ := hT k (by omega)
      have hple : prk (GT T) k ≤ k := prk_le
      have inner : ∀ (s t : Nat) (a b : Int64), t + s = (U k).length → vwR a b = tv ((U k).take t) → lo48 a → lo48 b → am_GI (d + 5) 174 P 57 [(0, .inr (.inr 55)), (1, .inl (prk (GT T) k : Nat)), (2, .inl k), (3, .inr (.inl a)), (5, .inr (.inl b)), (7, .inl t)] [] m2 := by
        intro s
        induction s with
        | zero =>
          intro t a b ht hv ha hb
          refine f_M_rank_57 ?_
          rw [q1]
          refine ⟨by omega, by omega, fun _ => ?_, fun y => absurd (by omega) y⟩
          rw [show (U k).take t = U k from List.take_of_length_le (by omega)] at hv
          have hGk : vwR a b = GT T k := by
            rw [hv]
            funext x
            show decide (x ∈ U k) = decide (x ∈ T k)
            rw [decide_eq_decide]; exact u3 x
          have htop : ∀ x, 96 ≤ x → GT T k x = false := fun x hx => decide_eq_false (fun hm => by have := hlt x hm; omega)
          have hred := red_spec h2 96 (GT T k) htop
          have := r_red (d := d + 4) (P := P) (W := W) (z := prk (GT T) k) (k := k) (by omega) (by omega) 96 m2 a b (by omega) ha hb h1 (fun hn0 => ?_) (fun p a' b' hp ha' hb' => ?_)
          · exact this
          · rw [hGk] at hn0
            have hsp := (h3 _).mp (hred.1 hn0)
            have := ih (k + 1) m2 W (by omega) hf2 h1 h2 (h3.skip hsp)
            rw [prk_in hsp] at this
            exact this
          · rw [hGk] at hp
            obtain ⟨a1, a2, a3, a4, a5, a6⟩ := hred.2 _ hp
            have a1 : ¬ Sp W 96 (GT T k) := a1
            have hsp : ¬ Sp (GT T) k (GT T k) := fun z => a1 ((h3 _).mpr z)
            have := ih (k + 1) (am_wl (am_wl m2 78 (p : Int) a') 79 (p : Int) b') (wput W p (vwR a' b')) (by omega) ((hf2.wl (by decide)).wl (by decide)) (fun c hc => ?_) (wput_tri h2 a4 a5) (fun v => ?_)
            · rw [prk_out hsp] at this
              exact this
            · rw [wl_at, wl_ne _ _ _ (by decide), wl_at]
              unfold wput
              by_cases e : c = p
              · rw [if_pos e, if_pos (by omega), if_pos (by omega)]; exact ⟨rfl, ha', hb'⟩
              · rw [if_neg e, if_neg (by omega), if_neg (by omega), wl_ne _ _ _ (by decide)]; exact h1 c hc
            · rw [wput_sp a3 a2]
              exact h3.add a6 v
        | succ s ih2 =>
          intro t a b ht hv ha hb
          have htl : t < (U k).length := by omega
          have hc0 : (U k)[t]? = some (U k)[t] := List.getElem?_eq_getElem htl
          generalize hce : (U k)[t] = c at hc0
          have hcN : c < 3 * S 1 := hlt c ((u3 c).mp (List.mem_of_getElem? hc0))
          have hq := q2 t c hc0
          have htk : (U k).take (t + 1) = (U k).take t ++ [c] := by rw [List.take_succ, hc0]; rfl
          refine f_M_rank_57 ?_
          rw [q1, hq]
          refine ⟨by omega, by omega, fun y => by omega, fun _ => ⟨am_RI (by omega) (by omega), am_RI (by omega) (by omega), by omega, by omega, fun h48 => ⟨am_RI (by omega) (by omega), am_RI (by omega) (by omega), ?_⟩, fun h48 => ⟨am_RI (by omega) (by omega), ?_⟩⟩⟩
          · refine ih2 (t + 1) _ _ (by omega) (by rw [htk]; exact vwR_hi hv (by omega) (by omega)) ha ?_
            rw [show (c : Int) - 48 = ((c - 48 : Nat) : Int) by omega]
            exact lo48_bit hb (by omega)
          · exact ih2 (t + 1) _ _ (by omega) (by rw [htk]; exact vwR_lo hv (by omega)) (lo48_bit ha (by omega)) hb
      refine f_M_rank_41 ?_
      rw [hM2.1]
      refine ⟨fun y => by omega, fun _ => ?_⟩
      exact inner (U k).length 0 (Int64.ofNat 0) (Int64.ofNat 0) (by omega) (by rw [List.take_zero, tv_nil]; exact (vwR_zero lo48_zero lo48_zero).mpr ⟨rfl, rfl⟩) lo48_zero lo48_zero
  have zero : ∀ (r c : Nat) (m2 : am_M), c + r = 96 → Fr [] [78, 79] m1 m2 → (∀ j : Nat, j < c → m2.2 78 j = Int64.ofNat 0 ∧ m2.2 79 j = Int64.ofNat 0) → am_GI (d + 5) 174 P 11 [(0, .inr (.inr 55)), (1, .inl c)] [] m2 := by
    intro r
    induction r with
    | zero =>
      intro c m2 hc hf2 h1
      refine f_M_rank_11 ⟨fun _ => ?_, fun y => absurd (by omega) y⟩
      refine main n 0 m2 (fun _ => vz) (by omega) hf2 (fun j hj => ?_) (fun _ => Or.inl rfl) (fun v => ?_)
      · rw [(h1 j (by omega)).1, (h1 j (by omega)).2]
        exact ⟨((vwR_zero lo48_zero lo48_zero).mpr ⟨rfl, rfl⟩).symm, lo48_zero, lo48_zero⟩
      · constructor
        · rintro ⟨I, rfl⟩
          refine ⟨I, funext fun x => ?_⟩
          exact cmb_none (fun _ _ _ => rfl)
        · rintro ⟨I, rfl⟩
          exact Sp.zero
    | succ r ih =>
      intro c m2 hc hf2 h1
      refine f_M_rank_11 ⟨fun y => by omega, fun _ => ⟨by omega, by omega, by omega, by omega, am_RI (by omega) (by omega), ih (c + 1) _ (by omega) ((hf2.wl (by decide)).wl (by decide)) (fun j hj => ?_)⟩⟩
      rw [wl_ne _ _ _ (by decide), wl_at, wl_at]
      by_cases e : j = c
      · rw [if_pos (by omega), if_pos (by omega)]; exact ⟨rfl, rfl⟩
      · rw [if_neg (by omega), if_neg (by omega), wl_ne _ _ _ (by decide)]; exact h1 j (by omega)
  exact zero 96 0 m1 (by omega) Fr.rf (fun j hj => by omega)
