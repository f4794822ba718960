/-! WAKE -/
def xrb (B : Nat → Bool) : List Nat → Bool
  | [] => false
  | a :: l => (B a != xrb B l)
def bfl (T : Nat → List Nat) (e : Nat → Bool) : List (Nat × Nat) → Nat → Bool
  | [] => fun _ => false
  | (k, c) :: r => fun x => if x = c then (e k != xrb (bfl T e r) (T k)) else bfl T e r x
theorem bx {v : Int32} (a b : Bool) : ((if a = true then v else 0) ^^^ (if b = true then v else 0) : Int32) = if (a != b) = true then v else 0 := by
  cases a <;> cases b <;> simp
theorem xr_b {v : Int32} {B : Nat → Bool} {F : Nat → Int32} (h : ∀ x, F x = if B x = true then v else 0) : ∀ {l : List Nat}, xr F l = if xrb B l = true then v else 0
  | [] => rfl
  | a :: l => by
    unfold xr xrb
    rw [xr_b h, h a, bx]
theorem pfl_b {v : Int32} {T : Nat → List Nat} {e : Nat → Bool} {g : Nat → Int32} (h : ∀ k, g k = if e k = true then v else 0) : ∀ {out : List (Nat × Nat)} (x : Nat), pfl T g out x = if bfl T e out x = true then v else 0
  | [], _ => rfl
  | (k, c) :: r, x => by
    unfold pfl bfl
    by_cases hx : x = c
    · rw [if_pos hx]
      simp only [if_pos hx]
      rw [xr_b (pfl_b h), h k, bx]
    · rw [if_neg hx]
      simp only [if_neg hx]
      exact pfl_b h x
theorem x4 (a b c e : Int32) : (a ^^^ b) ^^^ (c ^^^ e) = (a ^^^ c) ^^^ (b ^^^ e) := by
  rw [Int32.xor_assoc, Int32.xor_assoc, ← Int32.xor_assoc b c e, Int32.xor_comm b c, Int32.xor_assoc c b e]
theorem xr_add {F G H : Nat → Int32} (h : ∀ x, H x = F x ^^^ G x) : ∀ {l : List Nat}, xr H l = xr F l ^^^ xr G l
  | [] => by simp [xr]
  | a :: l => by
    unfold xr
    rw [xr_add h, h a, x4]
theorem pfl_add {T : Nat → List Nat} {g g' g'' : Nat → Int32} (h : ∀ k, g'' k = g k ^^^ g' k) : ∀ {out : List (Nat × Nat)} (x : Nat), pfl T g'' out x = pfl T g out x ^^^ pfl T g' out x
  | [], _ => by simp [pfl]
  | (k, c) :: r, x => by
    unfold pfl
    by_cases hx : x = c
    · rw [if_pos hx, if_pos hx, if_pos hx, xr_add (pfl_add h), h k, x4]
    · rw [if_neg hx, if_neg hx, if_neg hx]
      exact pfl_add h x
theorem bfl_zero {T : Nat → List Nat} {e : Nat → Bool} {c : Nat} : ∀ {out : List (Nat × Nat)}, (∀ p, p ∈ out → p.2 ≠ c) → bfl T e out c = false
  | [], _ => rfl
  | (k, c') :: r, h => by
    unfold bfl
    rw [if_neg (fun e => h (k, c') List.mem_cons_self e.symm)]
    exact bfl_zero (fun p hp => h p (List.mem_cons_of_mem _ hp))
theorem pok_lt {T : Nat → List Nat} {n N : Nat} : ∀ {out : List (Nat × Nat)}, pok T n N out → ∀ p, p ∈ out → p.2 < N
  | [], _, p, hp => by cases hp
  | (k, c) :: r, h, p, hp => by
    rcases List.mem_cons.mp hp with e | e
    · subst e; exact h.1.2.2.1
    · exact pok_lt h.2 p e
def cntb (B : Nat → Bool) : Nat → Nat
  | 0 => 0
  | n + 1 => cntb B n + if B n = true then 1 else 0
theorem cntb_le {B : Nat → Bool} : ∀ {n : Nat}, cntb B n ≤ n
  | 0 => Nat.le_refl _
  | n + 1 => by
    have := cntb_le (B := B) (n := n)
    unfold cntb
    split <;> omega
theorem cntb_more {B : Nat → Bool} {N : Nat} (h : ∀ x, N ≤ x → B x = false) : ∀ s, cntb B (N + s) = cntb B N
  | 0 => rfl
  | s + 1 => by
    show cntb B (N + s) + (if B (N + s) = true then 1 else 0) = _
    rw [cntb_more h s, h (N + s) (by omega)]
    simp
theorem c_countWoken {d : Nat} {P : Int → am_M → Prop} {m : am_M} {T : Nat → List Nat} {n N k : Nat} {out : List (Nat × Nat)} (hL : RowL m T n N) (hO : OutM m out) (ho : out.length ≤ n) (hp : pok T n N out) (hk : k < n)
    (kpost : ∀ m' : am_M, Fr CF CF2 m m' → P (cntb (bfl T (fun j => decide (j = k)) out) N : Nat) m') : am_OkI (d + 3) 38 [.inr (.inr 27), .inr (.inr 20), .inl k] m P := by
  have hn := hL.2.2.1
  have hN := hL.2.2.2.1
  refine f_Peeling_countWoken (c_fill_31 (fun m1 h0 hf => ⟨by omega, by omega, ?_⟩))
  have hf1 : Fr [31] [] m (am_wr m1 31 k 1) := hf.wr (by decide)
  refine c_fillBack_32 (g := fun j => if decide (j = k) = true then 1 else 0) (hL.fr hf1 (by decide)) (hO.fr hf1 (by decide)) ho hp (fun j hj => ?_) (fun m2 hF hf2 => ?_)
  · rw [wr_at]
    by_cases e : j = k
    · rw [if_pos (by omega), if_pos (by simp [e])]; rfl
    · rw [if_neg (by omega), if_neg (by simp [e]), h0 j (by omega)]; rfl
  · have hL2 := (hL.fr hf1 (by decide)).fr hf2 (by decide)
    have hB : ∀ x : Nat, x < 96 → m2.1 32 x = if bfl T (fun j => decide (j = k)) out x = true then 1 else 0 := fun x hx => by
      rw [hF x hx, pfl_b (e := fun j => decide (j = k)) (fun _ => rfl)]
      split <;> rfl
    have main : ∀ (s c : Nat), c + s = N → am_GI (d + 3) 38 P 33 [(0, .inr (.inr 27)), (1, .inr (.inr 20)), (3, .inl (cntb (bfl T (fun j => decide (j = k)) out) c : Nat)), (4, .inl c)] [] m2 := by
      intro s
      induction s with
      | zero =>
        intro c hc
        have : c = N := by omega
        subst this
        refine f_Peeling_countWoken_33 ⟨fun _ => kpost m2 (hf1.tr hf2 (by decide) (by decide) (by decide) (by decide)), fun z => ?_⟩
        rw [hL2.2.1] at z
        omega
      | succ s ih =>
        intro c hc
        have h2 := ih (c + 1) (by omega)
        have hle := cntb_le (B := bfl T (fun j => decide (j = k)) out) (n := c)
        refine f_Peeling_countWoken_33 ⟨fun z => ?_, fun _ => ⟨by omega, by omega, ?_⟩⟩
        · rw [hL2.2.1] at z
          omega
        rw [hB c (by omega)]
        unfold cntb at h2
        by_cases e : bfl T (fun j => decide (j = k)) out c = true
        · rw [if_pos e] at h2 ⊢
          exact ⟨am_RI (by omega) (by omega), am_RI (by omega) (by omega), h2⟩
        · rw [if_neg e] at h2 ⊢
          rw [Int.add_zero]
          exact ⟨am_RI (by omega) (by omega), am_RI (by omega) (by omega), h2⟩
    exact main N 0 (by omega)
theorem c_canBeValue {d : Nat} {P : Int → am_M → Prop} {m : am_M} {n : Nat} {K : Nat → Int64} {V S : Nat → Nat} {z : Int} (hG : GSt m n K V S) (k0 : ¬ (0 ≤ z ∧ z < (2 ^ S 3 : Nat)) → P 0 m) (k1 : 0 ≤ z → z < (2 ^ S 3 : Nat) → P 1 m) : am_OkI (d + 1) 13 [.inr (.inr 4), .inl z] m P := by
  obtain ⟨-, -, s3, -, -, -⟩ := hG.2.2.2.2.2.1
  refine f_Given_canBeValue_4 ⟨fun h => ⟨Or.inl rfl, k0 (by omega)⟩, fun h => ⟨by decide, by decide, ?_⟩⟩
  rw [show m.1 7 3 = S 3 from hG.set (by decide) (by decide), shl1 (S 3) (by omega)]
  exact ⟨fun h2 => ⟨Or.inl rfl, k0 (by omega)⟩, fun h2 => ⟨Or.inr rfl, k1 (by omega) (by omega)⟩⟩
theorem r_isValue {d : Nat} {P : Int → am_M → Prop} {m : am_M} {n : Nat} {K : Nat → Int64} {V S : Nat → Nat} {z : Int} (hM : MSt m n K V S) (k0 : ¬ (0 ≤ z ∧ z < (2 ^ S 3 : Nat)) → P 0 m) (k1 : 0 ≤ z → z < (2 ^ S 3 : Nat) → P 1 m) : am_OkI (d + 2) 139 [.inr (.inr 55), .inl z] m P := by
  obtain ⟨-, -, s3, -, -, -⟩ := hM.2.2.2.2.2.1
  refine f_M_isValue ⟨by decide, by decide, ?_⟩
  rw [show m.1 63 3 = S 3 from hM.set (by decide) (by decide)]
  refine ⟨shl1_R (by omega), ?_⟩
  rw [shl1 (S 3) (by omega)]
  exact r_isIn (fun h => ⟨Or.inl rfl, k0 (by omega)⟩) (fun h1 h2 => ⟨Or.inr rfl, k1 (by omega) (by omega)⟩)
def a_wake (n : Nat) (K : Nat → Int64) (V S : Nat → Nat) (k v : Int) : Int :=
  if 0 ≤ k ∧ k < n ∧ 0 ≤ v ∧ v < (2 ^ S 3 : Nat) then (if pleft (PN n K S).1 n = 0 then (if (V k.toNat : Int) = v then 0 else (cntb (bfl (TT K (S 4) (S 1) (S 6)) (fun j => decide (j = k.toNat)) (PN n K S).2) (3 * S 1) : Nat)) else -2) else -1
theorem c_wake {d : Nat} {P : Int → am_M → Prop} {m : am_M} {n : Nat} {K : Nat → Int64} {V S : Nat → Nat} {k v : Int} (hG : GSt m n K V S) (kpost : ∀ m' : am_M, Fr CF CF2 m m' → P (a_wake n K V S k v) m') : am_OkI (d + 7) 96 [.inr (.inr 0), .inl k, .inl v] m P := by
  have hn := hG.2.1
  unfold a_wake at kpost
  refine f_T_wake (c_has hG (fun h => ⟨fun _ => ?_, fun z => absurd rfl z⟩) (fun h1 h2 => ⟨fun z => absurd z (by decide), fun _ => c_canBeValue hG (fun h => ⟨fun z => absurd rfl z, fun _ => ?_⟩) (fun h3 h4 => ⟨fun _ => ?_, fun z => absurd (by decide) z⟩)⟩))
  · have kp := kpost m Fr.rf
    rw [if_neg (by omega)] at kp; exact kp
  · have kp := kpost m Fr.rf
    rw [if_neg (by omega)] at kp; exact kp
  · refine c_peelNow hG (fun m1 hL hD hO hf => ?_)
    rw [hD.1]
    have hG1 := hG.fr hf (by decide)
    have hVk := hG1.2.2.2.1 k.toNat (by omega)
    rw [show ((k.toNat : Nat) : Int) = k by omega] at hVk
    refine ⟨fun h5 => ⟨by omega, by omega, ?_⟩, fun h5 => ?_⟩
    · rw [hVk]
      refine ⟨fun h6 => ?_, fun h6 => ?_⟩
      · have := c_countWoken (d := d + 3) (P := P) (k := k.toNat) hL hO (out_le hL.2.2.2.2.1 hL.2.2.2.1) (pchain_ok (pres_spec (S 5) (fun _ => true) hL.2.2.2.2.1 hL.2.2.2.1).1) (by omega) (fun m2 hf2 => ?_)
        · rw [show ((k.toNat : Nat) : Int) = k by omega] at this
          exact this
        · have kp := kpost m2 (hf.tr1 hf2)
          rw [if_pos ⟨h1, h2, h3, h4⟩, if_pos (show pleft (PN n K S).1 n = 0 from Int.ofNat.inj h5), if_neg h6] at kp
          exact kp
      · have kp := kpost m1 hf
        rw [if_pos ⟨h1, h2, h3, h4⟩, if_pos (show pleft (PN n K S).1 n = 0 from Int.ofNat.inj h5), if_pos (by omega)] at kp
        exact kp
    · have kp := kpost m1 hf
      rw [if_pos ⟨h1, h2, h3, h4⟩, if_neg (fun (e : pleft (PN n K S).1 n = 0) => h5 (congrArg Nat.cast e))] at kp
      exact kp
theorem gV_xor {V : Nat → Nat} {k v : Nat} : ∀ j, gV V j ^^^ gV (fun j => if j = k then v else V j) j = if decide (j = k) = true then Int32.ofInt (V k) ^^^ Int32.ofInt v else 0 := fun j => by
  show Int32.ofInt (V j) ^^^ Int32.ofInt ((if j = k then v else V j : Nat) : Int) = _
  by_cases e : j = k
  · rw [if_pos e, if_pos (by simp [e]), e]
  · rw [if_neg e, if_neg (by simp [e]), Int32.xor_self]
theorem xor_ne {a b : Int32} (h : a ≠ b) : a ^^^ b ≠ 0 := fun e => h (by
  have := congrArg (· ^^^ b) e
  simp only [Int32.xor_assoc, Int32.xor_self, Int32.xor_zero, Int32.zero_xor] at this
  exact this)
theorem r_wake {d : Nat} {P : Int → am_M → Prop} {m : am_M} {n : Nat} {K : Nat → Int64} {V S : Nat → Nat} {k v : Int} (hM : MSt m n K V S) (kpost : ∀ m' : am_M, Fr MF MF2 m m' → P (a_wake n K V S k v) m') : am_OkI (d + 6) 180 [.inr (.inr 55), .inl k, .inl v] m P := by
  have hn := hM.2.1
  obtain ⟨s1, s2, s3, s4, s5, s6⟩ := hM.2.2.2.2.2.1
  have hf0 : Fr MF MF2 m (am_wr m 6500 0 0) := Fr.rf.wr (by decide)
  have hM0 := hM.fr hf0 (by decide)
  unfold a_wake at kpost
  refine f_M_wake (r_isKey hM0 (fun h => ⟨fun _ => ?_, fun z => absurd rfl z⟩) (fun h1 h2 => ⟨fun z => absurd z (by decide), fun _ => r_isValue hM0 (fun h => ⟨fun z => absurd rfl z, fun _ => ?_⟩) (fun h3 h4 => ⟨fun _ => ?_, fun z => absurd (by decide) z⟩)⟩))
  · have kp := kpost _ hf0
    rw [if_neg (by omega)] at kp; exact kp
  · have kp := kpost _ hf0
    rw [if_neg (by omega)] at kp; exact kp
  refine r_peelNow hM0 (fun m1 hC hD hO hf => ?_)
  have hf1 : Fr MF MF2 m m1 := hf0.tr1 hf
  have hM1 := hM.fr hf1 (by decide)
  have hT := TT_ok K (S 4) (c := S 1) (S 6) n (by omega)
  have hU := UT_ok K (S 4) (S 1) (S 6) n
  have hpow : (2 : Nat) ^ S 3 ≤ 256 := Nat.pow_le_pow_right (n := 2) (by decide) s3
  have hVb : ∀ j, j < n → V j < 2147483648 := fun j hj => by
    have := hM.2.2.2.2.2.2 j hj
    omega
  have hol := out_le (w := S 5) hT (show 3 * S 1 ≤ 96 by omega)
  have hok := pchain_ok (pres_spec (S 5) (fun _ => true) hT (show 3 * S 1 ≤ 96 by omega)).1
  rw [hD.1]
  refine ⟨fun h5 => ?_, fun h5 => ?_⟩
  · have hpz : pleft (PN n K S).1 n = 0 := by
      change (((pleft (PN n K S).1 n : Nat) : Int) ≤ 0) at h5
      omega
    rw [show m1.1 63 4 = S 4 from hM1.set (by decide) (by decide)]
    have hcell := pok_lt hok
    change OutR m1 (PN n K S).2 at hO
    change (PN n K S).2.length ≤ n at hol
    change pok _ _ _ (PN n K S).2 at hok
    change ∀ p, p ∈ (PN n K S).2 → _ at hcell
    generalize (PN n K S).2 = out at *
    refine ⟨by decide, by decide, r_fills (V := V) hn s1.2 hT hU hC hO hol hok hM1.2.2.1 hM1.2.2.2.1 hVb (hM1.set (i := 2) (by decide) (by decide)) s2.2 (fun m2 _ hF hf2 => ?_)⟩
    have hf12 : Fr MF MF2 m m2 := hf1.tr hf2 (by decide) (by decide) (by decide) (by decide)
    generalize TT K (S 4) (S 1) (S 6) = T at *
    have hkk : ((k.toNat : Nat) : Int) = k := by omega
    have hvv : ((v.toNat : Nat) : Int) = v := by omega
    -- 112: those that differ
    have l112 : ∀ (m4 : am_M), Fr MF MF2 m m4 → FilM m4 82 (pfl T (gV V) out) → FilM m4 81 (pfl T (gV (fun j => if j = k.toNat then v.toNat else V j)) out) → ∀ (s x : Nat), x + s = 96 → am_GI (d + 6) 180 P 112 [(0, .inr (.inr 55)), (4, .inl (cntb (fun x => decide (pfl T (gV V) out x ≠ pfl T (gV (fun j => if j = k.toNat then v.toNat else V j)) out x)) x : Nat)), (5, .inl x)] [] m4 := by
      intro m4 hf4 hO4 hV4 s
      induction s with
      | zero =>
        intro x hx
        have : x = 96 := by omega
        subst this
        refine f_M_wake_112 ⟨fun _ => ?_, fun z => absurd (by decide) z⟩
        have kp := kpost m4 hf4
        rw [if_pos ⟨h1, h2, h3, h4⟩, if_pos hpz] at kp
        have hadd := fun x => pfl_add (T := T) (out := out) (g := gV V) (g' := gV (fun j => if j = k.toNat then v.toNat else V j)) (g'' := fun j => gV V j ^^^ gV (fun j => if j = k.toNat then v.toNat else V j) j) (fun _ => rfl) x
        have hb := fun x => pfl_b (T := T) (out := out) (e := fun j => decide (j = k.toNat)) (v := Int32.ofInt (V k.toNat) ^^^ Int32.ofInt v.toNat) (g := fun j => gV V j ^^^ gV (fun j => if j = k.toNat then v.toNat else V j) j) gV_xor x
        by_cases hvk : (V k.toNat : Int) = v
        · rw [if_pos hvk] at kp
          have : cntb (fun x => decide (pfl T (gV V) out x ≠ pfl T (gV (fun j => if j = k.toNat then v.toNat else V j)) out x)) 96 = 0 := by
            have e : (fun j => if j = k.toNat then v.toNat else V j) = V := by
              funext j
              by_cases hj : j = k.toNat
              · rw [if_pos hj, hj]; omega
              · rw [if_neg hj]
            rw [e]
            simp only [ne_eq, not_true_eq_false, decide_false]
            have h0 : ∀ n, cntb (fun _ => false) n = 0 := fun n => by
              induction n with
              | zero => rfl
              | succ n ih => unfold cntb; rw [ih]; rfl
            exact h0 96
          rw [this]
          exact kp
        · rw [if_neg hvk] at kp
          have : (fun x => decide (pfl T (gV V) out x ≠ pfl T (gV (fun j => if j = k.toNat then v.toNat else V j)) out x)) = bfl T (fun j => decide (j = k.toNat)) out := by
            funext x
            have hx := hb x
            rw [hadd x] at hx
            have hd : Int32.ofInt (V k.toNat) ^^^ Int32.ofInt v.toNat ≠ 0 := xor_ne (fun e => hvk (by
              have hv1 := hVb k.toNat (by omega)
              have := (am_eqI (am_RI (by omega) (by omega)) (am_RI (by omega) (by omega))).mp e
              omega))
            cases hB : bfl T (fun j => decide (j = k.toNat)) out x with
            | true =>
              rw [hB, if_pos rfl] at hx
              refine decide_eq_true (fun e => hd ?_)
              rw [← hx, e, Int32.xor_self]
            | false =>
              rw [hB] at hx
              simp only [Bool.false_eq_true, if_false] at hx
              refine decide_eq_false (fun e => xor_ne e hx)
          rw [this]
          have hm := cntb_more (B := bfl T (fun j => decide (j = k.toNat)) out) (N := 3 * S 1) (fun x hx => bfl_zero (fun p hp e => by have := hcell p hp; omega)) (96 - 3 * S 1)
          rw [show 3 * S 1 + (96 - 3 * S 1) = 96 by omega] at hm
          rw [hm]
          exact kp
      | succ s ih =>
        intro x hx
        have h2 := ih (x + 1) (by omega)
        have hle := cntb_le (B := fun x => decide (pfl T (gV V) out x ≠ pfl T (gV (fun j => if j = k.toNat then v.toNat else V j)) out x)) (n := x)
        refine f_M_wake_112 ⟨fun z => by omega, fun _ => ⟨by omega, by omega, by omega, by omega, ?_⟩⟩
        rw [hO4 x (by omega), hV4 x (by omega)]
        unfold cntb at h2
        refine ⟨fun e => ⟨am_RI (by omega) (by omega), ?_⟩, fun e => ⟨am_RI (by omega) (by omega), am_RI (by omega) (by omega), ?_⟩⟩
        · rw [if_neg (by simp [Int32.toInt_inj.mp e])] at h2
          exact h2
        · rw [if_pos (by simp only [decide_eq_true_eq]; exact fun e2 => e (by rw [e2]))] at h2
          exact h2
    -- 50: the copy
    have l50 : ∀ (s x : Nat) (m3 : am_M), x + s = 96 → Fr [82] [] m2 m3 → (∀ y : Nat, y < x → m3.1 82 y = (pfl T (gV V) out y).toInt) → am_GI (d + 6) 180 P 50 [(0, .inr (.inr 55)), (1, .inl k), (2, .inl v), (3, .inl x)] [] m3 := by
      intro s
      induction s with
      | zero =>
        intro x m3 hx hf3 h0
        have hf13 : Fr MF MF2 m m3 := hf12.tr hf3 (by decide) (by decide) (by decide) (by decide)
        have hf23 : Fr (filF ++ [82]) [] m1 m3 := hf2.tr hf3 (by decide) (by decide) (by decide) (by decide)
        have hM3 := hM.fr hf13 (by decide)
        have hw : Fr [60] [] m3 (am_wr m3 60 k v) := Fr.rf.wr (by decide)
        refine f_M_wake_50 ⟨fun _ => ⟨by omega, by omega, by omega, by omega, by decide, by decide, ?_⟩, fun z => absurd (by omega) z⟩
        rw [show m3.1 63 4 = S 4 from hM3.set (by decide) (by decide)]
        refine r_fills (V := fun j => if j = k.toNat then v.toNat else V j) (S := S) (K := K) hn s1.2 hT hU ((hC.fr hf23 (by decide)).fr hw (by decide)) ((hO.fr hf23 (by decide)).fr hw (by decide)) hol hok (fun j hj => hM3.2.2.1 j hj) (fun j hj => ?_) (fun j hj => ?_) (hM3.set (i := 2) (by decide) (by decide)) s2.2 (fun m4 _ hF4 hf4 => ⟨by omega, by omega, ?_⟩)
        · rw [wr_at]
          by_cases e : j = k.toNat
          · rw [if_pos (by omega), if_pos e]; omega
          · rw [if_neg (by omega), if_neg e]; exact hM3.2.2.2.1 j hj
        · show (if j = k.toNat then v.toNat else V j) < _
          split
          · omega
          · exact hVb j hj
        · refine l112 _ ⟨fun i hi => ?_, fun i hi => ?_⟩ (fun y hy => ?_) (fun y hy => ?_) 96 0 (by omega)
          · by_cases hi60 : i = 60
            · subst hi60
              funext w
              rw [wr_at, ← hf13.1 _ (by decide)]
              by_cases e : w = k
              · rw [if_pos e, e]
              · rw [if_neg e, hf4.1 _ (by decide), wr_at, if_neg e]
            · rw [wr_ne _ _ _ hi60, hf4.1 _ (fun hm => hi ((by decide : ∀ j ∈ filF, j ∈ MF) i hm)), wr_ne _ _ _ hi60]
              exact hf13.1 i hi
          · rw [wr_2, hf4.2 i (by simp), wr_2]
            exact hf13.2 i hi
          · rw [wr_ne _ _ _ (by decide), hf4.1 _ (by decide), wr_ne _ _ _ (by decide)]
            exact h0 y (by omega)
          · rw [wr_ne _ _ _ (by decide)]
            exact hF4 y hy
      | succ s ih =>
        intro x m3 hx hf3 h0
        refine f_M_wake_50 ⟨fun z => by omega, fun _ => ⟨by omega, by omega, by omega, by omega, am_RI (by omega) (by omega), ih (x + 1) _ (by omega) (hf3.wr (by decide)) (fun y hy => ?_)⟩⟩
        rw [wr_at]
        by_cases e : y = x
        · rw [if_pos (by omega), hf3.1 _ (by decide), hF x (by omega), e]
        · rw [if_neg (by omega)]; exact h0 y (by omega)
    exact l50 96 0 m2 (by omega) Fr.rf (fun y hy => absurd hy (by omega))
  · have kp := kpost m1 hf1
    rw [if_pos ⟨h1, h2, h3, h4⟩, if_neg (fun (e : pleft (PN n K S).1 n = 0) => h5 (by rw [show pleft (PN n K S).1 n = 0 from e]; exact Int.le_refl 0))] at kp
    exact kp
