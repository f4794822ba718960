/-! THE TAPE: feed, end; worth -/
def sg (b : Nat) : Int := if b < 128 then b else (b : Int) - 256
def bt (x : Int) (s : Nat) : Nat := (am_and (am_ushr x s) 255).toNat
theorem bv_low (v : BitVec 32) (s : Nat) (hs : s ≤ 24) : (v.sshiftRight s).setWidth 8 = (v >>> s).setWidth 8 := by
  apply BitVec.eq_of_getLsbD_eq
  intro i hi
  rw [BitVec.getLsbD_setWidth, BitVec.getLsbD_setWidth, BitVec.getLsbD_sshiftRight, BitVec.getLsbD_ushiftRight]
  have h1 : ¬ (32 ≤ i) := by omega
  have h2 : s + i < 32 := by omega
  simp [h1, h2]
theorem bv_sg (v : BitVec 8) : v.toInt = sg v.toNat := by
  unfold sg
  rw [BitVec.toInt_eq_toNat_cond]
  have := v.isLt
  split <;> split <;> omega
theorem shr_bv (z : Int32) (s : Nat) (hs : s = 24 ∨ s = 16 ∨ s = 8 ∨ s = 0) : (z >>> (Int32.ofInt s &&& 31)).toBitVec = z.toBitVec.sshiftRight s := by
  rcases hs with h | h | h | h <;> subst h <;> rfl
theorem ushr_bv (z : Int32) (s : Nat) (hs : s = 24 ∨ s = 16 ∨ s = 8 ∨ s = 0) : ((z.toUInt32 >>> ((Int32.ofInt s).toUInt32 &&& Int32.toUInt32 31)).toInt32).toBitVec = z.toBitVec >>> s := by
  rcases hs with h | h | h | h <;> subst h <;> rfl
theorem and255 (v : BitVec 32) : (v &&& 255#32).toNat = (v.setWidth 8).toNat := by
  rw [BitVec.toNat_and, BitVec.toNat_setWidth]
  exact Nat.and_two_pow_sub_one_eq_mod v.toNat 8
theorem bt_spec (z : Int32) (s : Nat) (hs : s = 24 ∨ s = 16 ∨ s = 8 ∨ s = 0) : am_i2b (am_shr z.toInt s) = sg (bt z.toInt s) ∧ am_and (am_ushr z.toInt s) 255 = (bt z.toInt s : Int) ∧ bt z.toInt s ≤ 255 := by
  have hA : am_and (am_ushr z.toInt s) 255 = (((z.toBitVec >>> s).setWidth 8).toNat : Int) := by
    unfold am_and am_ushr
    rw [Int32.ofInt_toInt, Int32.ofInt_toInt]
    have e : (((z.toUInt32 >>> ((Int32.ofInt s).toUInt32 &&& Int32.toUInt32 31)).toInt32) &&& Int32.ofInt 255).toBitVec = (z.toBitVec >>> s) &&& 255#32 := by
      rw [Int32.toBitVec_and, ushr_bv z s hs]
      rfl
    rw [← Int32.toInt_toBitVec, e, ← and255, BitVec.toInt_eq_toNat_of_lt]
    have : ((z.toBitVec >>> s) &&& 255#32).toNat ≤ 255 := by
      rw [BitVec.toNat_and]
      exact Nat.and_le_right
    omega
  have hN : bt z.toInt s = ((z.toBitVec >>> s).setWidth 8).toNat := by
    unfold bt
    rw [hA]
    rfl
  have hlt := ((z.toBitVec >>> s).setWidth 8).isLt
  refine ⟨?_, by rw [hA, hN], by rw [hN]; omega⟩
  rw [hN, ← bv_sg, ← bv_low z.toBitVec s (by omega)]
  unfold am_i2b am_shr
  rw [Int32.ofInt_toInt, Int32.ofInt_toInt, Int8.toInt_toInt32, ← Int8.toInt_toBitVec, ← shr_bv z s hs]
  show (((z >>> (Int32.ofInt s &&& 31)).toBitVec).signExtend 8).toInt = _
  rw [BitVec.signExtend_eq_setWidth_of_le _ (by decide)]
def psh (tb : Nat → Nat) (tl v : Nat) : Nat → Nat := fun i => if i = tl then v else tb i
def tap (tb : Nat → Nat) (tl : Nat) (x : Int) : Nat → Nat := psh (psh (psh (psh tb tl (bt x 24)) (tl + 1) (bt x 16)) (tl + 2) (bt x 8)) (tl + 3) (bt x 0)
def TapC (m : am_M) (tl : Nat) (tb : Nat → Nat) : Prop := m.1 1101 0 = tl ∧ tl ≤ 600 ∧ ∀ i : Nat, i < tl → m.1 2 i = sg (tb i) ∧ tb i ≤ 255
def TapR (m : am_M) (tl : Nat) (tb : Nat → Nat) : Prop := m.1 6502 0 = tl ∧ tl ≤ 600 ∧ ∀ i : Nat, i < tl → m.1 56 i = tb i ∧ tb i ≤ 255
theorem TapC.fr {m m' : am_M} {tl : Nat} {tb : Nat → Nat} (h : TapC m tl tb) {l1 l2 : List Nat} (hf : Fr l1 l2 m m') (h1 : 1101 ∉ l1 ∧ 2 ∉ l1) : TapC m' tl tb := by
  unfold TapC at *
  rw [hf.1 _ h1.1, hf.1 _ h1.2]; exact h
theorem TapR.fr {m m' : am_M} {tl : Nat} {tb : Nat → Nat} (h : TapR m tl tb) {l1 l2 : List Nat} (hf : Fr l1 l2 m m') (h1 : 6502 ∉ l1 ∧ 56 ∉ l1) : TapR m' tl tb := by
  unfold TapR at *
  rw [hf.1 _ h1.1, hf.1 _ h1.2]; exact h
theorem TapC.push {m : am_M} {tl : Nat} {tb : Nat → Nat} (h : TapC m tl tb) {v : Nat} (hv : v ≤ 255) (hl : tl < 600) : TapC (am_wr (am_wr m 2 tl (sg v)) 1101 0 ((tl : Int) + 1)) (tl + 1) (psh tb tl v) := by
  refine ⟨by rw [wr_at, if_pos rfl]; rfl, by omega, fun i hi => ?_⟩
  rw [wr_ne _ _ _ (by decide), wr_at]
  unfold psh
  by_cases e : i = tl
  · rw [if_pos (by omega), if_pos e]; exact ⟨rfl, hv⟩
  · rw [if_neg (by omega), if_neg e]; exact h.2.2 i (by omega)
theorem TapR.push {m : am_M} {tl : Nat} {tb : Nat → Nat} (h : TapR m tl tb) {v : Nat} (hv : v ≤ 255) (hl : tl < 600) : TapR (am_wr (am_wr m 56 tl v) 6502 0 ((tl : Int) + 1)) (tl + 1) (psh tb tl v) := by
  refine ⟨by rw [wr_at, if_pos rfl]; rfl, by omega, fun i hi => ?_⟩
  rw [wr_ne _ _ _ (by decide), wr_at]
  unfold psh
  by_cases e : i = tl
  · rw [if_pos (by omega), if_pos e]; exact ⟨rfl, hv⟩
  · rw [if_neg (by omega), if_neg e]; exact h.2.2 i (by omega)
theorem c_append {d : Nat} {P : am_M → Prop} {m : am_M} {tl : Nat} {tb : Nat → Nat} {x : Int} (hx : am_R x) (h : TapC m tl tb) (hl : tl + 4 ≤ 600) (kpost : ∀ m' : am_M, TapC m' (tl + 4) (tap tb tl x) → Fr [2, 1101] [] m m' → P m') : am_OkV (d + 1) 67 [.inr (.inr 1), .inl x] m P := by
  have hz : (Int32.ofInt x).toInt = x := am_to hx
  have step : ∀ (s tl : Nat) (tb : Nat → Nat) (m1 : am_M), (s = 24 ∨ s = 16 ∨ s = 8 ∨ s = 0) → TapC m1 tl tb → tl < 600 → (∀ m2 : am_M, TapC m2 (tl + 1) (psh tb tl (bt x s)) → Fr [2, 1101] [] m1 m2 → am_GV (d + 1) 67 P 3 [(0, .inr (.inr 1)), (1, .inl x), (2, .inl ((s : Int) + -8))] [] m2) → am_GV (d + 1) 67 P 3 [(0, .inr (.inr 1)), (1, .inl x), (2, .inl s)] [] m1 := by
    intro s tl tb m1 hs h1 hl1 kp
    obtain ⟨b1, b2, b3⟩ := bt_spec (Int32.ofInt x) s hs
    rw [hz] at b1 b2 b3
    refine f_Tape_append_3 ⟨fun y => by omega, fun _ => ?_⟩
    rw [h1.1, b1]
    have hsg : -128 ≤ sg (bt x s) ∧ sg (bt x s) ≤ 127 := by
      unfold sg
      split <;> omega
    refine ⟨fun y => by omega, fun _ => ⟨by omega, by omega, hsg, am_RI (by omega) (by omega), am_RI (by omega) (by omega), kp _ (h1.push b3 hl1) ((Fr.rf.wr (by decide)).wr (by decide))⟩⟩
  refine f_Tape_append (step 24 tl tb m (by decide) h (by omega) (fun m1 h1 f1 => step 16 _ _ m1 (by decide) h1 (by omega) (fun m2 h2 f2 => step 8 _ _ m2 (by decide) h2 (by omega) (fun m3 h3 f3 => step 0 _ _ m3 (by decide) h3 (by omega) (fun m4 h4 f4 => ?_)))))
  exact f_Tape_append_3 ⟨fun _ => kpost m4 h4 (((f1.tr1 f2).tr1 f3).tr1 f4), fun y => absurd (by decide) y⟩
theorem r_lays {d : Nat} {P : am_M → Prop} {m : am_M} {tl : Nat} {tb : Nat → Nat} {x : Int} (hx : am_R x) (h : TapR m tl tb) (hl : tl + 4 ≤ 600) (kpost : ∀ m' : am_M, TapR m' (tl + 4) (tap tb tl x) → Fr [56, 6502] [] m m' → P m') : am_OkV (d + 1) 115 [.inr (.inr 55), .inl x] m P := by
  have hz : (Int32.ofInt x).toInt = x := am_to hx
  have step : ∀ (s tl : Nat) (tb : Nat → Nat) (m1 : am_M), (s = 24 ∨ s = 16 ∨ s = 8 ∨ s = 0) → TapR m1 tl tb → tl < 600 → (∀ m2 : am_M, TapR m2 (tl + 1) (psh tb tl (bt x s)) → Fr [56, 6502] [] m1 m2 → am_GV (d + 1) 115 P 3 [(0, .inr (.inr 55)), (1, .inl x), (2, .inl ((s : Int) + -8))] [] m2) → am_GV (d + 1) 115 P 3 [(0, .inr (.inr 55)), (1, .inl x), (2, .inl s)] [] m1 := by
    intro s tl tb m1 hs h1 hl1 kp
    obtain ⟨b1, b2, b3⟩ := bt_spec (Int32.ofInt x) s hs
    rw [hz] at b1 b2 b3
    refine f_M_lays_3 ⟨fun y => by omega, fun _ => ?_⟩
    rw [h1.1, b2]
    refine ⟨by omega, by omega, am_RI (by omega) (by omega), am_RI (by omega) (by omega), kp _ (h1.push b3 hl1) ((Fr.rf.wr (by decide)).wr (by decide))⟩
  refine f_M_lays (step 24 tl tb m (by decide) h (by omega) (fun m1 h1 f1 => step 16 _ _ m1 (by decide) h1 (by omega) (fun m2 h2 f2 => step 8 _ _ m2 (by decide) h2 (by omega) (fun m3 h3 f3 => step 0 _ _ m3 (by decide) h3 (by omega) (fun m4 h4 f4 => ?_)))))
  exact f_M_lays_3 ⟨fun _ => kpost m4 h4 (((f1.tr1 f2).tr1 f3).tr1 f4), fun y => absurd (by decide) y⟩
def a_feed (tl : Nat) (tb : Nat → Nat) (x1 x2 x3 x4 x5 : Int) : Int × Nat × (Nat → Nat) := if tl ≤ 580 then ((tl + 20 : Nat), tl + 20, tap (tap (tap (tap (tap tb tl x1) (tl + 4) x2) (tl + 8) x3) (tl + 12) x4) (tl + 16) x5) else (-1, tl, tb)
theorem c_feed {d : Nat} {P : Int → am_M → Prop} {m : am_M} {tl : Nat} {tb : Nat → Nat} {x1 x2 x3 x4 x5 : Int} (h1 : am_R x1) (h2 : am_R x2) (h3 : am_R x3) (h4 : am_R x4) (h5 : am_R x5) (h : TapC m tl tb) (kpost : ∀ m' : am_M, TapC m' (a_feed tl tb x1 x2 x3 x4 x5).2.1 (a_feed tl tb x1 x2 x3 x4 x5).2.2 → Fr [2, 1101] [] m m' → P (a_feed tl tb x1 x2 x3 x4 x5).1 m') : am_OkI (d + 2) 75 [.inr (.inr 0), .inl x1, .inl x2, .inl x3, .inl x4, .inl x5] m P := by
  unfold a_feed at kpost
  refine f_T_feed ?_
  rw [h.1]
  refine ⟨fun hh => ?_, fun hh => ?_⟩
  · rw [if_pos (by omega)] at kpost
    refine c_append h1 h (by omega) (fun m1 t1 f1 => c_append h2 t1 (by omega) (fun m2 t2 f2 => c_append h3 t2 (by omega) (fun m3 t3 f3 => c_append h4 t3 (by omega) (fun m4 t4 f4 => c_append h5 t4 (by omega) (fun m5 t5 f5 => ?_)))))
    rw [t5.1]
    exact kpost m5 t5 ((((f1.tr1 f2).tr1 f3).tr1 f4).tr1 f5)
  · rw [if_neg (by omega)] at kpost
    exact kpost m h Fr.rf
theorem r_feed {d : Nat} {P : Int → am_M → Prop} {m : am_M} {tl : Nat} {tb : Nat → Nat} {x1 x2 x3 x4 x5 : Int} (h1 : am_R x1) (h2 : am_R x2) (h3 : am_R x3) (h4 : am_R x4) (h5 : am_R x5) (h : TapR m tl tb) (kpost : ∀ m' : am_M, TapR m' (a_feed tl tb x1 x2 x3 x4 x5).2.1 (a_feed tl tb x1 x2 x3 x4 x5).2.2 → Fr [56, 6502, 6500] [] m m' → P (a_feed tl tb x1 x2 x3 x4 x5).1 m') : am_OkI (d + 2) 116 [.inr (.inr 55), .inl x1, .inl x2, .inl x3, .inl x4, .inl x5] m P := by
  unfold a_feed at kpost
  have hl := h.2.1
  have hf0 : Fr [56, 6502, 6500] [] m (am_wr m 6500 0 0) := Fr.rf.wr (by decide)
  have hf00 : Fr [6500] [] m (am_wr m 6500 0 0) := Fr.rf.wr (by decide)
  have h0 := h.fr hf00 (by decide)
  refine f_M_feed ?_
  rw [h.1]
  refine ⟨am_RI (by omega) (by omega), fun hh => ?_, fun hh => ?_⟩
  · rw [if_pos (by omega)] at kpost
    refine r_lays h1 h0 (by omega) (fun m1 t1 f1 => r_lays h2 t1 (by omega) (fun m2 t2 f2 => r_lays h3 t2 (by omega) (fun m3 t3 f3 => r_lays h4 t3 (by omega) (fun m4 t4 f4 => r_lays h5 t4 (by omega) (fun m5 t5 f5 => ?_)))))
    rw [t5.1]
    exact kpost m5 t5 (hf0.tr1 (((((f1.tr1 f2).tr1 f3).tr1 f4).tr1 f5).mono (by decide) (by decide)))
  · rw [if_neg (by omega)] at kpost
    exact kpost _ h0 hf0
def a_end (tl : Nat) (z : Int) : Int × Nat := if 0 ≤ z ∧ z ≤ tl then (1, z.toNat) else (0, tl)
theorem c_end {d : Nat} {P : Int → am_M → Prop} {m : am_M} {tl : Nat} {tb : Nat → Nat} {z : Int} (h : TapC m tl tb) (kpost : ∀ m' : am_M, TapC m' (a_end tl z).2 tb → Fr [2, 1101] [] m m' → P (a_end tl z).1 m') : am_OkI (d + 1) 76 [.inr (.inr 0), .inl z] m P := by
  unfold a_end at kpost
  have hl := h.2.1
  refine f_T_end ?_
  rw [h.1]
  refine ⟨fun hh => ⟨Or.inl rfl, ?_⟩, fun hh => ⟨fun h2 => ⟨Or.inr rfl, ?_⟩, fun h2 => ⟨Or.inl rfl, ?_⟩⟩⟩
  · rw [if_neg (by omega)] at kpost; exact kpost m h Fr.rf
  · rw [if_pos (by omega)] at kpost
    refine kpost _ ⟨by rw [wr_at, if_pos rfl]; show z = ((z.toNat : Nat) : Int); omega, show z.toNat ≤ 600 by omega, fun i hi => ?_⟩ (Fr.rf.wr (by decide))
    rw [wr_ne _ _ _ (by decide)]
    exact h.2.2 i (by have hi : i < z.toNat := hi; omega)
  · rw [if_neg (by omega)] at kpost; exact kpost m h Fr.rf
theorem r_end {d : Nat} {P : Int → am_M → Prop} {m : am_M} {tl : Nat} {tb : Nat → Nat} {z : Int} (h : TapR m tl tb) (kpost : ∀ m' : am_M, TapR m' (a_end tl z).2 tb → Fr [56, 6502, 6500] [] m m' → P (a_end tl z).1 m') : am_OkI (d + 1) 117 [.inr (.inr 55), .inl z] m P := by
  unfold a_end at kpost
  have hl := h.2.1
  have hf0 : Fr [56, 6502, 6500] [] m (am_wr m 6500 0 0) := Fr.rf.wr (by decide)
  have hf00 : Fr [6500] [] m (am_wr m 6500 0 0) := Fr.rf.wr (by decide)
  have h0 := h.fr hf00 (by decide)
  refine f_M_end ?_
  rw [h.1]
  refine ⟨fun hh => ⟨Or.inl rfl, ?_⟩, fun hh => ⟨fun h2 => ⟨Or.inr rfl, ?_⟩, fun h2 => ⟨Or.inl rfl, ?_⟩⟩⟩
  · rw [if_neg (by omega)] at kpost; exact kpost _ h0 hf0
  · rw [if_pos (by omega)] at kpost
    refine kpost _ ⟨by rw [wr_at, if_pos rfl]; show z = ((z.toNat : Nat) : Int); omega, show z.toNat ≤ 600 by omega, fun i hi => ?_⟩ (hf0.wr (by decide))
    rw [wr_ne _ _ _ (by decide)]
    exact h0.2.2 i (by have hi : i < z.toNat := hi; omega)
  · rw [if_neg (by omega)] at kpost; exact kpost _ h0 hf0
def a_worth (n : Nat) (V : Nat → Nat) (z : Int) : Int := if 0 ≤ z ∧ z < n then V z.toNat else -1
theorem c_worth {d : Nat} {P : Int → am_M → Prop} {m : am_M} {n : Nat} {K : Nat → Int64} {V S : Nat → Nat} {z : Int} (hG : GSt m n K V S) (kpost : P (a_worth n V z) m) : am_OkI (d + 2) 79 [.inr (.inr 0), .inl z] m P := by
  unfold a_worth at kpost
  have hn := hG.2.1
  refine f_T_worth (c_has hG (fun h => ⟨fun _ => by rw [if_neg h] at kpost; exact kpost, fun y => absurd rfl y⟩) (fun h1 h2 => ⟨fun y => absurd y (by decide), fun _ => ⟨by omega, by omega, ?_⟩⟩))
  rw [if_pos ⟨h1, h2⟩] at kpost
  have := hG.2.2.2.1 z.toNat (by omega)
  rw [show ((z.toNat : Nat) : Int) = z by omega] at this
  rw [this]; exact kpost
theorem r_worth {d : Nat} {P : Int → am_M → Prop} {m : am_M} {n : Nat} {K : Nat → Int64} {V S : Nat → Nat} {z : Int} (hM : MSt m n K V S) (kpost : ∀ m' : am_M, Fr MF MF2 m m' → P (a_worth n V z) m') : am_OkI (d + 3) 144 [.inr (.inr 55), .inl z] m P := by
  have hf0 : Fr MF MF2 m (am_wr m 6500 0 0) := Fr.rf.wr (by decide)
  have hM0 := hM.fr hf0 (by decide)
  have kp := kpost _ hf0
  unfold a_worth at kp
  have hn := hM.2.1
  refine f_M_worth (r_isKey hM0 (fun h => ⟨fun _ => by rw [if_neg h] at kp; exact kp, fun y => absurd rfl y⟩) (fun h1 h2 => ⟨fun y => absurd y (by decide), fun _ => ⟨by omega, by omega, ?_⟩⟩))
  rw [if_pos ⟨h1, h2⟩] at kp
  have := hM0.2.2.2.1 z.toNat (by omega)
  rw [show ((z.toNat : Nat) : Int) = z by omega] at this
  rw [this]; exact kp
theorem r_key {d : Nat} {P : Int64 → am_M → Prop} {m : am_M} {n : Nat} {K : Nat → Int64} {V S : Nat → Nat} {z : Int} (hM : MSt m n K V S) (k0 : ∀ m' : am_M, ¬ (0 ≤ z ∧ z < n) → m'.1 6500 0 = 1 → Fr MF MF2 m m' → P 0 m') (k1 : ∀ m' : am_M, 0 ≤ z → z < n → m'.1 6500 0 = 0 → Fr MF MF2 m m' → P (K z.toNat) m') : am_OkL (d + 3) 143 [.inr (.inr 55), .inl z] m P := by
  have hf0 : Fr MF MF2 m (am_wr m 6500 0 0) := Fr.rf.wr (by decide)
  have hM0 := hM.fr hf0 (by decide)
  have hn := hM.2.1
  refine f_M_key (r_isKey hM0 (fun h => ⟨fun _ => f_M_refuse (k0 _ h (by rw [wr_at, if_pos rfl]) (hf0.wr (by decide))), fun y => absurd rfl y⟩) (fun h1 h2 => ⟨fun y => absurd y (by decide), fun _ => ⟨by omega, by omega, ?_⟩⟩))
  have := hM0.2.2.1 z.toNat (by omega)
  rw [show ((z.toNat : Nat) : Int) = z by omega] at this
  rw [this]
  exact k1 _ h1 h2 (by rw [wr_at, if_pos rfl]) hf0
