/-! BUILD -/
def svOf (n : Nat) (K : Nat → Int64) (V S : Nat → Nat) (s : Nat) : Sv :=
  (fun i => if i = 0 then S 4 + s else if i = 1 then S 1 else if i = 2 then S 2 else if i = 3 then S 3 else if i = 4 then S 6 else if i = 5 then n else s + 1,
   pfl (TT K ((S 4 : Int) + s) (S 1) (S 6)) (gPr K ((S 4 : Int) + s) (S 2)) (pres (TT K ((S 4 : Int) + s) (S 1) (S 6)) n (3 * S 1) (S 5) (fun _ => true)).2,
   pfl (TT K ((S 4 : Int) + s) (S 1) (S 6)) (gV V) (pres (TT K ((S 4 : Int) + s) (S 1) (S 6)) n (3 * S 1) (S 5) (fun _ => true)).2)
theorem svOf_ok {n : Nat} {K : Nat → Int64} {V S : Nat → Nat} {s : Nat} (h : SOK S) (hs : s < 99) : SvOK (svOf n K V S s) := by
  obtain ⟨s1, s2, s3, s4, s5, s6⟩ := h
  have hT := TT_ok K ((S 4 : Int) + s) (c := S 1) (S 6) n (by omega)
  have hc := pok_lt (pchain_ok (pres_spec (S 5) (fun _ => true) hT (show 3 * S 1 ≤ 96 by omega)).1)
  refine ⟨show S 4 + s ≤ _ by omega, show 1 ≤ S 1 ∧ S 1 ≤ 32 from s1, show 1 ≤ S 2 ∧ S 2 ≤ 16 from s2, show S 3 ≤ 8 from s3, show S 6 ≤ 2 from s6, fun x hx => ?_⟩
  have hx : 3 * S 1 ≤ x := hx
  exact ⟨pfl_zero (fun p hp e => by have := hc p hp; omega), pfl_zero (fun p hp e => by have := hc p hp; omega)⟩
def pbuild (n : Nat) (K : Nat → Int64) (S : Nat → Nat) : Nat → Nat → Option Nat
  | 0, _ => none
  | r + 1, s => if pab (TT K ((S 4 : Int) + s) (S 1) (S 6)) n (3 * S 1) (fun _ => true) = true then some s else pbuild n K S r (s + 1)
theorem pbuild_succ {n : Nat} {K : Nat → Int64} {S : Nat → Nat} {r s : Nat} : pbuild n K S (r + 1) s = if pab (TT K ((S 4 : Int) + s) (S 1) (S 6)) n (3 * S 1) (fun _ => true) = true then some s else pbuild n K S r (s + 1) := rfl
def a_bld (n : Nat) (K : Nat → Int64) (S : Nat → Nat) (z : Int) : Option Nat := if 1 ≤ z ∧ z ≤ 99 then pbuild n K S z.toNat 0 else none
def a_build (n : Nat) (K : Nat → Int64) (S : Nat → Nat) (z : Int) : Int := if 1 ≤ z ∧ z ≤ 99 then (match pbuild n K S z.toNat 0 with | none => -2 | some s => s + 1) else -1
theorem c_build {d : Nat} {P : Int → am_M → Prop} {m : am_M} {n : Nat} {K : Nat → Int64} {V S : Nat → Nat} {z : Int} (hG : GSt m n K V S)
    (kn : ∀ m' : am_M, a_bld n K S z = none → Fr CF CF2 m m' → P (a_build n K S z) m')
    (ks : ∀ (m' : am_M) (s : Nat), a_bld n K S z = some s → CS0 m' (some (svOf n K V S s)) → Fr (CF ++ [43, 44, 45, 5203]) CF2 m m' → P (a_build n K S z) m') : am_OkI (d + 7) 97 [.inr (.inr 0), .inl z] m P := by
  obtain ⟨s1, s2, s3, s4, s5, s6⟩ := hG.2.2.2.2.2.1
  have hn := hG.2.1
  unfold a_bld a_build at *
  have main : ∀ (r s : Nat) (m1 : am_M), ((s + r : Nat) : Int) = z → 1 ≤ z → z ≤ 99 → Fr CF CF2 m m1 → pbuild n K S z.toNat 0 = pbuild n K S r s → am_GI (d + 7) 97 P 15 [(0, .inr (.inr 0)), (1, .inl z), (2, .inl s)] [] m1 := by
    intro r
    induction r with
    | zero =>
      intro s m1 hs h1 h2 hf he
      have kn := kn m1 (by rw [if_pos ⟨h1, h2⟩, he]; rfl) hf
      rw [if_pos ⟨h1, h2⟩, he] at kn
      exact f_T_build_15 ⟨fun _ => kn, fun y => absurd (by omega) y⟩
    | succ r ih =>
      intro s m1 hs h1 h2 hf he
      have hG1 := hG.fr hf (by decide)
      refine f_T_build_15 ⟨fun y => by omega, fun _ => ⟨by decide, by decide, ?_⟩⟩
      rw [show m1.1 7 4 = S 4 from hG1.set (by decide) (by decide), show m1.1 7 1 = S 1 from hG1.set (by decide) (by decide)]
      refine ⟨am_RI (by omega) (by omega), by decide, by decide, ?_⟩
      have hT := TT_ok K ((S 4 : Int) + s) (c := S 1) (S 6) n (by omega)
      have hi := pab_iff (left := fun _ => true) hT (show 3 * S 1 ≤ 96 by omega)
      rw [pbuild_succ] at he
      refine c_allPeel hG1 ⟨by omega, by omega⟩ (fun m2 hp hf2 => ⟨fun _ => ⟨am_RI (by omega) (by omega), ?_⟩, fun y => absurd rfl y⟩) (fun m2 hp hL hpr hO hf2 => ⟨fun y => absurd y (by decide), fun _ => ⟨am_RI (by omega) (by omega), ?_⟩⟩)
      · rw [if_neg (fun y => hp (hi.mp y))] at he
        exact ih (s + 1) m2 (by omega) h1 h2 (hf.tr1 hf2) he
      · rw [if_pos (hi.mpr hp)] at he
        have hff : Fr CF CF2 m m2 := hf.tr1 hf2
        have hG2 := hG.fr hff (by decide)
        refine f_Sieve_describe ⟨by decide, by decide, by decide, by decide, by decide, by decide, by decide, by decide, by decide, by decide, by decide, by decide, by decide, by decide, by decide, by decide, by decide, by decide, by decide, by decide, by decide, by decide, Or.inr rfl, ?_⟩
        rw [show m2.1 7 1 = S 1 from hG2.set (by decide) (by decide), show m2.1 7 2 = S 2 from hG2.set (by decide) (by decide), show m2.1 7 3 = S 3 from hG2.set (by decide) (by decide), show m2.1 7 6 = S 6 from hG2.set (by decide) (by decide), hG2.1]
        generalize hm3 : am_wr (am_wr (am_wr (am_wr (am_wr (am_wr (am_wr (am_wr m2 43 (0 : Int) ((S 4 : Int) + s)) 43 (1 : Int) (S 1)) 43 (2 : Int) (S 2)) 43 (3 : Int) (S 3)) 43 (4 : Int) (S 6)) 43 (5 : Int) n) 43 (6 : Int) ((s : Int) + 1)) 5203 (0 : Int) (1 : Int) = m3
        have hf3 : Fr [43, 5203] [] m2 m3 := by
          rw [← hm3]
          exact (((((((Fr.rf.wr (by decide)).wr (by decide)).wr (by decide)).wr (by decide)).wr (by decide)).wr (by decide)).wr (by decide)).wr (by decide)
        have hst : m3.1 5203 0 = 1 := by rw [← hm3, wr_at, if_pos rfl]
        have hfa : ∀ i : Nat, i < 7 → m3.1 43 i = (svOf n K V S s).1 i := by
          intro i hi7
          rw [← hm3, wr_ne _ _ _ (by decide)]
          simp only [wr_at]
          show _ = ((if i = 0 then S 4 + s else if i = 1 then S 1 else if i = 2 then S 2 else if i = 3 then S 3 else if i = 4 then S 6 else if i = 5 then n else s + 1 : Nat) : Int)
          have : i = 0 ∨ i = 1 ∨ i = 2 ∨ i = 3 ∨ i = 4 ∨ i = 5 ∨ i = 6 := by omega
          rcases this with e | e | e | e | e | e | e <;> subst e <;> simp
        have hol := out_le (w := S 5) hT (show 3 * S 1 ≤ 96 by omega)
        have hok := pchain_ok (pres_spec (S 5) (fun _ => true) hT (show 3 * S 1 ≤ 96 by omega)).1
        have hpow : (2 : Nat) ^ S 3 ≤ 256 := Nat.pow_le_pow_right (n := 2) (by decide) s3
        refine c_fillBack_44 (g := gPr K ((S 4 : Int) + s) (S 2)) (hL.fr hf3 (by decide)) (hO.fr hf3 (by decide)) hol hok (fun k hk => ?_) (fun m4 hF4 hf4 => ?_)
        · rw [hf3.1 _ (by decide), hpr k hk, gPr_to]
        · refine c_fillBack_45 (g := gV V) ((hL.fr hf3 (by decide)).fr hf4 (by decide)) ((hO.fr hf3 (by decide)).fr hf4 (by decide)) hol hok (fun k hk => ?_) (fun m5 hF5 hf5 => ⟨am_RI (by omega) (by omega), ?_⟩)
          · rw [hf4.1 _ (by decide), hf3.1 _ (by decide), hG2.2.2.2.1 k hk, gV_to]
            have := hG.2.2.2.2.2.2 k hk
            omega
          · have kp := ks m5 s (by rw [if_pos ⟨h1, h2⟩, he]) ⟨?_, svOf_ok hG.2.2.2.2.2.1 (by omega), fun i hi => ?_, fun x hx => ?_, hF5⟩ ?_
            · rw [if_pos ⟨h1, h2⟩, he] at kp
              exact kp
            · rw [hf5.1 _ (by decide), hf4.1 _ (by decide)]; exact hst
            · rw [hf5.1 _ (by decide), hf4.1 _ (by decide)]; exact hfa i hi
            · rw [hf5.1 _ (by decide)]; exact hF4 x hx
            · refine ((hff.tr hf3 ?_ ?_ ?_ ?_ : Fr (CF ++ [43, 44, 45, 5203]) CF2 m m3).tr hf4 (k1 := CF ++ [43, 44, 45, 5203]) (k2 := CF2) ?_ ?_ ?_ ?_).tr hf5 ?_ ?_ ?_ ?_ <;> decide
  refine f_T_build ⟨fun h => ?_, fun h => ⟨fun h2 => main z.toNat 0 m (by omega) (by omega) h2 Fr.rf rfl, fun h2 => ?_⟩⟩
  · have kn := kn m (by rw [if_neg (by omega)]) Fr.rf
    rw [if_neg (by omega)] at kn; exact kn
  · have kn := kn m (by rw [if_neg (by omega)]) Fr.rf
    rw [if_neg (by omega)] at kn; exact kn
theorem r_build {d : Nat} {P : Int → am_M → Prop} {m : am_M} {n : Nat} {K : Nat → Int64} {V S : Nat → Nat} {z : Int} (hM : MSt m n K V S)
    (kn : ∀ m' : am_M, a_bld n K S z = none → Fr MF MF2 m m' → P (a_build n K S z) m')
    (ks : ∀ (m' : am_M) (s : Nat), a_bld n K S z = some s → RSv m' 0 (some (svOf n K V S s)) → (∀ b o, 0 < b → RSv m b o → RSv m' b o) → Fr (MF ++ [83, 84, 85, 86]) MF2 m m' → P (a_build n K S z) m') : am_OkI (d + 4) 181 [.inr (.inr 55), .inl z] m P := by
  obtain ⟨s1, s2, s3, s4, s5, s6⟩ := hM.2.2.2.2.2.1
  have hn := hM.2.1
  have hf0 : Fr MF MF2 m (am_wr m 6500 0 0) := Fr.rf.wr (by decide)
  unfold a_bld a_build at *
  have main : ∀ (r s : Nat) (m1 : am_M), ((s + r : Nat) : Int) = z → 1 ≤ z → z ≤ 99 → Fr MF MF2 m m1 → pbuild n K S z.toNat 0 = pbuild n K S r s → am_GI (d + 4) 181 P 19 [(0, .inr (.inr 55)), (1, .inl z), (2, .inl s)] [] m1 := by
    intro r
    induction r with
    | zero =>
      intro s m1 hs h1 h2 hf he
      have kn := kn m1 (by rw [if_pos ⟨h1, h2⟩, he]; rfl) hf
      rw [if_pos ⟨h1, h2⟩, he] at kn
      exact f_M_build_19 ⟨fun _ => kn, fun y => absurd (by omega) y⟩
    | succ r ih =>
      intro s m1 hs h1 h2 hf he
      have hM1 := hM.fr hf (by decide)
      refine f_M_build_19 ⟨fun y => by omega, fun _ => ⟨by decide, by decide, ?_⟩⟩
      rw [show m1.1 63 4 = S 4 from hM1.set (by decide) (by decide), show m1.1 63 1 = S 1 from hM1.set (by decide) (by decide)]
      refine ⟨am_RI (by omega) (by omega), by decide, by decide, ?_⟩
      have hT := TT_ok K ((S 4 : Int) + s) (c := S 1) (S 6) n (by omega)
      have hU := UT_ok K ((S 4 : Int) + s) (S 1) (S 6) n
      have hi := pab_iff (left := fun _ => true) hT (show 3 * S 1 ≤ 96 by omega)
      rw [pbuild_succ] at he
      refine r_nets (wo := 0) hM1 ⟨by omega, by omega⟩ (by omega) (fun m2 hC hD hf2 => ⟨by decide, by decide, by decide, by decide, ?_⟩)
      have hff : Fr MF MF2 m m2 := hf.tr hf2 (by decide) (by decide) (by decide) (by decide)
      have hM2 := hM.fr hff (by decide)
      rw [show m2.1 63 1 = S 1 from hM2.set (by decide) (by decide), show m2.1 63 5 = S 5 from hM2.set (by decide) (by decide)]
      refine r_peelsBy hn (by omega) s5 hT hU hC hD (fun m3 hC3 hD3 hO3 hf3 => ?_)
      have hff3 : Fr MF MF2 m m3 := hff.tr hf3 (by decide) (by decide) (by decide) (by decide)
      have hM3 := hM.fr hff3 (by decide)
      have hpi := pall_iff (S 5) (fun _ => true) hT (show 3 * S 1 ≤ 96 by omega)
      rw [hD3.1]
      refine ⟨fun h => ?_, fun h => ⟨am_RI (by omega) (by omega), ?_⟩⟩
      · have hp := hpi.mp (show pleft (pres (TT K ((S 4 : Int) + s) (S 1) (S 6)) n (3 * S 1) (S 5) (fun _ => true)).1 n = 0 by
          have h : ((pleft (pres (TT K ((S 4 : Int) + s) (S 1) (S 6)) n (3 * S 1) (S 5) (fun _ => true)).1 n : Nat) : Int) ≤ 0 := h
          omega)
        rw [if_pos (hi.mpr hp)] at he
        have hol := out_le (w := S 5) hT (show 3 * S 1 ≤ 96 by omega)
        have hok := pchain_ok (pres_spec (S 5) (fun _ => true) hT (show 3 * S 1 ≤ 96 by omega)).1
        have hpow : (2 : Nat) ^ S 3 ≤ 256 := Nat.pow_le_pow_right (n := 2) (by decide) s3
        refine r_fills (V := V) hn (by omega) hT hU hC3 hO3 hol hok hM3.2.2.1 hM3.2.2.2.1 (fun k hk => ?_) (hM3.set (i := 2) (by decide) (by decide)) s2.2 (fun m4 hP4 hV4 hf4 => ?_)
        · have := hM.2.2.2.2.2.2 k hk
          omega
        have hff4 : Fr MF MF2 m m4 := hff3.tr hf4 (by decide) (by decide) (by decide) (by decide)
        have hM4 := hM.fr hff4 (by decide)
        rw [show m4.1 63 1 = S 1 from hM4.set (by decide) (by decide), show m4.1 63 2 = S 2 from hM4.set (by decide) (by decide), show m4.1 63 3 = S 3 from hM4.set (by decide) (by decide), show m4.1 63 6 = S 6 from hM4.set (by decide) (by decide), hM4.1]
        refine ⟨by decide, by decide, by decide, by decide, by decide, by decide, by decide, by decide, by decide, by decide, by decide, by decide, by decide, by decide, by decide, by decide, by decide, by decide, by decide, by decide, am_RI (by omega) (by omega), by decide, by decide, ?_⟩
        generalize hm5 : am_wr (am_wr (am_wr (am_wr (am_wr (am_wr (am_wr m4 83 (0 : Int) ((S 4 : Int) + s)) 83 (1 : Int) (S 1)) 83 (2 : Int) (S 2)) 83 (3 : Int) (S 3)) 83 (4 : Int) (S 6)) 83 (5 : Int) n) 83 (6 : Int) ((s : Int) + 1) = m5
        have hf5 : Fr [83] [] m4 m5 := by
          rw [← hm5]
          exact ((((((Fr.rf.wr (by decide)).wr (by decide)).wr (by decide)).wr (by decide)).wr (by decide)).wr (by decide)).wr (by decide)
        have hfa : ∀ i : Nat, i < 7 → m5.1 83 i = (svOf n K V S s).1 i := by
          intro i hi7
          rw [← hm5]
          simp only [wr_at]
          show _ = ((if i = 0 then S 4 + s else if i = 1 then S 1 else if i = 2 then S 2 else if i = 3 then S 3 else if i = 4 then S 6 else if i = 5 then n else s + 1 : Nat) : Int)
          have : i = 0 ∨ i = 1 ∨ i = 2 ∨ i = 3 ∨ i = 4 ∨ i = 5 ∨ i = 6 := by omega
          rcases this with e | e | e | e | e | e | e <;> subst e <;> simp
        have hfb : ∀ w : Int, 7 ≤ w → m5.1 83 w = m.1 83 w := by
          intro w hw
          rw [← hm5]
          simp only [wr_at]
          rw [if_neg (by omega), if_neg (by omega), if_neg (by omega), if_neg (by omega), if_neg (by omega), if_neg (by omega), if_neg (by omega), hff4.1 _ (by decide)]
        -- the cells
        have l157 : ∀ (t y : Nat) (m6 : am_M), y + t = 96 → Fr [84, 85] [] m5 m6 → (∀ w : Nat, w < y → m6.1 84 w = ((svOf n K V S s).2.1 w).toInt) → (∀ w : Nat, w < y → m6.1 85 w = ((svOf n K V S s).2.2 w).toInt) → (∀ w : Int, 96 ≤ w → m6.1 84 w = m.1 84 w ∧ m6.1 85 w = m.1 85 w) → am_GI (d + 4) 181 P 157 [(0, .inr (.inr 55)), (2, .inl s), (4, .inl y)] [] m6 := by
          intro t
          induction t with
          | zero =>
            intro y m6 hy hf6 hp6 hv6 hr6
            refine f_M_build_157 ⟨fun _ => ⟨by decide, by decide, Or.inr rfl, am_RI (by omega) (by omega), ?_⟩, fun y => absurd (by omega) y⟩
            have hf6w : Fr [86] [] m6 (am_wr m6 86 0 1) := Fr.rf.wr (by decide)
            have kp := ks (am_wr m6 86 0 1) s (by rw [if_pos ⟨h1, h2⟩, he]) ⟨by rw [wr_at, if_pos (by omega)], svOf_ok hM.2.2.2.2.2.1 (by omega), fun i hi => ?_, fun x hx => ⟨?_, ?_⟩⟩ (fun b o hb hR => ?_) ?_
            · rw [if_pos ⟨h1, h2⟩, he] at kp
              exact kp
            · rw [wr_ne _ _ _ (by decide), hf6.1 _ (by decide), show 7 * ((0 : Nat) : Int) + ((i : Nat) : Int) = i by omega]
              exact hfa i hi
            · rw [wr_ne _ _ _ (by decide), show 96 * ((0 : Nat) : Int) + ((x : Nat) : Int) = x by omega]
              exact hp6 x (by omega)
            · rw [wr_ne _ _ _ (by decide), show 96 * ((0 : Nat) : Int) + ((x : Nat) : Int) = x by omega]
              exact hv6 x (by omega)
            · have hit : (am_wr m6 86 0 1).1 86 b = m.1 86 b := by
                rw [wr_at, if_neg (by omega), hf6.1 _ (by decide), hf5.1 _ (by decide), hff4.1 _ (by decide)]
              cases o with
              | none => unfold RSv at *; rw [hit]; exact hR
              | some q =>
                obtain ⟨q1, q2, q3, q4⟩ := hR
                refine ⟨by rw [hit]; exact q1, q2, fun i hi => ?_, fun x hx => ?_⟩
                · rw [wr_ne _ _ _ (by decide), hf6.1 _ (by decide), hfb _ (by omega)]; exact q3 i hi
                · rw [wr_ne _ _ _ (by decide), wr_ne _ _ _ (by decide), (hr6 _ (by omega)).1, (hr6 _ (by omega)).2]; exact q4 x hx
            · refine ((hff4.tr hf5 ?_ ?_ ?_ ?_ : Fr (MF ++ [83, 84, 85, 86]) MF2 m m5).tr hf6 (k1 := MF ++ [83, 84, 85, 86]) (k2 := MF2) ?_ ?_ ?_ ?_).tr hf6w ?_ ?_ ?_ ?_ <;> decide
          | succ t iht =>
            intro y m6 hy hf6 hp6 hv6 hr6
            refine f_M_build_157 ⟨fun y => by omega, fun _ => ⟨by omega, by omega, by omega, by omega, by omega, by omega, by omega, by omega, am_RI (by omega) (by omega), ?_⟩⟩
            have e80 : m6.1 80 y = ((svOf n K V S s).2.1 y).toInt := by rw [hf6.1 _ (by decide), hf5.1 _ (by decide)]; exact hP4 y (by omega)
            have e81 : m6.1 81 y = ((svOf n K V S s).2.2 y).toInt := by rw [hf6.1 _ (by decide), hf5.1 _ (by decide)]; exact hV4 y (by omega)
            rw [e80, e81]
            refine iht (y + 1) _ (by omega) ((hf6.wr (by decide)).wr (by decide)) (fun w hw => ?_) (fun w hw => ?_) (fun w hw => ⟨?_, ?_⟩)
            · rw [wr_ne _ _ _ (by decide), wr_at]
              by_cases e : w = y
              · rw [if_pos (by omega), e]
              · rw [if_neg (by omega)]; exact hp6 w (by omega)
            · rw [wr_at]
              by_cases e : w = y
              · rw [if_pos (by omega), e]
              · rw [if_neg (by omega), wr_ne _ _ _ (by decide)]; exact hv6 w (by omega)
            · rw [wr_ne _ _ _ (by decide), wr_at, if_neg (by omega)]; exact (hr6 w hw).1
            · rw [wr_at, if_neg (by omega), wr_ne _ _ _ (by decide)]; exact (hr6 w hw).2
        exact l157 96 0 m5 (by omega) Fr.rf (fun w hw => absurd hw (by omega)) (fun w hw => absurd hw (by omega)) (fun w hw => by rw [hf5.1 _ (by decide), hf5.1 _ (by decide), hff4.1 _ (by decide), hff4.1 _ (by decide)]; exact ⟨rfl, rfl⟩)
      · have hp : ¬ pall (TT K ((S 4 : Int) + s) (S 1) (S 6)) n (3 * S 1) (fun _ => true) := fun hh => h (by
          have := hpi.mpr hh
          show ((pleft (pres (TT K ((S 4 : Int) + s) (S 1) (S 6)) n (3 * S 1) (S 5) (fun _ => true)).1 n : Nat) : Int) ≤ 0
          omega)
        rw [if_neg (fun y => hp (hi.mp y))] at he
        exact ih (s + 1) m3 (by omega) h1 h2 hff3 he
  refine f_M_build (r_isIn (fun h => ⟨fun y => absurd rfl y, fun _ => ?_⟩) (fun h1 h2 => ⟨fun _ => main z.toNat 0 _ (by omega) h1 h2 hf0 rfl, fun y => absurd (by decide) y⟩))
  have kn := kn _ (by rw [if_neg (by omega)]) hf0
  rw [if_neg (by omega)] at kn; exact kn
