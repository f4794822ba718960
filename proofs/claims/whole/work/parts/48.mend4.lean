/-! MEND of the reference -/
def OutL (m : am_M) (l : List Nat) : Prop := ∀ i x : Nat, l[i]? = some x → m.1 73 i = x
theorem OutL.fr {m m' : am_M} {A : List Nat} (h : OutL m A) {l1 l2 : List Nat} (hf : Fr l1 l2 m m') (h1 : 73 ∉ l1) : OutL m' A := by
  unfold OutL at *
  rw [hf.1 _ h1]; exact h
theorem lwo_lout {m : am_M} {l : List Nat} (h : OutL m l) : ∀ {w : Nat}, w ≤ l.length → lwo (m.1 73) w = lout (l.take w)
  | 0, _ => rfl
  | w + 1, hw => by
    funext j
    obtain ⟨y, hc⟩ : ∃ y, l[w]? = some y := ⟨_, List.getElem?_eq_getElem (by omega)⟩
    have := h w _ hc
    show (lwo (m.1 73) w j && decide (m.1 73 (w : Int) ≠ (j : Int))) = _
    rw [this, lwo_lout h (by omega), List.take_succ, hc]
    unfold lout
    by_cases e : y = j
    · subst e; simp
    · have e2 : ¬ j = y := fun z => e z.symm
      have e3 : ¬ ((y : Nat) : Int) = (j : Int) := by omega
      simp [e2, e3]
abbrev foF : List Nat := [67, 68, 69, 70, 71, 72, 6530, 74, 6535, 6536, 6537, 75, 76, 73]
theorem r_findsOut {n : Nat} {K : Nat → Int64} {V S : Nat → Nat} {L : Nat} (hL3 : L ≤ 3) : ∀ (r e dep : Nat) (pre : List Nat) (k : Nat) (m : am_M) (P : Int → am_M → Prop), r ≤ e → dep + r = L → pre.length = dep → k ≤ n → MSt m n K V S → OutL m pre →
    (∀ m' : am_M, lexf (okl (TT K (S 4) (S 1) (S 6)) n (3 * S 1)) n r pre k = none → OutL m' pre → Fr foF [] m m' → P 0 m') →
    (∀ (m' : am_M) (l : List Nat), lexf (okl (TT K (S 4) (S 1) (S 6)) n (3 * S 1)) n r pre k = some l → OutL m' l → Fr foF [] m m' → P 1 m') → am_OkI (e + 5) 175 [.inr (.inr 55), .inl dep, .inl L, .inl k] m P
  | 0, e, dep, pre, k, m, P, hre, hdL, hpl, hkn, hM, hO, k0, k1 => by
    have hS := hM.2.2.2.2.2.1
    obtain ⟨s1, -, -, -, -, -⟩ := id hS
    unfold lexf at k0 k1
    have hT : TOK (TT K (S 4) (S 1) (S 6)) n (3 * S 1) := TT_ok _ _ _ _ (by omega)
    have hlw : lwo (m.1 73) L = lout pre := by
      rw [lwo_lout hO (by omega), List.take_of_length_le (by omega)]
    refine f_M_findsOut ⟨fun y => by omega, fun _ => ⟨by decide, by decide, by decide, by decide, ?_⟩⟩
    rw [show m.1 63 1 = S 1 from hM.set (by decide) (by decide), show m.1 63 4 = S 4 from hM.set (by decide) (by decide)]
    refine r_peelsAll hM ⟨by omega, by omega⟩ hL3 (fun m1 hp hf => ⟨Or.inl rfl, ?_⟩) (fun m1 hp hf => ⟨Or.inr rfl, ?_⟩)
    · rw [hlw] at hp
      refine k0 m1 ?_ (hO.fr hf (by decide)) (hf.mono (by decide) (by decide))
      rw [if_neg (fun y => hp ((pab_iff hT (by omega)).mp y))]
    · rw [hlw] at hp
      refine k1 m1 pre ?_ (hO.fr hf (by decide)) (hf.mono (by decide) (by decide))
      rw [if_pos ((pab_iff hT (by omega)).mpr hp)]
  | r + 1, 0, dep, pre, k, m, P, hre, hdL, hpl, hkn, hM, hO, k0, k1 => by omega
  | r + 1, e + 1, dep, pre, k, m, P, hre, hdL, hpl, hkn, hM, hO, k0, k1 => by
    have hn := hM.2.1
    unfold lexf at k0 k1
    have main : ∀ (s x : Nat) (m' : am_M), x + s = n → OutL m' pre → Fr foF [] m m' →
        (∀ m'' : am_M, ffirst (fun x => lexf (okl (TT K (S 4) (S 1) (S 6)) n (3 * S 1)) n r (pre ++ [x]) (x + 1)) s x = none → OutL m'' pre → Fr foF [] m m'' → P 0 m'') →
        (∀ (m'' : am_M) (l : List Nat), ffirst (fun x => lexf (okl (TT K (S 4) (S 1) (S 6)) n (3 * S 1)) n r (pre ++ [x]) (x + 1)) s x = some l → OutL m'' l → Fr foF [] m m'' → P 1 m'') → am_GI (e + 1 + 5) 175 P 27 [(0, .inr (.inr 55)), (1, .inl dep), (2, .inl L), (4, .inl x)] [] m' := by
      intro s
      induction s with
      | zero =>
        intro x m' hx hO' hf j0 j1
        refine f_M_findsOut_27 ?_
        rw [(hM.fr hf (by decide)).1]
        exact ⟨fun _ => ⟨Or.inl rfl, j0 m' rfl hO' hf⟩, fun y => absurd (by omega) y⟩
      | succ s ih =>
        intro x m' hx hO' hf j0 j1
        refine f_M_findsOut_27 ?_
        rw [(hM.fr hf (by decide)).1]
        refine ⟨fun y => by omega, fun _ => ⟨by omega, by omega, am_RI (by omega) (by omega), am_RI (by omega) (by omega), ?_⟩⟩
        have hf1 : Fr foF [] m (am_wr m' 73 (dep : Int) (x : Int)) := hf.wr (by decide)
        have hO1 : OutL (am_wr m' 73 (dep : Int) (x : Int)) (pre ++ [x]) := by
          intro i y hy
          rw [wr_at]
          by_cases e : i = dep
          · rw [if_pos (by omega)]
            subst e
            rw [List.getElem?_append_right (by omega)] at hy
            rw [show i - pre.length = 0 by omega] at hy
            simp at hy
            rw [hy]
          · have hi : i < pre.length := by
              have := (List.getElem?_eq_some_iff.mp hy).1
              rw [List.length_append] at this
              simp at this
              omega
            rw [if_neg (by omega)]
            rw [List.getElem?_append_left hi] at hy
            exact hO' i y hy
        refine r_findsOut hL3 r e (dep + 1) (pre ++ [x]) (x + 1) _ _ (by omega) (by omega) (by simp; omega) (by omega) (hM.fr hf1 (by decide)) hO1 (fun m2 hn2 hO2 hf2 => ⟨fun _ => ⟨am_RI (by omega) (by omega), ?_⟩, fun y => absurd rfl y⟩) (fun m2 l hs2 hO2 hf2 => ⟨fun y => absurd y (by decide), fun _ => ⟨Or.inr rfl, j1 m2 l ?_ hO2 (hf1.tr1 hf2)⟩⟩)
        · refine ih (x + 1) m2 (by omega) (fun i y hy => hO2 i y (by rw [List.getElem?_append_left (List.getElem?_eq_some_iff.mp hy).1]; exact hy)) (hf1.tr1 hf2) (fun m3 he => j0 m3 ?_) (fun m3 l he => j1 m3 l ?_)
          · rw [ffirst, hn2]; exact he
          · rw [ffirst, hn2]; exact he
        · rw [ffirst, hs2]
    exact f_M_findsOut ⟨fun _ => main (n - k) k m (by omega) hO Fr.rf k0 k1, fun y => absurd (by omega) y⟩
theorem r_mend {d : Nat} {P : Int → am_M → Prop} {m : am_M} {s : St} {z : Int} (hM : MS m s) (kpost : ∀ m' : am_M, Fr MF MF2 m m' → P (a_mend (pmd s) z) m') : am_OkI (d + 9) 176 [.inr (.inr 55), .inl z] m P := by
  have hf0 : Fr MF MF2 m (am_wr m 6500 0 0) := Fr.rf.wr (by decide)
  have main : ∀ (f x : Nat) (m' : am_M), x + f = 4 → Fr MF MF2 m m' → pmd s = pmend (okl (TT s.2.1 (s.2.2.2 4) (s.2.2.2 1) (s.2.2.2 6)) s.1 (3 * s.2.2.2 1)) s.1 f x → am_GI (d + 9) 176 P 7 [(0, .inr (.inr 55)), (1, .inl z), (2, .inl x)] [] m' := by
    intro f
    induction f with
    | zero =>
      intro x m' hx hf he
      have kp := kpost m' hf
      rw [he, pmend, a_mend] at kp
      exact f_M_mend_7 ⟨fun _ => kp, fun y => absurd (by omega) y⟩
    | succ f ih =>
      intro x m' hx hf he
      refine f_M_mend_7 ⟨fun y => by omega, fun _ => ?_⟩
      refine r_findsOut (by omega) x (d + 3) 0 [] 0 m' _ (by omega) (by omega) rfl (by omega) (hM.fr hf (by decide)) (fun i y hy => by simp at hy) (fun m1 hn1 _ hf1 => ⟨fun y => absurd rfl y, fun _ => ⟨am_RI (by omega) (by omega), ?_⟩⟩) (fun m1 l hs1 hO1 hf1 => ⟨fun _ => ?_, fun y => absurd (by decide) y⟩)
      · refine ih (x + 1) m1 (by omega) (hf.tr1 (hf1.mono (by decide) (by decide))) ?_
        rw [he, pmend, hn1]
      · have hll : l.length = x := by
          obtain ⟨rest, e1, e2, -, -⟩ := lexf_some hs1
          rw [e1]; simpa using e2
        have kp := kpost m1 (hf.tr1 (hf1.mono (by decide) (by decide)))
        rw [he, pmend, hs1] at kp
        unfold a_mend at kp
        simp only at kp
        refine ⟨fun y => ⟨am_RI (by omega) (by omega), r_isIn (fun h => ⟨fun _ => ?_, fun y => absurd rfl y⟩) (fun h1 h2 => ⟨fun y => absurd y (by decide), fun _ => ⟨by omega, by omega, ?_⟩⟩)⟩, fun y => ?_⟩
        · rw [if_neg y, if_neg (by omega)] at kp; exact kp
        · rw [if_neg y, if_pos (by omega)] at kp
          have hlt : z.toNat < l.length := by omega
          have e : l[z.toNat]? = some (l.getD z.toNat 0) := by
            rw [List.getD_eq_getElem?_getD, List.getElem?_eq_getElem hlt]; rfl
          have := hO1 z.toNat _ e
          rw [show ((z.toNat : Nat) : Int) = z by omega] at this
          rw [this]; exact kp
        · rw [if_pos (by omega), hll] at kp; exact kp
  exact f_M_mend (main 4 0 _ (by omega) hf0 rfl)
