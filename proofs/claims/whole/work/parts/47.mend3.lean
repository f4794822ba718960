/-! MEND: the search, both sides -/
abbrev mdF : List Nat := [25, 26, 24, 3007, 40, 4804, 41, 4806, 39]
theorem c_choose {T : Nat → List Nat} {n N L : Nat} (hL3 : L ≤ 3) : ∀ (r e dep : Nat) (left : Nat → Bool) (pre tr : List Nat) (k : Nat) (m : am_M) (P : Int → am_M → Prop), r ≤ e → dep + r = L → pre.length = dep → k ≤ n → RowL m T n N → RowD m T n left → pstable T n N left → TrM m tr → tr.length + pleft left n ≤ n → ChM m pre →
    (∀ m' : am_M, chf T n N r left pre k = none → RowL m' T n N → RowD m' T n left → TrM m' tr → ChM m' pre → Fr mdF [] m m' → P 0 m') →
    (∀ (m' : am_M) (l : List Nat), chf T n N r left pre k = some l → ChM m' l → Fr mdF [] m m' → P 1 m') → am_OkI (e + 5) 27 [.inr (.inr 38), .inr (.inr 20), .inl dep, .inl L, .inl k] m P
  | 0, e, dep, left, pre, tr, k, m, P, hre, hdL, hpl, hkn, hL, hD, hs, hTr, htr, hC, k0, k1 =>
    f_Mender_choose ⟨fun _ => ⟨Or.inl rfl, k0 m rfl hL hD hTr hC Fr.rf⟩, fun y => absurd (by omega) y⟩
  | r + 1, 0, dep, left, pre, tr, k, m, P, hre, hdL, hpl, hkn, hL, hD, hs, hTr, htr, hC, k0, k1 => by omega
  | r + 1, d + 1, dep, left, pre, tr, k, m, P, hre, hdL, hpl, hkn, hL, hD, hs, hTr, htr, hC, k0, k1 => by
    have hn : n ≤ 48 := hL.2.2.1
    have hN : N ≤ 96 := hL.2.2.2.1
    have hT : TOK T n N := hL.2.2.2.2.1
    have hpl2 : pleft left n ≤ n := pleft_le
    have htl : ptch T left n N ≤ N := ptch_le
    unfold chf at k0 k1
    refine f_Mender_choose ⟨fun y => by omega, fun _ => c_countTouched hL hD ?_⟩
    rw [hD.1]
    refine ⟨am_RI (by omega) (by omega), am_RI (by omega) (by omega), fun h => ?_, fun h => ⟨Or.inl rfl, k0 m (by rw [if_pos (by omega)]) hL hD hTr hC Fr.rf⟩⟩
    rw [if_neg (by omega)] at k0
    have k1 : ∀ (m' : am_M) (l : List Nat), ffirst (fun x => if left x = true then (if pleft (cr T n N (pset left x false)) n = 0 then some (pre ++ [x]) else chf T n N r (cr T n N (pset left x false)) (pre ++ [x]) (x + 1)) else none) (n - k) k = some l → ChM m' l → Fr mdF [] m m' → P 1 m' := fun m' l he => k1 m' l (by rw [if_neg (by omega)]; exact he)
    have main : ∀ (s x : Nat) (m' : am_M), x + s = n → RowL m' T n N → RowD m' T n left → TrM m' tr → ChM m' pre → Fr mdF [] m m' →
        (∀ m'' : am_M, ffirst (fun x => if left x = true then (if pleft (cr T n N (pset left x false)) n = 0 then some (pre ++ [x]) else chf T n N r (cr T n N (pset left x false)) (pre ++ [x]) (x + 1)) else none) s x = none → RowL m'' T n N → RowD m'' T n left → TrM m'' tr → ChM m'' pre → Fr mdF [] m m'' → P 0 m'') →
        (∀ (m'' : am_M) (l : List Nat), ffirst (fun x => if left x = true then (if pleft (cr T n N (pset left x false)) n = 0 then some (pre ++ [x]) else chf T n N r (cr T n N (pset left x false)) (pre ++ [x]) (x + 1)) else none) s x = some l → ChM m'' l → Fr mdF [] m m'' → P 1 m'') → am_GI (d + 1 + 5) 27 P 26 [(0, .inr (.inr 38)), (1, .inr (.inr 20)), (2, .inl dep), (3, .inl L), (5, .inl x)] [] m' := by
      intro s
      induction s with
      | zero =>
        intro x m' hx hL' hD' hTr' hC' hf j0 j1
        refine f_Mender_choose_26 ?_
        rw [hL'.1]
        exact ⟨fun _ => ⟨Or.inl rfl, j0 m' rfl hL' hD' hTr' hC' hf⟩, fun y => absurd (by omega) y⟩
      | succ s ih =>
        intro x m' hx hL' hD' hTr' hC' hf j0 j1
        refine f_Mender_choose_26 ?_
        rw [hL'.1, hD'.2.1 x (by omega)]
        refine ⟨fun y => by omega, fun _ => ⟨by omega, by omega, ?_⟩⟩
        cases hlx : left x with
        | false =>
          have e : ∀ z, ffirst (fun x => if left x = true then (if pleft (cr T n N (pset left x false)) n = 0 then some (pre ++ [x]) else chf T n N r (cr T n N (pset left x false)) (pre ++ [x]) (x + 1)) else none) (s + 1) x = z ↔ ffirst (fun x => if left x = true then (if pleft (cr T n N (pset left x false)) n = 0 then some (pre ++ [x]) else chf T n N r (cr T n N (pset left x false)) (pre ++ [x]) (x + 1)) else none) s (x + 1) = z := fun z => by
            rw [ffirst]
            simp only [hlx, Bool.false_eq_true, if_false]
          refine ⟨fun _ => ⟨am_RI (by omega) (by omega), ?_⟩, fun y => absurd (by decide) y⟩
          exact ih (x + 1) m' (by omega) hL' hD' hTr' hC' hf (fun m2 he => j0 m2 ((e _).mpr he)) (fun m2 l he => j1 m2 l ((e _).mpr he))
        | true =>
          refine ⟨fun y => absurd rfl y, fun _ => ?_⟩
          refine c_leaveOut hL' hD' hs (by omega) hlx hTr' htr (fun m1 ks l hL1 hD1 hsame hpo hT1 hf1 => ⟨by omega, by omega, ?_⟩)
          rw [hD1.1, hTr'.1]
          have hplen := poff_len hpo
          have hcs : pstable T n N (cr T n N (pset left x false)) := (cr_is _ hT hN 0).2.1
          have hlc : pleft l n = pleft (cr T n N (pset left x false)) n := pleft_congr hsame
          generalize hm2 : am_wr m1 39 (dep : Int) (x : Int) = m2
          have hf2 : Fr [39] [] m1 m2 := by rw [← hm2]; exact Fr.rf.wr (by decide)
          have hf02 : Fr mdF [] m' m2 := hf1.tr hf2 (by decide) (by decide) (by decide) (by decide)
          have hC2 : ChM m2 (pre ++ [x]) := by
            intro i y hy
            rw [← hm2, wr_at]
            by_cases e : i = dep
            · rw [if_pos (by omega)]
              subst e
              rw [List.getElem?_append_right (by omega)] at hy
              rw [show i - pre.length = 0 by omega] at hy
              simp at hy
              rw [hy]
            · have hi : i < pre.length := by
                have := (List.getElem?_eq_some_iff.mp hy).1
                rw [List.length_append] at this
                simp at this
                omega
              rw [if_neg (by omega), hf1.1 _ (by decide)]
              rw [List.getElem?_append_left hi] at hy
              exact hC' i y hy
          refine ⟨fun h0 => ⟨Or.inr rfl, ?_⟩, fun h0 => ⟨am_RI (by omega) (by omega), am_RI (by omega) (by omega), ?_⟩⟩
          · refine j1 m2 (pre ++ [x]) ?_ hC2 (hf.tr1 hf02)
            rw [ffirst]
            simp only [hlx, if_true]
            rw [if_pos (by omega)]
          · have hL2 := hL1.fr hf2 (by decide)
            have hD2 := hD1.fr hf2 (by decide)
            have hT2 := hT1.fr hf2 (by decide)
            have e1 : ∀ l2, chf T n N r (cr T n N (pset left x false)) (pre ++ [x]) (x + 1) = some l2 → ffirst (fun x => if left x = true then (if pleft (cr T n N (pset left x false)) n = 0 then some (pre ++ [x]) else chf T n N r (cr T n N (pset left x false)) (pre ++ [x]) (x + 1)) else none) (s + 1) x = some l2 := fun l2 he => by
              rw [ffirst]
              simp only [hlx, if_true]
              rw [if_neg (by omega), he]
            have e0 : chf T n N r (cr T n N (pset left x false)) (pre ++ [x]) (x + 1) = none → ∀ z, ffirst (fun x => if left x = true then (if pleft (cr T n N (pset left x false)) n = 0 then some (pre ++ [x]) else chf T n N r (cr T n N (pset left x false)) (pre ++ [x]) (x + 1)) else none) s (x + 1) = z → ffirst (fun x => if left x = true then (if pleft (cr T n N (pset left x false)) n = 0 then some (pre ++ [x]) else chf T n N r (cr T n N (pset left x false)) (pre ++ [x]) (x + 1)) else none) (s + 1) x = z := fun he z hz => by
              rw [ffirst]
              simp only [hlx, if_true]
              rw [if_neg (by omega), he]
              exact hz
            refine c_choose hL3 r d (dep + 1) (cr T n N (pset left x false)) (pre ++ [x]) (tr ++ ks) (x + 1) m2 _ (by omega) (by omega) (by simp; omega) (by omega) hL2 hD2 hcs hT2 (by rw [List.length_append]; omega) hC2 (fun m3 hn3 hL3' hD3 hT3 hC3 hf3 => ⟨fun _ => ?_, fun y => absurd rfl y⟩) (fun m3 l2 hs3 hC3 hf3 => ⟨fun y => absurd y (by decide), fun _ => ⟨Or.inr rfl, j1 m3 l2 (e1 l2 hs3) hC3 ((hf.tr1 hf02).tr1 hf3)⟩⟩)
            refine f_Mender_bringBack (c_bringBack ks.length ks l m3 rfl hL3' (hD3.congr (fun j hj => (hsame j hj).symm)) hT3 (by omega) hpo (fun m4 hL4 hD4 hT4 hf4 => ⟨am_RI (by omega) (by omega), ?_⟩))
            refine ih (x + 1) m4 (by omega) hL4 hD4 hT4 ?_ (((hf.tr1 hf02).tr1 hf3).tr1 (hf4.mono (by decide) (by decide))) (fun m5 he => j0 m5 (e0 hn3 _ he)) (fun m5 l5 he => j1 m5 l5 (e0 hn3 _ he))
            intro i y hy
            rw [hf4.1 _ (by decide)]
            exact hC3 i y (by rw [List.getElem?_append_left (List.getElem?_eq_some_iff.mp hy).1]; exact hy)
    exact main (n - k) k m (by omega) hL hD hTr hC Fr.rf k0 k1
def MdM (m : am_M) : Option (List Nat) → Prop
  | none => m.1 4801 0 = -2
  | some l => m.1 4801 0 = l.length ∧ l.length ≤ 3 ∧ ChM m l
abbrev msF : List Nat := [25, 26, 24, 3007, 40, 4804, 41, 4806, 39, 4801]
theorem c_search {d : Nat} {P : am_M → Prop} {m : am_M} {T : Nat → List Nat} {n N : Nat} {left : Nat → Bool} (hL : RowL m T n N) (hD : RowD m T n left) (hc : isCr T n N (lout []) left)
    (kpost : ∀ m' : am_M, MdM m' (pmend (okl T n N) n 4 0) → Fr msF [] m m' → P m') : am_OkV (d + 9) 26 [.inr (.inr 38), .inr (.inr 20)] m P := by
  have hN : N ≤ 96 := hL.2.2.2.1
  have hT : TOK T n N := hL.2.2.2.2.1
  have hok0 : pleft left n = 0 ↔ okl T n N [] = true := by rw [isCr_all hc]; exact (pab_iff hT hN).symm
  have hpl : pleft left n ≤ n := pleft_le
  have fin : ∀ (x : Nat) (m' : am_M) (l : List Nat), m'.1 4801 0 ≠ -2 → MdM m' (some l) → pmend (okl T n N) n 4 0 = some l → Fr msF [] m m' → am_GV (d + 9) 26 P 24 [(0, .inr (.inr 38)), (1, .inr (.inr 20)), (2, .inl x)] [] m' := by
    intro x m' l hne hm he hf
    rw [he] at kpost
    exact f_Mender_search_24 ⟨fun _ => kpost m' hm hf, fun _ => ⟨fun _ => kpost m' hm hf, fun y => absurd hne y⟩⟩
  have main : ∀ (f x : Nat) (m' : am_M), x + f = 4 → 1 ≤ x → RowL m' T n N → RowD m' T n left → TrM m' [] → m'.1 4801 0 = -2 → okl T n N [] = false → (∀ s, s < x → lexf (okl T n N) n s [] 0 = none) → pmend (okl T n N) n 4 0 = pmend (okl T n N) n f x → Fr msF [] m m' → am_GV (d + 9) 26 P 24 [(0, .inr (.inr 38)), (1, .inr (.inr 20)), (2, .inl x)] [] m' := by
    intro f
    induction f with
    | zero =>
      intro x m' hx h1 hL' hD' hT' hfe hno hl he hf
      refine f_Mender_search_24 ⟨fun _ => kpost m' (by rw [he]; exact hfe) hf, fun y => absurd (by omega) y⟩
    | succ f ih =>
      intro x m' hx h1 hL' hD' hT' hfe hno hl he hf
      have hch := chf_lexf hT hN (hmin_of hl) x [] 0 left (by simp) ⟨List.Pairwise.nil, fun y hy => by cases hy⟩ (fun y hy => by cases hy) hc hno
      refine f_Mender_search_24 ⟨fun y => by omega, fun _ => ⟨fun y => absurd hfe y, fun _ => ?_⟩⟩
      refine c_choose (T := T) (n := n) (N := N) (L := x) (by omega) x (d + 3) 0 left [] [] 0 m' _ (by omega) (by omega) rfl (by omega) hL' hD' hc.2.1 hT' (by simpa using hpl) (fun i y hy => by simp at hy) (fun m1 hn1 hL1 hD1 hT1 hC1 hf1 => ⟨fun _ => ⟨am_RI (by omega) (by omega), ?_⟩, fun y => absurd rfl y⟩) (fun m1 l hs1 hC1 hf1 => ⟨fun y => absurd y (by decide), fun _ => ⟨am_RI (by omega) (by omega), ?_⟩⟩)
      · rw [hch] at hn1
        refine ih (x + 1) m1 (by omega) (by omega) hL1 hD1 hT1 (by rw [hf1.1 _ (by decide)]; exact hfe) hno (fun s hs => ?_) ?_ (hf.tr1 (hf1.mono (by decide) (by decide)))
        · by_cases e : s = x
          · rw [e]; exact hn1
          · exact hl s (by omega)
        · rw [he, pmend, hn1]
      · rw [hch] at hs1
        have hll : l.length = x := by
          obtain ⟨rest, e1, e2, -, -⟩ := lexf_some hs1
          rw [e1]; simpa using e2
        refine fin (x + 1) _ l ?_ ⟨?_, by omega, hC1.fr (Fr.rf.wr (id := 4801) (l1 := [4801]) (l2 := []) (by decide)) (by decide)⟩ ?_ ((hf.tr1 (hf1.mono (by decide) (by decide))).wr (by decide))
        · rw [wr_at, if_pos rfl]; omega
        · rw [wr_at, if_pos rfl, hll]
        · rw [he, pmend, hs1]
  refine f_Mender_search ?_
  rw [hD.1]
  have hf0 : ∀ v : Int, Fr [4804, 4801] [] m (am_wr (am_wr m 4804 (0 : Int) (0 : Int)) 4801 (0 : Int) v) := fun v => (Fr.rf.wr (by decide)).wr (by decide)
  refine ⟨fun h => ?_, fun h => ?_⟩
  · have hno : okl T n N [] = false := by
      cases ho : okl T n N [] with
      | false => rfl
      | true => exact absurd (by rw [hok0.mpr ho]; rfl) h
    have h0 : lexf (okl T n N) n 0 [] 0 = none := by
      unfold lexf
      rw [if_neg (by rw [hno]; decide)]
    refine main 3 1 _ (by omega) (by omega) (hL.fr (hf0 _) (by decide)) (hD.fr (hf0 _) (by decide)) ⟨by rw [wr_ne _ _ _ (by decide), wr_at, if_pos rfl]; rfl, fun i x hx => by simp at hx⟩ (by rw [wr_at, if_pos rfl]) hno (fun s hs => ?_) ?_ ((hf0 _).mono (by decide) (by decide))
    · have : s = 0 := by omega
      rw [this]; exact h0
    · rw [pmend, h0]
  · have hyes : okl T n N [] = true := hok0.mp (by omega)
    have h0 : lexf (okl T n N) n 0 [] 0 = some [] := by
      unfold lexf
      rw [if_pos hyes]
    refine fin 1 _ [] (by rw [wr_at, if_pos rfl]; decide) ⟨by rw [wr_at, if_pos rfl]; rfl, by decide, fun i x hx => by simp at hx⟩ (by rw [pmend, h0]) ((hf0 _).mono (by decide) (by decide))
abbrev pmd (s : St) : Option (List Nat) := pmend (okl (TT s.2.1 (s.2.2.2 4) (s.2.2.2 1) (s.2.2.2 6)) s.1 (3 * s.2.2.2 1)) s.1 4 0
def Mnd (m : am_M) (s : St) (ch : Nat) : Prop := m.1 4802 0 ≤ ch ∧ (m.1 4802 0 = ch → MdM m (pmd s))
abbrev mnF : List Nat := [40, 4804, 41, 4806, 39, 4801, 4802]
theorem MdM.fr {m m' : am_M} {o : Option (List Nat)} (h : MdM m o) {l1 l2 : List Nat} (hf : Fr l1 l2 m m') (h1 : 4801 ∉ l1 ∧ 39 ∉ l1) : MdM m' o := by
  cases o with
  | none => unfold MdM at *; rw [hf.1 _ h1.1]; exact h
  | some l => unfold MdM at *; rw [hf.1 _ h1.1]; exact ⟨h.1, h.2.1, h.2.2.fr hf h1.2⟩
theorem Mnd.fr {m m' : am_M} {s : St} {ch : Nat} (h : Mnd m s ch) {l1 l2 : List Nat} (hf : Fr l1 l2 m m') (h1 : 4801 ∉ l1 ∧ 39 ∉ l1 ∧ 4802 ∉ l1) : Mnd m' s ch := by
  unfold Mnd at *
  rw [hf.1 _ h1.2.2]
  exact ⟨h.1, fun e => (h.2 e).fr hf ⟨h1.1, h1.2.1⟩⟩
theorem Mnd.up {m : am_M} {s t : St} {ch ch' : Nat} (h : Mnd m s ch) (hc : ch < ch') : Mnd m t ch' := ⟨by have := h.1; omega, fun e => by have := h.1; omega⟩
theorem lout_nil : lout [] = fun _ => true := rfl
theorem a_mend_ok {m : am_M} {o : Option (List Nat)} {z : Int} {P : Int → Prop} (h : MdM m o) (kpost : P (a_mend o z)) : (z ≠ (-1 : Int) → ((z < (0 : Int) → (P (-2 : Int))) ∧ (¬ (z < (0 : Int)) → ((z < (m.1 4801 (0 : Int)) → (0 ≤ z ∧ z < 3 ∧ (P (m.1 39 z)))) ∧ (¬ (z < (m.1 4801 (0 : Int))) → (P (-2 : Int))))))) ∧ (¬ (z ≠ (-1 : Int)) → (P (m.1 4801 (0 : Int)))) := by
  cases o with
  | none =>
    unfold MdM at h
    unfold a_mend at kpost
    rw [h]
    exact ⟨fun _ => ⟨fun _ => kpost, fun y => ⟨fun y2 => by omega, fun _ => kpost⟩⟩, fun _ => kpost⟩
  | some l =>
    obtain ⟨h1, h2, h3⟩ := h
    unfold a_mend at kpost
    simp only at kpost
    rw [h1]
    refine ⟨fun y => ⟨fun y2 => ?_, fun y2 => ⟨fun y3 => ⟨by omega, by omega, ?_⟩, fun y3 => ?_⟩⟩, fun y => ?_⟩
    · rw [if_neg y, if_neg (by omega)] at kpost; exact kpost
    · rw [if_neg y, if_pos (by omega)] at kpost
      have hlt : z.toNat < l.length := by omega
      have e : l[z.toNat]? = some (l.getD z.toNat 0) := by
        rw [List.getD_eq_getElem?_getD, List.getElem?_eq_getElem hlt]; rfl
      have := h3 z.toNat _ e
      rw [show ((z.toNat : Nat) : Int) = z by omega] at this
      rw [this]; exact kpost
    · rw [if_neg y, if_neg (by omega)] at kpost; exact kpost
    · rw [if_pos (by omega)] at kpost; exact kpost
theorem c_mend {d : Nat} {P : Int → am_M → Prop} {m : am_M} {s : St} {ch : Nat} {z : Int} (hG : GS m s) (hc : m.1 1404 0 = ch) (hN : Mnd m s ch) (kpost : ∀ m' : am_M, Mnd m' s ch → Fr (CF ++ mnF) CF2 m m' → P (a_mend (pmd s) z) m') : am_OkI (d + 10) 93 [.inr (.inr 0), .inl z] m P := by
  refine f_T_mend ⟨fun h => ?_, fun h => ?_⟩
  · exact a_mend_ok (P := fun v => P v m) (hN.2 (h.trans hc)) (kpost m hN Fr.rf)
  · refine c_peelNow (d := d + 3) hG (fun m1 hL hD _ hf1 => ?_)
    have hS := hG.2.2.2.2.2.1
    obtain ⟨s1, -, -, -, -, -⟩ := id hS
    have hT : TOK (TT s.2.1 (s.2.2.2 4) (s.2.2.2 1) (s.2.2.2 6)) s.1 (3 * s.2.2.2 1) := TT_ok _ _ _ _ (by omega)
    refine c_search (d := d) hL hD (cr_is (lout []) hT (by omega) _) (fun m2 hm2 hf2 => ?_)
    have hc2 : m2.1 1404 0 = ch := by rw [hf2.1 _ (by decide), hf1.1 _ (by decide)]; exact hc
    rw [hc2]
    have hf3 : Fr [4802] [] m2 (am_wr m2 4802 (0 : Int) (ch : Int)) := Fr.rf.wr (by decide)
    have hff : Fr (CF ++ mnF) CF2 m (am_wr m2 4802 (0 : Int) (ch : Int)) := (hf1.tr hf2 (k1 := CF ++ mnF) (k2 := CF2) (by decide) (by decide) (by decide) (by decide)).tr1 (hf3.mono (by decide) (by decide))
    have hMd := hm2.fr hf3 (by decide)
    exact a_mend_ok (P := fun v => P v (am_wr m2 4802 (0 : Int) (ch : Int))) hm2 (kpost _ ⟨by rw [wr_at, if_pos rfl]; omega, fun _ => hMd⟩ hff)
