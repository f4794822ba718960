/-! MEND of the class -/
def TrM (m : am_M) (tr : List Nat) : Prop := m.1 4804 0 = tr.length ∧ ∀ i x : Nat, tr[i]? = some x → m.1 40 i = x
def LinM (m : am_M) (A : List Nat) : Prop := m.1 4806 0 = A.length ∧ ∀ i x : Nat, A[i]? = some x → m.1 41 i = x
def ChM (m : am_M) (l : List Nat) : Prop := ∀ i x : Nat, l[i]? = some x → m.1 39 i = x
theorem TrM.fr {m m' : am_M} {tr : List Nat} (h : TrM m tr) {l1 l2 : List Nat} (hf : Fr l1 l2 m m') (h1 : 4804 ∉ l1 ∧ 40 ∉ l1) : TrM m' tr := by
  unfold TrM at *
  rw [hf.1 _ h1.1, hf.1 _ h1.2]; exact h
theorem LinM.fr {m m' : am_M} {A : List Nat} (h : LinM m A) {l1 l2 : List Nat} (hf : Fr l1 l2 m m') (h1 : 4806 ∉ l1 ∧ 41 ∉ l1) : LinM m' A := by
  unfold LinM at *
  rw [hf.1 _ h1.1, hf.1 _ h1.2]; exact h
theorem ChM.fr {m m' : am_M} {A : List Nat} (h : ChM m A) {l1 l2 : List Nat} (hf : Fr l1 l2 m m') (h1 : 39 ∉ l1) : ChM m' A := by
  unfold ChM at *
  rw [hf.1 _ h1]; exact h
abbrev mtF : List Nat := [25, 26, 24, 3007, 40, 4804, 41, 4806]
theorem c_mtake {d : Nat} {P : am_M → Prop} {m : am_M} {T : Nat → List Nat} {n N k : Nat} {left : Nat → Bool} {tr A : List Nat} (hL : RowL m T n N) (hD : RowD m T n left) (hk : k < n) (hl : left k = true) (hTr : TrM m tr) (htr : tr.length < 48) (hA : LinM m A) (hb : A.length + (pnew T (pset left k false) n k).length ≤ 96)
    (kpost : ∀ m' : am_M, RowL m' T n N → RowD m' T n (pset left k false) → TrM m' (tr ++ [k]) → LinM m' (A ++ pnew T (pset left k false) n k) → Fr mtF [] m m' → P m') : am_OkV (d + 3) 29 [.inr (.inr 38), .inr (.inr 20), .inl k] m P := by
  have hn : n ≤ 48 := hL.2.2.1
  have hN : N ≤ 96 := hL.2.2.2.1
  have hTk := hL.2.2.2.2.1 k hk
  refine f_Mender_take ?_
  rw [hTr.1]
  generalize hm1 : am_wr (am_wr m 40 ((tr.length : Nat) : Int) (k : Int)) 4804 (0 : Int) (((tr.length : Nat) : Int) + 1) = m1
  have hf1 : Fr [40, 4804] [] m m1 := by rw [← hm1]; exact (Fr.rf.wr (by decide)).wr (by decide)
  have hTr1 : TrM m1 (tr ++ [k]) := by
    refine ⟨by rw [← hm1, wr_at, if_pos rfl, List.length_append]; rfl, fun i x hx => ?_⟩
    rw [← hm1, wr_ne _ _ _ (by decide), wr_at]
    by_cases e : i = tr.length
    · rw [if_pos (by omega)]
      subst e
      rw [List.getElem?_append_right (Nat.le_refl _)] at hx
      simp at hx
      rw [hx]
    · have hi : i < tr.length := by
        have := (List.getElem?_eq_some_iff.mp hx).1
        rw [List.length_append] at this
        simp at this
        omega
      rw [if_neg (by omega)]
      rw [List.getElem?_append_left hi] at hx
      exact hTr.2 i x hx
  have hL1 := hL.fr hf1 (by decide)
  have hD1 := hD.fr hf1 (by decide)
  have hA1 := hA.fr hf1 (by decide)
  refine ⟨fun _ => ⟨by omega, by omega, am_RI (by omega) (by omega), c_takeOff hL1 hD1 hk hl (fun m2 hL2 hD2 hf2 => ⟨am_RI (by omega) (by omega), ?_⟩)⟩, fun hz => by omega⟩
  have hTr2 := hTr1.fr hf2 (by decide)
  have hA2 := hA1.fr hf2 (by decide)
  obtain ⟨hk22, hk21⟩ := hL2.2.2.2.2.2 k hk
  have inner : ∀ (l : List Nat) (j : Nat) (B : List Nat) (m3 : am_M), (T k).drop j = l → Fr [41, 4806] [] m2 m3 → LinM m3 B → B.length + (l.filter (fun x => decide (pcnt T (pset left k false) x n = 1))).length ≤ 96 → (∀ m4 : am_M, Fr [41, 4806] [] m2 m4 → LinM m4 (B ++ l.filter (fun x => decide (pcnt T (pset left k false) x n = 1))) → P m4) → am_GV (d + 3) 29 P 39 [(0, .inr (.inr 38)), (1, .inr (.inr 20)), (2, .inl k), (3, .inl (3 * k + j))] [] m3 := by
    intro l
    induction l with
    | nil =>
      intro j B m3 hdr hf3 hA3 hb kk
      have hjl : (T k).length ≤ j := by
        have := congrArg List.length hdr
        rw [List.length_drop] at this
        simp at this
        omega
      refine f_Mender_take_39 ?_
      rw [show m3.1 22 k = (T k).length by rw [hf3.1 _ (by decide)]; exact hk22]
      refine ⟨am_RI (by omega) (by omega), by omega, by omega, am_RI (by omega) (by omega), fun _ => kk m3 hf3 (by simpa using hA3), fun hn => by omega⟩
    | cons a l ihl =>
      intro j B m3 hdr hf3 hA3 hb kk
      have ha0 : (T k)[j]? = some a := by
        have := congrArg (fun z => z[0]?) hdr
        simpa using this
      have hjl : j < (T k).length := (List.getElem?_eq_some_iff.mp ha0).1
      have haN : a < N := hTk.2.2 a (List.mem_of_getElem? ha0)
      have hlen3 := hTk.1
      have hD3 := hD2.fr hf3 (by decide)
      have e : (3 * (k : Int) + (j : Int) + 1) = 3 * (k : Int) + ((j + 1 : Nat) : Int) := by omega
      have hcell : m3.1 21 (3 * k + j) = a := by rw [hf3.1 _ (by decide)]; exact hk21 j a ha0
      refine f_Mender_take_39 ?_
      rw [show m3.1 22 k = (T k).length by rw [hf3.1 _ (by decide)]; exact hk22, hcell]
      refine ⟨am_RI (by omega) (by omega), by omega, by omega, am_RI (by omega) (by omega), fun hn => by omega, fun _ => ⟨by omega, by omega, c_isAlone (d := d) (hL2.fr hf3 (by decide)) hD3 haN ?_⟩⟩
      by_cases h1 : pcnt T (pset left k false) a n = 1
      · rw [if_pos h1]
        rw [List.filter_cons_of_pos (by simpa using h1)] at hb
        simp at hb
        refine ⟨fun y => absurd y (by decide), fun _ => ?_⟩
        rw [hA3.1]
        refine ⟨fun y => by omega, fun _ => ⟨by omega, by omega, by omega, by omega, am_RI (by omega) (by omega), am_RI (by omega) (by omega), ?_⟩⟩
        rw [e]
        refine ihl (j + 1) (B ++ [a]) _ (by rw [← List.drop_drop, hdr]; rfl) ((hf3.wr (by decide)).wr (by decide)) ⟨by rw [wr_at, if_pos rfl, List.length_append]; rfl, fun i x hx => ?_⟩ (by simp; omega) (fun m4 hf4 hA4 => kk m4 hf4 ?_)
        · rw [wr_ne _ _ _ (by decide), wr_at]
          by_cases e : i = B.length
          · rw [if_pos (by omega)]
            subst e
            rw [List.getElem?_append_right (Nat.le_refl _)] at hx
            simp at hx
            rw [← hx]; exact hcell
          · have hi : i < B.length := by
              have := (List.getElem?_eq_some_iff.mp hx).1
              rw [List.length_append] at this
              simp at this
              omega
            rw [if_neg (by omega)]
            rw [List.getElem?_append_left hi] at hx
            exact hA3.2 i x hx
        · rw [List.filter_cons_of_pos (by simpa using h1)]
          simpa using hA4
      · rw [if_neg h1]
        rw [List.filter_cons_of_neg (by simpa using h1)] at hb
        refine ⟨fun _ => ⟨am_RI (by omega) (by omega), ?_⟩, fun y => absurd rfl y⟩
        rw [e]
        refine ihl (j + 1) B m3 (by rw [← List.drop_drop, hdr]; rfl) hf3 hA3 hb (fun m4 hf4 hA4 => kk m4 hf4 ?_)
        rw [List.filter_cons_of_neg (by simpa using h1)]
        exact hA4
  have e : 3 * (k : Int) = 3 * (k : Int) + ((0 : Nat) : Int) := by omega
  rw [e]
  refine inner (T k) 0 A m2 rfl Fr.rf hA2 hb (fun m4 hf4 hA4 => kpost m4 (hL2.fr hf4 (by decide)) (hD2.fr hf4 (by decide)) (hTr2.fr hf4 (by decide)) hA4 ?_)
  exact (hf1.tr hf2 (k1 := mtF) (k2 := []) (by decide) (by decide) (by decide) (by decide)).tr1 (hf4.mono (by decide) (by decide))
/-- keys that went off, one after the other -/
def poff (n : Nat) : (Nat → Bool) → List Nat → (Nat → Bool) → Prop
  | left, [], l => left = l
  | left, k :: r, l => (k < n ∧ left k = true) ∧ poff n (pset left k false) r l
theorem poff_of {T : Nat → List Nat} {n N : Nat} : ∀ {out : List (Nat × Nat)} {left l : Nat → Bool}, pchain T n N left out l → poff n left (out.map Prod.fst) l
  | [], _, _, h => h
  | (k, c) :: r, left, l, h => ⟨⟨h.1.1, h.1.2.1⟩, poff_of h.2⟩
theorem poff_snoc {n : Nat} : ∀ {ks : List Nat} {left l : Nat → Bool} {k : Nat}, poff n left (ks ++ [k]) l → ∃ l1, poff n left ks l1 ∧ k < n ∧ l1 k = true ∧ l = pset l1 k false
  | [], left, l, k, h => ⟨left, rfl, h.1.1, h.1.2, h.2.symm⟩
  | a :: ks, left, l, k, h => by
    obtain ⟨l1, h1, h2, h3, h4⟩ := poff_snoc h.2
    exact ⟨l1, ⟨h.1, h1⟩, h2, h3, h4⟩
theorem poff_len {n : Nat} : ∀ {ks : List Nat} {left l : Nat → Bool}, poff n left ks l → ks.length + pleft l n = pleft left n
  | [], left, l, h => by
    have h : left = l := h
    subst h; simp
  | k :: ks, left, l, h => by
    have := poff_len h.2
    have h2 := pleft_off h.1.1 h.1.2
    simp
    omega
theorem c_bringBack {d : Nat} {P : am_M → Prop} {T : Nat → List Nat} {n N : Nat} {left : Nat → Bool} {tr : List Nat} : ∀ (s : Nat) (ks : List Nat) (l : Nat → Bool) (m : am_M), ks.length = s → RowL m T n N → RowD m T n l → TrM m (tr ++ ks) → tr.length + ks.length ≤ 48 → poff n left ks l →
    (∀ m' : am_M, RowL m' T n N → RowD m' T n left → TrM m' tr → Fr mtF [] m m' → P m') → am_GV (d + 2) 30 P 0 [(0, .inr (.inr 38)), (1, .inr (.inr 20)), (2, .inl (tr.length : Nat))] [] m := by
  intro s
  induction s with
  | zero =>
    intro ks l m hs hL hD hTr hb ho kpost
    have : ks = [] := List.eq_nil_of_length_eq_zero hs
    subst this
    have ho : left = l := ho
    subst ho
    rw [List.append_nil] at hTr
    refine f_Mender_bringBack_0 ?_
    rw [hTr.1]
    exact ⟨fun _ => kpost m hL hD hTr Fr.rf, fun y => absurd (by omega) y⟩
  | succ s ih =>
    intro ks l m hs hL hD hTr hb ho kpost
    obtain ⟨ks2, k, rfl⟩ : ∃ ks2 k, ks = ks2 ++ [k] := by
      have hne : ks ≠ [] := fun e => by rw [e] at hs; cases hs
      exact ⟨ks.dropLast, ks.getLast hne, (List.dropLast_concat_getLast hne).symm⟩
    obtain ⟨l1, o1, o2, o3, o4⟩ := poff_snoc ho
    have hlen : (tr ++ (ks2 ++ [k])).length = tr.length + ks2.length + 1 := by simp; omega
    rw [List.length_append] at hs hb
    simp at hs hb
    refine f_Mender_bringBack_0 ?_
    rw [hTr.1, hlen]
    have hkk : m.1 40 (((tr.length + ks2.length + 1 : Nat) : Int) - 1) = (k : Int) := by
      have := hTr.2 (tr.length + ks2.length) k (by rw [← List.append_assoc, List.getElem?_append_right (by simp)]; simp)
      rw [show ((tr.length + ks2.length + 1 : Nat) : Int) - 1 = ((tr.length + ks2.length : Nat) : Int) by omega]
      exact this
    refine ⟨fun y => by omega, fun _ => ⟨am_RI (by omega) (by omega), by omega, by omega, ?_⟩⟩
    rw [hkk]
    generalize hm1 : am_wr m 4804 (0 : Int) (((tr.length + ks2.length + 1 : Nat) : Int) - 1) = m1
    have hf1 : Fr [4804] [] m m1 := by rw [← hm1]; exact Fr.rf.wr (by decide)
    have hD1 := hD.fr hf1 (by decide)
    have hL1 := hL.fr hf1 (by decide)
    have hTr1 : TrM m1 (tr ++ ks2) := by
      refine ⟨by rw [← hm1, wr_at, if_pos rfl, List.length_append]; omega, fun i x hx => ?_⟩
      rw [hf1.1 _ (by decide)]
      refine hTr.2 i x ?_
      rw [← List.append_assoc, List.getElem?_append_left (List.getElem?_eq_some_iff.mp hx).1]
      exact hx
    have hlk : l k = false := by rw [o4, pset_self]
    refine c_putBack hL1.2.2 hD1.1 (fun j hj _ => hD1.2.1 j hj) hD1.2.2 o2 hlk (fun m2 hD2 hf2 => ?_)
    have e : pset l k true = l1 := by rw [o4, pset_pset, pset_same o3]
    rw [e] at hD2
    refine ih ks2 l1 m2 (by omega) (hL1.fr hf2 (by decide)) hD2 (hTr1.fr hf2 (by decide)) (by omega) o1 (fun m3 a b c f => kpost m3 a b c ?_)
    exact (hf1.tr hf2 (k1 := mtF) (k2 := []) (by decide) (by decide) (by decide) (by decide)).tr1 f
theorem c_leaveOut {d : Nat} {P : am_M → Prop} {m : am_M} {T : Nat → List Nat} {n N k : Nat} {left : Nat → Bool} {tr : List Nat} (hL : RowL m T n N) (hD : RowD m T n left) (hs : pstable T n N left) (hk : k < n) (hl : left k = true) (hTr : TrM m tr) (htr : tr.length + pleft left n ≤ n)
    (kpost : ∀ (m' : am_M) (ks : List Nat) (l : Nat → Bool), RowL m' T n N → RowD m' T n (cr T n N (pset left k false)) → (∀ j, j < n → l j = cr T n N (pset left k false) j) → poff n left ks l → TrM m' (tr ++ ks) → Fr mtF [] m m' → P m') : am_OkV (d + 4) 28 [.inr (.inr 38), .inr (.inr 20), .inl k] m P := by
  have hn : n ≤ 48 := hL.2.2.1
  have hN : N ≤ 96 := hL.2.2.2.1
  have hT : TOK T n N := hL.2.2.2.2.1
  have hpo := pleft_off hk hl
  have hf0 : Fr [4806] [] m (am_wr m 4806 (0 : Int) (0 : Int)) := Fr.rf.wr (by decide)
  have hbig := pbig_set (T := T) hk hl N
  rw [pnew_len hT hk] at hbig
  have hbN : ∀ c, pbig T left n c ≤ c := by
    intro c
    induction c with
    | zero => exact Nat.le_refl _
    | succ c ih => unfold pbig; split <;> omega
  have hbN := hbN N
  -- the loop
  have main : ∀ (f i : Nat) (lf : Nat → Bool) (A : List Nat) (out : List (Nat × Nat)) (m' : am_M), i + f = 96 → pbig T lf n N + A.length ≤ f → (∀ x ∈ A, x < N) → tr.length + 1 + out.length + pleft lf n ≤ n → RowL m' T n N → RowD m' T n lf → LinM m' A → TrM m' (tr ++ k :: out.map Prod.fst) → Fr mtF [] m m' → (∀ m'' : am_M, RowL m'' T n N → RowD m'' T n (pq 1 T n f lf A out).1 → TrM m'' (tr ++ k :: (pq 1 T n f lf A out).2.map Prod.fst) → Fr mtF [] m m'' → P m'') → am_GV (d + 4) 28 P 13 [(0, .inr (.inr 38)), (1, .inr (.inr 20)), (3, .inl i)] [] m' := by
    intro f
    induction f with
    | zero =>
      intro i lf A out m' hi hphi hAN hol hL' hD' hA' hO' hf kp
      exact f_Mender_leaveOut_13 ⟨fun _ => kp m' hL' hD' hO' hf, fun y => by omega⟩
    | succ f ih =>
      intro i lf A out m' hi hphi hAN hol hL' hD' hA' hO' hf kp
      refine f_Mender_leaveOut_13 ⟨fun y => by omega, fun _ => ?_⟩
      rw [hA'.1]
      cases hp : ppop 1 A with
      | none =>
        have hA0 := ppop_none hp
        subst hA0
        have kp2 := kp m' hL'
        simp only [pq, hp] at kp2
        exact ⟨fun _ => kp2 hD' hO' hf, fun y => absurd (by simp) y⟩
      | some cA =>
        obtain ⟨c, A'⟩ := cA
        obtain ⟨q1, q2, q3⟩ := ppop_some hp
        have q3 : A = A' ++ [c] := by
          rcases q3 with ⟨h, -⟩ | ⟨-, e⟩
          · cases h
          · exact e
        have hcN : c < N := hAN c q2
        have hAN' : ∀ x ∈ A', x < N := fun x hx => hAN x (by rw [q3]; exact List.mem_append_left _ hx)
        have hcv : m'.1 41 (((A.length : Nat) : Int) - 1) = (c : Int) := by
          have := hA'.2 A'.length c (by rw [q3, List.getElem?_append_right (Nat.le_refl _)]; simp)
          rw [show ((A.length : Nat) : Int) - 1 = ((A'.length : Nat) : Int) by omega]
          exact this
        rw [hcv]
        refine ⟨fun y => by omega, fun _ => ⟨am_RI (by omega) (by omega), by omega, by omega, ?_⟩⟩
        generalize hm1 : am_wr m' 4806 (0 : Int) (((A.length : Nat) : Int) - 1) = m1
        have hf1 : Fr [4806] [] m' m1 := by rw [← hm1]; exact Fr.rf.wr (by decide)
        have hL1 := hL'.fr hf1 (by decide)
        have hD1 := hD'.fr hf1 (by decide)
        have hO1 := hO'.fr hf1 (by decide)
        have hA1 : LinM m1 A' := by
          refine ⟨by rw [← hm1, wr_at, if_pos rfl]; omega, fun j x hx => ?_⟩
          rw [hf1.1 _ (by decide)]
          refine hA'.2 j x ?_
          rw [q3, List.getElem?_append_left (List.getElem?_eq_some_iff.mp hx).1]
          exact hx
        have hff1 : Fr mtF [] m m1 := hf.tr1 (hf1.mono (by decide) (by decide))
        refine c_loneKey hL1 hD1 hcN ?_
        by_cases h1 : pcnt T lf c n = 1
        · rw [if_pos h1]
          obtain ⟨q, k1, k2, k3, k4, k5, k6⟩ := palone h1
          rw [k5]
          refine ⟨fun y => by omega, fun _ => ?_⟩
          have hb2 := pbig_set (T := T) k1 k2 N
          rw [pnew_len hT k1] at hb2
          have hpo2 := pleft_off k1 k2
          refine c_mtake hL1 hD1 k1 k2 hO1 (by rw [List.length_append, List.length_cons, List.length_map]; omega) hA1 (by omega) (fun m2 hL2 hD2 hO2 hA2 hf2 => ⟨am_RI (by omega) (by omega), ?_⟩)
          refine ih (i + 1) (pset lf q false) (A' ++ pnew T (pset lf q false) n q) (out ++ [(q, c)]) m2 (by omega) (by rw [List.length_append]; omega) (fun x hx => ?_) (by rw [List.length_append]; simp; omega) hL2 hD2 hA2 (by simpa using hO2) (hff1.tr1 hf2) (fun m3 a b e g => ?_)
          · rcases List.mem_append.mp hx with h | h
            · exact hAN' x h
            · exact (hT q k1).2.2 x (mem_pnew.mp h).1
          · have := kp m3 a
            simp only [pq, hp] at this
            rw [if_pos h1, k5] at this
            exact this b e g
        · rw [if_neg h1]
          refine ⟨fun _ => ⟨am_RI (by omega) (by omega), ih (i + 1) lf A' out m1 (by omega) (by omega) hAN' hol hL1 hD1 hA1 hO1 hff1 (fun m3 a b e g => ?_)⟩, fun y => absurd rfl y⟩
          have := kp m3 a
          simp only [pq, hp] at this
          rw [if_neg h1] at this
          exact this b e g
  refine f_Mender_leaveOut (c_mtake (A := []) (hL.fr hf0 (by decide)) (hD.fr hf0 (by decide)) hk hl (hTr.fr hf0 (by decide)) (by omega) ⟨by rw [wr_at, if_pos rfl]; rfl, fun i x hx => by simp at hx⟩ (by simp; omega) (fun m1 hL1 hD1 hT1 hA1 hf1 => ?_))
  have hAll : ∀ x, x < N → pcnt T (pset left k false) x n = 1 → x ∈ pnew T (pset left k false) n k := fun x hx h1 => by
    refine mem_pnew.mpr ⟨?_, h1⟩
    apply Classical.byContradiction
    intro hno
    have := pcnt_set (T := T) (left := left) (x := x) (b := false) hk
    rw [if_neg (fun z => hno z.2), if_neg (fun z => hno z.2)] at this
    exact hs x hx (by omega)
  obtain ⟨r, e1, e2, e3⟩ := pq_spec (w := 1) hT 96 (pset left k false) (pnew T (pset left k false) n k) [] (by omega) (fun x hx => (hT k hk).2.2 x (mem_pnew.mp hx).1) hAll
  refine main 96 0 (pset left k false) (pnew T (pset left k false) n k) [] m1 rfl (by omega) (fun x hx => (hT k hk).2.2 x (mem_pnew.mp hx).1) (by simp; omega) hL1 hD1 (by simpa using hA1) (by simpa using hT1) ((hf0.mono (by decide) (by decide)).tr1 hf1) (fun m2 hL2 hD2 hT2 hf2 => ?_)
  have hsame := isCr_same (T := T) (n := n) (N := N) (left := pset left k false) (c := (pq 1 T n 96 (pset left k false) (pnew T (pset left k false) n k) []).1) (c' := cr T n N (pset left k false)) ⟨fun j _ => pchain_sub e2 j, e3, fun Q hQ hsub => pchain_keeps hQ e2 hsub⟩ (cr_is _ hT hN 0)
  rw [e1] at hT2
  exact kpost m2 (k :: r.map Prod.fst) _ hL2 (hD2.congr hsame) hsame ⟨⟨hk, hl⟩, poff_of e2⟩ (by simpa using hT2) hf2
