/-! WHO ASKS: passes, told, right, strangers -/
theorem lcmp0 {x y : Int64} : am_lcmp x y = 0 ↔ x = y := by
  unfold am_lcmp
  rw [← lg_cmp_eq, ← Int32.toInt_inj]
  rfl
def pfd (K : Nat → Int64) (x : Int64) : Nat → Nat → Int
  | 0, _ => -1
  | r + 1, k => if K k = x then k else pfd K x r (k + 1)
theorem c_find {d : Nat} {P : Int → am_M → Prop} {m : am_M} {n : Nat} {K : Nat → Int64} {V S : Nat → Nat} {x : Int64} (hG : GSt m n K V S) (kpost : P (pfd K x n 0) m) : am_OkI (d + 1) 8 [.inr (.inr 4), .inr (.inl x)] m P := by
  have hn := hG.2.1
  have main : ∀ (r k : Nat), k + r = n → P (pfd K x r k) m → am_GI (d + 1) 8 P 2 [(0, .inr (.inr 4)), (1, .inr (.inl x)), (3, .inl k)] [] m := by
    intro r
    induction r with
    | zero =>
      intro k hk kp
      refine f_Given_find_4_2 ⟨fun _ => kp, fun z => ?_⟩
      rw [hG.1] at z; omega
    | succ r ih =>
      intro k hk kp
      unfold pfd at kp
      refine f_Given_find_4_2 ⟨fun z => ?_, fun _ => ⟨by omega, by omega, ?_⟩⟩
      · rw [hG.1] at z; omega
      rw [hG.2.2.1 k (by omega)]
      refine ⟨fun h => ⟨am_RI (by omega) (by omega), ?_⟩, fun h => ?_⟩
      · rw [if_neg (fun e => h (lcmp0.mpr e))] at kp
        exact ih (k + 1) (by omega) kp
      · rw [if_pos (lcmp0.mp (Decidable.byContradiction h))] at kp
        exact kp
  exact f_Given_find_4 (main n 0 (by omega) kpost)
theorem r_indexOf {d : Nat} {P : Int → am_M → Prop} {m : am_M} {n : Nat} {K : Nat → Int64} {V S : Nat → Nat} {x : Int64} (hM : MSt m n K V S) (kpost : P (pfd K x n 0) m) : am_OkI (d + 1) 140 [.inr (.inr 55), .inr (.inl x)] m P := by
  have hn := hM.2.1
  have main : ∀ (r k : Nat), k + r = n → P (pfd K x r k) m → am_GI (d + 1) 140 P 2 [(0, .inr (.inr 55)), (1, .inr (.inl x)), (3, .inl k)] [] m := by
    intro r
    induction r with
    | zero =>
      intro k hk kp
      refine f_M_indexOf_2 ⟨fun _ => kp, fun z => ?_⟩
      rw [hM.1] at z; omega
    | succ r ih =>
      intro k hk kp
      unfold pfd at kp
      refine f_M_indexOf_2 ⟨fun z => ?_, fun _ => ⟨by omega, by omega, ?_⟩⟩
      · rw [hM.1] at z; omega
      rw [hM.2.2.1 k (by omega)]
      refine ⟨fun h => ⟨am_RI (by omega) (by omega), ?_⟩, fun h => ?_⟩
      · rw [if_neg (fun e => h (lcmp0.mpr e))] at kp
        exact ih (k + 1) (by omega) kp
      · rw [if_pos (lcmp0.mp (Decidable.byContradiction h))] at kp
        exact kp
  exact f_M_indexOf (main n 0 (by omega) kpost)
def a_tch (s : Sv) (x : Int64) : List Nat := htouch (s.1 1) (s.1 4) (h_hash x (s.1 0))
def a_pass (s : Sv) (x : Int64) : Bool := decide (h_print (h_hash x (s.1 0)) (s.1 2) = (xr s.2.1 (a_tch s x)).toInt)
def a_val (s : Sv) (x : Int64) : Int := (xr s.2.2 (a_tch s x)).toInt
abbrev mkF : List Nat := [18, 19, 2702, 2703, 2705, 2706, 2707]
theorem c_saim {d : Nat} {P : am_M → Prop} {m : am_M} {s : Sv} (hS : CS0 m (some s)) (kpost : ∀ m' : am_M, MarkA m' (s.1 0) (s.1 1) (s.1 2) (s.1 4) → Fr CF CF2 m m' → P m') : am_OkV (d + 3) 64 [.inr (.inr 42), .inr (.inr 17)] m P := by
  obtain ⟨h0, hok, hfa, -, -⟩ := hS
  obtain ⟨ok0, ok1, ok2, ok3, ok4, -⟩ := hok
  refine f_Sieve_aim ⟨by decide, by decide, by decide, by decide, by decide, by decide, by decide, by decide, ?_⟩
  rw [show m.1 43 0 = s.1 0 from hfa 0 (by decide), show m.1 43 1 = s.1 1 from hfa 1 (by decide), show m.1 43 2 = s.1 2 from hfa 2 (by decide), show m.1 43 4 = s.1 4 from hfa 4 (by decide)]
  exact c_aim ⟨by omega, by omega⟩ (by omega) ok4 (fun m1 hA hf => kpost m1 hA (hf.mono (by decide) (by decide)))
theorem c_sum_44 {d : Nat} {P : Int → am_M → Prop} {m : am_M} {c sp pr : Nat} {hh : Int64} {F : Nat → Int32} (hc : 0 < c ∧ c ≤ 32) (hT : MarkT m c sp pr hh) (hF : FilM m 44 F) (kpost : P (xr F (htouch c sp hh)).toInt m) : am_OkI (d + 1) 25 [.inr (.inr 17), .inr (.inr 44)] m P := by
  obtain ⟨-, t1, t2, -⟩ := hT
  have hok := htouch_ok sp hh hc.1
  have main : ∀ (l : List Nat) (j : Nat) (a : Int32), (htouch c sp hh).drop j = l → P (a ^^^ xr F l).toInt m → am_GI (d + 1) 25 P 4 [(0, .inr (.inr 17)), (1, .inr (.inr 44)), (2, .inl a.toInt), (3, .inl j)] [] m := by
    intro l
    induction l with
    | nil =>
      intro j a hl kp
      have hj : (htouch c sp hh).length ≤ j := List.drop_eq_nil_iff.mp hl
      unfold xr at kp
      rw [Int32.xor_zero] at kp
      refine f_Marks_sum_44_4 ⟨fun _ => kp, fun z => ?_⟩
      rw [t1] at z; omega
    | cons x l ih =>
      intro j a hl kp
      have hj : j < (htouch c sp hh).length := by
        rcases Nat.lt_or_ge j (htouch c sp hh).length with h | h
        · exact h
        · rw [List.drop_eq_nil_iff.mpr h] at hl; cases hl
      have hx : (htouch c sp hh)[j]? = some x := by
        have := congrArg List.head? hl
        rw [List.head?_drop] at this
        exact this
      have htl : (htouch c sp hh).drop (j + 1) = l := by
        rw [← List.tail_drop, hl]; rfl
      have hxN := hok.2.2 x (List.mem_of_getElem? hx)
      refine f_Marks_sum_44_4 ⟨fun z => ?_, fun _ => ⟨by omega, by rcases hok.1 with e | e <;> omega, ?_⟩⟩
      · rw [t1] at z; omega
      rw [t2 j x hx, hF x (by omega), xor_int]
      refine ⟨by omega, by omega, am_RI (by omega) (by rcases hok.1 with e | e <;> omega), ?_⟩
      refine ih (j + 1) _ htl ?_
      unfold xr at kp
      rw [← Int32.xor_assoc] at kp
      exact kp
  refine f_Marks_sum_44 (main _ 0 0 rfl ?_)
  rw [Int32.zero_xor]
  exact kpost
theorem c_sum_45 {d : Nat} {P : Int → am_M → Prop} {m : am_M} {c sp pr : Nat} {hh : Int64} {F : Nat → Int32} (hc : 0 < c ∧ c ≤ 32) (hT : MarkT m c sp pr hh) (hF : FilM m 45 F) (kpost : P (xr F (htouch c sp hh)).toInt m) : am_OkI (d + 1) 25 [.inr (.inr 17), .inr (.inr 45)] m P := by
  obtain ⟨-, t1, t2, -⟩ := hT
  have hok := htouch_ok sp hh hc.1
  have main : ∀ (l : List Nat) (j : Nat) (a : Int32), (htouch c sp hh).drop j = l → P (a ^^^ xr F l).toInt m → am_GI (d + 1) 25 P 4 [(0, .inr (.inr 17)), (1, .inr (.inr 45)), (2, .inl a.toInt), (3, .inl j)] [] m := by
    intro l
    induction l with
    | nil =>
      intro j a hl kp
      have hj : (htouch c sp hh).length ≤ j := List.drop_eq_nil_iff.mp hl
      unfold xr at kp
      rw [Int32.xor_zero] at kp
      refine f_Marks_sum_45_4 ⟨fun _ => kp, fun z => ?_⟩
      rw [t1] at z; omega
    | cons x l ih =>
      intro j a hl kp
      have hj : j < (htouch c sp hh).length := by
        rcases Nat.lt_or_ge j (htouch c sp hh).length with h | h
        · exact h
        · rw [List.drop_eq_nil_iff.mpr h] at hl; cases hl
      have hx : (htouch c sp hh)[j]? = some x := by
        have := congrArg List.head? hl
        rw [List.head?_drop] at this
        exact this
      have htl : (htouch c sp hh).drop (j + 1) = l := by
        rw [← List.tail_drop, hl]; rfl
      have hxN := hok.2.2 x (List.mem_of_getElem? hx)
      refine f_Marks_sum_45_4 ⟨fun z => ?_, fun _ => ⟨by omega, by rcases hok.1 with e | e <;> omega, ?_⟩⟩
      · rw [t1] at z; omega
      rw [t2 j x hx, hF x (by omega), xor_int]
      refine ⟨by omega, by omega, am_RI (by omega) (by rcases hok.1 with e | e <;> omega), ?_⟩
      refine ih (j + 1) _ htl ?_
      unfold xr at kp
      rw [← Int32.xor_assoc] at kp
      exact kp
  refine f_Marks_sum_45 (main _ 0 0 rfl ?_)
  rw [Int32.zero_xor]
  exact kpost
theorem c_letsThrough {d : Nat} {P : Int → am_M → Prop} {m : am_M} {s : Sv} {x : Int64} (hS : CS0 m (some s)) (hT : MarkT m (s.1 1) (s.1 4) (s.1 2) (h_hash x (s.1 0))) (kpost : P (if a_pass s x = true then 1 else 0) m) : am_OkI (d + 2) 65 [.inr (.inr 42), .inr (.inr 17)] m P := by
  obtain ⟨h0, hok, hfa, hp, -⟩ := hS
  obtain ⟨ok0, ok1, ok2, ok3, ok4, -⟩ := hok
  unfold a_pass at kpost
  refine f_Sieve_letsThrough (c_sum_44 ⟨by omega, by omega⟩ hT hp ?_)
  rw [hT.2.2.2]
  refine ⟨fun h => ⟨Or.inl rfl, ?_⟩, fun h => ⟨Or.inr rfl, ?_⟩⟩
  · rw [if_neg (by simp only [decide_eq_true_eq]; exact h)] at kpost; exact kpost
  · rw [if_pos (by simp only [decide_eq_true_eq]; exact Decidable.byContradiction h)] at kpost; exact kpost
theorem xr_app {F : Nat → Int32} : ∀ {l1 l2 : List Nat}, xr F (l1 ++ l2) = xr F l1 ^^^ xr F l2
  | [], l2 => by simp [xr]
  | a :: l, l2 => by
    show F a ^^^ xr F (l ++ l2) = (F a ^^^ xr F l) ^^^ xr F l2
    rw [xr_app, Int32.xor_assoc]
theorem xr_ut {F : Nat → Int32} {a b c N : Nat} (ha : a < N) (hb : b < N) (hc : c < N) : xr F (utset a b c) = xr F (tset a b c) := by
  obtain ⟨-, t2, t3⟩ := tset_ok ha hb hc
  rw [xr_sm (N := N) utset_nodup (fun x hx => t3 x (mem_utset.mp hx)), xr_sm (N := N) (pw_nodup t2) t3]
  refine xsm_congr (fun x _ => ?_)
  by_cases e : x ∈ tset a b c
  · rw [if_pos e, if_pos (mem_utset.mpr e)]
  · rw [if_neg e, if_neg (fun z => e (mem_utset.mp z))]
theorem r_asks {d : Nat} {P : Int → am_M → Prop} {m : am_M} {s : Sv} {x : Int64} (hS : RSv m 0 (some s)) (kpost : ∀ m' : am_M, m'.1 6548 0 = a_val s x → Fr [67, 6548] [] m m' → P (if a_pass s x = true then 1 else 0) m') : am_OkI (d + 3) 184 [.inr (.inr 55), .inr (.inl x)] m P := by
  obtain ⟨h0, hok, hfa, hpv⟩ := id hS
  obtain ⟨ok0, ok1, ok2, ok3, ok4, -⟩ := hok
  have hfa2 : ∀ i : Nat, i < 7 → m.1 83 i = s.1 i := fun i hi => by
    have := hfa i hi
    rw [show 7 * ((0 : Nat) : Int) + ((i : Nat) : Int) = i by omega] at this
    exact this
  refine f_M_asks ⟨by decide, by decide, ?_⟩
  rw [show m.1 83 0 = s.1 0 from hfa2 0 (by decide)]
  refine r_hashOf ⟨by decide, by decide, by decide, by decide, ?_⟩
  rw [show m.1 83 1 = s.1 1 from hfa2 1 (by decide), show m.1 83 4 = s.1 4 from hfa2 4 (by decide)]
  refine r_lays3 ⟨by omega, by omega⟩ ok4 (fun m1 hc3 hf1 => ?_)
  generalize hhe : h_hash x (s.1 0) = hh at *
  have hlt : ∀ j, j < 3 → h3 (s.1 1) (s.1 4) hh j < 3 * s.1 1 := fun j hj => h3_lt (s.1 4) hh (by omega) hj
  have main : ∀ (r j : Nat) (m2 : am_M), j + r = 3 → Fr [67, 6548] [] m m2 → (∀ i : Nat, i < 3 → m2.1 67 i = h3 (s.1 1) (s.1 4) hh i) → m2.1 6548 0 = (xr s.2.2 (ulist (h3 (s.1 1) (s.1 4) hh) j)).toInt → am_GI (d + 3) 184 P 40 [(0, .inr (.inr 55)), (3, .inr (.inl hh)), (5, .inl (xr s.2.1 (ulist (h3 (s.1 1) (s.1 4) hh) j)).toInt), (6, .inl j)] [] m2 := by
    intro r
    induction r with
    | zero =>
      intro j m2 hj hf2 hc2 ha
      have : j = 3 := by omega
      subst this
      rw [ulist3, xr_ut (hlt 0 (by decide)) (hlt 1 (by decide)) (hlt 2 (by decide))] at ha
      rw [ulist3, xr_ut (hlt 0 (by decide)) (hlt 1 (by decide)) (hlt 2 (by decide))]
      refine f_M_asks_40 ⟨fun _ => ⟨by decide, by decide, ?_⟩, fun z => absurd (by decide) z⟩
      rw [show m2.1 83 2 = s.1 2 by rw [hf2.1 _ (by decide)]; exact hfa2 2 (by decide)]
      refine r_printOf (by omega) ?_
      have kp := kpost m2 (by rw [ha]; unfold a_val a_tch htouch; rw [hhe]) hf2
      unfold a_pass a_tch htouch at kp
      rw [hhe] at kp
      refine ⟨fun h => ⟨Or.inl rfl, ?_⟩, fun h => ⟨Or.inr rfl, ?_⟩⟩
      · rw [if_neg (by simp only [decide_eq_true_eq]; exact fun e => h e.symm)] at kp; exact kp
      · rw [if_pos (by simp only [decide_eq_true_eq]; exact (Decidable.byContradiction h).symm)] at kp; exact kp
    | succ r ih =>
      intro j m2 hj hf2 hc2 ha
      refine f_M_asks_40 ⟨fun z => by omega, fun _ => r_touchesBy (by omega) hc2 ?_⟩
      have hcj := hc2 j (by omega)
      have hl := hlt j (by omega)
      by_cases ht : tbv (h3 (s.1 1) (s.1 4) hh) j 3 0 0 = true
      · rw [if_pos ht]
        have hul : ulist (h3 (s.1 1) (s.1 4) hh) (j + 1) = ulist (h3 (s.1 1) (s.1 4) hh) j ++ [h3 (s.1 1) (s.1 4) hh j] := by
          show _ ++ _ = _
          rw [if_pos ht]
        have hpj := hpv (h3 (s.1 1) (s.1 4) hh j) (by omega)
        rw [show 96 * ((0 : Nat) : Int) + ((h3 (s.1 1) (s.1 4) hh j : Nat) : Int) = h3 (s.1 1) (s.1 4) hh j by omega] at hpj
        refine ⟨fun _ => ⟨by omega, by omega, ?_⟩, fun z => absurd (by decide) z⟩
        rw [hcj, show m2.1 84 = m.1 84 from hf2.1 _ (by decide), show m2.1 85 = m.1 85 from hf2.1 _ (by decide), hpj.1, hpj.2, ha, xor_int, xor_int]
        refine ⟨by omega, by omega, by omega, by omega, by omega, by omega, am_RI (by omega) (by omega), ?_⟩
        have h2 := ih (j + 1) (am_wr m2 6548 0 (xr s.2.2 (ulist (h3 (s.1 1) (s.1 4) hh) j) ^^^ s.2.2 (h3 (s.1 1) (s.1 4) hh j)).toInt) (by omega) (hf2.wr (by decide)) (fun i hi => by rw [wr_ne _ _ _ (by decide)]; exact hc2 i hi) (by rw [wr_at, if_pos rfl, hul, xr_app]; simp [xr])
        rw [hul, xr_app] at h2
        simp only [xr, Int32.xor_zero] at h2
        exact h2
      · rw [if_neg ht]
        have hul : ulist (h3 (s.1 1) (s.1 4) hh) (j + 1) = ulist (h3 (s.1 1) (s.1 4) hh) j := by
          show _ ++ _ = _
          rw [if_neg ht, List.append_nil]
        refine ⟨fun z => absurd rfl z, fun _ => ⟨am_RI (by omega) (by omega), ?_⟩⟩
        have h2 := ih (j + 1) m2 (by omega) hf2 hc2 (by rw [hul]; exact ha)
        rw [hul] at h2
        exact h2
  exact main 3 0 _ (by omega) ((hf1.mono (by decide) (by decide)).wr (by decide)) (fun i hi => by rw [wr_ne _ _ _ (by decide)]; exact hc3 i hi) (by rw [wr_at, if_pos rfl]; rfl)
