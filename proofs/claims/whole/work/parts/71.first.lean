/-! THE START: everything that is only read -/
def stD (D : va_G) (I : Nat → ClassId) (tl th t0 : Nat) (adK adV : Nat → Nat) (s : State) : Prop :=
  va_K D vwCl (kt I) s ∧ kX I s.heap.size t0 s s.heap
  ∧ (va_Z "TripleSieve" "LOWEST" "[I" (.ref tl) (a0 s) s s.heap ∧ va_T .int tl 7 (fun j => .int (Int32.ofInt (am_tab 900 (j : Int)))) (a0 s) s s.heap)
  ∧ (va_Z "TripleSieve" "HIGHEST" "[I" (.ref th) (a0 s) s s.heap ∧ va_T .int th 7 (fun j => .int (Int32.ofInt (am_tab 901 (j : Int)))) (a0 s) s s.heap)
  ∧ (va_Z "TripleSieve" "UNTOLD" "[I" (.ref t0) (a0 s) s s.heap ∧ va_T .int t0 7 (fun j => .int (Int32.ofInt (am_tab 902 (j : Int)))) (a0 s) s s.heap)
  ∧ (vk_S 14 (am_str.map String.length) ((List.range 14).map am_strT) adK adV (a0 s) s s.heap ∧ va_Z "java/lang/String" "COMPACT_STRINGS" "Z" (.int 1) (a0 s) s s.heap ∧ va_Zq "jdk/internal/util/Preconditions" "SIOOBE_FORMATTER" "Ljava/util/function/BiFunction;" (a0 s) s s.heap)
  ∧ (∀ i : Nat, i < 14 → vk_R "TripleSieve$Reader" (ixS.getD i 0) (am_str.getD i "") (adK i) s)
  ∧ (∀ w ∈ am_nst, va_Nw w s) ∧ xS (a0 s) s s.heap
theorem st_len {args : Array Value} {s : State} {t : Term} {v : Value} {b : Addr} {cell : Cell} (ht : t.eval args s none [] s = some (.ref b)) (harr : s.arrayAt? b = some cell) (hv : (Term.length t).eval args s none [] s = some v) : cell.slots.size < 2147483648 := by
  simp only [Term.eval, ht, harr, Option.bind_eq_bind, Option.bind_some] at hv
  by_cases hlt : cell.slots.size < 2147483648
  · exact hlt
  · simp [hlt] at hv
theorem str_small : ∀ i : Nat, i < 14 → (am_str.map String.length).getD i 0 < 2 ^ 31 := by decide +kernel
theorem st_all {args : Array Value} {s : State} (hts : ∀ w ∈ lw_tbl, w.before args s = true) (hgv : (Jvm.Cond.and given_1 narrow_1).before args s = true) : ∃ D I tl th t0 adK adV, stD D I tl th t0 adK adV s := by
  have hn : ∀ (i : Nat) (w : Cond), nrw[i]? = some w → w.before args s = true := fun i w h => flat_of_before _ hgv w (List.mem_of_getElem? h)
  obtain ⟨D, I, hK, hI⟩ := st_K hts
  obtain ⟨tl, l1, l2, -⟩ := st_tab (q := 900) hts (List.mem_of_getElem? (i := 613) (by decide +kernel)) (hn _ _ nw_LOWEST.1) (hn _ _ nw_LOWEST.2.1) (fun j hj => hn _ _ (nw_LOWEST.2.2 j hj))
  obtain ⟨th, h1, h2, -⟩ := st_tab (q := 901) hts (List.mem_of_getElem? (i := 615) (by decide +kernel)) (hn _ _ nw_HIGHEST.1) (hn _ _ nw_HIGHEST.2.1) (fun j hj => hn _ _ (nw_HIGHEST.2.2 j hj))
  obtain ⟨t0, u1, u2, u3⟩ := st_tab (q := 902) hts (List.mem_of_getElem? (i := 187) (by decide +kernel)) (hn _ _ nw_UNTOLD.1) (hn _ _ nw_UNTOLD.2.1) (fun j hj => hn _ _ (nw_UNTOLD.2.2 j hj))
  obtain ⟨adK, adV, hS, hE⟩ := vk_Sof (N := 14) (tm := tmS) (len := am_str.map String.length) (byt := (List.range 14).map am_strT) (A := a0 s) str_small (fun i hi => hn _ _ (nw_str i hi).1) (fun i hi => hn _ _ (nw_str i hi).2.1) (fun i hi => hn _ _ (nw_str i hi).2.2.1) (fun i hi => hn _ _ (nw_str i hi).2.2.2) (fun i hi j hj => hn _ _ (nw_chr i hi j hj))
    (fun i j hi hj hij => by
      rcases Nat.lt_or_gt_of_ne hij with h | h
      · exact Or.inl (hn _ _ (nw_ne j hj i h))
      · exact Or.inr (hn _ _ (nw_ne i hi j h))) (a0_no s)
  have hnst := st_nst hts
  refine ⟨D, I, tl, th, t0, adK, adV, hK, ⟨⟨u1, ?_⟩, hnst, va_Nw.of rfl (hts _ (List.mem_of_getElem? (i := 193) (by decide +kernel))), va_AO.of (hts (.arrayOver (.object "TripleSieve$Sieve")) (List.mem_of_getElem? (i := 456) (by decide +kernel)))⟩, ⟨l1, l2⟩, ⟨h1, h2⟩, ⟨u1, u2⟩, ⟨hS, va_Zof (hts _ (List.mem_of_getElem? (i := 572) (by decide +kernel))) (hts _ (List.mem_of_getElem? (i := 122) (by decide +kernel))) (st_eqi (hn _ _ nw_oth.1)) (a0_no s), va_Zqof (hts _ (List.mem_of_getElem? (i := 588) (by decide +kernel))) (hts _ (List.mem_of_getElem? (i := 124) (by decide +kernel))) (hn _ _ nw_oth.2.1) (a0_no s)⟩,
    fun i hi => vk_R.of (hts _ (List.mem_of_getElem? (nw_ref i hi))) (hE i hi), hnst,
    vx_Zqof (hts _ (List.mem_of_getElem? (i := 1082) (by decide +kernel))) (hts _ (List.mem_of_getElem? (i := 126) (by decide +kernel))) (hn _ _ nw_oth.2.2.1) (a0_no s), vx_Zqof (hts _ (List.mem_of_getElem? (i := 1084) (by decide +kernel))) (hts _ (List.mem_of_getElem? (i := 126) (by decide +kernel))) (hn _ _ nw_oth.2.2.2.1) (a0_no s), fun w hw => va_Nw.of (nsB_on w hw) (hts w (nsB_tbl w hw))⟩
  obtain ⟨cell, c1, c2, c3, c4, c5, c6, c7⟩ := u2
  obtain ⟨a, c, cell2, k, e1, e2, e3, e4, e5, e6, -⟩ := Cond.exactly_spec (hn _ _ nw_oth.2.2.2.2)
  cases Option.some.inj (e1.symm.trans u3)
  cases Option.some.inj (e3.symm.trans c1)
  have hsz : cell.slots.size = 7 := by
    have hv := st_eqi (hn _ _ nw_UNTOLD.2.1)
    obtain ⟨b2, cell3, g1, g2, g3⟩ := Term.length_spec hv
    cases Option.some.inj (g1.symm.trans u3)
    obtain ⟨g4, -, -, -⟩ := State.arrayAt?_spec g2
    cases Option.some.inj (g4.symm.trans c1)
    have hlt := st_len g1 g2 hv
    have h9 := congrArg Int32.toInt c5
    have h8 : (cell.slots.size.toInt32).toInt = (cell.slots.size : Int) := Int32.toInt_ofNat_small hlt
    rw [h8] at h9
    have h7 : (Int32.ofNat 7).toInt = 7 := by decide
    rw [h7] at h9
    omega
  refine ⟨cell, c1, fun k h => (by rw [h] at e5; cases e5), c3, ?_, ?_, c7⟩
  · rw [e6]
    exact Option.some.inj (e2.symm.trans hI)
  · apply Array.ext_getElem?
    intro j
    by_cases hj : j < 7
    · rw [c6 j hj]
      exact (arrV_read (I 100) (fun j => .int (Int32.ofInt (am_tab 902 (j : Int)))) hj).symm
    · rw [Array.getElem?_eq_none (by omega), Array.getElem?_eq_none (by show (arrV _ _ _).slots.size ≤ j; rw [arrV_size]; omega)]
