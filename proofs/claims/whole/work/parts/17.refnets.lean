/-! THE REFERENCE: nets -/
def lwo (O : Int → Int) : Nat → Nat → Bool
  | 0, _ => true
  | w + 1, k => lwo O w k && decide (O w ≠ k)
abbrev netF : List Nat := [67, 68, 69, 70, 71, 72, 6530]
theorem r_nets {d : Nat} {P : am_M → Prop} {m : am_M} {n : Nat} {K : Nat → Int64} {V S : Nat → Nat} {seed : Int} {c wo : Nat} (hM : MSt m n K V S) (hc : 0 < c ∧ c ≤ 32) (hwo : wo ≤ 3)
    (kpost : ∀ m' : am_M, RefC m' (UT K seed c (S 6)) n → RefD m' (TT K seed c (S 6)) n (lwo (m.1 73) wo) → Fr netF [] m m' → P m') : am_OkV (d + 3) 158 [.inr (.inr 55), .inl c, .inr (.inl (am_i2l seed)), .inl wo] m P := by
  obtain ⟨g1, g2, g3, -, g5, ⟨-, -, -, -, -, s6⟩, -⟩ := id hM
  -- the main loop
  have main : ∀ (r k : Nat) (m' : am_M), k + r = n → Fr netF [] m m' → RefC m' (UT K seed c (S 6)) k → RefD m' (TT K seed c (S 6)) k (lwo (m.1 73) wo) → am_GV (d + 3) 158 P 40 [(0, .inr (.inr 55)), (1, .inl c), (2, .inr (.inl (am_i2l seed))), (4, .inl wo), (5, .inl k)] [] m' := by
    intro r
    induction r with
    | zero =>
      intro k m' hk hf hC hD
      have hkn : k = n := by omega
      subst hkn
      refine f_M_nets_40 ?_
      rw [show m'.1 6521 0 = k by rw [hf.1 _ (by decide)]; exact g1]
      exact ⟨fun _ => kpost m' hC hD hf, fun hh => by omega⟩
    | succ r ih =>
      intro k m' hk hf hC hD
      refine f_M_nets_40 ?_
      rw [show m'.1 6521 0 = n by rw [hf.1 _ (by decide)]; exact g1, show m'.2 57 k = K k by rw [hf.2 _ (by decide)]; exact g3 k (by omega)]
      refine ⟨fun hh => by omega, fun _ => ⟨by omega, by omega, r_hashOf (d := d) ?_⟩⟩
      rw [show m'.1 63 6 = S 6 by rw [hf.1 _ (by decide)]; exact g5 6 (by decide) (by decide)]
      refine ⟨by omega, by omega, r_lays3 (d := d) hc s6 (fun m3 h3j hf3 => ⟨by omega, by omega, ?_⟩)⟩
      have hul := ulist3 (fun j => h3 c (S 6) (h_hash (K k) seed) j)
      generalize hff : (fun j => h3 c (S 6) (h_hash (K k) seed) j) = f at hul
      have h3f : ∀ j : Nat, j < 3 → m3.1 67 j = f j := fun j hj => by rw [← hff]; exact h3j j hj
      have hUk : UT K seed c (S 6) k = ulist f 3 := by rw [hul]; rfl
      have hfm3 : Fr netF [] m m3 := hf.tr1 (hf3.mono (by decide) (by decide))
      have hullen : ∀ j, (ulist f j).length ≤ j := by
        intro j
        induction j with
        | zero => simp [ulist]
        | succ j ihj =>
          simp only [ulist, List.length_append]
          split <;> simp <;> omega
      have hC3 : RefC m3 (UT K seed c (S 6)) k := hC.fr hf3 (by decide)
      have hD3 : RefD m3 (TT K seed c (S 6)) k (lwo (m.1 73) wo) := hD.fr hf3 (by decide)
      -- 212: the cells' loads
      have adds : ∀ (l : List Nat) (j : Nat) (m5 m6 : am_M), (UT K seed c (S 6) k).drop j = l → l.Nodup → RefC m5 (UT K seed c (S 6)) (k + 1) → Fr [70, 71] [] m5 m6 → (∀ x ∈ l, am_R (m6.1 70 (x : Int) + 1) ∧ am_R (m6.1 71 (x : Int) + k)) → am_GV (d + 3) 158 P 40 [(0, .inr (.inr 55)), (1, .inl c), (2, .inr (.inl (am_i2l seed))), (4, .inl wo), (5, .inl ((k : Int) + 1))] [] (tk 70 71 (fun z => z + 1) (fun z => z + k) m6 l) → am_GV (d + 3) 158 P 212 [(0, .inr (.inr 55)), (1, .inl c), (2, .inr (.inl (am_i2l seed))), (4, .inl wo), (5, .inl k), (6, .inl j)] [] m6 := by
        intro l
        induction l with
        | nil =>
          intro j m5 m6 hd _ hC5 hf6 _ hp
          obtain ⟨q1, q2⟩ := hC5 k (by omega)
          have hj : (UT K seed c (S 6) k).length ≤ j := by
            have := congrArg List.length hd
            rw [List.length_drop] at this
            simp at this
            omega
          refine f_M_nets_212 ?_
          rw [show m6.1 69 k = (UT K seed c (S 6) k).length by rw [hf6.1 _ (by decide)]; exact q1]
          exact ⟨by omega, by omega, fun _ => ⟨am_RI (by omega) (by omega), hp⟩, fun hh => by omega⟩
        | cons a l ihl =>
          intro j m5 m6 hd hnd hC5 hf6 hb hp
          obtain ⟨q1, q2⟩ := hC5 k (by omega)
          have ha0 : (UT K seed c (S 6) k)[j]? = some a := by
            have := congrArg (fun z => z[0]?) hd
            simpa using this
          have hjl : j < (UT K seed c (S 6) k).length := (List.getElem?_eq_some_iff.mp ha0).1
          have haN : a < 3 * c := (htouch_ok (S 6) (h_hash (K k) seed) hc.1).2.2 a (mem_UT.mp (List.mem_of_getElem? ha0))
          have hl3 : (UT K seed c (S 6) k).length ≤ 3 := by rw [hUk]; exact hullen 3
          rw [List.nodup_cons] at hnd
          refine f_M_nets_212 ?_
          rw [show m6.1 69 k = (UT K seed c (S 6) k).length by rw [hf6.1 _ (by decide)]; exact q1, show m6.1 68 (3 * k + j) = a by rw [hf6.1 _ (by decide)]; exact q2 j a ha0]
          refine ⟨by omega, by omega, fun hh => by omega, fun _ => ⟨am_RI (by omega) (by omega), am_RI (by omega) (by omega), by omega, by omega, by omega, by omega, (hb a List.mem_cons_self).1, by omega, by omega, am_RI (by omega) (by omega), am_RI (by omega) (by omega), by omega, by omega, by omega, by omega, (hb a List.mem_cons_self).2, by omega, by omega, am_RI (by omega) (by omega), ?_⟩⟩
          refine ihl (j + 1) m5 _ (by rw [← List.drop_drop, hd]; rfl) hnd.2 hC5 ((hf6.wr (by decide)).wr (by decide)) (fun x hx => ?_) hp
          have hxc : x ≠ a := fun e => hnd.1 (e ▸ hx)
          rw [wr_ne _ _ _ (by decide), wr_at, if_neg (by omega), wr_at, if_neg (by omega), wr_ne _ _ _ (by decide)]
          exact hb x (List.mem_cons_of_mem _ hx)
      -- 153: those that are left out
      have outs : ∀ (r2 i : Nat) (m5 : am_M), i + r2 = wo → Fr netF [] m m5 → RefC m5 (UT K seed c (S 6)) (k + 1) → Fr [68, 69, 72] [] m3 m5 → (∀ j : Nat, j < k → m5.1 72 j = m3.1 72 j) → m5.1 72 k = (if lwo (m.1 73) i k = true then 1 else 0) → am_GV (d + 3) 158 P 153 [(0, .inr (.inr 55)), (1, .inl c), (2, .inr (.inl (am_i2l seed))), (4, .inl wo), (5, .inl k), (6, .inl i)] [] m5 := by
        intro r2
        induction r2 with
        | zero =>
          intro i m5 hi hf5 hC5 hf35 hj5 hk5
          have hiw : i = wo := by omega
          subst hiw
          have hpl : pleft (lwo (m.1 73) i) k ≤ k := pleft_le
          have e6530 : m5.1 6530 0 = pleft (lwo (m.1 73) i) k := by rw [hf35.1 _ (by decide)]; exact hD3.1
          have hlx : ∀ x : Nat, x < 96 → m5.1 70 x = pcnt (TT K seed c (S 6)) (lwo (m.1 73) i) x k ∧ m5.1 71 x = psum (TT K seed c (S 6)) (lwo (m.1 73) i) x k := fun x hx => by
            rw [hf35.1 70 (by decide), hf35.1 71 (by decide)]
            exact hD3.2.2 x hx
          have hls : ∀ j : Nat, j < k → m5.1 72 j = if lwo (m.1 73) i j = true then 1 else 0 := fun j hj => by rw [hj5 j hj]; exact hD3.2.1 j hj
          refine f_M_nets_153 ⟨fun _ => ?_, fun hh => by omega⟩
          rw [hk5, e6530]
          refine ⟨by omega, by omega, fun hne => ⟨am_RI (by omega) (by omega), ?_⟩, fun he => ⟨am_RI (by omega) (by omega), ?_⟩⟩
          · have hlk : lwo (m.1 73) i k = true := Classical.byContradiction fun hh => hne (by rw [if_neg hh])
            have hfx : Fr [6530] [] m5 (am_wr m5 6530 0 ((pleft (lwo (m.1 73) i) k : Int) + 1)) := Fr.rf.wr (by decide)
            have hC6 : RefC (am_wr m5 6530 0 ((pleft (lwo (m.1 73) i) k : Int) + 1)) (UT K seed c (S 6)) (k + 1) := hC5.fr hfx (by decide)
            refine adds (UT K seed c (S 6) k) 0 _ _ rfl utset_nodup hC6 Fr.rf (fun x hx => ?_) ?_
            · have hxN : x < 96 := by have := (htouch_ok (S 6) (h_hash (K k) seed) hc.1).2.2 x (mem_UT.mp hx); omega
              rw [wr_ne _ _ _ (by decide), wr_ne _ _ _ (by decide), (hlx x hxN).1, (hlx x hxN).2]
              have h1 : pcnt (TT K seed c (S 6)) (lwo (m.1 73) i) x k ≤ k := pcnt_le
              have h2 : psum (TT K seed c (S 6)) (lwo (m.1 73) i) x k ≤ k * k := psum_le
              have h3 : k * k ≤ 48 * 48 := Nat.mul_le_mul (by omega) (by omega)
              exact ⟨am_RI (by omega) (by omega), am_RI (by omega) (by omega)⟩
            · obtain ⟨hf2, hs⟩ := tk_spec (i1 := 70) (i2 := 71) (g1 := fun z => z + 1) (g2 := fun z => z + k) (by decide) (m := am_wr m5 6530 0 ((pleft (lwo (m.1 73) i) k : Int) + 1)) (l := UT K seed c (S 6) k) utset_nodup
              refine ih (k + 1) _ (by omega) ((hf5.tr1 (hfx.mono (by decide) (by decide))).tr1 (hf2.mono (by decide) (by decide))) (hC6.fr hf2 (by decide)) ⟨?_, fun j hj => ?_, fun x hx => ?_⟩
              · rw [hf2.1 _ (by decide), wr_at, if_pos rfl, pleft, if_pos hlk]
                omega
              · rw [hf2.1 _ (by decide), wr_ne _ _ _ (by decide)]
                by_cases hjk : j = k
                · subst hjk; exact hk5
                · exact hls j (by omega)
              · obtain ⟨s1, s2⟩ := hs x
                rw [s1, s2, wr_ne _ _ _ (by decide), wr_ne _ _ _ (by decide), (hlx x hx).1, (hlx x hx).2, pcnt, psum]
                by_cases hxk : x ∈ TT K seed c (S 6) k
                · rw [if_pos (mem_UT.mpr hxk), if_pos (mem_UT.mpr hxk), if_pos ⟨hlk, hxk⟩, if_pos ⟨hlk, hxk⟩]
                  exact ⟨by omega, by omega⟩
                · rw [if_neg (fun z => hxk (mem_UT.mp z)), if_neg (fun z => hxk (mem_UT.mp z)), if_neg (fun z => hxk z.2), if_neg (fun z => hxk z.2)]
                  exact ⟨by omega, by omega⟩
          · have hlk : ¬ lwo (m.1 73) i k = true := fun hh => he (by rw [if_pos hh]; decide)
            refine ih (k + 1) m5 (by omega) hf5 hC5 ⟨?_, fun j hj => ?_, fun x hx => ?_⟩
            · rw [e6530, pleft, if_neg hlk]
              omega
            · by_cases hjk : j = k
              · subst hjk; exact hk5
              · exact hls j (by omega)
            · rw [(hlx x hx).1, (hlx x hx).2, pcnt, psum, if_neg (fun z => hlk z.1), if_neg (fun z => hlk z.1)]
              exact ⟨by omega, by omega⟩
        | succ r2 ih2 =>
          intro i m5 hi hf5 hC5 hf35 hj5 hk5
          refine f_M_nets_153 ⟨fun hh => by omega, fun _ => ?_⟩
          rw [show m5.1 73 = m.1 73 from hf5.1 _ (by decide)]
          refine ⟨by omega, by omega, fun hne => ⟨am_RI (by omega) (by omega), ih2 (i + 1) m5 (by omega) hf5 hC5 hf35 hj5 ?_⟩, fun he => ⟨by omega, by omega, Or.inl rfl, am_RI (by omega) (by omega), ih2 (i + 1) _ (by omega) (hf5.wr (by decide)) (hC5.fr (Fr.rf.wr (l1 := [72]) (l2 := []) (by decide)) (by decide)) (hf35.wr (by decide)) (fun j hj => ?_) ?_⟩⟩
          · rw [hk5]
            simp only [lwo, Bool.and_eq_true, decide_eq_true_eq]
            by_cases h : lwo (m.1 73) i k = true
            · rw [if_pos h, if_pos ⟨h, hne⟩]
            · rw [if_neg h, if_neg (fun z => h z.1)]
          · rw [wr_at, if_neg (by omega)]
            exact hj5 j hj
          · rw [wr_at, if_pos rfl]
            simp only [lwo, Bool.and_eq_true, decide_eq_true_eq]
            rw [if_neg (fun z => he z.2)]
      -- 83: the cells of the key
      have cells : ∀ (r2 j : Nat) (m5 : am_M), j + r2 = 3 → Fr [68, 69] [] m3 m5 → m5.1 69 k = (ulist f j).length → (∀ i x : Nat, (ulist f j)[i]? = some x → m5.1 68 (3 * k + i) = x) → (∀ i : Nat, i < k → m5.1 69 i = m3.1 69 i) → (∀ i : Nat, i < 3 * k → m5.1 68 i = m3.1 68 i) → am_GV (d + 3) 158 P 83 [(0, .inr (.inr 55)), (1, .inl c), (2, .inr (.inl (am_i2l seed))), (4, .inl wo), (5, .inl k), (6, .inl j)] [] m5 := by
        intro r2
        induction r2 with
        | zero =>
          intro j m5 hj hf5 u1 u2 u3 u4
          have hj3 : j = 3 := by omega
          subst hj3
          have hC5 : RefC m5 (UT K seed c (S 6)) (k + 1) := by
            intro i hi
            by_cases hik : i = k
            · subst hik
              rw [hUk]
              exact ⟨u1, u2⟩
            · obtain ⟨q1, q2⟩ := hC3 i (by omega)
              have hl3 : (UT K seed c (S 6) i).length ≤ 3 := by
                show (utset _ _ _).length ≤ 3
                rw [utset_len]
                have := (htouch_ok (S 6) (h_hash (K i) seed) hc.1).1
                unfold htouch at this
                omega
              refine ⟨by rw [u3 i (by omega)]; exact q1, fun t x hx => ?_⟩
              have ht := (List.getElem?_eq_some_iff.mp hx).1
              have e3 : 3 * (i : Int) + (t : Int) = ((3 * i + t : Nat) : Int) := by omega
              rw [e3, u4 _ (by omega), ← e3]
              exact q2 t x hx
          have hfx : Fr [72] [] m5 (am_wr m5 72 k 1) := Fr.rf.wr (by decide)
          refine f_M_nets_83 ⟨fun _ => ⟨by omega, by omega, Or.inr rfl, outs wo 0 _ (by omega) ((hfm3.tr1 (hf5.mono (by decide) (by decide))).tr1 (hfx.mono (by decide) (by decide))) (hC5.fr hfx (by decide)) (hf5.tr hfx (by decide) (by decide) (by decide) (by decide)) (fun i hi => ?_) ?_⟩, fun hh => by omega⟩
          · rw [wr_at, if_neg (by omega), hf5.1 _ (by decide)]
          · rw [wr_at, if_pos rfl]; rfl
        | succ r2 ih2 =>
          intro j m5 hj hf5 u1 u2 u3 u4
          have h5j : ∀ i : Nat, i < 3 → m5.1 67 i = f i := fun i hi => by rw [hf5.1 _ (by decide)]; exact h3f i hi
          have hlj := hullen j
          refine f_M_nets_83 ⟨fun hh => by omega, fun _ => r_touchesBy (by omega) h5j ?_⟩
          rw [u1, h5j j (by omega)]
          by_cases htb : tbv f j 3 0 0 = true
          · rw [if_pos htb]
            refine ⟨fun _ => ⟨am_RI (by omega) (by omega), by omega, by omega, am_RI (by omega) (by omega), by omega, by omega, by omega, by omega, by omega, by omega, am_RI (by omega) (by omega), by omega, by omega, am_RI (by omega) (by omega), ?_⟩, fun hz => absurd (by decide) hz⟩
            refine ih2 (j + 1) _ (by omega) ((hf5.wr (by decide)).wr (by decide)) ?_ (fun i x hx => ?_) (fun i hi => ?_) (fun i hi => ?_)
            · rw [wr_at, if_pos rfl, ulist, if_pos htb, List.length_append]; simp
            · rw [wr_ne _ _ _ (by decide), wr_at]
              rw [ulist, if_pos htb] at hx
              by_cases hi : i = (ulist f j).length
              · subst hi
                rw [List.getElem?_append_right (by omega)] at hx
                simp at hx
                rw [if_pos rfl, hx]
              · have hl := (List.getElem?_eq_some_iff.mp hx).1
                simp at hl
                rw [List.getElem?_append_left (by omega)] at hx
                rw [if_neg (by omega)]
                exact u2 i x hx
            · rw [wr_at, if_neg (by omega), wr_ne _ _ _ (by decide)]
              exact u3 i hi
            · rw [wr_ne _ _ _ (by decide), wr_at, if_neg (by omega)]
              exact u4 i hi
          · rw [if_neg htb]
            refine ⟨fun hz => absurd rfl hz, fun _ => ⟨am_RI (by omega) (by omega), ih2 (j + 1) m5 (by omega) hf5 ?_ ?_ u3 u4⟩⟩
            · rw [ulist, if_neg htb, List.append_nil]; exact u1
            · rw [ulist, if_neg htb, List.append_nil]; exact u2
      refine cells 3 0 _ (by omega) (Fr.rf.wr (by decide)) ?_ (fun i x hx => by simp [ulist] at hx) (fun i hi => ?_) (fun i hi => ?_)
      · rw [wr_at, if_pos rfl]; rfl
      · rw [wr_at, if_neg (by omega)]
      · rw [wr_ne _ _ _ (by decide)]
  -- 3: empty cells
  have zero : ∀ (r x : Nat) (m' : am_M), x + r = 96 → Fr [70, 71] [] m m' → (∀ y : Nat, y < x → m'.1 70 y = 0 ∧ m'.1 71 y = 0) → am_GV (d + 3) 158 P 3 [(0, .inr (.inr 55)), (1, .inl c), (2, .inr (.inl (am_i2l seed))), (4, .inl wo), (5, .inl x)] [] m' := by
    intro r
    induction r with
    | zero =>
      intro x m' hx hf hz
      refine f_M_nets_3 ⟨fun _ => main n 0 _ (by omega) ((hf.mono (by decide) (by decide)).wr (by decide)) (fun k hk => absurd hk (by omega)) ⟨?_, fun k hk => absurd hk (by omega), fun y hy => ?_⟩, fun hh => by omega⟩
      · rw [wr_at, if_pos rfl]; rfl
      · rw [wr_ne _ _ _ (by decide), wr_ne _ _ _ (by decide), (hz y (by omega)).1, (hz y (by omega)).2]
        exact ⟨rfl, rfl⟩
    | succ r ih =>
      intro x m' hx hf hz
      refine f_M_nets_3 ⟨fun hh => by omega, fun _ => ⟨by omega, by omega, by omega, by omega, am_RI (by omega) (by omega), ih (x + 1) _ (by omega) ((hf.wr (by decide)).wr (by decide)) (fun y hy => ?_)⟩⟩
      rw [wr_ne _ _ _ (by decide), wr_at, wr_at, wr_ne _ _ _ (by decide)]
      by_cases hyx : y = x
      · rw [if_pos (by omega), if_pos (by omega)]; exact ⟨rfl, rfl⟩
      · rw [if_neg (by omega), if_neg (by omega)]; exact hz y (by omega)
  exact f_M_nets (zero 96 0 m (by omega) Fr.rf (fun y hy => by omega))
