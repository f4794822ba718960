/-! THE READER of the class -/
def DSt (m : am_M) (n : Nat) (K : Nat → Int64) (V S : Nat → Nat) : Prop := m.1 1803 0 = n ∧ n ≤ 48 ∧ (∀ k : Nat, k < n → m.2 9 k = K k) ∧ (∀ k : Nat, k < n → m.1 10 k = V k) ∧ (∀ i : Nat, 1 ≤ i → i ≤ 6 → m.1 11 i = S i) ∧ SOK S ∧ ∀ k, k < n → V k < 2 ^ S 3
theorem DSt.fr {m m' : am_M} {n : Nat} {K : Nat → Int64} {V S : Nat → Nat} (h : DSt m n K V S) {l1 l2 : List Nat} (hf : Fr l1 l2 m m') (h1 : 1803 ∉ l1 ∧ 10 ∉ l1 ∧ 11 ∉ l1 ∧ 9 ∉ l2) : DSt m' n K V S := by
  unfold DSt at *
  rw [hf.1 _ h1.1, hf.1 _ h1.2.1, hf.1 _ h1.2.2.1, hf.2 _ h1.2.2.2]; exact h
abbrev DS (m : am_M) (s : St) : Prop := DSt m s.1 s.2.1 s.2.2.1 s.2.2.2
theorem d_find {d : Nat} {P : Int → am_M → Prop} {m : am_M} {n : Nat} {K : Nat → Int64} {V S : Nat → Nat} {x : Int64} (hG : DSt m n K V S) (kpost : P (pfd K x n 0) m) : am_OkI (d + 1) 8 [.inr (.inr 8), .inr (.inl x)] m P := by
  have hn := hG.2.1
  have main : ∀ (r k : Nat), k + r = n → P (pfd K x r k) m → am_GI (d + 1) 8 P 2 [(0, .inr (.inr 8)), (1, .inr (.inl x)), (3, .inl k)] [] m := by
    intro r
    induction r with
    | zero =>
      intro k hk kp
      refine f_Given_find_8_2 ⟨fun _ => kp, fun z => ?_⟩
      rw [hG.1] at z; omega
    | succ r ih =>
      intro k hk kp
      unfold pfd at kp
      refine f_Given_find_8_2 ⟨fun z => ?_, fun _ => ⟨by omega, by omega, ?_⟩⟩
      · rw [hG.1] at z; omega
      rw [hG.2.2.1 k (by omega)]
      refine ⟨fun h => ⟨am_RI (by omega) (by omega), ?_⟩, fun h => ?_⟩
      · rw [if_neg (fun e => h (lcmp0.mpr e))] at kp
        exact ih (k + 1) (by omega) kp
      · rw [if_pos (lcmp0.mp (Decidable.byContradiction h))] at kp
        exact kp
  exact f_Given_find_8 (main n 0 (by omega) kpost)
theorem d_insert {d : Nat} {P : am_M → Prop} {m : am_M} {s : St} {p v ch : Nat} {x : Int64} (hG : DS m s) (hc : m.1 1804 0 = ch) (hch : ch ≤ 100000000) (hp : p ≤ s.1) (hn : s.1 < 48) (ho : StOK (sIns s p x v)) (kpost : ∀ m' : am_M, DS m' (sIns s p x v) → m'.1 1804 0 = (ch + 1 : Nat) → Fr [10, 1803, 1804] [9] m m' → P m') : am_OkV (d + 1) 9 [.inr (.inr 8), .inl p, .inr (.inl x), .inl v] m P := by
  obtain ⟨g1, g2, g3, g4, g5, -, -⟩ := hG
  refine f_Given_insert_8 ?_
  rw [g1, hc]
  refine ⟨fun y => by omega, fun _ => ⟨fun y => by omega, fun _ => ⟨fun _ => ⟨am_RI (by omega) (by omega), am_RI (by omega) (by omega), by omega, by omega, by omega, by omega, by omega, am_RI (by omega) (by omega), am_RI (by omega) (by omega), by omega, by omega, by omega, by omega, by omega, by omega, by omega, by omega, by omega, am_RI (by omega) (by omega), am_RI (by omega) (by omega), ?_⟩, fun y => by omega⟩⟩⟩
  refine kpost _ ⟨?_, ho.1, fun k hk => ?_, fun k hk => ?_, fun i h1 h2 => ?_, ho.2.1, ho.2.2⟩ ?_ ((((((Fr.rf.ws2 (by decide)).ws1 (by decide)).wl (by decide)).wr (by decide)).wr (by decide)).wr (by decide))
  · rw [wr_ne _ _ _ (by decide), wr_at, if_pos rfl]; rfl
  · have hk : k < s.1 + 1 := hk
    rw [wr_2, wr_2, wr_2, wl_at, ws1_2, ws2_at]
    show _ = if k < p then s.2.1 k else if k = p then x else s.2.1 (k - 1)
    unfold am_cpy
    by_cases h1 : k < p
    · rw [if_neg (by omega), if_neg (by omega), if_pos h1]; exact g3 k (by omega)
    · by_cases h2 : k = p
      · rw [if_pos (by omega), if_neg h1, if_pos h2]
      · rw [if_neg (by omega), if_pos (by omega), if_neg h1, if_neg h2, show (p : Int) + ((k : Int) - ((p : Int) + 1)) = ((k - 1 : Nat) : Int) by omega]
        exact g3 (k - 1) (by omega)
  · have hk : k < s.1 + 1 := hk
    rw [wr_ne _ _ _ (by decide), wr_ne _ _ _ (by decide), wr_at, wl_1, ws1_at, ws2_1]
    show _ = ((if k < p then s.2.2.1 k else if k = p then v else s.2.2.1 (k - 1) : Nat) : Int)
    unfold am_cpy
    by_cases h1 : k < p
    · rw [if_neg (by omega), if_neg (by omega), if_pos h1]; exact g4 k (by omega)
    · by_cases h2 : k = p
      · rw [if_pos (by omega), if_neg h1, if_pos h2]
      · rw [if_neg (by omega), if_pos (by omega), if_neg h1, if_neg h2, show (p : Int) + ((k : Int) - ((p : Int) + 1)) = ((k - 1 : Nat) : Int) by omega]
        exact g4 (k - 1) (by omega)
  · rw [wr_ne _ _ _ (by decide), wr_ne _ _ _ (by decide), wr_ne _ _ _ (by decide), wl_1, ws1_ne _ _ (by decide), ws2_1]
    exact g5 i h1 h2
  · rw [wr_at, if_pos rfl]; rfl
theorem d_resettle {d : Nat} {P : am_M → Prop} {m : am_M} {s : St} {i v ch : Nat} (hG : DS m s) (hc : m.1 1804 0 = ch) (hch : ch ≤ 100000000) (hs : SetOK i v) (ho : StOK (sSet s i v)) (kpost : ∀ m' : am_M, DS m' (sSet s i v) → m'.1 1804 0 = (ch + 1 : Nat) → Fr [11, 1804] [] m m' → P m') : am_OkV (d + 2) 12 [.inr (.inr 8), .inl i, .inl v] m P := by
  obtain ⟨g1, g2, g3, g4, g5, -, -⟩ := id hG
  refine f_Given_resettle_8 (c_canBeSetting (fun h => absurd ⟨by omega, by omega, hs⟩ h) (fun _ _ _ => ⟨fun y => absurd y (by decide), fun _ => ?_⟩))
  rw [hc]
  obtain ⟨s1, s2, -, -⟩ := hs
  refine ⟨by omega, by omega, am_RI (by omega) (by omega), ?_⟩
  refine kpost _ ⟨?_, ho.1, fun k hk => ?_, fun k hk => ?_, fun j h1 h2 => ?_, ho.2.1, ho.2.2⟩ ?_ ((Fr.rf.wr (by decide)).wr (by decide))
  · rw [wr_ne _ _ _ (by decide), wr_ne _ _ _ (by decide)]; exact g1
  · exact g3 k hk
  · rw [wr_ne _ _ _ (by decide), wr_ne _ _ _ (by decide)]; exact g4 k hk
  · rw [wr_ne _ _ _ (by decide), wr_at]
    show _ = ((if j = i then v else s.2.2.2 j : Nat) : Int)
    by_cases h3 : j = i
    · rw [if_pos (by omega), if_pos h3]
    · rw [if_neg (by omega), if_neg h3]; exact g5 j h1 h2
  · rw [wr_at, if_pos rfl]; rfl
abbrev rfF : List Nat := [1102, 1103, 1104, 1105, 1300]
theorem c_fail {d : Nat} {P : am_M → Prop} {m : am_M} {tb : Nat → Nat} {tl : Nat} {t : Tk} {x : Nat} (hx : x ≤ 4) (hT : TapC m tl tb) (ht : TkC m tb tl t) (kpost : ∀ m' : am_M, m'.1 1300 0 = (8 * t.1 + x : Nat) → Fr rfF [] m m' → P m') : am_OkV (d + 1) 46 [.inr (.inr 3), .inr (.inr 1), .inl x] m P := by
  obtain ⟨t1, t2, t3, t4, t6⟩ := id ht
  have hl := hT.2.1
  have g1 := t6.1
  have g2 := t6.2.1
  refine f_Reader_fail ?_
  rw [t1]
  exact ⟨am_RI (by omega) (by omega), am_RI (by omega) (by omega), kpost _ (by rw [wr_at, if_pos rfl]; omega) (Fr.rf.wr (by decide))⟩
theorem c_rnum {d : Nat} {P : Int → am_M → Prop} {m : am_M} {tb : Nat → Nat} {tl lo hi : Nat} {t : Tk} (hT : TapC m tl tb) (ht : TkC m tb tl t)
    (kl : ∀ (e : Nat) (m' : am_M), pNum tb tl lo hi t = .inl e → m'.1 1300 0 = e → Fr rfF [] m m' → P 0 m')
    (kr : ∀ (t' : Tk) (v : Nat) (m' : am_M), pNum tb tl lo hi t = .inr (t', v) → TkC m' tb tl t' → Fr tkF [] m m' → P v m') : am_OkI (d + 4) 43 [.inr (.inr 3), .inr (.inr 1), .inl lo, .inl hi] m P := by
  obtain ⟨t1, t2, t3, t4, t6⟩ := id ht
  unfold pNum at kl kr
  refine f_Reader_takeNumber ?_
  rw [t3]
  refine ⟨fun h => ?_, fun h => ?_⟩
  · have hk : t.2.2 = 2 := by omega
    rw [t4 hk]
    rw [if_pos hk] at kl kr
    refine ⟨fun h1 => ?_, fun h1 => ⟨fun h2 => ?_, fun h2 => ?_⟩⟩
    · rw [if_neg (by omega)] at kl
      exact c_fail (x := 3) (by decide) hT ht (fun m1 e f => kl _ m1 rfl e f)
    · rw [if_pos (by omega)] at kr
      exact c_next hT ht (fun m1 e f => kr _ _ m1 rfl e f)
    · rw [if_neg (by omega)] at kl
      exact c_fail (x := 3) (by decide) hT ht (fun m1 e f => kl _ m1 rfl e f)
  · rw [if_neg (by omega)] at kl
    exact c_fail (x := 1) (by decide) hT ht (fun m1 e f => kl _ m1 rfl e f)
theorem c_stop {d : Nat} {P : am_M → Prop} {m : am_M} {tb : Nat → Nat} {tl : Nat} {t : Tk} (hT : TapC m tl tb) (ht : TkC m tb tl t) (h0 : m.1 1300 0 = 0)
    (kl : ∀ (e : Nat) (m' : am_M), pEnd tb tl t = .inl e → m'.1 1300 0 = e → Fr rfF [] m m' → P m')
    (kr : ∀ (t' : Tk) (m' : am_M), pEnd tb tl t = .inr t' → TkC m' tb tl t' → Fr tkF [] m m' → P m') : am_OkV (d + 4) 45 [.inr (.inr 3), .inr (.inr 1)] m P := by
  obtain ⟨t1, t2, t3, t4, t6⟩ := id ht
  unfold pEnd at kl kr
  refine f_Reader_passStop ?_
  rw [h0, t3]
  refine ⟨fun _ => ⟨fun h => ?_, fun h => ?_⟩, fun y => absurd rfl y⟩
  · rw [if_neg (by omega)] at kl
    exact c_fail (x := 1) (by decide) hT ht (fun m1 e f => kl _ m1 rfl e f)
  · rw [if_pos (by omega)] at kr
    exact c_next hT ht (fun m1 e f => kr _ m1 rfl e f)
theorem c_stop_bad {d : Nat} {P : am_M → Prop} {m : am_M} (h0 : m.1 1300 0 ≠ 0) (k : P m) : am_OkV (d + 1) 45 [.inr (.inr 3), .inr (.inr 1)] m P := f_Reader_passStop ⟨fun y => absurd y h0, fun _ => k⟩
theorem c_choiceOf {d : Nat} {P : Nat → am_M → Prop} {m : am_M} {i v : Nat} (k : P (1000 + chq i v) m) : am_OkR (d + 1) 48 [.inl i, .inl v] m P := by
  unfold chq at k
  refine f_Reader_choiceOf ⟨fun h => ⟨fun h2 => ?_, fun h2 => ?_⟩, fun h => ⟨fun h2 => ?_, fun h2 => ?_⟩, fun h h' => ⟨fun h2 => ?_, fun h2 => ?_⟩⟩
  · rw [if_pos (by omega), if_neg (by omega)] at k; exact k
  · rw [if_pos (by omega), if_pos (by omega)] at k; exact k
  · rw [if_neg (by omega), if_pos (by omega), if_neg (by omega)] at k; exact k
  · rw [if_neg (by omega), if_pos (by omega), if_pos (by omega)] at k; exact k
  · rw [if_neg (by omega), if_neg (by omega), if_neg (by omega)] at k; exact k
  · rw [if_neg (by omega), if_neg (by omega), if_pos (by omega)] at k; exact k
theorem chq_lt {i v : Nat} : chq i v < 14 := by
  unfold chq
  split
  · split <;> omega
  · split
    · split <;> omega
    · split <;> omega
theorem c_rcho {d : Nat} {P : Int → am_M → Prop} {m : am_M} {tb : Nat → Nat} {tl i : Nat} {t : Tk} (hi : i = 5 ∨ i = 6) (hT : TapC m tl tb) (ht : TkC m tb tl t)
    (kl : ∀ (e : Nat) (m' : am_M), pCho tb tl i t = .inl e → m'.1 1300 0 = e → Fr rfF [] m m' → P 0 m')
    (kr : ∀ (t' : Tk) (v : Nat) (m' : am_M), pCho tb tl i t = .inr (t', v) → TkC m' tb tl t' → Fr tkF [] m m' → P v m') : am_OkI (d + 5) 44 [.inr (.inr 3), .inr (.inr 1), .inl i] m P := by
  have e0 : am_tab 900 (i : Int) = 0 := by rcases hi with rfl | rfl <;> rfl
  have e1 : am_tab 901 (i : Int) = 2 := by rcases hi with rfl | rfl <;> rfl
  unfold pCho at kl kr
  have step : ∀ (v : Nat), v ≤ 2 → (isW tb t (chq i v) = false → am_GI (d + 5) 44 P 6 [(0, .inr (.inr 3)), (1, .inr (.inr 1)), (2, .inl i), (3, .inl ((v : Int) + 1))] [] m) → (isW tb t (chq i v) = true → am_OkV (d + 4) 69 [.inr (.inr 1)] m (fun m6 => P v m6)) → am_GI (d + 5) 44 P 6 [(0, .inr (.inr 3)), (1, .inr (.inr 1)), (2, .inl i), (3, .inl v)] [] m := by
    intro v hv k0 k1
    refine f_Reader_takeChoice_6 ?_
    rw [e1]
    exact ⟨by omega, by omega, fun y => by omega, fun _ => c_choiceOf (c_isWord chq_lt hT ht (fun h => ⟨fun _ => ⟨am_RI (by omega) (by omega), k0 h⟩, fun y => absurd rfl y⟩) (fun h => ⟨fun y => absurd y (by decide), fun _ => k1 h⟩))⟩
  refine f_Reader_takeChoice ?_
  rw [e0]
  refine ⟨by omega, by omega, step 0 (by omega) (fun h0 => ?_) (fun h0 => ?_)⟩
  · rw [if_neg (by rw [h0]; decide)] at kl kr
    refine step 1 (by omega) (fun h1 => ?_) (fun h1 => ?_)
    · rw [if_neg (by rw [h1]; decide)] at kl kr
      refine step 2 (by omega) (fun h2 => ?_) (fun h2 => ?_)
      · rw [if_neg (by rw [h2]; decide)] at kl
        refine f_Reader_takeChoice_6 ?_
        rw [e1]
        exact ⟨by omega, by omega, fun _ => c_fail (x := 1) (by decide) hT ht (fun m1 e f => kl _ m1 rfl e f), fun y => absurd (by decide) y⟩
      · rw [if_pos h2] at kr
        exact c_next hT ht (fun m1 e f => kr _ _ m1 rfl e f)
    · rw [if_pos h1] at kr
      exact c_next hT ht (fun m1 e f => kr _ _ m1 rfl e f)
  · rw [if_pos h0] at kr
    exact c_next hT ht (fun m1 e f => kr _ _ m1 rfl e f)
theorem pNum_e {tb : Nat → Nat} {tl lo hi e : Nat} {t : Tk} (h : pNum tb tl lo hi t = .inl e) : e ≠ 0 := by
  unfold pNum at h
  split at h
  · split at h
    · cases h
    · cases h; omega
  · cases h; omega
theorem pCho_e {tb : Nat → Nat} {tl i e : Nat} {t : Tk} (h : pCho tb tl i t = .inl e) : e ≠ 0 := by
  unfold pCho at h
  split at h
  · cases h
  · split at h
    · cases h
    · split at h
      · cases h
      · cases h; omega
theorem pEnd_e {tb : Nat → Nat} {tl e : Nat} {t : Tk} (h : pEnd tb tl t = .inl e) : e ≠ 0 := by
  unfold pEnd at h
  split at h
  · cases h
  · cases h; omega
theorem pVal_ok {tb : Nat → Nat} {tl i v : Nat} {t t' : Tk} (hi : 1 ≤ i ∧ i ≤ 6) (h : pVal tb tl i t = .inr (t', v)) : SetOK i v := by
  unfold pVal at h
  by_cases h5 : i < 5
  · rw [if_pos h5] at h
    unfold pNum at h
    split at h
    · split at h
      · rename_i hb
        cases h
        exact ⟨hi.1, hi.2, hb.1, hb.2⟩
      · cases h
    · cases h
  · rw [if_neg h5] at h
    have hlo : slo i = 0 := by unfold slo; rw [if_neg (by omega)]
    have hhi : shi i = 2 := by unfold shi; rw [if_neg (by omega), if_neg (by omega), if_neg (by omega), if_neg (by omega)]
    unfold SetOK
    rw [hlo, hhi]
    unfold pCho at h
    split at h
    · cases h; omega
    · split at h
      · cases h; omega
      · split at h
        · cases h; omega
        · cases h
theorem c_nameOf {d : Nat} {P : Nat → am_M → Prop} {m : am_M} {i : Nat} (hi : 1 ≤ i ∧ i ≤ 6) (k : P (1000 + (i - 1)) m) : am_OkR (d + 1) 47 [.inl i] m P := by
  refine f_Reader_nameOf ⟨fun h => ?_, fun h => ?_, fun h => ?_, fun h => ?_, fun h => ?_, fun h1 h2 h3 h4 h5 => ?_⟩
  · rw [show i = 1 by omega] at k; exact k
  · rw [show i = 2 by omega] at k; exact k
  · rw [show i = 3 by omega] at k; exact k
  · rw [show i = 4 by omega] at k; exact k
  · rw [show i = 5 by omega] at k; exact k
  · rw [show i = 6 by omega] at k; exact k
def RdC (m : am_M) (tb : Nat → Nat) (tl : Nat) (t : Tk) (s : St) (dc : Nat) : Prop := TapC m tl tb ∧ TkC m tb tl t ∧ DS m s ∧ m.1 1804 0 = dc ∧ m.1 1300 0 = 0
abbrev rdF : List Nat := [1102, 1103, 1104, 1105, 1300, 10, 1803, 1804, 11]
abbrev rdF2 : List Nat := [9]
theorem RdC.tk {m m' : am_M} {tb : Nat → Nat} {tl : Nat} {t t' : Tk} {s : St} {dc : Nat} (h : RdC m tb tl t s dc) (ht : TkC m' tb tl t') (hf : Fr tkF [] m m') : RdC m' tb tl t' s dc := by
  obtain ⟨h1, h2, h3, h4, h5⟩ := h
  exact ⟨h1.fr hf (by decide), ht, h3.fr hf (by decide), by rw [hf.1 _ (by decide)]; exact h4, by rw [hf.1 _ (by decide)]; exact h5⟩
theorem c_readSetting {d : Nat} {P : am_M → Prop} {m : am_M} {tb : Nat → Nat} {tl i dc : Nat} {t : Tk} {s : St} (hi : 1 ≤ i ∧ i ≤ 6) (hR : RdC m tb tl t s dc) (hdc : dc ≤ 100000000) (hs : s.1 = 0)
    (kl : ∀ (e : Nat) (m' : am_M), pSet tb tl i t s = .inl e → e ≠ 0 → m'.1 1300 0 = e → m'.1 1804 0 = dc → Fr rdF rdF2 m m' → P m')
    (kr : ∀ (t' : Tk) (s' : St) (dc' : Nat) (m' : am_M), pSet tb tl i t s = .inr (t', s') → RdC m' tb tl t' s' dc' → s'.1 = 0 → dc' ≤ dc + 1 → Fr rdF rdF2 m m' → P m') : am_OkV (d + 6) 40 [.inr (.inr 3), .inr (.inr 1), .inr (.inr 8), .inl i] m P := by
  obtain ⟨hT, ht, hD, hc, h0⟩ := id hR
  unfold pSet at kl kr
  refine f_Reader_readSetting (c_nameOf hi (c_isWord (by omega) hT ht (fun hw => ⟨fun y => absurd rfl y, fun _ => ?_⟩) (fun hw => ⟨fun _ => c_next hT ht (fun m1 ht1 hf1 => ?_), fun y => absurd (by decide) y⟩)))
  · rw [if_neg (by rw [hw]; decide)] at kr
    exact kr _ _ dc m rfl hR hs (by omega) Fr.rf
  · rw [if_pos hw] at kl kr
    have hR1 := hR.tk ht1 hf1
    obtain ⟨hT1, -, hD1, hc1, h01⟩ := id hR1
    have hf1' : Fr rdF rdF2 m m1 := hf1.mono (by decide) (by decide)
    have bad : ∀ (e : Nat) (m2 : am_M), e ≠ 0 → pVal tb tl i (nxt tb tl t) = .inl e → m2.1 1300 0 = e → Fr rfF [] m1 m2 → am_OkV (d + 5) 45 [.inr (.inr 3), .inr (.inr 1)] m2 (fun m8 => ((m8.1 1300 (0 : Int)) ≠ (0 : Int) → (P m8)) ∧ (¬ ((m8.1 1300 (0 : Int)) ≠ (0 : Int)) → (am_OkV (d + 5) 12 [.inr (.inr 8), .inl i, .inl (0 : Int)] m8 (fun m9 => P m9)))) := by
      intro e m2 he hv hfe hf2
      rw [hv] at kl
      have hne : m2.1 1300 0 ≠ 0 := by rw [hfe]; omega
      refine c_stop_bad hne ⟨fun _ => kl e m2 rfl he hfe (by rw [hf2.1 _ (by decide)]; exact hc1) (hf1'.tr1 (hf2.mono (by decide) (by decide))), fun y => absurd hne y⟩
    have good : ∀ (t' : Tk) (v : Nat) (m2 : am_M), pVal tb tl i (nxt tb tl t) = .inr (t', v) → TkC m2 tb tl t' → Fr tkF [] m1 m2 → am_OkV (d + 5) 45 [.inr (.inr 3), .inr (.inr 1)] m2 (fun m8 => ((m8.1 1300 (0 : Int)) ≠ (0 : Int) → (P m8)) ∧ (¬ ((m8.1 1300 (0 : Int)) ≠ (0 : Int)) → (am_OkV (d + 5) 12 [.inr (.inr 8), .inl i, .inl v] m8 (fun m9 => P m9)))) := by
      intro t' v m2 hv ht2 hf2
      rw [hv] at kl kr
      have hR2 := hR1.tk ht2 hf2
      have hf2' : Fr rdF rdF2 m m2 := hf1'.tr1 (hf2.mono (by decide) (by decide))
      have hso := pVal_ok hi hv
      refine c_stop hR2.1 ht2 hR2.2.2.2.2 (fun e m3 he hfe hf3 => ?_) (fun t3 m3 he ht3 hf3 => ?_)
      · simp only [he] at kl
        have hne : m3.1 1300 0 ≠ 0 := by rw [hfe]; have := pEnd_e he; omega
        exact ⟨fun _ => kl e m3 rfl (pEnd_e he) hfe (by rw [hf3.1 _ (by decide)]; exact hR2.2.2.2.1) (hf2'.tr1 (hf3.mono (by decide) (by decide))), fun y => absurd hne y⟩
      · simp only [he] at kr
        have hR3 := hR2.tk ht3 hf3
        have hz : m3.1 1300 0 = 0 := hR3.2.2.2.2
        have hok : StOK (sSet s i v) := ⟨by show s.1 ≤ 48; omega, sSet_sok hR3.2.2.1.2.2.2.2.2.1 hso, fun k hk => by have hk : k < s.1 := hk; omega⟩
        refine ⟨fun y => absurd hz y, fun _ => d_resettle hR3.2.2.1 hR3.2.2.2.1 hdc hso hok (fun m4 hD4 hc4 hf4 => ?_)⟩
        exact kr _ _ (dc + 1) m4 rfl ⟨hR3.1.fr hf4 (by decide), hR3.2.1.fr hf4 (by decide), hD4, hc4, by rw [hf4.1 _ (by decide)]; exact hz⟩ hs (Nat.le_refl _) ((hf2'.tr1 (hf3.mono (by decide) (by decide))).tr1 (hf4.mono (by decide) (by decide)))
    refine ⟨fun h5 => ?_, fun h5 => ⟨by omega, by omega, by omega, by omega, ?_⟩⟩
    · have e5 : pVal tb tl i (nxt tb tl t) = pCho tb tl i (nxt tb tl t) := by unfold pVal; rw [if_neg (by omega)]
      exact c_rcho (by omega) hT1 ht1 (fun e m2 he hfe hf2 => bad e m2 (pCho_e he) (e5.trans he) hfe hf2) (fun t' v m2 he ht2 hf2 => good t' v m2 (e5.trans he) ht2 hf2)
    · have e5 : pVal tb tl i (nxt tb tl t) = pNum tb tl (slo i) (shi i) (nxt tb tl t) := by unfold pVal; rw [if_pos (by omega)]
      rw [tab_lo i (by omega) hi.1, tab_hi i (by omega) hi.1]
      exact c_rnum hT1 ht1 (fun e m2 he hfe hf2 => bad e m2 (pNum_e he) (e5.trans he) hfe hf2) (fun t' v m2 he ht2 hf2 => good t' v m2 (e5.trans he) ht2 hf2)
