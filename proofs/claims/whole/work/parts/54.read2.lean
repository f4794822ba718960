/-! THE READER of the class: keys, the whole text -/
theorem pIs_e {tb : Nat → Nat} {tl b e : Nat} {t : Tk} (h : pIs tb tl b t = .inl e) : e ≠ 0 := by
  unfold pIs at h
  split at h
  · exact pNum_e h
  · cases h
theorem pIs_ok {tb : Nat → Nat} {tl b v : Nat} {t t' : Tk} (h : pIs tb tl b t = .inr (t', v)) : v < 2 ^ b := by
  have hp : 0 < 2 ^ b := Nat.pow_pos (by decide)
  unfold pIs at h
  split at h
  · unfold pNum at h
    split at h
    · split at h
      · rename_i hb
        cases h
        omega
      · cases h
    · cases h
  · cases h; exact hp
theorem c_rval {d : Nat} {P : Int → am_M → Prop} {m : am_M} {tb : Nat → Nat} {tl dc : Nat} {t : Tk} {s : St} (hR : RdC m tb tl t s dc)
    (kl : ∀ (e : Nat) (m' : am_M), pIs tb tl (s.2.2.2 3) t = .inl e → m'.1 1300 0 = e → Fr rfF [] m m' → P 0 m')
    (kr : ∀ (t' : Tk) (v : Nat) (m' : am_M), pIs tb tl (s.2.2.2 3) t = .inr (t', v) → TkC m' tb tl t' → Fr tkF [] m m' → P v m') : am_OkI (d + 5) 42 [.inr (.inr 3), .inr (.inr 1), .inr (.inr 8)] m P := by
  obtain ⟨hT, ht, hD, hc, h0⟩ := id hR
  have hS3 : s.2.2.2 3 ≤ 8 := hD.2.2.2.2.2.1.2.2.1
  unfold pIs at kl kr
  refine f_Reader_takeValue ⟨fun y => absurd h0 y, fun _ => c_isWord (q := 13) (by decide) hT ht (fun hw => ⟨fun y => absurd rfl y, fun _ => ?_⟩) (fun hw => ⟨fun _ => c_next hT ht (fun m1 ht1 hf1 => ?_), fun y => absurd (by decide) y⟩)⟩
  · rw [if_neg (by rw [hw]; decide)] at kr
    exact kr _ _ m rfl ht Fr.rf
  · rw [if_pos hw] at kl kr
    have hR1 := hR.tk ht1 hf1
    have e3 : m1.1 11 (3 : Int) = (s.2.2.2 3 : Nat) := hR1.2.2.1.2.2.2.2.1 3 (by decide) (by decide)
    have hp : 0 < 2 ^ s.2.2.2 3 := Nat.pow_pos (by decide)
    have hp2 : 2 ^ s.2.2.2 3 ≤ 2 ^ 8 := Nat.pow_le_pow_right (by decide) hS3
    rw [e3, shl1 _ (by omega), show ((2 ^ s.2.2.2 3 : Nat) : Int) - 1 = ((2 ^ s.2.2.2 3 - 1 : Nat) : Int) by omega]
    refine ⟨by decide, by decide, am_RI (by omega) (by omega), ?_⟩
    exact c_rnum (lo := 0) hR1.1 ht1 (fun e m2 he hfe hf2 => kl e m2 he hfe ((hf1.mono (by decide) (by decide)).tr1 hf2)) (fun t' v m2 he ht2 hf2 => kr t' v m2 he ht2 (hf1.tr1 hf2))
theorem c_rval_bad {d : Nat} {P : Int → am_M → Prop} {m : am_M} (h0 : m.1 1300 0 ≠ 0) (k : P 0 m) : am_OkI (d + 1) 42 [.inr (.inr 3), .inr (.inr 1), .inr (.inr 8)] m P := f_Reader_takeValue ⟨fun _ => k, fun y => absurd h0 y⟩
theorem c_readKey {d : Nat} {P : am_M → Prop} {m : am_M} {tb : Nat → Nat} {tl dc : Nat} {t : Tk} {s : St} (hR : RdC m tb tl t s dc) (hdc : dc ≤ 100000000)
    (kl : ∀ (e : Nat) (m' : am_M), pKey tb tl t s = .inl e → e ≠ 0 → m'.1 1300 0 = e → m'.1 1804 0 = dc → Fr rdF rdF2 m m' → P m')
    (kr : ∀ (t' : Tk) (s' : St) (m' : am_M), pKey tb tl t s = .inr (t', s') → RdC m' tb tl t' s' (dc + 1) → s'.1 = s.1 + 1 → s.1 < 48 → Fr rdF rdF2 m m' → P m') : am_OkV (d + 6) 41 [.inr (.inr 3), .inr (.inr 1), .inr (.inr 8)] m P := by
  obtain ⟨hT, ht, hD, hc, h0⟩ := id hR
  unfold pKey at kl kr
  have hFr : ∀ {m1 m2 : am_M}, Fr rdF rdF2 m m1 → Fr rfF [] m1 m2 → Fr rdF rdF2 m m2 := fun a b => a.tr1 (b.mono (by decide) (by decide))
  refine f_Reader_readKey (c_isWord (q := 12) (by decide) hT ht (fun hw => ⟨fun y => absurd rfl y, fun _ => ?_⟩) (fun hw => ⟨fun _ => ?_, fun y => absurd (by decide) y⟩))
  · rw [if_neg (by rw [hw]; decide)] at kl
    exact c_fail (x := 1) (by decide) hT ht (fun m1 e f => kl _ m1 rfl (by omega) e (by rw [f.1 _ (by decide)]; exact hc) (f.mono (by decide) (by decide)))
  · rw [if_pos hw] at kl kr
    rw [hD.1]
    refine ⟨fun h48 => c_next hT ht (fun m1 ht1 hf1 => ?_), fun h48 => ?_⟩
    · rw [if_pos (by omega)] at kl kr
      have hR1 := hR.tk ht1 hf1
      obtain ⟨hT1, -, hD1, hc1, h01⟩ := id hR1
      have hf1' : Fr rdF rdF2 m m1 := hf1.mono (by decide) (by decide)
      rw [ht1.2.2.1]
      refine ⟨fun hk => ?_, fun hk => ?_⟩
      · rw [if_neg (by omega)] at kl
        refine c_rnum (lo := 0) (hi := 999999999) hT1 ht1 (fun e m2 he hfe hf2 => ?_) (fun t' v m2 he ht2 hf2 => ?_)
        · have he2 : e = 8 * (nxt tb tl t).1 + 1 := by
            unfold pNum at he
            rw [if_neg (by omega)] at he
            cases he; rfl
          have hne : m2.1 1300 0 ≠ 0 := by rw [hfe]; omega
          refine c_rval_bad hne (c_stop_bad hne ⟨fun _ => kl _ m2 rfl (by omega) (by rw [hfe, he2]) (by rw [hf2.1 _ (by decide)]; exact hc1) (hFr hf1' hf2), fun y => absurd hne y⟩)
        · unfold pNum at he
          rw [if_neg (by omega)] at he
          cases he
      · have hk2 : (nxt tb tl t).2.2 = 2 := by omega
        rw [if_pos hk2] at kl kr
        have hnum := ht1.2.2.2.1 hk2
        have hlt := tnum_lt ht1.2.2.2.2 hk2
        rw [hnum]
        refine d_find hD1 ⟨fun hfd => ?_, fun hfd => ?_⟩
        · rw [if_pos (show pfd s.2.1 (n64 (tnum tb (nxt tb tl t))) s.1 0 = -1 from hfd)] at kl kr
          refine c_rnum (lo := 0) (hi := 999999999) hT1 ht1 (fun e m2 he hfe hf2 => ?_) (fun t' v m2 he ht2 hf2 => ?_)
          · unfold pNum at he
            rw [if_pos hk2, if_pos (by omega)] at he
            cases he
          · have he2 : t' = nxt tb tl (nxt tb tl t) ∧ v = tnum tb (nxt tb tl t) := by
              unfold pNum at he
              rw [if_pos hk2, if_pos (by omega)] at he
              cases he; exact ⟨rfl, rfl⟩
            obtain ⟨rfl, rfl⟩ := he2
            have hR2 := hR1.tk ht2 hf2
            have hf2' : Fr rdF rdF2 m m2 := hf1'.tr1 (hf2.mono (by decide) (by decide))
            refine c_rval hR2 (fun e m3 he3 hfe hf3 => ?_) (fun t3 v m3 he3 ht3 hf3 => ?_)
            · simp only [he3] at kl
              have hne : m3.1 1300 0 ≠ 0 := by rw [hfe]; have := pIs_e he3; omega
              exact c_stop_bad hne ⟨fun _ => kl e m3 rfl (pIs_e he3) hfe (by rw [hf3.1 _ (by decide)]; exact hR2.2.2.2.1) (hFr hf2' hf3), fun y => absurd hne y⟩
            · simp only [he3] at kl kr
              have hR3 := hR2.tk ht3 hf3
              have hf3' : Fr rdF rdF2 m m3 := hf2'.tr1 (hf3.mono (by decide) (by decide))
              refine c_stop hR3.1 ht3 hR3.2.2.2.2 (fun e m4 he4 hfe hf4 => ?_) (fun t4 m4 he4 ht4 hf4 => ?_)
              · simp only [he4] at kl
                have hne : m4.1 1300 0 ≠ 0 := by rw [hfe]; have := pEnd_e he4; omega
                exact ⟨fun _ => kl e m4 rfl (pEnd_e he4) hfe (by rw [hf4.1 _ (by decide)]; exact hR3.2.2.2.1) (hFr hf3' hf4), fun y => absurd hne y⟩
              · simp only [he4] at kr
                have hR4 := hR3.tk ht4 hf4
                have hz : m4.1 1300 0 = 0 := hR4.2.2.2.2
                have hok : StOK s := ⟨hD.2.1, hD.2.2.2.2.2.1, hD.2.2.2.2.2.2⟩
                refine ⟨fun y => absurd hz y, fun _ => ?_⟩
                rw [hR4.2.2.1.1]
                refine d_insert hR4.2.2.1 hR4.2.2.2.1 hdc (Nat.le_refl _) (by omega) (ok_ins hok (by omega) (Nat.le_refl _) (pIs_ok he3)) (fun m5 hD5 hc5 hf5 => ?_)
                exact kr _ _ m5 rfl ⟨hR4.1.fr hf5 (by decide), hR4.2.1.fr hf5 (by decide), hD5, hc5, by rw [hf5.1 _ (by decide)]; exact hz⟩ rfl (by omega) ((hf3'.tr1 (hf4.mono (by decide) (by decide))).tr1 (hf5.mono (by decide) (by decide)))
        · rw [if_neg (show ¬ pfd s.2.1 (n64 (tnum tb (nxt tb tl t))) s.1 0 = -1 from hfd)] at kl
          exact c_fail (x := 2) (by decide) hT1 ht1 (fun m2 e f => kl _ m2 rfl (by omega) e (by rw [f.1 _ (by decide)]; exact hc1) (hFr hf1' f))
    · rw [if_neg (by omega)] at kl
      exact c_fail (x := 4) (by decide) hT ht (fun m1 e f => kl _ m1 rfl (by omega) e (by rw [f.1 _ (by decide)]; exact hc) (f.mono (by decide) (by decide)))
theorem d_reset {d : Nat} {P : am_M → Prop} {m : am_M} {dc : Nat} (hc : m.1 1804 0 = dc) (hdc : dc ≤ 100000000) (kpost : ∀ m' : am_M, DS m' sNew → m'.1 1804 0 = (dc + 1 : Nat) → Fr [1803, 11, 1804] [] m m' → P m') : am_OkV (d + 1) 5 [.inr (.inr 8)] m P := by
  refine f_Given_reset_8 ?_
  rw [hc]
  refine ⟨by decide, by decide, by decide, by decide, by decide, am_RI (by omega) (by omega), kpost _ ⟨?_, by decide, fun k hk => absurd hk (Nat.not_lt_zero k), fun k hk => absurd hk (Nat.not_lt_zero k), fun i h1 h2 => ?_, sNew_ok.2.1, fun k hk => absurd hk (Nat.not_lt_zero k)⟩ (by rw [wr_at, if_pos rfl]; rfl) (((Fr.rf.wr (by decide)).ws1 (by decide)).wr (by decide))⟩
  · rw [wr_ne _ _ _ (by decide), ws1_ne _ _ (by decide), wr_at, if_pos rfl]; rfl
  · rw [wr_ne _ _ _ (by decide), ws1_at]
    have key : ∀ i : Nat, i < 7 → 1 ≤ i → am_cpy (am_tab 902) (fun _ => 0) (0 : Int) (0 : Int) (7 : Int) (i : Int) = (sNew.2.2.2 i : Nat) := by decide
    have := key i (by omega) h1
    unfold am_cpy at this ⊢
    rw [if_pos (by omega)] at this ⊢
    exact this
theorem c_read {d : Nat} {P : Int → am_M → Prop} {m : am_M} {tb : Nat → Nat} {tl dc : Nat} (hT : TapC m tl tb) (hc : m.1 1804 0 = dc) (hdc : dc ≤ 90000000)
    (kl : ∀ (e dc' : Nat) (m' : am_M), pText tb tl = .inl e → e ≠ 0 → m'.1 1804 0 = dc' → dc' ≤ dc + 60 → TapC m' tl tb → Fr rdF rdF2 m m' → P e m')
    (kr : ∀ (s : St) (dc' : Nat) (m' : am_M), pText tb tl = .inr s → DS m' s → m'.1 1804 0 = dc' → dc' ≤ dc + 60 → TapC m' tl tb → Fr rdF rdF2 m m' → P 0 m') : am_OkI (d + 7) 39 [.inr (.inr 3), .inr (.inr 1), .inr (.inr 8)] m P := by
  have hf0 : Fr rdF rdF2 m (am_wr m 1300 (0 : Int) (0 : Int)) := Fr.rf.wr (by decide)
  have hk : ∀ {m' : am_M}, Fr rdF rdF2 m m' → TapC m' tl tb := fun hf => hT.fr hf (by decide)
  have eq1 : ∀ (x : PR (Tk × St)), pSets tb tl 6 1 (tok tb tl 0) sNew = x → pText tb tl = pTx tb tl x := fun x hx => by unfold pText; rw [hx]
  -- the keys
  have keys : ∀ (f i dc1 : Nat) (t : Tk) (s : St) (m1 : am_M), i + f = 49 → s.1 = i → dc1 ≤ dc + 7 + i → RdC m1 tb tl t s dc1 → pText tb tl = pKeys tb tl f t s → Fr rdF rdF2 m m1 → am_GI (d + 7) 39 P 43 [(0, .inr (.inr 3)), (1, .inr (.inr 1)), (2, .inr (.inr 8)), (3, .inl i)] [] m1 := by
    intro f
    induction f with
    | zero =>
      intro i dc1 t s m1 hi hs hd hR he hf
      have := hR.2.2.1.2.1
      omega
    | succ f ih =>
      intro i dc1 t s m1 hi hs hd hR he hf
      unfold pKeys at he
      refine f_Reader_read_43 ?_
      rw [hR.2.2.2.2, hR.2.1.2.2.1]
      refine ⟨fun y => by omega, fun _ => ⟨fun y => absurd rfl y, fun _ => ⟨fun h0 => ?_, fun h0 => ?_⟩⟩⟩
      · rw [if_pos (by omega)] at he
        exact kr s dc1 m1 he hR.2.2.1 hR.2.2.2.1 (by omega) (hk hf) hf
      · rw [if_neg (by omega)] at he
        refine c_readKey hR (by omega) (fun e m2 he2 hne hfe hc2 hf2 => ⟨am_RI (by omega) (by omega), ?_⟩) (fun t' s' m2 he2 hR2 hs2 h48 hf2 => ⟨am_RI (by omega) (by omega), ?_⟩)
        · simp only [he2] at he
          have hff := hf.tr1 hf2
          refine f_Reader_read_43 ?_
          rw [hfe]
          exact ⟨fun _ => kl e dc1 m2 he hne hc2 (by omega) (hk hff) hff, fun _ => ⟨fun _ => kl e dc1 m2 he hne hc2 (by omega) (hk hff) hff, fun y => absurd (by omega) y⟩⟩
        · simp only [he2] at he
          exact ih (i + 1) (dc1 + 1) t' s' m2 (by omega) (by omega) (by omega) hR2 he (hf.tr1 hf2)
  have out : ∀ (e dc1 : Nat) (m1 : am_M), pText tb tl = .inl e → e ≠ 0 → m1.1 1300 0 = e → m1.1 1804 0 = dc1 → dc1 ≤ dc + 60 → Fr rdF rdF2 m m1 → am_GI (d + 7) 39 P 43 [(0, .inr (.inr 3)), (1, .inr (.inr 1)), (2, .inr (.inr 8)), (3, .inl (0 : Int))] [] m1 := by
    intro e dc1 m1 he hne hfe hc1 hd hf
    refine f_Reader_read_43 ?_
    rw [hfe]
    exact ⟨fun y => by omega, fun _ => ⟨fun _ => kl e dc1 m1 he hne hc1 hd (hk hf) hf, fun y => absurd (by omega) y⟩⟩
  have sets : ∀ (f i dc1 : Nat) (t : Tk) (s : St) (m1 : am_M), i + f = 7 → 1 ≤ i → s.1 = 0 → dc1 ≤ dc + i → RdC m1 tb tl t s dc1 → pSets tb tl 6 1 (tok tb tl 0) sNew = pSets tb tl f i t s → Fr rdF rdF2 m m1 → am_GI (d + 7) 39 P 15 [(0, .inr (.inr 3)), (1, .inr (.inr 1)), (2, .inr (.inr 8)), (3, .inl i)] [] m1 := by
    intro f
    induction f with
    | zero =>
      intro i dc1 t s m1 hi h1 hs hd hR he hf
      have he2 := eq1 _ he
      refine f_Reader_read_15 ⟨fun _ => keys 49 0 dc1 t s m1 rfl hs (by omega) hR he2 hf, fun y => absurd (by omega) y⟩
    | succ f ih =>
      intro i dc1 t s m1 hi h1 hs hd hR he hf
      unfold pSets at he
      refine f_Reader_read_15 ?_
      rw [hR.2.2.2.2]
      refine ⟨fun y => by omega, fun _ => ⟨fun y => absurd rfl y, fun _ => c_readSetting ⟨h1, by omega⟩ hR (by omega) hs (fun e m2 he2 hne hfe hc2 hf2 => ⟨am_RI (by omega) (by omega), ?_⟩) (fun t' s' dc2 m2 he2 hR2 hs2 hd2 hf2 => ⟨am_RI (by omega) (by omega), ?_⟩)⟩⟩
      · simp only [he2] at he
        have he3 := eq1 _ he
        have hff := hf.tr1 hf2
        have o := out e dc1 m2 he3 hne hfe hc2 (by omega) hff
        refine f_Reader_read_15 ?_
        rw [hfe]
        exact ⟨fun _ => o, fun _ => ⟨fun _ => o, fun y => absurd (by omega) y⟩⟩
      · simp only [he2] at he
        exact ih (i + 1) dc2 t' s' m2 (by omega) (by omega) hs2 (by omega) hR2 he (hf.tr1 hf2)
  have hc0 : (am_wr m 1300 (0 : Int) (0 : Int)).1 1804 0 = dc := by rw [wr_ne _ _ _ (by decide)]; exact hc
  refine f_Reader_read (d_reset hc0 (by omega) (fun m1 hD1 hc1 hf1 => f_Tape_rewind (c_step (p := 0) (tb := tb) (tl := tl) ?_ (by omega) ?_ (fun m2 ht2 hf2 => ?_))))
  · have hff : Fr rdF rdF2 m (am_wr m1 1104 (0 : Int) (0 : Int)) := (hf0.tr1 (hf1.mono (by decide) (by decide))).wr (by decide)
    exact hk hff
  · rw [wr_at, if_pos rfl]; rfl
  · have hff : Fr rdF rdF2 m m2 := ((hf0.tr1 (hf1.mono (by decide) (by decide))).wr (id := 1104) (z := 0) (v := 0) (by decide)).tr1 (hf2.mono (by decide) (by decide))
    have hf12 : Fr tkF [] m1 m2 := (Fr.rf.wr (id := 1104) (z := 0) (v := 0) (by decide)).tr1 hf2
    refine sets 6 1 (dc + 1) (tok tb tl 0) sNew m2 rfl (by omega) rfl (by omega) ⟨hk hff, ht2, hD1.fr hf12 (by decide), by rw [hf12.1 _ (by decide)]; exact hc1, ?_⟩ rfl hff
    rw [hf12.1 _ (by decide), hf1.1 _ (by decide), wr_at, if_pos rfl]
theorem c_copy {d : Nat} {P : am_M → Prop} {m : am_M} {s : St} {ch : Nat} (hD : DS m s) (hc : m.1 1404 0 = ch) (hch : ch ≤ 100000000) (kpost : ∀ m' : am_M, GS m' s → m'.1 1404 0 = (ch + 1 : Nat) → Fr gvF gvF2 m m' → P m') : am_OkV (d + 1) 6 [.inr (.inr 4), .inr (.inr 8)] m P := by
  obtain ⟨g1, g2, g3, g4, g5, g6, g7⟩ := id hD
  refine f_Given_copy ?_
  rw [hc, g1]
  refine ⟨by decide, by decide, by decide, by decide, by decide, by decide, by decide, by decide, by decide, by decide, by decide, by decide, by decide, by decide, by decide, am_RI (by omega) (by omega), kpost _ ⟨?_, g2, fun k hk => ?_, fun k hk => ?_, fun i h1 h2 => ?_, g6, g7⟩ (by rw [wr_at, if_pos rfl]; rfl) (((((Fr.rf.ws2 (by decide)).ws1 (by decide)).ws1 (by decide)).wr (by decide)).wr (by decide))⟩
  · rw [wr_ne _ _ _ (by decide), wr_at, if_pos rfl]
  · rw [wr_2, wr_2, ws1_2, ws1_2, ws2_at]
    unfold am_cpy
    rw [if_pos (by omega), show (0 : Int) + ((k : Int) - 0) = (k : Int) by omega]
    exact g3 k hk
  · rw [wr_ne _ _ _ (by decide), wr_ne _ _ _ (by decide), ws1_ne _ _ (by decide), ws1_at]
    unfold am_cpy
    rw [if_pos (by omega), show (0 : Int) + ((k : Int) - 0) = (k : Int) by omega]
    exact g4 k hk
  · rw [wr_ne _ _ _ (by decide), wr_ne _ _ _ (by decide), ws1_at]
    unfold am_cpy
    rw [if_pos (by omega), show (0 : Int) + ((i : Int) - 0) = (i : Int) by omega]
    exact g5 i h1 h2
def a_text (tb : Nat → Nat) (tl : Nat) : Int := match pText tb tl with
  | .inl e => -2 - (e : Int)
  | .inr s => s.1
theorem pEnd_lt {tb : Nat → Nat} {tl e : Nat} {t : Tk} (ht : TokOK tb tl t) (h : pEnd tb tl t = .inl e) : e ≤ 8 * tl + 4 := by
  have h1 := ht.1
  have h2 := ht.2.1
  unfold pEnd at h
  split at h
  · cases h
  · cases h; omega
abbrev txF : List Nat := [1102, 1103, 1104, 1105, 1101, 1300, 10, 1803, 1804, 11, 6, 1403, 1404, 7, 2205, 5203, 5603, 6003]
abbrev txF2 : List Nat := [9, 5]
theorem c_text {d : Nat} {P : Int → am_M → Prop} {m : am_M} {tb : Nat → Nat} {tl dc ch : Nat} {s : St} {L : List St} {Z : Nat → Option Sv} (hT : TapC m tl tb) (hc : m.1 1804 0 = dc) (hdc : dc ≤ 90000000) (hg : m.1 1404 0 = ch) (hch : ch ≤ 90000000) (hR : Ring m s L) (hb : ∀ e, pText tb tl = .inl e → e ≤ 100000)
    (kl : ∀ (e dc' : Nat) (m' : am_M), pText tb tl = .inl e → m'.1 1804 0 = dc' → dc' ≤ dc + 60 → TapC m' 0 tb → Fr (rdF ++ [1101]) rdF2 m m' → P (a_text tb tl) m')
    (kr : ∀ (s' : St) (dc' : Nat) (m' : am_M), pText tb tl = .inr s' → GS m' s' → Ring m' s' [] → CSAll m' (fun _ => none) → m'.1 1404 0 = (ch + 1 : Nat) → m'.1 1804 0 = dc' → dc' ≤ dc + 60 → TapC m' 0 tb → Fr txF txF2 m m' → P (a_text tb tl) m') : am_OkI (d + 8) 77 [.inr (.inr 0)] m P := by
  unfold a_text at kl kr
  refine f_T_text (c_read hT hc hdc (fun e dc' m1 he hne hc1 hd1 hT1 hf1 => ⟨fun y => by omega, fun _ => ?_⟩) (fun s' dc' m1 he hD1 hc1 hd1 hT1 hf1 => ⟨fun _ => ?_, fun y => absurd rfl y⟩))
  · have h5 := hb e he
    refine ⟨am_RI (by omega) (by omega), ?_⟩
    rw [he] at kl
    have hf2 : Fr (rdF ++ [1101]) rdF2 m (am_wr m1 1101 (0 : Int) (0 : Int)) := (hf1.mono (by decide) (by decide)).wr (by decide)
    exact kl e dc' _ rfl (by rw [wr_ne _ _ _ (by decide)]; exact hc1) hd1 ⟨by rw [wr_at, if_pos rfl]; rfl, by omega, fun i hi => by omega⟩ hf2
  · rw [he] at kr
    have kr := fun dc' m' => kr s' dc' m' rfl
    generalize hm2 : am_wr m1 1101 (0 : Int) (0 : Int) = m2
    have hf2 : Fr txF txF2 m m2 := by rw [← hm2]; exact (hf1.mono (by decide) (by decide)).wr (by decide)
    have hf12 : Fr [1101] [] m1 m2 := by rw [← hm2]; exact Fr.rf.wr (by decide)
    have hT2 : TapC m2 0 tb := by rw [← hm2]; exact ⟨by rw [wr_at, if_pos rfl]; rfl, by omega, fun i hi => by omega⟩
    refine c_copy (ch := ch) (hD1.fr hf12 (by decide)) (by rw [hf12.1 _ (by decide), hf1.1 _ (by decide)]; exact hg) (by omega) (fun m3 hG3 hg3 hf3 => f_Acts_forget ⟨Or.inl rfl, ?_⟩)
    generalize hm4 : am_wr (am_wr m3 2205 (0 : Int) (0 : Int)) 5203 (0 : Int) (0 : Int) = m4
    have hf4 : Fr [2205, 5203] [] m3 m4 := by rw [← hm4]; exact (Fr.rf.wr (by decide)).wr (by decide)
    have hfin : ∀ m6 : am_M, Fr [5603, 6003] [] m4 m6 → m6.1 5603 0 = 0 → m6.1 6003 0 = 0 → P (s'.1 : Int) m6 := by
      intro m6 hf6 e0 e1
      have hf36 : Fr [2205, 5203, 5603, 6003] [] m3 m6 := hf4.tr hf6 (by decide) (by decide) (by decide) (by decide)
      have hall : Fr txF txF2 m m6 := (hf2.tr1 (hf3.mono (by decide) (by decide))).tr1 (hf36.mono (by decide) (by decide))
      obtain ⟨-, -, -, nx, n1, n2, -⟩ := hR
      refine kr dc' m6 (hG3.fr hf36 (by decide)) ⟨?_, by decide, fun s hs => (by cases hs), nx, n1, ?_, fun j a b ha hb => by simp at hb⟩ ⟨?_, e0, e1⟩ (by rw [hf36.1 _ (by decide)]; exact hg3) ?_ hd1 ((hT2.fr hf3 (by decide)).fr hf36 (by decide)) hall
      · rw [hf6.1 _ (by decide), ← hm4, wr_ne _ _ _ (by decide), wr_at, if_pos rfl]; rfl
      · rw [hall.1 _ (by decide)]; exact n2
      · show m6.1 5203 0 = 0
        rw [hf6.1 _ (by decide), ← hm4, wr_at, if_pos rfl]
      · rw [hf36.1 _ (by decide), hf3.1 _ (by decide), hf12.1 _ (by decide)]; exact hc1
    refine f_T_text_61 ⟨fun y => by omega, fun _ => ⟨by decide, by decide, fun _ => ⟨Or.inl rfl, am_RI (by decide) (by decide), f_T_text_61 ⟨fun y => by omega, fun _ => ⟨by decide, by decide, fun y => by omega, fun _ => ⟨Or.inl rfl, am_RI (by decide) (by decide), f_T_text_61 ⟨fun _ => ?_, fun y => absurd (by decide) y⟩⟩, trivial⟩⟩⟩, fun y => by omega, trivial⟩⟩
    have hf6 : Fr [5603, 6003] [] m4 (am_wr (am_wr m4 5603 (0 : Int) (0 : Int)) 6003 (0 : Int) (0 : Int)) := (Fr.rf.wr (by decide)).wr (by decide)
    have := hfin _ hf6 (by rw [wr_ne _ _ _ (by decide), wr_at, if_pos rfl]) (by rw [wr_at, if_pos rfl])
    have hg6 : (am_wr (am_wr m4 5603 (0 : Int) (0 : Int)) 6003 (0 : Int) (0 : Int)).1 1403 0 = (s'.1 : Int) := by rw [hf6.1 _ (by decide), hf4.1 _ (by decide)]; exact hG3.1
    rw [hg6]
    exact this
