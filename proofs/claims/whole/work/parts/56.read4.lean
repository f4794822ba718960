/-! THE READER of the reference: keys, the whole text -/
theorem is262 : Int64.ofNat 262 = w64 (rc (sW 13)) := by decide +kernel
theorem r_readKey {d : Nat} {P : Int → am_M → Prop} {m : am_M} {tb : Nat → Nat} {tl : Nat} {t : Tk} {s : St} (hR : RdR m tb tl t s) (hw : isW tb t 12 = true)
    (kl : ∀ (e : Nat) (m' : am_M), pKey tb tl t s = .inl e → FtR m' e → Fr rrF rrF2 m m' → P 0 m')
    (kr : ∀ (t' : Tk) (s' : St) (m' : am_M), pKey tb tl t s = .inr (t', s') → RdR m' tb tl t' s' → s'.1 = s.1 + 1 → Fr rrF rrF2 m m' → P 1 m') : am_OkI (d + 5) 135 [.inr (.inr 55)] m P := by
  obtain ⟨hT, ht, hN⟩ := id hR
  have hn := hN.2.1
  have hS3 : s.2.2.2 3 ≤ 8 := hN.2.2.2.2.2.1.2.2.1
  unfold pKey at kl kr
  rw [if_pos hw] at kl kr
  refine f_M_readKey ?_
  rw [hN.1]
  refine ⟨fun h48 => r_next hT ht (fun m1 ht1 hf1 => ?_), fun h48 => ?_⟩
  · rw [if_pos (by omega)] at kl kr
    have hR1 := hR.tk ht1 hf1
    obtain ⟨hT1, -, hN1⟩ := id hR1
    have hf1' : Fr rrF rrF2 m m1 := hf1.mono (by decide) (by decide)
    have hs3 := (srt3 (k := (nxt tb tl t).2.2)).1
    rw [ht1.2.2.1]
    refine ⟨fun hk => ?_, fun hk => ?_⟩
    · have hk2 : (nxt tb tl t).2.2 = 2 := hs3.mp (by omega)
      rw [if_pos hk2] at kl kr
      have hnum := ht1.2.2.2.1 hk2
      have hx : am_i2l (m1.1 6507 (0 : Int)) = n64 (tnum tb (nxt tb tl t)) := by rw [hnum]; rfl
      have main : ∀ (r k : Nat), k + r = s.1 → pfd s.2.1 (n64 (tnum tb (nxt tb tl t))) s.1 0 = pfd s.2.1 (n64 (tnum tb (nxt tb tl t))) r k → am_GI (d + 5) 135 P 35 [(0, .inr (.inr 55)), (1, .inl k)] [] m1 := by
        intro r
        induction r with
        | zero =>
          intro k hk0 hpf
          have hpf : pfd s.2.1 (n64 (tnum tb (nxt tb tl t))) s.1 0 = -1 := hpf
          rw [if_pos hpf] at kl kr
          refine f_M_readKey_35 ?_
          rw [hN1.1, hx]
          refine ⟨fun _ => ⟨by omega, by omega, by omega, by omega, ?_⟩, fun y => absurd (by omega) y⟩
          generalize hm2 : am_wr (am_wl m1 58 (s.1 : Int) (n64 (tnum tb (nxt tb tl t)))) 61 (s.1 : Int) (0 : Int) = m2
          have hf2 : Fr [61] [58] m1 m2 := by rw [← hm2]; exact (Fr.rf.wl (by decide)).wr (by decide)
          have hf2' : Fr rrF rrF2 m m2 := hf1'.tr1 (hf2.mono (by decide) (by decide))
          -- what is laid: the key, a value that stands at its place
          have lay : ∀ (v : Nat) (t3 : Tk) (m3 : am_M), v < 2 ^ s.2.2.2 3 → TapS m3 tl tb → TkR m3 tb tl t3 → m3.1 6522 0 = s.1 → (∀ k : Nat, k < s.1 + 1 → m3.2 58 k = (sIns s s.1 (n64 (tnum tb (nxt tb tl t))) v).2.1 k) → (∀ k : Nat, k < s.1 + 1 → m3.1 61 k = (sIns s s.1 (n64 (tnum tb (nxt tb tl t))) v).2.2.1 k) → (∀ i : Nat, 1 ≤ i → i ≤ 6 → m3.1 64 i = s.2.2.2 i) → Fr rrF rrF2 m m3 → pIs tb tl (s.2.2.2 3) (nxt tb tl (nxt tb tl t)) = .inr (t3, v) → am_OkI (d + 4) 134 [.inr (.inr 55)] (am_wr m3 6522 (0 : Int) ((s.1 : Int) + 1)) (fun z5 m4 => (z5 = 0 ∨ z5 = 1) ∧ P z5 m4) := by
            intro v t3 m3 hv hT3 ht3 e1 e2 e3 e4 hf3 he
            simp only [he] at kl kr
            have hok := ok_ins (x := n64 (tnum tb (nxt tb tl t))) (⟨hn, hN.2.2.2.2.2.1, hN.2.2.2.2.2.2⟩ : StOK s) (by omega) (Nat.le_refl s.1) hv
            have hf4 : Fr [6522] [] m3 (am_wr m3 6522 (0 : Int) ((s.1 : Int) + 1)) := Fr.rf.wr (by decide)
            have hR4 : RdR (am_wr m3 6522 (0 : Int) ((s.1 : Int) + 1)) tb tl t3 (sIns s s.1 (n64 (tnum tb (nxt tb tl t))) v) := by
              refine ⟨hT3.fr hf4 (by decide), ht3.fr hf4 (by decide), ?_, hok.1, fun k hk => e2 k hk, fun k hk => ?_, fun i h1 h2 => ?_, hok.2.1, hok.2.2⟩
              · rw [wr_at, if_pos rfl]; rfl
              · rw [wr_ne _ _ _ (by decide)]; exact e3 k hk
              · rw [wr_ne _ _ _ (by decide)]; exact e4 i h1 h2
            have hf4' : Fr rrF rrF2 m (am_wr m3 6522 (0 : Int) ((s.1 : Int) + 1)) := hf3.wr (by decide)
            refine r_readEnd hR4.1 hR4.2.1 (fun e m5 he5 hF hf5 => ⟨Or.inl rfl, ?_⟩) (fun t5 m5 he5 ht5 hf5 => ⟨Or.inr rfl, ?_⟩)
            · simp only [he5] at kl
              exact kl e m5 rfl hF (hf4'.tr1 hf5)
            · simp only [he5] at kr
              exact kr _ _ m5 rfl (hR4.tk ht5 hf5) rfl (hf4'.tr1 (hf5.mono (by decide) (by decide)))
          have k2 : ∀ k : Nat, k < s.1 + 1 → ∀ v : Nat, m2.2 58 k = (sIns s s.1 (n64 (tnum tb (nxt tb tl t))) v).2.1 k := by
            intro k hk v
            rw [← hm2, wr_2, wl_at]
            show _ = if k < s.1 then s.2.1 k else if k = s.1 then n64 (tnum tb (nxt tb tl t)) else s.2.1 (k - 1)
            by_cases e : k = s.1
            · rw [if_pos (by omega), if_neg (by omega), if_pos e]
            · rw [if_neg (by omega), if_pos (by omega)]; exact hN1.2.2.1 k (by omega)
          have v2 : ∀ k : Nat, k < s.1 → m2.1 61 k = s.2.2.1 k := by
            intro k hk
            rw [← hm2, wr_at, if_neg (by omega), wl_1]; exact hN1.2.2.2.1 k hk
          have v20 : m2.1 61 (s.1 : Int) = 0 := by rw [← hm2, wr_at, if_pos rfl]
          have hp : 0 < 2 ^ s.2.2.2 3 := Nat.pow_pos (by decide)
          refine r_next (hT1.fr hf2 (by decide)) (ht1.fr hf2 (by decide)) (fun m3 ht3 hf3 => ?_)
          have hT3 : TapS m3 tl tb := (hT1.fr hf2 (by decide)).fr hf3 (by decide)
          have hf3' : Fr rrF rrF2 m m3 := hf2'.tr1 (hf3.mono (by decide) (by decide))
          have many3 : m3.1 6522 0 = s.1 := by rw [hf3.1 _ (by decide), hf2.1 _ (by decide)]; exact hN1.1
          have set3 : ∀ i : Nat, 1 ≤ i → i ≤ 6 → m3.1 64 i = s.2.2.2 i := fun i h1 h2 => by rw [hf3.1 _ (by decide), hf2.1 _ (by decide)]; exact hN1.2.2.2.2.1 i h1 h2
          refine r_isWord (q := 13) is262 (by decide) ht3 (fun hno => ⟨fun _ => ?_, fun y => absurd rfl y⟩) (fun hyes => ⟨fun y => absurd y (by decide), fun _ => ?_⟩)
          · rw [many3]
            refine ⟨am_RI (by omega) (by omega), lay 0 _ m3 hp hT3 ht3 many3 (fun k hk => by rw [hf3.2 _ (by decide)]; exact k2 k hk 0) (fun k hk => ?_) set3 hf3' ?_⟩
            · rw [hf3.1 _ (by decide)]
              show _ = ((if k < s.1 then s.2.2.1 k else if k = s.1 then 0 else s.2.2.1 (k - 1) : Nat) : Int)
              by_cases e : k = s.1
              · rw [if_neg (by omega), if_pos e, e]; exact v20
              · rw [if_pos (by omega)]; exact v2 k (by omega)
            · unfold pIs
              rw [if_neg (by rw [hno]; decide)]
          · refine r_next hT3 ht3 (fun m4 ht4 hf4 => ?_)
            have hT4 := hT3.fr hf4 (by decide)
            have hf4' : Fr rrF rrF2 m m4 := hf3'.tr1 (hf4.mono (by decide) (by decide))
            have many4 : m4.1 6522 0 = s.1 := by rw [hf4.1 _ (by decide)]; exact many3
            have set4 : ∀ i : Nat, 1 ≤ i → i ≤ 6 → m4.1 64 i = s.2.2.2 i := fun i h1 h2 => by rw [hf4.1 _ (by decide)]; exact set3 i h1 h2
            have ePI : pIs tb tl (s.2.2.2 3) (nxt tb tl (nxt tb tl t)) = pNum tb tl 0 (2 ^ s.2.2.2 3 - 1) (nxt tb tl (nxt tb tl (nxt tb tl t))) := by unfold pIs; rw [if_pos hyes]
            have hs4 := (srt3 (k := (nxt tb tl (nxt tb tl (nxt tb tl t))).2.2)).1
            rw [ht4.2.2.1]
            refine ⟨fun hk3 => ⟨by decide, by decide, ?_⟩, fun hk3 => ?_⟩
            · have hk4 : (nxt tb tl (nxt tb tl (nxt tb tl t))).2.2 = 2 := hs4.mp (by omega)
              rw [ht4.2.2.2.1 hk4, show m4.1 64 (3 : Int) = (s.2.2.2 3 : Nat) from set4 3 (by decide) (by decide), shl1 _ (by omega), many4]
              refine ⟨fun hlt => ⟨by omega, by omega, ?_⟩, fun hlt => ?_⟩
              · have hlt2 : tnum tb (nxt tb tl (nxt tb tl (nxt tb tl t))) < 2 ^ s.2.2.2 3 := by omega
                generalize hm5 : am_wr m4 61 (s.1 : Int) ((tnum tb (nxt tb tl (nxt tb tl (nxt tb tl t))) : Nat) : Int) = m5
                have hf5 : Fr [61] [] m4 m5 := by rw [← hm5]; exact Fr.rf.wr (by decide)
                have hf5' : Fr rrF rrF2 m m5 := hf4'.tr1 (hf5.mono (by decide) (by decide))
                refine r_next (hT4.fr hf5 (by decide)) (ht4.fr hf5 (by decide)) (fun m6 ht6 hf6 => ?_)
                have many6 : m6.1 6522 0 = s.1 := by rw [hf6.1 _ (by decide), hf5.1 _ (by decide)]; exact many4
                rw [many6]
                refine ⟨am_RI (by omega) (by omega), lay _ _ m6 hlt2 ((hT4.fr hf5 (by decide)).fr hf6 (by decide)) ht6 many6 (fun k hk => by rw [hf6.2 _ (by decide), hf5.2 _ (by decide), hf4.2 _ (by decide), hf3.2 _ (by decide)]; exact k2 k hk _) (fun k hk => ?_) (fun i h1 h2 => by rw [hf6.1 _ (by decide), hf5.1 _ (by decide)]; exact set4 i h1 h2) (hf5'.tr1 (hf6.mono (by decide) (by decide))) ?_⟩
                · rw [hf6.1 _ (by decide), ← hm5, wr_at]
                  show _ = ((if k < s.1 then s.2.2.1 k else if k = s.1 then tnum tb (nxt tb tl (nxt tb tl (nxt tb tl t))) else s.2.2.1 (k - 1) : Nat) : Int)
                  by_cases e : k = s.1
                  · rw [if_pos (by omega), if_neg (by omega), if_pos e]
                  · rw [if_neg (by omega), if_pos (by omega), hf4.1 _ (by decide), hf3.1 _ (by decide)]; exact v2 k (by omega)
                · rw [ePI]
                  unfold pNum
                  rw [if_pos hk4, if_pos (by omega)]
              · have he : pIs tb tl (s.2.2.2 3) (nxt tb tl (nxt tb tl t)) = .inl (8 * (nxt tb tl (nxt tb tl (nxt tb tl t))).1 + 3) := by
                  rw [ePI]
                  unfold pNum
                  rw [if_pos hk4, if_neg (by omega)]
                simp only [he] at kl
                exact r_bad (x := 3) (by decide) (fun y => by omega) hT4 ht4 (fun m5 hF hf5 => ⟨Or.inl rfl, kl _ m5 rfl hF (hf4'.tr1 hf5)⟩)
            · have he : pIs tb tl (s.2.2.2 3) (nxt tb tl (nxt tb tl t)) = .inl (8 * (nxt tb tl (nxt tb tl (nxt tb tl t))).1 + 1) := by
                rw [ePI]
                unfold pNum
                rw [if_neg (fun y => hk3 (by rw [hs4.mpr y]; rfl))]
              simp only [he] at kl
              exact r_bad (x := 1) (by decide) (fun _ => rfl) hT4 ht4 (fun m5 hF hf5 => ⟨Or.inl rfl, kl _ m5 rfl hF (hf4'.tr1 hf5)⟩)
        | succ r ih =>
          intro k hk0 hpf
          have hpf : pfd s.2.1 (n64 (tnum tb (nxt tb tl t))) s.1 0 = if s.2.1 k = n64 (tnum tb (nxt tb tl t)) then (k : Int) else pfd s.2.1 (n64 (tnum tb (nxt tb tl t))) r (k + 1) := hpf
          refine f_M_readKey_35 ?_
          rw [hN1.1, hx, hN1.2.2.1 k (by omega)]
          refine ⟨fun y => by omega, fun _ => ⟨by omega, by omega, fun hne => ⟨am_RI (by omega) (by omega), ?_⟩, fun heq => ?_⟩⟩
          · exact ih (k + 1) (by omega) (by rw [hpf, if_neg (fun e => hne (lcmp0.mpr e))])
          · rw [if_pos (lcmp0.mp (Decidable.byContradiction heq))] at hpf
            rw [if_neg (by rw [hpf]; omega)] at kl
            exact r_bad (x := 2) (by decide) (fun y => by omega) hT1 ht1 (fun m2 hF hf2 => ⟨Or.inl rfl, kl _ m2 rfl hF (hf1'.tr1 hf2)⟩)
      exact main s.1 0 (by omega) rfl
    · rw [if_neg (fun y => hk (by rw [hs3.mpr y]; rfl))] at kl
      exact r_bad (x := 1) (by decide) (fun _ => rfl) hT1 ht1 (fun m2 hF hf2 => ⟨Or.inl rfl, kl _ m2 rfl hF (hf1'.tr1 hf2)⟩)
  · rw [if_neg (by omega)] at kl
    exact r_bad (x := 4) (by decide) (fun y => by have := (isW_iff.mp hw).1; omega) hT ht (fun m1 hF hf1 => ⟨Or.inl rfl, kl _ m1 rfl hF hf1⟩)
theorem r_readWhole {d : Nat} {P : Int → am_M → Prop} {m : am_M} {tb : Nat → Nat} {tl : Nat} (hR : RdR m tb tl (tok tb tl 0) sNew)
    (kl : ∀ (e : Nat) (m' : am_M), pText tb tl = .inl e → FtR m' e → Fr rrF rrF2 m m' → P 0 m')
    (kr : ∀ (s : St) (m' : am_M), pText tb tl = .inr s → NS m' s → Fr rrF rrF2 m m' → P 1 m') : am_OkI (d + 6) 136 [.inr (.inr 55)] m P := by
  have eq1 : ∀ (x : PR (Tk × St)), pSets tb tl 6 1 (tok tb tl 0) sNew = x → pText tb tl = pTx tb tl x := fun x hx => by unfold pText; rw [hx]
  have keyc : ∀ w : Int64, w = w64 (rc (sW 12)) → True := fun _ _ => trivial
  have keys : ∀ (f : Nat) (t : Tk) (s : St) (m1 : am_M), s.1 + f = 49 → RdR m1 tb tl t s → pText tb tl = pKeys tb tl f t s → Fr rrF rrF2 m m1 → am_GI (d + 6) 136 P 35 [(0, .inr (.inr 55))] [] m1 := by
    intro f
    induction f with
    | zero =>
      intro t s m1 hi hR1 he hf
      have := hR1.2.2.2.1
      omega
    | succ f ih =>
      intro t s m1 hi hR1 he hf
      have hs0 := (srt3 (k := t.2.2)).2.2.1
      unfold pKeys at he
      refine f_M_readWhole_35 (f_M_three (r_isWord (q := 12) (by decide +kernel) (by decide) hR1.2.1 (fun hno => ⟨fun _ => ?_, fun y => absurd rfl y⟩) (fun hyes => ⟨fun y => absurd y (by decide), fun _ => ?_⟩)))
      · rw [hR1.2.1.2.2.1]
        refine ⟨fun h0 => ⟨Or.inr rfl, ?_⟩, fun h0 => ?_⟩
        · rw [if_pos (hs0.mp (by omega))] at he
          exact kr s m1 he hR1.2.2 hf
        · rw [if_neg (fun y => h0 (by rw [hs0.mpr y]; rfl))] at he
          have hk : pKey tb tl t s = .inl (8 * t.1 + 1) := by unfold pKey; rw [if_neg (by rw [hno]; decide)]
          simp only [hk] at he
          exact r_bad (x := 1) (by decide) (fun _ => rfl) hR1.1 hR1.2.1 (fun m2 hF hf2 => ⟨fun _ => ⟨Or.inl rfl, kl _ m2 he hF (hf.tr1 hf2)⟩, fun y => absurd rfl y⟩)
      · have hk1 := (isW_iff.mp hyes).1
        rw [if_neg (by omega)] at he
        refine r_readKey hR1 hyes (fun e m2 he2 hF hf2 => ⟨fun y => absurd rfl y, fun _ => ⟨Or.inl rfl, ?_⟩⟩) (fun t' s' m2 he2 hR2 hs2 hf2 => ⟨fun _ => ?_, fun y => absurd (by decide) y⟩)
        · simp only [he2] at he
          exact kl e m2 he hF (hf.tr1 hf2)
        · simp only [he2] at he
          exact ih t' s' m2 (by omega) hR2 he (hf.tr1 hf2)
  have sets : ∀ (f i : Nat) (t : Tk) (s : St) (m1 : am_M), i + f = 7 → 1 ≤ i → s.1 = 0 → RdR m1 tb tl t s → pSets tb tl 6 1 (tok tb tl 0) sNew = pSets tb tl f i t s → Fr rrF rrF2 m m1 → am_GI (d + 6) 136 P 2 [(0, .inr (.inr 55)), (1, .inl i)] [] m1 := by
    intro f
    induction f with
    | zero =>
      intro i t s m1 hi h1 hs hR1 he hf
      exact f_M_readWhole_2 ⟨fun _ => keys 49 t s m1 (by omega) hR1 (eq1 _ he) hf, fun y => absurd (by omega) y⟩
    | succ f ih =>
      intro i t s m1 hi h1 hs hR1 he hf
      unfold pSets at he
      refine f_M_readWhole_2 ⟨fun y => by omega, fun _ => r_nameOf ⟨h1, by omega⟩ (fun w hw => r_isWord hw (by omega) hR1.2.1 (fun hno => ⟨fun _ => ⟨am_RI (by omega) (by omega), ?_⟩, fun y => absurd rfl y⟩) (fun hyes => ⟨fun y => absurd y (by decide), fun _ => ?_⟩))⟩
      · have hp : pSet tb tl i t s = .inr (t, s) := by unfold pSet; rw [if_neg (by rw [hno]; decide)]
        simp only [hp] at he
        exact ih (i + 1) t s m1 (by omega) (by omega) hs hR1 he hf
      · refine r_readSetting ⟨h1, by omega⟩ hR1 hs hyes (fun e m2 he2 hF hf2 => ⟨fun y => absurd rfl y, fun _ => ⟨Or.inl rfl, ?_⟩⟩) (fun t' s' m2 he2 hR2 hs2 hf2 => ⟨fun _ => ⟨am_RI (by omega) (by omega), ?_⟩, fun y => absurd (by decide) y⟩)
        · simp only [he2] at he
          exact kl e m2 (eq1 _ he) hF (hf.tr1 hf2)
        · simp only [he2] at he
          exact ih (i + 1) t' s' m2 (by omega) (by omega) hs2 hR2 he (hf.tr1 hf2)
  exact f_M_readWhole (sets 6 1 (tok tb tl 0) sNew m rfl (by omega) rfl hR rfl Fr.rf)
abbrev tmF : List Nat := [6500, 6503, 6502, 6504, 6505, 6506, 6507, 6508, 6509, 61, 64, 6522, 60, 63, 6521, 6523, 86]
abbrev tmF2 : List Nat := [6510, 58, 57]
abbrev tnF : List Nat := [6500, 6503, 6502, 6504, 6505, 6506, 6507, 6508, 6509, 61, 64, 6522]
theorem r_text {d : Nat} {P : Int → am_M → Prop} {m : am_M} {tb : Nat → Nat} {tl : Nat} (hT : TapR m tl tb)
    (kl : ∀ (e : Nat) (m' : am_M), pText tb tl = .inl e → TapR m' 0 tb → Fr tnF rrF2 m m' → P (a_text tb tl) m')
    (kr : ∀ (s' : St) (m' : am_M), pText tb tl = .inr s' → MS m' s' → Kept m' [] → RSAll m' (fun _ => none) → TapR m' 0 tb → Fr tmF tmF2 m m' → P (a_text tb tl) m') : am_OkI (d + 7) 137 [.inr (.inr 55)] m P := by
  unfold a_text at kl kr
  have hl := hT.2.1
  refine f_M_text ?_
  rw [hT.1]
  generalize hm0 : am_wr (am_wr (am_wr (am_wr (am_wr m 6500 (0 : Int) (0 : Int)) 6503 (0 : Int) (tl : Int)) 6502 (0 : Int) (0 : Int)) 6504 (0 : Int) (0 : Int)) 6522 (0 : Int) (0 : Int) = m0
  have hf0 : Fr tnF rrF2 m m0 := by rw [← hm0]; exact ((((Fr.rf.wr (by decide)).wr (by decide)).wr (by decide)).wr (by decide)).wr (by decide)
  refine f_M_begins_64 ⟨by decide, by decide, by decide, by decide, by decide, by decide, by decide, by decide, by decide, by decide, by decide, by decide, ?_⟩
  generalize hm1 : am_wr (am_wr (am_wr (am_wr (am_wr (am_wr m0 64 (1 : Int) (16 : Int)) 64 (2 : Int) (8 : Int)) 64 (3 : Int) (4 : Int)) 64 (4 : Int) (1 : Int)) 64 (5 : Int) (0 : Int)) 64 (6 : Int) (0 : Int) = m1
  have hf01 : Fr [64] [] m0 m1 := by rw [← hm1]; exact (((((Fr.rf.wr (by decide)).wr (by decide)).wr (by decide)).wr (by decide)).wr (by decide)).wr (by decide)
  have hf1 : Fr tnF rrF2 m m1 := hf0.tr1 (hf01.mono (by decide) (by decide))
  have hS1 : TapS m1 tl tb := by
    refine ⟨?_, hl, fun i hi => ?_⟩
    · rw [hf01.1 _ (by decide), ← hm0, wr_ne _ _ _ (by decide), wr_ne _ _ _ (by decide), wr_ne _ _ _ (by decide), wr_at, if_pos rfl]
    · rw [hf1.1 _ (by decide)]; exact hT.2.2 i hi
  have hN1 : NS m1 sNew := by
    refine ⟨?_, by decide, fun k hk => absurd hk (Nat.not_lt_zero k), fun k hk => absurd hk (Nat.not_lt_zero k), fun i h1 h2 => ?_, sNew_ok.2.1, fun k hk => absurd hk (Nat.not_lt_zero k)⟩
    · rw [hf01.1 _ (by decide), ← hm0, wr_at, if_pos rfl]; rfl
    · rw [← hm1]
      have : i = 1 ∨ i = 2 ∨ i = 3 ∨ i = 4 ∨ i = 5 ∨ i = 6 := by omega
      rcases this with e | e | e | e | e | e <;> subst e <;> simp [wr_at] <;> rfl
  have hto1 : m1.1 6504 0 = (0 : Nat) := by rw [hf01.1 _ (by decide), ← hm0, wr_ne _ _ _ (by decide), wr_at, if_pos rfl]; rfl
  refine r_go (p := 0) hS1 (by omega) hto1 (fun m2 ht2 hf2 => ?_)
  have hf2' : Fr tnF rrF2 m m2 := hf1.tr1 (hf2.mono (by decide) (by decide))
  have hTap : ∀ {m' : am_M}, Fr rrF rrF2 m2 m' → m'.1 6502 0 = 0 := fun hf => by
    rw [hf.1 _ (by decide), hf2.1 _ (by decide), hf01.1 _ (by decide), ← hm0, wr_ne _ _ _ (by decide), wr_ne _ _ _ (by decide), wr_at, if_pos rfl]
  refine r_readWhole ⟨hS1.fr hf2 (by decide), ht2, hN1.fr hf2 (by decide)⟩ (fun e m3 he hF hf3 => ⟨fun y => absurd rfl y, fun _ => ?_⟩) (fun s' m3 he hN3 hf3 => ⟨fun _ => ?_, fun y => absurd (by decide) y⟩)
  · obtain ⟨p, f, p1, p2, p3, p4, p5⟩ := hF
    rw [p1, p2]
    refine ⟨am_RI (by omega) (by omega), am_RI (by omega) (by omega), am_RI (by omega) (by omega), ?_⟩
    rw [he] at kl
    have := kl e m3 rfl ⟨hTap hf3, by omega, fun i hi => by omega⟩ (hf2'.tr1 (hf3.mono (by decide) (by decide)))
    rw [show (-2 : Int) - (8 * (p : Int) + (f : Int)) = -2 - (e : Int) by omega]
    exact this
  · rw [he] at kr
    have kr := fun m' => kr s' m' rfl
    rw [hN3.1]
    generalize hm4 : am_wr m3 6521 (0 : Int) (s'.1 : Int) = m4
    have hf34 : Fr [6521] [] m3 m4 := by rw [← hm4]; exact Fr.rf.wr (by decide)
    have hf4 : Fr tmF tmF2 m m4 := ((hf2'.tr1 (hf3.mono (by decide) (by decide) : Fr tnF rrF2 m2 m3)).mono (by decide) (by decide) : Fr tmF tmF2 m m3).tr1 (hf34.mono (by decide) (by decide))
    have hN4 : NS m4 s' := hN3.fr hf34 (by decide)
    obtain ⟨n1, n2, n3, n4, n5, n6, n7⟩ := id hN4
    have many4 : m4.1 6521 0 = s'.1 := by rw [← hm4, wr_at, if_pos rfl]
    have tap4 : m4.1 6502 0 = 0 := by rw [hf34.1 _ (by decide)]; exact hTap hf3
    have l141 : ∀ (r x : Nat) (m5 : am_M), x + r = 3 → Fr [60, 63, 6523, 86] [57] m4 m5 → m5.1 6523 0 = 0 → (∀ j : Nat, j < x → m5.1 86 j = 0) → (∀ i : Nat, 1 ≤ i → i ≤ 6 → m5.1 63 i = s'.2.2.2 i) → (∀ k : Nat, k < s'.1 → m5.2 57 k = s'.2.1 k ∧ m5.1 60 k = s'.2.2.1 k) → am_GI (d + 7) 137 P 141 [(0, .inr (.inr 55)), (1, .inl x)] [] m5 := by
      intro r
      induction r with
      | zero =>
        intro x m5 hx hf5 h1 h2 h3 h4
        have many5 : m5.1 6521 0 = s'.1 := by rw [hf5.1 _ (by decide)]; exact many4
        refine f_M_text_141 ⟨fun _ => ?_, fun y => absurd (by omega) y⟩
        rw [many5]
        exact kr m5 ⟨many5, n2, fun k hk => (h4 k hk).1, fun k hk => (h4 k hk).2, h3, n6, n7⟩ ⟨h1, by decide, fun s hs => (by cases hs), fun j s hj => by simp at hj⟩ ⟨h2 0 (by omega), h2 1 (by omega), h2 2 (by omega)⟩ ⟨by rw [hf5.1 _ (by decide)]; exact tap4, by omega, fun i hi => by omega⟩ (hf4.tr1 (hf5.mono (by decide) (by decide)))
      | succ r ih =>
        intro x m5 hx hf5 h1 h2 h3 h4
        refine f_M_text_141 ⟨fun y => by omega, fun _ => ⟨by omega, by omega, Or.inl rfl, am_RI (by omega) (by omega), ih (x + 1) _ (by omega) (hf5.wr (by decide)) (by rw [wr_ne _ _ _ (by decide)]; exact h1) (fun j hj => ?_) (fun i i1 i2 => by rw [wr_ne _ _ _ (by decide)]; exact h3 i i1 i2) (fun k hk => by rw [wr_2, wr_ne _ _ _ (by decide)]; exact h4 k hk)⟩⟩
        rw [wr_at]
        by_cases e : j = x
        · rw [if_pos (by omega)]
        · rw [if_neg (by omega)]; exact h2 j (by omega)
    have l98 : ∀ (r x : Nat) (m5 : am_M), x + r = 48 → Fr [60, 63] [57] m4 m5 → (∀ i : Nat, 1 ≤ i → i ≤ 6 → m5.1 63 i = s'.2.2.2 i) → (∀ k : Nat, k < x → k < s'.1 → m5.2 57 k = s'.2.1 k ∧ m5.1 60 k = s'.2.2.1 k) → am_GI (d + 7) 137 P 98 [(0, .inr (.inr 55)), (1, .inl x)] [] m5 := by
      intro r
      induction r with
      | zero =>
        intro x m5 hx hf5 h3 h4
        refine f_M_text_98 ⟨fun _ => l141 3 0 _ (by omega) ((hf5.mono (by decide) (by decide)).wr (by decide)) (by rw [wr_at, if_pos rfl]) (fun j hj => by omega) (fun i i1 i2 => by rw [wr_ne _ _ _ (by decide)]; exact h3 i i1 i2) (fun k hk => by rw [wr_2, wr_ne _ _ _ (by decide)]; exact h4 k (by omega) hk), fun y => absurd (by omega) y⟩
      | succ r ih =>
        intro x m5 hx hf5 h3 h4
        refine f_M_text_98 ⟨fun y => by omega, fun _ => ⟨by omega, by omega, by omega, by omega, by omega, by omega, by omega, by omega, am_RI (by omega) (by omega), ih (x + 1) _ (by omega) ((hf5.wl (by decide)).wr (by decide)) (fun i i1 i2 => by rw [wr_ne _ _ _ (by decide), wl_1]; exact h3 i i1 i2) (fun k k1 k2 => ?_)⟩⟩
        rw [wr_2, wl_at, wr_at]
        by_cases e : k = x
        · rw [if_pos (by omega), if_pos (by omega), ← e, hf5.1 _ (by decide), hf5.2 _ (by decide)]
          exact ⟨n3 k k2, n4 k k2⟩
        · rw [if_neg (by omega), if_neg (by omega), wl_1]; exact h4 k (by omega) k2
    have l72 : ∀ (r x : Nat) (m5 : am_M), x + r = 7 → Fr [63] [] m4 m5 → (∀ i : Nat, 1 ≤ i → i < x → m5.1 63 i = s'.2.2.2 i) → am_GI (d + 7) 137 P 72 [(0, .inr (.inr 55)), (1, .inl x)] [] m5 := by
      intro r
      induction r with
      | zero =>
        intro x m5 hx hf5 h3
        exact f_M_text_72 ⟨fun _ => l98 48 0 m5 (by omega) (hf5.mono (by decide) (by decide)) (fun i i1 i2 => h3 i i1 (by omega)) (fun k hk => by omega), fun y => absurd (by omega) y⟩
      | succ r ih =>
        intro x m5 hx hf5 h3
        refine f_M_text_72 ⟨fun y => by omega, fun _ => ⟨by omega, by omega, by omega, by omega, am_RI (by omega) (by omega), ih (x + 1) _ (by omega) (hf5.wr (by decide)) (fun i i1 i2 => ?_)⟩⟩
        rw [wr_at]
        by_cases e : i = x
        · rw [if_pos (by omega), ← e, hf5.1 _ (by decide)]; exact n5 i i1 (by omega)
        · rw [if_neg (by omega)]; exact h3 i i1 (by omega)
    exact l72 7 0 m4 (by omega) Fr.rf (fun i _ hi => by omega)
