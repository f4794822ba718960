/-! THE READER of the reference -/
def NSt (m : am_M) (n : Nat) (K : Nat → Int64) (V S : Nat → Nat) : Prop := m.1 6522 0 = n ∧ n ≤ 48 ∧ (∀ k : Nat, k < n → m.2 58 k = K k) ∧ (∀ k : Nat, k < n → m.1 61 k = V k) ∧ (∀ i : Nat, 1 ≤ i → i ≤ 6 → m.1 64 i = S i) ∧ SOK S ∧ ∀ k, k < n → V k < 2 ^ S 3
theorem NSt.fr {m m' : am_M} {n : Nat} {K : Nat → Int64} {V S : Nat → Nat} (h : NSt m n K V S) {l1 l2 : List Nat} (hf : Fr l1 l2 m m') (h1 : 6522 ∉ l1 ∧ 61 ∉ l1 ∧ 64 ∉ l1 ∧ 58 ∉ l2) : NSt m' n K V S := by
  unfold NSt at *
  rw [hf.1 _ h1.1, hf.1 _ h1.2.1, hf.1 _ h1.2.2.1, hf.2 _ h1.2.2.2]; exact h
abbrev NS (m : am_M) (s : St) : Prop := NSt m s.1 s.2.1 s.2.2.1 s.2.2.2
abbrev rrF : List Nat := [6504, 6505, 6506, 6507, 6508, 6509, 61, 64, 6522]
abbrev rrF2 : List Nat := [6510, 58]
def FtR (m : am_M) (e : Nat) : Prop := ∃ p f : Nat, m.1 6509 0 = p ∧ m.1 6508 0 = f ∧ 8 * p + f = e ∧ p ≤ 600 ∧ f ≤ 4
def RdR (m : am_M) (tb : Nat → Nat) (tl : Nat) (t : Tk) (s : St) : Prop := TapS m tl tb ∧ TkR m tb tl t ∧ NS m s
theorem RdR.tk {m m' : am_M} {tb : Nat → Nat} {tl : Nat} {t t' : Tk} {s : St} (h : RdR m tb tl t s) (ht : TkR m' tb tl t') (hf : Fr goF goF2 m m') : RdR m' tb tl t' s := ⟨h.1.fr hf (by decide), ht, h.2.2.fr hf (by decide)⟩
theorem srt3 {k : Nat} : (srt k = 3 ↔ k = 2) ∧ (srt k = 4 ↔ k = 3) ∧ (srt k = 0 ↔ k = 0) ∧ (k ≤ 4 → (srt k = 1 ↔ k = 4)) := by
  unfold srt
  by_cases h0 : k = 0
  · subst h0; decide
  · by_cases h1 : k = 1
    · subst h1; decide
    · by_cases h2 : k = 2
      · subst h2; decide
      · by_cases h3 : k = 3
        · subst h3; decide
        · rw [if_neg h0, if_neg h1, if_neg h2, if_neg h3]
          omega
theorem r_bad {d : Nat} {P : Int → am_M → Prop} {m : am_M} {tb : Nat → Nat} {tl x : Nat} {t : Tk} (hx : x ≤ 4) (h4 : t.2.2 = 4 → x = 1) (hT : TapS m tl tb) (ht : TkR m tb tl t) (kpost : ∀ m' : am_M, FtR m' (8 * t.1 + x) → Fr rrF rrF2 m m' → P 0 m') : am_OkI (d + 1) 126 [.inr (.inr 55), .inl x] m P := by
  obtain ⟨t1, t2, t3, t4, t5, t6⟩ := id ht
  have hl := hT.2.1
  have g1 := t6.1
  have g2 := t6.2.1
  have hs := (srt3 (k := t.2.2)).2.2.2 t6.2.2.1
  have fin : ∀ (y : Int), y = (x : Nat) → P 0 (am_wr (am_wr m 6508 (0 : Int) y) 6509 (0 : Int) (t.1 : Int)) := fun y hy => kpost _ ⟨t.1, x, by rw [wr_at, if_pos rfl], by rw [wr_ne _ _ _ (by decide), wr_at, if_pos rfl]; exact hy, rfl, by omega, hx⟩ ((Fr.rf.wr (by decide)).wr (by decide))
  refine f_M_bad ?_
  rw [t3, t1]
  refine ⟨fun h => ⟨Or.inl rfl, fin x rfl⟩, fun h => ⟨Or.inl rfl, fin 1 ?_⟩⟩
  have : x = 1 := h4 (hs.mp (by omega))
  omega
theorem r_readEnd {d : Nat} {P : Int → am_M → Prop} {m : am_M} {tb : Nat → Nat} {tl : Nat} {t : Tk} (hT : TapS m tl tb) (ht : TkR m tb tl t)
    (kl : ∀ (e : Nat) (m' : am_M), pEnd tb tl t = .inl e → FtR m' e → Fr rrF rrF2 m m' → P 0 m')
    (kr : ∀ (t' : Tk) (m' : am_M), pEnd tb tl t = .inr t' → TkR m' tb tl t' → Fr goF goF2 m m' → P 1 m') : am_OkI (d + 3) 134 [.inr (.inr 55)] m P := by
  obtain ⟨t1, t2, t3, t4, t5, t6⟩ := id ht
  have hs := (srt3 (k := t.2.2)).2.1
  unfold pEnd at kl kr
  refine f_M_readEnd ?_
  rw [t3]
  refine ⟨fun h => ?_, fun h => ?_⟩
  · rw [if_pos (hs.mp (by omega))] at kr
    exact r_next hT ht (fun m1 e f => ⟨Or.inr rfl, kr _ m1 rfl e f⟩)
  · rw [if_neg (fun y => h (by rw [hs.mpr y]; rfl))] at kl
    exact r_bad (x := 1) (by decide) (fun _ => rfl) hT ht (fun m1 e f => ⟨Or.inl rfl, kl _ m1 rfl e f⟩)
theorem r_nameOf {d : Nat} {P : Int64 → am_M → Prop} {m : am_M} {i : Nat} (hi : 1 ≤ i ∧ i ≤ 6) (k : ∀ w : Int64, w = w64 (rc (sW (i - 1))) → P w m) : am_OkL (d + 4) 130 [.inl i] m P := by
  refine f_M_nameOf ⟨fun h => ?_, fun h => ?_, fun h => ?_, fun h => ?_, fun h => ?_, fun h1 h2 h3 h4 h5 => ?_⟩
  · rw [show i = 1 by omega] at k; exact f_M_five (f_M_three (k _ (by decide +kernel)))
  · rw [show i = 2 by omega] at k; exact f_M_six (f_M_five (f_M_three (k _ (by decide +kernel))))
  · rw [show i = 3 by omega] at k; exact f_M_three (k _ (by decide +kernel))
  · rw [show i = 4 by omega] at k; exact f_M_three (k _ (by decide +kernel))
  · rw [show i = 5 by omega] at k; exact f_M_three (k _ (by decide +kernel))
  · rw [show i = 6 by omega] at k; exact f_M_six (f_M_five (f_M_three (k _ (by decide +kernel))))
def chv (tb : Nat → Nat) (i : Nat) (t : Tk) : Int := if isW tb t (chq i 0) = true then 0 else if isW tb t (chq i 1) = true then 1 else if isW tb t (chq i 2) = true then 2 else -1
theorem chv_spec {tb : Nat → Nat} {tl i : Nat} {t : Tk} : (chv tb i t = -1 → pCho tb tl i t = .inl (8 * t.1 + 1)) ∧ (chv tb i t ≠ -1 → ∃ v : Nat, chv tb i t = v ∧ pCho tb tl i t = .inr (nxt tb tl t, v)) := by
  unfold chv pCho
  by_cases h0 : isW tb t (chq i 0) = true
  · rw [if_pos h0, if_pos h0]; exact ⟨fun h => by omega, fun _ => ⟨0, rfl, rfl⟩⟩
  · rw [if_neg h0, if_neg h0]
    by_cases h1 : isW tb t (chq i 1) = true
    · rw [if_pos h1, if_pos h1]; exact ⟨fun h => by omega, fun _ => ⟨1, rfl, rfl⟩⟩
    · rw [if_neg h1, if_neg h1]
      by_cases h2 : isW tb t (chq i 2) = true
      · rw [if_pos h2, if_pos h2]; exact ⟨fun h => by omega, fun _ => ⟨2, rfl, rfl⟩⟩
      · rw [if_neg h2, if_neg h2]; exact ⟨fun _ => rfl, fun h => absurd rfl h⟩
theorem r_wayHere {d : Nat} {P : Int → am_M → Prop} {m : am_M} {tb : Nat → Nat} {tl : Nat} {t : Tk} (ht : TkR m tb tl t) (k : P (chv tb 5 t) m) : am_OkI (d + 4) 131 [.inr (.inr 55)] m P := by
  unfold chv at k
  rw [show chq 5 0 = 6 from rfl, show chq 5 1 = 8 from rfl, show chq 5 2 = 10 from rfl] at k
  refine f_M_wayHere (f_M_five (f_M_three (r_isWord (q := 6) (by decide +kernel) (by decide) ht (fun h => ⟨fun _ => ?_, fun y => absurd rfl y⟩) (fun h => ⟨fun y => absurd y (by decide), fun _ => by rw [if_pos h] at k; exact k⟩))))
  rw [if_neg (show ¬ isW tb t 6 = true by rw [h]; decide)] at k
  refine f_M_five (f_M_three (r_isWord (q := 8) (by decide +kernel) (by decide) ht (fun h => ⟨fun _ => ?_, fun y => absurd rfl y⟩) (fun h => ⟨fun y => absurd y (by decide), fun _ => by rw [if_pos h] at k; exact k⟩)))
  rw [if_neg (show ¬ isW tb t 8 = true by rw [h]; decide)] at k
  refine f_M_five (f_M_three (r_isWord (q := 10) (by decide +kernel) (by decide) ht (fun h => ⟨fun _ => ?_, fun y => absurd rfl y⟩) (fun h => ⟨fun y => absurd y (by decide), fun _ => by rw [if_pos h] at k; exact k⟩)))
  rw [if_neg (show ¬ isW tb t 10 = true by rw [h]; decide)] at k
  exact k
theorem r_spreadHere {d : Nat} {P : Int → am_M → Prop} {m : am_M} {tb : Nat → Nat} {tl : Nat} {t : Tk} (ht : TkR m tb tl t) (k : P (chv tb 6 t) m) : am_OkI (d + 4) 132 [.inr (.inr 55)] m P := by
  unfold chv at k
  rw [show chq 6 0 = 7 from rfl, show chq 6 1 = 9 from rfl, show chq 6 2 = 11 from rfl] at k
  refine f_M_spreadHere (f_M_five (f_M_three (r_isWord (q := 7) (by decide +kernel) (by decide) ht (fun h => ⟨fun _ => ?_, fun y => absurd rfl y⟩) (fun h => ⟨fun y => absurd y (by decide), fun _ => by rw [if_pos h] at k; exact k⟩))))
  rw [if_neg (show ¬ isW tb t 7 = true by rw [h]; decide)] at k
  refine f_M_five (f_M_three (r_isWord (q := 9) (by decide +kernel) (by decide) ht (fun h => ⟨fun _ => ?_, fun y => absurd rfl y⟩) (fun h => ⟨fun y => absurd y (by decide), fun _ => by rw [if_pos h] at k; exact k⟩)))
  rw [if_neg (show ¬ isW tb t 9 = true by rw [h]; decide)] at k
  refine f_M_three (r_isWord (q := 11) (by decide +kernel) (by decide) ht (fun h => ⟨fun _ => ?_, fun y => absurd rfl y⟩) (fun h => ⟨fun y => absurd y (by decide), fun _ => by rw [if_pos h] at k; exact k⟩))
  rw [if_neg (show ¬ isW tb t 11 = true by rw [h]; decide)] at k
  exact k
theorem r_readSetting {d : Nat} {P : Int → am_M → Prop} {m : am_M} {tb : Nat → Nat} {tl i : Nat} {t : Tk} {s : St} (hi : 1 ≤ i ∧ i ≤ 6) (hR : RdR m tb tl t s) (hs : s.1 = 0) (hw : isW tb t (i - 1) = true)
    (kl : ∀ (e : Nat) (m' : am_M), pSet tb tl i t s = .inl e → FtR m' e → Fr rrF rrF2 m m' → P 0 m')
    (kr : ∀ (t' : Tk) (s' : St) (m' : am_M), pSet tb tl i t s = .inr (t', s') → RdR m' tb tl t' s' → s'.1 = 0 → Fr rrF rrF2 m m' → P 1 m') : am_OkI (d + 5) 133 [.inr (.inr 55), .inl i] m P := by
  obtain ⟨hT, ht, hN⟩ := id hR
  unfold pSet at kl kr
  rw [if_pos hw] at kl kr
  refine f_M_readSetting (r_next hT ht (fun m1 ht1 hf1 => ?_))
  have hR1 := hR.tk ht1 hf1
  have hf1' : Fr rrF rrF2 m m1 := hf1.mono (by decide) (by decide)
  have bad : ∀ (x : Nat), x ≤ 4 → ((nxt tb tl t).2.2 = 4 → x = 1) → pVal tb tl i (nxt tb tl t) = .inl (8 * (nxt tb tl t).1 + x) → am_OkI (d + 4) 126 [.inr (.inr 55), .inl x] m1 (fun z8 m7 => (z8 = 0 ∨ z8 = 1) ∧ P z8 m7) := by
    intro x hx h4 hv
    rw [hv] at kl
    exact r_bad hx h4 hR1.1 ht1 (fun m2 hF hf2 => ⟨Or.inl rfl, kl _ m2 rfl hF (hf1'.tr1 hf2)⟩)
  have good : ∀ (v : Nat), pVal tb tl i (nxt tb tl t) = .inr (nxt tb tl (nxt tb tl t), v) → am_OkV (d + 4) 121 [.inr (.inr 55)] (am_wr m1 64 (i : Int) (v : Int)) (fun m4 => am_OkI (d + 4) 134 [.inr (.inr 55)] m4 (fun z6 m5 => (z6 = 0 ∨ z6 = 1) ∧ P z6 m5)) := by
    intro v hv
    rw [hv] at kl kr
    have hso := pVal_ok hi hv
    have hf2 : Fr [64] [] m1 (am_wr m1 64 (i : Int) (v : Int)) := Fr.rf.wr (by decide)
    have hok : StOK (sSet s i v) := ⟨by show s.1 ≤ 48; omega, sSet_sok hN.2.2.2.2.2.1 hso, fun k hk => by have hk : k < s.1 := hk; omega⟩
    have hN2 : NS (am_wr m1 64 (i : Int) (v : Int)) (sSet s i v) := by
      obtain ⟨n1, n2, n3, n4, n5, -, -⟩ := hR1.2.2
      refine ⟨by rw [wr_ne _ _ _ (by decide)]; exact n1, hok.1, fun k hk => n3 k hk, fun k hk => by rw [wr_ne _ _ _ (by decide)]; exact n4 k hk, fun j h1 h2 => ?_, hok.2.1, hok.2.2⟩
      rw [wr_at]
      show _ = ((if j = i then v else s.2.2.2 j : Nat) : Int)
      by_cases e : j = i
      · rw [if_pos (by omega), if_pos e]
      · rw [if_neg (by omega), if_neg e]; exact n5 j h1 h2
    have hR2 : RdR (am_wr m1 64 (i : Int) (v : Int)) tb tl (nxt tb tl t) (sSet s i v) := ⟨hR1.1.fr hf2 (by decide), ht1.fr hf2 (by decide), hN2⟩
    have hf2' : Fr rrF rrF2 m (am_wr m1 64 (i : Int) (v : Int)) := hf1'.wr (by decide)
    refine r_next hR2.1 hR2.2.1 (fun m3 ht3 hf3 => ?_)
    have hR3 := hR2.tk ht3 hf3
    have hf3' := hf2'.tr1 (hf3.mono (by decide) (by decide) : Fr rrF rrF2 _ m3)
    refine r_readEnd hR3.1 ht3 (fun e m4 he hF hf4 => ⟨Or.inl rfl, ?_⟩) (fun t4 m4 he ht4 hf4 => ⟨Or.inr rfl, ?_⟩)
    · simp only [he] at kl
      exact kl e m4 rfl hF (hf3'.tr1 hf4)
    · simp only [he] at kr
      exact kr _ _ m4 rfl (hR3.tk ht4 hf4) hs (hf3'.tr1 (hf4.mono (by decide) (by decide)))
  have e56 : (i = 5 ∨ i = 6) → pVal tb tl i (nxt tb tl t) = pCho tb tl i (nxt tb tl t) := fun h => by unfold pVal; rw [if_neg (by omega)]
  have cho : (i = 5 ∨ i = 6) → (chv tb i (nxt tb tl t) ≠ (-1 : Int) → (0 ≤ (i : Int) ∧ (i : Int) < 7 ∧ (am_OkV (d + 4) 121 [.inr (.inr 55)] (am_wr m1 64 (i : Int) (chv tb i (nxt tb tl t))) (fun m4 => am_OkI (d + 4) 134 [.inr (.inr 55)] m4 (fun z6 m5 => (z6 = 0 ∨ z6 = 1) ∧ P z6 m5))))) ∧ (¬ (chv tb i (nxt tb tl t) ≠ (-1 : Int)) → (am_OkI (d + 4) 126 [.inr (.inr 55), .inl (1 : Int)] m1 (fun z8 m7 => (z8 = 0 ∨ z8 = 1) ∧ P z8 m7))) := by
    intro h56
    obtain ⟨c1, c2⟩ := chv_spec (tb := tb) (tl := tl) (i := i) (t := nxt tb tl t)
    refine ⟨fun h => ⟨by omega, by omega, ?_⟩, fun h => ?_⟩
    · obtain ⟨v, v1, v2⟩ := c2 h
      rw [v1]
      exact good v ((e56 h56).trans v2)
    · exact bad 1 (by decide) (fun _ => rfl) ((e56 h56).trans (c1 (Decidable.byContradiction h)))
  refine ⟨fun h5 => ⟨fun y => absurd h5 y, fun _ => ?_⟩, fun h5 => ⟨fun h6 => ?_, fun h6 => ⟨fun _ => ?_, fun y => absurd h5 (by omega)⟩⟩⟩
  · have e : i = 5 := by omega
    refine r_wayHere ht1 ?_
    have := cho (Or.inl e)
    rw [e] at this ⊢
    exact this
  · have hv : pVal tb tl i (nxt tb tl t) = pNum tb tl (slo i) (shi i) (nxt tb tl t) := by unfold pVal; rw [if_pos (by omega)]
    have hs3 := (srt3 (k := (nxt tb tl t).2.2)).1
    rw [ht1.2.2.1]
    refine ⟨fun h => ?_, fun h => ?_⟩
    · have hk : (nxt tb tl t).2.2 = 2 := hs3.mp (by omega)
      have hnum := ht1.2.2.2.1 hk
      rw [hnum]
      refine r_lowOf (r_highOf (r_isIn (fun hb => ⟨fun y => absurd rfl y, fun _ => ?_⟩) (fun hb1 hb2 => ⟨fun _ => ⟨by omega, by omega, ?_⟩, fun y => absurd (by decide) y⟩)))
      · refine bad 3 (by decide) (fun y => by omega) ?_
        rw [hv]
        unfold pNum
        rw [if_pos hk, if_neg (by omega)]
      · rw [hnum]
        refine good _ ?_
        rw [hv]
        unfold pNum
        rw [if_pos hk, if_pos (by omega)]
    · refine bad 1 (by decide) (fun _ => rfl) ?_
      rw [hv]
      unfold pNum
      rw [if_neg (fun y => h (by rw [hs3.mpr y]; rfl))]
  · have e : i = 6 := by omega
    refine r_spreadHere ht1 ?_
    have := cho (Or.inr e)
    rw [e] at this ⊢
    exact this
