/-! TOKENS of the reference -/
theorem r_isLetter {d : Nat} {P : Int → am_M → Prop} {m : am_M} {b : Nat} (k0 : isLt b = false → P 0 m) (k1 : isLt b = true → P 1 m) : am_OkI (d + 1) 120 [.inl b] m P := by
  have e0 : ¬ (97 ≤ b ∧ b ≤ 122) → isLt b = false := fun h => by
    cases hl : isLt b with
    | false => rfl
    | true => exact absurd (isLt_iff.mp hl) h
  refine f_M_isLetter ⟨fun h => ⟨Or.inl rfl, k0 (e0 (by omega))⟩, fun h => ⟨fun h2 => ⟨Or.inl rfl, k0 (e0 (by omega))⟩, fun h2 => ⟨Or.inr rfl, k1 (isLt_iff.mpr ⟨by omega, by omega⟩)⟩⟩⟩
theorem r_isDigit {d : Nat} {P : Int → am_M → Prop} {m : am_M} {b : Nat} (k0 : isDg b = false → P 0 m) (k1 : isDg b = true → P 1 m) : am_OkI (d + 1) 119 [.inl b] m P := by
  have e0 : ¬ (48 ≤ b ∧ b ≤ 57) → isDg b = false := fun h => by
    cases hl : isDg b with
    | false => rfl
    | true => exact absurd (isDg_iff.mp hl) h
  refine f_M_isDigit ⟨fun h => ⟨Or.inl rfl, k0 (e0 (by omega))⟩, fun h => ⟨fun h2 => ⟨Or.inl rfl, k0 (e0 (by omega))⟩, fun h2 => ⟨Or.inr rfl, k1 (isDg_iff.mpr ⟨by omega, by omega⟩)⟩⟩⟩
def TapS (m : am_M) (tl : Nat) (tb : Nat → Nat) : Prop := m.1 6503 0 = tl ∧ tl ≤ 600 ∧ ∀ i : Nat, i < tl → m.1 56 i = tb i ∧ tb i ≤ 255
theorem TapS.fr {m m' : am_M} {tl : Nat} {tb : Nat → Nat} (h : TapS m tl tb) {l1 l2 : List Nat} (hf : Fr l1 l2 m m') (h1 : 6503 ∉ l1 ∧ 56 ∉ l1) : TapS m' tl tb := by
  unfold TapS at *
  rw [hf.1 _ h1.1, hf.1 _ h1.2]; exact h
def srt (k : Nat) : Nat := if k = 0 then 0 else if k = 1 then 2 else if k = 2 then 3 else if k = 3 then 4 else 1
def w64 (n : Nat) : Int64 := Int64.ofNat n
abbrev goF : List Nat := [6504, 6505, 6506, 6507]
abbrev goF2 : List Nat := [6510]
def TkR (m : am_M) (tb : Nat → Nat) (tl : Nat) (t : Tk) : Prop := m.1 6505 0 = t.1 ∧ m.1 6504 0 = t.2.1 ∧ m.1 6506 0 = srt t.2.2 ∧ (t.2.2 = 2 → m.1 6507 0 = tnum tb t) ∧ (t.2.2 = 1 → m.2 6510 0 = w64 (rc (wv tb t.1 (t.2.1 - t.1)))) ∧ TokOK tb tl t
theorem TkR.fr {m m' : am_M} {tb : Nat → Nat} {tl : Nat} {t : Tk} (h : TkR m tb tl t) {l1 l2 : List Nat} (hf : Fr l1 l2 m m') (h1 : 6505 ∉ l1 ∧ 6504 ∉ l1 ∧ 6506 ∉ l1 ∧ 6507 ∉ l1 ∧ 6510 ∉ l2) : TkR m' tb tl t := by
  unfold TkR at *
  rw [hf.1 _ h1.1, hf.1 _ h1.2.1, hf.1 _ h1.2.2.1, hf.1 _ h1.2.2.2.1, hf.2 _ h1.2.2.2.2]; exact h
theorem r_tapeAt {d : Nat} {P : Int → am_M → Prop} {m : am_M} {tl : Nat} {tb : Nat → Nat} {q : Nat} (h : TapS m tl tb) (k0 : tl ≤ q → P ((0 : Nat) : Int) m) (k1 : q < tl → P (tb q) m) : am_OkI (d + 1) 118 [.inr (.inr 55), .inl q] m P := by
  have hl := h.2.1
  refine f_M_tapeAt ?_
  rw [h.1]
  refine ⟨fun y => k0 (by omega), fun y => ⟨by omega, by omega, ?_⟩⟩
  rw [(h.2.2 q (by omega)).1]; exact k1 (by omega)
theorem i2l_byte : ∀ b : Nat, b < 256 → am_i2l (b : Int) = Int64.ofNat b := by decide +kernel
theorem w_step {w b : Nat} (h1 : 97 ≤ b) (h2 : b ≤ 255) : Int64.ofNat 27 * Int64.ofNat w + am_i2l (b : Int) - Int64.ofNat 96 = Int64.ofNat (27 * w + (b - 96)) := by
  rw [i2l_byte b (by omega), ← Int64.ofNat_mul, ← Int64.ofNat_add, show 27 * w + b = (27 * w + (b - 96)) + 96 by omega, Int64.ofNat_add, Int64.add_sub_cancel]
theorem r_goWord {d : Nat} {P : am_M → Prop} {m : am_M} {tb : Nat → Nat} {tl s : Nat} (hT : TapS m tl tb) (hs : s < tl) (h1 : m.1 6505 0 = s) (h2 : m.1 6504 0 = s) (h3 : m.2 6510 0 = w64 0) (kpost : ∀ m' : am_M, m'.1 6505 0 = s → m'.1 6504 0 = (run isLt tb tl s : Nat) → m'.1 6506 0 = (srt (if run isLt tb tl s - s ≤ 6 then 1 else 4) : Nat) → (run isLt tb tl s - s ≤ 6 → m'.2 6510 0 = w64 (rc (wv tb s (run isLt tb tl s - s)))) → Fr goF goF2 m m' → P m') : am_GV (d + 2) 121 P 104 [(0, .inr (.inr 55))] [] m := by
  have hl := hT.2.1
  have main : ∀ (r q : Nat) (m1 : am_M), q + r = tl → s ≤ q → run isLt tb tl s = run isLt tb tl q → Fr goF goF2 m m1 → m1.1 6505 0 = s → m1.1 6504 0 = q → (q - s ≤ 6 → m1.2 6510 0 = w64 (rc (wv tb s (q - s)))) → am_GV (d + 2) 121 P 104 [(0, .inr (.inr 55))] [] m1 := by
    intro r
    induction r with
    | zero =>
      intro q m1 hq hsq hr hf e1 e2 e3
      have hr := hr.trans (run_stop (by omega))
      refine f_M_go_104 ?_
      rw [e2]
      refine r_tapeAt (hT.fr hf (by decide)) (fun _ => r_isLetter (fun _ => ⟨fun _ => ?_, fun y => absurd rfl y⟩) (fun hz => by cases hz)) (fun y => by omega)
      rw [e1, e2]
      refine ⟨am_RI (by omega) (by omega), fun h => ?_, fun h => ?_⟩
      · exact kpost _ (by rw [wr_ne _ _ _ (by decide)]; exact e1) (by rw [wr_ne _ _ _ (by decide), hr]; exact e2) (by rw [wr_at, if_pos rfl, if_pos (by omega)]; rfl) (fun h6 => by rw [wr_2, hr]; exact e3 (by omega)) (hf.wr (by decide))
      · exact kpost _ (by rw [wr_ne _ _ _ (by decide)]; exact e1) (by rw [wr_ne _ _ _ (by decide), hr]; exact e2) (by rw [wr_at, if_pos rfl, if_neg (by omega)]; rfl) (fun h6 => by omega) (hf.wr (by decide))
    | succ r ih =>
      intro q m1 hq hsq hr hf e1 e2 e3
      have hT1 := hT.fr hf (by decide)
      obtain ⟨b1, b2⟩ := hT1.2.2 q (by omega)
      refine f_M_go_104 ?_
      rw [e2]
      refine r_tapeAt hT1 (fun y => by omega) (fun _ => r_isLetter (fun h0 => ⟨fun _ => ?_, fun y => absurd rfl y⟩) (fun h0 => ⟨fun y => absurd y (by decide), fun _ => ?_⟩))
      · have hr := hr.trans (run_stop (fun z => by rw [h0] at z; exact Bool.noConfusion z.2))
        rw [e1, e2]
        refine ⟨am_RI (by omega) (by omega), fun h => ?_, fun h => ?_⟩
        · exact kpost _ (by rw [wr_ne _ _ _ (by decide)]; exact e1) (by rw [wr_ne _ _ _ (by decide), hr]; exact e2) (by rw [wr_at, if_pos rfl, if_pos (by omega)]; rfl) (fun h6 => by rw [wr_2, hr]; exact e3 (by omega)) (hf.wr (by decide))
        · exact kpost _ (by rw [wr_ne _ _ _ (by decide)]; exact e1) (by rw [wr_ne _ _ _ (by decide), hr]; exact e2) (by rw [wr_at, if_pos rfl, if_neg (by omega)]; rfl) (fun h6 => by omega) (hf.wr (by decide))
      · have hlt := isLt_iff.mp h0
        rw [e1, e2, b1]
        refine ⟨am_RI (by omega) (by omega), fun h => ⟨am_RI (by omega) (by omega), ?_⟩, fun h => ⟨by omega, by omega, am_RI (by omega) (by omega), ?_⟩⟩
        · exact ih (q + 1) _ (by omega) (by omega) (hr.trans (run_go (by omega) h0)) (hf.wr (by decide)) (by rw [wr_ne _ _ _ (by decide)]; exact e1) (by rw [wr_at, if_pos rfl]; rfl) (fun h6 => by omega)
        · rw [e3 (by omega)]
          refine ih (q + 1) _ (by omega) (by omega) (hr.trans (run_go (by omega) h0)) ((hf.wl (by decide)).wr (by decide)) (by rw [wr_ne _ _ _ (by decide), wl_1]; exact e1) (by rw [wr_at, if_pos rfl]; rfl) (fun h6 => ?_)
          rw [wr_2, wl_at, if_pos rfl]
          unfold w64
          rw [w_step (by omega) (by omega), show q + 1 - s = (q - s) + 1 by omega]
          show _ = Int64.ofNat (27 * rc (wv tb s (q - s)) + (tb (s + (q - s)) - 96))
          rw [show s + (q - s) = q by omega]
  exact main (tl - s) s m (by omega) (Nat.le_refl _) rfl Fr.rf h1 h2 (fun _ => by rw [Nat.sub_self]; exact h3)
theorem r_goNum {d : Nat} {P : am_M → Prop} {m : am_M} {tb : Nat → Nat} {tl s : Nat} (hT : TapS m tl tb) (hs : s < tl) (h1 : m.1 6505 0 = s) (h2 : m.1 6504 0 = s) (h3 : m.1 6507 0 = 0) (kpost : ∀ m' : am_M, m'.1 6505 0 = s → m'.1 6504 0 = (run isDg tb tl s : Nat) → m'.1 6506 0 = (srt (if run isDg tb tl s - s ≤ 9 then 2 else 4) : Nat) → (run isDg tb tl s - s ≤ 9 → m'.1 6507 0 = nmv tb s (run isDg tb tl s - s)) → Fr goF goF2 m m' → P m') : am_GV (d + 2) 121 P 205 [(0, .inr (.inr 55))] [] m := by
  have hl := hT.2.1
  have main : ∀ (r q : Nat) (m1 : am_M), q + r = tl → s ≤ q → run isDg tb tl s = run isDg tb tl q → Fr goF goF2 m m1 → m1.1 6505 0 = s → m1.1 6504 0 = q → (q - s ≤ 9 → m1.1 6507 0 = nmv tb s (q - s) ∧ nmv tb s (q - s) < 10 ^ (q - s)) → am_GV (d + 2) 121 P 205 [(0, .inr (.inr 55))] [] m1 := by
    intro r
    induction r with
    | zero =>
      intro q m1 hq hsq hr hf e1 e2 e3
      have hr := hr.trans (run_stop (by omega))
      refine f_M_go_205 ?_
      rw [e2]
      refine r_tapeAt (hT.fr hf (by decide)) (fun _ => r_isDigit (fun _ => ⟨fun _ => ?_, fun y => absurd rfl y⟩) (fun hz => by cases hz)) (fun y => by omega)
      rw [e1, e2]
      refine ⟨am_RI (by omega) (by omega), fun h => ?_, fun h => ?_⟩
      · exact kpost _ (by rw [wr_ne _ _ _ (by decide)]; exact e1) (by rw [wr_ne _ _ _ (by decide), hr]; exact e2) (by rw [wr_at, if_pos rfl, if_pos (by omega)]; rfl) (fun h6 => by rw [wr_ne _ _ _ (by decide), hr]; exact (e3 (by omega)).1) (hf.wr (by decide))
      · exact kpost _ (by rw [wr_ne _ _ _ (by decide)]; exact e1) (by rw [wr_ne _ _ _ (by decide), hr]; exact e2) (by rw [wr_at, if_pos rfl, if_neg (by omega)]; rfl) (fun h6 => by omega) (hf.wr (by decide))
    | succ r ih =>
      intro q m1 hq hsq hr hf e1 e2 e3
      have hT1 := hT.fr hf (by decide)
      obtain ⟨b1, b2⟩ := hT1.2.2 q (by omega)
      refine f_M_go_205 ?_
      rw [e2]
      refine r_tapeAt hT1 (fun y => by omega) (fun _ => r_isDigit (fun h0 => ⟨fun _ => ?_, fun y => absurd rfl y⟩) (fun h0 => ⟨fun y => absurd y (by decide), fun _ => ?_⟩))
      · have hr := hr.trans (run_stop (fun z => by rw [h0] at z; exact Bool.noConfusion z.2))
        rw [e1, e2]
        refine ⟨am_RI (by omega) (by omega), fun h => ?_, fun h => ?_⟩
        · exact kpost _ (by rw [wr_ne _ _ _ (by decide)]; exact e1) (by rw [wr_ne _ _ _ (by decide), hr]; exact e2) (by rw [wr_at, if_pos rfl, if_pos (by omega)]; rfl) (fun h6 => by rw [wr_ne _ _ _ (by decide), hr]; exact (e3 (by omega)).1) (hf.wr (by decide))
        · exact kpost _ (by rw [wr_ne _ _ _ (by decide)]; exact e1) (by rw [wr_ne _ _ _ (by decide), hr]; exact e2) (by rw [wr_at, if_pos rfl, if_neg (by omega)]; rfl) (fun h6 => by omega) (hf.wr (by decide))
      · have hlt := isDg_iff.mp h0
        rw [e1, e2, b1]
        refine ⟨am_RI (by omega) (by omega), fun h => ⟨am_RI (by omega) (by omega), ?_⟩, fun h => ?_⟩
        · exact ih (q + 1) _ (by omega) (by omega) (hr.trans (run_go (by omega) h0)) (hf.wr (by decide)) (by rw [wr_ne _ _ _ (by decide)]; exact e1) (by rw [wr_at, if_pos rfl]; rfl) (fun h6 => by omega)
        · obtain ⟨n1, n2⟩ := e3 (by omega)
          have hp : 10 ^ (q - s) ≤ 10 ^ 8 := Nat.pow_le_pow_right (by decide) (by omega)
          rw [n1]
          refine ⟨am_RI (by omega) (by omega), by omega, by omega, am_RI (by omega) (by omega), am_RI (by omega) (by omega), am_RI (by omega) (by omega), ?_⟩
          refine ih (q + 1) _ (by omega) (by omega) (hr.trans (run_go (by omega) h0)) ((hf.wr (by decide)).wr (by decide)) (by rw [wr_ne _ _ _ (by decide), wr_ne _ _ _ (by decide)]; exact e1) (by rw [wr_at, if_pos rfl]; rfl) (fun h6 => ?_)
          rw [wr_ne _ _ _ (by decide), wr_at, if_pos rfl, show q + 1 - s = (q - s) + 1 by omega]
          have e4 : nmv tb s (q - s + 1) = 10 * nmv tb s (q - s) + (tb q - 48) := by
            show 10 * nmv tb s (q - s) + (tb (s + (q - s)) - 48) = _
            rw [show s + (q - s) = q by omega]
          rw [e4, Nat.pow_succ]
          exact ⟨by omega, by omega⟩
  exact main (tl - s) s m (by omega) (Nat.le_refl _) rfl Fr.rf h1 h2 (fun _ => by rw [Nat.sub_self]; exact ⟨h3, by show 0 < 1; omega⟩)
theorem r_go {d : Nat} {P : am_M → Prop} {m : am_M} {tb : Nat → Nat} {tl p : Nat} (hT : TapS m tl tb) (hp : p ≤ tl) (hb : m.1 6504 0 = p) (kpost : ∀ m' : am_M, TkR m' tb tl (tok tb tl p) → Fr goF goF2 m m' → P m') : am_OkV (d + 2) 121 [.inr (.inr 55)] m P := by
  have hl := hT.2.1
  have hok := tok_ok (tb := tb) hp
  have blk : ∀ (q : Nat) (m1 : am_M), run isSp tb tl p = q → q ≤ tl → Fr goF goF2 m m1 → m1.1 6504 0 = q → (((m1.1 6504 (0 : Int)) < (m1.1 6503 (0 : Int)) → (0 ≤ (m1.1 6504 (0 : Int)) ∧ (m1.1 6504 (0 : Int)) < 600 ∧ (am_OkI (d + 1) 120 [.inl (m1.1 56 (m1.1 6504 (0 : Int)))] (am_wr (am_wl (am_wr m1 6505 (0 : Int) (m1.1 6504 (0 : Int))) 6510 (0 : Int) (Int64.ofNat 0)) 6507 (0 : Int) (0 : Int)) (fun z2 m2 => (z2 = (0 : Int) → (am_OkI (d + 1) 119 [.inl (m1.1 56 (m1.1 6504 (0 : Int)))] m2 (fun z4 m3 => (z4 = (0 : Int) → (am_R ((m3.1 6504 (0 : Int)) + (1 : Int)) ∧ (((m1.1 56 (m1.1 6504 (0 : Int))) ≠ (59 : Int) → (P (am_wr (am_wr m3 6504 (0 : Int) ((m3.1 6504 (0 : Int)) + (1 : Int))) 6506 (0 : Int) (1 : Int)))) ∧ (¬ ((m1.1 56 (m1.1 6504 (0 : Int))) ≠ (59 : Int)) → (P (am_wr (am_wr m3 6504 (0 : Int) ((m3.1 6504 (0 : Int)) + (1 : Int))) 6506 (0 : Int) (4 : Int))))))) ∧ (¬ (z4 = (0 : Int)) → (am_GV (d + 2) 121 P 205 [(0, .inr (.inr 55))] [] m3))))) ∧ (¬ (z2 = (0 : Int)) → (am_GV (d + 2) 121 P 104 [(0, .inr (.inr 55))] [] m2)))))) ∧ (¬ ((m1.1 6504 (0 : Int)) < (m1.1 6503 (0 : Int))) → (P (am_wr (am_wr m1 6505 (0 : Int) (m1.1 6504 (0 : Int))) 6506 (0 : Int) (0 : Int))))) := by
    intro q m1 hr hq hf he
    have hT1 := hT.fr hf (by decide)
    have htk : tok tb tl p = tok1 tb tl q := by unfold tok; rw [hr]
    rw [htk] at kpost hok
    unfold tok1 at kpost hok
    rw [he, hT1.1]
    refine ⟨fun h => ⟨by omega, by omega, ?_⟩, fun h => ?_⟩
    · have hq : q < tl := by omega
      rw [if_pos hq] at kpost hok
      obtain ⟨b1, b2⟩ := hT1.2.2 q hq
      rw [b1]
      generalize hm2 : am_wr (am_wl (am_wr m1 6505 (0 : Int) (q : Int)) 6510 (0 : Int) (Int64.ofNat 0)) 6507 (0 : Int) (0 : Int) = m2
      have hf2 : Fr goF goF2 m m2 := by rw [← hm2]; exact ((hf.wr (by decide)).wl (by decide)).wr (by decide)
      have hT2 := hT.fr hf2 (by decide)
      have e1 : m2.1 6505 0 = q := by rw [← hm2, wr_ne _ _ _ (by decide), wl_1, wr_at, if_pos rfl]
      have e2 : m2.1 6504 0 = q := by rw [← hm2, wr_ne _ _ _ (by decide), wl_1, wr_ne _ _ _ (by decide)]; exact he
      have e3 : m2.2 6510 0 = w64 0 := by rw [← hm2, wr_2, wl_at, if_pos rfl]; rfl
      have e4 : m2.1 6507 0 = 0 := by rw [← hm2, wr_at, if_pos rfl]
      refine r_isLetter (fun hz => ⟨fun _ => ?_, fun y => absurd rfl y⟩) (fun ho => ⟨fun y => absurd y (by decide), fun _ => ?_⟩)
      · rw [if_neg (by rw [hz]; decide)] at kpost hok
        refine r_isDigit (fun hz2 => ⟨fun _ => ?_, fun y => absurd rfl y⟩) (fun ho2 => ⟨fun y => absurd y (by decide), fun _ => ?_⟩)
        · rw [if_neg (by rw [hz2]; decide)] at kpost hok
          rw [e2]
          refine ⟨am_RI (by omega) (by omega), fun h5 => ?_, fun h5 => ?_⟩
          · rw [if_neg (by omega)] at kpost hok
            exact kpost _ ⟨by rw [wr_ne _ _ _ (by decide), wr_ne _ _ _ (by decide)]; exact e1, by rw [wr_ne _ _ _ (by decide), wr_at, if_pos rfl]; rfl, by rw [wr_at, if_pos rfl]; rfl, fun y => (by cases y), fun y => (by cases y), hok⟩ ((hf2.wr (by decide)).wr (by decide))
          · rw [if_pos (by omega)] at kpost hok
            exact kpost _ ⟨by rw [wr_ne _ _ _ (by decide), wr_ne _ _ _ (by decide)]; exact e1, by rw [wr_ne _ _ _ (by decide), wr_at, if_pos rfl]; rfl, by rw [wr_at, if_pos rfl]; rfl, fun y => (by cases y), fun y => (by cases y), hok⟩ ((hf2.wr (by decide)).wr (by decide))
        · rw [if_pos ho2] at kpost hok
          refine r_goNum hT2 hq e1 e2 e4 (fun m3 a1 a2 a3 a4 a5 => kpost m3 ⟨a1, a2, a3, fun hk => a4 (hok.2.2.2.2 hk).1, fun hk => ?_, hok⟩ (hf2.tr1 a5))
          have hk : (if run isDg tb tl q - q ≤ 9 then 2 else 4) = 1 := hk
          split at hk <;> cases hk
      · rw [if_pos ho] at kpost hok
        refine r_goWord hT2 hq e1 e2 e3 (fun m3 a1 a2 a3 a4 a5 => kpost m3 ⟨a1, a2, a3, fun hk => ?_, fun hk => a4 (hok.2.2.2.1 hk).1, hok⟩ (hf2.tr1 a5))
        have hk : (if run isLt tb tl q - q ≤ 6 then 1 else 4) = 2 := hk
        split at hk <;> cases hk
    · have hq : ¬ q < tl := by omega
      rw [if_neg hq] at kpost hok
      exact kpost _ ⟨by rw [wr_ne _ _ _ (by decide), wr_at, if_pos rfl], by rw [wr_ne _ _ _ (by decide), wr_ne _ _ _ (by decide)]; exact he, by rw [wr_at, if_pos rfl]; rfl, fun y => (by cases y), fun y => (by cases y), hok⟩ ((hf.wr (by decide)).wr (by decide))
  have main : ∀ (r q : Nat) (m1 : am_M), q + r = tl → run isSp tb tl p = run isSp tb tl q → Fr goF goF2 m m1 → m1.1 6504 0 = q → am_GV (d + 2) 121 P 0 [(0, .inr (.inr 55))] [] m1 := by
    intro r
    induction r with
    | zero =>
      intro q m1 hq hr hf he
      have hT1 := hT.fr hf (by decide)
      have hr := hr.trans (run_stop (by omega))
      have bl := blk q m1 hr (by omega) hf he
      refine f_M_go_0 ⟨fun _ => bl, fun y => absurd ?_ y⟩
      rw [he, hT1.1]; omega
    | succ r ih =>
      intro q m1 hq hr hf he
      have hT1 := hT.fr hf (by decide)
      obtain ⟨b1, b2⟩ := hT1.2.2 q (by omega)
      have go : isSp (tb q) = true → am_GV (d + 2) 121 P 0 [(0, .inr (.inr 55))] [] (am_wr m1 6504 (0 : Int) ((q : Int) + 1)) := fun hsp => ih (q + 1) _ (by omega) (hr.trans (run_go (by omega) hsp)) (hf.wr (by decide)) (by rw [wr_at, if_pos rfl]; rfl)
      have em : m1.1 6504 (0 : Int) = (q : Int) := he
      have eb : m1.1 56 (m1.1 6504 (0 : Int)) = (tb q : Int) := by rw [em]; exact b1
      refine f_M_go_0 ⟨fun y => ?_, fun _ => ⟨by rw [em]; omega, by rw [em]; omega, fun h => ?_, fun h => ⟨by rw [em]; omega, by rw [em]; omega, fun h2 => ?_, fun h2 => ?_⟩⟩⟩
      · rw [em, hT1.1] at y; omega
      · rw [eb] at h
        rw [em]
        exact ⟨am_RI (by omega) (by omega), go (isSp_iff.mpr (Or.inl (by omega)))⟩
      · rw [eb] at h h2
        exact blk q m1 (hr.trans (run_stop (fun z => by
          rcases isSp_iff.mp z.2 with y | y
          · exact h (by omega)
          · exact h2 (by omega)))) (by omega) hf he
      · rw [eb] at h2
        rw [em]
        exact ⟨am_RI (by omega) (by omega), go (isSp_iff.mpr (Or.inr (by omega)))⟩
  exact f_M_go (main (tl - p) p m (by omega) rfl Fr.rf hb)
theorem r_next {d : Nat} {P : am_M → Prop} {m : am_M} {tb : Nat → Nat} {tl : Nat} {t : Tk} (hT : TapS m tl tb) (ht : TkR m tb tl t) (kpost : ∀ m' : am_M, TkR m' tb tl (nxt tb tl t) → Fr goF goF2 m m' → P m') : am_OkV (d + 2) 121 [.inr (.inr 55)] m P := r_go hT ht.2.2.2.2.2.2.1 ht.2.1 kpost
theorem ofNat_inj {a b : Nat} (ha : a < 2 ^ 63) (hb : b < 2 ^ 63) (h : Int64.ofNat a = Int64.ofNat b) : a = b := by
  have h1 := congrArg Int64.toInt h
  rw [Int64.toInt_ofNat_of_lt ha, Int64.toInt_ofNat_of_lt hb] at h1
  omega
theorem sW_dgs : ∀ q, q < 14 → rc (sW q) < 2 ^ 31 ∧ (sW q).length ≤ 6 ∧ ∀ a ∈ sW q, 1 ≤ a ∧ a ≤ 26 := by decide +kernel
theorem r_isWord {d : Nat} {P : Int → am_M → Prop} {m : am_M} {tb : Nat → Nat} {tl : Nat} {t : Tk} {q : Nat} {w : Int64} (hw : w = w64 (rc (sW q))) (hq : q < 14) (ht : TkR m tb tl t) (k0 : isW tb t q = false → P 0 m) (k1 : isW tb t q = true → P 1 m) : am_OkI (d + 1) 125 [.inr (.inr 55), .inr (.inl w)] m P := by
  obtain ⟨t1, t2, t3, t4, t5, t6⟩ := ht
  have ef : ¬ isW tb t q = true → isW tb t q = false := fun h => by
    cases hb : isW tb t q with
    | false => rfl
    | true => exact absurd hb h
  have hs : (srt t.2.2 = 2 ↔ t.2.2 = 1) := by
    unfold srt
    split
    · omega
    · split
      · omega
      · split
        · omega
        · split <;> omega
  refine f_M_isWord ?_
  rw [t3]
  refine ⟨fun h => ⟨Or.inl rfl, k0 (ef (fun z => h (by rw [hs.mpr (isW_iff.mp z).1]; rfl)))⟩, fun h => ?_⟩
  have hk : t.2.2 = 1 := hs.mp (by omega)
  obtain ⟨g1, g2⟩ := t6.2.2.2.1 hk
  obtain ⟨v1, v2⟩ := wv_dgs (tb := tb) (s := t.1) (l := t.2.1 - t.1) (fun q h1 h2 => g2 q h1 (by have := t6.1; omega))
  have hlt := rc_lt v1
  rw [v2] at hlt
  have h27 : 27 ^ (t.2.1 - t.1) ≤ 27 ^ 6 := Nat.pow_le_pow_right (by decide) g1
  obtain ⟨w1, w2, w3⟩ := sW_dgs q hq
  rw [t5 hk, hw]
  refine ⟨fun h2 => ⟨Or.inl rfl, k0 (ef (fun z => h2 (lcmp0.mpr (by rw [(isW_iff.mp z).2]))))⟩, fun h2 => ⟨Or.inr rfl, k1 (isW_iff.mpr ⟨hk, ?_⟩)⟩⟩
  have := lcmp0.mp (Decidable.byContradiction h2)
  exact rc_inj v1 w3 (ofNat_inj (by omega) (by omega) this)
