/-! TOKENS of the class -/
theorem sg_iff {b : Nat} (hb : b ≤ 255) {c : Nat} (hc : c < 128) : sg b = (c : Int) ↔ b = c := by
  unfold sg
  split <;> omega
theorem c_isLetter {d : Nat} {P : Int → am_M → Prop} {m : am_M} {b : Nat} (hb : b ≤ 255) (k0 : isLt b = false → P 0 m) (k1 : isLt b = true → P 1 m) : am_OkI (d + 1) 73 [.inl (sg b)] m P := by
  have key : (97 ≤ sg b ∧ sg b ≤ 122) ↔ isLt b = true := by
    rw [isLt_iff]
    unfold sg
    split <;> omega
  have e0 : ¬ (97 ≤ sg b ∧ sg b ≤ 122) → isLt b = false := fun h => by
    cases hl : isLt b with
    | false => rfl
    | true => exact absurd (key.mpr hl) h
  refine f_Tape_isLetter ⟨fun h => ⟨Or.inl rfl, k0 (e0 (by omega))⟩, fun h => ⟨fun h2 => ⟨Or.inl rfl, k0 (e0 (by omega))⟩, fun h2 => ⟨Or.inr rfl, k1 (key.mp ⟨by omega, by omega⟩)⟩⟩⟩
theorem c_isDigit {d : Nat} {P : Int → am_M → Prop} {m : am_M} {b : Nat} (hb : b ≤ 255) (k0 : isDg b = false → P 0 m) (k1 : isDg b = true → P 1 m) : am_OkI (d + 1) 74 [.inl (sg b)] m P := by
  have key : (48 ≤ sg b ∧ sg b ≤ 57) ↔ isDg b = true := by
    rw [isDg_iff]
    unfold sg
    split <;> omega
  have e0 : ¬ (48 ≤ sg b ∧ sg b ≤ 57) → isDg b = false := fun h => by
    cases hl : isDg b with
    | false => rfl
    | true => exact absurd (key.mpr hl) h
  refine f_Tape_isDigit ⟨fun h => ⟨Or.inl rfl, k0 (e0 (by omega))⟩, fun h => ⟨fun h2 => ⟨Or.inl rfl, k0 (e0 (by omega))⟩, fun h2 => ⟨Or.inr rfl, k1 (key.mp ⟨by omega, by omega⟩)⟩⟩⟩
abbrev tkF : List Nat := [1102, 1103, 1104, 1105]
def TkC (m : am_M) (tb : Nat → Nat) (tl : Nat) (t : Tk) : Prop := m.1 1103 0 = t.1 ∧ m.1 1104 0 = t.2.1 ∧ m.1 1102 0 = t.2.2 ∧ (t.2.2 = 2 → m.1 1105 0 = tnum tb t) ∧ TokOK tb tl t
theorem TkC.fr {m m' : am_M} {tb : Nat → Nat} {tl : Nat} {t : Tk} (h : TkC m tb tl t) {l1 l2 : List Nat} (hf : Fr l1 l2 m m') (h1 : 1103 ∉ l1 ∧ 1104 ∉ l1 ∧ 1102 ∉ l1 ∧ 1105 ∉ l1) : TkC m' tb tl t := by
  unfold TkC at *
  rw [hf.1 _ h1.1, hf.1 _ h1.2.1, hf.1 _ h1.2.2.1, hf.1 _ h1.2.2.2]; exact h
theorem c_takeWord {d : Nat} {P : am_M → Prop} {m : am_M} {tb : Nat → Nat} {tl s : Nat} (hT : TapC m tl tb) (hs : s ≤ tl) (h1 : m.1 1103 0 = s) (h2 : m.1 1104 0 = s) (kpost : ∀ m' : am_M, m'.1 1103 0 = s → m'.1 1104 0 = (run isLt tb tl s : Nat) → m'.1 1102 0 = (if run isLt tb tl s - s ≤ 6 then 1 else 4 : Nat) → Fr tkF [] m m' → P m') : am_OkV (d + 2) 70 [.inr (.inr 1)] m P := by
  have hl := hT.2.1
  have main : ∀ (r q : Nat) (m1 : am_M), q + r = tl → s ≤ q → run isLt tb tl s = run isLt tb tl q → Fr [1104] [] m m1 → m1.1 1104 0 = q → am_GV (d + 2) 70 P 0 [(0, .inr (.inr 1))] [] m1 := by
    intro r
    induction r with
    | zero =>
      intro q m1 hq hsq hr hf hb
      have hT1 := hT.fr hf (by decide)
      have e1 : m1.1 1103 0 = s := by rw [hf.1 _ (by decide)]; exact h1
      have hr := hr.trans (run_stop (by omega))
      refine f_Tape_takeWord_0 ?_
      rw [hT1.1, hb, e1]
      refine ⟨fun _ => ⟨am_RI (by omega) (by omega), fun h => ?_, fun h => ?_⟩, fun y => absurd (by omega) y⟩
      · exact kpost _ (by rw [wr_ne _ _ _ (by decide)]; exact e1) (by rw [wr_ne _ _ _ (by decide), hr]; exact hb) (by rw [wr_at, if_pos rfl, if_neg (by omega)]; rfl) ((hf.mono (by decide) (by decide)).wr (by decide))
      · exact kpost _ (by rw [wr_ne _ _ _ (by decide)]; exact e1) (by rw [wr_ne _ _ _ (by decide), hr]; exact hb) (by rw [wr_at, if_pos rfl, if_pos (by omega)]; rfl) ((hf.mono (by decide) (by decide)).wr (by decide))
    | succ r ih =>
      intro q m1 hq hsq hr hf hb
      have hT1 := hT.fr hf (by decide)
      have e1 : m1.1 1103 0 = s := by rw [hf.1 _ (by decide)]; exact h1
      obtain ⟨b1, b2⟩ := hT1.2.2 q (by omega)
      refine f_Tape_takeWord_0 ?_
      rw [hT1.1, hb, b1]
      refine ⟨fun y => by omega, fun _ => ⟨by omega, by omega, c_isLetter b2 (fun h0 => ⟨fun _ => ?_, fun y => absurd rfl y⟩) (fun h0 => ⟨fun y => absurd y (by decide), fun _ => ?_⟩)⟩⟩
      · have hr := hr.trans (run_stop (fun z => by rw [h0] at z; exact Bool.noConfusion z.2))
        rw [hb, e1]
        refine ⟨am_RI (by omega) (by omega), fun h => ?_, fun h => ?_⟩
        · exact kpost _ (by rw [wr_ne _ _ _ (by decide)]; exact e1) (by rw [wr_ne _ _ _ (by decide), hr]; exact hb) (by rw [wr_at, if_pos rfl, if_neg (by omega)]; rfl) ((hf.mono (by decide) (by decide)).wr (by decide))
        · exact kpost _ (by rw [wr_ne _ _ _ (by decide)]; exact e1) (by rw [wr_ne _ _ _ (by decide), hr]; exact hb) (by rw [wr_at, if_pos rfl, if_pos (by omega)]; rfl) ((hf.mono (by decide) (by decide)).wr (by decide))
      · rw [hb]
        refine ⟨am_RI (by omega) (by omega), ih (q + 1) _ (by omega) (by omega) (hr.trans (run_go (by omega) h0)) (hf.wr (by decide)) (by rw [wr_at, if_pos rfl]; rfl)⟩
  exact f_Tape_takeWord (main (tl - s) s m (by omega) (Nat.le_refl _) rfl Fr.rf h2)
theorem c_takeNum {d : Nat} {P : am_M → Prop} {m : am_M} {tb : Nat → Nat} {tl s : Nat} (hT : TapC m tl tb) (hs : s ≤ tl) (h1 : m.1 1103 0 = s) (h2 : m.1 1104 0 = s) (kpost : ∀ m' : am_M, m'.1 1103 0 = s → m'.1 1104 0 = (run isDg tb tl s : Nat) → m'.1 1102 0 = (if run isDg tb tl s - s ≤ 9 then 2 else 4 : Nat) → (run isDg tb tl s - s ≤ 9 → m'.1 1105 0 = nmv tb s (run isDg tb tl s - s)) → Fr tkF [] m m' → P m') : am_OkV (d + 2) 71 [.inr (.inr 1)] m P := by
  have hl := hT.2.1
  obtain ⟨rs1, rs2, rs3⟩ := run_spec (g := isDg) (tb := tb) (tl := tl) (tl - s) s (by omega)
  -- the number, from its first digit on
  have num : ∀ (r l : Nat) (m1 : am_M), l + r = run isDg tb tl s - s → run isDg tb tl s - s ≤ 9 → Fr tkF [] m m1 → m1.1 1103 0 = s → m1.1 1104 0 = (run isDg tb tl s : Nat) → m1.1 1102 0 = 2 → m1.1 1105 0 = nmv tb s l → am_GV (d + 2) 71 P 80 [(0, .inr (.inr 1)), (1, .inl ((s + l : Nat) : Int))] [] m1 := by
    intro r
    induction r with
    | zero =>
      intro l m1 hlr h9 hf e1 e2 e3 e4
      refine f_Tape_takeNumber_80 ?_
      rw [e2]
      refine ⟨fun _ => kpost m1 e1 e2 (by rw [if_pos h9]; exact e3) (fun _ => by rw [show run isDg tb tl s - s = l by omega]; exact e4) hf, fun y => absurd (by omega) y⟩
    | succ r ih =>
      intro l m1 hlr h9 hf e1 e2 e3 e4
      have hT1 := hT.fr hf (by decide)
      obtain ⟨b1, b2⟩ := hT1.2.2 (s + l) (by omega)
      have hd := isDg_iff.mp (rs3 (s + l) (by omega) (by omega))
      have hsg : sg (tb (s + l)) = (tb (s + l) : Int) := by unfold sg; rw [if_pos (by omega)]
      have hlt := nmv_lt (tb := tb) (s := s) (l := l) (fun q h1 h2 => rs3 q h1 (by omega))
      have hp : 10 ^ l ≤ 10 ^ 8 := Nat.pow_le_pow_right (by decide) (by omega)
      refine f_Tape_takeNumber_80 ?_
      rw [e2, e4, b1, hsg]
      refine ⟨fun y => by omega, fun _ => ⟨am_RI (by omega) (by omega), by omega, by omega, am_RI (by omega) (by omega), am_RI (by omega) (by omega), am_RI (by omega) (by omega), ?_⟩⟩
      have := ih (l + 1) (am_wr m1 1105 (0 : Int) (10 * ((nmv tb s l : Nat) : Int) + ((tb (s + l) : Nat) : Int) - 48)) (by omega) h9 (hf.wr (by decide)) (by rw [wr_ne _ _ _ (by decide)]; exact e1) (by rw [wr_ne _ _ _ (by decide)]; exact e2) (by rw [wr_ne _ _ _ (by decide)]; exact e3) (by
        rw [wr_at, if_pos rfl]
        show _ = ((10 * nmv tb s l + (tb (s + l) - 48) : Nat) : Int)
        omega)
      rw [show ((s + (l + 1) : Nat) : Int) = ((s + l : Nat) : Int) + 1 by omega] at this
      exact this
  have fin : ∀ (m1 : am_M), Fr tkF [] m m1 → m1.1 1103 0 = s → m1.1 1104 0 = (run isDg tb tl s : Nat) → (((9 : Int) < (((run isDg tb tl s : Nat) : Int) - (s : Int)) → (((4 : Int) ≠ (2 : Int) → (P (am_wr (am_wr m1 1102 (0 : Int) (4 : Int)) 1105 (0 : Int) (0 : Int)))) ∧ (¬ ((4 : Int) ≠ (2 : Int)) → (am_GV (d + 2) 71 P 80 [(0, .inr (.inr 1)), (1, .inl (s : Int))] [] (am_wr (am_wr m1 1102 (0 : Int) (4 : Int)) 1105 (0 : Int) (0 : Int)))))) ∧ (¬ ((9 : Int) < (((run isDg tb tl s : Nat) : Int) - (s : Int))) → (((2 : Int) ≠ (2 : Int) → (P (am_wr (am_wr m1 1102 (0 : Int) (2 : Int)) 1105 (0 : Int) (0 : Int)))) ∧ (¬ ((2 : Int) ≠ (2 : Int)) → (am_GV (d + 2) 71 P 80 [(0, .inr (.inr 1)), (1, .inl (s : Int))] [] (am_wr (am_wr m1 1102 (0 : Int) (2 : Int)) 1105 (0 : Int) (0 : Int))))))) := by
    intro m1 hf e1 e2
    refine ⟨fun h => ⟨fun _ => ?_, fun y => absurd (by decide) y⟩, fun h => ⟨fun y => absurd rfl y, fun _ => ?_⟩⟩
    · exact kpost _ (by rw [wr_ne _ _ _ (by decide), wr_ne _ _ _ (by decide)]; exact e1) (by rw [wr_ne _ _ _ (by decide), wr_ne _ _ _ (by decide)]; exact e2) (by rw [wr_ne _ _ _ (by decide), wr_at, if_pos rfl, if_neg (by omega)]; rfl) (fun y => by omega) ((hf.wr (by decide)).wr (by decide))
    · exact num (run isDg tb tl s - s) 0 _ (by omega) (by omega) ((hf.wr (by decide)).wr (by decide)) (by rw [wr_ne _ _ _ (by decide), wr_ne _ _ _ (by decide)]; exact e1) (by rw [wr_ne _ _ _ (by decide), wr_ne _ _ _ (by decide)]; exact e2) (by rw [wr_ne _ _ _ (by decide), wr_at, if_pos rfl]) (by rw [wr_at, if_pos rfl]; rfl)
  have main : ∀ (r q : Nat) (m1 : am_M), q + r = tl → s ≤ q → run isDg tb tl s = run isDg tb tl q → Fr [1104] [] m m1 → m1.1 1104 0 = q → am_GV (d + 2) 71 P 0 [(0, .inr (.inr 1))] [] m1 := by
    intro r
    induction r with
    | zero =>
      intro q m1 hq hsq hr hf hb
      have hT1 := hT.fr hf (by decide)
      have e1 : m1.1 1103 0 = s := by rw [hf.1 _ (by decide)]; exact h1
      have hr := hr.trans (run_stop (by omega))
      have fn := fin m1 (hf.mono (by decide) (by decide)) e1 (by rw [hr]; exact hb)
      rw [hr] at fn
      refine f_Tape_takeNumber_0 ?_
      rw [hT1.1, hb, e1]
      exact ⟨fun _ => ⟨am_RI (by omega) (by omega), fn⟩, fun y => absurd (by omega) y⟩
    | succ r ih =>
      intro q m1 hq hsq hr hf hb
      have hT1 := hT.fr hf (by decide)
      have e1 : m1.1 1103 0 = s := by rw [hf.1 _ (by decide)]; exact h1
      obtain ⟨b1, b2⟩ := hT1.2.2 q (by omega)
      refine f_Tape_takeNumber_0 ?_
      rw [hT1.1, hb, b1]
      refine ⟨fun y => by omega, fun _ => ⟨by omega, by omega, c_isDigit b2 (fun h0 => ⟨fun _ => ?_, fun y => absurd rfl y⟩) (fun h0 => ⟨fun y => absurd y (by decide), fun _ => ?_⟩)⟩⟩
      · have hr := hr.trans (run_stop (fun z => by rw [h0] at z; exact Bool.noConfusion z.2))
        have fn := fin m1 (hf.mono (by decide) (by decide)) e1 (by rw [hr]; exact hb)
        rw [hr] at fn
        rw [hb, e1]
        exact ⟨am_RI (by omega) (by omega), fn⟩
      · rw [hb]
        refine ⟨am_RI (by omega) (by omega), ih (q + 1) _ (by omega) (by omega) (hr.trans (run_go (by omega) h0)) (hf.wr (by decide)) (by rw [wr_at, if_pos rfl]; rfl)⟩
  exact f_Tape_takeNumber (main (tl - s) s m (by omega) (Nat.le_refl _) rfl Fr.rf h2)
theorem c_step {d : Nat} {P : am_M → Prop} {m : am_M} {tb : Nat → Nat} {tl p : Nat} (hT : TapC m tl tb) (hp : p ≤ tl) (hb : m.1 1104 0 = p) (kpost : ∀ m' : am_M, TkC m' tb tl (tok tb tl p) → Fr tkF [] m m' → P m') : am_OkV (d + 3) 69 [.inr (.inr 1)] m P := by
  have hl := hT.2.1
  have hok := tok_ok (tb := tb) hp
  have blk : ∀ (q : Nat) (m1 : am_M), run isSp tb tl p = q → q ≤ tl → Fr tkF [] m m1 → m1.1 1103 0 = q → (((m1.1 1103 (0 : Int)) < (m1.1 1101 (0 : Int)) → (0 ≤ (m1.1 1103 (0 : Int)) ∧ (m1.1 1103 (0 : Int)) < 600 ∧ (am_OkI (d + 2) 73 [.inl (m1.1 2 (m1.1 1103 (0 : Int)))] (am_wr m1 1104 (0 : Int) (m1.1 1103 (0 : Int))) (fun z2 m2 => (z2 = (0 : Int) → (0 ≤ (m2.1 1103 (0 : Int)) ∧ (m2.1 1103 (0 : Int)) < 600 ∧ (am_OkI (d + 2) 74 [.inl (m2.1 2 (m2.1 1103 (0 : Int)))] m2 (fun z4 m3 => (z4 = (0 : Int) → (0 ≤ (m3.1 1103 (0 : Int)) ∧ (m3.1 1103 (0 : Int)) < 600 ∧ (((m3.1 2 (m3.1 1103 (0 : Int))) ≠ (59 : Int) → (am_R ((m3.1 1104 (0 : Int)) + (1 : Int)) ∧ (P (am_wr (am_wr m3 1102 (0 : Int) (4 : Int)) 1104 (0 : Int) ((m3.1 1104 (0 : Int)) + (1 : Int)))))) ∧ (¬ ((m3.1 2 (m3.1 1103 (0 : Int))) ≠ (59 : Int)) → (am_R ((m3.1 1104 (0 : Int)) + (1 : Int)) ∧ (P (am_wr (am_wr m3 1102 (0 : Int) (3 : Int)) 1104 (0 : Int) ((m3.1 1104 (0 : Int)) + (1 : Int))))))))) ∧ (¬ (z4 = (0 : Int)) → (am_OkV (d + 2) 71 [.inr (.inr 1)] m3 (fun m5 => P m5))))))) ∧ (¬ (z2 = (0 : Int)) → (am_OkV (d + 2) 70 [.inr (.inr 1)] m2 (fun m6 => P m6))))))) ∧ (¬ ((m1.1 1103 (0 : Int)) < (m1.1 1101 (0 : Int))) → (P (am_wr (am_wr m1 1104 (0 : Int) (m1.1 1103 (0 : Int))) 1102 (0 : Int) (0 : Int))))) := by
    intro q m1 hr hq hf he
    have hT1 := hT.fr hf (by decide)
    have htk : tok tb tl p = tok1 tb tl q := by unfold tok; rw [hr]
    rw [htk] at kpost hok
    unfold tok1 at kpost hok
    rw [he, hT1.1]
    have hf2 : Fr tkF [] m (am_wr m1 1104 (0 : Int) (q : Int)) := hf.wr (by decide)
    have e2 : (am_wr m1 1104 (0 : Int) (q : Int)).1 1103 0 = q := by rw [wr_ne _ _ _ (by decide)]; exact he
    have e3 : (am_wr m1 1104 (0 : Int) (q : Int)).1 1104 0 = q := by rw [wr_at, if_pos rfl]
    refine ⟨fun h => ⟨by omega, by omega, ?_⟩, fun h => ?_⟩
    · have hq : q < tl := by omega
      rw [if_pos hq] at kpost hok
      obtain ⟨b1, b2⟩ := hT1.2.2 q hq
      have hT2 := hT.fr hf2 (by decide)
      obtain ⟨c1, -⟩ := hT2.2.2 q hq
      rw [b1]
      refine c_isLetter b2 (fun hz => ⟨fun _ => ?_, fun y => absurd rfl y⟩) (fun ho => ⟨fun y => absurd y (by decide), fun _ => ?_⟩)
      · rw [if_neg (by rw [hz]; decide)] at kpost hok
        rw [e2, c1]
        refine ⟨by omega, by omega, c_isDigit b2 (fun hz2 => ⟨fun _ => ?_, fun y => absurd rfl y⟩) (fun ho2 => ⟨fun y => absurd y (by decide), fun _ => ?_⟩)⟩
        · rw [if_neg (by rw [hz2]; decide)] at kpost hok
          rw [e2, c1, e3]
          have h59 : sg (tb q) = (59 : Int) ↔ tb q = 59 := sg_iff b2 (c := 59) (by decide)
          refine ⟨by omega, by omega, fun h5 => ⟨am_RI (by omega) (by omega), ?_⟩, fun h5 => ⟨am_RI (by omega) (by omega), ?_⟩⟩
          · rw [if_neg (fun z => h5 (h59.mpr z))] at kpost hok
            exact kpost _ ⟨by rw [wr_ne _ _ _ (by decide), wr_ne _ _ _ (by decide)]; exact e2, by rw [wr_at, if_pos rfl]; rfl, by rw [wr_ne _ _ _ (by decide), wr_at, if_pos rfl]; rfl, fun y => (by cases y), hok⟩ ((hf2.wr (by decide)).wr (by decide))
          · rw [if_pos (h59.mp (Decidable.byContradiction h5))] at kpost hok
            exact kpost _ ⟨by rw [wr_ne _ _ _ (by decide), wr_ne _ _ _ (by decide)]; exact e2, by rw [wr_at, if_pos rfl]; rfl, by rw [wr_ne _ _ _ (by decide), wr_at, if_pos rfl]; rfl, fun y => (by cases y), hok⟩ ((hf2.wr (by decide)).wr (by decide))
        · rw [if_pos ho2] at kpost hok
          refine c_takeNum hT2 (by omega) e2 e3 (fun m3 a1 a2 a3 a4 a5 => kpost m3 ⟨a1, a2, a3, fun hk => a4 ?_, hok⟩ (hf2.tr1 a5))
          exact (hok.2.2.2.2 hk).1
      · rw [if_pos ho] at kpost hok
        refine c_takeWord hT2 (by omega) e2 e3 (fun m3 a1 a2 a3 a5 => kpost m3 ⟨a1, a2, a3, fun hk => ?_, hok⟩ (hf2.tr1 a5))
        have hk : (if run isLt tb tl q - q ≤ 6 then 1 else 4) = 2 := hk
        split at hk <;> cases hk
    · have hq : ¬ q < tl := by omega
      rw [if_neg hq] at kpost hok
      exact kpost _ ⟨by rw [wr_ne _ _ _ (by decide)]; exact e2, by rw [wr_ne _ _ _ (by decide)]; exact e3, by rw [wr_at, if_pos rfl]; rfl, fun y => (by cases y), hok⟩ (hf2.wr (by decide))
  have main : ∀ (r q : Nat) (m1 : am_M), q + r = tl → run isSp tb tl p = run isSp tb tl q → Fr tkF [] m m1 → m1.1 1103 0 = q → am_GV (d + 3) 69 P 8 [(0, .inr (.inr 1))] [] m1 := by
    intro r
    induction r with
    | zero =>
      intro q m1 hq hr hf he
      have hT1 := hT.fr hf (by decide)
      have hr := hr.trans (run_stop (by omega))
      have bl := blk q m1 hr (by omega) hf he
      refine f_Tape_step_8 ⟨fun _ => bl, fun y => absurd ?_ y⟩
      rw [he, hT1.1]; omega
    | succ r ih =>
      intro q m1 hq hr hf he
      have hT1 := hT.fr hf (by decide)
      obtain ⟨b1, b2⟩ := hT1.2.2 q (by omega)
      have h32 : sg (tb q) = (32 : Int) ↔ tb q = 32 := sg_iff b2 (c := 32) (by decide)
      have h10 : sg (tb q) = (10 : Int) ↔ tb q = 10 := sg_iff b2 (c := 10) (by decide)
      have go : isSp (tb q) = true → am_GV (d + 3) 69 P 8 [(0, .inr (.inr 1))] [] (am_wr m1 1103 (0 : Int) ((q : Int) + 1)) := fun hsp => ih (q + 1) _ (by omega) (hr.trans (run_go (by omega) hsp)) (hf.wr (by decide)) (by rw [wr_at, if_pos rfl]; rfl)
      have eb : m1.1 2 (m1.1 1103 (0 : Int)) = sg (tb q) := by rw [he]; exact b1
      refine f_Tape_step_8 ⟨fun y => ?_, fun _ => ?_⟩
      · rw [he, hT1.1] at y; omega
      · have em : m1.1 1103 (0 : Int) = (q : Int) := he
        refine ⟨by rw [em]; omega, by rw [em]; omega, fun h => ?_, fun h => ⟨by rw [em]; omega, by rw [em]; omega, fun h2 => ?_, fun h2 => ?_⟩⟩
        · rw [eb] at h
          rw [em]
          exact ⟨am_RI (by omega) (by omega), go (isSp_iff.mpr (Or.inl (h32.mp h)))⟩
        · rw [eb] at h h2
          exact blk q m1 (hr.trans (run_stop (fun z => by
            rcases isSp_iff.mp z.2 with y | y
            · exact h (h32.mpr y)
            · exact h2 (h10.mpr y)))) (by omega) hf he
        · rw [eb] at h2
          rw [em]
          exact ⟨am_RI (by omega) (by omega), go (isSp_iff.mpr (Or.inr (h10.mp (Decidable.byContradiction h2))))⟩
  refine f_Tape_step ?_
  rw [hb]
  exact main (tl - p) p _ (by omega) rfl (Fr.rf.wr (by decide)) (by rw [wr_at, if_pos rfl])
theorem c_next {d : Nat} {P : am_M → Prop} {m : am_M} {tb : Nat → Nat} {tl : Nat} {t : Tk} (hT : TapC m tl tb) (ht : TkC m tb tl t) (kpost : ∀ m' : am_M, TkC m' tb tl (nxt tb tl t) → Fr tkF [] m m' → P m') : am_OkV (d + 3) 69 [.inr (.inr 1)] m P := c_step hT ht.2.2.2.2.2.1 ht.2.1 kpost
