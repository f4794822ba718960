/-! set, undo of the class -/
def sob (i v : Nat) : Bool := decide (1 ≤ i ∧ i ≤ 6 ∧ slo i ≤ v ∧ v ≤ shi i)
theorem sob_iff {i v : Nat} : sob i v = true ↔ SetOK i v := by
  unfold sob SetOK
  rw [decide_eq_true_eq]
def fitb (V : Nat → Nat) (b : Nat) : Nat → Bool
  | 0 => true
  | k + 1 => fitb V b k && decide (V k < 2 ^ b)
theorem fitb_iff {V : Nat → Nat} {b : Nat} : ∀ {n : Nat}, fitb V b n = true ↔ ∀ k, k < n → V k < 2 ^ b
  | 0 => by simp [fitb]
  | n + 1 => by
    unfold fitb
    rw [Bool.and_eq_true, decide_eq_true_eq, fitb_iff]
    constructor
    · rintro ⟨h1, h2⟩ k hk
      by_cases e : k = n
      · subst e; exact h2
      · exact h1 k (by omega)
    · intro h
      exact ⟨fun k hk => h k (by omega), h n (by omega)⟩
def a_set (s : St) (i v : Int) : Int × Option St := if 0 ≤ i ∧ 0 ≤ v ∧ sob i.toNat v.toNat = true ∧ (i ≠ 3 ∨ fitb s.2.2.1 v.toNat s.1 = true) then (s.2.2.2 i.toNat, some (sSet s i.toNat v.toNat)) else (-1, none)
theorem ok_set {s : St} {i v : Nat} (h : StOK s) (hs : SetOK i v) (hf : i ≠ 3 ∨ fitb s.2.2.1 v s.1 = true) : StOK (sSet s i v) := by
  refine ⟨h.1, sSet_sok h.2.1 hs, fun k hk => ?_⟩
  show s.2.2.1 k < 2 ^ (if 3 = i then v else s.2.2.2 3)
  by_cases e : 3 = i
  · rw [if_pos e]
    rcases hf with h1 | h1
    · exact absurd e.symm h1
    · exact fitb_iff.mp h1 k hk
  · rw [if_neg e]; exact h.2.2 k hk
theorem c_set {d : Nat} {P : Int → am_M → Prop} {m : am_M} {s : St} {L : List St} {ch : Nat} {i v : Int} (hG : GS m s) (hR : Ring m s L) (hc : m.1 1404 0 = ch) (hch : ch ≤ 100000000)
    (kn : (a_set s i v).2 = none → P (a_set s i v).1 m)
    (ks : ∀ (m' : am_M) (t : St), (a_set s i v).2 = some t → GS m' t → Ring m' t ((s :: L).take 12) → m'.1 1404 0 = (ch + 1 : Nat) → Fr (acF ++ gvF) (acF2 ++ gvF2) m m' → P (a_set s i v).1 m') : am_OkI (d + 3) 83 [.inr (.inr 0), .inl i, .inl v] m P := by
  unfold a_set at *
  have hgo : 0 ≤ i → 0 ≤ v → SetOK i.toNat v.toNat → (i ≠ 3 ∨ fitb s.2.2.1 v.toNat s.1 = true) → 0 ≤ i ∧ i < 7 ∧ (am_OkV (d + 2) 1 [.inr (.inr 12), .inl (3 : Int), .inl i, .inr (.inl (Int64.ofNat 0)), .inl (m.1 7 i)] m (fun m3 => am_OkV (d + 2) 12 [.inr (.inr 4), .inl i, .inl v] m3 (fun m4 => P (m.1 7 i) m4))) := by
    intro h1 h2 h3 h4
    rw [if_pos ⟨h1, h2, sob_iff.mpr h3, h4⟩] at ks
    have ks := fun m' => ks m' _ rfl
    obtain ⟨j, rfl⟩ : ∃ j : Nat, i = j := ⟨i.toNat, by omega⟩
    obtain ⟨w, rfl⟩ : ∃ w : Nat, v = w := ⟨v.toNat, by omega⟩
    have h3 : SetOK j w := h3
    obtain ⟨a1, a2, -, -⟩ := id h3
    refine ⟨by omega, by omega, ?_⟩
    rw [hG.2.2.2.2.1 j a1 a2]
    refine c_note (new := sSet s j w) hR hG.ok (Or.inr (Or.inr (Or.inr ⟨rfl, hG.ok.2.1.set a1 a2⟩))) ⟨rfl, fun k hk => ⟨rfl, rfl⟩, fun q _ _ => ?_⟩ (fun m5 hR5 hf5 => ?_)
    · show (if q = j then s.2.2.2 j else if q = j then w else s.2.2.2 q) = s.2.2.2 q
      by_cases e : q = j
      · rw [if_pos e, e]
      · rw [if_neg e, if_neg e]
    · exact c_resettle (hG.fr hf5 (by decide)) (by rw [hf5.1 _ (by decide)]; exact hc) hch h3 (ok_set hG.ok h3 (by rcases h4 with h4 | h4; exact Or.inl (by omega); exact Or.inr h4)) (fun m6 hG6 hc6 hf6 => ks m6 hG6 (hR5.fr hf6 (by decide)) hc6 (hf5.tr hf6 (by decide) (by decide) (by decide) (by decide)))
  refine f_T_set (c_canBeSetting (fun h => ⟨fun _ => ?_, fun y => absurd rfl y⟩) (fun h1 h2 h3 => ⟨fun y => absurd y (by decide), fun _ => ⟨fun h => hgo h1 h2 h3 (Or.inl h), fun h => ?_⟩⟩))
  · rw [if_neg (fun y => h ⟨y.1, y.2.1, sob_iff.mp y.2.2.1⟩)] at kn; exact kn rfl
  · have hv : ((v.toNat : Nat) : Int) = v := by omega
    have hi3 : i = 3 := by omega
    have hb : v.toNat ≤ 8 := by
      have h4 := h3.2.2.2
      rw [hi3] at h4
      exact h4
    have := c_fitsBits (d := d + 1) (P := fun z6 m5 => (z6 ≠ (0 : Int) → (0 ≤ i ∧ i < 7 ∧ (am_OkV (d + 2) 1 [.inr (.inr 12), .inl (3 : Int), .inl i, .inr (.inl (Int64.ofNat 0)), .inl (m5.1 7 i)] m5 (fun m7 => am_OkV (d + 2) 12 [.inr (.inr 4), .inl i, .inl v] m7 (fun m8 => P (m5.1 7 i) m8))))) ∧ (¬ (z6 ≠ (0 : Int)) → (P (-1 : Int) m5))) (b := v.toNat) hG hb (fun h4 => ⟨fun y => absurd rfl y, fun _ => ?_⟩) (fun h4 => ⟨fun _ => hgo h1 h2 h3 (Or.inr (fitb_iff.mpr h4)), fun y => absurd (by decide) y⟩)
    · rw [hv] at this
      exact this
    · rw [if_neg (fun y => by
        rcases y.2.2.2 with z | z
        · exact z hi3
        · exact h4 (fitb_iff.mp z))] at kn
      exact kn rfl
theorem c_undo {d : Nat} {P : Int → am_M → Prop} {m : am_M} {s : St} {L : List St} {ch : Nat} (hG : GS m s) (hR : Ring m s L) (hc : m.1 1404 0 = ch) (hch : ch ≤ 100000000)
    (kn : L = [] → P (-1) m)
    (ks : ∀ (m' : am_M) (t : St) (L' : List St), L = t :: L' → GS m' t → Ring m' t L' → m'.1 1404 0 = (ch + 1 : Nat) → Fr (acF ++ gvF) (acF2 ++ gvF2) m m' → P (L'.length : Nat) m') : am_OkI (d + 4) 106 [.inr (.inr 0)] m P := by
  obtain ⟨r1, r2, r3, nx, r4, r5, r6⟩ := hR
  refine f_T_undo ?_
  rw [r1]
  refine ⟨fun h => ?_, fun h => ?_⟩
  · cases L with
    | nil => exact absurd rfl h
    | cons t L' =>
      obtain ⟨kd, p, v, a1, a2, a3, a4, a5⟩ := r6 0 s t rfl rfl
      have hot := r3 t List.mem_cons_self
      have hlen : (t :: L').length = L'.length + 1 := rfl
      generalize hm0 : am_wr (am_wr m 2204 (0 : Int) ((slot nx 0 : Nat) : Int)) 2205 (0 : Int) (((t :: L').length : Int) - 1) = m0
      have hf0 : Fr [2204, 2205] [] m m0 := by rw [← hm0]; exact (Fr.rf.wr (by decide)).wr (by decide)
      have hG0 := hG.fr hf0 (by decide)
      have hc0 : m0.1 1404 0 = ch := by rw [hf0.1 _ (by decide)]; exact hc
      have hR0 : Ring m0 t L' := by
        refine ⟨by rw [← hm0, wr_at, if_pos rfl, hlen]; omega, by rw [hlen] at r2; omega, fun s hs => r3 s (List.mem_cons_of_mem _ hs), slot nx 0, by unfold slot; split <;> omega, by rw [← hm0, wr_ne _ _ _ (by decide), wr_at, if_pos rfl], fun j a b ha hb => ?_⟩
        have hj : j < L'.length := (List.getElem?_eq_some_iff.mp hb).1
        have := r6 (j + 1) a b ha hb
        rw [hlen] at r2
        have hs : slot (slot nx 0) j = slot nx (j + 1) := by
          unfold slot
          split <;> split <;> (try split) <;> omega
        rw [hs]
        unfold ActAt at *
        rw [hf0.1 _ (by decide), hf0.1 _ (by decide), hf0.1 _ (by decide), hf0.2 _ (by decide)]
        exact this
      have fin : ∀ m1 : am_M, GS m1 (sInv kd p (m.2 15 (slot nx 0 : Nat)) v s) → m1.1 1404 0 = (ch + 1 : Nat) → Fr gvF gvF2 m0 m1 → P (m1.1 2205 (0 : Int)) m1 := by
        intro m1 h1 h2 h3
        have hR1 := hR0.fr h3 (by decide)
        rw [hR1.1]
        exact ks m1 t L' rfl (h1.eq a5 hot) hR1 h2 (hf0.tr h3 (by decide) (by decide) (by decide) (by decide))
      have hokv := a5.ok hot
      have mid : ∀ (q : Int), q = (slot nx 0 : Nat) → ((m.1 13 q = 0 → (0 ≤ q ∧ q < 12 ∧ (am_OkV (d + 2) 10 [.inr (.inr 4), .inl (m.1 14 q)] m0 (fun m2 => P (m2.1 2205 (0 : Int)) m2)))) ∧ (m.1 13 q = 1 → (0 ≤ q ∧ q < 12 ∧ (0 ≤ q ∧ q < 12 ∧ (0 ≤ q ∧ q < 12 ∧ (am_OkV (d + 2) 9 [.inr (.inr 4), .inl (m.1 14 q), .inr (.inl (m.2 15 q)), .inl (m.1 16 q)] m0 (fun m3 => P (m3.1 2205 (0 : Int)) m3)))))) ∧ (m.1 13 q = 2 → (0 ≤ q ∧ q < 12 ∧ (0 ≤ q ∧ q < 12 ∧ (am_OkV (d + 2) 11 [.inr (.inr 4), .inl (m.1 14 q), .inl (m.1 16 q)] m0 (fun m4 => P (m4.1 2205 (0 : Int)) m4))))) ∧ (m.1 13 q ≠ 2 → m.1 13 q ≠ 1 → m.1 13 q ≠ 0 → (0 ≤ q ∧ q < 12 ∧ (0 ≤ q ∧ q < 12 ∧ (am_OkV (d + 2) 12 [.inr (.inr 4), .inl (m.1 14 q), .inl (m.1 16 q)] m0 (fun m1 => P (m1.1 2205 (0 : Int)) m1)))))) := by
        intro q hq
        have hql : slot nx 0 < 12 := by unfold slot; split <;> omega
        rw [hq, a1, a2, a3]
        refine ⟨fun e => ⟨by omega, by omega, ?_⟩, fun e => ⟨by omega, by omega, by omega, by omega, by omega, by omega, ?_⟩, fun e => ⟨by omega, by omega, by omega, by omega, ?_⟩, fun e1 e2 e3 => ⟨by omega, by omega, by omega, by omega, ?_⟩⟩
        · have hk : kd = 0 := by omega
          subst hk
          have hp : p < s.1 := by rcases a4 with h | h | h | h <;> omega
          exact c_drop hG0 hc0 hch hp hokv (fun m2 x1 x2 x3 => fin m2 x1 x2 (x3.mono (by decide) (by decide)))
        · have hk : kd = 1 := by omega
          subst hk
          have hp : p ≤ s.1 ∧ s.1 < 48 := by rcases a4 with h | h | h | h <;> omega
          exact c_insert hG0 hc0 hch hp.1 hp.2 hokv (fun m2 x1 x2 x3 => fin m2 x1 x2 (x3.mono (by decide) (by decide)))
        · have hk : kd = 2 := by omega
          subst hk
          have hp : p < s.1 := by rcases a4 with h | h | h | h <;> omega
          exact c_revalue hG0 hc0 hch hp hokv (fun m2 x1 x2 x3 => fin m2 x1 x2 (x3.mono (by decide) (by decide)))
        · have hk : kd = 3 := by rcases a4 with h | h | h | h <;> omega
          subst hk
          have hp : SetOK p v := by
            rcases a4 with h | h | h | h
            · exact absurd h.1 (by decide)
            · exact absurd h.1 (by decide)
            · exact absurd h.1 (by decide)
            · exact h.2
          exact c_resettle hG0 hc0 hch hp hokv (fun m2 x1 x2 x3 => fin m2 x1 x2 (x3.mono (by decide) (by decide)))
      refine f_Acts_undoLatest ?_
      rw [r1, r5]
      refine ⟨fun _ => ⟨fun h2 => ⟨am_RI (by omega) (by omega), by decide, by decide, ?_⟩, fun h2 => ⟨am_RI (by omega) (by omega), am_RI (by omega) (by omega), by omega, by omega, ?_⟩⟩, fun y => absurd h y⟩
      · have hs : slot nx 0 = 11 := by unfold slot; split <;> omega
        rw [hs] at hm0
        have := mid 11 (by omega)
        rw [← hm0] at this
        exact this
      · have hs : ((slot nx 0 : Nat) : Int) = (nx : Int) - 1 := by unfold slot; split <;> omega
        rw [hs] at hm0
        have := mid ((nx : Int) - 1) (by omega)
        rw [← hm0] at this
        exact this
  · cases L with
    | nil => exact kn rfl
    | cons t L' => exact absurd (by show ((L'.length + 1 : Nat) : Int) ≠ 0; omega) h
