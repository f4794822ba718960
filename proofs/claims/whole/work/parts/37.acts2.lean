/-! CALLS of the class that are ACTS -/
def a_val_ok (s : St) (v : Int) : Prop := 0 ≤ v ∧ v < (2 ^ s.2.2.2 3 : Nat)
def a_add (s : St) (x : Int64) (v : Int) : Int × Option St := if 48 ≤ s.1 ∨ ¬ (0 ≤ v ∧ v < (2 ^ s.2.2.2 3 : Nat)) then (-1, none) else if pfd s.2.1 x s.1 0 ≠ -1 then (-2, none) else ((s.1 + 1 : Nat), some (sIns s s.1 x v.toNat))
def a_gone (s : St) (x : Int64) : Int × Option St := if pfd s.2.1 x s.1 0 = -1 then (-1, none) else (pfd s.2.1 x s.1 0, some (sDrop s (pfd s.2.1 x s.1 0).toNat))
def a_turn (s : St) (k v : Int) : Int × Option St := if 0 ≤ k ∧ k < s.1 ∧ 0 ≤ v ∧ v < (2 ^ s.2.2.2 3 : Nat) then (s.2.2.1 k.toNat, some (sTurn s k.toNat v.toNat)) else (-1, none)
abbrev gvF : List Nat := [6, 1403, 1404, 7]
abbrev gvF2 : List Nat := [5]
theorem pfd_spec {K : Nat → Int64} {x : Int64} : ∀ {r k : Nat}, pfd K x r k ≠ -1 → ∃ j : Nat, pfd K x r k = j ∧ k ≤ j ∧ j < k + r ∧ K j = x
  | 0, k, h => absurd rfl h
  | r + 1, k, h => by
    unfold pfd at h ⊢
    by_cases e : K k = x
    · rw [if_pos e]; exact ⟨k, rfl, Nat.le_refl k, by omega, e⟩
    · rw [if_neg e] at h ⊢
      obtain ⟨j, a, b, c, d⟩ := pfd_spec h
      exact ⟨j, a, by omega, by omega, d⟩
theorem SOK.set {S : Nat → Nat} (h : SOK S) {i : Nat} (h1 : 1 ≤ i) (h2 : i ≤ 6) : SetOK i (S i) := by
  obtain ⟨a, b, c, d, e, f⟩ := h
  have : i = 1 ∨ i = 2 ∨ i = 3 ∨ i = 4 ∨ i = 5 ∨ i = 6 := by omega
  unfold SetOK
  rcases this with e | e | e | e | e | e <;> subst e <;> simp [slo, shi] <;> omega
theorem ok_ins {s : St} {p v : Nat} {x : Int64} (h : StOK s) (hn : s.1 < 48) (hp : p ≤ s.1) (hv : v < 2 ^ s.2.2.2 3) : StOK (sIns s p x v) := by
  refine ⟨show s.1 + 1 ≤ 48 by omega, h.2.1, fun k hk => ?_⟩
  have hk : k < s.1 + 1 := hk
  show (if k < p then s.2.2.1 k else if k = p then v else s.2.2.1 (k - 1)) < 2 ^ s.2.2.2 3
  split
  · exact h.2.2 k (by omega)
  · split
    · exact hv
    · exact h.2.2 (k - 1) (by omega)
theorem ok_drop {s : St} {p : Nat} (h : StOK s) (hp : p < s.1) : StOK (sDrop s p) := by
  have := h.1
  refine ⟨show s.1 - 1 ≤ 48 by omega, h.2.1, fun k hk => ?_⟩
  have hk : k < s.1 - 1 := hk
  show (if k < p then s.2.2.1 k else s.2.2.1 (k + 1)) < 2 ^ s.2.2.2 3
  split
  · exact h.2.2 k (by omega)
  · exact h.2.2 (k + 1) (by omega)
theorem ok_turn {s : St} {p v : Nat} (h : StOK s) (hv : v < 2 ^ s.2.2.2 3) : StOK (sTurn s p v) := by
  refine ⟨h.1, h.2.1, fun k hk => ?_⟩
  show (if k = p then v else s.2.2.1 k) < 2 ^ s.2.2.2 3
  split
  · exact hv
  · exact h.2.2 k hk
theorem c_add {d : Nat} {P : Int → am_M → Prop} {m : am_M} {s : St} {L : List St} {ch : Nat} {x : Int64} {v : Int} (hG : GS m s) (hR : Ring m s L) (hc : m.1 1404 0 = ch) (hch : ch ≤ 100000000)
    (kn : (a_add s x v).2 = none → P (a_add s x v).1 m)
    (ks : ∀ (m' : am_M) (t : St), (a_add s x v).2 = some t → GS m' t → Ring m' t ((s :: L).take 12) → m'.1 1404 0 = (ch + 1 : Nat) → Fr (acF ++ gvF) (acF2 ++ gvF2) m m' → P (a_add s x v).1 m') : am_OkI (d + 2) 80 [.inr (.inr 0), .inr (.inl x), .inl v] m P := by
  unfold a_add at *
  refine f_T_add ?_
  rw [hG.1]
  refine ⟨fun h => ?_, fun h => c_canBeValue hG (fun h2 => ⟨fun y => absurd rfl y, fun _ => ?_⟩) (fun h2 h3 => ⟨fun _ => c_find hG ⟨fun h4 => ?_, fun h4 => ?_⟩, fun y => absurd (by decide) y⟩)⟩
  · rw [if_pos (Or.inl (by omega))] at kn; exact kn rfl
  · rw [if_pos (Or.inr h2)] at kn; exact kn rfl
  · rw [if_neg (by omega), if_neg (fun y => y h4)] at ks
    rw [hG.1]
    have hv : ((v.toNat : Nat) : Int) = v := by omega
    have hvl : v.toNat < 2 ^ s.2.2.2 3 := by omega
    have hok := ok_ins (x := x) hG.ok (by omega) (Nat.le_refl s.1) hvl
    have hnote := c_note (d := d) (P := fun m5 => am_OkV (d + 1) 9 [.inr (.inr 4), .inl (m5.1 1403 (0 : Int)), .inr (.inl x), .inl v] m5 (fun m6 => P (m6.1 1403 (0 : Int)) m6)) (new := sIns s s.1 x v.toNat) (kd := 0) (p := s.1) (v := v.toNat) (x := x) hR hG.ok (Or.inl ⟨rfl, show s.1 < s.1 + 1 by omega⟩) ⟨by show s.1 + 1 - 1 = s.1; omega, fun k hk => ?_, fun _ _ _ => rfl⟩ (fun m5 hR5 hf5 => ?_)
    · rw [hv] at hnote
      exact hnote
    · constructor
      · show (if k < s.1 then (if k < s.1 then s.2.1 k else if k = s.1 then x else s.2.1 (k - 1)) else _) = _
        rw [if_pos hk, if_pos hk]
      · show (if k < s.1 then (if k < s.1 then s.2.2.1 k else if k = s.1 then v.toNat else s.2.2.1 (k - 1)) else _) = _
        rw [if_pos hk, if_pos hk]
    · have hG5 := hG.fr hf5 (by decide)
      rw [hG5.1]
      have hins := c_insert (d := d) (P := fun m6 => P (m6.1 1403 (0 : Int)) m6) (p := s.1) (v := v.toNat) (x := x) hG5 (by rw [hf5.1 _ (by decide)]; exact hc) hch (Nat.le_refl _) (by omega) hok (fun m6 hG6 hc6 hf6 => ?_)
      · rw [hv] at hins
        exact hins
      · rw [hG6.1]
        exact ks m6 _ rfl hG6 (hR5.fr hf6 (by decide)) hc6 (hf5.tr hf6 (by decide) (by decide) (by decide) (by decide))
  · rw [if_neg (by omega), if_pos h4] at kn; exact kn rfl
theorem c_gone {d : Nat} {P : Int → am_M → Prop} {m : am_M} {s : St} {L : List St} {ch : Nat} {x : Int64} (hG : GS m s) (hR : Ring m s L) (hc : m.1 1404 0 = ch) (hch : ch ≤ 100000000)
    (kn : (a_gone s x).2 = none → P (a_gone s x).1 m)
    (ks : ∀ (m' : am_M) (t : St), (a_gone s x).2 = some t → GS m' t → Ring m' t ((s :: L).take 12) → m'.1 1404 0 = (ch + 1 : Nat) → Fr (acF ++ gvF) (acF2 ++ gvF2) m m' → P (a_gone s x).1 m') : am_OkI (d + 3) 81 [.inr (.inr 0), .inr (.inl x)] m P := by
  unfold a_gone at *
  have hn := hG.2.1
  refine f_T_gone (c_find hG ⟨fun h => ?_, fun h => ?_⟩)
  · rw [if_neg h] at ks
    obtain ⟨j, e1, e2, e3, e4⟩ := pfd_spec h
    rw [e1] at ks ⊢
    have e3 : j < s.1 := by omega
    have ks := fun m' => ks m' _ rfl
    rw [show ((j : Nat) : Int).toNat = j by omega] at ks
    refine ⟨by omega, by omega, ?_⟩
    rw [hG.2.2.2.1 j e3]
    refine c_note (new := sDrop s j) hR hG.ok (Or.inr (Or.inl ⟨rfl, show j ≤ s.1 - 1 by omega, show s.1 - 1 < 48 by omega⟩)) ⟨show s.1 - 1 + 1 = s.1 by omega, fun k hk => ⟨?_, ?_⟩, fun _ _ _ => rfl⟩ (fun m5 hR5 hf5 => ?_)
    · show (if k < j then (if k < j then s.2.1 k else s.2.1 (k + 1)) else if k = j then x else (if k - 1 < j then s.2.1 (k - 1) else s.2.1 (k - 1 + 1))) = s.2.1 k
      by_cases h1 : k < j
      · rw [if_pos h1, if_pos h1]
      · rw [if_neg h1]
        by_cases h2 : k = j
        · rw [if_pos h2, h2, e4]
        · rw [if_neg h2, if_neg (by omega), show k - 1 + 1 = k by omega]
    · show (if k < j then (if k < j then s.2.2.1 k else s.2.2.1 (k + 1)) else if k = j then s.2.2.1 j else (if k - 1 < j then s.2.2.1 (k - 1) else s.2.2.1 (k - 1 + 1))) = s.2.2.1 k
      by_cases h1 : k < j
      · rw [if_pos h1, if_pos h1]
      · rw [if_neg h1]
        by_cases h2 : k = j
        · rw [if_pos h2, h2]
        · rw [if_neg h2, if_neg (by omega), show k - 1 + 1 = k by omega]
    · exact c_drop (hG.fr hf5 (by decide)) (by rw [hf5.1 _ (by decide)]; exact hc) hch e3 (ok_drop hG.ok e3) (fun m6 hG6 hc6 hf6 => ks m6 hG6 (hR5.fr hf6 (by decide)) hc6 (hf5.tr hf6 (by decide) (by decide) (by decide) (by decide)))
  · have h := Decidable.byContradiction h
    rw [if_pos h] at kn; exact kn rfl
theorem c_turn {d : Nat} {P : Int → am_M → Prop} {m : am_M} {s : St} {L : List St} {ch : Nat} {k v : Int} (hG : GS m s) (hR : Ring m s L) (hc : m.1 1404 0 = ch) (hch : ch ≤ 100000000)
    (kn : (a_turn s k v).2 = none → P (a_turn s k v).1 m)
    (ks : ∀ (m' : am_M) (t : St), (a_turn s k v).2 = some t → GS m' t → Ring m' t ((s :: L).take 12) → m'.1 1404 0 = (ch + 1 : Nat) → Fr (acF ++ gvF) (acF2 ++ gvF2) m m' → P (a_turn s k v).1 m') : am_OkI (d + 3) 82 [.inr (.inr 0), .inl k, .inl v] m P := by
  unfold a_turn at *
  have hn := hG.2.1
  refine f_T_turn (c_has hG (fun h => ⟨fun _ => ?_, fun y => absurd rfl y⟩) (fun h1 h2 => ⟨fun y => absurd y (by decide), fun _ => c_canBeValue hG (fun h => ⟨fun y => absurd rfl y, fun _ => ?_⟩) (fun h3 h4 => ⟨fun _ => ?_, fun y => absurd (by decide) y⟩)⟩))
  · rw [if_neg (by omega)] at kn; exact kn rfl
  · rw [if_neg (fun y => h y.2.2)] at kn; exact kn rfl
  · rw [if_pos ⟨h1, h2, h3, h4⟩] at ks
    have ks := fun m' => ks m' _ rfl
    obtain ⟨j, rfl⟩ : ∃ j : Nat, k = j := ⟨k.toNat, by omega⟩
    obtain ⟨w, rfl⟩ : ∃ w : Nat, v = w := ⟨v.toNat, by omega⟩
    have h2 : j < s.1 := by omega
    have hw : w < 2 ^ s.2.2.2 3 := by omega
    refine ⟨by omega, by omega, by omega, by omega, ?_⟩
    rw [hG.2.2.2.1 j h2]
    refine c_note (new := sTurn s j w) hR hG.ok (Or.inr (Or.inr (Or.inl ⟨rfl, h2⟩))) ⟨rfl, fun k hk => ⟨rfl, ?_⟩, fun _ _ _ => rfl⟩ (fun m5 hR5 hf5 => ?_)
    · show (if k = j then s.2.2.1 j else if k = j then w else s.2.2.1 k) = s.2.2.1 k
      by_cases e : k = j
      · rw [if_pos e, e]
      · rw [if_neg e, if_neg e]
    · exact c_revalue (hG.fr hf5 (by decide)) (by rw [hf5.1 _ (by decide)]; exact hc) hch h2 (ok_turn hG.ok hw) (fun m6 hG6 hc6 hf6 => ks m6 hG6 (hR5.fr hf6 (by decide)) hc6 (hf5.tr hf6 (by decide) (by decide) (by decide) (by decide)))
