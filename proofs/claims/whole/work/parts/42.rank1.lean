/-! RANK, pure: rows of bits, and what rows make by xor -/
abbrev Vc : Type := Nat → Bool
def vx (u v : Vc) : Vc := fun x => u x != v x
def vz : Vc := fun _ => false
theorem vx_zero (u : Vc) : vx u vz = u := by
  funext x
  unfold vx vz
  cases u x <;> rfl
theorem vx_self (u : Vc) : vx u u = vz := by
  funext x
  unfold vx vz
  cases u x <;> rfl
theorem vx_assoc (u v w : Vc) : vx (vx u v) w = vx u (vx v w) := by
  funext x
  unfold vx
  cases u x <;> cases v x <;> cases w x <;> rfl
theorem vx_comm (u v : Vc) : vx u v = vx v u := by
  funext x
  unfold vx
  cases u x <;> cases v x <;> rfl
theorem vx_back {u v w : Vc} (h : vx u v = w) : u = vx w v := by rw [← h, vx_assoc, vx_self, vx_zero]
/-- rows of a set I, added up -/
def cmb (B : Nat → Vc) (I : Nat → Bool) : Nat → Vc
  | 0 => vz
  | k + 1 => if I k = true then vx (cmb B I k) (B k) else cmb B I k
def Sp (B : Nat → Vc) (b : Nat) (v : Vc) : Prop := ∃ I : Nat → Bool, v = cmb B I b
theorem cmb_congr {B C : Nat → Vc} {I J : Nat → Bool} : ∀ {b : Nat}, (∀ k, k < b → I k = J k ∧ B k = C k) → cmb B I b = cmb C J b
  | 0, _ => rfl
  | b + 1, h => by
    unfold cmb
    rw [cmb_congr (b := b) (fun k hk => h k (by omega)), (h b (by omega)).1, (h b (by omega)).2]
theorem cmb_add {B : Nat → Vc} {I J : Nat → Bool} : ∀ {b : Nat}, cmb B (fun k => I k != J k) b = vx (cmb B I b) (cmb B J b)
  | 0 => by unfold cmb; rw [vx_zero]
  | b + 1 => by
    unfold cmb
    rw [cmb_add (b := b)]
    generalize cmb B I b = u
    generalize cmb B J b = w
    cases I b <;> cases J b <;> simp only [bne_self_eq_false, Bool.false_eq_true, if_false, if_true, Bool.true_bne, Bool.false_bne, Bool.not_false, Bool.not_true]
    · rw [vx_assoc]
    · rw [vx_assoc, vx_comm w, ← vx_assoc]
    · funext x
      unfold vx
      cases u x <;> cases w x <;> cases B b x <;> rfl
theorem Sp.add {B : Nat → Vc} {b : Nat} {u v : Vc} (h1 : Sp B b u) (h2 : Sp B b v) : Sp B b (vx u v) := by
  obtain ⟨I, rfl⟩ := h1
  obtain ⟨J, rfl⟩ := h2
  exact ⟨_, cmb_add.symm⟩
theorem Sp.zero {B : Nat → Vc} {b : Nat} : Sp B b vz := by
  refine ⟨fun _ => false, ?_⟩
  induction b with
  | zero => rfl
  | succ b ih => unfold cmb; rw [if_neg (by decide)]; exact ih
theorem Sp_succ {B : Nat → Vc} {b : Nat} {v : Vc} : Sp B (b + 1) v ↔ Sp B b v ∨ Sp B b (vx v (B b)) := by
  constructor
  · rintro ⟨I, rfl⟩
    unfold cmb
    by_cases h : I b = true
    · rw [if_pos h, vx_assoc, vx_self, vx_zero]; exact Or.inr ⟨I, rfl⟩
    · rw [if_neg h]; exact Or.inl ⟨I, rfl⟩
  · rintro (⟨I, h⟩ | ⟨I, h⟩)
    · refine ⟨fun k => if k = b then false else I k, ?_⟩
      unfold cmb
      rw [if_neg (by simp), h]
      exact cmb_congr (fun k hk => ⟨by rw [if_neg (by omega)], rfl⟩)
    · refine ⟨fun k => if k = b then true else I k, ?_⟩
      unfold cmb
      rw [if_pos (by simp), vx_back h]
      congr 1
      exact cmb_congr (fun k hk => ⟨by rw [if_neg (by omega)], rfl⟩)
theorem Sp.up {B : Nat → Vc} {b : Nat} {v : Vc} (h : Sp B b v) : Sp B (b + 1) v := Sp_succ.mpr (Or.inl h)
theorem Sp.mem {B : Nat → Vc} : ∀ {b i : Nat}, i < b → Sp B b (B i)
  | 0, i, h => by omega
  | b + 1, i, h => by
    by_cases e : i = b
    · subst e
      exact Sp_succ.mpr (Or.inr (by rw [vx_self]; exact Sp.zero))
    · exact (Sp.mem (by omega)).up
theorem Sp.congr {B C : Nat → Vc} {b : Nat} {v : Vc} (he : ∀ k, k < b → B k = C k) (h : Sp B b v) : Sp C b v := by
  obtain ⟨I, rfl⟩ := h
  exact ⟨I, cmb_congr (fun k hk => ⟨rfl, he k hk⟩)⟩
/-- in steps: no row has the lead of one ahead of it -/
def Steps (B : Nat → Vc) (ld : Nat → Nat) (b : Nat) : Prop := ∀ i, i < b → B i (ld i) = true ∧ ∀ j, i < j → j < b → B j (ld i) = false
theorem cmb_none {B : Nat → Vc} {I : Nat → Bool} {x : Nat} : ∀ {b : Nat}, (∀ k, k < b → I k = true → B k x = false) → cmb B I b x = false
  | 0, _ => rfl
  | b + 1, h => by
    unfold cmb
    by_cases e : I b = true
    · rw [if_pos e]
      unfold vx
      rw [cmb_none (b := b) (fun k hk => h k (by omega)), h b (by omega) e]
      rfl
    · rw [if_neg e]; exact cmb_none (fun k hk => h k (by omega))
theorem cmb_one {B : Nat → Vc} {I : Nat → Bool} {x i : Nat} : ∀ {b : Nat}, i < b → I i = true → B i x = true → (∀ k, k < b → k ≠ i → I k = true → B k x = false) → cmb B I b x = true
  | 0, h, _, _, _ => by omega
  | b + 1, h, h1, h2, h3 => by
    unfold cmb
    by_cases e : b = i
    · subst e
      rw [if_pos h1]
      unfold vx
      rw [cmb_none (fun k hk => h3 k (by omega) (by omega)), h2]
      rfl
    · have ih := cmb_one (b := b) (by omega) h1 h2 (fun k hk => h3 k (by omega))
      by_cases e2 : I b = true
      · rw [if_pos e2]
        unfold vx
        rw [ih, h3 b (by omega) e e2]
        rfl
      · rw [if_neg e2]; exact ih
theorem steps_zero {B : Nat → Vc} {ld : Nat → Nat} {b : Nat} (hs : Steps B ld b) {v : Vc} (hv : Sp B b v) (h0 : ∀ i, i < b → v (ld i) = false) : v = vz := by
  obtain ⟨I, rfl⟩ := hv
  have key : ∀ s i : Nat, i < s → i < b → I i = false := by
    intro s
    induction s with
    | zero => intro i hi; omega
    | succ s ih =>
      intro i hi hb
      by_cases e : i < s
      · exact ih i e hb
      · cases hI : I i with
        | false => rfl
        | true =>
          have := cmb_one (x := ld i) hb hI (hs i hb).1 (fun k hk hne hIk => by
            rcases Nat.lt_or_ge k i with h | h
            · rw [ih k (by omega) hk] at hIk; cases hIk
            · exact (hs i hb).2 k (by omega) hk)
          rw [h0 i hb] at this
          cases this
  funext x
  exact cmb_none (fun k hk hIk => by rw [key (k + 1) k (by omega) hk] at hIk; cases hIk)
/-- in a triangle: each row's last bit is at its own place -/
def Tri (W : Nat → Vc) : Prop := ∀ c, W c = vz ∨ (W c c = true ∧ ∀ x, c < x → W c x = false)
theorem tri_top {W : Nat → Vc} (hW : Tri W) : ∀ {c : Nat} {v : Vc}, Sp W c v → ∀ x, c ≤ x → v x = false := by
  intro c v hv x hx
  obtain ⟨I, rfl⟩ := hv
  refine cmb_none (fun k hk _ => ?_)
  rcases hW k with h | h
  · rw [h]; rfl
  · exact h.2 x (by omega)
/-- what happens to a row that comes in: none: it is made of those that are there; some: where it is put, and as what -/
noncomputable def red (W : Nat → Vc) : Nat → Vc → Option (Nat × Vc)
  | 0, _ => none
  | c + 1, v => if v c = true then (@ite (Option (Nat × Vc)) (W c = vz) (Classical.propDecidable _) (some (c, v)) (red W c (vx v (W c)))) else red W c v
theorem red_spec {W : Nat → Vc} (hW : Tri W) : ∀ (c : Nat) (v : Vc), (∀ x, c ≤ x → v x = false) → (red W c v = none → Sp W c v) ∧ (∀ p, red W c v = some p → ¬ Sp W c v ∧ p.1 < c ∧ W p.1 = vz ∧ p.2 p.1 = true ∧ (∀ x, p.1 < x → p.2 x = false) ∧ Sp W c (vx v p.2))
  | 0, v, h0 => by
    refine ⟨fun _ => ?_, fun p hp => by cases hp⟩
    have : v = vz := funext fun x => h0 x (by omega)
    rw [this]; exact Sp.zero
  | c + 1, v, h0 => by
    have hno : ∀ u : Vc, u c = true → ¬ Sp W c u := fun u hu hs => by rw [tri_top hW hs c (by omega)] at hu; cases hu
    unfold red
    by_cases hv : v c = true
    · rw [if_pos hv]
      by_cases hz : W c = vz
      · rw [if_pos hz]
        refine ⟨fun h => (by cases h), fun p hp => ?_⟩
        cases hp
        refine ⟨fun hs => ?_, by omega, hz, hv, fun x hx => h0 x hx, by rw [vx_self]; exact Sp.zero⟩
        rcases Sp_succ.mp hs with h | h
        · exact hno v hv h
        · rw [hz, vx_zero] at h; exact hno v hv h
      · rw [if_neg hz]
        rcases hW c with h | ⟨h1, h2⟩
        · exact absurd h hz
        obtain ⟨i1, i2⟩ := red_spec hW c (vx v (W c)) (fun x hx => by
          unfold vx
          by_cases e : x = c
          · subst e; rw [hv, h1]; rfl
          · rw [h0 x (by omega), h2 x (by omega)]; rfl)
        refine ⟨fun h => Sp_succ.mpr (Or.inr (i1 h)), fun p hp => ?_⟩
        obtain ⟨a1, a2, a3, a4, a5, a6⟩ := i2 p hp
        refine ⟨fun hs => ?_, by omega, a3, a4, a5, ?_⟩
        · rcases Sp_succ.mp hs with h | h
          · exact hno v hv h
          · exact a1 h
        · refine Sp_succ.mpr (Or.inr ?_)
          rw [vx_assoc, vx_comm p.2, ← vx_assoc]; exact a6
    · rw [if_neg hv]
      have hv : v c = false := by cases h : v c with | false => rfl | true => exact absurd h hv
      obtain ⟨i1, i2⟩ := red_spec hW c v (fun x hx => by
        by_cases e : x = c
        · subst e; exact hv
        · exact h0 x (by omega))
      refine ⟨fun h => (i1 h).up, fun p hp => ?_⟩
      obtain ⟨a1, a2, a3, a4, a5, a6⟩ := i2 p hp
      refine ⟨fun hs => ?_, by omega, a3, a4, a5, a6.up⟩
      rcases Sp_succ.mp hs with h | h
      · exact a1 h
      · rcases hW c with h3 | ⟨h1, h2⟩
        · rw [h3, vx_zero] at h; exact a1 h
        · exact hno _ (by unfold vx; rw [hv, h1]; rfl) h
def wput (W : Nat → Vc) (c : Nat) (v : Vc) : Nat → Vc := fun k => if k = c then v else W k
theorem wput_sp {W : Nat → Vc} {c0 : Nat} {v : Vc} (hz : W c0 = vz) : ∀ {c : Nat} {u : Vc}, c0 < c → (Sp (wput W c0 v) c u ↔ Sp W c u ∨ Sp W c (vx u v))
  | 0, u, h => by omega
  | c + 1, u, h => by
    rw [Sp_succ, Sp_succ, Sp_succ]
    by_cases e : c = c0
    · subst e
      have h1 : ∀ w, Sp (wput W c v) c w ↔ Sp W c w := fun w => ⟨fun hs => hs.congr (fun k hk => by unfold wput; rw [if_neg (by omega)]), fun hs => hs.congr (fun k hk => by unfold wput; rw [if_neg (by omega)])⟩
      have h2 : wput W c v c = v := by unfold wput; rw [if_pos rfl]
      rw [h1, h1, h2, hz, vx_zero, vx_zero]
      exact ⟨fun h => h.elim (fun a => Or.inl (Or.inl a)) (fun a => Or.inr (Or.inl a)), fun h => h.elim (fun a => Or.inl (a.elim id id)) (fun a => Or.inr (a.elim id id))⟩
    · have h2 : wput W c0 v c = W c := by unfold wput; rw [if_neg e]
      rw [wput_sp hz (by omega), wput_sp hz (by omega), h2, vx_assoc u (W c) v, vx_comm (W c) v, ← vx_assoc]
      exact ⟨fun h => by rcases h with (h | h) | (h | h); exact Or.inl (Or.inl h); exact Or.inr (Or.inl h); exact Or.inl (Or.inr h); exact Or.inr (Or.inr h), fun h => by rcases h with (h | h) | (h | h); exact Or.inl (Or.inl h); exact Or.inr (Or.inl h); exact Or.inl (Or.inr h); exact Or.inr (Or.inr h)⟩
theorem wput_tri {W : Nat → Vc} (hW : Tri W) {c0 : Nat} {v : Vc} (h1 : v c0 = true) (h2 : ∀ x, c0 < x → v x = false) : Tri (wput W c0 v) := by
  intro c
  unfold wput
  by_cases e : c = c0
  · subst e; rw [if_pos rfl]; exact Or.inr ⟨h1, h2⟩
  · rw [if_neg e]; exact hW c
/-- the same rows are made -/
def SpEq (B : Nat → Vc) (b : Nat) (C : Nat → Vc) (c : Nat) : Prop := ∀ v, Sp B b v ↔ Sp C c v
theorem SpEq.skip {B C : Nat → Vc} {b c : Nat} (h : SpEq B b C c) (hk : Sp C c (C c)) : SpEq B b C (c + 1) := fun v => by
  rw [h v, Sp_succ]
  exact ⟨Or.inl, fun hh => hh.elim id (fun a => by have := a.add hk; rw [vx_assoc, vx_self, vx_zero] at this; exact this)⟩
theorem SpEq.add {B C : Nat → Vc} {b c : Nat} (h : SpEq B b C c) {w : Vc} (hw : Sp B b (vx (C c) w)) (v : Vc) : (Sp B b v ∨ Sp B b (vx v w)) ↔ Sp C (c + 1) v := by
  rw [Sp_succ, ← h, ← h]
  constructor
  · rintro (a | a)
    · exact Or.inl a
    · refine Or.inr ?_
      have := a.add hw
      rw [vx_comm (C c) w, vx_assoc, ← vx_assoc w w, vx_self, vx_comm vz, vx_zero] at this
      exact this
  · rintro (a | a)
    · exact Or.inl a
    · refine Or.inr ?_
      have := a.add hw
      rw [vx_assoc, ← vx_assoc (C c), vx_self, vx_comm vz, vx_zero] at this
      exact this
/-- how many of the first n rows aren't made of those ahead of them -/
noncomputable def prk (G : Nat → Vc) : Nat → Nat
  | 0 => 0
  | k + 1 => prk G k + @ite Nat (Sp G k (G k)) (Classical.propDecidable _) 0 1
theorem prk_in {G : Nat → Vc} {k : Nat} (h : Sp G k (G k)) : prk G (k + 1) = prk G k := by
  show prk G k + _ = _
  rw [if_pos h, Nat.add_zero]
theorem prk_out {G : Nat → Vc} {k : Nat} (h : ¬ Sp G k (G k)) : prk G (k + 1) = prk G k + 1 := by
  show prk G k + _ = _
  rw [if_neg h]
theorem prk_le {G : Nat → Vc} : ∀ {k : Nat}, prk G k ≤ k
  | 0 => Nat.le_refl _
  | k + 1 => by
    have := prk_le (G := G) (k := k)
    by_cases h : Sp G k (G k)
    · rw [prk_in h]; omega
    · rw [prk_out h]; omega
theorem prk_congr {G H : Nat → Vc} : ∀ {n : Nat}, (∀ k, k < n → G k = H k) → prk G n = prk H n
  | 0, _ => rfl
  | n + 1, h => by
    have ih := prk_congr (n := n) (fun k hk => h k (by omega))
    by_cases hs : Sp G n (G n)
    · rw [prk_in hs, prk_in (by rw [← h n (by omega)]; exact hs.congr (fun k hk => h k (by omega))), ih]
    · rw [prk_out hs, prk_out (fun hh => hs (by rw [h n (by omega)]; exact hh.congr (fun k hk => (h k (by omega)).symm))), ih]
