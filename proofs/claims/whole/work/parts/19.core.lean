/-! PURE: whichever way, the same core -/
def pchain (T : Nat → List Nat) (n N : Nat) : (Nat → Bool) → List (Nat × Nat) → (Nat → Bool) → Prop
  | left, [], l => left = l
  | left, (k, c) :: r, l => (k < n ∧ left k = true ∧ c ∈ T k ∧ c < N ∧ ∀ j, j < n → left j = true → c ∈ T j → j = k) ∧ pchain T n N (pset left k false) r l
def pstable (T : Nat → List Nat) (n N : Nat) (left : Nat → Bool) : Prop := ∀ x, x < N → pcnt T left x n ≠ 1
theorem pq_spec {w : Nat} {T : Nat → List Nat} {n N : Nat} (hT : TOK T n N) : ∀ (f : Nat) (left : Nat → Bool) (A : List Nat) (out : List (Nat × Nat)), pbig T left n N + A.length ≤ f → (∀ x ∈ A, x < N) → (∀ x, x < N → pcnt T left x n = 1 → x ∈ A) → ∃ r, (pq w T n f left A out).2 = out ++ r ∧ pchain T n N left r (pq w T n f left A out).1 ∧ pstable T n N (pq w T n f left A out).1
  | 0, left, A, out, hphi, hx, ha => by
    refine ⟨[], by simp [pq], rfl, fun x hxN h1 => ?_⟩
    have := ha x hxN h1
    have hA : A = [] := List.eq_nil_of_length_eq_zero (by omega)
    rw [hA] at this
    cases this
  | f + 1, left, A, out, hphi, hx, ha => by
    unfold pq
    cases hp : ppop w A with
    | none =>
      refine ⟨[], by simp, rfl, fun x hxN h1 => ?_⟩
      have := ha x hxN h1
      rw [ppop_none hp] at this
      cases this
    | some q =>
      obtain ⟨c, A'⟩ := q
      obtain ⟨q1, q2, q3⟩ := ppop_some hp
      have hsub : ∀ x ∈ A', x ∈ A := fun x hm => by
        rcases q3 with ⟨-, e⟩ | ⟨-, e⟩
        · rw [e]; exact List.mem_cons_of_mem _ hm
        · rw [e]; exact List.mem_append_left _ hm
      have hsup : ∀ x ∈ A, x ≠ c → x ∈ A' := fun x hm hne => by
        rcases q3 with ⟨-, e⟩ | ⟨-, e⟩
        · rw [e] at hm
          rcases List.mem_cons.mp hm with h | h
          · exact absurd h hne
          · exact h
        · rw [e] at hm
          rcases List.mem_append.mp hm with h | h
          · exact h
          · exact absurd (List.mem_singleton.mp h) hne
      simp only
      by_cases h1 : pcnt T left c n = 1
      · rw [if_pos h1]
        obtain ⟨k, k1, k2, k3, k4, k5, k6⟩ := palone h1
        rw [k5]
        have hbig := pbig_set (T := T) k1 k2 N
        rw [pnew_len hT k1] at hbig
        obtain ⟨r, e1, e2, e3⟩ := pq_spec (w := w) hT f (pset left k false) (A' ++ pnew T (pset left k false) n k) (out ++ [(k, c)]) (by rw [List.length_append]; omega) (fun x hm => by
          rcases List.mem_append.mp hm with h | h
          · exact hx x (hsub x h)
          · exact (hT k k1).2.2 x (mem_pnew.mp h).1) (fun x hxN hx1 => by
          have hs := pcnt_set (T := T) (left := left) (x := x) (b := false) k1
          simp only [k2, true_and, Bool.false_eq_true, false_and, if_false] at hs
          by_cases hxk : x ∈ T k
          · exact List.mem_append_right _ (mem_pnew.mpr ⟨hxk, hx1⟩)
          · rw [if_neg hxk] at hs
            exact List.mem_append_left _ (hsup x (ha x hxN (by omega)) (fun e => hxk (e ▸ k3))))
        exact ⟨(k, c) :: r, by rw [e1]; simp, ⟨⟨k1, k2, k3, hx c q2, k4⟩, e2⟩, e3⟩
      · rw [if_neg h1]
        obtain ⟨r, e1, e2, e3⟩ := pq_spec (w := w) hT f left A' out (by omega) (fun x hm => hx x (hsub x hm)) (fun x hxN hx1 => hsup x (ha x hxN hx1) (fun e => h1 (e ▸ hx1)))
        exact ⟨r, e1, e2, e3⟩
theorem plst_spec {T : Nat → List Nat} {n N : Nat} : ∀ (f : Nat) (left : Nat → Bool) (out : List (Nat × Nat)), pleft left n ≤ f → ∃ r, (plst T n N f left out).2 = out ++ r ∧ pchain T n N left r (plst T n N f left out).1 ∧ pstable T n N (plst T n N f left out).1
  | 0, left, out, hp => by
    refine ⟨[], by simp [plst], rfl, fun x hxN h1 => ?_⟩
    have h1 : pcnt T left x n = 1 := h1
    obtain ⟨k, k1, k2, -⟩ := palone h1
    have := pleft_zero.mp (by omega : pleft left n = 0) k k1
    rw [k2] at this
    cases this
  | f + 1, left, out, hp => by
    unfold plst
    cases hx : pfst T left n N 0 with
    | none =>
      refine ⟨[], by simp, rfl, fun x hxN h1 => ?_⟩
      exact pfst_spec.2 hx x (by omega) (by omega) h1
    | some c =>
      obtain ⟨b1, b2, b3, b4⟩ := pfst_spec.1 c hx
      obtain ⟨k, k1, k2, k3, k4, k5, k6⟩ := palone b3
      simp only
      rw [k5]
      have hpo := pleft_off k1 k2
      obtain ⟨r, e1, e2, e3⟩ := plst_spec (T := T) (n := n) (N := N) f (pset left k false) (out ++ [(k, c)]) (by omega)
      exact ⟨(k, c) :: r, by rw [e1]; simp, ⟨⟨k1, k2, k3, by omega, k4⟩, e2⟩, e3⟩
theorem pres_spec {T : Nat → List Nat} {n N : Nat} (w : Nat) (left : Nat → Bool) (hT : TOK T n N) (hN : N ≤ 96) : pchain T n N left (pres T n N w left).2 (pres T n N w left).1 ∧ pstable T n N (pres T n N w left).1 := by
  unfold pres
  split
  · obtain ⟨r, e1, e2, e3⟩ := plst_spec (T := T) (N := N) n left [] pleft_le
    rw [List.nil_append] at e1
    rw [e1]
    exact ⟨e2, e3⟩
  · obtain ⟨r, e1, e2, e3⟩ := pq_spec (w := w) hT 96 left (pl0 T left n N) [] (by have := pl0_len (T := T) (left := left) (n := n) N; omega) (fun x hx => (mem_pl0.mp hx).1) (fun x hx h1 => mem_pl0.mpr ⟨hx, h1⟩)
    rw [List.nil_append] at e1
    rw [e1]
    exact ⟨e2, e3⟩
theorem pchain_sub {T : Nat → List Nat} {n N : Nat} : ∀ {out : List (Nat × Nat)} {left l : Nat → Bool}, pchain T n N left out l → ∀ j, l j = true → left j = true
  | [], left, l, h, j, hj => by
    have h : left = l := h
    rw [h]; exact hj
  | (k, c) :: r, left, l, h, j, hj => by
    have := pchain_sub h.2 j hj
    by_cases hjk : j = k
    · subst hjk; exact h.1.2.1
    · rwa [pset_ne hjk] at this
/-- what is stuck in a part is stuck in the whole -/
theorem pchain_keeps {T : Nat → List Nat} {n N : Nat} {Q : Nat → Bool} (hQ : pstable T n N Q) : ∀ {out : List (Nat × Nat)} {left l : Nat → Bool}, pchain T n N left out l → (∀ j, j < n → Q j = true → left j = true) → ∀ j, j < n → Q j = true → l j = true
  | [], left, l, h, hs, j, hj, hq => by
    have h : left = l := h
    rw [← h]; exact hs j hj hq
  | (k, c) :: r, left, l, h, hs, j, hj, hq => by
    obtain ⟨⟨k1, k2, k3, k4, k5⟩, h2⟩ := h
    refine pchain_keeps hQ h2 (fun i hi hqi => ?_) j hj hq
    by_cases hik : i = k
    · subst hik
      exact absurd (palone_of k1 hqi k3 (fun a ha hqa hca => k5 a ha (hs a ha hqa) hca)) (hQ c k4)
    · rw [pset_ne hik]; exact hs i hi hqi
/-- the core: the greatest part of 'left' in which no cell is alone -/
theorem pres_core {T : Nat → List Nat} {n N : Nat} (w : Nat) (left : Nat → Bool) (hT : TOK T n N) (hN : N ≤ 96) : (∀ j, (pres T n N w left).1 j = true → left j = true) ∧ pstable T n N (pres T n N w left).1 ∧ ∀ Q, pstable T n N Q → (∀ j, j < n → Q j = true → left j = true) → ∀ j, j < n → Q j = true → (pres T n N w left).1 j = true := by
  obtain ⟨h1, h2⟩ := pres_spec w left hT hN
  exact ⟨pchain_sub h1, h2, fun Q hQ hs => pchain_keeps hQ h1 hs⟩
theorem pres_same {T : Nat → List Nat} {n N : Nat} (w w' : Nat) (left : Nat → Bool) (hT : TOK T n N) (hN : N ≤ 96) : ∀ j, j < n → (pres T n N w left).1 j = (pres T n N w' left).1 j := by
  obtain ⟨a1, a2, a3⟩ := pres_core w left hT hN
  obtain ⟨b1, b2, b3⟩ := pres_core w' left hT hN
  intro j hj
  cases h1 : (pres T n N w left).1 j with
  | true => exact (b3 _ a2 (fun i _ h => a1 i h) j hj h1).symm
  | false =>
    cases h2 : (pres T n N w' left).1 j with
    | false => rfl
    | true =>
      have := a3 _ b2 (fun i _ h => b1 i h) j hj h2
      rw [h1] at this
      cases this
theorem pchain_len {T : Nat → List Nat} {n N : Nat} : ∀ {out : List (Nat × Nat)} {left l : Nat → Bool}, pchain T n N left out l → out.length + pleft l n = pleft left n
  | [], left, l, h => by
    have h : left = l := h
    rw [h]; simp
  | (k, c) :: r, left, l, h => by
    have := pchain_len h.2
    have := pleft_off h.1.1 h.1.2.1
    rw [List.length_cons]
    omega
theorem pstable_congr {T : Nat → List Nat} {n N : Nat} {l1 l2 : Nat → Bool} (he : ∀ j, j < n → l1 j = l2 j) (h : pstable T n N l1) : pstable T n N l2 := fun x hx h1 => h x hx (by rw [pcnt_congr he]; exact h1)
/-- all goes: whether none is stuck -/
def pall (T : Nat → List Nat) (n N : Nat) (left : Nat → Bool) : Prop := ∀ Q, pstable T n N Q → (∀ j, j < n → Q j = true → left j = true) → ∀ j, j < n → Q j = false
theorem pall_iff {T : Nat → List Nat} {n N : Nat} (w : Nat) (left : Nat → Bool) (hT : TOK T n N) (hN : N ≤ 96) : pleft (pres T n N w left).1 n = 0 ↔ pall T n N left := by
  obtain ⟨a1, a2, a3⟩ := pres_core w left hT hN
  rw [pleft_zero]
  constructor
  · intro h Q hQ hs j hj
    cases hq : Q j with
    | false => rfl
    | true =>
      have := a3 Q hQ hs j hj hq
      rw [h j hj] at this
      cases this
  · intro h j hj
    exact h _ a2 (fun i _ hi => a1 i hi) j hj
