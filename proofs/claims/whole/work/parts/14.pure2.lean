/-! PURE: peeling. The line A (its first is ahead); w = 0: the first leaves, else the last -/
def pnew (T : Nat → List Nat) (left : Nat → Bool) (n k : Nat) : List Nat := (T k).filter (fun x => decide (pcnt T left x n = 1))
def ppop (w : Nat) (A : List Nat) : Option (Nat × List Nat) := match w with
  | 0 => (match A with | [] => none | c :: A' => some (c, A'))
  | _ => (match A.getLast? with | none => none | some c => some (c, A.dropLast))
def pq (w : Nat) (T : Nat → List Nat) (n : Nat) : Nat → (Nat → Bool) → List Nat → List (Nat × Nat) → (Nat → Bool) × List (Nat × Nat)
  | 0, left, _, out => (left, out)
  | f + 1, left, A, out => match ppop w A with
    | none => (left, out)
    | some (c, A') => if pcnt T left c n = 1 then pq w T n f (pset left (psum T left c n) false) (A' ++ pnew T (pset left (psum T left c n) false) n (psum T left c n)) (out ++ [(psum T left c n, c)]) else pq w T n f left A' out
/-- the cells below N that one key alone touches, by numbers -/
def pl0 (T : Nat → List Nat) (left : Nat → Bool) (n : Nat) : Nat → List Nat
  | 0 => []
  | c + 1 => pl0 T left n c ++ if pcnt T left c n = 1 then [c] else []
/-- the least cell from c on, of r, that one key alone touches -/
def pfst (T : Nat → List Nat) (left : Nat → Bool) (n : Nat) : Nat → Nat → Option Nat
  | 0, _ => none
  | r + 1, c => if pcnt T left c n = 1 then some c else pfst T left n r (c + 1)
def plst (T : Nat → List Nat) (n N : Nat) : Nat → (Nat → Bool) → List (Nat × Nat) → (Nat → Bool) × List (Nat × Nat)
  | 0, left, out => (left, out)
  | f + 1, left, out => match pfst T left n N 0 with
    | none => (left, out)
    | some c => plst T n N f (pset left (psum T left c n) false) (out ++ [(psum T left c n, c)])
def pres (T : Nat → List Nat) (n N w : Nat) (left : Nat → Bool) : (Nat → Bool) × List (Nat × Nat) := if w = 2 then plst T n N n left [] else pq w T n 96 left (pl0 T left n N) []
def pbig (T : Nat → List Nat) (left : Nat → Bool) (n : Nat) : Nat → Nat
  | 0 => 0
  | c + 1 => pbig T left n c + if 2 ≤ pcnt T left c n then 1 else 0
def pmem (l : List Nat) : Nat → Nat
  | 0 => 0
  | c + 1 => pmem l c + if c ∈ l then 1 else 0
theorem pmem_nil : ∀ N, pmem [] N = 0
  | 0 => rfl
  | N + 1 => by simp [pmem, pmem_nil N]
theorem pmem_one (a : Nat) : ∀ N, pmem [a] N = if a < N then 1 else 0
  | 0 => by simp [pmem]
  | N + 1 => by
    simp only [pmem, pmem_one a N, List.mem_singleton]
    by_cases h : N = a
    · subst h
      simp
    · by_cases h2 : a < N
      · rw [if_pos h2, if_neg h, if_pos (by omega)]
      · rw [if_neg h2, if_neg h, if_neg (by omega)]
theorem pmem_cons {a : Nat} {l : List Nat} (ha : a ∉ l) : ∀ N, pmem (a :: l) N = pmem [a] N + pmem l N
  | 0 => rfl
  | N + 1 => by
    simp only [pmem, pmem_cons ha N]
    by_cases h : N = a
    · subst h
      simp [ha]
      omega
    · by_cases h2 : N ∈ l
      · simp [h, h2]; omega
      · simp [h, h2]
theorem pmem_len {N : Nat} : ∀ {l : List Nat}, l.Nodup → (∀ x ∈ l, x < N) → pmem l N = l.length
  | [], _, _ => pmem_nil N
  | a :: l, h, hx => by
    rw [List.nodup_cons] at h
    rw [pmem_cons h.1, pmem_len h.2 (fun x hm => hx x (List.mem_cons_of_mem _ hm)), pmem_one, if_pos (hx a List.mem_cons_self), List.length_cons]
    omega
theorem mem_pnew {T : Nat → List Nat} {left : Nat → Bool} {n k x : Nat} : x ∈ pnew T left n k ↔ x ∈ T k ∧ pcnt T left x n = 1 := by
  unfold pnew
  rw [List.mem_filter]
  simp
/-- one key off: the cells of two or more that lose it come new into line -/
theorem pbig_set {T : Nat → List Nat} {left : Nat → Bool} {n k : Nat} (hk : k < n) (hl : left k = true) : ∀ N, pbig T left n N = pbig T (pset left k false) n N + pmem (pnew T (pset left k false) n k) N
  | 0 => rfl
  | N + 1 => by
    simp only [pbig, pmem, pbig_set hk hl N, mem_pnew]
    have h := pcnt_set (T := T) (left := left) (x := N) (b := false) hk
    simp only [hl, true_and, Bool.false_eq_true, false_and, if_false] at h
    by_cases hx : N ∈ T k
    · rw [if_pos hx] at h
      by_cases h1 : pcnt T (pset left k false) N n = 1
      · rw [if_pos (by omega), if_neg (by omega), if_pos ⟨hx, h1⟩]; omega
      · by_cases h2 : 2 ≤ pcnt T (pset left k false) N n
        · rw [if_pos (by omega), if_pos h2, if_neg (fun z => h1 z.2)]; omega
        · rw [if_neg (by omega), if_neg h2, if_neg (fun z => h1 z.2)]; omega
    · rw [if_neg hx] at h
      have e : pcnt T (pset left k false) N n = pcnt T left N n := by omega
      rw [e, if_neg (show ¬ (N ∈ T k ∧ pcnt T left N n = 1) from fun z => hx z.1)]
      omega
theorem pnew_len {T : Nat → List Nat} {left : Nat → Bool} {n N k : Nat} (hT : TOK T n N) (hk : k < n) : pmem (pnew T left n k) N = (pnew T left n k).length :=
  pmem_len (List.Nodup.sublist List.filter_sublist (pw_nodup (hT k hk).2.1)) (fun x hx => (hT k hk).2.2 x (mem_pnew.mp hx).1)
theorem pl0_len {T : Nat → List Nat} {left : Nat → Bool} {n : Nat} : ∀ N, pbig T left n N + (pl0 T left n N).length ≤ N
  | 0 => Nat.le_refl _
  | N + 1 => by
    have := pl0_len (T := T) (left := left) (n := n) N
    simp only [pbig, pl0, List.length_append]
    by_cases h1 : pcnt T left N n = 1
    · rw [if_pos h1, if_neg (by omega)]; simp; omega
    · rw [if_neg h1]
      split <;> simp <;> omega
theorem mem_pl0 {T : Nat → List Nat} {left : Nat → Bool} {n x : Nat} : ∀ {N : Nat}, x ∈ pl0 T left n N ↔ x < N ∧ pcnt T left x n = 1
  | 0 => by simp [pl0]
  | N + 1 => by
    simp only [pl0, List.mem_append, mem_pl0 (N := N)]
    by_cases h1 : pcnt T left N n = 1
    · rw [if_pos h1]
      simp only [List.mem_singleton]
      constructor
      · rintro (⟨a, b⟩ | rfl)
        · exact ⟨by omega, b⟩
        · exact ⟨by omega, h1⟩
      · rintro ⟨a, b⟩
        rcases Nat.lt_or_ge x N with h | h
        · exact Or.inl ⟨h, b⟩
        · exact Or.inr (by omega)
    · rw [if_neg h1]
      simp only [List.not_mem_nil, or_false]
      constructor
      · rintro ⟨a, b⟩; exact ⟨by omega, b⟩
      · rintro ⟨a, b⟩
        refine ⟨?_, b⟩
        rcases Nat.lt_or_ge x N with h | h
        · exact h
        · exact absurd (show pcnt T left N n = 1 by rw [show N = x by omega]; exact b) h1
theorem ppop_none {w : Nat} {A : List Nat} (h : ppop w A = none) : A = [] := by
  unfold ppop at h
  split at h
  · split at h
    · rfl
    · cases h
  · split at h
    · rename_i hg
      exact List.getLast?_eq_none_iff.mp hg
    · cases h
theorem ppop_some {w : Nat} {A A' : List Nat} {c : Nat} (h : ppop w A = some (c, A')) : A.length = A'.length + 1 ∧ c ∈ A ∧ ((w = 0 ∧ A = c :: A') ∨ (w ≠ 0 ∧ A = A' ++ [c])) := by
  unfold ppop at h
  split at h
  · split at h
    · cases h
    · cases h
      exact ⟨by simp, List.mem_cons_self, Or.inl ⟨rfl, rfl⟩⟩
  · rename_i hw
    split at h
    · cases h
    · rename_i c2 hg
      cases h
      obtain ⟨ys, rfl⟩ := List.getLast?_eq_some_iff.mp hg
      rw [List.dropLast_concat]
      exact ⟨by simp, by simp, Or.inr ⟨hw, rfl⟩⟩
theorem pfst_spec {T : Nat → List Nat} {left : Nat → Bool} {n : Nat} : ∀ {r c : Nat}, (∀ x, pfst T left n r c = some x → c ≤ x ∧ x < c + r ∧ pcnt T left x n = 1 ∧ ∀ y, c ≤ y → y < x → pcnt T left y n ≠ 1) ∧ (pfst T left n r c = none → ∀ y, c ≤ y → y < c + r → pcnt T left y n ≠ 1)
  | 0, c => ⟨fun x h => (by cases h), fun _ y h1 h2 => by omega⟩
  | r + 1, c => by
    unfold pfst
    obtain ⟨i1, i2⟩ := pfst_spec (T := T) (left := left) (n := n) (r := r) (c := c + 1)
    by_cases hc : pcnt T left c n = 1
    · rw [if_pos hc]
      refine ⟨fun x h => ?_, fun h => by cases h⟩
      cases h
      exact ⟨by omega, by omega, hc, fun y h1 h2 => by omega⟩
    · rw [if_neg hc]
      refine ⟨fun x h => ?_, fun h y h1 h2 => ?_⟩
      · obtain ⟨a1, a2, a3, a4⟩ := i1 x h
        refine ⟨by omega, by omega, a3, fun y h1 h2 => ?_⟩
        by_cases hy : y = c
        · subst hy; exact hc
        · exact a4 y (by omega) h2
      · by_cases hy : y = c
        · subst hy; exact hc
        · exact i2 h y (by omega) (by omega)
theorem pfst_eq {T : Nat → List Nat} {left : Nat → Bool} {n N x : Nat} (hx : x < N) (h1 : pcnt T left x n = 1) (h2 : ∀ y, y < x → pcnt T left y n ≠ 1) : pfst T left n N 0 = some x := by
  cases h : pfst T left n N 0 with
  | none => exact absurd h1 ((pfst_spec (r := N) (c := 0)).2 h x (by omega) (by omega))
  | some z =>
    obtain ⟨a1, a2, a3, a4⟩ := (pfst_spec (r := N) (c := 0)).1 z h
    rcases Nat.lt_trichotomy z x with h | h | h
    · exact absurd a3 (h2 z h)
    · rw [h]
    · exact absurd h1 (a4 x (by omega) h)
theorem pfst_no {T : Nat → List Nat} {left : Nat → Bool} {n N : Nat} (h2 : ∀ y, y < N → pcnt T left y n ≠ 1) : pfst T left n N 0 = none := by
  cases h : pfst T left n N 0 with
  | none => rfl
  | some z =>
    obtain ⟨a1, a2, a3, a4⟩ := (pfst_spec (r := N) (c := 0)).1 z h
    exact absurd a3 (h2 z (by omega))
