/-! PURE: keys that touch cells. T k: the cells of key k; left: which keys are left -/
def pset (left : Nat → Bool) (k : Nat) (b : Bool) : Nat → Bool := fun j => if j = k then b else left j
def pcnt (T : Nat → List Nat) (left : Nat → Bool) (x : Nat) : Nat → Nat
  | 0 => 0
  | n + 1 => pcnt T left x n + if left n = true ∧ x ∈ T n then 1 else 0
def psum (T : Nat → List Nat) (left : Nat → Bool) (x : Nat) : Nat → Nat
  | 0 => 0
  | n + 1 => psum T left x n + if left n = true ∧ x ∈ T n then n else 0
def px32 (T : Nat → List Nat) (left : Nat → Bool) (x : Nat) : Nat → Int32
  | 0 => 0
  | n + 1 => px32 T left x n ^^^ if left n = true ∧ x ∈ T n then Int32.ofNat n else 0
def pleft (left : Nat → Bool) : Nat → Nat
  | 0 => 0
  | n + 1 => pleft left n + if left n = true then 1 else 0
theorem pset_self {left : Nat → Bool} {k : Nat} {b : Bool} : pset left k b k = b := by simp [pset]
theorem pset_ne {left : Nat → Bool} {k j : Nat} {b : Bool} (h : j ≠ k) : pset left k b j = left j := by simp [pset, h]
theorem pset_same {left : Nat → Bool} {k : Nat} {b : Bool} (h : left k = b) : pset left k b = left := by
  funext j
  by_cases hj : j = k
  · subst hj; rw [pset_self, h]
  · rw [pset_ne hj]
theorem pset_pset {left : Nat → Bool} {k : Nat} {b c : Bool} : pset (pset left k b) k c = pset left k c := by
  funext j
  by_cases hj : j = k
  · subst hj; rw [pset_self, pset_self]
  · rw [pset_ne hj, pset_ne hj, pset_ne hj]
theorem pcnt_congr {T : Nat → List Nat} {l1 l2 : Nat → Bool} {x : Nat} : ∀ {n : Nat}, (∀ j, j < n → l1 j = l2 j) → pcnt T l1 x n = pcnt T l2 x n
  | 0, _ => rfl
  | n + 1, h => by
    unfold pcnt
    rw [pcnt_congr (n := n) (fun j hj => h j (by omega)), h n (by omega)]
theorem psum_congr {T : Nat → List Nat} {l1 l2 : Nat → Bool} {x : Nat} : ∀ {n : Nat}, (∀ j, j < n → l1 j = l2 j) → psum T l1 x n = psum T l2 x n
  | 0, _ => rfl
  | n + 1, h => by
    unfold psum
    rw [psum_congr (n := n) (fun j hj => h j (by omega)), h n (by omega)]
theorem px32_congr {T : Nat → List Nat} {l1 l2 : Nat → Bool} {x : Nat} : ∀ {n : Nat}, (∀ j, j < n → l1 j = l2 j) → px32 T l1 x n = px32 T l2 x n
  | 0, _ => rfl
  | n + 1, h => by
    unfold px32
    rw [px32_congr (n := n) (fun j hj => h j (by omega)), h n (by omega)]
theorem pleft_congr {l1 l2 : Nat → Bool} : ∀ {n : Nat}, (∀ j, j < n → l1 j = l2 j) → pleft l1 n = pleft l2 n
  | 0, _ => rfl
  | n + 1, h => by
    unfold pleft
    rw [pleft_congr (n := n) (fun j hj => h j (by omega)), h n (by omega)]
theorem pcnt_set {T : Nat → List Nat} {left : Nat → Bool} {x k : Nat} {b : Bool} : ∀ {n : Nat}, k < n → pcnt T (pset left k b) x n + (if left k = true ∧ x ∈ T k then 1 else 0) = pcnt T left x n + (if b = true ∧ x ∈ T k then 1 else 0)
  | 0, h => by omega
  | n + 1, h => by
    unfold pcnt
    by_cases hk : k = n
    · subst hk
      rw [pset_self, pcnt_congr (l1 := pset left k b) (l2 := left) (fun j hj => pset_ne (by omega))]
      omega
    · rw [pset_ne (fun e => hk e.symm)]
      have := pcnt_set (T := T) (left := left) (x := x) (b := b) (n := n) (k := k) (by omega)
      omega
theorem psum_set {T : Nat → List Nat} {left : Nat → Bool} {x k : Nat} {b : Bool} : ∀ {n : Nat}, k < n → psum T (pset left k b) x n + (if left k = true ∧ x ∈ T k then k else 0) = psum T left x n + (if b = true ∧ x ∈ T k then k else 0)
  | 0, h => by omega
  | n + 1, h => by
    unfold psum
    by_cases hk : k = n
    · subst hk
      rw [pset_self, psum_congr (l1 := pset left k b) (l2 := left) (fun j hj => pset_ne (by omega))]
      omega
    · rw [pset_ne (fun e => hk e.symm)]
      have := psum_set (T := T) (left := left) (x := x) (b := b) (n := n) (k := k) (by omega)
      omega
theorem pleft_set {left : Nat → Bool} {k : Nat} {b : Bool} : ∀ {n : Nat}, k < n → pleft (pset left k b) n + (if left k = true then 1 else 0) = pleft left n + (if b = true then 1 else 0)
  | 0, h => by omega
  | n + 1, h => by
    unfold pleft
    by_cases hk : k = n
    · subst hk
      rw [pset_self, pleft_congr (l1 := pset left k b) (l2 := left) (fun j hj => pset_ne (by omega))]
      omega
    · rw [pset_ne (fun e => hk e.symm)]
      have := pleft_set (left := left) (b := b) (n := n) (k := k) (by omega)
      omega
theorem px32_set {T : Nat → List Nat} {left : Nat → Bool} {x k : Nat} {b : Bool} : ∀ {n : Nat}, k < n → px32 T (pset left k b) x n ^^^ (if left k = true ∧ x ∈ T k then Int32.ofNat k else 0) = px32 T left x n ^^^ (if b = true ∧ x ∈ T k then Int32.ofNat k else 0)
  | 0, h => by omega
  | n + 1, h => by
    unfold px32
    by_cases hk : k = n
    · subst hk
      rw [pset_self, px32_congr (l1 := pset left k b) (l2 := left) (fun j hj => pset_ne (by omega))]
      rw [Int32.xor_assoc, Int32.xor_assoc, Int32.xor_comm (if b = true ∧ x ∈ T k then Int32.ofNat k else 0)]
    · rw [pset_ne (fun e => hk e.symm)]
      have := px32_set (T := T) (left := left) (x := x) (b := b) (n := n) (k := k) (by omega)
      generalize (if left n = true ∧ x ∈ T n then Int32.ofNat n else 0) = w
      rw [Int32.xor_assoc, Int32.xor_comm w, ← Int32.xor_assoc, this, Int32.xor_assoc, Int32.xor_comm _ w, ← Int32.xor_assoc]
theorem pcnt_le {T : Nat → List Nat} {left : Nat → Bool} {x : Nat} : ∀ {n : Nat}, pcnt T left x n ≤ n
  | 0 => Nat.le_refl _
  | n + 1 => by
    unfold pcnt
    have := pcnt_le (T := T) (left := left) (x := x) (n := n)
    split <;> omega
theorem pleft_le {left : Nat → Bool} : ∀ {n : Nat}, pleft left n ≤ n
  | 0 => Nat.le_refl _
  | n + 1 => by
    unfold pleft
    have := pleft_le (left := left) (n := n)
    split <;> omega
theorem psum_le {T : Nat → List Nat} {left : Nat → Bool} {x : Nat} : ∀ {n : Nat}, psum T left x n ≤ n * n
  | 0 => Nat.le_refl _
  | n + 1 => by
    unfold psum
    have := psum_le (T := T) (left := left) (x := x) (n := n)
    have e : (n + 1) * (n + 1) = n * n + 2 * n + 1 := by rw [Nat.add_mul, Nat.mul_add]; omega
    rw [e]
    split <;> omega
theorem pcnt_zero {T : Nat → List Nat} {left : Nat → Bool} {x : Nat} : ∀ {n : Nat}, pcnt T left x n = 0 ↔ ∀ k, k < n → left k = true → x ∉ T k
  | 0 => ⟨fun _ k hk => absurd hk (by omega), fun _ => rfl⟩
  | n + 1 => by
    unfold pcnt
    have ih := pcnt_zero (T := T) (left := left) (x := x) (n := n)
    constructor
    · intro h k hk hl hx
      by_cases hkn : k = n
      · subst hkn
        rw [if_pos ⟨hl, hx⟩] at h
        omega
      · exact ih.mp (by omega) k (by omega) hl hx
    · intro h
      rw [ih.mpr (fun k hk => h k (by omega)), if_neg (fun z => h n (by omega) z.1 z.2)]
theorem psum_zero {T : Nat → List Nat} {left : Nat → Bool} {x : Nat} : ∀ {n : Nat}, pcnt T left x n = 0 → psum T left x n = 0 ∧ px32 T left x n = 0
  | 0, _ => ⟨rfl, rfl⟩
  | n + 1, h => by
    have hz := pcnt_zero.mp h
    have ih := psum_zero (T := T) (left := left) (x := x) (n := n) (pcnt_zero.mpr fun k hk => hz k (by omega))
    unfold psum px32
    rw [ih.1, ih.2, if_neg (fun z => hz n (by omega) z.1 z.2), if_neg (fun z => hz n (by omega) z.1 z.2)]
    exact ⟨rfl, rfl⟩
/-- a cell that one key alone touches: which one, by the sum and by the xor -/
theorem palone {T : Nat → List Nat} {left : Nat → Bool} {x : Nat} : ∀ {n : Nat}, pcnt T left x n = 1 → ∃ k, k < n ∧ left k = true ∧ x ∈ T k ∧ (∀ j, j < n → left j = true → x ∈ T j → j = k) ∧ psum T left x n = k ∧ px32 T left x n = Int32.ofNat k
  | 0, h => by cases h
  | n + 1, h => by
    unfold pcnt at h
    unfold psum px32
    by_cases hc : left n = true ∧ x ∈ T n
    · rw [if_pos hc] at h
      have h0 : pcnt T left x n = 0 := by omega
      have hz := pcnt_zero.mp h0
      have hs := psum_zero h0
      refine ⟨n, by omega, hc.1, hc.2, fun j hj hl hx => ?_, ?_, ?_⟩
      · by_cases hjn : j = n
        · exact hjn
        · exact absurd hx (hz j (by omega) hl)
      · rw [if_pos hc, hs.1, Nat.zero_add]
      · rw [if_pos hc, hs.2, Int32.zero_xor]
    · rw [if_neg hc] at h
      obtain ⟨k, h1, h2, h3, h4, h5, h6⟩ := palone (n := n) (by omega)
      refine ⟨k, by omega, h2, h3, fun j hj hl hx => ?_, ?_, ?_⟩
      · by_cases hjn : j = n
        · subst hjn
          exact absurd ⟨hl, hx⟩ hc
        · exact h4 j (by omega) hl hx
      · rw [if_neg hc, h5, Nat.add_zero]
      · rw [if_neg hc, h6, Int32.xor_zero]
theorem palone_of {T : Nat → List Nat} {left : Nat → Bool} {x : Nat} : ∀ {n k : Nat}, k < n → left k = true → x ∈ T k → (∀ j, j < n → left j = true → x ∈ T j → j = k) → pcnt T left x n = 1
  | 0, k, h, _, _, _ => by omega
  | n + 1, k, h, hl, hx, hu => by
    unfold pcnt
    by_cases hk : k = n
    · subst hk
      rw [if_pos ⟨hl, hx⟩, pcnt_zero.mpr (fun j hj hjl hjx => by have := hu j (by omega) hjl hjx; omega)]
    · rw [if_neg (fun z => hk (hu n (by omega) z.1 z.2).symm), palone_of (n := n) (k := k) (by omega) hl hx (fun j hj => hu j (by omega))]
theorem pleft_zero {left : Nat → Bool} : ∀ {n : Nat}, pleft left n = 0 ↔ ∀ k, k < n → left k = false
  | 0 => ⟨fun _ k hk => absurd hk (by omega), fun _ => rfl⟩
  | n + 1 => by
    unfold pleft
    have ih := pleft_zero (left := left) (n := n)
    constructor
    · intro h k hk
      by_cases hkn : k = n
      · subst hkn
        cases hb : left k with
        | false => rfl
        | true => rw [if_pos hb] at h; omega
      · exact ih.mp (by omega) k (by omega)
    · intro h
      rw [ih.mpr (fun k hk => h k (by omega)), h n (by omega)]
      rfl
/-- the cells of a key, one after the other -/
def TOK (T : Nat → List Nat) (n N : Nat) : Prop := ∀ k, k < n → ((T k).length = 1 ∨ (T k).length = 3) ∧ (T k).Pairwise (· < ·) ∧ ∀ x ∈ T k, x < N
