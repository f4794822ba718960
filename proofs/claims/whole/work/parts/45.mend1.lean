/-! MEND, pure: rows of the fewest keys without which all goes -/
def ffirst {α : Type} (f : Nat → Option α) : Nat → Nat → Option α
  | 0, _ => none
  | s + 1, k => match f k with
    | some a => some a
    | none => ffirst f s (k + 1)
theorem ffirst_none {α : Type} {f : Nat → Option α} : ∀ {s k : Nat}, ffirst f s k = none → ∀ x, k ≤ x → x < k + s → f x = none
  | 0, k, _, x, h1, h2 => by omega
  | s + 1, k, h, x, h1, h2 => by
    unfold ffirst at h
    cases hf : f k with
    | some a => rw [hf] at h; cases h
    | none =>
      rw [hf] at h
      by_cases e : x = k
      · rw [e]; exact hf
      · exact ffirst_none h x (by omega) (by omega)
theorem ffirst_some {α : Type} {f : Nat → Option α} {a : α} : ∀ {s k : Nat}, ffirst f s k = some a → ∃ x, k ≤ x ∧ x < k + s ∧ f x = some a
  | 0, k, h => by cases h
  | s + 1, k, h => by
    unfold ffirst at h
    cases hf : f k with
    | some b => rw [hf] at h; cases h; exact ⟨k, by omega, by omega, hf⟩
    | none =>
      rw [hf] at h
      obtain ⟨x, a1, a2, a3⟩ := ffirst_some h
      exact ⟨x, by omega, by omega, a3⟩
theorem ffirst_congr {α : Type} {f g : Nat → Option α} : ∀ {s k : Nat}, (∀ x, k ≤ x → x < k + s → f x = g x) → ffirst f s k = ffirst g s k
  | 0, k, _ => rfl
  | s + 1, k, h => by
    unfold ffirst
    rw [h k (by omega) (by omega), ffirst_congr (s := s) (k := k + 1) (fun x h1 h2 => h x (by omega) (by omega))]
/-- the first row of r keys more, from k on, by the order of rows -/
def lexf (ok : List Nat → Bool) (n : Nat) : Nat → List Nat → Nat → Option (List Nat)
  | 0, pre, _ => if ok pre = true then some pre else none
  | r + 1, pre, k => ffirst (fun x => lexf ok n r (pre ++ [x]) (x + 1)) (n - k) k
def incr (k n : Nat) (l : List Nat) : Prop := l.Pairwise (· < ·) ∧ ∀ x ∈ l, k ≤ x ∧ x < n
theorem lexf_some {ok : List Nat → Bool} {n : Nat} : ∀ {r : Nat} {pre : List Nat} {k : Nat} {l : List Nat}, lexf ok n r pre k = some l → ∃ rest, l = pre ++ rest ∧ rest.length = r ∧ incr k n rest ∧ ok l = true
  | 0, pre, k, l, h => by
    unfold lexf at h
    by_cases hk : ok pre = true
    · rw [if_pos hk] at h
      cases h
      exact ⟨[], by simp, rfl, ⟨List.Pairwise.nil, fun x hx => by cases hx⟩, hk⟩
    · rw [if_neg hk] at h; cases h
  | r + 1, pre, k, l, h => by
    unfold lexf at h
    obtain ⟨x, h1, h2, h3⟩ := ffirst_some h
    obtain ⟨rest, e1, e2, e3, e4⟩ := lexf_some h3
    refine ⟨x :: rest, by rw [e1]; simp, by simp [e2], ⟨List.pairwise_cons.mpr ⟨fun y hy => by have := (e3.2 y hy).1; omega, e3.1⟩, fun y hy => ?_⟩, e4⟩
    rcases List.mem_cons.mp hy with e | e
    · omega
    · have := e3.2 y e; omega
theorem lexf_none {ok : List Nat → Bool} {n : Nat} : ∀ {r : Nat} {pre : List Nat} {k : Nat}, lexf ok n r pre k = none → ∀ rest, rest.length = r → incr k n rest → ok (pre ++ rest) = false
  | 0, pre, k, h, rest, hl, _ => by
    have : rest = [] := List.eq_nil_of_length_eq_zero hl
    subst this
    unfold lexf at h
    rw [List.append_nil]
    cases hk : ok pre with
    | false => rfl
    | true => rw [if_pos hk] at h; cases h
  | r + 1, pre, k, h, rest, hl, hi => by
    cases rest with
    | nil => cases hl
    | cons x rest =>
      unfold lexf at h
      have hx := hi.2 x List.mem_cons_self
      have h2 := ffirst_none h x hx.1 (by omega)
      have hp := List.pairwise_cons.mp hi.1
      have := lexf_none h2 rest (by simpa using hl) ⟨hp.2, fun y hy => ⟨hp.1 y hy, (hi.2 y (List.mem_cons_of_mem _ hy)).2⟩⟩
      rw [List.append_assoc] at this
      exact this
def lout (l : List Nat) : Nat → Bool := fun j => !decide (j ∈ l)
theorem lout_t {l : List Nat} {j : Nat} : lout l j = true ↔ j ∉ l := by
  unfold lout
  simp
abbrev cr (T : Nat → List Nat) (n N : Nat) (left : Nat → Bool) : Nat → Bool := (pres T n N 0 left).1
/-- what is left is the core of what is left when a row of keys is out -/
def isCr (T : Nat → List Nat) (n N : Nat) (left c : Nat → Bool) : Prop := (∀ j, j < n → c j = true → left j = true) ∧ pstable T n N c ∧ ∀ Q, pstable T n N Q → (∀ j, j < n → Q j = true → left j = true) → ∀ j, j < n → Q j = true → c j = true
theorem cr_is {T : Nat → List Nat} {n N : Nat} (left : Nat → Bool) (hT : TOK T n N) (hN : N ≤ 96) (w : Nat) : isCr T n N left (pres T n N w left).1 := by
  obtain ⟨a, b, c⟩ := pres_core w left hT hN
  exact ⟨fun j _ => a j, b, c⟩
theorem isCr_same {T : Nat → List Nat} {n N : Nat} {left c c' : Nat → Bool} (h : isCr T n N left c) (h' : isCr T n N left c') : ∀ j, j < n → c j = c' j := by
  intro j hj
  cases h1 : c j with
  | true => exact (h'.2.2 c h.2.1 h.1 j hj h1).symm
  | false =>
    cases h2 : c' j with
    | false => rfl
    | true => rw [h.2.2 c' h'.2.1 h'.1 j hj h2] at h1; cases h1
theorem isCr_out {T : Nat → List Nat} {n N : Nat} {pre : List Nat} {x : Nat} {c c' : Nat → Bool} (h : isCr T n N (lout pre) c) (h' : isCr T n N (pset c x false) c') : isCr T n N (lout (pre ++ [x])) c' := by
  refine ⟨fun j hj hc => ?_, h'.2.1, fun Q hQ hs j hj hq => ?_⟩
  · have := h'.1 j hj hc
    by_cases e : j = x
    · subst e; rw [pset_self] at this; cases this
    · rw [pset_ne e] at this
      have := lout_t.mp (h.1 j hj this)
      rw [lout_t]
      simp [this, e]
  · refine h'.2.2 Q hQ (fun i hi hiq => ?_) j hj hq
    have hs2 : ∀ i, i < n → Q i = true → lout pre i = true := fun i hi hiq => by
      have := lout_t.mp (hs i hi hiq)
      rw [lout_t]
      exact fun hm => this (List.mem_append_left _ hm)
    by_cases e : i = x
    · subst e
      have := lout_t.mp (hs i hi hiq)
      exact absurd (List.mem_append_right _ (List.mem_singleton.mpr rfl)) this
    · rw [pset_ne e]; exact h.2.2 Q hQ hs2 i hi hiq
theorem isCr_all {T : Nat → List Nat} {n N : Nat} {left c : Nat → Bool} (h : isCr T n N left c) : pleft c n = 0 ↔ pall T n N left := by
  rw [pleft_zero]
  constructor
  · intro h0 Q hQ hs j hj
    cases hq : Q j with
    | false => rfl
    | true => rw [← h0 j hj]; exact (h.2.2 Q hQ hs j hj hq).symm
  · intro ha j hj
    exact ha c h.2.1 h.1 j hj
abbrev okl (T : Nat → List Nat) (n N : Nat) (l : List Nat) : Bool := pab T n N (lout l)
def chf (T : Nat → List Nat) (n N : Nat) : Nat → (Nat → Bool) → List Nat → Nat → Option (List Nat)
  | 0, _, _, _ => none
  | r + 1, left, pre, k => if ptch T left n N + (r + 1) < pleft left n then none
    else ffirst (fun x => if left x = true then (if pleft (cr T n N (pset left x false)) n = 0 then some (pre ++ [x]) else chf T n N r (cr T n N (pset left x false)) (pre ++ [x]) (x + 1)) else none) (n - k) k
theorem pleft_more {left left2 : Nat → Bool} {n : Nat} : ∀ {l : List Nat}, (∀ j, j < n → left j = true → j ∉ l → left2 j = true) → pleft left n ≤ pleft left2 n + l.length
  | [], h => by
    have : pleft left n ≤ pleft left2 n := pleft_sub (fun j hj hl => h j hj hl (by simp))
    simpa using this
  | x :: l, h => by
    have ih := pleft_more (left := left) (left2 := pset left2 x true) (n := n) (l := l) (fun j hj hl hm => by
      by_cases e : j = x
      · subst e; rw [pset_self]
      · rw [pset_ne e]; exact h j hj hl (by simp [e, hm]))
    have : pleft (pset left2 x true) n ≤ pleft left2 n + 1 := by
      by_cases hx : x < n
      · have := pleft_set (left := left2) (b := true) hx
        rw [if_pos rfl] at this
        split at this <;> omega
      · rw [pleft_congr (l1 := pset left2 x true) (l2 := left2) (fun j hj => pset_ne (by omega))]; omega
    simp
    omega
theorem pmem_tch {T : Nat → List Nat} {left : Nat → Bool} {n : Nat} {l : List Nat} (h : ∀ x ∈ l, pcnt T left x n ≠ 0) : ∀ N, pmem l N ≤ ptch T left n N
  | 0 => Nat.le_refl _
  | N + 1 => by
    have := pmem_tch (T := T) (left := left) (n := n) h N
    unfold pmem ptch
    by_cases e : N ∈ l
    · rw [if_pos e, if_neg (h N e)]; omega
    · rw [if_neg e]; omega
theorem pok_nodup {T : Nat → List Nat} {n N : Nat} : ∀ {out : List (Nat × Nat)}, pok T n N out → (out.map Prod.snd).Nodup
  | [], _ => List.Pairwise.nil
  | (k, c) :: r, h => by
    rw [List.map_cons, List.nodup_cons]
    refine ⟨fun hm => ?_, pok_nodup h.2⟩
    obtain ⟨p, hp, e⟩ := List.mem_map.mp hm
    exact h.1.2.2.2 p hp e
theorem pchain_cells {T : Nat → List Nat} {n N : Nat} : ∀ {out : List (Nat × Nat)} {left l : Nat → Bool}, pchain T n N left out l → ∀ p ∈ out, p.1 < n ∧ left p.1 = true ∧ p.2 ∈ T p.1 ∧ p.2 < N
  | [], left, l, h, p, hp => by cases hp
  | (k, c) :: r, left, l, h, p, hp => by
    rcases List.mem_cons.mp hp with e | e
    · subst e; exact ⟨h.1.1, h.1.2.1, h.1.2.2.1, h.1.2.2.2.1⟩
    · obtain ⟨a, b, c1, d1⟩ := pchain_cells h.2 p e
      refine ⟨a, ?_, c1, d1⟩
      by_cases e2 : p.1 = k
      · rw [e2, pset_self] at b; cases b
      · rw [pset_ne e2] at b; exact b
/-- a cell peels one key at most -/
theorem tch_bound {T : Nat → List Nat} {n N : Nat} {pre rest : List Nat} {left : Nat → Bool} (hT : TOK T n N) (hN : N ≤ 96) (hc : isCr T n N (lout pre) left) (hok : okl T n N (pre ++ rest) = true) : pleft left n ≤ ptch T left n N + rest.length := by
  have hall := (pab_iff hT hN).mp hok
  let left2 : Nat → Bool := fun j => left j && !decide (j ∈ rest)
  have hl2 : ∀ j, left2 j = true ↔ left j = true ∧ j ∉ rest := fun j => by simp [left2]
  have hall2 : pall T n N left2 := fun Q hQ hs => hall Q hQ (fun j hj hq => by
    obtain ⟨a, b⟩ := (hl2 j).mp (hs j hj hq)
    have := lout_t.mp (hc.1 j hj a)
    rw [lout_t]
    simp [this, b])
  have h0 := (pall_iff 0 left2 hT hN).mpr hall2
  obtain ⟨hch, -⟩ := pres_spec 0 left2 hT hN
  have hlen := pchain_len hch
  have hok2 := pchain_ok hch
  have hm := pmem_len (N := N) (l := (pres T n N 0 left2).2.map Prod.snd) (pok_nodup hok2) (fun x hx => by
    obtain ⟨p, hp, e⟩ := List.mem_map.mp hx
    rw [← e]; exact pok_lt hok2 p hp)
  have ht := pmem_tch (T := T) (left := left) (n := n) (l := (pres T n N 0 left2).2.map Prod.snd) (fun x hx hz => by
    obtain ⟨p, hp, e⟩ := List.mem_map.mp hx
    obtain ⟨a, b, c, -⟩ := pchain_cells hch p hp
    exact pcnt_zero.mp hz p.1 a ((hl2 _).mp b).1 (by rw [← e]; exact c)) N
  rw [List.length_map] at hm
  have := pleft_more (left := left) (left2 := left2) (n := n) (l := rest) (fun j hj hl hm => (hl2 j).mpr ⟨hl, hm⟩)
  omega
theorem incr_drop {k n x : Nat} {pre rest : List Nat} (hp : incr 0 n pre) (h1 : ∀ y ∈ pre, y < k) (hk : k ≤ x) (hr : incr (x + 1) n rest) : incr 0 n (pre ++ rest) := by
  refine ⟨List.pairwise_append.mpr ⟨hp.1, hr.1, fun a ha b hb => by have := h1 a ha; have := (hr.2 b hb).1; omega⟩, fun y hy => ?_⟩
  rcases List.mem_append.mp hy with h | h
  · exact hp.2 y h
  · exact ⟨by omega, (hr.2 y h).2⟩
theorem chf_lexf {T : Nat → List Nat} {n N L : Nat} (hT : TOK T n N) (hN : N ≤ 96) (hmin : ∀ l : List Nat, l.length < L → incr 0 n l → okl T n N l = false) : ∀ (r : Nat) (pre : List Nat) (k : Nat) (left : Nat → Bool), pre.length + r = L → incr 0 n pre → (∀ y ∈ pre, y < k) → isCr T n N (lout pre) left → okl T n N pre = false → chf T n N r left pre k = lexf (okl T n N) n r pre k
  | 0, pre, k, left, hL, hi, hk, hc, hno => by
    unfold chf lexf
    rw [if_neg (by rw [hno]; decide)]
  | r + 1, pre, k, left, hL, hi, hk, hc, hno => by
    unfold chf lexf
    by_cases hp : ptch T left n N + (r + 1) < pleft left n
    · rw [if_pos hp]
      cases hl : ffirst (fun x => lexf (okl T n N) n r (pre ++ [x]) (x + 1)) (n - k) k with
      | none => rfl
      | some l =>
        have hl' : lexf (okl T n N) n (r + 1) pre k = some l := by unfold lexf; exact hl
        obtain ⟨rest, e1, e2, e3, e4⟩ := lexf_some hl'
        rw [e1] at e4
        have := tch_bound hT hN hc e4
        omega
    · rw [if_neg hp]
      refine ffirst_congr (fun x h1 h2 => ?_)
      have hix : incr 0 n (pre ++ [x]) := ⟨List.pairwise_append.mpr ⟨hi.1, List.pairwise_singleton _ _, fun a ha b hb => by have := hk a ha; have := List.mem_singleton.mp hb; omega⟩, fun y hy => by
        rcases List.mem_append.mp hy with h | h
        · exact hi.2 y h
        · have := List.mem_singleton.mp h; omega⟩
      by_cases hx : left x = true
      · rw [if_pos hx]
        have hcx := isCr_out hc (cr_is (pset left x false) hT hN 0)
        by_cases h0 : pleft (cr T n N (pset left x false)) n = 0
        · rw [if_pos h0]
          have hokx : okl T n N (pre ++ [x]) = true := (pab_iff hT hN).mpr ((isCr_all hcx).mp h0)
          cases r with
          | zero => unfold lexf; rw [if_pos hokx]
          | succ r =>
            have := hmin (pre ++ [x]) (by simp; omega) hix
            rw [hokx] at this; cases this
        · rw [if_neg h0]
          refine chf_lexf hT hN hmin r (pre ++ [x]) (x + 1) _ (by simp; omega) hix (fun y hy => ?_) hcx ?_
          · rcases List.mem_append.mp hy with h | h
            · have := hk y h; omega
            · have := List.mem_singleton.mp h; omega
          · cases hokx : okl T n N (pre ++ [x]) with
            | false => rfl
            | true => exact absurd ((isCr_all hcx).mpr ((pab_iff hT hN).mp hokx)) h0
      · rw [if_neg hx]
        cases hl : lexf (okl T n N) n r (pre ++ [x]) (x + 1) with
        | none => rfl
        | some l =>
          obtain ⟨rest, e1, e2, e3, e4⟩ := lexf_some hl
          have hsm := hmin (pre ++ rest) (by simp; omega) (incr_drop hi hk h1 e3)
          have : okl T n N (pre ++ rest) = true := by
            refine (pab_iff hT hN).mpr (fun Q hQ hs => ?_)
            refine (pab_iff hT hN).mp e4 Q hQ (fun j hj hq => ?_)
            have hj2 := lout_t.mp (hs j hj hq)
            have hjx : j ≠ x := fun e => by
              subst e
              exact hx (hc.2.2 Q hQ (fun i hi2 hiq => by
                have := lout_t.mp (hs i hi2 hiq)
                exact lout_t.mpr (fun hm => this (List.mem_append_left _ hm))) j hj hq)
            rw [lout_t, e1]
            simp at hj2 ⊢
            exact ⟨hj2.1, hjx, hj2.2⟩
          rw [this] at hsm; cases hsm
/-- the first of the fewest; L up to 3 -/
def pmend (ok : List Nat → Bool) (n : Nat) : Nat → Nat → Option (List Nat)
  | 0, _ => none
  | f + 1, L => match lexf ok n L [] 0 with
    | some l => some l
    | none => pmend ok n f (L + 1)
theorem hmin_of {ok : List Nat → Bool} {n L : Nat} (h : ∀ s, s < L → lexf ok n s [] 0 = none) : ∀ l : List Nat, l.length < L → incr 0 n l → ok l = false := fun l hl hi => by
  have := lexf_none (h l.length hl) l rfl hi
  simpa using this
def a_mend (o : Option (List Nat)) (z : Int) : Int := match o with
  | none => -2
  | some l => if z = -1 then l.length else if 0 ≤ z ∧ z < l.length then (l.getD z.toNat 0 : Nat) else -2
