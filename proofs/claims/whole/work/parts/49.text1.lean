/-! TEXT, pure: tokens, and what is read of them -/
def isLt (c : Nat) : Bool := decide (97 ≤ c) && decide (c ≤ 122)
def isDg (c : Nat) : Bool := decide (48 ≤ c) && decide (c ≤ 57)
def isSp (c : Nat) : Bool := decide (c = 32) || decide (c = 10)
theorem isLt_iff {c : Nat} : isLt c = true ↔ 97 ≤ c ∧ c ≤ 122 := by
  unfold isLt
  rw [Bool.and_eq_true, decide_eq_true_eq, decide_eq_true_eq]
theorem isDg_iff {c : Nat} : isDg c = true ↔ 48 ≤ c ∧ c ≤ 57 := by
  unfold isDg
  rw [Bool.and_eq_true, decide_eq_true_eq, decide_eq_true_eq]
theorem isSp_iff {c : Nat} : isSp c = true ↔ c = 32 ∨ c = 10 := by
  unfold isSp
  rw [Bool.or_eq_true, decide_eq_true_eq, decide_eq_true_eq]
def rn (g : Nat → Bool) (tb : Nat → Nat) (tl : Nat) : Nat → Nat → Nat
  | 0, p => p
  | f + 1, p => if p < tl ∧ g (tb p) = true then rn g tb tl f (p + 1) else p
/-- the first place from p on where the tape ends or g fails -/
def run (g : Nat → Bool) (tb : Nat → Nat) (tl p : Nat) : Nat := rn g tb tl (tl - p) p
theorem run_go {g : Nat → Bool} {tb : Nat → Nat} {tl p : Nat} (h1 : p < tl) (h2 : g (tb p) = true) : run g tb tl p = run g tb tl (p + 1) := by
  unfold run
  rw [show tl - p = (tl - (p + 1)) + 1 by omega]
  show (if _ then _ else _) = _
  rw [if_pos ⟨h1, h2⟩]
theorem run_stop {g : Nat → Bool} {tb : Nat → Nat} {tl p : Nat} (h : ¬ (p < tl ∧ g (tb p) = true)) : run g tb tl p = p := by
  unfold run
  cases hf : tl - p with
  | zero => rfl
  | succ f =>
    show (if _ then _ else _) = _
    rw [if_neg h]
theorem run_spec {g : Nat → Bool} {tb : Nat → Nat} {tl : Nat} : ∀ (f p : Nat), p + f = tl → p ≤ run g tb tl p ∧ run g tb tl p ≤ tl ∧ ∀ q, p ≤ q → q < run g tb tl p → g (tb q) = true
  | 0, p, h => by
    rw [run_stop (by omega)]
    exact ⟨Nat.le_refl _, by omega, fun q h1 h2 => by omega⟩
  | f + 1, p, h => by
    by_cases hg : p < tl ∧ g (tb p) = true
    · rw [run_go hg.1 hg.2]
      obtain ⟨a, b, c⟩ := run_spec (g := g) (tb := tb) (tl := tl) f (p + 1) (by omega)
      refine ⟨by omega, b, fun q h1 h2 => ?_⟩
      by_cases e : q = p
      · rw [e]; exact hg.2
      · exact c q (by omega) h2
    · rw [run_stop hg]
      exact ⟨Nat.le_refl _, by omega, fun q h1 h2 => by omega⟩
abbrev Tk : Type := Nat × Nat × Nat
/-- the token from p on: its first place, the place behind it, its kind (0 the end, 1 a word, 2 a number, 3 a stop, 4 wrong) -/
def tok1 (tb : Nat → Nat) (tl s : Nat) : Tk :=
  if s < tl then (if isLt (tb s) = true then (s, run isLt tb tl s, if run isLt tb tl s - s ≤ 6 then 1 else 4)
    else if isDg (tb s) = true then (s, run isDg tb tl s, if run isDg tb tl s - s ≤ 9 then 2 else 4)
    else (s, s + 1, if tb s = 59 then 3 else 4))
  else (s, s, 0)
def tok (tb : Nat → Nat) (tl p : Nat) : Tk := tok1 tb tl (run isSp tb tl p)
def TokOK (tb : Nat → Nat) (tl : Nat) (t : Tk) : Prop := t.1 ≤ t.2.1 ∧ t.2.1 ≤ tl ∧ t.2.2 ≤ 4 ∧ (t.2.2 = 1 → t.2.1 - t.1 ≤ 6 ∧ ∀ q, t.1 ≤ q → q < t.2.1 → isLt (tb q) = true) ∧ (t.2.2 = 2 → t.2.1 - t.1 ≤ 9 ∧ ∀ q, t.1 ≤ q → q < t.2.1 → isDg (tb q) = true)
theorem tok1_ok {tb : Nat → Nat} {tl s : Nat} (h : s ≤ tl) : TokOK tb tl (tok1 tb tl s) ∧ (tok1 tb tl s).1 = s := by
  unfold tok1
  by_cases h1 : s < tl
  · rw [if_pos h1]
    by_cases h2 : isLt (tb s) = true
    · rw [if_pos h2]
      obtain ⟨a, b, c⟩ := run_spec (g := isLt) (tb := tb) (tl := tl) (tl - s) s (by omega)
      refine ⟨⟨a, b, ?_, fun e => ?_, fun e => ?_⟩, rfl⟩
      · show (if _ then _ else _) ≤ 4
        split <;> omega
      · refine ⟨?_, c⟩
        have e : (if run isLt tb tl s - s ≤ 6 then 1 else 4) = 1 := e
        show run isLt tb tl s - s ≤ 6
        split at e
        · assumption
        · cases e
      · have e : (if run isLt tb tl s - s ≤ 6 then 1 else 4) = 2 := e
        split at e <;> cases e
    · rw [if_neg h2]
      by_cases h3 : isDg (tb s) = true
      · rw [if_pos h3]
        obtain ⟨a, b, c⟩ := run_spec (g := isDg) (tb := tb) (tl := tl) (tl - s) s (by omega)
        refine ⟨⟨a, b, ?_, fun e => ?_, fun e => ?_⟩, rfl⟩
        · show (if _ then _ else _) ≤ 4
          split <;> omega
        · have e : (if run isDg tb tl s - s ≤ 9 then 2 else 4) = 1 := e
          split at e <;> cases e
        · refine ⟨?_, c⟩
          have e : (if run isDg tb tl s - s ≤ 9 then 2 else 4) = 2 := e
          show run isDg tb tl s - s ≤ 9
          split at e
          · assumption
          · cases e
      · rw [if_neg h3]
        refine ⟨⟨by show s ≤ s + 1; omega, by show s + 1 ≤ tl; omega, ?_, fun e => ?_, fun e => ?_⟩, rfl⟩
        · show (if _ then _ else _) ≤ 4
          split <;> omega
        · have e : (if tb s = 59 then 3 else 4) = 1 := e
          split at e <;> cases e
        · have e : (if tb s = 59 then 3 else 4) = 2 := e
          split at e <;> cases e
  · rw [if_neg h1]
    exact ⟨⟨Nat.le_refl _, h, Nat.zero_le _, fun e => (by cases e), fun e => (by cases e)⟩, rfl⟩
theorem tok_ok {tb : Nat → Nat} {tl p : Nat} (h : p ≤ tl) : TokOK tb tl (tok tb tl p) := (tok1_ok (run_spec (g := isSp) (tb := tb) (tl := tl) (tl - p) p (by omega)).2.1).1
/-- a number's value -/
def nmv (tb : Nat → Nat) (s : Nat) : Nat → Nat
  | 0 => 0
  | l + 1 => 10 * nmv tb s l + (tb (s + l) - 48)
theorem nmv_lt {tb : Nat → Nat} {s : Nat} : ∀ {l : Nat}, (∀ q, s ≤ q → q < s + l → isDg (tb q) = true) → nmv tb s l < 10 ^ l
  | 0, _ => by show 0 < 1; omega
  | l + 1, h => by
    have ih := nmv_lt (tb := tb) (s := s) (l := l) (fun q h1 h2 => h q h1 (by omega))
    have := isDg_iff.mp (h (s + l) (by omega) (by omega))
    show 10 * nmv tb s l + (tb (s + l) - 48) < 10 ^ (l + 1)
    rw [Nat.pow_succ]
    omega
def tnum (tb : Nat → Nat) (t : Tk) : Nat := nmv tb t.1 (t.2.1 - t.1)
theorem tnum_lt {tb : Nat → Nat} {tl : Nat} {t : Tk} (h : TokOK tb tl t) (hk : t.2.2 = 2) : tnum tb t < 1000000000 := by
  obtain ⟨h1, h2, -, -, h5⟩ := h
  obtain ⟨a, b⟩ := h5 hk
  have := nmv_lt (tb := tb) (s := t.1) (l := t.2.1 - t.1) (fun q q1 q2 => b q q1 (by omega))
  have h9 : 10 ^ (t.2.1 - t.1) ≤ 10 ^ 9 := Nat.pow_le_pow_right (by decide) a
  unfold tnum
  omega
/-- a word's letters, the last first -/
def wv (tb : Nat → Nat) (s : Nat) : Nat → List Nat
  | 0 => []
  | l + 1 => (tb (s + l) - 96) :: wv tb s l
def rc : List Nat → Nat
  | [] => 0
  | a :: r => 27 * rc r + a
def dgs (l : List Nat) : Prop := ∀ a ∈ l, 1 ≤ a ∧ a ≤ 26
theorem rc_inj : ∀ {l1 l2 : List Nat}, dgs l1 → dgs l2 → rc l1 = rc l2 → l1 = l2
  | [], [], _, _, _ => rfl
  | [], b :: r, _, h2, h => by
    have := h2 b List.mem_cons_self
    unfold rc at h
    omega
  | a :: r, [], h1, _, h => by
    have := h1 a List.mem_cons_self
    unfold rc at h
    omega
  | a :: r, b :: r2, h1, h2, h => by
    have ha := h1 a List.mem_cons_self
    have hb := h2 b List.mem_cons_self
    unfold rc at h
    have e : a = b := by omega
    subst e
    rw [rc_inj (l1 := r) (l2 := r2) (fun x hx => h1 x (List.mem_cons_of_mem _ hx)) (fun x hx => h2 x (List.mem_cons_of_mem _ hx)) (by omega)]
theorem rc_lt : ∀ {l : List Nat}, dgs l → rc l < 27 ^ l.length
  | [], _ => by decide
  | a :: r, h => by
    have ih := rc_lt (l := r) (fun x hx => h x (List.mem_cons_of_mem _ hx))
    have ha := h a List.mem_cons_self
    show 27 * rc r + a < 27 ^ (r.length + 1)
    rw [Nat.pow_succ]
    omega
theorem wv_dgs {tb : Nat → Nat} {s : Nat} : ∀ {l : Nat}, (∀ q, s ≤ q → q < s + l → isLt (tb q) = true) → dgs (wv tb s l) ∧ (wv tb s l).length = l
  | 0, _ => ⟨fun a h => (by cases h), rfl⟩
  | l + 1, h => by
    obtain ⟨a, b⟩ := wv_dgs (tb := tb) (s := s) (l := l) (fun q h1 h2 => h q h1 (by omega))
    have := isLt_iff.mp (h (s + l) (by omega) (by omega))
    refine ⟨fun x hx => ?_, by show (wv tb s l).length + 1 = l + 1; rw [b]⟩
    rcases List.mem_cons.mp hx with e | e
    · omega
    · exact a x e
theorem wv_eq {tb tb' : Nat → Nat} {s : Nat} : ∀ {l : Nat}, (∀ i, i < l → isLt (tb (s + i)) = true ∧ isLt (tb' i) = true) → (wv tb s l = wv tb' 0 l ↔ ∀ i, i < l → tb (s + i) = tb' i)
  | 0, _ => ⟨fun _ i hi => by omega, fun _ => rfl⟩
  | l + 1, h => by
    have ih := wv_eq (tb := tb) (tb' := tb') (s := s) (l := l) (fun i hi => h i (by omega))
    have hl := h l (by omega)
    have h1 := isLt_iff.mp hl.1
    have h2 := isLt_iff.mp hl.2
    unfold wv
    rw [List.cons.injEq, ih, Nat.zero_add]
    constructor
    · rintro ⟨a, b⟩ i hi
      by_cases e : i = l
      · subst e; omega
      · exact b i (by omega)
    · intro hh
      exact ⟨by rw [hh l (by omega)], fun i hi => hh i (by omega)⟩
/-- the letters of the text with this number -/
def sch (q i : Nat) : Nat := (((am_str.getD q "").toList.getD i 'a')).toNat
def slen (q : Nat) : Nat := (am_str.getD q "").length
def sW (q : Nat) : List Nat := wv (sch q) 0 (slen q)
theorem sW_ok : ∀ q, q < 14 → (1 ≤ slen q ∧ slen q ≤ 6) ∧ ∀ i, i < 6 → i < slen q → isLt (sch q i) = true := by decide +kernel
def isW (tb : Nat → Nat) (t : Tk) (q : Nat) : Bool := decide (t.2.2 = 1) && decide (wv tb t.1 (t.2.1 - t.1) = sW q)
theorem isW_iff {tb : Nat → Nat} {t : Tk} {q : Nat} : isW tb t q = true ↔ t.2.2 = 1 ∧ wv tb t.1 (t.2.1 - t.1) = sW q := by
  unfold isW
  rw [Bool.and_eq_true, decide_eq_true_eq, decide_eq_true_eq]
abbrev PR (α : Type) : Type := Nat ⊕ α
def nxt (tb : Nat → Nat) (tl : Nat) (t : Tk) : Tk := tok tb tl t.2.1
/-- a stop: what comes behind it -/
def pEnd (tb : Nat → Nat) (tl : Nat) (t : Tk) : PR Tk := if t.2.2 = 3 then .inr (nxt tb tl t) else .inl (8 * t.1 + 1)
def pNum (tb : Nat → Nat) (tl lo hi : Nat) (t : Tk) : PR (Tk × Nat) := if t.2.2 = 2 then (if lo ≤ tnum tb t ∧ tnum tb t ≤ hi then .inr (nxt tb tl t, tnum tb t) else .inl (8 * t.1 + 3)) else .inl (8 * t.1 + 1)
/-- which text names the choice v of the setting i -/
def chq (i v : Nat) : Nat := if v = 0 then (if i = 5 then 6 else 7) else if v = 1 then (if i = 5 then 8 else 9) else (if i = 5 then 10 else 11)
def pCho (tb : Nat → Nat) (tl i : Nat) (t : Tk) : PR (Tk × Nat) := if isW tb t (chq i 0) = true then .inr (nxt tb tl t, 0) else if isW tb t (chq i 1) = true then .inr (nxt tb tl t, 1) else if isW tb t (chq i 2) = true then .inr (nxt tb tl t, 2) else .inl (8 * t.1 + 1)
def pVal (tb : Nat → Nat) (tl i : Nat) (t : Tk) : PR (Tk × Nat) := if i < 5 then pNum tb tl (slo i) (shi i) t else pCho tb tl i t
def pSet (tb : Nat → Nat) (tl i : Nat) (t : Tk) (s : St) : PR (Tk × St) := if isW tb t (i - 1) = true then (match pVal tb tl i (nxt tb tl t) with
    | .inl e => .inl e
    | .inr (t1, v) => match pEnd tb tl t1 with
      | .inl e => .inl e
      | .inr t2 => .inr (t2, sSet s i v))
  else .inr (t, s)
def pIs (tb : Nat → Nat) (tl bits : Nat) (t : Tk) : PR (Tk × Nat) := if isW tb t 13 = true then pNum tb tl 0 (2 ^ bits - 1) (nxt tb tl t) else .inr (t, 0)
def n64 (v : Nat) : Int64 := am_i2l (v : Int)
def pKey (tb : Nat → Nat) (tl : Nat) (t : Tk) (s : St) : PR (Tk × St) := if isW tb t 12 = true then (if s.1 < 48 then
      (if (nxt tb tl t).2.2 = 2 then (if pfd s.2.1 (n64 (tnum tb (nxt tb tl t))) s.1 0 = -1 then
          (match pIs tb tl (s.2.2.2 3) (nxt tb tl (nxt tb tl t)) with
          | .inl e => .inl e
          | .inr (t2, v) => match pEnd tb tl t2 with
            | .inl e => .inl e
            | .inr t3 => .inr (t3, sIns s s.1 (n64 (tnum tb (nxt tb tl t))) v))
        else .inl (8 * (nxt tb tl t).1 + 2)) else .inl (8 * (nxt tb tl t).1 + 1))
    else .inl (8 * t.1 + 4)) else .inl (8 * t.1 + 1)
def pSets (tb : Nat → Nat) (tl : Nat) : Nat → Nat → Tk → St → PR (Tk × St)
  | 0, _, t, s => .inr (t, s)
  | f + 1, i, t, s => match pSet tb tl i t s with
    | .inl e => .inl e
    | .inr (t1, s1) => pSets tb tl f (i + 1) t1 s1
def pKeys (tb : Nat → Nat) (tl : Nat) : Nat → Tk → St → PR St
  | 0, _, s => .inr s
  | f + 1, t, s => if t.2.2 = 0 then .inr s else match pKey tb tl t s with
    | .inl e => .inl e
    | .inr (t1, s1) => pKeys tb tl f t1 s1
def sNew : St := (0, fun _ => 0, fun _ => 0, fun i => if i = 1 then 16 else if i = 2 then 8 else if i = 3 then 4 else if i = 4 then 1 else 0)
def pTx (tb : Nat → Nat) (tl : Nat) : PR (Tk × St) → PR St
  | .inl e => .inl e
  | .inr (t, s) => pKeys tb tl 49 t s
def pText (tb : Nat → Nat) (tl : Nat) : PR St := pTx tb tl (pSets tb tl 6 1 (tok tb tl 0) sNew)
theorem sNew_ok : StOK sNew := ⟨by decide, by unfold SOK sNew; decide, fun k hk => by cases hk⟩
theorem nxt_ok {tb : Nat → Nat} {tl : Nat} {t : Tk} (h : TokOK tb tl t) : TokOK tb tl (nxt tb tl t) := tok_ok h.2.1
theorem kind_iff (a b : Nat) : ((a : Int) = (b : Int)) ↔ a = b := by omega
