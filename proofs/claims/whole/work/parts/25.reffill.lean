/-! FILLING: the reference -/
def xrs (F : Nat → Int32) (c : Nat) : List Nat → Int32
  | [] => 0
  | a :: l => if a = c then xrs F c l else F a ^^^ xrs F c l
theorem xrs_eq {F : Nat → Int32} {c : Nat} (h : F c = 0) : ∀ {l : List Nat}, xrs F c l = xr F l
  | [] => rfl
  | a :: l => by
    unfold xrs xr
    rw [xrs_eq h]
    by_cases e : a = c
    · rw [if_pos e, e, h, Int32.zero_xor]
    · rw [if_neg e]
def xsm (f : Nat → Int32) : Nat → Int32
  | 0 => 0
  | n + 1 => f n ^^^ xsm f n
theorem xsm_congr {f f' : Nat → Int32} : ∀ {n : Nat}, (∀ x, x < n → f x = f' x) → xsm f n = xsm f' n
  | 0, _ => rfl
  | n + 1, h => by
    unfold xsm
    rw [h n (by omega), xsm_congr (fun x hx => h x (by omega))]
theorem xsm_one {f f' : Nat → Int32} {a : Nat} {v : Int32} : ∀ {n : Nat}, a < n → f a = 0 → f' a = v → (∀ x, x < n → x ≠ a → f' x = f x) → xsm f' n = v ^^^ xsm f n
  | 0, h, _, _, _ => by omega
  | n + 1, h, h0, h1, h2 => by
    unfold xsm
    by_cases e : a = n
    · subst e
      rw [h1, h0, Int32.zero_xor, xsm_congr (fun x hx => h2 x (by omega) (by omega))]
    · rw [xsm_one (n := n) (by omega) h0 h1 (fun x hx => h2 x (by omega)), h2 n (by omega) (fun e2 => e e2.symm), ← Int32.xor_assoc, ← Int32.xor_assoc, Int32.xor_comm (f n) v]
theorem xsm_zero : ∀ {n : Nat}, xsm (fun _ => 0) n = 0
  | 0 => rfl
  | n + 1 => by
    unfold xsm
    rw [xsm_zero, Int32.xor_zero]
theorem xr_sm {F : Nat → Int32} {N : Nat} : ∀ {l : List Nat}, l.Nodup → (∀ x ∈ l, x < N) → xr F l = xsm (fun x => if x ∈ l then F x else 0) N
  | [], _, _ => by
    unfold xr
    simp only [List.not_mem_nil, if_false]
    exact xsm_zero.symm
  | a :: l, h, hx => by
    have h1 := List.nodup_cons.mp h
    unfold xr
    rw [xr_sm (l := l) h1.2 (fun x hm => hx x (List.mem_cons_of_mem _ hm))]
    refine (xsm_one (a := a) (hx a List.mem_cons_self) ?_ ?_ (fun x _ hne => ?_)).symm
    · rw [if_neg h1.1]
    · rw [if_pos List.mem_cons_self]
    · by_cases e : x ∈ l
      · rw [if_pos e, if_pos (List.mem_cons_of_mem _ e)]
      · rw [if_neg e, if_neg (fun z => (List.mem_cons.mp z).elim hne e)]
theorem xr_UT {F : Nat → Int32} {U T : Nat → List Nat} {n N k : Nat} (hT : TOK T n N) (hU : UOK U T n) (hk : k < n) : xr F (U k) = xr F (T k) := by
  obtain ⟨u1, u2, u3⟩ := hU k hk
  obtain ⟨t1, t2, t3⟩ := hT k hk
  rw [xr_sm (N := N) u1 (fun x hx => t3 x ((u3 x).mp hx)), xr_sm (N := N) (pw_nodup t2) t3]
  refine xsm_congr (fun x _ => ?_)
  by_cases e : x ∈ T k
  · rw [if_pos e, if_pos ((u3 x).mpr e)]
  · rw [if_neg e, if_neg (fun z => e ((u3 x).mp z))]
def gPr (K : Nat → Int64) (seed : Int) (pr : Nat) (k : Nat) : Int32 := Int32.ofInt (h_print (h_hash (K k) seed) pr)
theorem gPr_to {K : Nat → Int64} {seed : Int} {pr k : Nat} : (gPr K seed pr k).toInt = h_print (h_hash (K k) seed) pr := by
  unfold gPr h_print am_and
  rw [Int32.ofInt_toInt]
def gV (V : Nat → Nat) (k : Nat) : Int32 := Int32.ofInt (V k)
theorem gV_to {V : Nat → Nat} {k : Nat} (h : V k < 2147483648) : (gV V k).toInt = V k := am_to (am_RI (by omega) (by omega))
abbrev filF : List Nat := [80, 81]
theorem r_fills {d : Nat} {P : am_M → Prop} {m : am_M} {n c : Nat} {K : Nat → Int64} {V S : Nat → Nat} {seed : Int} {U T : Nat → List Nat} {out : List (Nat × Nat)} (hn : n ≤ 48) (hcc : c ≤ 32) (hT : TOK T n (3 * c)) (hU : UOK U T n) (hC : RefC m U n) (hO : OutR m out) (ho : out.length ≤ n) (hk : pok T n (3 * c) out)
    (hK : ∀ k : Nat, k < n → m.2 57 k = K k) (hV : ∀ k : Nat, k < n → m.1 60 k = V k) (hVb : ∀ k, k < n → V k < 2147483648) (hS : m.1 63 2 = S 2) (hS2 : S 2 ≤ 16)
    (kpost : ∀ m' : am_M, FilM m' 80 (pfl T (gPr K seed (S 2)) out) → FilM m' 81 (pfl T (gV V) out) → Fr filF [] m m' → P m') : am_OkV (d + 3) 179 [.inr (.inr 55), .inr (.inl (am_i2l seed))] m P := by
  have inner : ∀ (i k x : Nat) (m1 : am_M) (F G : Nat → Int32), out[i]? = some (k, x) → i < 48 → k < n → x < 3 * c → Fr filF [] m m1 → FilM m1 80 F → FilM m1 81 G →
      ∀ (l : List Nat) (j : Nat) (a b : Int32), (U k).drop j = l → am_GV (d + 3) 179 P 35 [(0, .inr (.inr 55)), (1, .inr (.inl (am_i2l seed))), (3, .inl ((i : Int) + -1))] [] (am_wr (am_wr m1 80 x (a ^^^ xrs F x l).toInt) 81 x (b ^^^ xrs G x l).toInt) →
      am_GV (d + 3) 179 P 89 [(0, .inr (.inr 55)), (1, .inr (.inl (am_i2l seed))), (3, .inl i), (4, .inl k), (5, .inl x), (6, .inl a.toInt), (7, .inl b.toInt), (8, .inl j)] [] m1 := by
    intro i k x m1 F G hi hi48 hkn hcN hf1 hF hG l
    have hC1 := hC.fr hf1 (by decide)
    have hlen : (U k).length ≤ 3 := by rw [(hU k hkn).2.1]; rcases (hT k hkn).1 with e | e <;> omega
    obtain ⟨c1, c2⟩ := hC1 k hkn
    induction l with
    | nil =>
      intro j a b hl hp
      have hj : (U k).length ≤ j := List.drop_eq_nil_iff.mp hl
      refine f_M_fills_89 ⟨by omega, by omega, ?_⟩
      rw [c1]
      refine ⟨fun _ => ⟨by omega, by omega, by omega, by omega, am_RI (by omega) (by omega), ?_⟩, fun z => absurd (by omega) z⟩
      unfold xrs at hp
      rw [Int32.xor_zero, Int32.xor_zero] at hp
      exact hp
    | cons y l ih =>
      intro j a b hl hp
      have hj : j < (U k).length := by
        rcases Nat.lt_or_ge j (U k).length with h | h
        · exact h
        · rw [List.drop_eq_nil_iff.mpr h] at hl; cases hl
      have hx : (U k)[j]? = some y := by
        have := congrArg List.head? hl
        rw [List.head?_drop] at this
        exact this
      have hxN := (hT k hkn).2.2 y (((hU k hkn).2.2 y).mp (List.mem_of_getElem? hx))
      have htl : (U k).drop (j + 1) = l := by
        rw [← List.tail_drop, hl]; rfl
      refine f_M_fills_89 ⟨by omega, by omega, ?_⟩
      rw [c1, c2 j y hx]
      refine ⟨fun z => absurd z (by omega), fun _ => ⟨am_RI (by omega) (by omega), am_RI (by omega) (by omega), by omega, by omega, fun h => ⟨by omega, by omega, by omega, by omega, am_RI (by omega) (by omega), ?_⟩, fun h => ⟨am_RI (by omega) (by omega), ?_⟩⟩⟩
      · rw [hF y (by omega), hG y (by omega), xor_int, xor_int, show (j : Int) + 1 = ((j + 1 : Nat) : Int) by omega]
        refine ih (j + 1) (a ^^^ F y) (b ^^^ G y) htl ?_
        unfold xrs at hp
        rw [if_neg (by omega), if_neg (by omega), ← Int32.xor_assoc, ← Int32.xor_assoc] at hp
        exact hp
      · rw [show (j : Int) + 1 = ((j + 1 : Nat) : Int) by omega]
        refine ih (j + 1) a b htl ?_
        unfold xrs at hp
        rw [if_pos (by omega), if_pos (by omega)] at hp
        exact hp
  have main : ∀ (i : Nat) (m1 : am_M), i ≤ out.length → Fr filF [] m m1 → FilM m1 80 (pfl T (gPr K seed (S 2)) (out.drop i)) → FilM m1 81 (pfl T (gV V) (out.drop i)) → am_GV (d + 3) 179 P 35 [(0, .inr (.inr 55)), (1, .inr (.inl (am_i2l seed))), (3, .inl ((i : Int) - 1))] [] m1 := by
    intro i
    induction i with
    | zero =>
      intro m1 hi hf1 hF hG
      exact f_M_fills_35 ⟨fun _ => kpost m1 hF hG hf1, fun z => absurd (by decide) z⟩
    | succ i ih =>
      intro m1 hi hf1 hF hG
      obtain ⟨k, x, e⟩ : ∃ k x, out[i]? = some (k, x) := ⟨_, _, List.getElem?_eq_getElem (show i < out.length by omega)⟩
      obtain ⟨p1, p2, p3, p4, p5⟩ := pok_at hk e
      have hO1 := hO.fr hf1 (by decide)
      rw [show ((i + 1 : Nat) : Int) - 1 = (i : Int) by omega]
      refine f_M_fills_35 ⟨fun z => by omega, fun _ => ⟨by omega, by omega, by omega, by omega, ?_⟩⟩
      rw [(hO1.2 i k x e).1, (hO1.2 i k x e).2]
      rw [show m1.2 57 k = K k by rw [hf1.2 _ (by decide)]; exact hK k p1]
      refine ⟨by omega, by omega, r_hashOf ⟨by decide, by decide, ?_⟩⟩
      rw [show m1.1 63 2 = S 2 by rw [hf1.1 _ (by decide)]; exact hS]
      refine r_printOf hS2 ⟨by omega, by omega, ?_⟩
      rw [show m1.1 60 k = (gV V k).toInt by rw [hf1.1 _ (by decide), gV_to (hVb k p1)]; exact hV k p1, ← gPr_to]
      refine inner i k x m1 _ _ e (by omega) p1 p3 hf1 hF hG (U k) 0 _ _ rfl ?_
      rw [xrs_eq (pfl_zero p4), xrs_eq (pfl_zero p4), xr_UT hT hU p1, xr_UT hT hU p1]
      refine ih _ (by omega) ((hf1.wr (by decide)).wr (by decide)) (fun y hy => ?_) (fun y hy => ?_)
      · rw [wr_ne _ _ _ (by decide), wr_at, p5, pfl_cons]
        by_cases hxc : y = x
        · rw [if_pos (by omega), if_pos hxc]
        · rw [if_neg (by omega), if_neg hxc]
          exact hF y hy
      · rw [wr_at, p5, pfl_cons]
        by_cases hxc : y = x
        · rw [if_pos (by omega), if_pos hxc]
        · rw [if_neg (by omega), if_neg hxc, wr_ne _ _ _ (by decide)]
          exact hG y hy
  have zero : ∀ (s x : Nat) (m1 : am_M), x + s = 96 → Fr filF [] m m1 → (∀ y : Nat, y < x → m1.1 80 y = 0 ∧ m1.1 81 y = 0) → am_GV (d + 3) 179 P 2 [(0, .inr (.inr 55)), (1, .inr (.inl (am_i2l seed))), (3, .inl x)] [] m1 := by
    intro s
    induction s with
    | zero =>
      intro x m1 hx hf1 h0
      refine f_M_fills_2 ⟨fun _ => ?_, fun z => absurd (by omega) z⟩
      rw [(hO.fr hf1 (by decide)).1]
      refine ⟨am_RI (by omega) (by omega), main out.length m1 (by omega) hf1 (fun y hy => ?_) (fun y hy => ?_)⟩
      · rw [(h0 y (by omega)).1, List.drop_length]; rfl
      · rw [(h0 y (by omega)).2, List.drop_length]; rfl
    | succ s ih =>
      intro x m1 hx hf1 h0
      refine f_M_fills_2 ⟨fun z => by omega, fun _ => ⟨by omega, by omega, by omega, by omega, am_RI (by omega) (by omega), ih (x + 1) _ (by omega) ((hf1.wr (by decide)).wr (by decide)) (fun y hy => ?_)⟩⟩
      rw [wr_ne _ _ _ (by decide), wr_at, wr_at]
      by_cases hyx : y = x
      · rw [if_pos (by omega), if_pos (by omega)]; exact ⟨rfl, rfl⟩
      · rw [if_neg (by omega), if_neg (by omega), wr_ne _ _ _ (by decide)]; exact h0 y (by omega)
  exact f_M_fills (zero 96 0 m (by omega) Fr.rf (fun y hy => absurd hy (by omega)))
