/-! THE LAW: what holds at its loop's head (written by wip/gen64.py) -/
def CI (m : am_M) (s : St) (L : List St) (tl : Nat) (tb : Nat → Nat) (Z : Nat → Option Sv) (ch dc : Nat) : Prop := GS m s ∧ Ring m s L ∧ TapC m tl tb ∧ CSAll m Z ∧ Mnd m s ch ∧ m.1 1404 0 = ch ∧ m.1 1804 0 = dc
def RI (m : am_M) (s : St) (L : List St) (tl : Nat) (tb : Nat → Nat) (Z : Nat → Option Sv) : Prop := MS m s ∧ Kept m L ∧ TapR m tl tb ∧ RSAll m Z
def LI (m : am_M) (k : Nat) : Prop := ∃ (s : St) (L : List St) (tl : Nat) (tb : Nat → Nat) (Z : Nat → Option Sv) (ch dc : Nat), ch ≤ k ∧ dc ≤ 60 * k ∧ CI m s L tl tb Z ch dc ∧ RI m s L tl tb Z
abbrev ciF : List Nat := [1403, 6, 7, 13, 14, 16, 2204, 2205, 1101, 2, 4801, 39, 4802, 1404, 1804] ++ svF
abbrev ciF2 : List Nat := [5, 15]
abbrev riF : List Nat := [6521, 60, 63, 62, 65, 66, 6523, 6502, 56, 86, 83, 84, 85]
abbrev riF2 : List Nat := [57, 59]
section
variable {m m' : am_M} {s t : St} {L L' : List St} {tl tl' : Nat} {tb tb' : Nat → Nat} {Z Z' : Nat → Option Sv} {ch dc dc' : Nat} {l1 l2 : List Nat}
theorem CSAll.fr (h : CSAll m Z) (hf : Fr l1 l2 m m') (h1 : ∀ i ∈ svF, i ∉ l1) : CSAll m' Z := ⟨h.1.fr hf ⟨h1 _ (by decide), h1 _ (by decide), h1 _ (by decide), h1 _ (by decide)⟩, h.2.1.fr hf ⟨h1 _ (by decide), h1 _ (by decide), h1 _ (by decide), h1 _ (by decide)⟩, h.2.2.fr hf ⟨h1 _ (by decide), h1 _ (by decide), h1 _ (by decide), h1 _ (by decide)⟩⟩
theorem RSAll.fr (h : RSAll m Z) (hf : Fr l1 l2 m m') (h1 : ∀ i ∈ svG, i ∉ l1) : RSAll m' Z := ⟨h.1.fr hf ⟨h1 _ (by decide), h1 _ (by decide), h1 _ (by decide), h1 _ (by decide)⟩, h.2.1.fr hf ⟨h1 _ (by decide), h1 _ (by decide), h1 _ (by decide), h1 _ (by decide)⟩, h.2.2.fr hf ⟨h1 _ (by decide), h1 _ (by decide), h1 _ (by decide), h1 _ (by decide)⟩⟩
theorem Fr.at1 (hf : Fr l1 l2 m m') {i : Nat} {z v : Int} (hi : i ∉ l1) (h : m.1 i z = v) : m'.1 i z = v := by rw [hf.1 i hi]; exact h
theorem CI.fr (h : CI m s L tl tb Z ch dc) (hf : Fr l1 l2 m m') (h1 : ∀ i ∈ ciF, i ∉ l1) (h2 : ∀ i ∈ ciF2, i ∉ l2) : CI m' s L tl tb Z ch dc := by
  obtain ⟨a1, a2, a3, a4, a5, a6, a7⟩ := h
  exact ⟨a1.fr hf ⟨h1 _ (by decide), h1 _ (by decide), h1 _ (by decide), h2 _ (by decide)⟩, a2.fr hf ⟨h1 _ (by decide), h1 _ (by decide), h1 _ (by decide), h1 _ (by decide), h1 _ (by decide), h2 _ (by decide)⟩, a3.fr hf ⟨h1 _ (by decide), h1 _ (by decide)⟩, a4.fr hf (fun i hi => h1 i (List.mem_append_right _ hi)), a5.fr hf ⟨h1 _ (by decide), h1 _ (by decide), h1 _ (by decide)⟩, hf.at1 (h1 _ (by decide)) a6, hf.at1 (h1 _ (by decide)) a7⟩
theorem RI.fr (h : RI m s L tl tb Z) (hf : Fr l1 l2 m m') (h1 : ∀ i ∈ riF, i ∉ l1) (h2 : ∀ i ∈ riF2, i ∉ l2) : RI m' s L tl tb Z := by
  obtain ⟨a1, a2, a3, a4⟩ := h
  exact ⟨a1.fr hf ⟨h1 _ (by decide), h1 _ (by decide), h1 _ (by decide), h2 _ (by decide)⟩, a2.fr hf ⟨h1 _ (by decide), h1 _ (by decide), h1 _ (by decide), h1 _ (by decide), h2 _ (by decide)⟩, a3.fr hf ⟨h1 _ (by decide), h1 _ (by decide)⟩, a4.fr hf (fun i hi => h1 i (by revert hi; revert i; decide))⟩
theorem CI.mf (h : CI m s L tl tb Z ch dc) (hf : Fr MF MF2 m m') : CI m' s L tl tb Z ch dc := h.fr hf (by decide) (by decide)
theorem CI.cf (h : CI m s L tl tb Z ch dc) (hf : Fr CF CF2 m m') : CI m' s L tl tb Z ch dc := h.fr hf (by decide) (by decide)
theorem RI.mf (h : RI m s L tl tb Z) (hf : Fr MF MF2 m m') : RI m' s L tl tb Z := h.fr hf (by decide) (by decide)
theorem RI.cf (h : RI m s L tl tb Z) (hf : Fr CF CF2 m m') : RI m' s L tl tb Z := h.fr hf (by decide) (by decide)
theorem CI.tape (h : CI m s L tl tb Z ch dc) (hf : Fr [2, 1101] [] m m') (ht : TapC m' tl' tb') : CI m' s L tl' tb' Z ch dc := by
  obtain ⟨a1, a2, a3, a4, a5, a6, a7⟩ := h
  exact ⟨a1.fr hf (by decide), a2.fr hf (by decide), ht, a4.fr hf (by decide), a5.fr hf (by decide), hf.at1 (by decide) a6, hf.at1 (by decide) a7⟩
theorem RI.tape (h : RI m s L tl tb Z) (hf : Fr [56, 6502, 6500] [] m m') (ht : TapR m' tl' tb') : RI m' s L tl' tb' Z := by
  obtain ⟨a1, a2, a3, a4⟩ := h
  exact ⟨a1.fr hf (by decide), a2.fr hf (by decide), ht, a4.fr hf (by decide)⟩
theorem CI.acts (h : CI m s L tl tb Z ch dc) (hf : Fr (acF ++ gvF) (acF2 ++ gvF2) m m') (hG : GS m' t) (hR : Ring m' t L') (hc : m'.1 1404 0 = (ch + 1 : Nat)) : CI m' t L' tl tb Z (ch + 1) dc := by
  obtain ⟨a1, a2, a3, a4, a5, a6, a7⟩ := h
  exact ⟨hG, hR, a3.fr hf (by decide), a4.fr hf (by decide), (a5.up (Nat.lt_succ_self ch)).fr hf (by decide), hc, hf.at1 (by decide) a7⟩
theorem RI.acts (h : RI m s L tl tb Z) (hf : Fr (MF ++ snF ++ mvF) (MF2 ++ snF2 ++ mvF2) m m') (hM : MS m' t) (hK : Kept m' L') : RI m' t L' tl tb Z := by
  obtain ⟨a1, a2, a3, a4⟩ := h
  exact ⟨hM, hK, a3.fr hf (by decide), a4.fr hf (by decide)⟩
theorem CI.shelf (h : CI m s L tl tb Z ch dc) (hf : Fr svF [] m m') (hS : CSAll m' Z') : CI m' s L tl tb Z' ch dc := by
  obtain ⟨a1, a2, a3, a4, a5, a6, a7⟩ := h
  exact ⟨a1.fr hf (by decide), a2.fr hf (by decide), a3.fr hf (by decide), hS, a5.fr hf (by decide), hf.at1 (by decide) a6, hf.at1 (by decide) a7⟩
theorem RI.shelf (h : RI m s L tl tb Z) (hf : Fr (MF ++ svG) MF2 m m') (hS : RSAll m' Z') : RI m' s L tl tb Z' := by
  obtain ⟨a1, a2, a3, a4⟩ := h
  exact ⟨a1.fr hf (by decide), a2.fr hf (by decide), a3.fr hf (by decide), hS⟩
abbrev z0 (Z : Nat → Option Sv) (o : Option Sv) : Nat → Option Sv := fun b => if b = 0 then o else Z b
theorem CI.bld (h : CI m s L tl tb Z ch dc) {o : Option Sv} (hf : Fr (CF ++ [43, 44, 45, 5203]) CF2 m m') (hS : CS0 m' o) : CI m' s L tl tb (z0 Z o) ch dc := by
  obtain ⟨a1, a2, a3, a4, a5, a6, a7⟩ := h
  exact ⟨a1.fr hf (by decide), a2.fr hf (by decide), a3.fr hf (by decide), ⟨hS, a4.2.1.fr hf (by decide), a4.2.2.fr hf (by decide)⟩, a5.fr hf (by decide), hf.at1 (by decide) a6, hf.at1 (by decide) a7⟩
theorem RI.bld (h : RI m s L tl tb Z) {o : Option Sv} (hf : Fr (MF ++ [83, 84, 85, 86]) MF2 m m') (hS : RSv m' 0 o) (hk : ∀ b o, 0 < b → RSv m b o → RSv m' b o) : RI m' s L tl tb (z0 Z o) := by
  obtain ⟨a1, a2, a3, a4⟩ := h
  exact ⟨a1.fr hf (by decide), a2.fr hf (by decide), a3.fr hf (by decide), ⟨hS, hk 1 _ (by decide) a4.2.1, hk 2 _ (by decide) a4.2.2⟩⟩
theorem CI.mend (h : CI m s L tl tb Z ch dc) (hf : Fr (CF ++ mnF) CF2 m m') (hN : Mnd m' s ch) : CI m' s L tl tb Z ch dc := by
  obtain ⟨a1, a2, a3, a4, a5, a6, a7⟩ := h
  exact ⟨a1.fr hf (by decide), a2.fr hf (by decide), a3.fr hf (by decide), a4.fr hf (by decide), hN, hf.at1 (by decide) a6, hf.at1 (by decide) a7⟩
theorem CI.txl (h : CI m s L tl tb Z ch dc) (hf : Fr (rdF ++ [1101]) rdF2 m m') (hT : TapC m' tl' tb') (hd : m'.1 1804 0 = dc') : CI m' s L tl' tb' Z ch dc' := by
  obtain ⟨a1, a2, a3, a4, a5, a6, a7⟩ := h
  exact ⟨a1.fr hf (by decide), a2.fr hf (by decide), hT, a4.fr hf (by decide), a5.fr hf (by decide), hf.at1 (by decide) a6, hd⟩
theorem CI.txr (h : CI m s L tl tb Z ch dc) (hf : Fr txF txF2 m m') (hG : GS m' t) (hR : Ring m' t []) (hS : CSAll m' (fun _ => none)) (hc : m'.1 1404 0 = (ch + 1 : Nat)) (hd : m'.1 1804 0 = dc') (hT : TapC m' tl' tb') : CI m' t [] tl' tb' (fun _ => none) (ch + 1) dc' := by
  obtain ⟨a1, a2, a3, a4, a5, a6, a7⟩ := h
  exact ⟨hG, hR, hT, hS, (a5.up (Nat.lt_succ_self ch)).fr hf (by decide), hc, hd⟩
theorem RI.txl (h : RI m s L tl tb Z) (hf : Fr tnF rrF2 m m') (hT : TapR m' tl' tb') : RI m' s L tl' tb' Z := by
  obtain ⟨a1, a2, a3, a4⟩ := h
  exact ⟨a1.fr hf (by decide), a2.fr hf (by decide), hT, a4.fr hf (by decide)⟩
end
