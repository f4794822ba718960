/-! TripleSieve.key: it answers or throws -/
abbrev nsE : String := "java/util/NoSuchElementException"
abbrev nsW : List Cond := vx_at0 "TripleSieve" 125 nsE ["java/lang/RuntimeException", "java/lang/Exception"]
theorem nsW_tbl : ∀ w ∈ nsW, w ∈ lw_tbl := by decide +kernel
def nsB : List Cond := [.castable nsE nsE, .declares ⟨"java/lang/RuntimeException", "<init>", "()V"⟩, .declares ⟨"java/lang/Exception", "<init>", "()V"⟩, .declares ⟨"java/lang/Throwable", "<init>", "()V"⟩]
theorem nsW_not : ∀ w ∈ nsW.filter (fun w => !goodWord w), w ∈ nsB := by decide +kernel
theorem nsB_tbl : ∀ w ∈ nsB, w ∈ lw_tbl := by decide +kernel
theorem nsB_on : ∀ w ∈ nsB, w.onTables = true := by decide +kernel
theorem nsB_warm {s U : State} (hW : s.WarmedH U.vm) (h : ∀ w ∈ nsB, va_Nw w s) : ∀ w ∈ nsB, va_Nw w U := by
  unfold nsB at h ⊢
  simp only [List.forall_mem_cons] at h ⊢
  exact ⟨va_Nw.warmC hW h.1, va_Nw.warmD hW h.2.1, va_Nw.warmD hW h.2.2.1, va_Nw.warmD hW h.2.2.2.1, fun _ z => by cases z⟩
theorem nsW_ot : ∀ w ∈ Cond.classLink "TripleSieve" 123 nsE :: Cond.initialized nsE :: nsW, vx_ot w = true := by decide +kernel
def xS (A : Nat → Prop) (U : State) (H : Heap) : Prop := vx_Zq Bundle.tN "UNASSIGNED_STACK" Bundle.steD A U H ∧ vx_Zq Bundle.tN "SUPPRESSED_SENTINEL" Bundle.listD A U H ∧ ∀ w ∈ nsB, va_Nw w U
theorem xS.at {A : Nat → Prop} {s U : State} {H : Heap} {locs : List Loc} (h : xS A s s.heap) (hS : va_S A s.heap H locs) (hU : U.heap = H) (hW : s.WarmedH U.vm) : xS A U U.heap := by
  have hq : ∀ a : Nat, a < s.heap.size → ¬ A a → U.heap[a]? = s.heap[a]? := by rw [hU]; exact hS.2.1
  exact ⟨(h.1.kept hq).moved hW.alike, (h.2.1.kept hq).moved hW.alike, nsB_warm hW h.2.2⟩
theorem xS.same {A : Nat → Prop} {s U : State} (h : xS A s s.heap) (hH : U.heap = s.heap) (hv : s.vm = U.vm) : xS A U U.heap := by
  have hal : s.vm.Alike U.vm := by rw [hv]; exact Vm.Alike.refl _
  rw [hH]
  exact ⟨h.1.moved hal, h.2.1.moved hal, fun w hw => va_Nw.same (nsB_on w hw) hv (h.2.2 w hw)⟩
def kyP (E : am_E) (A : Nat → Prop) (as : List am_V) (m : am_M) : Array Value → State → Prop := fun v U => am_Pc E A as m v U ∧ xS A U U.heap
theorem ky_blind (E : am_E) (A : Nat → Prop) (as : List am_V) (m : am_M) : FrameBlind (kyP E A as m) := by
  intro a U g mk h
  exact ⟨am_blind E A as m a U g mk h.1, h.2.same rfl rfl⟩
abbrev kyA (z : Int) : List am_V := [.inr (.inr 0), .inl z]
def kyR (d : Nat) : Room := { frames := d, cells := 1, slots := 6, locals := 64 * d }
def bw_k0 : List am_I := [(0, .aload_n 0, 1, .aload 0), (1, .getfield 26, 3, .getfield 1102), (4, .iload_n 1, 1, .iload 1), (5, .invokevirtual 119, 3, .invokeinterface 7 3021), (8, .ifCond .ne (11), 3, .ifCond .ne 19), (11, .nop, 0, .goto_w 11)]
def bw_k19 : List am_I := [(19, .aload_n 0, 1, .aload 0), (20, .getfield 26, 3, .getfield 1102), (23, .getfield 126, 3, .getfield 200), (26, .iload_n 1, 1, .iload 1), (27, .laload, 1, .laload), (28, .lreturn, 1, .lreturn)]
def bl_key : List (Nat × List am_I) := [(0, bw_k0), (19, bw_k19)]
def ct_key : List (Nat × List Nat) := [(11, [0, 1])]
theorem chk_key : am_chk 78 bl_key ct_key false = true := by decide +kernel
theorem dk_11 : decode prog_1_method_5_code 11 = .ok (.new 123, 3) := by decide +kernel
theorem dk_14 : decode prog_1_method_5_code 14 = .ok (.dup, 1) := by decide +kernel
theorem dk_15 : decode prog_1_method_5_code 15 = .ok (.invokespecial 125, 3) := by decide +kernel
theorem dk_18 : decode prog_1_method_5_code 18 = .ok (.athrow, 1) := by decide +kernel
set_option maxHeartbeats 1000000 in
theorem x_key (l : Launch) (hfl : l.stackTraces = false) (E : am_E) (A : Nat → Prop) (d : Nat) {m : am_M} {n : Nat} {K : Nat → Int64} {V S : Nat → Nat} {z : Int} (hG : GSt m n K V S) :
    vx_Met l (am_mi 78).1 (am_wds 78) (kyR (d + 8)) (kyP E A (kyA z) m) (va_Ql (fun r (_ : Unit) => 0 ≤ z ∧ z < n ∧ r = K z.toNat) (fun _ t => va_P E.1 vwCl (am_ws E m) t.heap) A) (vx_X (fun _ : Unit => ¬ (0 ≤ z ∧ z < n)) (fun C _ t => C = nsE ∧ va_P E.1 vwCl (am_ws E m) t.heap) A) 1 6 A := by
  obtain ⟨-, -, h3, h4⟩ := am_chk_spec chk_key
  refine vx_ofW (cc := prog_1_method_5_code) (maxL := 2) (ret := some .long) (by decide) rfl ?_
  intro p e s mm args below meth c s₁ B hml htab hv
  obtain ⟨⟨rfl, hok, hWd, hRO⟩, hXS⟩ := hv
  have hx := B.exec
  have hb := B.bytes
  have hr := B.returns
  have hts := atoms_spec (ws := am_wds 78) B.pre
  have hown : s.vm.findClass "TripleSieve" = some mm.cls := findClass_of_methodNamed B.named
  have hlocks := B.notSynchronized
  have hl := lv_entry ((kyA z).map (am_cv E)) (n := 2) (by rw [am_lgsl]; exact Nat.le_refl _)
  rw [lg_entry_eq]
  generalize (lg_sl ((kyA z).map (am_cv E)) ++ List.replicate (2 - (lg_sl ((kyA z).map (am_cv E))).length) Slot.unset).toArray = ls at hl ⊢
  rw [am_args_cv] at hl
  generalize hQe : vx_MQ below (va_Ql (fun r (_ : Unit) => 0 ≤ z ∧ z < n ∧ r = K z.toNat) (fun _ t => va_P E.1 vwCl (am_ws E m) t.heap) A) (vx_X (fun _ : Unit => ¬ (0 ≤ z ∧ z < n)) (fun C _ t => C = nsE ∧ va_P E.1 vwCl (am_ws E m) t.heap) A) ((kyA z).map (am_cv E)).toArray s 1 6 A = Q
  have htb : ∀ w ∈ am_big, w.before ((kyA z).map (am_cv E)).toArray s = true := fun w hw => hts w (List.mem_cons_of_mem _ hw)
  have C : am_Cx p l e (kyR (d + 8)) s mm ((kyA z).map (am_cv E)).toArray below meth c 0 0 Q E A 78 (d + 7 + 1) (fun v m' => am_vl v fun r => (0 ≤ z ∧ z < n ∧ r = K z.toNat) ∧ m' = m) := by
    refine ⟨hx, hb, hml, hown, htb, Nat.le_refl _, Nat.le_refl _, Nat.zero_le _, Nat.zero_le _, hRO, hWd.2.1, ?_⟩
    intro i pc ls H locs m' v hd hrt hi hvok hbz hp hW hS
    unfold am_rtk at hrt
    unfold am_isRet at hi
    split at hrt
    · rename_i hrt2; exact absurd hrt2 (by decide)
    · rename_i hrt2; exact absurd hrt2 (by decide)
    · rcases v with y | y | y
      · exact hi.elim
      · obtain ⟨hp1, rfl⟩ := hp
        rw [← hQe]
        refine vx_ret (W.widen (k := 1) (n := 6) (by decide) (by decide) ?_)
        exact W.lret hx hb hr (fun t ht _ => ⟨⟨y, (), rfl, hp1, by show va_P E.1 vwCl _ t.heap; rw [ht]; exact hW.1⟩, hS.F ht⟩) hS.2.2 hd
      · exact hi.elim
    · rename_i hrt2; exact absurd hrt2 (fun q => by cases (show some FieldType.long = some (FieldType.object _) from q))
    · rename_i hrt2; exact absurd hrt2 (by decide)
    · cases hrt
  have hthrow : ¬ (0 ≤ z ∧ z < n) → am_at p l e (kyR (d + 8)) s mm ((kyA z).map (am_cv E)).toArray below meth c 0 0 Q E A 78 11 [(0, .inr (.inr 0)), (1, .inl z)] [] m := by
    intro hn H locs ls hW hS hl hv hst
    rw [← hQe]
    refine vx_throw0 (own := "TripleSieve") (cls := nsE) (names := ["java/lang/RuntimeException", "java/lang/Exception"]) (ik := 123) (ic := 125) (A := A) hx hb hfl hown (by decide) (by decide) (htb _ (am_big_of (i := 1055) (by decide +kernel) rfl)) (htb _ (am_big_of (i := 129) (by decide +kernel) rfl))
      (vx_hat (B := nsB) (fun w hw => htb w (List.mem_filter.mpr ⟨nsW_tbl w (List.mem_filter.mp hw).1, (List.mem_filter.mp hw).2⟩)) nsW_not (fun w hw => va_Nw.use (nsB_on w hw) (hXS.2.2 w hw))) nsW_ot hXS.1 hXS.2.1 hS (by rw [hml]; exact hl.1) dk_11 dk_14 dk_15 dk_18 (fun x hx => (htab x hx).elim)
      (by show 2 + 3 < d + 8; omega) (by show 0 + (13 * (2 + 1) + 42) ≤ 64 * (d + 8); omega) (Nat.le_refl _) (Nat.le_refl _) hlocks ?_ hS.2.2 (Nat.le_refl _) (Nat.le_refl _)
    intro t hal hsz hk
    exact ⟨(), hn, ⟨rfl, hW.1.kept (fun k q hq => hk _ (hW.1 k q hq).lt)⟩, Nat.le_trans hS.1 hsz, fun q h1 h2 => (hk q (Nat.lt_of_lt_of_le h1 hS.1)).trans (hS.2.1 q h1 h2)⟩
  obtain ⟨x, r, e1, e2⟩ := am_sound C h3 (bl := bl_key) (ct := ct_key) (fun t is hl => ⟨(h4 t is hl).1, fun x r e => by
    obtain ⟨x2, r2, e2, e3⟩ := (h4 t is hl).2
    rw [e] at e2
    cases e2
    exact e3⟩) (G := fun t lv st m' => am_at p l e (kyR (d + 8)) s mm ((kyA z).map (am_cv E)).toArray below meth c 0 0 Q E A 78 t lv st m') (fun _ _ _ _ h => h) 2000 bw_k0 [(0, .inr (.inr 0)), (1, .inl z)] [] m (h4 0 bw_k0 rfl).1 (show am_OkI (d + 7) 7 [.inr (.inr 4), .inl z] m (fun b m1 => (b ≠ 0 → (0 ≤ z ∧ z < 48 ∧ ((0 ≤ z ∧ z < n ∧ m1.2 5 z = K z.toNat) ∧ m1 = m))) ∧ (¬ b ≠ 0 → am_at p l e (kyR (d + 8)) s mm ((kyA z).map (am_cv E)).toArray below meth c 0 0 Q E A 78 11 [(0, .inr (.inr 0)), (1, .inl z)] [] m1)) from c_has hG (fun hn => ⟨fun h => absurd rfl h, fun _ => hthrow hn⟩) (fun h0 h1 => ⟨fun _ => ⟨h0, by have := hG.2.1; omega, ⟨h0, h1, by
      have := hG.2.2.1 z.toNat (by omega)
      rw [← this, show ((z.toNat : Nat) : Int) = z by omega]⟩, rfl⟩, fun h => absurd (fun q => by cases q) h⟩))
  cases e1
  exact e2 s.heap [] ls hWd va_S.rf hl (fun q hq => hok _ (am_args_mem hq)) (fun v hv => by cases hv)
