/-! CONSTRUCTORS: 'new C()' as one row -/
theorem kX.at {I : Nat → ClassId} {base t : Nat} {s U : State} {H : Heap} {A : Nat → Prop} {locs : List Loc} (h : kX I base t s s.heap) (hS : va_S A s.heap H locs) (hAB : ∀ q, A q → base ≤ q) (hU : U.heap = H) (hW : s.WarmedH U.vm) : kX I base t U U.heap := by
  obtain ⟨h1, h2, h3, h4⟩ := h
  refine ⟨?_, fun w hw => am_nst_warm hW hw (h2 w hw), va_Nw.warmC hW h3, h4.moved hW.alike⟩
  rw [hU]
  exact (h1.kept (fun a ha hb => hS.2.1 a ha (fun z => hb (hAB a z)))).moved hW.alike
theorem kX.same {I : Nat → ClassId} {base t : Nat} {s U : State} (h : kX I base t s s.heap) (hH : U.heap = s.heap) (hv : s.vm = U.vm) : kX I base t U U.heap := by
  obtain ⟨h1, h2, h3, h4⟩ := h
  have hal : s.vm.Alike U.vm := by rw [hv]; exact Vm.Alike.refl _
  refine ⟨?_, fun w hw => am_nst_same hv hw (h2 w hw), va_Nw.same rfl hv h3, h4.moved hal⟩
  rw [hH]
  exact h1.moved hal
theorem k_join {A : Nat → Prop} {D : va_G} {cl : List vw_C} {ws w1 : va_W} {x : Nat × va_E} {H H1 : Heap} (hP : va_P D cl (ws ++ [x]) H) (hD : va_D A (ws ++ [x])) (hk : ∀ q : Nat, q < H.size → ¬ va_A [x] H.size q → H1[q]? = H[q]?) (hF : ∀ q, va_A [x] H.size q → A q) (hP1 : va_P D cl w1 H1) (hD1 : va_D (va_A [x] H.size) w1) : va_P D cl (ws ++ w1) H1 ∧ va_D A (ws ++ w1) := by
  have hx : (ws ++ [x])[ws.length]? = some x := by rw [List.getElem?_append_right (Nat.le_refl _)]; simp
  have ne : ∀ (k : Nat) (y : Nat × va_E), ws[k]? = some y → y.1 < H.size ∧ ¬ va_A [x] H.size y.1 := by
    intro k y hy
    have hkl : k < ws.length := (List.getElem?_eq_some_iff.mp hy).1
    have hy2 : (ws ++ [x])[k]? = some y := by rw [List.getElem?_append_left hkl]; exact hy
    have hlt := (hP k y hy2).lt
    refine ⟨hlt, fun h => ?_⟩
    rcases h with ⟨j, e, h⟩ | h
    · have hj : j < 1 := (List.getElem?_eq_some_iff.mp h).1
      have hj : j = 0 := by omega
      subst hj
      have hxe : x = (y.1, e) := by simpa using h
      have := hD.1 k ws.length y x hy2 hx (by rw [hxe])
      omega
    · omega
  constructor
  · intro k y hy
    by_cases hkl : k < ws.length
    · rw [List.getElem?_append_left hkl] at hy
      obtain ⟨n1, n2⟩ := ne k y hy
      have hy2 : (ws ++ [x])[k]? = some y := by rw [List.getElem?_append_left hkl]; exact hy
      exact (hP k y hy2).kept (hk _ n1 n2)
    · rw [List.getElem?_append_right (by omega)] at hy
      exact hP1 _ y hy
  · refine ⟨fun i j y z hi hj hyz => ?_, fun k y hy => ?_⟩
    · by_cases hil : i < ws.length
      · rw [List.getElem?_append_left hil] at hi
        by_cases hjl : j < ws.length
        · rw [List.getElem?_append_left hjl] at hj
          exact hD.1 i j y z (by rw [List.getElem?_append_left hil]; exact hi) (by rw [List.getElem?_append_left hjl]; exact hj) hyz
        · rw [List.getElem?_append_right (by omega)] at hj
          have := hD1.2 _ z hj
          rw [← hyz] at this
          exact absurd this (ne i y hi).2
      · rw [List.getElem?_append_right (by omega)] at hi
        by_cases hjl : j < ws.length
        · rw [List.getElem?_append_left hjl] at hj
          have := hD1.2 _ y hi
          rw [hyz] at this
          exact absurd this (ne j z hj).2
        · rw [List.getElem?_append_right (by omega)] at hj
          have := hD1.1 _ _ y z hi hj hyz
          omega
    · by_cases hkl : k < ws.length
      · rw [List.getElem?_append_left hkl] at hy
        exact hD.2 k y (by rw [List.getElem?_append_left hkl]; exact hy)
      · rw [List.getElem?_append_right (by omega)] at hy
        exact hF _ (hD1.2 _ y hy)
section KMK
variable {p : Program} {l : Launch} {e : Env} {R : Room} {s : State} {m : MethodId} {args : Array Value} {below : List Frame} {meth : Method} {c : Code} {H : Heap} {locs : List Loc} {cells slots : Nat} {Q : State → Prop}
variable {cc : ByteArray} {pc : Nat} {ls : Array Slot} {rest : List Value} {D : va_G} {A : Nat → Prop} {ws : va_W}
theorem k_make {nL : Nat} (hx : p.tables.exec = Jvm.exec) (hb : c.code = cc) (hml : c.maxLocals = nL) (hls : ls.size = nL) {own : String} (hown : s.vm.findClass own = some m.cls) (htb : ∀ w ∈ am_big, w.before args s = true) {I : Nat → ClassId} {base t0 : Nat}
    (hK : va_K D vwCl (kt I) s) (hP : va_P D vwCl ws H) (hD : va_D A ws) (hS : va_S A s.heap H locs) (hA : ∀ q, s.heap.size ≤ q → A q) (hAB : ∀ q, A q → base ≤ q) (hX : kX I base t0 s s.heap)
    {C : String} {T : u_T} {N ci icl ict : Nat} {fs : List Value} (hin : ∀ w ∈ u_ws C T N, w ∈ am_big) (ty : Nat → FieldType) (hty : ∀ k, k < N → parseFieldDescriptor (T k).2.2.1 = some (ty k)) (hcl : (Cond.classLink own icl C).before args s = true) (hinst : (Cond.instantiable C N).before args s = true) (hini : (Cond.initialized C).before args s = true) (hc : vwCl[ci]? = some (C, T, N)) (hfs : ∀ j, j < N → defaultValue (ty j) = vp_V fs j)
    {y : MethodName} {bytes : ByteArray} {d mc ms : Nat} {w1 : Nat → (Nat → Nat) → va_W} (hM : ∀ h sz, Met l y (jd_w y bytes 1 none) (kr (d + 1) mc ms) (kPc D I base t0 [(h, .inr (ci, fs))] h sz) (kQ D I (w1 h) [(h, .inr (ci, fs))] sz) mc ms (va_A [(h, .inr (ci, fs))] sz))
    (hcode : Cond.code y bytes 1 none ∈ am_big) (hycls : y.cls = C) (hyn : y.name = "<init>") (hyd : y.cls ≠ "java/lang/invoke/MethodHandle" ∧ y.cls ≠ "java/lang/invoke/VarHandle" ∧ (parseMethodDescriptor y.desc).map (fun d => d.parameters.length) = some 0) (hyi : (Cond.instanceMethod y).before args s = true)
    (hlk : va_Nw (.methodLinkNest own ict y "TripleSieve") s ∨ (Cond.methodLink own ict y).before args s = true)
    (hfr : d + 2 ≤ R.frames) (hlo : 20 + 64 * (d + 1) ≤ R.locals) (hcat : 1 + (rest.map fun v => v.category).sum ≤ 8) (hcells : cells + 1 + mc ≤ R.cells) (hslots : slots + N + ms ≤ R.slots)
    (hd1 : decode cc pc = .ok (.new icl, 3)) (hd2 : decode cc (pc + 3) = .ok (.dup, 1)) (hd3 : decode cc (pc + 3 + 1) = .ok (.invokespecial ict, 3))
    (kk : ∀ (q : Nat) (u : Nat → Nat) (H1 : Heap) (locs1 : List Loc), va_P D vwCl (ws ++ w1 q u) H1 → va_D A (ws ++ w1 q u) → va_S A s.heap H1 locs1 → W p l e R s m args below meth c H1 locs1 (cells + 1 + mc) (slots + N + ms) Q (F0 m (pc + 7) ls (.ref q :: rest))) :
    W p l e R s m args below meth c H locs cells slots Q (F0 m pc ls rest) := by
  refine va_new (ci := ci) (fs := fs) (C := C) (T := T) (N := N) hx hb htb hin ty hty hown hcl hinst hini hK hP hD hS hA hc hfs (by omega) (by omega) hd1 (fun q H1 hP1 hD1 hS1 => ?_)
  refine lv_dup hx hb hd2 rfl ?_
  have hqi : (ws ++ [(q, (.inr (ci, fs) : va_E))])[ws.length]? = some (q, .inr (ci, fs)) := by rw [List.getElem?_append_right (Nat.le_refl _)]; simp
  have hAq : A q := hD1.2 ws.length _ hqi
  have hPc : va_P D vwCl [(q, .inr (ci, fs))] H1 := fun k z hz => by
    have hk : k < 1 := (List.getElem?_eq_some_iff.mp hz).1
    have hk : k = 0 := by omega
    subst hk
    cases hz
    exact hP1 ws.length _ hqi
  have hDc : va_D (fun _ => True) [(q, (.inr (ci, fs) : va_E))] := ⟨fun i j x z hi hj _ => by
    have h1 : i < 1 := (List.getElem?_eq_some_iff.mp hi).1
    have h2 : j < 1 := (List.getElem?_eq_some_iff.mp hj).1
    omega, fun _ _ _ => trivial⟩
  have hFc : ∀ z, va_A [(q, (.inr (ci, fs) : va_E))] H1.size z → A z := fun z hz => by
    rcases hz with ⟨k, e, h⟩ | h
    · have hk : k < 1 := (List.getElem?_eq_some_iff.mp h).1
      have hk : k = 0 := by omega
      subst hk
      cases h
      exact hAq
    · exact hA z (Nat.le_trans hS1.1 h)
  have hszB : base ≤ H1.size := hAB _ (hA _ hS1.1)
  have hfix : CallFix p m c cc nL s args am_big own := ⟨hx, hb, hml, hown, htb⟩
  have hpre : PreS s H1 (kPc D I base t0 [(q, .inr (ci, fs))] q H1.size) (.ref q :: []) := ⟨fun a U g mk z => by
      obtain ⟨q0, q1, qP, qK, qD, qb, qs, qX⟩ := z
      exact ⟨q0, q1, qP, va_K.moved (u := U) (U := U.calling g mk a) (Vm.Alike.refl U.vm) qK, qD, qb, qs, qX.same rfl rfl⟩,
    fun U hU hW => ⟨rfl, by show U.heap.size = _; rw [hU], by rw [hU]; exact hPc, va_K.moved hW.alike hK, hDc, hAB _ hAq, hszB, hX.at hS1 hAB hU hW⟩⟩
  have hini2 : (Cond.initialized y.cls).before args s = true := by rw [hycls]; exact hini
  have hrun : va_Run p l e R s m args below meth c H1 locs (cells + 1) (slots + N) mc ms (F0 m (pc + 3 + 1) ls (.ref q :: .ref q :: rest)) (.ref q :: rest) (kQ D I (w1 q) [(q, .inr (ci, fs))] H1.size [Value.ref q].toArray) (va_A [(q, .inr (ci, fs))] H1.size) := by
    have hR : (kr (d + 1) mc ms).frames + 1 ≤ R.frames ∧ 8 + (1 + 11) + (kr (d + 1) mc ms).locals ≤ R.locals := ⟨hfr, by show 8 + (1 + 11) + 64 * (d + 1) ≤ R.locals; omega⟩
    rcases hlk with h | h
    · have cw := va_cnB (R := R) (mc := mc) (ms := ms) (args := args) 0 htb (jd_good hcode) rfl rfl rfl h hini2 hyd hR
      exact va_runIN (As := []) (rest := .ref q :: rest) hfix (hM q H1.size) ⟨cw, hyn, hyi⟩ hpre rfl rfl hls rfl (lv_room (show 1 + (rest.map fun v => v.category).sum ≤ 8 from hcat)) hd3 ⟨by omega, by omega⟩
    · have cw := callB_of (R := R) (mc := mc) (ms := ms) 0 htb (jd_good hcode) rfl rfl rfl hini2 h hyd hR
      exact va_runI (As := []) (rest := .ref q :: rest) hfix (hM q H1.size) ⟨cw, hyn, hyi⟩ hpre rfl rfl hls rfl (lv_room (show 1 + (rest.map fun v => v.category).sum ≤ 8 from hcat)) hd3 ⟨by omega, by omega⟩
  refine va_callv hrun hS1 (fun z _ h => hFc z h) hFc (fun u t H2 locs2 ht hvm hw hB hz2 hk2 hS2 => ?_)
  obtain ⟨hP2, hK2, hD2⟩ := hB
  rw [ht] at hP2
  obtain ⟨hP3, hD3⟩ := k_join hP1 hD1 hk2 hFc hP2 hD2
  exact kk q u H2 locs2 hP3 hD3 hS2
end KMK
