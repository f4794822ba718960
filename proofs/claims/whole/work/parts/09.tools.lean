/-! small tools over the abstract machine -/
theorem am_RI {z : Int} (h1 : -2147483648 ≤ z) (h2 : z ≤ 2147483647) : am_R z := ⟨h1, h2⟩
/-- what is not named stays -/
def Fr (l1 l2 : List Nat) (m m' : am_M) : Prop := (∀ i, i ∉ l1 → m'.1 i = m.1 i) ∧ (∀ i, i ∉ l2 → m'.2 i = m.2 i)
theorem Fr.rf {l1 l2 : List Nat} {m : am_M} : Fr l1 l2 m m := ⟨fun _ _ => rfl, fun _ _ => rfl⟩
theorem Fr.tr {l1 l2 l3 l4 : List Nat} {m m1 m2 : am_M} (h : Fr l1 l2 m m1) (h2 : Fr l3 l4 m1 m2) {k1 k2 : List Nat} (a1 : ∀ i ∈ l1, i ∈ k1) (a2 : ∀ i ∈ l2, i ∈ k2) (a3 : ∀ i ∈ l3, i ∈ k1) (a4 : ∀ i ∈ l4, i ∈ k2) : Fr k1 k2 m m2 :=
  ⟨fun i hi => (h2.1 i (fun z => hi (a3 i z))).trans (h.1 i (fun z => hi (a1 i z))), fun i hi => (h2.2 i (fun z => hi (a4 i z))).trans (h.2 i (fun z => hi (a2 i z)))⟩
theorem Fr.tr1 {l1 l2 : List Nat} {m m1 m2 : am_M} (h : Fr l1 l2 m m1) (h2 : Fr l1 l2 m1 m2) : Fr l1 l2 m m2 := h.tr h2 (fun _ h => h) (fun _ h => h) (fun _ h => h) (fun _ h => h)
theorem Fr.mono {l1 l2 k1 k2 : List Nat} {m m1 : am_M} (h : Fr l1 l2 m m1) (a1 : ∀ i ∈ l1, i ∈ k1) (a2 : ∀ i ∈ l2, i ∈ k2) : Fr k1 k2 m m1 :=
  ⟨fun i hi => h.1 i (fun z => hi (a1 i z)), fun i hi => h.2 i (fun z => hi (a2 i z))⟩
theorem Fr.wr {l1 l2 : List Nat} {m m1 : am_M} (h : Fr l1 l2 m m1) {id : Nat} {z v : Int} (hid : id ∈ l1) : Fr l1 l2 m (am_wr m1 id z v) :=
  ⟨fun i hi => by rw [am_wr1 m1 id z v i (fun e => hi (e ▸ hid))]; exact h.1 i hi, h.2⟩
theorem Fr.wl {l1 l2 : List Nat} {m m1 : am_M} (h : Fr l1 l2 m m1) {id : Nat} {z : Int} {v : Int64} (hid : id ∈ l2) : Fr l1 l2 m (am_wl m1 id z v) :=
  ⟨h.1, fun i hi => by rw [am_wl2 m1 id z v i (fun e => hi (e ▸ hid))]; exact h.2 i hi⟩
theorem Fr.ws1 {l1 l2 : List Nat} {m m1 : am_M} (h : Fr l1 l2 m m1) {id : Nat} {f : Int → Int} (hid : id ∈ l1) : Fr l1 l2 m (am_ws1 m1 id f) :=
  ⟨fun i hi => by rw [am_ws11 m1 id f i (fun e => hi (e ▸ hid))]; exact h.1 i hi, h.2⟩
theorem Fr.ws2 {l1 l2 : List Nat} {m m1 : am_M} (h : Fr l1 l2 m m1) {id : Nat} {f : Int → Int64} (hid : id ∈ l2) : Fr l1 l2 m (am_ws2 m1 id f) :=
  ⟨h.1, fun i hi => by rw [am_ws22 m1 id f i (fun e => hi (e ▸ hid))]; exact h.2 i hi⟩
theorem wr_at (m : am_M) (id : Nat) (z v w : Int) : (am_wr m id z v).1 id w = if w = z then v else m.1 id w := by simp [am_wr]
theorem wr_ne (m : am_M) {id i : Nat} (z v : Int) (h : i ≠ id) : (am_wr m id z v).1 i = m.1 i := am_wr1 m id z v i h
theorem wl_at (m : am_M) (id : Nat) (z w : Int) (v : Int64) : (am_wl m id z v).2 id w = if w = z then v else m.2 id w := by simp [am_wl]
theorem wl_ne (m : am_M) {id i : Nat} (z : Int) (v : Int64) (h : i ≠ id) : (am_wl m id z v).2 i = m.2 i := am_wl2 m id z v i h
theorem wr_2 (m : am_M) (id : Nat) (z v : Int) : (am_wr m id z v).2 = m.2 := rfl
theorem wl_1 (m : am_M) (id : Nat) (z : Int) (v : Int64) : (am_wl m id z v).1 = m.1 := rfl
theorem ws1_at (m : am_M) (id : Nat) (f : Int → Int) : (am_ws1 m id f).1 id = f := by simp [am_ws1]
theorem ws2_at (m : am_M) (id : Nat) (f : Int → Int64) : (am_ws2 m id f).2 id = f := by simp [am_ws2]
-- the calls' predicates are monotone in what is wanted of the answer
theorem am_Ok.imp {d y : Nat} {as : List am_V} {m : am_M} {P P' : am_V → am_M → Prop} (h : am_Ok d y as m P) (hp : ∀ v m', P v m' → P' v m') : am_Ok d y as m P' := by
  intro l E A p e ha hc hk s mm args below hf hfit hpre hx
  obtain ⟨k, o, a1, a2, a3, ⟨⟨v, m', b1, b2, b3, b4⟩, b5⟩, a5⟩ := h l E A p e ha hc hk s mm args below hf hfit hpre hx
  exact ⟨k, o, a1, a2, a3, ⟨⟨v, m', b1, b2, hp _ _ b3, b4⟩, b5⟩, a5⟩
