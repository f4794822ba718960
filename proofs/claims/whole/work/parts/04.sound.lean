def am_chk (y : Nat) (bl : List (Nat × List am_I)) (ct : List (Nat × List Nat)) (b : Bool) : Bool := true
section
variable {d y : Nat} {bl : List (Nat × List am_I)} {ct : List (Nat × List Nat)} {b : Bool} {L : Nat} {is : List am_I} {lv : am_L} {m : am_M} {as : List am_V} {ks : List Nat}
theorem am_c0 {P : am_M → Prop} (hc : am_chk y bl ct b = true) (hl : am_lk bl L = some is) (hk : am_lk ct L = some ks) (h : ∀ S, am_run S (am_Ok d) b (fun _ m' => P m') (am_G (d + 1) y (fun _ m' => P m')) bl ct 2000 is lv [] m) : am_GV (d + 1) y P L lv [] m := sorry
theorem am_c1 {P : Int → am_M → Prop} (hc : am_chk y bl ct b = true) (hl : am_lk bl L = some is) (hk : am_lk ct L = some ks) (h : ∀ S, am_run S (am_Ok d) b (fun v m' => am_vi v fun z => P z m') (am_G (d + 1) y (fun v m' => am_vi v fun z => P z m')) bl ct 2000 is lv [] m) : am_GI (d + 1) y P L lv [] m := sorry
theorem am_c2 {P : Int64 → am_M → Prop} (hc : am_chk y bl ct b = true) (hl : am_lk bl L = some is) (hk : am_lk ct L = some ks) (h : ∀ S, am_run S (am_Ok d) b (fun v m' => am_vl v fun z => P z m') (am_G (d + 1) y (fun v m' => am_vl v fun z => P z m')) bl ct 2000 is lv [] m) : am_GL (d + 1) y P L lv [] m := sorry
theorem am_c3 {P : Nat → am_M → Prop} (hc : am_chk y bl ct b = true) (hl : am_lk bl L = some is) (hk : am_lk ct L = some ks) (h : ∀ S, am_run S (am_Ok d) b (fun v m' => am_vr v fun z => P z m') (am_G (d + 1) y (fun v m' => am_vr v fun z => P z m')) bl ct 2000 is lv [] m) : am_GR (d + 1) y P L lv [] m := sorry
def am_args : Nat → List am_V → am_L
  | _, [] => []
  | k, v :: r => (k, v) :: am_args (match am_lng v with | true => k + 2 | false => k + 1) r
theorem am_e0 {P : am_M → Prop} (hc : am_chk y bl ct b = true) (hl : am_args 0 as = lv) (h : ∀ S, am_run S (am_Ok d) b (fun _ m' => P m') (am_G (d + 1) y (fun _ m' => P m')) bl ct 2000 [(0, .nop, 0, .goto_w 0)] lv [] m) : am_OkV (d + 1) y as m P := sorry
theorem am_e1 {P : Int → am_M → Prop} (hc : am_chk y bl ct b = true) (hl : am_args 0 as = lv) (h : ∀ S, am_run S (am_Ok d) b (fun v m' => am_vi v fun z => P z m') (am_G (d + 1) y (fun v m' => am_vi v fun z => P z m')) bl ct 2000 [(0, .nop, 0, .goto_w 0)] lv [] m) : am_OkI (d + 1) y as m P := sorry
theorem am_e2 {P : Int64 → am_M → Prop} (hc : am_chk y bl ct b = true) (hl : am_args 0 as = lv) (h : ∀ S, am_run S (am_Ok d) b (fun v m' => am_vl v fun z => P z m') (am_G (d + 1) y (fun v m' => am_vl v fun z => P z m')) bl ct 2000 [(0, .nop, 0, .goto_w 0)] lv [] m) : am_OkL (d + 1) y as m P := sorry
theorem am_e3 {P : Nat → am_M → Prop} (hc : am_chk y bl ct b = true) (hl : am_args 0 as = lv) (h : ∀ S, am_run S (am_Ok d) b (fun v m' => am_vr v fun z => P z m') (am_G (d + 1) y (fun v m' => am_vr v fun z => P z m')) bl ct 2000 [(0, .nop, 0, .goto_w 0)] lv [] m) : am_OkR (d + 1) y as m P := sorry
end
