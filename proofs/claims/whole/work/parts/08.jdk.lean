def bl_Arrays_fill : List (Nat × List am_I) := [(0, [(0, .iconst (0), 1, .iconst (0)), (1, .istore_n 2, 1, .istore 2), (2, .aload_n 0, 1, .aload 0), (3, .arraylength, 1, .arraylength), (4, .istore_n 3, 1, .istore 3), (5, .nop, 0, .goto_w 5)]),
  (5, [(5, .iload_n 2, 1, .iload 2), (6, .iload_n 3, 1, .iload 3), (7, .if_icmp .ge (13), 3, .if_icmp .ge 20), (10, .aload_n 0, 1, .aload 0), (11, .iload_n 2, 1, .iload 2), (12, .iload_n 1, 1, .iload 1), (13, .iastore, 1, .iastore), (14, .iinc 2 (1), 3, .iinc 2 (1)), (17, .goto (-12), 3, .goto 5)]),
  (20, [(20, .return_, 1, .return_)])]
def ct_Arrays_fill : List (Nat × List Nat) := [(5, [0, 1, 2, 3])]
theorem chk_Arrays_fill : am_chk 195 bl_Arrays_fill ct_Arrays_fill false = true := by decide +kernel
theorem f_Arrays_fill_25_5 {d : Nat} {P : am_M → Prop} {x1 : Int} {x2 : Int} {x3 : Int} {m : am_M}
    (h : (x3 ≤ x2 → (P m)) ∧ (¬ (x3 ≤ x2) → (0 ≤ x2 ∧ x2 < 96 ∧ (am_R (x2 + (1 : Int)) ∧ (am_GV (d + 1) 195 P 5 [(0, .inr (.inr 25)), (1, .inl x1), (2, .inl (x2 + (1 : Int))), (3, .inl x3)] [] (am_wr m 25 x2 x1)))))) :
    am_GV (d + 1) 195 P 5 [(0, .inr (.inr 25)), (1, .inl x1), (2, .inl x2), (3, .inl x3)] [] m := am_c0 chk_Arrays_fill rfl (fun S => h)
theorem f_Arrays_fill_25 {d : Nat} {P : am_M → Prop} {x1 : Int} {m : am_M}
    (h : am_GV (d + 1) 195 P 5 [(0, .inr (.inr 25)), (1, .inl x1), (2, .inl (0 : Int)), (3, .inl (96 : Int))] [] m) :
    am_OkV (d + 1) 195 [.inr (.inr 25), .inl x1] m P := am_e0 chk_Arrays_fill rfl (fun S => h)
theorem f_Arrays_fill_26_5 {d : Nat} {P : am_M → Prop} {x1 : Int} {x2 : Int} {x3 : Int} {m : am_M}
    (h : (x3 ≤ x2 → (P m)) ∧ (¬ (x3 ≤ x2) → (0 ≤ x2 ∧ x2 < 96 ∧ (am_R (x2 + (1 : Int)) ∧ (am_GV (d + 1) 195 P 5 [(0, .inr (.inr 26)), (1, .inl x1), (2, .inl (x2 + (1 : Int))), (3, .inl x3)] [] (am_wr m 26 x2 x1)))))) :
    am_GV (d + 1) 195 P 5 [(0, .inr (.inr 26)), (1, .inl x1), (2, .inl x2), (3, .inl x3)] [] m := am_c0 chk_Arrays_fill rfl (fun S => h)
theorem f_Arrays_fill_26 {d : Nat} {P : am_M → Prop} {x1 : Int} {m : am_M}
    (h : am_GV (d + 1) 195 P 5 [(0, .inr (.inr 26)), (1, .inl x1), (2, .inl (0 : Int)), (3, .inl (96 : Int))] [] m) :
    am_OkV (d + 1) 195 [.inr (.inr 26), .inl x1] m P := am_e0 chk_Arrays_fill rfl (fun S => h)
theorem f_Arrays_fill_44_5 {d : Nat} {P : am_M → Prop} {x1 : Int} {x2 : Int} {x3 : Int} {m : am_M}
    (h : (x3 ≤ x2 → (P m)) ∧ (¬ (x3 ≤ x2) → (0 ≤ x2 ∧ x2 < 96 ∧ (am_R (x2 + (1 : Int)) ∧ (am_GV (d + 1) 195 P 5 [(0, .inr (.inr 44)), (1, .inl x1), (2, .inl (x2 + (1 : Int))), (3, .inl x3)] [] (am_wr m 44 x2 x1)))))) :
    am_GV (d + 1) 195 P 5 [(0, .inr (.inr 44)), (1, .inl x1), (2, .inl x2), (3, .inl x3)] [] m := am_c0 chk_Arrays_fill rfl (fun S => h)
theorem f_Arrays_fill_44 {d : Nat} {P : am_M → Prop} {x1 : Int} {m : am_M}
    (h : am_GV (d + 1) 195 P 5 [(0, .inr (.inr 44)), (1, .inl x1), (2, .inl (0 : Int)), (3, .inl (96 : Int))] [] m) :
    am_OkV (d + 1) 195 [.inr (.inr 44), .inl x1] m P := am_e0 chk_Arrays_fill rfl (fun S => h)
theorem f_Arrays_fill_45_5 {d : Nat} {P : am_M → Prop} {x1 : Int} {x2 : Int} {x3 : Int} {m : am_M}
    (h : (x3 ≤ x2 → (P m)) ∧ (¬ (x3 ≤ x2) → (0 ≤ x2 ∧ x2 < 96 ∧ (am_R (x2 + (1 : Int)) ∧ (am_GV (d + 1) 195 P 5 [(0, .inr (.inr 45)), (1, .inl x1), (2, .inl (x2 + (1 : Int))), (3, .inl x3)] [] (am_wr m 45 x2 x1)))))) :
    am_GV (d + 1) 195 P 5 [(0, .inr (.inr 45)), (1, .inl x1), (2, .inl x2), (3, .inl x3)] [] m := am_c0 chk_Arrays_fill rfl (fun S => h)
theorem f_Arrays_fill_45 {d : Nat} {P : am_M → Prop} {x1 : Int} {m : am_M}
    (h : am_GV (d + 1) 195 P 5 [(0, .inr (.inr 45)), (1, .inl x1), (2, .inl (0 : Int)), (3, .inl (96 : Int))] [] m) :
    am_OkV (d + 1) 195 [.inr (.inr 45), .inl x1] m P := am_e0 chk_Arrays_fill rfl (fun S => h)
theorem f_Arrays_fill_32_5 {d : Nat} {P : am_M → Prop} {x1 : Int} {x2 : Int} {x3 : Int} {m : am_M}
    (h : (x3 ≤ x2 → (P m)) ∧ (¬ (x3 ≤ x2) → (0 ≤ x2 ∧ x2 < 96 ∧ (am_R (x2 + (1 : Int)) ∧ (am_GV (d + 1) 195 P 5 [(0, .inr (.inr 32)), (1, .inl x1), (2, .inl (x2 + (1 : Int))), (3, .inl x3)] [] (am_wr m 32 x2 x1)))))) :
    am_GV (d + 1) 195 P 5 [(0, .inr (.inr 32)), (1, .inl x1), (2, .inl x2), (3, .inl x3)] [] m := am_c0 chk_Arrays_fill rfl (fun S => h)
theorem f_Arrays_fill_32 {d : Nat} {P : am_M → Prop} {x1 : Int} {m : am_M}
    (h : am_GV (d + 1) 195 P 5 [(0, .inr (.inr 32)), (1, .inl x1), (2, .inl (0 : Int)), (3, .inl (96 : Int))] [] m) :
    am_OkV (d + 1) 195 [.inr (.inr 32), .inl x1] m P := am_e0 chk_Arrays_fill rfl (fun S => h)
theorem f_Arrays_fill_31_5 {d : Nat} {P : am_M → Prop} {x1 : Int} {x2 : Int} {x3 : Int} {m : am_M}
    (h : (x3 ≤ x2 → (P m)) ∧ (¬ (x3 ≤ x2) → (0 ≤ x2 ∧ x2 < 48 ∧ (am_R (x2 + (1 : Int)) ∧ (am_GV (d + 1) 195 P 5 [(0, .inr (.inr 31)), (1, .inl x1), (2, .inl (x2 + (1 : Int))), (3, .inl x3)] [] (am_wr m 31 x2 x1)))))) :
    am_GV (d + 1) 195 P 5 [(0, .inr (.inr 31)), (1, .inl x1), (2, .inl x2), (3, .inl x3)] [] m := am_c0 chk_Arrays_fill rfl (fun S => h)
theorem f_Arrays_fill_31 {d : Nat} {P : am_M → Prop} {x1 : Int} {m : am_M}
    (h : am_GV (d + 1) 195 P 5 [(0, .inr (.inr 31)), (1, .inl x1), (2, .inl (0 : Int)), (3, .inl (48 : Int))] [] m) :
    am_OkV (d + 1) 195 [.inr (.inr 31), .inl x1] m P := am_e0 chk_Arrays_fill rfl (fun S => h)
theorem f_Arrays_fill_34_5 {d : Nat} {P : am_M → Prop} {x1 : Int} {x2 : Int} {x3 : Int} {m : am_M}
    (h : (x3 ≤ x2 → (P m)) ∧ (¬ (x3 ≤ x2) → (0 ≤ x2 ∧ x2 < 48 ∧ (am_R (x2 + (1 : Int)) ∧ (am_GV (d + 1) 195 P 5 [(0, .inr (.inr 34)), (1, .inl x1), (2, .inl (x2 + (1 : Int))), (3, .inl x3)] [] (am_wr m 34 x2 x1)))))) :
    am_GV (d + 1) 195 P 5 [(0, .inr (.inr 34)), (1, .inl x1), (2, .inl x2), (3, .inl x3)] [] m := am_c0 chk_Arrays_fill rfl (fun S => h)
theorem f_Arrays_fill_34 {d : Nat} {P : am_M → Prop} {x1 : Int} {m : am_M}
    (h : am_GV (d + 1) 195 P 5 [(0, .inr (.inr 34)), (1, .inl x1), (2, .inl (0 : Int)), (3, .inl (48 : Int))] [] m) :
    am_OkV (d + 1) 195 [.inr (.inr 34), .inl x1] m P := am_e0 chk_Arrays_fill rfl (fun S => h)
