section
-- ===== PART A: goes FIRST, ahead of the names: the tables' words, and 'selects' of the private methods out of them =====
/-- a private method of a class that the tables say can be made, by its rows of tables_1 -/
def lw_okq (q : MethodName × Nat) : Prop := (q.1.cls ≠ "java/lang/invoke/MethodHandle" ∧ q.1.cls ≠ "java/lang/invoke/VarHandle") ∧ Cond.instantiable q.1.cls q.2 ∈ tables_1 ∧ Cond.privateMethod q.1 ∈ tables_1 ∧ Cond.instanceMethod q.1 ∈ tables_1
theorem lw_p0 : lw_okq (⟨"TripleSieve$Tape", "append", "(I)V"⟩, 6) := ⟨⟨by decide +kernel, by decide +kernel⟩, List.mem_of_getElem? (i := 34) (by decide +kernel), List.mem_of_getElem? (i := 398) (by decide +kernel), List.mem_of_getElem? (i := 399) (by decide +kernel)⟩
theorem lw_p1 : lw_okq (⟨"TripleSieve$Reader", "read", "(LTripleSieve$Tape;LTripleSieve$Given;)I"⟩, 1) := ⟨⟨by decide +kernel, by decide +kernel⟩, List.mem_of_getElem? (i := 64) (by decide +kernel), List.mem_of_getElem? (i := 410) (by decide +kernel), List.mem_of_getElem? (i := 411) (by decide +kernel)⟩
theorem lw_p2 : lw_okq (⟨"TripleSieve$Given", "reset", "()V"⟩, 5) := ⟨⟨by decide +kernel, by decide +kernel⟩, List.mem_of_getElem? (i := 74) (by decide +kernel), List.mem_of_getElem? (i := 414) (by decide +kernel), List.mem_of_getElem? (i := 415) (by decide +kernel)⟩
theorem lw_p3 : lw_okq (⟨"TripleSieve$Tape", "rewind", "()V"⟩, 6) := ⟨⟨by decide +kernel, by decide +kernel⟩, List.mem_of_getElem? (i := 34) (by decide +kernel), List.mem_of_getElem? (i := 421) (by decide +kernel), List.mem_of_getElem? (i := 422) (by decide +kernel)⟩
theorem lw_p4 : lw_okq (⟨"TripleSieve$Tape", "step", "()V"⟩, 6) := ⟨⟨by decide +kernel, by decide +kernel⟩, List.mem_of_getElem? (i := 34) (by decide +kernel), List.mem_of_getElem? (i := 425) (by decide +kernel), List.mem_of_getElem? (i := 426) (by decide +kernel)⟩
theorem lw_p5 : lw_okq (⟨"TripleSieve$Tape", "takeWord", "()V"⟩, 6) := ⟨⟨by decide +kernel, by decide +kernel⟩, List.mem_of_getElem? (i := 34) (by decide +kernel), List.mem_of_getElem? (i := 432) (by decide +kernel), List.mem_of_getElem? (i := 433) (by decide +kernel)⟩
theorem lw_p6 : lw_okq (⟨"TripleSieve$Tape", "takeNumber", "()V"⟩, 6) := ⟨⟨by decide +kernel, by decide +kernel⟩, List.mem_of_getElem? (i := 34) (by decide +kernel), List.mem_of_getElem? (i := 439) (by decide +kernel), List.mem_of_getElem? (i := 440) (by decide +kernel)⟩
theorem lw_p7 : lw_okq (⟨"TripleSieve$Reader", "readSetting", "(LTripleSieve$Tape;LTripleSieve$Given;I)V"⟩, 1) := ⟨⟨by decide +kernel, by decide +kernel⟩, List.mem_of_getElem? (i := 64) (by decide +kernel), List.mem_of_getElem? (i := 443) (by decide +kernel), List.mem_of_getElem? (i := 444) (by decide +kernel)⟩
theorem lw_p8 : lw_okq (⟨"TripleSieve$Tape", "isWord", "(Ljava/lang/String;)Z"⟩, 6) := ⟨⟨by decide +kernel, by decide +kernel⟩, List.mem_of_getElem? (i := 34) (by decide +kernel), List.mem_of_getElem? (i := 456) (by decide +kernel), List.mem_of_getElem? (i := 457) (by decide +kernel)⟩
theorem lw_p9 : lw_okq (⟨"TripleSieve$Reader", "takeNumber", "(LTripleSieve$Tape;II)I"⟩, 1) := ⟨⟨by decide +kernel, by decide +kernel⟩, List.mem_of_getElem? (i := 64) (by decide +kernel), List.mem_of_getElem? (i := 513) (by decide +kernel), List.mem_of_getElem? (i := 514) (by decide +kernel)⟩
theorem lw_p10 : lw_okq (⟨"TripleSieve$Reader", "fail", "(LTripleSieve$Tape;I)V"⟩, 1) := ⟨⟨by decide +kernel, by decide +kernel⟩, List.mem_of_getElem? (i := 64) (by decide +kernel), List.mem_of_getElem? (i := 517) (by decide +kernel), List.mem_of_getElem? (i := 518) (by decide +kernel)⟩
theorem lw_p11 : lw_okq (⟨"TripleSieve$Reader", "takeChoice", "(LTripleSieve$Tape;I)I"⟩, 1) := ⟨⟨by decide +kernel, by decide +kernel⟩, List.mem_of_getElem? (i := 64) (by decide +kernel), List.mem_of_getElem? (i := 521) (by decide +kernel), List.mem_of_getElem? (i := 522) (by decide +kernel)⟩
theorem lw_p12 : lw_okq (⟨"TripleSieve$Reader", "passStop", "(LTripleSieve$Tape;)V"⟩, 1) := ⟨⟨by decide +kernel, by decide +kernel⟩, List.mem_of_getElem? (i := 64) (by decide +kernel), List.mem_of_getElem? (i := 534) (by decide +kernel), List.mem_of_getElem? (i := 535) (by decide +kernel)⟩
theorem lw_p13 : lw_okq (⟨"TripleSieve$Given", "resettle", "(II)V"⟩, 5) := ⟨⟨by decide +kernel, by decide +kernel⟩, List.mem_of_getElem? (i := 74) (by decide +kernel), List.mem_of_getElem? (i := 538) (by decide +kernel), List.mem_of_getElem? (i := 539) (by decide +kernel)⟩
theorem lw_p14 : lw_okq (⟨"TripleSieve$Reader", "readKey", "(LTripleSieve$Tape;LTripleSieve$Given;)V"⟩, 1) := ⟨⟨by decide +kernel, by decide +kernel⟩, List.mem_of_getElem? (i := 64) (by decide +kernel), List.mem_of_getElem? (i := 547) (by decide +kernel), List.mem_of_getElem? (i := 548) (by decide +kernel)⟩
theorem lw_p15 : lw_okq (⟨"TripleSieve$Given", "find", "(J)I"⟩, 5) := ⟨⟨by decide +kernel, by decide +kernel⟩, List.mem_of_getElem? (i := 74) (by decide +kernel), List.mem_of_getElem? (i := 552) (by decide +kernel), List.mem_of_getElem? (i := 553) (by decide +kernel)⟩
def lw_privs_1 : List (MethodName × Nat) := [(⟨"TripleSieve$Tape", "append", "(I)V"⟩, 6), (⟨"TripleSieve$Reader", "read", "(LTripleSieve$Tape;LTripleSieve$Given;)I"⟩, 1), (⟨"TripleSieve$Given", "reset", "()V"⟩, 5), (⟨"TripleSieve$Tape", "rewind", "()V"⟩, 6), (⟨"TripleSieve$Tape", "step", "()V"⟩, 6), (⟨"TripleSieve$Tape", "takeWord", "()V"⟩, 6), (⟨"TripleSieve$Tape", "takeNumber", "()V"⟩, 6), (⟨"TripleSieve$Reader", "readSetting", "(LTripleSieve$Tape;LTripleSieve$Given;I)V"⟩, 1), (⟨"TripleSieve$Tape", "isWord", "(Ljava/lang/String;)Z"⟩, 6), (⟨"TripleSieve$Reader", "takeNumber", "(LTripleSieve$Tape;II)I"⟩, 1), (⟨"TripleSieve$Reader", "fail", "(LTripleSieve$Tape;I)V"⟩, 1), (⟨"TripleSieve$Reader", "takeChoice", "(LTripleSieve$Tape;I)I"⟩, 1), (⟨"TripleSieve$Reader", "passStop", "(LTripleSieve$Tape;)V"⟩, 1), (⟨"TripleSieve$Given", "resettle", "(II)V"⟩, 5), (⟨"TripleSieve$Reader", "readKey", "(LTripleSieve$Tape;LTripleSieve$Given;)V"⟩, 1), (⟨"TripleSieve$Given", "find", "(J)I"⟩, 5)]
theorem lw_r1 : ∀ q ∈ lw_privs_1, lw_okq q := List.forall_mem_cons.mpr ⟨lw_p0, List.forall_mem_cons.mpr ⟨lw_p1, List.forall_mem_cons.mpr ⟨lw_p2, List.forall_mem_cons.mpr ⟨lw_p3, List.forall_mem_cons.mpr ⟨lw_p4, List.forall_mem_cons.mpr ⟨lw_p5, List.forall_mem_cons.mpr ⟨lw_p6, List.forall_mem_cons.mpr ⟨lw_p7, List.forall_mem_cons.mpr ⟨lw_p8, List.forall_mem_cons.mpr ⟨lw_p9, List.forall_mem_cons.mpr ⟨lw_p10, List.forall_mem_cons.mpr ⟨lw_p11, List.forall_mem_cons.mpr ⟨lw_p12, List.forall_mem_cons.mpr ⟨lw_p13, List.forall_mem_cons.mpr ⟨lw_p14, List.forall_mem_cons.mpr ⟨lw_p15, fun _ h => absurd h List.not_mem_nil⟩⟩⟩⟩⟩⟩⟩⟩⟩⟩⟩⟩⟩⟩⟩⟩
theorem lw_p16 : lw_okq (⟨"TripleSieve$Reader", "takeValue", "(LTripleSieve$Tape;LTripleSieve$Given;)I"⟩, 1) := ⟨⟨by decide +kernel, by decide +kernel⟩, List.mem_of_getElem? (i := 64) (by decide +kernel), List.mem_of_getElem? (i := 557) (by decide +kernel), List.mem_of_getElem? (i := 558) (by decide +kernel)⟩
theorem lw_p17 : lw_okq (⟨"TripleSieve$Given", "insert", "(IJI)V"⟩, 5) := ⟨⟨by decide +kernel, by decide +kernel⟩, List.mem_of_getElem? (i := 74) (by decide +kernel), List.mem_of_getElem? (i := 562) (by decide +kernel), List.mem_of_getElem? (i := 563) (by decide +kernel)⟩
theorem lw_p18 : lw_okq (⟨"TripleSieve$Given", "copy", "(LTripleSieve$Given;)V"⟩, 5) := ⟨⟨by decide +kernel, by decide +kernel⟩, List.mem_of_getElem? (i := 74) (by decide +kernel), List.mem_of_getElem? (i := 566) (by decide +kernel), List.mem_of_getElem? (i := 567) (by decide +kernel)⟩
theorem lw_p19 : lw_okq (⟨"TripleSieve$Acts", "forget", "()V"⟩, 6) := ⟨⟨by decide +kernel, by decide +kernel⟩, List.mem_of_getElem? (i := 119) (by decide +kernel), List.mem_of_getElem? (i := 570) (by decide +kernel), List.mem_of_getElem? (i := 571) (by decide +kernel)⟩
theorem lw_p20 : lw_okq (⟨"TripleSieve$Given", "has", "(I)Z"⟩, 5) := ⟨⟨by decide +kernel, by decide +kernel⟩, List.mem_of_getElem? (i := 74) (by decide +kernel), List.mem_of_getElem? (i := 578) (by decide +kernel), List.mem_of_getElem? (i := 579) (by decide +kernel)⟩
theorem lw_p21 : lw_okq (⟨"TripleSieve$Given", "canBeValue", "(I)Z"⟩, 5) := ⟨⟨by decide +kernel, by decide +kernel⟩, List.mem_of_getElem? (i := 74) (by decide +kernel), List.mem_of_getElem? (i := 586) (by decide +kernel), List.mem_of_getElem? (i := 587) (by decide +kernel)⟩
theorem lw_p22 : lw_okq (⟨"TripleSieve$Acts", "note", "(IIJI)V"⟩, 6) := ⟨⟨by decide +kernel, by decide +kernel⟩, List.mem_of_getElem? (i := 119) (by decide +kernel), List.mem_of_getElem? (i := 591) (by decide +kernel), List.mem_of_getElem? (i := 592) (by decide +kernel)⟩
theorem lw_p23 : lw_okq (⟨"TripleSieve$Given", "drop", "(I)V"⟩, 5) := ⟨⟨by decide +kernel, by decide +kernel⟩, List.mem_of_getElem? (i := 74) (by decide +kernel), List.mem_of_getElem? (i := 603) (by decide +kernel), List.mem_of_getElem? (i := 604) (by decide +kernel)⟩
theorem lw_p24 : lw_okq (⟨"TripleSieve$Given", "revalue", "(II)V"⟩, 5) := ⟨⟨by decide +kernel, by decide +kernel⟩, List.mem_of_getElem? (i := 74) (by decide +kernel), List.mem_of_getElem? (i := 612) (by decide +kernel), List.mem_of_getElem? (i := 613) (by decide +kernel)⟩
theorem lw_p25 : lw_okq (⟨"TripleSieve$Given", "fitsBits", "(I)Z"⟩, 5) := ⟨⟨by decide +kernel, by decide +kernel⟩, List.mem_of_getElem? (i := 74) (by decide +kernel), List.mem_of_getElem? (i := 621) (by decide +kernel), List.mem_of_getElem? (i := 622) (by decide +kernel)⟩
theorem lw_p26 : lw_okq (⟨"TripleSieve", "lookNow", "(J)V"⟩, 13) := ⟨⟨by decide +kernel, by decide +kernel⟩, List.mem_of_getElem? (i := 26) (by decide +kernel), List.mem_of_getElem? (i := 639) (by decide +kernel), List.mem_of_getElem? (i := 640) (by decide +kernel)⟩
theorem lw_p27 : lw_okq (⟨"TripleSieve$Marks", "aim", "(IIII)V"⟩, 8) := ⟨⟨by decide +kernel, by decide +kernel⟩, List.mem_of_getElem? (i := 145) (by decide +kernel), List.mem_of_getElem? (i := 643) (by decide +kernel), List.mem_of_getElem? (i := 644) (by decide +kernel)⟩
theorem lw_p28 : lw_okq (⟨"TripleSieve$Marks", "look", "(J)V"⟩, 8) := ⟨⟨by decide +kernel, by decide +kernel⟩, List.mem_of_getElem? (i := 145) (by decide +kernel), List.mem_of_getElem? (i := 648) (by decide +kernel), List.mem_of_getElem? (i := 649) (by decide +kernel)⟩
theorem lw_p29 : lw_okq (⟨"TripleSieve$Marks", "placeApart", "(J)V"⟩, 8) := ⟨⟨by decide +kernel, by decide +kernel⟩, List.mem_of_getElem? (i := 145) (by decide +kernel), List.mem_of_getElem? (i := 652) (by decide +kernel), List.mem_of_getElem? (i := 653) (by decide +kernel)⟩
theorem lw_p30 : lw_okq (⟨"TripleSieve$Marks", "placeClose", "(J)V"⟩, 8) := ⟨⟨by decide +kernel, by decide +kernel⟩, List.mem_of_getElem? (i := 145) (by decide +kernel), List.mem_of_getElem? (i := 660) (by decide +kernel), List.mem_of_getElem? (i := 661) (by decide +kernel)⟩
theorem lw_p31 : lw_okq (⟨"TripleSieve$Marks", "placeFree", "(J)V"⟩, 8) := ⟨⟨by decide +kernel, by decide +kernel⟩, List.mem_of_getElem? (i := 145) (by decide +kernel), List.mem_of_getElem? (i := 664) (by decide +kernel), List.mem_of_getElem? (i := 665) (by decide +kernel)⟩
def lw_privs_2 : List (MethodName × Nat) := [(⟨"TripleSieve$Reader", "takeValue", "(LTripleSieve$Tape;LTripleSieve$Given;)I"⟩, 1), (⟨"TripleSieve$Given", "insert", "(IJI)V"⟩, 5), (⟨"TripleSieve$Given", "copy", "(LTripleSieve$Given;)V"⟩, 5), (⟨"TripleSieve$Acts", "forget", "()V"⟩, 6), (⟨"TripleSieve$Given", "has", "(I)Z"⟩, 5), (⟨"TripleSieve$Given", "canBeValue", "(I)Z"⟩, 5), (⟨"TripleSieve$Acts", "note", "(IIJI)V"⟩, 6), (⟨"TripleSieve$Given", "drop", "(I)V"⟩, 5), (⟨"TripleSieve$Given", "revalue", "(II)V"⟩, 5), (⟨"TripleSieve$Given", "fitsBits", "(I)Z"⟩, 5), (⟨"TripleSieve", "lookNow", "(J)V"⟩, 13), (⟨"TripleSieve$Marks", "aim", "(IIII)V"⟩, 8), (⟨"TripleSieve$Marks", "look", "(J)V"⟩, 8), (⟨"TripleSieve$Marks", "placeApart", "(J)V"⟩, 8), (⟨"TripleSieve$Marks", "placeClose", "(J)V"⟩, 8), (⟨"TripleSieve$Marks", "placeFree", "(J)V"⟩, 8)]
theorem lw_r2 : ∀ q ∈ lw_privs_2, lw_okq q := List.forall_mem_cons.mpr ⟨lw_p16, List.forall_mem_cons.mpr ⟨lw_p17, List.forall_mem_cons.mpr ⟨lw_p18, List.forall_mem_cons.mpr ⟨lw_p19, List.forall_mem_cons.mpr ⟨lw_p20, List.forall_mem_cons.mpr ⟨lw_p21, List.forall_mem_cons.mpr ⟨lw_p22, List.forall_mem_cons.mpr ⟨lw_p23, List.forall_mem_cons.mpr ⟨lw_p24, List.forall_mem_cons.mpr ⟨lw_p25, List.forall_mem_cons.mpr ⟨lw_p26, List.forall_mem_cons.mpr ⟨lw_p27, List.forall_mem_cons.mpr ⟨lw_p28, List.forall_mem_cons.mpr ⟨lw_p29, List.forall_mem_cons.mpr ⟨lw_p30, List.forall_mem_cons.mpr ⟨lw_p31, fun _ h => absurd h List.not_mem_nil⟩⟩⟩⟩⟩⟩⟩⟩⟩⟩⟩⟩⟩⟩⟩⟩
theorem lw_p32 : lw_okq (⟨"TripleSieve$Marks", "gatherTouched", "()V"⟩, 8) := ⟨⟨by decide +kernel, by decide +kernel⟩, List.mem_of_getElem? (i := 145) (by decide +kernel), List.mem_of_getElem? (i := 668) (by decide +kernel), List.mem_of_getElem? (i := 669) (by decide +kernel)⟩
theorem lw_p33 : lw_okq (⟨"TripleSieve$Marks", "touchOnly", "(I)V"⟩, 8) := ⟨⟨by decide +kernel, by decide +kernel⟩, List.mem_of_getElem? (i := 145) (by decide +kernel), List.mem_of_getElem? (i := 672) (by decide +kernel), List.mem_of_getElem? (i := 673) (by decide +kernel)⟩
theorem lw_p34 : lw_okq (⟨"TripleSieve", "layNow", "()V"⟩, 13) := ⟨⟨by decide +kernel, by decide +kernel⟩, List.mem_of_getElem? (i := 26) (by decide +kernel), List.mem_of_getElem? (i := 688) (by decide +kernel), List.mem_of_getElem? (i := 689) (by decide +kernel)⟩
theorem lw_p35 : lw_okq (⟨"TripleSieve$Row", "lay", "(LTripleSieve$Given;LTripleSieve$Marks;II)V"⟩, 9) := ⟨⟨by decide +kernel, by decide +kernel⟩, List.mem_of_getElem? (i := 182) (by decide +kernel), List.mem_of_getElem? (i := 692) (by decide +kernel), List.mem_of_getElem? (i := 693) (by decide +kernel)⟩
theorem lw_p36 : lw_okq (⟨"TripleSieve$Row", "putBack", "(I)V"⟩, 9) := ⟨⟨by decide +kernel, by decide +kernel⟩, List.mem_of_getElem? (i := 182) (by decide +kernel), List.mem_of_getElem? (i := 701) (by decide +kernel), List.mem_of_getElem? (i := 702) (by decide +kernel)⟩
theorem lw_p37 : lw_okq (⟨"TripleSieve$Row", "touchSame", "(II)Z"⟩, 9) := ⟨⟨by decide +kernel, by decide +kernel⟩, List.mem_of_getElem? (i := 182) (by decide +kernel), List.mem_of_getElem? (i := 709) (by decide +kernel), List.mem_of_getElem? (i := 710) (by decide +kernel)⟩
theorem lw_p38 : lw_okq (⟨"TripleSieve", "peelNow", "()V"⟩, 13) := ⟨⟨by decide +kernel, by decide +kernel⟩, List.mem_of_getElem? (i := 26) (by decide +kernel), List.mem_of_getElem? (i := 717) (by decide +kernel), List.mem_of_getElem? (i := 718) (by decide +kernel)⟩
theorem lw_p39 : lw_okq (⟨"TripleSieve$Peeling", "run", "(LTripleSieve$Row;I)V"⟩, 8) := ⟨⟨by decide +kernel, by decide +kernel⟩, List.mem_of_getElem? (i := 238) (by decide +kernel), List.mem_of_getElem? (i := 721) (by decide +kernel), List.mem_of_getElem? (i := 722) (by decide +kernel)⟩
theorem lw_p40 : lw_okq (⟨"TripleSieve$Peeling", "runLeast", "(LTripleSieve$Row;)V"⟩, 8) := ⟨⟨by decide +kernel, by decide +kernel⟩, List.mem_of_getElem? (i := 238) (by decide +kernel), List.mem_of_getElem? (i := 725) (by decide +kernel), List.mem_of_getElem? (i := 726) (by decide +kernel)⟩
theorem lw_p41 : lw_okq (⟨"TripleSieve$Row", "isAlone", "(I)Z"⟩, 9) := ⟨⟨by decide +kernel, by decide +kernel⟩, List.mem_of_getElem? (i := 182) (by decide +kernel), List.mem_of_getElem? (i := 729) (by decide +kernel), List.mem_of_getElem? (i := 730) (by decide +kernel)⟩
theorem lw_p42 : lw_okq (⟨"TripleSieve$Peeling", "goOut", "(LTripleSieve$Row;I)I"⟩, 8) := ⟨⟨by decide +kernel, by decide +kernel⟩, List.mem_of_getElem? (i := 238) (by decide +kernel), List.mem_of_getElem? (i := 733) (by decide +kernel), List.mem_of_getElem? (i := 734) (by decide +kernel)⟩
theorem lw_p43 : lw_okq (⟨"TripleSieve$Row", "takeOff", "(I)V"⟩, 9) := ⟨⟨by decide +kernel, by decide +kernel⟩, List.mem_of_getElem? (i := 182) (by decide +kernel), List.mem_of_getElem? (i := 737) (by decide +kernel), List.mem_of_getElem? (i := 738) (by decide +kernel)⟩
theorem lw_p44 : lw_okq (⟨"TripleSieve$Peeling", "runLine", "(LTripleSieve$Row;Z)V"⟩, 8) := ⟨⟨by decide +kernel, by decide +kernel⟩, List.mem_of_getElem? (i := 238) (by decide +kernel), List.mem_of_getElem? (i := 741) (by decide +kernel), List.mem_of_getElem? (i := 742) (by decide +kernel)⟩
theorem lw_p45 : lw_okq (⟨"TripleSieve$Peeling", "lineUp", "(LTripleSieve$Row;I)V"⟩, 8) := ⟨⟨by decide +kernel, by decide +kernel⟩, List.mem_of_getElem? (i := 238) (by decide +kernel), List.mem_of_getElem? (i := 745) (by decide +kernel), List.mem_of_getElem? (i := 746) (by decide +kernel)⟩
theorem lw_p46 : lw_okq (⟨"TripleSieve$Peeling", "leaveLine", "(Z)I"⟩, 8) := ⟨⟨by decide +kernel, by decide +kernel⟩, List.mem_of_getElem? (i := 238) (by decide +kernel), List.mem_of_getElem? (i := 749) (by decide +kernel), List.mem_of_getElem? (i := 750) (by decide +kernel)⟩
theorem lw_p47 : lw_okq (⟨"TripleSieve$Row", "leftAt", "(I)I"⟩, 9) := ⟨⟨by decide +kernel, by decide +kernel⟩, List.mem_of_getElem? (i := 182) (by decide +kernel), List.mem_of_getElem? (i := 757) (by decide +kernel), List.mem_of_getElem? (i := 758) (by decide +kernel)⟩
def lw_privs_3 : List (MethodName × Nat) := [(⟨"TripleSieve$Marks", "gatherTouched", "()V"⟩, 8), (⟨"TripleSieve$Marks", "touchOnly", "(I)V"⟩, 8), (⟨"TripleSieve", "layNow", "()V"⟩, 13), (⟨"TripleSieve$Row", "lay", "(LTripleSieve$Given;LTripleSieve$Marks;II)V"⟩, 9), (⟨"TripleSieve$Row", "putBack", "(I)V"⟩, 9), (⟨"TripleSieve$Row", "touchSame", "(II)Z"⟩, 9), (⟨"TripleSieve", "peelNow", "()V"⟩, 13), (⟨"TripleSieve$Peeling", "run", "(LTripleSieve$Row;I)V"⟩, 8), (⟨"TripleSieve$Peeling", "runLeast", "(LTripleSieve$Row;)V"⟩, 8), (⟨"TripleSieve$Row", "isAlone", "(I)Z"⟩, 9), (⟨"TripleSieve$Peeling", "goOut", "(LTripleSieve$Row;I)I"⟩, 8), (⟨"TripleSieve$Row", "takeOff", "(I)V"⟩, 9), (⟨"TripleSieve$Peeling", "runLine", "(LTripleSieve$Row;Z)V"⟩, 8), (⟨"TripleSieve$Peeling", "lineUp", "(LTripleSieve$Row;I)V"⟩, 8), (⟨"TripleSieve$Peeling", "leaveLine", "(Z)I"⟩, 8), (⟨"TripleSieve$Row", "leftAt", "(I)I"⟩, 9)]
theorem lw_r3 : ∀ q ∈ lw_privs_3, lw_okq q := List.forall_mem_cons.mpr ⟨lw_p32, List.forall_mem_cons.mpr ⟨lw_p33, List.forall_mem_cons.mpr ⟨lw_p34, List.forall_mem_cons.mpr ⟨lw_p35, List.forall_mem_cons.mpr ⟨lw_p36, List.forall_mem_cons.mpr ⟨lw_p37, List.forall_mem_cons.mpr ⟨lw_p38, List.forall_mem_cons.mpr ⟨lw_p39, List.forall_mem_cons.mpr ⟨lw_p40, List.forall_mem_cons.mpr ⟨lw_p41, List.forall_mem_cons.mpr ⟨lw_p42, List.forall_mem_cons.mpr ⟨lw_p43, List.forall_mem_cons.mpr ⟨lw_p44, List.forall_mem_cons.mpr ⟨lw_p45, List.forall_mem_cons.mpr ⟨lw_p46, List.forall_mem_cons.mpr ⟨lw_p47, fun _ h => absurd h List.not_mem_nil⟩⟩⟩⟩⟩⟩⟩⟩⟩⟩⟩⟩⟩⟩⟩⟩
theorem lw_p48 : lw_okq (⟨"TripleSieve$Rounds", "run", "(LTripleSieve$Row;)I"⟩, 1) := ⟨⟨by decide +kernel, by decide +kernel⟩, List.mem_of_getElem? (i := 272) (by decide +kernel), List.mem_of_getElem? (i := 765) (by decide +kernel), List.mem_of_getElem? (i := 766) (by decide +kernel)⟩
theorem lw_p49 : lw_okq (⟨"TripleSieve$Rounds", "mark", "(LTripleSieve$Row;I)Z"⟩, 1) := ⟨⟨by decide +kernel, by decide +kernel⟩, List.mem_of_getElem? (i := 272) (by decide +kernel), List.mem_of_getElem? (i := 770) (by decide +kernel), List.mem_of_getElem? (i := 771) (by decide +kernel)⟩
theorem lw_p50 : lw_okq (⟨"TripleSieve$Rounds", "takeMarked", "(LTripleSieve$Row;I)V"⟩, 1) := ⟨⟨by decide +kernel, by decide +kernel⟩, List.mem_of_getElem? (i := 272) (by decide +kernel), List.mem_of_getElem? (i := 775) (by decide +kernel), List.mem_of_getElem? (i := 776) (by decide +kernel)⟩
theorem lw_p51 : lw_okq (⟨"TripleSieve$Basis", "independent", "(LTripleSieve$Row;)I"⟩, 3) := ⟨⟨by decide +kernel, by decide +kernel⟩, List.mem_of_getElem? (i := 283) (by decide +kernel), List.mem_of_getElem? (i := 784) (by decide +kernel), List.mem_of_getElem? (i := 785) (by decide +kernel)⟩
theorem lw_p52 : lw_okq (⟨"TripleSieve$Basis", "join", "(JJ)V"⟩, 3) := ⟨⟨by decide +kernel, by decide +kernel⟩, List.mem_of_getElem? (i := 283) (by decide +kernel), List.mem_of_getElem? (i := 788) (by decide +kernel), List.mem_of_getElem? (i := 789) (by decide +kernel)⟩
theorem lw_p53 : lw_okq (⟨"TripleSieve$Mender", "search", "(LTripleSieve$Row;)V"⟩, 7) := ⟨⟨by decide +kernel, by decide +kernel⟩, List.mem_of_getElem? (i := 299) (by decide +kernel), List.mem_of_getElem? (i := 796) (by decide +kernel), List.mem_of_getElem? (i := 797) (by decide +kernel)⟩
theorem lw_p54 : lw_okq (⟨"TripleSieve$Mender", "choose", "(LTripleSieve$Row;III)Z"⟩, 7) := ⟨⟨by decide +kernel, by decide +kernel⟩, List.mem_of_getElem? (i := 299) (by decide +kernel), List.mem_of_getElem? (i := 800) (by decide +kernel), List.mem_of_getElem? (i := 801) (by decide +kernel)⟩
theorem lw_p55 : lw_okq (⟨"TripleSieve$Row", "countTouched", "()I"⟩, 9) := ⟨⟨by decide +kernel, by decide +kernel⟩, List.mem_of_getElem? (i := 182) (by decide +kernel), List.mem_of_getElem? (i := 804) (by decide +kernel), List.mem_of_getElem? (i := 805) (by decide +kernel)⟩
theorem lw_p56 : lw_okq (⟨"TripleSieve$Mender", "leaveOut", "(LTripleSieve$Row;I)V"⟩, 7) := ⟨⟨by decide +kernel, by decide +kernel⟩, List.mem_of_getElem? (i := 299) (by decide +kernel), List.mem_of_getElem? (i := 808) (by decide +kernel), List.mem_of_getElem? (i := 809) (by decide +kernel)⟩
theorem lw_p57 : lw_okq (⟨"TripleSieve$Mender", "take", "(LTripleSieve$Row;I)V"⟩, 7) := ⟨⟨by decide +kernel, by decide +kernel⟩, List.mem_of_getElem? (i := 299) (by decide +kernel), List.mem_of_getElem? (i := 812) (by decide +kernel), List.mem_of_getElem? (i := 813) (by decide +kernel)⟩
theorem lw_p58 : lw_okq (⟨"TripleSieve$Mender", "bringBack", "(LTripleSieve$Row;I)V"⟩, 7) := ⟨⟨by decide +kernel, by decide +kernel⟩, List.mem_of_getElem? (i := 299) (by decide +kernel), List.mem_of_getElem? (i := 818) (by decide +kernel), List.mem_of_getElem? (i := 819) (by decide +kernel)⟩
theorem lw_p59 : lw_okq (⟨"TripleSieve", "allPeel", "(II)Z"⟩, 13) := ⟨⟨by decide +kernel, by decide +kernel⟩, List.mem_of_getElem? (i := 26) (by decide +kernel), List.mem_of_getElem? (i := 827) (by decide +kernel), List.mem_of_getElem? (i := 828) (by decide +kernel)⟩
theorem lw_p60 : lw_okq (⟨"TripleSieve$Peeling", "countWoken", "(LTripleSieve$Row;I)I"⟩, 8) := ⟨⟨by decide +kernel, by decide +kernel⟩, List.mem_of_getElem? (i := 238) (by decide +kernel), List.mem_of_getElem? (i := 839) (by decide +kernel), List.mem_of_getElem? (i := 840) (by decide +kernel)⟩
theorem lw_p61 : lw_okq (⟨"TripleSieve$Peeling", "fillBack", "(LTripleSieve$Row;[I[I)V"⟩, 8) := ⟨⟨by decide +kernel, by decide +kernel⟩, List.mem_of_getElem? (i := 238) (by decide +kernel), List.mem_of_getElem? (i := 844) (by decide +kernel), List.mem_of_getElem? (i := 845) (by decide +kernel)⟩
theorem lw_p62 : lw_okq (⟨"TripleSieve$Sieve", "describe", "(LTripleSieve$Given;II)V"⟩, 4) := ⟨⟨by decide +kernel, by decide +kernel⟩, List.mem_of_getElem? (i := 330) (by decide +kernel), List.mem_of_getElem? (i := 852) (by decide +kernel), List.mem_of_getElem? (i := 853) (by decide +kernel)⟩
theorem lw_p63 : lw_okq (⟨"TripleSieve$Sieve", "countBits", "()I"⟩, 4) := ⟨⟨by decide +kernel, by decide +kernel⟩, List.mem_of_getElem? (i := 330) (by decide +kernel), List.mem_of_getElem? (i := 861) (by decide +kernel), List.mem_of_getElem? (i := 862) (by decide +kernel)⟩
def lw_privs_4 : List (MethodName × Nat) := [(⟨"TripleSieve$Rounds", "run", "(LTripleSieve$Row;)I"⟩, 1), (⟨"TripleSieve$Rounds", "mark", "(LTripleSieve$Row;I)Z"⟩, 1), (⟨"TripleSieve$Rounds", "takeMarked", "(LTripleSieve$Row;I)V"⟩, 1), (⟨"TripleSieve$Basis", "independent", "(LTripleSieve$Row;)I"⟩, 3), (⟨"TripleSieve$Basis", "join", "(JJ)V"⟩, 3), (⟨"TripleSieve$Mender", "search", "(LTripleSieve$Row;)V"⟩, 7), (⟨"TripleSieve$Mender", "choose", "(LTripleSieve$Row;III)Z"⟩, 7), (⟨"TripleSieve$Row", "countTouched", "()I"⟩, 9), (⟨"TripleSieve$Mender", "leaveOut", "(LTripleSieve$Row;I)V"⟩, 7), (⟨"TripleSieve$Mender", "take", "(LTripleSieve$Row;I)V"⟩, 7), (⟨"TripleSieve$Mender", "bringBack", "(LTripleSieve$Row;I)V"⟩, 7), (⟨"TripleSieve", "allPeel", "(II)Z"⟩, 13), (⟨"TripleSieve$Peeling", "countWoken", "(LTripleSieve$Row;I)I"⟩, 8), (⟨"TripleSieve$Peeling", "fillBack", "(LTripleSieve$Row;[I[I)V"⟩, 8), (⟨"TripleSieve$Sieve", "describe", "(LTripleSieve$Given;II)V"⟩, 4), (⟨"TripleSieve$Sieve", "countBits", "()I"⟩, 4)]
theorem lw_r4 : ∀ q ∈ lw_privs_4, lw_okq q := List.forall_mem_cons.mpr ⟨lw_p48, List.forall_mem_cons.mpr ⟨lw_p49, List.forall_mem_cons.mpr ⟨lw_p50, List.forall_mem_cons.mpr ⟨lw_p51, List.forall_mem_cons.mpr ⟨lw_p52, List.forall_mem_cons.mpr ⟨lw_p53, List.forall_mem_cons.mpr ⟨lw_p54, List.forall_mem_cons.mpr ⟨lw_p55, List.forall_mem_cons.mpr ⟨lw_p56, List.forall_mem_cons.mpr ⟨lw_p57, List.forall_mem_cons.mpr ⟨lw_p58, List.forall_mem_cons.mpr ⟨lw_p59, List.forall_mem_cons.mpr ⟨lw_p60, List.forall_mem_cons.mpr ⟨lw_p61, List.forall_mem_cons.mpr ⟨lw_p62, List.forall_mem_cons.mpr ⟨lw_p63, fun _ h => absurd h List.not_mem_nil⟩⟩⟩⟩⟩⟩⟩⟩⟩⟩⟩⟩⟩⟩⟩⟩
theorem lw_p64 : lw_okq (⟨"TripleSieve$Sieve", "length", "()I"⟩, 4) := ⟨⟨by decide +kernel, by decide +kernel⟩, List.mem_of_getElem? (i := 330) (by decide +kernel), List.mem_of_getElem? (i := 865) (by decide +kernel), List.mem_of_getElem? (i := 866) (by decide +kernel)⟩
theorem lw_p65 : lw_okq (⟨"TripleSieve$Sieve", "aim", "(LTripleSieve$Marks;)V"⟩, 4) := ⟨⟨by decide +kernel, by decide +kernel⟩, List.mem_of_getElem? (i := 330) (by decide +kernel), List.mem_of_getElem? (i := 878) (by decide +kernel), List.mem_of_getElem? (i := 879) (by decide +kernel)⟩
theorem lw_p66 : lw_okq (⟨"TripleSieve$Sieve", "letsThrough", "(LTripleSieve$Marks;)Z"⟩, 4) := ⟨⟨by decide +kernel, by decide +kernel⟩, List.mem_of_getElem? (i := 330) (by decide +kernel), List.mem_of_getElem? (i := 883) (by decide +kernel), List.mem_of_getElem? (i := 884) (by decide +kernel)⟩
theorem lw_p67 : lw_okq (⟨"TripleSieve$Marks", "sum", "([I)I"⟩, 8) := ⟨⟨by decide +kernel, by decide +kernel⟩, List.mem_of_getElem? (i := 145) (by decide +kernel), List.mem_of_getElem? (i := 887) (by decide +kernel), List.mem_of_getElem? (i := 888) (by decide +kernel)⟩
theorem lw_p68 : lw_okq (⟨"TripleSieve$Sieve", "copy", "(LTripleSieve$Sieve;)V"⟩, 4) := ⟨⟨by decide +kernel, by decide +kernel⟩, List.mem_of_getElem? (i := 330) (by decide +kernel), List.mem_of_getElem? (i := 908) (by decide +kernel), List.mem_of_getElem? (i := 909) (by decide +kernel)⟩
theorem lw_p69 : lw_okq (⟨"TripleSieve$Sieve", "countUnlike", "(LTripleSieve$Sieve;)I"⟩, 4) := ⟨⟨by decide +kernel, by decide +kernel⟩, List.mem_of_getElem? (i := 330) (by decide +kernel), List.mem_of_getElem? (i := 917) (by decide +kernel), List.mem_of_getElem? (i := 918) (by decide +kernel)⟩
theorem lw_p70 : lw_okq (⟨"TripleSieve$Acts", "undoLatest", "(LTripleSieve$Given;)V"⟩, 6) := ⟨⟨by decide +kernel, by decide +kernel⟩, List.mem_of_getElem? (i := 119) (by decide +kernel), List.mem_of_getElem? (i := 925) (by decide +kernel), List.mem_of_getElem? (i := 926) (by decide +kernel)⟩
theorem lw_p71 : lw_okq (⟨"java/lang/Throwable", "fillInStackTrace", "(I)Ljava/lang/Throwable;"⟩, 6) := ⟨⟨by decide +kernel, by decide +kernel⟩, List.mem_of_getElem? (i := 982) (by decide +kernel), List.mem_of_getElem? (i := 980) (by decide +kernel), List.mem_of_getElem? (i := 981) (by decide +kernel)⟩
theorem lw_p72 : lw_okq (⟨"TripleSieveModel", "lays", "(I)V"⟩, 49) := ⟨⟨by decide +kernel, by decide +kernel⟩, List.mem_of_getElem? (i := 1017) (by decide +kernel), List.mem_of_getElem? (i := 1015) (by decide +kernel), List.mem_of_getElem? (i := 1016) (by decide +kernel)⟩
theorem lw_p73 : lw_okq (⟨"TripleSieveModel", "go", "()V"⟩, 49) := ⟨⟨by decide +kernel, by decide +kernel⟩, List.mem_of_getElem? (i := 1017) (by decide +kernel), List.mem_of_getElem? (i := 1184) (by decide +kernel), List.mem_of_getElem? (i := 1185) (by decide +kernel)⟩
theorem lw_p74 : lw_okq (⟨"TripleSieveModel", "tapeAt", "(I)I"⟩, 49) := ⟨⟨by decide +kernel, by decide +kernel⟩, List.mem_of_getElem? (i := 1017) (by decide +kernel), List.mem_of_getElem? (i := 1191) (by decide +kernel), List.mem_of_getElem? (i := 1192) (by decide +kernel)⟩
theorem lw_p75 : lw_okq (⟨"TripleSieveModel", "readWhole", "()Z"⟩, 49) := ⟨⟨by decide +kernel, by decide +kernel⟩, List.mem_of_getElem? (i := 1017) (by decide +kernel), List.mem_of_getElem? (i := 1200) (by decide +kernel), List.mem_of_getElem? (i := 1201) (by decide +kernel)⟩
theorem lw_p76 : lw_okq (⟨"TripleSieveModel", "isWord", "(J)Z"⟩, 49) := ⟨⟨by decide +kernel, by decide +kernel⟩, List.mem_of_getElem? (i := 1017) (by decide +kernel), List.mem_of_getElem? (i := 1219) (by decide +kernel), List.mem_of_getElem? (i := 1220) (by decide +kernel)⟩
theorem lw_p77 : lw_okq (⟨"TripleSieveModel", "readSetting", "(I)Z"⟩, 49) := ⟨⟨by decide +kernel, by decide +kernel⟩, List.mem_of_getElem? (i := 1017) (by decide +kernel), List.mem_of_getElem? (i := 1223) (by decide +kernel), List.mem_of_getElem? (i := 1224) (by decide +kernel)⟩
theorem lw_p78 : lw_okq (⟨"TripleSieveModel", "wayHere", "()I"⟩, 49) := ⟨⟨by decide +kernel, by decide +kernel⟩, List.mem_of_getElem? (i := 1017) (by decide +kernel), List.mem_of_getElem? (i := 1227) (by decide +kernel), List.mem_of_getElem? (i := 1228) (by decide +kernel)⟩
theorem lw_p79 : lw_okq (⟨"TripleSieveModel", "spreadHere", "()I"⟩, 49) := ⟨⟨by decide +kernel, by decide +kernel⟩, List.mem_of_getElem? (i := 1017) (by decide +kernel), List.mem_of_getElem? (i := 1231) (by decide +kernel), List.mem_of_getElem? (i := 1232) (by decide +kernel)⟩
def lw_privs_5 : List (MethodName × Nat) := [(⟨"TripleSieve$Sieve", "length", "()I"⟩, 4), (⟨"TripleSieve$Sieve", "aim", "(LTripleSieve$Marks;)V"⟩, 4), (⟨"TripleSieve$Sieve", "letsThrough", "(LTripleSieve$Marks;)Z"⟩, 4), (⟨"TripleSieve$Marks", "sum", "([I)I"⟩, 8), (⟨"TripleSieve$Sieve", "copy", "(LTripleSieve$Sieve;)V"⟩, 4), (⟨"TripleSieve$Sieve", "countUnlike", "(LTripleSieve$Sieve;)I"⟩, 4), (⟨"TripleSieve$Acts", "undoLatest", "(LTripleSieve$Given;)V"⟩, 6), (⟨"java/lang/Throwable", "fillInStackTrace", "(I)Ljava/lang/Throwable;"⟩, 6), (⟨"TripleSieveModel", "lays", "(I)V"⟩, 49), (⟨"TripleSieveModel", "go", "()V"⟩, 49), (⟨"TripleSieveModel", "tapeAt", "(I)I"⟩, 49), (⟨"TripleSieveModel", "readWhole", "()Z"⟩, 49), (⟨"TripleSieveModel", "isWord", "(J)Z"⟩, 49), (⟨"TripleSieveModel", "readSetting", "(I)Z"⟩, 49), (⟨"TripleSieveModel", "wayHere", "()I"⟩, 49), (⟨"TripleSieveModel", "spreadHere", "()I"⟩, 49)]
theorem lw_r5 : ∀ q ∈ lw_privs_5, lw_okq q := List.forall_mem_cons.mpr ⟨lw_p64, List.forall_mem_cons.mpr ⟨lw_p65, List.forall_mem_cons.mpr ⟨lw_p66, List.forall_mem_cons.mpr ⟨lw_p67, List.forall_mem_cons.mpr ⟨lw_p68, List.forall_mem_cons.mpr ⟨lw_p69, List.forall_mem_cons.mpr ⟨lw_p70, List.forall_mem_cons.mpr ⟨lw_p71, List.forall_mem_cons.mpr ⟨lw_p72, List.forall_mem_cons.mpr ⟨lw_p73, List.forall_mem_cons.mpr ⟨lw_p74, List.forall_mem_cons.mpr ⟨lw_p75, List.forall_mem_cons.mpr ⟨lw_p76, List.forall_mem_cons.mpr ⟨lw_p77, List.forall_mem_cons.mpr ⟨lw_p78, List.forall_mem_cons.mpr ⟨lw_p79, fun _ h => absurd h List.not_mem_nil⟩⟩⟩⟩⟩⟩⟩⟩⟩⟩⟩⟩⟩⟩⟩⟩
theorem lw_p80 : lw_okq (⟨"TripleSieveModel", "bad", "(I)Z"⟩, 49) := ⟨⟨by decide +kernel, by decide +kernel⟩, List.mem_of_getElem? (i := 1017) (by decide +kernel), List.mem_of_getElem? (i := 1236) (by decide +kernel), List.mem_of_getElem? (i := 1237) (by decide +kernel)⟩
theorem lw_p81 : lw_okq (⟨"TripleSieveModel", "readEnd", "()Z"⟩, 49) := ⟨⟨by decide +kernel, by decide +kernel⟩, List.mem_of_getElem? (i := 1017) (by decide +kernel), List.mem_of_getElem? (i := 1250) (by decide +kernel), List.mem_of_getElem? (i := 1251) (by decide +kernel)⟩
theorem lw_p82 : lw_okq (⟨"TripleSieveModel", "readKey", "()Z"⟩, 49) := ⟨⟨by decide +kernel, by decide +kernel⟩, List.mem_of_getElem? (i := 1017) (by decide +kernel), List.mem_of_getElem? (i := 1254) (by decide +kernel), List.mem_of_getElem? (i := 1255) (by decide +kernel)⟩
theorem lw_p83 : lw_okq (⟨"TripleSieveModel", "isKey", "(I)Z"⟩, 49) := ⟨⟨by decide +kernel, by decide +kernel⟩, List.mem_of_getElem? (i := 1017) (by decide +kernel), List.mem_of_getElem? (i := 1267) (by decide +kernel), List.mem_of_getElem? (i := 1268) (by decide +kernel)⟩
theorem lw_p84 : lw_okq (⟨"TripleSieveModel", "refuse", "()J"⟩, 49) := ⟨⟨by decide +kernel, by decide +kernel⟩, List.mem_of_getElem? (i := 1017) (by decide +kernel), List.mem_of_getElem? (i := 1271) (by decide +kernel), List.mem_of_getElem? (i := 1272) (by decide +kernel)⟩
theorem lw_p85 : lw_okq (⟨"TripleSieveModel", "isValue", "(I)Z"⟩, 49) := ⟨⟨by decide +kernel, by decide +kernel⟩, List.mem_of_getElem? (i := 1017) (by decide +kernel), List.mem_of_getElem? (i := 1283) (by decide +kernel), List.mem_of_getElem? (i := 1284) (by decide +kernel)⟩
theorem lw_p86 : lw_okq (⟨"TripleSieveModel", "indexOf", "(J)I"⟩, 49) := ⟨⟨by decide +kernel, by decide +kernel⟩, List.mem_of_getElem? (i := 1017) (by decide +kernel), List.mem_of_getElem? (i := 1287) (by decide +kernel), List.mem_of_getElem? (i := 1288) (by decide +kernel)⟩
theorem lw_p87 : lw_okq (⟨"TripleSieveModel", "snap", "()V"⟩, 49) := ⟨⟨by decide +kernel, by decide +kernel⟩, List.mem_of_getElem? (i := 1017) (by decide +kernel), List.mem_of_getElem? (i := 1291) (by decide +kernel), List.mem_of_getElem? (i := 1292) (by decide +kernel)⟩
theorem lw_p88 : lw_okq (⟨"TripleSieveModel", "lays3", "(JII)V"⟩, 49) := ⟨⟨by decide +kernel, by decide +kernel⟩, List.mem_of_getElem? (i := 1017) (by decide +kernel), List.mem_of_getElem? (i := 1323) (by decide +kernel), List.mem_of_getElem? (i := 1324) (by decide +kernel)⟩
theorem lw_p89 : lw_okq (⟨"TripleSieveModel", "netNow", "()V"⟩, 49) := ⟨⟨by decide +kernel, by decide +kernel⟩, List.mem_of_getElem? (i := 1017) (by decide +kernel), List.mem_of_getElem? (i := 1343) (by decide +kernel), List.mem_of_getElem? (i := 1344) (by decide +kernel)⟩
theorem lw_p90 : lw_okq (⟨"TripleSieveModel", "nets", "(IJI)V"⟩, 49) := ⟨⟨by decide +kernel, by decide +kernel⟩, List.mem_of_getElem? (i := 1017) (by decide +kernel), List.mem_of_getElem? (i := 1347) (by decide +kernel), List.mem_of_getElem? (i := 1348) (by decide +kernel)⟩
theorem lw_p91 : lw_okq (⟨"TripleSieveModel", "touchesBy", "(I)Z"⟩, 49) := ⟨⟨by decide +kernel, by decide +kernel⟩, List.mem_of_getElem? (i := 1017) (by decide +kernel), List.mem_of_getElem? (i := 1351) (by decide +kernel), List.mem_of_getElem? (i := 1352) (by decide +kernel)⟩
theorem lw_p92 : lw_okq (⟨"TripleSieveModel", "areTwins", "(II)Z"⟩, 49) := ⟨⟨by decide +kernel, by decide +kernel⟩, List.mem_of_getElem? (i := 1017) (by decide +kernel), List.mem_of_getElem? (i := 1359) (by decide +kernel), List.mem_of_getElem? (i := 1360) (by decide +kernel)⟩
theorem lw_p93 : lw_okq (⟨"TripleSieveModel", "isOf", "(II)Z"⟩, 49) := ⟨⟨by decide +kernel, by decide +kernel⟩, List.mem_of_getElem? (i := 1017) (by decide +kernel), List.mem_of_getElem? (i := 1363) (by decide +kernel), List.mem_of_getElem? (i := 1364) (by decide +kernel)⟩
theorem lw_p94 : lw_okq (⟨"TripleSieveModel", "peelNow", "()V"⟩, 49) := ⟨⟨by decide +kernel, by decide +kernel⟩, List.mem_of_getElem? (i := 1017) (by decide +kernel), List.mem_of_getElem? (i := 1371) (by decide +kernel), List.mem_of_getElem? (i := 1372) (by decide +kernel)⟩
theorem lw_p95 : lw_okq (⟨"TripleSieveModel", "peelsBy", "(II)V"⟩, 49) := ⟨⟨by decide +kernel, by decide +kernel⟩, List.mem_of_getElem? (i := 1017) (by decide +kernel), List.mem_of_getElem? (i := 1375) (by decide +kernel), List.mem_of_getElem? (i := 1376) (by decide +kernel)⟩
def lw_privs_6 : List (MethodName × Nat) := [(⟨"TripleSieveModel", "bad", "(I)Z"⟩, 49), (⟨"TripleSieveModel", "readEnd", "()Z"⟩, 49), (⟨"TripleSieveModel", "readKey", "()Z"⟩, 49), (⟨"TripleSieveModel", "isKey", "(I)Z"⟩, 49), (⟨"TripleSieveModel", "refuse", "()J"⟩, 49), (⟨"TripleSieveModel", "isValue", "(I)Z"⟩, 49), (⟨"TripleSieveModel", "indexOf", "(J)I"⟩, 49), (⟨"TripleSieveModel", "snap", "()V"⟩, 49), (⟨"TripleSieveModel", "lays3", "(JII)V"⟩, 49), (⟨"TripleSieveModel", "netNow", "()V"⟩, 49), (⟨"TripleSieveModel", "nets", "(IJI)V"⟩, 49), (⟨"TripleSieveModel", "touchesBy", "(I)Z"⟩, 49), (⟨"TripleSieveModel", "areTwins", "(II)Z"⟩, 49), (⟨"TripleSieveModel", "isOf", "(II)Z"⟩, 49), (⟨"TripleSieveModel", "peelNow", "()V"⟩, 49), (⟨"TripleSieveModel", "peelsBy", "(II)V"⟩, 49)]
theorem lw_r6 : ∀ q ∈ lw_privs_6, lw_okq q := List.forall_mem_cons.mpr ⟨lw_p80, List.forall_mem_cons.mpr ⟨lw_p81, List.forall_mem_cons.mpr ⟨lw_p82, List.forall_mem_cons.mpr ⟨lw_p83, List.forall_mem_cons.mpr ⟨lw_p84, List.forall_mem_cons.mpr ⟨lw_p85, List.forall_mem_cons.mpr ⟨lw_p86, List.forall_mem_cons.mpr ⟨lw_p87, List.forall_mem_cons.mpr ⟨lw_p88, List.forall_mem_cons.mpr ⟨lw_p89, List.forall_mem_cons.mpr ⟨lw_p90, List.forall_mem_cons.mpr ⟨lw_p91, List.forall_mem_cons.mpr ⟨lw_p92, List.forall_mem_cons.mpr ⟨lw_p93, List.forall_mem_cons.mpr ⟨lw_p94, List.forall_mem_cons.mpr ⟨lw_p95, fun _ h => absurd h List.not_mem_nil⟩⟩⟩⟩⟩⟩⟩⟩⟩⟩⟩⟩⟩⟩⟩⟩
theorem lw_p96 : lw_okq (⟨"TripleSieveModel", "comesBehind", "(I)V"⟩, 49) := ⟨⟨by decide +kernel, by decide +kernel⟩, List.mem_of_getElem? (i := 1017) (by decide +kernel), List.mem_of_getElem? (i := 1379) (by decide +kernel), List.mem_of_getElem? (i := 1380) (by decide +kernel)⟩
theorem lw_p97 : lw_okq (⟨"TripleSieveModel", "nextCell", "(II)I"⟩, 49) := ⟨⟨by decide +kernel, by decide +kernel⟩, List.mem_of_getElem? (i := 1017) (by decide +kernel), List.mem_of_getElem? (i := 1383) (by decide +kernel), List.mem_of_getElem? (i := 1384) (by decide +kernel)⟩
theorem lw_p98 : lw_okq (⟨"TripleSieveModel", "takesOut", "(I)V"⟩, 49) := ⟨⟨by decide +kernel, by decide +kernel⟩, List.mem_of_getElem? (i := 1017) (by decide +kernel), List.mem_of_getElem? (i := 1387) (by decide +kernel), List.mem_of_getElem? (i := 1388) (by decide +kernel)⟩
theorem lw_p99 : lw_okq (⟨"TripleSieveModel", "laysLevels", "()I"⟩, 49) := ⟨⟨by decide +kernel, by decide +kernel⟩, List.mem_of_getElem? (i := 1017) (by decide +kernel), List.mem_of_getElem? (i := 1399) (by decide +kernel), List.mem_of_getElem? (i := 1400) (by decide +kernel)⟩
theorem lw_p100 : lw_okq (⟨"TripleSieveModel", "findsOut", "(III)Z"⟩, 49) := ⟨⟨by decide +kernel, by decide +kernel⟩, List.mem_of_getElem? (i := 1017) (by decide +kernel), List.mem_of_getElem? (i := 1411) (by decide +kernel), List.mem_of_getElem? (i := 1412) (by decide +kernel)⟩
theorem lw_p101 : lw_okq (⟨"TripleSieveModel", "peelsAll", "(IJI)Z"⟩, 49) := ⟨⟨by decide +kernel, by decide +kernel⟩, List.mem_of_getElem? (i := 1017) (by decide +kernel), List.mem_of_getElem? (i := 1415) (by decide +kernel), List.mem_of_getElem? (i := 1416) (by decide +kernel)⟩
theorem lw_p102 : lw_okq (⟨"TripleSieveModel", "fills", "(J)V"⟩, 49) := ⟨⟨by decide +kernel, by decide +kernel⟩, List.mem_of_getElem? (i := 1017) (by decide +kernel), List.mem_of_getElem? (i := 1431) (by decide +kernel), List.mem_of_getElem? (i := 1432) (by decide +kernel)⟩
theorem lw_p103 : lw_okq (⟨"TripleSieveModel", "asks", "(J)Z"⟩, 49) := ⟨⟨by decide +kernel, by decide +kernel⟩, List.mem_of_getElem? (i := 1017) (by decide +kernel), List.mem_of_getElem? (i := 1451) (by decide +kernel), List.mem_of_getElem? (i := 1452) (by decide +kernel)⟩
theorem lw_p104 : lw_okq (⟨"TripleSieveModel", "copies", "(II)V"⟩, 49) := ⟨⟨by decide +kernel, by decide +kernel⟩, List.mem_of_getElem? (i := 1017) (by decide +kernel), List.mem_of_getElem? (i := 1471) (by decide +kernel), List.mem_of_getElem? (i := 1472) (by decide +kernel)⟩
theorem lw_p105 : lw_okq (⟨"TripleSieveModel", "emptyCells", "()I"⟩, 49) := ⟨⟨by decide +kernel, by decide +kernel⟩, List.mem_of_getElem? (i := 1017) (by decide +kernel), List.mem_of_getElem? (i := 1483) (by decide +kernel), List.mem_of_getElem? (i := 1484) (by decide +kernel)⟩
def lw_privs_7 : List (MethodName × Nat) := [(⟨"TripleSieveModel", "comesBehind", "(I)V"⟩, 49), (⟨"TripleSieveModel", "nextCell", "(II)I"⟩, 49), (⟨"TripleSieveModel", "takesOut", "(I)V"⟩, 49), (⟨"TripleSieveModel", "laysLevels", "()I"⟩, 49), (⟨"TripleSieveModel", "findsOut", "(III)Z"⟩, 49), (⟨"TripleSieveModel", "peelsAll", "(IJI)Z"⟩, 49), (⟨"TripleSieveModel", "fills", "(J)V"⟩, 49), (⟨"TripleSieveModel", "asks", "(J)Z"⟩, 49), (⟨"TripleSieveModel", "copies", "(II)V"⟩, 49), (⟨"TripleSieveModel", "emptyCells", "()I"⟩, 49)]
theorem lw_r7 : ∀ q ∈ lw_privs_7, lw_okq q := List.forall_mem_cons.mpr ⟨lw_p96, List.forall_mem_cons.mpr ⟨lw_p97, List.forall_mem_cons.mpr ⟨lw_p98, List.forall_mem_cons.mpr ⟨lw_p99, List.forall_mem_cons.mpr ⟨lw_p100, List.forall_mem_cons.mpr ⟨lw_p101, List.forall_mem_cons.mpr ⟨lw_p102, List.forall_mem_cons.mpr ⟨lw_p103, List.forall_mem_cons.mpr ⟨lw_p104, List.forall_mem_cons.mpr ⟨lw_p105, fun _ h => absurd h List.not_mem_nil⟩⟩⟩⟩⟩⟩⟩⟩⟩⟩
def lw_privs : List (MethodName × Nat) := lw_privs_1 ++ (lw_privs_2 ++ (lw_privs_3 ++ (lw_privs_4 ++ (lw_privs_5 ++ (lw_privs_6 ++ (lw_privs_7))))))
def lw_tbl : List Cond := k2_sels lw_privs ++ tables_1
theorem lw_privs_ok : ∀ q ∈ lw_privs, lw_okq q := by
  show ∀ q ∈ lw_privs_1 ++ (lw_privs_2 ++ (lw_privs_3 ++ (lw_privs_4 ++ (lw_privs_5 ++ (lw_privs_6 ++ (lw_privs_7)))))), lw_okq q
  exact List.forall_mem_append.mpr ⟨lw_r1, List.forall_mem_append.mpr ⟨lw_r2, List.forall_mem_append.mpr ⟨lw_r3, List.forall_mem_append.mpr ⟨lw_r4, List.forall_mem_append.mpr ⟨lw_r5, List.forall_mem_append.mpr ⟨lw_r6, lw_r7⟩⟩⟩⟩⟩⟩
-- class tables (as the printed names have them)
def RX0 : String := "TripleSieve$Acts"
def TX0 : u_T := fun k => match k with
  | 0 => ("TripleSieve$Acts", "kinds", "[I", true)
  | 1 => ("TripleSieve$Acts", "places", "[I", true)
  | 2 => ("TripleSieve$Acts", "numbers", "[J", true)
  | 3 => ("TripleSieve$Acts", "values", "[I", true)
  | 4 => ("TripleSieve$Acts", "next", "I", false)
  | _ => ("TripleSieve$Acts", "size", "I", false)
def tyX0 : Nat → FieldType := fun k => match k with
  | 0 => .array .int
  | 1 => .array .int
  | 2 => .array .long
  | 3 => .array .int
  | 4 => .int
  | _ => .int
theorem nmX0 : ∀ a, a < 6 → ∀ b, b < 6 → a ≠ b → (TX0 a).2.1 ≠ (TX0 b).2.1 := by decide +kernel
theorem tyX0_ok : ∀ k, k < 6 → parseFieldDescriptor (TX0 k).2.2.1 = some (tyX0 k) := by decide +kernel
def RX1 : String := "TripleSieve$Basis"
def TX1 : u_T := fun k => match k with
  | 0 => ("TripleSieve$Basis", "lows", "[J", true)
  | 1 => ("TripleSieve$Basis", "highs", "[J", true)
  | _ => ("TripleSieve$Basis", "size", "I", false)
def tyX1 : Nat → FieldType := fun k => match k with
  | 0 => .array .long
  | 1 => .array .long
  | _ => .int
theorem nmX1 : ∀ a, a < 3 → ∀ b, b < 3 → a ≠ b → (TX1 a).2.1 ≠ (TX1 b).2.1 := by decide +kernel
theorem tyX1_ok : ∀ k, k < 3 → parseFieldDescriptor (TX1 k).2.2.1 = some (tyX1 k) := by decide +kernel
def RX2 : String := "TripleSieve$Given"
def TX2 : u_T := fun k => match k with
  | 0 => ("TripleSieve$Given", "numbers", "[J", true)
  | 1 => ("TripleSieve$Given", "values", "[I", true)
  | 2 => ("TripleSieve$Given", "settings", "[I", true)
  | 3 => ("TripleSieve$Given", "size", "I", false)
  | _ => ("TripleSieve$Given", "changes", "I", false)
def tyX2 : Nat → FieldType := fun k => match k with
  | 0 => .array .long
  | 1 => .array .int
  | 2 => .array .int
  | 3 => .int
  | _ => .int
theorem nmX2 : ∀ a, a < 5 → ∀ b, b < 5 → a ≠ b → (TX2 a).2.1 ≠ (TX2 b).2.1 := by decide +kernel
theorem tyX2_ok : ∀ k, k < 5 → parseFieldDescriptor (TX2 k).2.2.1 = some (tyX2 k) := by decide +kernel
def RX3 : String := "TripleSieve$Marks"
def TX3 : u_T := fun k => match k with
  | 0 => ("TripleSieve$Marks", "three", "[I", true)
  | 1 => ("TripleSieve$Marks", "touched", "[I", true)
  | 2 => ("TripleSieve$Marks", "touches", "I", false)
  | 3 => ("TripleSieve$Marks", "print", "I", false)
  | 4 => ("TripleSieve$Marks", "seedMix", "J", false)
  | 5 => ("TripleSieve$Marks", "cells", "I", false)
  | 6 => ("TripleSieve$Marks", "printMask", "I", false)
  | _ => ("TripleSieve$Marks", "spread", "I", false)
def tyX3 : Nat → FieldType := fun k => match k with
  | 0 => .array .int
  | 1 => .array .int
  | 2 => .int
  | 3 => .int
  | 4 => .long
  | 5 => .int
  | 6 => .int
  | _ => .int
theorem nmX3 : ∀ a, a < 8 → ∀ b, b < 8 → a ≠ b → (TX3 a).2.1 ≠ (TX3 b).2.1 := by decide +kernel
theorem tyX3_ok : ∀ k, k < 8 → parseFieldDescriptor (TX3 k).2.2.1 = some (tyX3 k) := by decide +kernel
def RX4 : String := "TripleSieve$Mender"
def TX4 : u_T := fun k => match k with
  | 0 => ("TripleSieve$Mender", "chosen", "[I", true)
  | 1 => ("TripleSieve$Mender", "fewest", "I", false)
  | 2 => ("TripleSieve$Mender", "changes", "I", false)
  | 3 => ("TripleSieve$Mender", "trail", "[I", true)
  | 4 => ("TripleSieve$Mender", "trailSize", "I", false)
  | 5 => ("TripleSieve$Mender", "line", "[I", true)
  | _ => ("TripleSieve$Mender", "lineSize", "I", false)
def tyX4 : Nat → FieldType := fun k => match k with
  | 0 => .array .int
  | 1 => .int
  | 2 => .int
  | 3 => .array .int
  | 4 => .int
  | 5 => .array .int
  | _ => .int
theorem nmX4 : ∀ a, a < 7 → ∀ b, b < 7 → a ≠ b → (TX4 a).2.1 ≠ (TX4 b).2.1 := by decide +kernel
theorem tyX4_ok : ∀ k, k < 7 → parseFieldDescriptor (TX4 k).2.2.1 = some (tyX4 k) := by decide +kernel
def RX5 : String := "TripleSieve$Peeling"
def TX5 : u_T := fun k => match k with
  | 0 => ("TripleSieve$Peeling", "keyOf", "[I", true)
  | 1 => ("TripleSieve$Peeling", "cellOf", "[I", true)
  | 2 => ("TripleSieve$Peeling", "peeled", "I", false)
  | 3 => ("TripleSieve$Peeling", "line", "[I", true)
  | 4 => ("TripleSieve$Peeling", "head", "I", false)
  | 5 => ("TripleSieve$Peeling", "tail", "I", false)
  | 6 => ("TripleSieve$Peeling", "goals", "[I", true)
  | _ => ("TripleSieve$Peeling", "woken", "[I", true)
def tyX5 : Nat → FieldType := fun k => match k with
  | 0 => .array .int
  | 1 => .array .int
  | 2 => .int
  | 3 => .array .int
  | 4 => .int
  | 5 => .int
  | 6 => .array .int
  | _ => .array .int
theorem nmX5 : ∀ a, a < 8 → ∀ b, b < 8 → a ≠ b → (TX5 a).2.1 ≠ (TX5 b).2.1 := by decide +kernel
theorem tyX5_ok : ∀ k, k < 8 → parseFieldDescriptor (TX5 k).2.2.1 = some (tyX5 k) := by decide +kernel
def RX6 : String := "TripleSieve$Reader"
def TX6 : u_T := fun k => match k with
  | _ => ("TripleSieve$Reader", "fault", "I", false)
def tyX6 : Nat → FieldType := fun k => match k with
  | _ => .int
theorem nmX6 : ∀ a, a < 1 → ∀ b, b < 1 → a ≠ b → (TX6 a).2.1 ≠ (TX6 b).2.1 := by decide +kernel
theorem tyX6_ok : ∀ k, k < 1 → parseFieldDescriptor (TX6 k).2.2.1 = some (tyX6 k) := by decide +kernel
def RX7 : String := "TripleSieve$Rounds"
def TX7 : u_T := fun k => match k with
  | _ => ("TripleSieve$Rounds", "levels", "[I", true)
def tyX7 : Nat → FieldType := fun k => match k with
  | _ => .array .int
theorem nmX7 : ∀ a, a < 1 → ∀ b, b < 1 → a ≠ b → (TX7 a).2.1 ≠ (TX7 b).2.1 := by decide +kernel
theorem tyX7_ok : ∀ k, k < 1 → parseFieldDescriptor (TX7 k).2.2.1 = some (tyX7 k) := by decide +kernel
def RX8 : String := "TripleSieve$Row"
def TX8 : u_T := fun k => match k with
  | 0 => ("TripleSieve$Row", "touched", "[I", true)
  | 1 => ("TripleSieve$Row", "touches", "[I", true)
  | 2 => ("TripleSieve$Row", "prints", "[I", true)
  | 3 => ("TripleSieve$Row", "off", "[Z", true)
  | 4 => ("TripleSieve$Row", "loads", "[I", true)
  | 5 => ("TripleSieve$Row", "mixes", "[I", true)
  | 6 => ("TripleSieve$Row", "keys", "I", false)
  | 7 => ("TripleSieve$Row", "left", "I", false)
  | _ => ("TripleSieve$Row", "cells", "I", false)
def tyX8 : Nat → FieldType := fun k => match k with
  | 0 => .array .int
  | 1 => .array .int
  | 2 => .array .int
  | 3 => .array .boolean
  | 4 => .array .int
  | 5 => .array .int
  | 6 => .int
  | 7 => .int
  | _ => .int
theorem nmX8 : ∀ a, a < 9 → ∀ b, b < 9 → a ≠ b → (TX8 a).2.1 ≠ (TX8 b).2.1 := by decide +kernel
theorem tyX8_ok : ∀ k, k < 9 → parseFieldDescriptor (TX8 k).2.2.1 = some (tyX8 k) := by decide +kernel
def RX9 : String := "TripleSieve$Sieve"
def TX9 : u_T := fun k => match k with
  | 0 => ("TripleSieve$Sieve", "facts", "[I", true)
  | 1 => ("TripleSieve$Sieve", "prints", "[I", true)
  | 2 => ("TripleSieve$Sieve", "values", "[I", true)
  | _ => ("TripleSieve$Sieve", "stands", "Z", false)
def tyX9 : Nat → FieldType := fun k => match k with
  | 0 => .array .int
  | 1 => .array .int
  | 2 => .array .int
  | _ => .boolean
theorem nmX9 : ∀ a, a < 4 → ∀ b, b < 4 → a ≠ b → (TX9 a).2.1 ≠ (TX9 b).2.1 := by decide +kernel
theorem tyX9_ok : ∀ k, k < 4 → parseFieldDescriptor (TX9 k).2.2.1 = some (tyX9 k) := by decide +kernel
def RX10 : String := "TripleSieve$Tape"
def TX10 : u_T := fun k => match k with
  | 0 => ("TripleSieve$Tape", "bytes", "[B", true)
  | 1 => ("TripleSieve$Tape", "length", "I", false)
  | 2 => ("TripleSieve$Tape", "kind", "I", false)
  | 3 => ("TripleSieve$Tape", "start", "I", false)
  | 4 => ("TripleSieve$Tape", "behind", "I", false)
  | _ => ("TripleSieve$Tape", "number", "I", false)
def tyX10 : Nat → FieldType := fun k => match k with
  | 0 => .array .byte
  | 1 => .int
  | 2 => .int
  | 3 => .int
  | 4 => .int
  | _ => .int
theorem nmX10 : ∀ a, a < 6 → ∀ b, b < 6 → a ≠ b → (TX10 a).2.1 ≠ (TX10 b).2.1 := by decide +kernel
theorem tyX10_ok : ∀ k, k < 6 → parseFieldDescriptor (TX10 k).2.2.1 = some (tyX10 k) := by decide +kernel
def RX11 : String := "TripleSieve"
def TX11 : u_T := fun k => match k with
  | 0 => ("TripleSieve", "tape", "LTripleSieve$Tape;", true)
  | 1 => ("TripleSieve", "reader", "LTripleSieve$Reader;", true)
  | 2 => ("TripleSieve", "given", "LTripleSieve$Given;", true)
  | 3 => ("TripleSieve", "draft", "LTripleSieve$Given;", true)
  | 4 => ("TripleSieve", "acts", "LTripleSieve$Acts;", true)
  | 5 => ("TripleSieve", "marks", "LTripleSieve$Marks;", true)
  | 6 => ("TripleSieve", "row", "LTripleSieve$Row;", true)
  | 7 => ("TripleSieve", "peeling", "LTripleSieve$Peeling;", true)
  | 8 => ("TripleSieve", "rounds", "LTripleSieve$Rounds;", true)
  | 9 => ("TripleSieve", "basis", "LTripleSieve$Basis;", true)
  | 10 => ("TripleSieve", "mender", "LTripleSieve$Mender;", true)
  | 11 => ("TripleSieve", "sieve", "LTripleSieve$Sieve;", true)
  | _ => ("TripleSieve", "shelves", "[LTripleSieve$Sieve;", true)
def tyX11 : Nat → FieldType := fun k => match k with
  | 0 => .object "TripleSieve$Tape"
  | 1 => .object "TripleSieve$Reader"
  | 2 => .object "TripleSieve$Given"
  | 3 => .object "TripleSieve$Given"
  | 4 => .object "TripleSieve$Acts"
  | 5 => .object "TripleSieve$Marks"
  | 6 => .object "TripleSieve$Row"
  | 7 => .object "TripleSieve$Peeling"
  | 8 => .object "TripleSieve$Rounds"
  | 9 => .object "TripleSieve$Basis"
  | 10 => .object "TripleSieve$Mender"
  | 11 => .object "TripleSieve$Sieve"
  | _ => .array (.object "TripleSieve$Sieve")
theorem nmX11 : ∀ a, a < 13 → ∀ b, b < 13 → a ≠ b → (TX11 a).2.1 ≠ (TX11 b).2.1 := by decide +kernel
theorem tyX11_ok : ∀ k, k < 13 → parseFieldDescriptor (TX11 k).2.2.1 = some (tyX11 k) := by decide +kernel
def RX12 : String := "TripleSieveModel"
def TX12 : u_T := fun k => match k with
  | 0 => ("TripleSieveModel", "thrown", "I", false)
  | 1 => ("TripleSieveModel", "tape", "[I", true)
  | 2 => ("TripleSieveModel", "taped", "I", false)
  | 3 => ("TripleSieveModel", "size", "I", false)
  | 4 => ("TripleSieveModel", "to", "I", false)
  | 5 => ("TripleSieveModel", "from", "I", false)
  | 6 => ("TripleSieveModel", "sort", "I", false)
  | 7 => ("TripleSieveModel", "number", "I", false)
  | 8 => ("TripleSieveModel", "fault", "I", false)
  | 9 => ("TripleSieveModel", "place", "I", false)
  | 10 => ("TripleSieveModel", "word", "J", false)
  | 11 => ("TripleSieveModel", "keys", "[J", true)
  | 12 => ("TripleSieveModel", "readKeys", "[J", true)
  | 13 => ("TripleSieveModel", "keptKeys", "[J", true)
  | 14 => ("TripleSieveModel", "values", "[I", true)
  | 15 => ("TripleSieveModel", "readValues", "[I", true)
  | 16 => ("TripleSieveModel", "keptValues", "[I", true)
  | 17 => ("TripleSieveModel", "settings", "[I", true)
  | 18 => ("TripleSieveModel", "readSettings", "[I", true)
  | 19 => ("TripleSieveModel", "keptSettings", "[I", true)
  | 20 => ("TripleSieveModel", "keptMany", "[I", true)
  | 21 => ("TripleSieveModel", "many", "I", false)
  | 22 => ("TripleSieveModel", "readMany", "I", false)
  | 23 => ("TripleSieveModel", "kept", "I", false)
  | 24 => ("TripleSieveModel", "cells3", "[I", true)
  | 25 => ("TripleSieveModel", "touched", "[I", true)
  | 26 => ("TripleSieveModel", "touchMany", "[I", true)
  | 27 => ("TripleSieveModel", "loads", "[I", true)
  | 28 => ("TripleSieveModel", "sums", "[I", true)
  | 29 => ("TripleSieveModel", "isLeft", "[Z", true)
  | 30 => ("TripleSieveModel", "leftMany", "I", false)
  | 31 => ("TripleSieveModel", "out", "[I", true)
  | 32 => ("TripleSieveModel", "line", "[I", true)
  | 33 => ("TripleSieveModel", "peeledKey", "[I", true)
  | 34 => ("TripleSieveModel", "peeledBy", "[I", true)
  | 35 => ("TripleSieveModel", "lineFrom", "I", false)
  | 36 => ("TripleSieveModel", "lineTo", "I", false)
  | 37 => ("TripleSieveModel", "peeled", "I", false)
  | 38 => ("TripleSieveModel", "levels", "[I", true)
  | 39 => ("TripleSieveModel", "low", "[J", true)
  | 40 => ("TripleSieveModel", "high", "[J", true)
  | 41 => ("TripleSieveModel", "fillPrint", "[I", true)
  | 42 => ("TripleSieveModel", "fillValue", "[I", true)
  | 43 => ("TripleSieveModel", "fillOther", "[I", true)
  | 44 => ("TripleSieveModel", "sieves", "[I", true)
  | 45 => ("TripleSieveModel", "sievePrint", "[I", true)
  | 46 => ("TripleSieveModel", "sieveValue", "[I", true)
  | 47 => ("TripleSieveModel", "isThere", "[Z", true)
  | _ => ("TripleSieveModel", "answer", "I", false)
def tyX12 : Nat → FieldType := fun k => match k with
  | 0 => .int
  | 1 => .array .int
  | 2 => .int
  | 3 => .int
  | 4 => .int
  | 5 => .int
  | 6 => .int
  | 7 => .int
  | 8 => .int
  | 9 => .int
  | 10 => .long
  | 11 => .array .long
  | 12 => .array .long
  | 13 => .array .long
  | 14 => .array .int
  | 15 => .array .int
  | 16 => .array .int
  | 17 => .array .int
  | 18 => .array .int
  | 19 => .array .int
  | 20 => .array .int
  | 21 => .int
  | 22 => .int
  | 23 => .int
  | 24 => .array .int
  | 25 => .array .int
  | 26 => .array .int
  | 27 => .array .int
  | 28 => .array .int
  | 29 => .array .boolean
  | 30 => .int
  | 31 => .array .int
  | 32 => .array .int
  | 33 => .array .int
  | 34 => .array .int
  | 35 => .int
  | 36 => .int
  | 37 => .int
  | 38 => .array .int
  | 39 => .array .long
  | 40 => .array .long
  | 41 => .array .int
  | 42 => .array .int
  | 43 => .array .int
  | 44 => .array .int
  | 45 => .array .int
  | 46 => .array .int
  | 47 => .array .boolean
  | _ => .int
theorem nmX12 : ∀ a, a < 49 → ∀ b, b < 49 → a ≠ b → (TX12 a).2.1 ≠ (TX12 b).2.1 := by decide +kernel
theorem tyX12_ok : ∀ k, k < 49 → parseFieldDescriptor (TX12 k).2.2.1 = some (tyX12 k) := by decide +kernel
abbrev vwCl : List vw_C := [(RX0, TX0, 6), (RX1, TX1, 3), (RX2, TX2, 5), (RX3, TX3, 8), (RX4, TX4, 7), (RX5, TX5, 8), (RX6, TX6, 1), (RX7, TX7, 1), (RX8, TX8, 9), (RX9, TX9, 4), (RX10, TX10, 6), (RX11, TX11, 13), (RX12, TX12, 49)]
abbrev am_I : Type := Nat × Instr × Nat × Instr
abbrev am_MI : Type := MethodName × ByteArray × Nat × Option FieldType × Nat
def am_cn : List String := ["TripleSieve$Acts", "TripleSieve$Basis", "TripleSieve$Given", "TripleSieve$Marks", "TripleSieve$Mender", "TripleSieve$Peeling", "TripleSieve$Reader", "TripleSieve$Rounds", "TripleSieve$Row", "TripleSieve$Sieve", "TripleSieve$Tape", "TripleSieve", "TripleSieveModel", "TripleSieveLaw", "java/util/Arrays", "java/lang/Math", "java/lang/String"]
/-- the cells: an object (its class, its fields: 0 int, 1 long, 2 the cell at a place, 3 boolean), or an array (100 int, 101 boolean, 102 byte, 103 long, 104 of sieves) -/
def am_layL : List (Nat × List (Nat × Nat)) := [
  (11, [(2, 1), (2, 3), (2, 4), (2, 8), (2, 12), (2, 17), (2, 20), (2, 27), (2, 33), (2, 35), (2, 38), (2, 42), (2, 54)]), 
  (10, [(2, 2), (0, 1101), (0, 1102), (0, 1103), (0, 1104), (0, 1105)]), 
  (102, [(600, 0)]), 
  (6, [(0, 1300)]), 
  (2, [(2, 5), (2, 6), (2, 7), (0, 1403), (0, 1404)]), 
  (103, [(48, 0)]), 
  (100, [(48, 0)]), 
  (100, [(7, 0)]), 
  (2, [(2, 9), (2, 10), (2, 11), (0, 1803), (0, 1804)]), 
  (103, [(48, 0)]), 
  (100, [(48, 0)]), 
  (100, [(7, 0)]), 
  (0, [(2, 13), (2, 14), (2, 15), (2, 16), (0, 2204), (0, 2205)]), 
  (100, [(12, 0)]), 
  (100, [(12, 0)]), 
  (103, [(12, 0)]), 
  (100, [(12, 0)]), 
  (3, [(2, 18), (2, 19), (0, 2702), (0, 2703), (1, 2704), (0, 2705), (0, 2706), (0, 2707)]), 
  (100, [(3, 0)]), 
  (100, [(3, 0)]), 
  (8, [(2, 21), (2, 22), (2, 23), (2, 24), (2, 25), (2, 26), (0, 3006), (0, 3007), (0, 3008)]), 
  (100, [(144, 0)]), 
  (100, [(48, 0)]), 
  (100, [(48, 0)]), 
  (101, [(48, 0)]), 
  (100, [(96, 0)]), 
  (100, [(96, 0)]), 
  (5, [(2, 28), (2, 29), (0, 3702), (2, 30), (0, 3704), (0, 3705), (2, 31), (2, 32)]), 
  (100, [(48, 0)]), 
  (100, [(48, 0)]), 
  (100, [(96, 0)]), 
  (100, [(48, 0)]), 
  (100, [(96, 0)]), 
  (7, [(2, 34)]), 
  (100, [(48, 0)]), 
  (1, [(2, 36), (2, 37), (0, 4502)]), 
  (103, [(48, 0)]), 
  (103, [(48, 0)]), 
  (4, [(2, 39), (0, 4801), (0, 4802), (2, 40), (0, 4804), (2, 41), (0, 4806)]), 
  (100, [(3, 0)]), 
  (100, [(48, 0)]), 
  (100, [(96, 0)]), 
  (9, [(2, 43), (2, 44), (2, 45), (3, 5203)]), 
  (100, [(7, 0)]), 
  (100, [(96, 0)]), 
  (100, [(96, 0)]), 
  (9, [(2, 47), (2, 48), (2, 49), (3, 5603)]), 
  (100, [(7, 0)]), 
  (100, [(96, 0)]), 
  (100, [(96, 0)]), 
  (9, [(2, 51), (2, 52), (2, 53), (3, 6003)]), 
  (100, [(7, 0)]), 
  (100, [(96, 0)]), 
  (100, [(96, 0)]), 
  (104, [(46, 0), (50, 0)]), 
  (12, [(0, 6500), (2, 56), (0, 6502), (0, 6503), (0, 6504), (0, 6505), (0, 6506), (0, 6507), (0, 6508), (0, 6509), (1, 6510), (2, 57), (2, 58), (2, 59), (2, 60), (2, 61), (2, 62), (2, 63), (2, 64), (2, 65), (2, 66), (0, 6521), (0, 6522), (0, 6523), (2, 67), (2, 68), (2, 69), (2, 70), (2, 71), (2, 72), (0, 6530), (2, 73), (2, 74), (2, 75), (2, 76), (0, 6535), (0, 6536), (0, 6537), (2, 77), (2, 78), (2, 79), (2, 80), (2, 81), (2, 82), (2, 83), (2, 84), (2, 85), (2, 86), (0, 6548)]), 
  (100, [(600, 0)]), 
  (103, [(48, 0)]), 
  (103, [(48, 0)]), 
  (103, [(576, 0)]), 
  (100, [(48, 0)]), 
  (100, [(48, 0)]), 
  (100, [(576, 0)]), 
  (100, [(7, 0)]), 
  (100, [(7, 0)]), 
  (100, [(84, 0)]), 
  (100, [(12, 0)]), 
  (100, [(3, 0)]), 
  (100, [(144, 0)]), 
  (100, [(48, 0)]), 
  (100, [(96, 0)]), 
  (100, [(96, 0)]), 
  (101, [(48, 0)]), 
  (100, [(3, 0)]), 
  (100, [(512, 0)]), 
  (100, [(48, 0)]), 
  (100, [(48, 0)]), 
  (100, [(48, 0)]), 
  (103, [(96, 0)]), 
  (103, [(96, 0)]), 
  (100, [(96, 0)]), 
  (100, [(96, 0)]), 
  (100, [(96, 0)]), 
  (100, [(21, 0)]), 
  (100, [(288, 0)]), 
  (100, [(288, 0)]), 
  (101, [(3, 0)]), 
  (103, [(1, 0)])]
def am_N : Nat := 88
def mi_Acts_forget : am_MI := (⟨"TripleSieve$Acts", "forget", "()V"⟩, prog_2_method_2_code, 1, none, 0)
def mi_Acts_note : am_MI := (⟨"TripleSieve$Acts", "note", "(IIJI)V"⟩, prog_2_method_3_code, 6, none, 0)
def mi_Acts_undoLatest : am_MI := (⟨"TripleSieve$Acts", "undoLatest", "(LTripleSieve$Given;)V"⟩, prog_2_method_4_code, 2, none, 0)
def mi_Basis_independent : am_MI := (⟨"TripleSieve$Basis", "independent", "(LTripleSieve$Row;)I"⟩, prog_3_method_2_code, 9, (some .int), 1)
def mi_Basis_join : am_MI := (⟨"TripleSieve$Basis", "join", "(JJ)V"⟩, prog_3_method_3_code, 10, none, 1)
def mi_Given_reset : am_MI := (⟨"TripleSieve$Given", "reset", "()V"⟩, prog_4_method_2_code, 1, none, 2)
def mi_Given_copy : am_MI := (⟨"TripleSieve$Given", "copy", "(LTripleSieve$Given;)V"⟩, prog_4_method_3_code, 2, none, 2)
def mi_Given_has : am_MI := (⟨"TripleSieve$Given", "has", "(I)Z"⟩, prog_4_method_4_code, 2, (some .boolean), 2)
def mi_Given_find : am_MI := (⟨"TripleSieve$Given", "find", "(J)I"⟩, prog_4_method_5_code, 4, (some .int), 2)
def mi_Given_insert : am_MI := (⟨"TripleSieve$Given", "insert", "(IJI)V"⟩, prog_4_method_6_code, 5, none, 2)
def mi_Given_drop : am_MI := (⟨"TripleSieve$Given", "drop", "(I)V"⟩, prog_4_method_7_code, 2, none, 2)
def mi_Given_revalue : am_MI := (⟨"TripleSieve$Given", "revalue", "(II)V"⟩, prog_4_method_8_code, 3, none, 2)
def mi_Given_resettle : am_MI := (⟨"TripleSieve$Given", "resettle", "(II)V"⟩, prog_4_method_9_code, 3, none, 2)
def mi_Given_canBeValue : am_MI := (⟨"TripleSieve$Given", "canBeValue", "(I)Z"⟩, prog_4_method_10_code, 2, (some .boolean), 2)
def mi_Given_fitsBits : am_MI := (⟨"TripleSieve$Given", "fitsBits", "(I)Z"⟩, prog_4_method_11_code, 3, (some .boolean), 2)
def mi_Given_canBeSetting : am_MI := (⟨"TripleSieve$Given", "canBeSetting", "(II)Z"⟩, prog_4_method_12_code, 2, (some .boolean), 2)
def mi_Marks_mix : am_MI := (⟨"TripleSieve$Marks", "mix", "(J)J"⟩, prog_5_method_2_code, 6, (some .long), 3)
def mi_Marks_aim : am_MI := (⟨"TripleSieve$Marks", "aim", "(IIII)V"⟩, prog_5_method_3_code, 5, none, 3)
def mi_Marks_look : am_MI := (⟨"TripleSieve$Marks", "look", "(J)V"⟩, prog_5_method_4_code, 5, none, 3)
def mi_Marks_placeApart : am_MI := (⟨"TripleSieve$Marks", "placeApart", "(J)V"⟩, prog_5_method_5_code, 4, none, 3)
def mi_Marks_placeClose : am_MI := (⟨"TripleSieve$Marks", "placeClose", "(J)V"⟩, prog_5_method_6_code, 6, none, 3)
def mi_Marks_placeFree : am_MI := (⟨"TripleSieve$Marks", "placeFree", "(J)V"⟩, prog_5_method_7_code, 4, none, 3)
def mi_Marks_share : am_MI := (⟨"TripleSieve$Marks", "share", "(JII)I"⟩, prog_5_method_8_code, 5, (some .int), 3)
def mi_Marks_gatherTouched : am_MI := (⟨"TripleSieve$Marks", "gatherTouched", "()V"⟩, prog_5_method_9_code, 4, none, 3)
def mi_Marks_touchOnly : am_MI := (⟨"TripleSieve$Marks", "touchOnly", "(I)V"⟩, prog_5_method_10_code, 2, none, 3)
def mi_Marks_sum : am_MI := (⟨"TripleSieve$Marks", "sum", "([I)I"⟩, prog_5_method_11_code, 4, (some .int), 3)
def mi_Mender_search : am_MI := (⟨"TripleSieve$Mender", "search", "(LTripleSieve$Row;)V"⟩, prog_6_method_2_code, 3, none, 4)
def mi_Mender_choose : am_MI := (⟨"TripleSieve$Mender", "choose", "(LTripleSieve$Row;III)Z"⟩, prog_6_method_3_code, 7, (some .boolean), 4)
def mi_Mender_leaveOut : am_MI := (⟨"TripleSieve$Mender", "leaveOut", "(LTripleSieve$Row;I)V"⟩, prog_6_method_4_code, 5, none, 4)
def mi_Mender_take : am_MI := (⟨"TripleSieve$Mender", "take", "(LTripleSieve$Row;I)V"⟩, prog_6_method_5_code, 4, none, 4)
def mi_Mender_bringBack : am_MI := (⟨"TripleSieve$Mender", "bringBack", "(LTripleSieve$Row;I)V"⟩, prog_6_method_6_code, 3, none, 4)
def mi_Peeling_run : am_MI := (⟨"TripleSieve$Peeling", "run", "(LTripleSieve$Row;I)V"⟩, prog_7_method_2_code, 3, none, 5)
def mi_Peeling_runLine : am_MI := (⟨"TripleSieve$Peeling", "runLine", "(LTripleSieve$Row;Z)V"⟩, prog_7_method_3_code, 7, none, 5)
def mi_Peeling_lineUp : am_MI := (⟨"TripleSieve$Peeling", "lineUp", "(LTripleSieve$Row;I)V"⟩, prog_7_method_4_code, 3, none, 5)
def mi_Peeling_leaveLine : am_MI := (⟨"TripleSieve$Peeling", "leaveLine", "(Z)I"⟩, prog_7_method_5_code, 2, (some .int), 5)
def mi_Peeling_runLeast : am_MI := (⟨"TripleSieve$Peeling", "runLeast", "(LTripleSieve$Row;)V"⟩, prog_7_method_6_code, 5, none, 5)
def mi_Peeling_goOut : am_MI := (⟨"TripleSieve$Peeling", "goOut", "(LTripleSieve$Row;I)I"⟩, prog_7_method_7_code, 4, (some .int), 5)
def mi_Peeling_fillBack : am_MI := (⟨"TripleSieve$Peeling", "fillBack", "(LTripleSieve$Row;[I[I)V"⟩, prog_7_method_8_code, 8, none, 5)
def mi_Peeling_countWoken : am_MI := (⟨"TripleSieve$Peeling", "countWoken", "(LTripleSieve$Row;I)I"⟩, prog_7_method_9_code, 5, (some .int), 5)
def mi_Reader_read : am_MI := (⟨"TripleSieve$Reader", "read", "(LTripleSieve$Tape;LTripleSieve$Given;)I"⟩, prog_8_method_2_code, 4, (some .int), 6)
def mi_Reader_readSetting : am_MI := (⟨"TripleSieve$Reader", "readSetting", "(LTripleSieve$Tape;LTripleSieve$Given;I)V"⟩, prog_8_method_3_code, 5, none, 6)
def mi_Reader_readKey : am_MI := (⟨"TripleSieve$Reader", "readKey", "(LTripleSieve$Tape;LTripleSieve$Given;)V"⟩, prog_8_method_4_code, 5, none, 6)
def mi_Reader_takeValue : am_MI := (⟨"TripleSieve$Reader", "takeValue", "(LTripleSieve$Tape;LTripleSieve$Given;)I"⟩, prog_8_method_5_code, 3, (some .int), 6)
def mi_Reader_takeNumber : am_MI := (⟨"TripleSieve$Reader", "takeNumber", "(LTripleSieve$Tape;II)I"⟩, prog_8_method_6_code, 5, (some .int), 6)
def mi_Reader_takeChoice : am_MI := (⟨"TripleSieve$Reader", "takeChoice", "(LTripleSieve$Tape;I)I"⟩, prog_8_method_7_code, 4, (some .int), 6)
def mi_Reader_passStop : am_MI := (⟨"TripleSieve$Reader", "passStop", "(LTripleSieve$Tape;)V"⟩, prog_8_method_8_code, 2, none, 6)
def mi_Reader_fail : am_MI := (⟨"TripleSieve$Reader", "fail", "(LTripleSieve$Tape;I)V"⟩, prog_8_method_9_code, 3, none, 6)
def mi_Reader_nameOf : am_MI := (⟨"TripleSieve$Reader", "nameOf", "(I)Ljava/lang/String;"⟩, prog_8_method_10_code, 1, (some (.object "java/lang/String")), 6)
def mi_Reader_choiceOf : am_MI := (⟨"TripleSieve$Reader", "choiceOf", "(II)Ljava/lang/String;"⟩, prog_8_method_11_code, 2, (some (.object "java/lang/String")), 6)
def mi_Rounds_run : am_MI := (⟨"TripleSieve$Rounds", "run", "(LTripleSieve$Row;)I"⟩, prog_9_method_2_code, 3, (some .int), 7)
def mi_Rounds_mark : am_MI := (⟨"TripleSieve$Rounds", "mark", "(LTripleSieve$Row;I)Z"⟩, prog_9_method_3_code, 5, (some .boolean), 7)
def mi_Rounds_takeMarked : am_MI := (⟨"TripleSieve$Rounds", "takeMarked", "(LTripleSieve$Row;I)V"⟩, prog_9_method_4_code, 4, none, 7)
def mi_Row_lay : am_MI := (⟨"TripleSieve$Row", "lay", "(LTripleSieve$Given;LTripleSieve$Marks;II)V"⟩, prog_10_method_2_code, 7, none, 8)
def mi_Row_putBack : am_MI := (⟨"TripleSieve$Row", "putBack", "(I)V"⟩, prog_10_method_3_code, 3, none, 8)
def mi_Row_takeOff : am_MI := (⟨"TripleSieve$Row", "takeOff", "(I)V"⟩, prog_10_method_4_code, 3, none, 8)
def mi_Row_isAlone : am_MI := (⟨"TripleSieve$Row", "isAlone", "(I)Z"⟩, prog_10_method_5_code, 2, (some .boolean), 8)
def mi_Row_countTouched : am_MI := (⟨"TripleSieve$Row", "countTouched", "()I"⟩, prog_10_method_6_code, 3, (some .int), 8)
def mi_Row_leftAt : am_MI := (⟨"TripleSieve$Row", "leftAt", "(I)I"⟩, prog_10_method_7_code, 4, (some .int), 8)
def mi_Row_touchSame : am_MI := (⟨"TripleSieve$Row", "touchSame", "(II)Z"⟩, prog_10_method_8_code, 4, (some .boolean), 8)
def mi_Sieve_describe : am_MI := (⟨"TripleSieve$Sieve", "describe", "(LTripleSieve$Given;II)V"⟩, prog_11_method_2_code, 4, none, 9)
def mi_Sieve_copy : am_MI := (⟨"TripleSieve$Sieve", "copy", "(LTripleSieve$Sieve;)V"⟩, prog_11_method_3_code, 2, none, 9)
def mi_Sieve_length : am_MI := (⟨"TripleSieve$Sieve", "length", "()I"⟩, prog_11_method_4_code, 1, (some .int), 9)
def mi_Sieve_countBits : am_MI := (⟨"TripleSieve$Sieve", "countBits", "()I"⟩, prog_11_method_5_code, 1, (some .int), 9)
def mi_Sieve_aim : am_MI := (⟨"TripleSieve$Sieve", "aim", "(LTripleSieve$Marks;)V"⟩, prog_11_method_6_code, 2, none, 9)
def mi_Sieve_letsThrough : am_MI := (⟨"TripleSieve$Sieve", "letsThrough", "(LTripleSieve$Marks;)Z"⟩, prog_11_method_7_code, 2, (some .boolean), 9)
def mi_Sieve_countUnlike : am_MI := (⟨"TripleSieve$Sieve", "countUnlike", "(LTripleSieve$Sieve;)I"⟩, prog_11_method_8_code, 4, (some .int), 9)
def mi_Tape_append : am_MI := (⟨"TripleSieve$Tape", "append", "(I)V"⟩, prog_12_method_2_code, 3, none, 10)
def mi_Tape_rewind : am_MI := (⟨"TripleSieve$Tape", "rewind", "()V"⟩, prog_12_method_3_code, 1, none, 10)
def mi_Tape_step : am_MI := (⟨"TripleSieve$Tape", "step", "()V"⟩, prog_12_method_4_code, 1, none, 10)
def mi_Tape_takeWord : am_MI := (⟨"TripleSieve$Tape", "takeWord", "()V"⟩, prog_12_method_5_code, 1, none, 10)
def mi_Tape_takeNumber : am_MI := (⟨"TripleSieve$Tape", "takeNumber", "()V"⟩, prog_12_method_6_code, 2, none, 10)
def mi_Tape_isWord : am_MI := (⟨"TripleSieve$Tape", "isWord", "(Ljava/lang/String;)Z"⟩, prog_12_method_7_code, 3, (some .boolean), 10)
def mi_Tape_isLetter : am_MI := (⟨"TripleSieve$Tape", "isLetter", "(B)Z"⟩, prog_12_method_8_code, 1, (some .boolean), 10)
def mi_Tape_isDigit : am_MI := (⟨"TripleSieve$Tape", "isDigit", "(B)Z"⟩, prog_12_method_9_code, 1, (some .boolean), 10)
def mi_T_feed : am_MI := (⟨"TripleSieve", "feed", "(IIIII)I"⟩, prog_1_method_2_code, 6, (some .int), 11)
def mi_T_end : am_MI := (⟨"TripleSieve", "end", "(I)Z"⟩, prog_1_method_3_code, 2, (some .boolean), 11)
def mi_T_text : am_MI := (⟨"TripleSieve", "text", "()I"⟩, prog_1_method_4_code, 3, (some .int), 11)
def mi_T_key : am_MI := (⟨"TripleSieve", "key", "(I)J"⟩, prog_1_method_5_code, 2, (some .long), 11)
def mi_T_worth : am_MI := (⟨"TripleSieve", "worth", "(I)I"⟩, prog_1_method_6_code, 2, (some .int), 11)
def mi_T_add : am_MI := (⟨"TripleSieve", "add", "(JI)I"⟩, prog_1_method_7_code, 4, (some .int), 11)
def mi_T_gone : am_MI := (⟨"TripleSieve", "gone", "(J)I"⟩, prog_1_method_8_code, 4, (some .int), 11)
def mi_T_turn : am_MI := (⟨"TripleSieve", "turn", "(II)I"⟩, prog_1_method_9_code, 4, (some .int), 11)
def mi_T_set : am_MI := (⟨"TripleSieve", "set", "(II)I"⟩, prog_1_method_10_code, 4, (some .int), 11)
def mi_T_hash : am_MI := (⟨"TripleSieve", "hash", "(JI)J"⟩, prog_1_method_11_code, 4, (some .long), 11)
def mi_T_cell : am_MI := (⟨"TripleSieve", "cell", "(JI)I"⟩, prog_1_method_12_code, 4, (some .int), 11)
def mi_T_print : am_MI := (⟨"TripleSieve", "print", "(J)I"⟩, prog_1_method_13_code, 3, (some .int), 11)
def mi_T_load : am_MI := (⟨"TripleSieve", "load", "(I)I"⟩, prog_1_method_14_code, 2, (some .int), 11)
def mi_T_twins : am_MI := (⟨"TripleSieve", "twins", "()I"⟩, prog_1_method_15_code, 4, (some .int), 11)
def mi_T_peel : am_MI := (⟨"TripleSieve", "peel", "(II)I"⟩, prog_1_method_16_code, 3, (some .int), 11)
def mi_T_core : am_MI := (⟨"TripleSieve", "core", "(I)I"⟩, prog_1_method_17_code, 2, (some .int), 11)
def mi_T_level : am_MI := (⟨"TripleSieve", "level", "(I)I"⟩, prog_1_method_18_code, 3, (some .int), 11)
def mi_T_rank : am_MI := (⟨"TripleSieve", "rank", "()I"⟩, prog_1_method_19_code, 1, (some .int), 11)
def mi_T_mend : am_MI := (⟨"TripleSieve", "mend", "(I)I"⟩, prog_1_method_20_code, 2, (some .int), 11)
def mi_T_tight : am_MI := (⟨"TripleSieve", "tight", "()I"⟩, prog_1_method_21_code, 2, (some .int), 11)
def mi_T_peels : am_MI := (⟨"TripleSieve", "peels", "(I)I"⟩, prog_1_method_22_code, 4, (some .int), 11)
def mi_T_wake : am_MI := (⟨"TripleSieve", "wake", "(II)I"⟩, prog_1_method_23_code, 3, (some .int), 11)
def mi_T_build : am_MI := (⟨"TripleSieve", "build", "(I)I"⟩, prog_1_method_24_code, 4, (some .int), 11)
def mi_T_built : am_MI := (⟨"TripleSieve", "built", "(I)I"⟩, prog_1_method_25_code, 2, (some .int), 11)
def mi_T_filled : am_MI := (⟨"TripleSieve", "filled", "(IZ)I"⟩, prog_1_method_26_code, 3, (some .int), 11)
def mi_T_passes : am_MI := (⟨"TripleSieve", "passes", "(J)Z"⟩, prog_1_method_27_code, 3, (some .boolean), 11)
def mi_T_told : am_MI := (⟨"TripleSieve", "told", "(J)I"⟩, prog_1_method_28_code, 3, (some .int), 11)
def mi_T_right : am_MI := (⟨"TripleSieve", "right", "()I"⟩, prog_1_method_29_code, 3, (some .int), 11)
def mi_T_strangers : am_MI := (⟨"TripleSieve", "strangers", "(JII)I"⟩, prog_1_method_30_code, 7, (some .int), 11)
def mi_T_shelf : am_MI := (⟨"TripleSieve", "shelf", "(IZ)Z"⟩, prog_1_method_31_code, 5, (some .boolean), 11)
def mi_T_unlike : am_MI := (⟨"TripleSieve", "unlike", "(I)I"⟩, prog_1_method_32_code, 2, (some .int), 11)
def mi_T_undo : am_MI := (⟨"TripleSieve", "undo", "()I"⟩, prog_1_method_33_code, 1, (some .int), 11)
def mi_T_count : am_MI := (⟨"TripleSieve", "count", "(I)I"⟩, prog_1_method_34_code, 2, (some .int), 11)
def mi_T_lookNow : am_MI := (⟨"TripleSieve", "lookNow", "(J)V"⟩, prog_1_method_35_code, 3, none, 11)
def mi_T_layNow : am_MI := (⟨"TripleSieve", "layNow", "()V"⟩, prog_1_method_36_code, 1, none, 11)
def mi_T_peelNow : am_MI := (⟨"TripleSieve", "peelNow", "()V"⟩, prog_1_method_37_code, 1, none, 11)
def mi_T_allPeel : am_MI := (⟨"TripleSieve", "allPeel", "(II)Z"⟩, prog_1_method_38_code, 3, (some .boolean), 11)
def mi_M_thrown : am_MI := (⟨"TripleSieveModel", "thrown", "()I"⟩, prog_14_method_1_code, 1, (some .int), 12)
def mi_M_refuse : am_MI := (⟨"TripleSieveModel", "refuse", "()J"⟩, prog_14_method_2_code, 1, (some .long), 12)
def mi_M_isIn : am_MI := (⟨"TripleSieveModel", "isIn", "(III)Z"⟩, prog_14_method_3_code, 3, (some .boolean), 12)
def mi_M_lays : am_MI := (⟨"TripleSieveModel", "lays", "(I)V"⟩, prog_14_method_4_code, 3, none, 12)
def mi_M_feed : am_MI := (⟨"TripleSieveModel", "feed", "(IIIII)I"⟩, prog_14_method_5_code, 6, (some .int), 12)
def mi_M_end : am_MI := (⟨"TripleSieveModel", "end", "(I)Z"⟩, prog_14_method_6_code, 2, (some .boolean), 12)
def mi_M_tapeAt : am_MI := (⟨"TripleSieveModel", "tapeAt", "(I)I"⟩, prog_14_method_7_code, 2, (some .int), 12)
def mi_M_isDigit : am_MI := (⟨"TripleSieveModel", "isDigit", "(I)Z"⟩, prog_14_method_8_code, 1, (some .boolean), 12)
def mi_M_isLetter : am_MI := (⟨"TripleSieveModel", "isLetter", "(I)Z"⟩, prog_14_method_9_code, 1, (some .boolean), 12)
def mi_M_go : am_MI := (⟨"TripleSieveModel", "go", "()V"⟩, prog_14_method_10_code, 2, none, 12)
def mi_M_three : am_MI := (⟨"TripleSieveModel", "three", "(III)J"⟩, prog_14_method_11_code, 3, (some .long), 12)
def mi_M_five : am_MI := (⟨"TripleSieveModel", "five", "(IIIII)J"⟩, prog_14_method_12_code, 5, (some .long), 12)
def mi_M_six : am_MI := (⟨"TripleSieveModel", "six", "(IIIIII)J"⟩, prog_14_method_13_code, 6, (some .long), 12)
def mi_M_isWord : am_MI := (⟨"TripleSieveModel", "isWord", "(J)Z"⟩, prog_14_method_14_code, 3, (some .boolean), 12)
def mi_M_bad : am_MI := (⟨"TripleSieveModel", "bad", "(I)Z"⟩, prog_14_method_15_code, 2, (some .boolean), 12)
def mi_M_begins : am_MI := (⟨"TripleSieveModel", "begins", "([I)V"⟩, prog_14_method_17_code, 1, none, 12)
def mi_M_lowOf : am_MI := (⟨"TripleSieveModel", "lowOf", "(I)I"⟩, prog_14_method_18_code, 1, (some .int), 12)
def mi_M_highOf : am_MI := (⟨"TripleSieveModel", "highOf", "(I)I"⟩, prog_14_method_19_code, 1, (some .int), 12)
def mi_M_nameOf : am_MI := (⟨"TripleSieveModel", "nameOf", "(I)J"⟩, prog_14_method_20_code, 1, (some .long), 12)
def mi_M_wayHere : am_MI := (⟨"TripleSieveModel", "wayHere", "()I"⟩, prog_14_method_21_code, 1, (some .int), 12)
def mi_M_spreadHere : am_MI := (⟨"TripleSieveModel", "spreadHere", "()I"⟩, prog_14_method_22_code, 1, (some .int), 12)
def mi_M_readSetting : am_MI := (⟨"TripleSieveModel", "readSetting", "(I)Z"⟩, prog_14_method_23_code, 3, (some .boolean), 12)
def mi_M_readEnd : am_MI := (⟨"TripleSieveModel", "readEnd", "()Z"⟩, prog_14_method_24_code, 1, (some .boolean), 12)
def mi_M_readKey : am_MI := (⟨"TripleSieveModel", "readKey", "()Z"⟩, prog_14_method_25_code, 2, (some .boolean), 12)
def mi_M_readWhole : am_MI := (⟨"TripleSieveModel", "readWhole", "()Z"⟩, prog_14_method_26_code, 2, (some .boolean), 12)
def mi_M_text : am_MI := (⟨"TripleSieveModel", "text", "()I"⟩, prog_14_method_27_code, 2, (some .int), 12)
def mi_M_isKey : am_MI := (⟨"TripleSieveModel", "isKey", "(I)Z"⟩, prog_14_method_28_code, 2, (some .boolean), 12)
def mi_M_isValue : am_MI := (⟨"TripleSieveModel", "isValue", "(I)Z"⟩, prog_14_method_29_code, 2, (some .boolean), 12)
def mi_M_indexOf : am_MI := (⟨"TripleSieveModel", "indexOf", "(J)I"⟩, prog_14_method_30_code, 4, (some .int), 12)
def mi_M_snap : am_MI := (⟨"TripleSieveModel", "snap", "()V"⟩, prog_14_method_31_code, 2, none, 12)
def mi_M_undo : am_MI := (⟨"TripleSieveModel", "undo", "()I"⟩, prog_14_method_32_code, 2, (some .int), 12)
def mi_M_key : am_MI := (⟨"TripleSieveModel", "key", "(I)J"⟩, prog_14_method_33_code, 2, (some .long), 12)
def mi_M_worth : am_MI := (⟨"TripleSieveModel", "worth", "(I)I"⟩, prog_14_method_34_code, 2, (some .int), 12)
def mi_M_add : am_MI := (⟨"TripleSieveModel", "add", "(JI)I"⟩, prog_14_method_35_code, 4, (some .int), 12)
def mi_M_gone : am_MI := (⟨"TripleSieveModel", "gone", "(J)I"⟩, prog_14_method_36_code, 5, (some .int), 12)
def mi_M_turn : am_MI := (⟨"TripleSieveModel", "turn", "(II)I"⟩, prog_14_method_37_code, 4, (some .int), 12)
def mi_M_set : am_MI := (⟨"TripleSieveModel", "set", "(II)I"⟩, prog_14_method_38_code, 4, (some .int), 12)
def mi_M_mix : am_MI := (⟨"TripleSieveModel", "mix", "(J)J"⟩, prog_14_method_39_code, 6, (some .long), 12)
def mi_M_hashOf : am_MI := (⟨"TripleSieveModel", "hashOf", "(JJ)J"⟩, prog_14_method_40_code, 4, (some .long), 12)
def mi_M_printOf : am_MI := (⟨"TripleSieveModel", "printOf", "(JI)I"⟩, prog_14_method_41_code, 3, (some .int), 12)
def mi_M_part : am_MI := (⟨"TripleSieveModel", "part", "(JI)I"⟩, prog_14_method_42_code, 3, (some .int), 12)
def mi_M_lays3 : am_MI := (⟨"TripleSieveModel", "lays3", "(JII)V"⟩, prog_14_method_43_code, 7, none, 12)
def mi_M_touchesBy : am_MI := (⟨"TripleSieveModel", "touchesBy", "(I)Z"⟩, prog_14_method_44_code, 4, (some .boolean), 12)
def mi_M_hash : am_MI := (⟨"TripleSieveModel", "hash", "(JI)J"⟩, prog_14_method_45_code, 4, (some .long), 12)
def mi_M_cell : am_MI := (⟨"TripleSieveModel", "cell", "(JI)I"⟩, prog_14_method_46_code, 4, (some .int), 12)
def mi_M_print : am_MI := (⟨"TripleSieveModel", "print", "(J)I"⟩, prog_14_method_47_code, 3, (some .int), 12)
def mi_M_nets : am_MI := (⟨"TripleSieveModel", "nets", "(IJI)V"⟩, prog_14_method_48_code, 7, none, 12)
def mi_M_netNow : am_MI := (⟨"TripleSieveModel", "netNow", "()V"⟩, prog_14_method_49_code, 1, none, 12)
def mi_M_takesOut : am_MI := (⟨"TripleSieveModel", "takesOut", "(I)V"⟩, prog_14_method_50_code, 3, none, 12)
def mi_M_nextCell : am_MI := (⟨"TripleSieveModel", "nextCell", "(II)I"⟩, prog_14_method_51_code, 4, (some .int), 12)
def mi_M_comesBehind : am_MI := (⟨"TripleSieveModel", "comesBehind", "(I)V"⟩, prog_14_method_52_code, 2, none, 12)
def mi_M_peelsBy : am_MI := (⟨"TripleSieveModel", "peelsBy", "(II)V"⟩, prog_14_method_53_code, 6, none, 12)
def mi_M_isOf : am_MI := (⟨"TripleSieveModel", "isOf", "(II)Z"⟩, prog_14_method_54_code, 4, (some .boolean), 12)
def mi_M_peelNow : am_MI := (⟨"TripleSieveModel", "peelNow", "()V"⟩, prog_14_method_55_code, 1, none, 12)
def mi_M_peelsAll : am_MI := (⟨"TripleSieveModel", "peelsAll", "(IJI)Z"⟩, prog_14_method_56_code, 5, (some .boolean), 12)
def mi_M_load : am_MI := (⟨"TripleSieveModel", "load", "(I)I"⟩, prog_14_method_57_code, 2, (some .int), 12)
def mi_M_twins : am_MI := (⟨"TripleSieveModel", "twins", "()I"⟩, prog_14_method_58_code, 4, (some .int), 12)
def mi_M_areTwins : am_MI := (⟨"TripleSieveModel", "areTwins", "(II)Z"⟩, prog_14_method_59_code, 4, (some .boolean), 12)
def mi_M_peel : am_MI := (⟨"TripleSieveModel", "peel", "(II)I"⟩, prog_14_method_60_code, 3, (some .int), 12)
def mi_M_core : am_MI := (⟨"TripleSieveModel", "core", "(I)I"⟩, prog_14_method_61_code, 4, (some .int), 12)
def mi_M_laysLevels : am_MI := (⟨"TripleSieveModel", "laysLevels", "()I"⟩, prog_14_method_62_code, 5, (some .int), 12)
def mi_M_level : am_MI := (⟨"TripleSieveModel", "level", "(I)I"⟩, prog_14_method_63_code, 3, (some .int), 12)
def mi_M_rank : am_MI := (⟨"TripleSieveModel", "rank", "()I"⟩, prog_14_method_64_code, 9, (some .int), 12)
def mi_M_findsOut : am_MI := (⟨"TripleSieveModel", "findsOut", "(III)Z"⟩, prog_14_method_65_code, 5, (some .boolean), 12)
def mi_M_mend : am_MI := (⟨"TripleSieveModel", "mend", "(I)I"⟩, prog_14_method_66_code, 3, (some .int), 12)
def mi_M_tight : am_MI := (⟨"TripleSieveModel", "tight", "()I"⟩, prog_14_method_67_code, 2, (some .int), 12)
def mi_M_peels : am_MI := (⟨"TripleSieveModel", "peels", "(I)I"⟩, prog_14_method_68_code, 4, (some .int), 12)
def mi_M_fills : am_MI := (⟨"TripleSieveModel", "fills", "(J)V"⟩, prog_14_method_69_code, 10, none, 12)
def mi_M_wake : am_MI := (⟨"TripleSieveModel", "wake", "(II)I"⟩, prog_14_method_70_code, 6, (some .int), 12)
def mi_M_build : am_MI := (⟨"TripleSieveModel", "build", "(I)I"⟩, prog_14_method_71_code, 5, (some .int), 12)
def mi_M_built : am_MI := (⟨"TripleSieveModel", "built", "(I)I"⟩, prog_14_method_72_code, 2, (some .int), 12)
def mi_M_filled : am_MI := (⟨"TripleSieveModel", "filled", "(IZ)I"⟩, prog_14_method_73_code, 3, (some .int), 12)
def mi_M_asks : am_MI := (⟨"TripleSieveModel", "asks", "(J)Z"⟩, prog_14_method_74_code, 7, (some .boolean), 12)
def mi_M_passes : am_MI := (⟨"TripleSieveModel", "passes", "(J)Z"⟩, prog_14_method_75_code, 3, (some .boolean), 12)
def mi_M_told : am_MI := (⟨"TripleSieveModel", "told", "(J)I"⟩, prog_14_method_76_code, 3, (some .int), 12)
def mi_M_right : am_MI := (⟨"TripleSieveModel", "right", "()I"⟩, prog_14_method_77_code, 3, (some .int), 12)
def mi_M_strangers : am_MI := (⟨"TripleSieveModel", "strangers", "(JII)I"⟩, prog_14_method_78_code, 7, (some .int), 12)
def mi_M_copies : am_MI := (⟨"TripleSieveModel", "copies", "(II)V"⟩, prog_14_method_79_code, 4, none, 12)
def mi_M_shelf : am_MI := (⟨"TripleSieveModel", "shelf", "(IZ)Z"⟩, prog_14_method_80_code, 3, (some .boolean), 12)
def mi_M_unlike : am_MI := (⟨"TripleSieveModel", "unlike", "(I)I"⟩, prog_14_method_81_code, 4, (some .int), 12)
def mi_M_emptyCells : am_MI := (⟨"TripleSieveModel", "emptyCells", "()I"⟩, prog_14_method_82_code, 3, (some .int), 12)
def mi_M_count : am_MI := (⟨"TripleSieveModel", "count", "(I)I"⟩, prog_14_method_83_code, 2, (some .int), 12)
def mi_L_law : am_MI := (x, code, 8, ret, 13)
def mi_Arrays_fill : am_MI := (⟨"java/util/Arrays", "fill", "([II)V"⟩, prog_29_method_103_code, 4, none, 14)
def mi_Math_min : am_MI := (⟨"java/lang/Math", "min", "(II)I"⟩, prog_20_method_69_code, 2, (some .int), 15)
def mi_Math_max : am_MI := (⟨"java/lang/Math", "max", "(II)I"⟩, prog_20_method_65_code, 2, (some .int), 15)
def mi_String_length : am_MI := (⟨"java/lang/String", "length", "()I"⟩, prog_22_method_54_code, 1, (some .int), 16)
def mi_String_charAt : am_MI := (⟨"java/lang/String", "charAt", "(I)C"⟩, prog_22_method_56_code, 2, (some .char), 16)
def am_ml : List am_MI := [mi_Acts_forget, mi_Acts_note, mi_Acts_undoLatest, mi_Basis_independent, mi_Basis_join, mi_Given_reset, mi_Given_copy, mi_Given_has, mi_Given_find, mi_Given_insert, mi_Given_drop, mi_Given_revalue, mi_Given_resettle, mi_Given_canBeValue, mi_Given_fitsBits, mi_Given_canBeSetting, mi_Marks_mix, mi_Marks_aim, mi_Marks_look, mi_Marks_placeApart, mi_Marks_placeClose, mi_Marks_placeFree, mi_Marks_share, mi_Marks_gatherTouched, mi_Marks_touchOnly, mi_Marks_sum, mi_Mender_search, mi_Mender_choose, mi_Mender_leaveOut, mi_Mender_take, mi_Mender_bringBack, mi_Peeling_run, mi_Peeling_runLine, mi_Peeling_lineUp, mi_Peeling_leaveLine, mi_Peeling_runLeast, mi_Peeling_goOut, mi_Peeling_fillBack, mi_Peeling_countWoken, mi_Reader_read, mi_Reader_readSetting, mi_Reader_readKey, mi_Reader_takeValue, mi_Reader_takeNumber, mi_Reader_takeChoice, mi_Reader_passStop, mi_Reader_fail, mi_Reader_nameOf, mi_Reader_choiceOf, mi_Rounds_run, mi_Rounds_mark, mi_Rounds_takeMarked, mi_Row_lay, mi_Row_putBack, mi_Row_takeOff, mi_Row_isAlone, mi_Row_countTouched, mi_Row_leftAt, mi_Row_touchSame, mi_Sieve_describe, mi_Sieve_copy, mi_Sieve_length, mi_Sieve_countBits, mi_Sieve_aim, mi_Sieve_letsThrough, mi_Sieve_countUnlike, mi_Tape_append, mi_Tape_rewind, mi_Tape_step, mi_Tape_takeWord, mi_Tape_takeNumber, mi_Tape_isWord, mi_Tape_isLetter, mi_Tape_isDigit, mi_T_feed, mi_T_end, mi_T_text, mi_T_key, mi_T_worth, mi_T_add, mi_T_gone, mi_T_turn, mi_T_set, mi_T_hash, mi_T_cell, mi_T_print, mi_T_load, mi_T_twins, mi_T_peel, mi_T_core, mi_T_level, mi_T_rank, mi_T_mend, mi_T_tight, mi_T_peels, mi_T_wake, mi_T_build, mi_T_built, mi_T_filled, mi_T_passes, mi_T_told, mi_T_right, mi_T_strangers, mi_T_shelf, mi_T_unlike, mi_T_undo, mi_T_count, mi_T_lookNow, mi_T_layNow, mi_T_peelNow, mi_T_allPeel, mi_M_thrown, mi_M_refuse, mi_M_isIn, mi_M_lays, mi_M_feed, mi_M_end, mi_M_tapeAt, mi_M_isDigit, mi_M_isLetter, mi_M_go, mi_M_three, mi_M_five, mi_M_six, mi_M_isWord, mi_M_bad, mi_M_begins, mi_M_lowOf, mi_M_highOf, mi_M_nameOf, mi_M_wayHere, mi_M_spreadHere, mi_M_readSetting, mi_M_readEnd, mi_M_readKey, mi_M_readWhole, mi_M_text, mi_M_isKey, mi_M_isValue, mi_M_indexOf, mi_M_snap, mi_M_undo, mi_M_key, mi_M_worth, mi_M_add, mi_M_gone, mi_M_turn, mi_M_set, mi_M_mix, mi_M_hashOf, mi_M_printOf, mi_M_part, mi_M_lays3, mi_M_touchesBy, mi_M_hash, mi_M_cell, mi_M_print, mi_M_nets, mi_M_netNow, mi_M_takesOut, mi_M_nextCell, mi_M_comesBehind, mi_M_peelsBy, mi_M_isOf, mi_M_peelNow, mi_M_peelsAll, mi_M_load, mi_M_twins, mi_M_areTwins, mi_M_peel, mi_M_core, mi_M_laysLevels, mi_M_level, mi_M_rank, mi_M_findsOut, mi_M_mend, mi_M_tight, mi_M_peels, mi_M_fills, mi_M_wake, mi_M_build, mi_M_built, mi_M_filled, mi_M_asks, mi_M_passes, mi_M_told, mi_M_right, mi_M_strangers, mi_M_copies, mi_M_shelf, mi_M_unlike, mi_M_emptyCells, mi_M_count, mi_L_law, mi_Arrays_fill, mi_Math_min, mi_Math_max, mi_String_length, mi_String_charAt]
/-- where the code word of a method stands -/
def am_mw : List Nat := [678, 699, 1033, 892, 896, 522, 674, 686, 660, 670, 711, 720, 646, 694, 729, 649, 737, 751, 756, 760, 768, 772, 763, 776, 780, 995, 904, 908, 916, 920, 926, 829, 849, 853, 857, 833, 841, 952, 947, 518, 551, 655, 665, 621, 629, 642, 625, 554, 632, 873, 878, 883, 800, 809, 845, 837, 912, 865, 817, 960, 1016, 973, 969, 986, 991, 1025, 506, 529, 533, 540, 547, 564, 536, 543, 502, 510, 514, 1050, 682, 690, 707, 716, 724, 734, 743, 788, 792, 813, 821, 861, 869, 888, 900, 931, 939, 943, 956, 965, 977, 982, 999, 1004, 1008, 1012, 1021, 1029, 1041, 747, 796, 825, 935, 1115, 1379, 1354, 1124, 1119, 1128, 1299, 1304, 1295, 1292, 1318, 1314, 1321, 1327, 1344, 1136, 1347, 1350, 1311, 1335, 1339, 1331, 1358, 1362, 1308, 1288, 1375, 1391, 1395, 1399, 1367, 1371, 1383, 1387, 1403, 1407, 1411, 1421, 1418, 1443, 1434, 1431, 1459, 1415, 1427, 1440, 1455, 1451, 1495, 1491, 1487, 1483, 1471, 1479, 1523, 1447, 1463, 1467, 1475, 1499, 1507, 1503, 1511, 1519, 1515, 1527, 1531, 1539, 1535, 1543, 1547, 1551, 1559, 1555, 1563, 1567, 1571, 1579, 1575, 1583, 1591, 1587, 0, 804, 702, 784, 568, 578]
/-- by class: (index, field, nest, word) -/
def am_ft : List (List (Nat × Nat × Nat × Nat)) := [
  [(9, 0, 0, 230), (15, 1, 0, 231), (18, 2, 0, 232), (22, 3, 0, 233), (25, 5, 0, 235), (29, 4, 0, 234)], 
  [(9, 100, 0, 394), (15, 101, 0, 395), (18, 102, 0, 396), (22, 806, 1, 311), (27, 801, 1, 298), (31, 800, 1, 294)], 
  [(9, 200, 0, 194), (15, 201, 0, 197), (27, 202, 0, 199), (30, 203, 0, 204), (40, 204, 0, 209)], 
  [(9, 300, 0, 256), (15, 301, 0, 258), (26, 304, 0, 266), (30, 305, 0, 267), (34, 306, 0, 268), (37, 307, 0, 269), (40, 303, 0, 263), (74, 302, 0, 261)], 
  [(9, 400, 0, 410), (15, 402, 0, 414), (19, 403, 0, 416), (22, 405, 0, 418), (25, 404, 0, 417), (28, 807, 1, 316), (33, 401, 0, 412), (44, 806, 1, 313), (47, 803, 1, 304), (58, 406, 0, 419), (68, 805, 1, 309), (75, 801, 1, 300), (78, 800, 1, 296)], 
  [(9, 500, 0, 349), (15, 501, 0, 351), (18, 503, 0, 355), (21, 506, 0, 358), (24, 507, 0, 359), (27, 502, 0, 353), (39, 504, 0, 356), (42, 505, 0, 357), (45, 808, 1, 321), (66, 801, 1, 299), (69, 800, 1, 295), (72, 805, 1, 310)], 
  [(9, 600, 0, 175), (29, 1002, 1, 148), (76, 203, 1, 207), (79, 1005, 1, 153), (97, 202, 1, 202), (104, 1003, 1, 151)], 
  [(9, 700, 0, 383), (29, 808, 1, 320), (39, 805, 1, 308), (42, 806, 1, 314)], 
  [(9, 800, 0, 293), (15, 801, 0, 297), (18, 802, 0, 301), (21, 803, 0, 303), (25, 804, 0, 305), (28, 805, 0, 307), (31, 202, 1, 200), (42, 203, 1, 205), (46, 806, 0, 312), (49, 807, 0, 317), (52, 808, 0, 319), (61, 200, 1, 195), (69, 302, 1, 260), (71, 303, 1, 262), (74, 301, 1, 259)], 
  [(11, 900, 0, 441), (15, 901, 0, 443), (18, 902, 0, 445), (21, 202, 1, 201), (26, 203, 1, 206), (30, 903, 0, 447), (50, 303, 1, 264)], 
  [(9, 1000, 0, 145), (15, 1001, 0, 147), (19, 1004, 0, 152), (25, 1003, 0, 150), (28, 1002, 0, 149), (44, 1005, 0, 154)], 
  [(12, 1100, 0, 459), (19, 1101, 0, 460), (26, 1102, 0, 461), (30, 1103, 0, 462), (36, 1104, 0, 463), (43, 1105, 0, 464), (50, 1106, 0, 465), (57, 1107, 0, 466), (64, 1108, 0, 467), (71, 1109, 0, 468), (78, 1110, 0, 469), (85, 1111, 0, 470), (89, 1112, 0, 471), (93, 1001, 1, 146), (112, 903, 1, 448), (116, 203, 1, 208), (126, 200, 1, 196), (130, 201, 1, 198), (163, 202, 1, 203), (177, 300, 1, 257), (180, 303, 1, 265), (186, 804, 1, 306), (189, 806, 1, 315), (198, 502, 1, 354), (201, 500, 1, 350), (204, 501, 1, 352), (207, 807, 1, 318), (218, 700, 1, 384), (224, 402, 1, 415), (227, 204, 1, 210), (232, 401, 1, 413), (235, 400, 1, 411), (249, 802, 1, 302), (252, 901, 1, 444), (257, 902, 1, 446), (262, 900, 1, 442), (289, 5, 1, 236), (293, 808, 1, 322)], 
  [(1, 1200, 0, 1137), (7, 1201, 0, 1138), (11, 1202, 0, 1139), (18, 1203, 0, 1140), (21, 1204, 0, 1141), (24, 1205, 0, 1142), (27, 1206, 0, 1143), (30, 1210, 0, 1147), (34, 1207, 0, 1144), (62, 1208, 0, 1145), (65, 1209, 0, 1146), (74, 1211, 0, 1148), (78, 1212, 0, 1149), (81, 1213, 0, 1150), (84, 1214, 0, 1151), (87, 1215, 0, 1152), (90, 1216, 0, 1153), (93, 1217, 0, 1154), (96, 1218, 0, 1155), (99, 1219, 0, 1156), (102, 1220, 0, 1157), (105, 1224, 0, 1161), (108, 1225, 0, 1162), (111, 1226, 0, 1163), (114, 1227, 0, 1164), (117, 1228, 0, 1165), (120, 1229, 0, 1166), (124, 1231, 0, 1168), (127, 1232, 0, 1169), (130, 1233, 0, 1170), (133, 1234, 0, 1171), (136, 1238, 0, 1175), (139, 1239, 0, 1176), (142, 1240, 0, 1177), (145, 1241, 0, 1178), (148, 1242, 0, 1179), (151, 1243, 0, 1180), (154, 1244, 0, 1181), (157, 1245, 0, 1182), (160, 1246, 0, 1183), (163, 1247, 0, 1184), (212, 1222, 0, 1159), (230, 1221, 0, 1158), (233, 1223, 0, 1160), (278, 1230, 0, 1167), (288, 1235, 0, 1172), (291, 1236, 0, 1173), (294, 1237, 0, 1174), (338, 1248, 0, 1185)], 
  [], 
  [], 
  [], 
  []]
def am_gs : List (List (Nat × Nat × Nat × Nat)) := [
  [], 
  [], 
  [(19, 902, 1, 185), (51, 900, 1, 650), (54, 901, 1, 651)], 
  [], 
  [], 
  [], 
  [(47, 900, 1, 614), (51, 901, 1, 616)], 
  [], 
  [], 
  [], 
  [], 
  [], 
  [], 
  [], 
  [], 
  [], 
  []]
/-- by class: (index, method, kind, shape, word, static or instanceMethod, selects, initialized) -/
def am_mt : List (List (Nat × Nat × Nat × Nat × Nat × Nat × Nat × Nat)) := [
  [(32, 195, 0, 21, 700, 701, 0, 129), (38, 10, 3, 3020, 1034, 710, 23, 110), (44, 9, 3, 3040, 1035, 669, 17, 110), (48, 11, 3, 3030, 1036, 719, 24, 110), (52, 12, 3, 3030, 1037, 645, 13, 110)], 
  [(34, 4, 2, 2030, 893, 895, 52, 116)], 
  [(43, 7, 2, 3021, 712, 685, 20, 110), (47, 15, 0, 21, 647, 648, 0, 110)], 
  [(22, 16, 0, 12, 752, 736, 0, 112), (43, 19, 2, 4020, 757, 759, 29, 112), (47, 20, 2, 4020, 765, 767, 30, 112), (50, 21, 2, 4020, 769, 771, 31, 112), (53, 23, 2, 4010, 773, 775, 32, 112), (56, 22, 0, 31, 761, 762, 0, 112), (61, 24, 2, 4020, 777, 779, 33, 112), (65, 195, 0, 21, 781, 701, 0, 129), (71, 196, 0, 21, 782, 783, 0, 129)], 
  [(36, 27, 2, 5051, 905, 907, 54, 117), (40, 56, 3, 9011, 909, 911, 55, 113), (51, 28, 2, 5030, 913, 915, 56, 117), (55, 30, 2, 5030, 923, 925, 58, 117), (61, 29, 2, 5030, 917, 919, 57, 117), (64, 55, 3, 9021, 922, 836, 41, 113), (71, 54, 3, 9020, 921, 844, 43, 113), (81, 53, 3, 9020, 927, 808, 36, 113)], 
  [(31, 35, 2, 6020, 830, 832, 40, 114), (35, 32, 2, 6030, 846, 848, 44, 114), (50, 33, 2, 6030, 850, 852, 45, 114), (54, 34, 2, 6021, 854, 856, 46, 114), (58, 55, 3, 9021, 834, 836, 41, 113), (62, 36, 2, 6031, 838, 840, 42, 114), (75, 54, 3, 9020, 842, 844, 43, 113), (79, 194, 0, 20, 948, 803, 0, 130), (85, 37, 2, 6040, 949, 951, 61, 114)], 
  [(15, 5, 3, 3010, 519, 521, 2, 110), (20, 67, 3, 11010, 526, 528, 3, 108), (25, 40, 2, 7040, 548, 550, 7, 109), (32, 41, 2, 7030, 652, 654, 14, 109), (36, 47, 0, 13, 552, 553, 0, 109), (40, 71, 3, 11021, 561, 563, 8, 108), (44, 68, 3, 11010, 613, 532, 4, 108), (54, 43, 2, 7041, 618, 620, 9, 109), (58, 44, 2, 7031, 626, 628, 11, 109), (62, 45, 2, 7020, 639, 641, 12, 109), (66, 12, 3, 3030, 643, 645, 13, 110), (72, 46, 2, 7030, 622, 624, 10, 109), (82, 8, 3, 3021, 657, 659, 15, 110), (87, 42, 2, 7031, 662, 664, 16, 109), (91, 9, 3, 3040, 667, 669, 17, 110), (100, 48, 0, 23, 630, 631, 0, 109)], 
  [(15, 194, 0, 20, 874, 803, 0, 130), (21, 50, 2, 8031, 875, 877, 49, 115), (25, 51, 2, 8030, 880, 882, 50, 115), (35, 55, 3, 9021, 879, 836, 41, 113), (45, 54, 3, 9020, 884, 844, 43, 113)], 
  [(36, 17, 3, 4050, 801, 750, 27, 112), (55, 194, 0, 20, 802, 803, 0, 130), (65, 18, 3, 4020, 805, 755, 28, 112), (75, 53, 2, 9020, 806, 808, 36, 113)], 
  [(40, 61, 2, 10011, 970, 972, 64, 118), (44, 17, 3, 4050, 987, 750, 27, 112), (53, 25, 3, 4021, 992, 994, 67, 112)], 
  [(22, 68, 2, 11010, 530, 532, 4, 108), (31, 72, 0, 11, 534, 535, 0, 108), (35, 69, 2, 11010, 537, 539, 5, 108), (38, 73, 0, 11, 541, 542, 0, 108), (41, 70, 2, 11010, 544, 546, 6, 108), (47, 197, 2, 17011, 565, 566, 567, 121), (52, 198, 2, 17021, 575, 576, 577, 121)], 
  [(97, 66, 3, 11020, 503, 505, 0, 108), (101, 39, 3, 7031, 515, 517, 1, 109), (105, 6, 3, 3020, 671, 673, 18, 110), (109, 0, 3, 1010, 675, 677, 19, 111), (119, 7, 3, 3021, 683, 685, 20, 110), (134, 13, 3, 3021, 691, 693, 21, 110), (137, 8, 3, 3021, 695, 659, 15, 110), (141, 1, 3, 1050, 696, 698, 22, 111), (145, 9, 3, 3040, 703, 669, 17, 110), (149, 10, 3, 3020, 708, 710, 23, 110), (152, 11, 3, 3030, 717, 719, 24, 110), (156, 15, 1, 21, 725, 648, 0, 110), (160, 14, 3, 3021, 726, 728, 25, 110), (166, 12, 3, 3030, 730, 645, 13, 110), (169, 16, 1, 12, 735, 736, 0, 112), (173, 107, 2, 12020, 744, 746, 26, 107), (183, 108, 2, 12010, 793, 795, 34, 107), (192, 58, 3, 9031, 814, 816, 37, 113), (195, 109, 2, 12010, 822, 824, 38, 107), (210, 57, 3, 9021, 862, 864, 47, 113), (214, 49, 3, 8021, 870, 872, 48, 115), (221, 3, 3, 2021, 889, 891, 51, 116), (228, 26, 3, 5020, 901, 903, 53, 117), (238, 110, 2, 12031, 932, 934, 59, 107), (241, 38, 3, 6031, 944, 946, 60, 114), (245, 59, 3, 10040, 957, 959, 62, 118), (253, 37, 3, 6040, 961, 951, 61, 114), (258, 62, 3, 10011, 966, 968, 63, 118), (265, 61, 3, 10011, 978, 972, 64, 118), (267, 63, 3, 10020, 983, 985, 65, 118), (271, 18, 3, 4020, 753, 755, 28, 112), (274, 64, 3, 10021, 988, 990, 66, 118), (278, 25, 3, 4021, 1000, 994, 67, 112), (282, 60, 3, 10020, 1013, 1015, 68, 118), (285, 65, 3, 10021, 1022, 1024, 69, 118), (290, 2, 3, 1020, 1030, 1032, 70, 111), (296, 56, 3, 9011, 1042, 911, 55, 113), (299, 17, 3, 4050, 748, 750, 27, 112), (302, 52, 3, 9050, 797, 799, 35, 113), (306, 31, 3, 6030, 826, 828, 39, 114)], 
  [(14, 114, 2, 13020, 1120, 1122, 72, 119), (37, 119, 0, 11, 1293, 1294, 0, 119), (41, 117, 2, 13021, 1296, 1298, 74, 119), (49, 118, 0, 11, 1302, 1303, 0, 119), (54, 121, 0, 32, 1316, 1317, 0, 119), (58, 122, 0, 52, 1312, 1313, 0, 119), (166, 126, 0, 10, 1134, 1135, 0, 119), (171, 123, 0, 62, 1319, 1320, 0, 119), (179, 124, 2, 13021, 1324, 1326, 76, 119), (185, 120, 2, 13010, 1289, 1291, 73, 119), (188, 130, 2, 13011, 1332, 1334, 78, 119), (192, 131, 2, 13011, 1336, 1338, 79, 119), (195, 125, 2, 13021, 1341, 1343, 80, 119), (198, 127, 0, 11, 1345, 1346, 0, 119), (201, 128, 0, 11, 1348, 1349, 0, 119), (204, 113, 0, 31, 1352, 1353, 0, 119), (208, 133, 2, 13011, 1355, 1357, 81, 119), (217, 129, 0, 12, 1309, 1310, 0, 119), (221, 132, 2, 13021, 1328, 1330, 77, 119), (224, 134, 2, 13011, 1359, 1361, 82, 119), (227, 135, 2, 13011, 1305, 1307, 75, 119), (236, 137, 2, 13021, 1372, 1374, 83, 119), (239, 112, 2, 13012, 1376, 1378, 84, 119), (243, 138, 2, 13021, 1388, 1390, 85, 119), (246, 139, 2, 13021, 1392, 1394, 86, 119), (250, 140, 2, 13010, 1396, 1398, 87, 119), (257, 148, 0, 12, 1419, 1420, 0, 119), (262, 151, 0, 21, 1432, 1433, 0, 119), (267, 149, 0, 22, 1416, 1417, 0, 119), (271, 152, 2, 13040, 1428, 1430, 88, 119), (275, 150, 0, 21, 1441, 1442, 0, 119), (281, 153, 2, 13021, 1456, 1458, 91, 119), (284, 157, 2, 13040, 1452, 1454, 90, 119), (297, 161, 2, 13020, 1484, 1486, 96, 119), (300, 160, 2, 13031, 1488, 1490, 97, 119), (304, 159, 2, 13020, 1492, 1494, 98, 119), (307, 163, 2, 13031, 1468, 1470, 93, 119), (311, 158, 2, 13010, 1448, 1450, 89, 119), (314, 162, 2, 13030, 1480, 1482, 95, 119), (318, 168, 2, 13031, 1464, 1466, 92, 119), (321, 164, 2, 13010, 1476, 1478, 94, 119), (324, 171, 2, 13011, 1504, 1506, 99, 119), (327, 165, 2, 13041, 1520, 1522, 101, 119), (331, 174, 2, 13041, 1516, 1518, 100, 119), (334, 178, 2, 13020, 1536, 1538, 102, 119), (341, 183, 2, 13021, 1556, 1558, 103, 119), (344, 188, 2, 13030, 1576, 1578, 104, 119), (347, 191, 2, 13011, 1588, 1590, 105, 119)], 
  [(7, 77, 2, 12022, 1047, 1048, 1049, 107), (19, 74, 2, 12061, 499, 500, 501, 107), (23, 115, 2, 13061, 1116, 1117, 1118, 119), (24, 75, 2, 12021, 507, 508, 509, 107), (28, 116, 2, 13021, 1125, 1126, 1127, 119), (29, 76, 2, 12011, 511, 512, 513, 107), (33, 136, 2, 13011, 1285, 1286, 1287, 119), (39, 142, 2, 13022, 1368, 1369, 1370, 119), (40, 111, 2, 13011, 1112, 1113, 1114, 119), (43, 78, 2, 12021, 679, 680, 681, 107), (47, 143, 2, 13021, 1380, 1381, 1382, 119), (50, 79, 2, 12031, 687, 688, 689, 107), (54, 144, 2, 13031, 1384, 1385, 1386, 119), (55, 80, 2, 12021, 704, 705, 706, 107), (59, 145, 2, 13021, 1400, 1401, 1402, 119), (60, 81, 2, 12031, 713, 714, 715, 107), (64, 146, 2, 13031, 1404, 1405, 1406, 119), (65, 82, 2, 12031, 721, 722, 723, 107), (68, 147, 2, 13031, 1408, 1409, 1410, 119), (69, 83, 2, 12032, 731, 732, 733, 107), (73, 154, 2, 13032, 1412, 1413, 1414, 119), (74, 84, 2, 12031, 740, 741, 742, 107), (77, 155, 2, 13031, 1424, 1425, 1426, 119), (78, 85, 2, 12021, 785, 786, 787, 107), (81, 156, 2, 13021, 1437, 1438, 1439, 119), (82, 86, 2, 12021, 789, 790, 791, 107), (85, 166, 2, 13021, 1444, 1445, 1446, 119), (86, 87, 2, 12011, 810, 811, 812, 107), (89, 167, 2, 13011, 1460, 1461, 1462, 119), (90, 88, 2, 12031, 818, 819, 820, 107), (93, 169, 2, 13031, 1472, 1473, 1474, 119), (94, 89, 2, 12021, 858, 859, 860, 107), (97, 170, 2, 13021, 1496, 1497, 1498, 119), (98, 90, 2, 12021, 866, 867, 868, 107), (101, 172, 2, 13021, 1500, 1501, 1502, 119), (102, 91, 2, 12011, 885, 886, 887, 107), (105, 173, 2, 13011, 1508, 1509, 1510, 119), (106, 92, 2, 12021, 897, 898, 899, 107), (109, 175, 2, 13021, 1512, 1513, 1514, 119), (110, 93, 2, 12011, 928, 929, 930, 107), (113, 176, 2, 13011, 1524, 1525, 1526, 119), (114, 94, 2, 12021, 936, 937, 938, 107), (117, 177, 2, 13021, 1528, 1529, 1530, 119), (118, 95, 2, 12031, 940, 941, 942, 107), (121, 179, 2, 13031, 1532, 1533, 1534, 119), (122, 96, 2, 12021, 953, 954, 955, 107), (125, 180, 2, 13021, 1540, 1541, 1542, 119), (126, 97, 2, 12021, 962, 963, 964, 107), (129, 181, 2, 13021, 1544, 1545, 1546, 119), (130, 98, 2, 12031, 974, 975, 976, 107), (134, 182, 2, 13031, 1548, 1549, 1550, 119), (135, 99, 2, 12021, 979, 980, 981, 107), (139, 184, 2, 13021, 1552, 1553, 1554, 119), (140, 100, 2, 12021, 996, 997, 998, 107), (143, 185, 2, 13021, 1560, 1561, 1562, 119), (144, 101, 2, 12011, 1001, 1002, 1003, 107), (147, 186, 2, 13011, 1564, 1565, 1566, 119), (148, 102, 2, 12041, 1005, 1006, 1007, 107), (152, 187, 2, 13041, 1568, 1569, 1570, 119), (153, 103, 2, 12031, 1009, 1010, 1011, 107), (157, 189, 2, 13031, 1572, 1573, 1574, 119), (158, 104, 2, 12021, 1018, 1019, 1020, 107), (161, 190, 2, 13021, 1580, 1581, 1582, 119), (162, 105, 2, 12011, 1026, 1027, 1028, 107), (165, 141, 2, 13011, 1364, 1365, 1366, 119), (166, 106, 2, 12021, 1038, 1039, 1040, 107), (169, 192, 2, 13021, 1584, 1585, 1586, 119)], 
  [], 
  [], 
  []]
def am_act : List (List (Nat × Nat)) := [
  [], 
  [], 
  [(34, 523)], 
  [], 
  [], 
  [], 
  [], 
  [], 
  [], 
  [(34, 1017)], 
  [], 
  [], 
  [], 
  [], 
  [], 
  [], 
  []]
def am_ct : List (List (Nat × Int × Nat)) := [
  [], 
  [], 
  [], 
  [(60, 65535, 764)], 
  [], 
  [], 
  [(86, 999999999, 661)], 
  [], 
  [], 
  [], 
  [], 
  [], 
  [(170, 999999999, 1351), (261, 65535, 1435), (266, 65536, 1436)], 
  [], 
  [], 
  [], 
  []]
def am_lt : List (List (Nat × Nat × Nat)) := [
  [], 
  [], 
  [], 
  [(18, 13787848793156543929, 738), (20, 10723151780598845931, 739)], 
  [], 
  [], 
  [], 
  [], 
  [], 
  [], 
  [], 
  [], 
  [(45, 27, 1300), (47, 96, 1301), (52, 729, 1315), (175, 19, 1322), (177, 4, 1323), (183, 5, 1340), (215, 262, 1363), (253, 13787848793156543929, 1422), (255, 10723151780598845931, 1423)], 
  [(48, 4294967295, 1592)], 
  [], 
  [], 
  []]
def am_sl : List (List (Nat × Nat)) := [
  [], 
  [], 
  [], 
  [], 
  [], 
  [], 
  [(107, 1000), (109, 1001), (111, 1002), (113, 1003), (115, 1004), (117, 1005), (119, 1006), (121, 1007), (123, 1008), (125, 1009), (127, 1010), (129, 1011), (70, 1012), (95, 1013)], 
  [], 
  [], 
  [], 
  [], 
  [], 
  [], 
  [], 
  [], 
  [], 
  []]
def am_acw : Nat × Nat × Nat := (524, 525, 120)
def am_nst : List Cond := lw_tbl.filter fun w => match w with | .fieldLinkNest .. => true | .methodLinkNest .. => true | _ => false
def am_big : List Cond := lw_tbl.filter goodWord
def am_str : List String := ["cells", "prints", "bits", "seed", "way", "spread", "queue", "apart", "stack", "close", "least", "free", "key", "is"]
end
section
/-! THE ABSTRACT MACHINE: whole numbers for ints, cells by places, a formula for each stretch of code -/
abbrev am_V : Type := Int ⊕ (Int64 ⊕ Nat)
abbrev am_M : Type := (Nat → Int → Int) × (Nat → Int → Int64)
abbrev am_L : Type := List (Nat × am_V)
abbrev am_S : Type := Int × (Int → Int)
abbrev am_K : Type := am_L → List am_V → am_M → Prop
def am_R (z : Int) : Prop := -2147483648 ≤ z ∧ z ≤ 2147483647
def am_wr (m : am_M) (id : Nat) (z v : Int) : am_M := (fun i => if i = id then (fun j => if j = z then v else m.1 id j) else m.1 i, m.2)
def am_wl (m : am_M) (id : Nat) (z : Int) (v : Int64) : am_M := (m.1, fun i => if i = id then (fun j => if j = z then v else m.2 id j) else m.2 i)
/-- a stretch of n copied: from f at sp to g at dp -/
def am_cpy {α : Type} (f g : Int → α) (sp dp n : Int) : Int → α := fun j => if dp ≤ j ∧ j < dp + n then f (sp + (j - dp)) else g j
def am_ws1 (m : am_M) (id : Nat) (f : Int → Int) : am_M := (fun i => if i = id then f else m.1 i, m.2)
def am_ws2 (m : am_M) (id : Nat) (f : Int → Int64) : am_M := (m.1, fun i => if i = id then f else m.2 i)
def am_lay (q : Nat) : Nat × List (Nat × Nat) := am_layL.getD q (200, [])
def am_fld (q n : Nat) : Nat × Nat := match Nat.beq (am_lay q).1 (n / 100) with
  | true => (am_lay q).2.getD (n % 100) (9, 0)
  | false => (9, 0)
def am_len (q : Nat) : Nat := ((am_lay q).2.getD 0 (0, 0)).1
def am_lowT : List Int := [0, 1, 1, 0, 0, 0, 0]
def am_highT : List Int := [0, 32, 16, 8, 999999999, 2, 2]
def am_untT : List Int := [0, 16, 8, 4, 1, 0, 0]
def am_tab (q : Nat) (i : Int) : Int := match q with
  | 900 => am_lowT.getD i.toNat 0
  | 901 => am_highT.getD i.toNat 0
  | _ => am_untT.getD i.toNat 0
-- the values of bit operations
def am_and (a b : Int) : Int := (Int32.ofInt a &&& Int32.ofInt b).toInt
def am_or (a b : Int) : Int := (Int32.ofInt a ||| Int32.ofInt b).toInt
def am_xor (a b : Int) : Int := (Int32.ofInt a ^^^ Int32.ofInt b).toInt
def am_shl (a b : Int) : Int := (Int32.ofInt a <<< (Int32.ofInt b &&& 31)).toInt
def am_shr (a b : Int) : Int := (Int32.ofInt a >>> (Int32.ofInt b &&& 31)).toInt
def am_ushr (a b : Int) : Int := (((Int32.ofInt a).toUInt32 >>> ((Int32.ofInt b).toUInt32 &&& Int32.toUInt32 31)).toInt32).toInt
def am_i2b (a : Int) : Int := (Int32.ofInt a).toInt8.toInt32.toInt
def am_i2l (a : Int) : Int64 := (Int32.ofInt a).toInt64
def am_l2i (x : Int64) : Int := x.toInt32.toInt
def am_lshl (x : Int64) (b : Int) : Int64 := x <<< ((Int32.ofInt b).toInt64 &&& 63)
def am_lshr (x : Int64) (b : Int) : Int64 := x >>> ((Int32.ofInt b).toInt64 &&& 63)
def am_lushr (x : Int64) (b : Int) : Int64 := (x.toUInt64 >>> ((Int32.ofInt b).toInt64.toUInt64 &&& Int64.toUInt64 63)).toInt64
def am_lcmp (x y : Int64) : Int := (lg_cmp x y).toInt
-- locals
def am_lng : am_V → Bool
  | .inr (.inl _) => true
  | _ => false
def am_get : am_L → Nat → Option am_V
  | [], _ => none
  | (k, v) :: r, i => match Nat.beq k i with
    | true => some v
    | false => am_get r i
def am_del : am_L → Nat → am_L
  | [], _ => []
  | (k, v) :: r, i => match Nat.beq k i || (Nat.beq (k + 1) i && am_lng v) with
    | true => am_del r i
    | false => (k, v) :: am_del r i
def am_ins (k : Nat) (v : am_V) : am_L → am_L
  | [] => [(k, v)]
  | (j, w) :: r => match Nat.blt k j with
    | true => (k, v) :: (j, w) :: r
    | false => (j, w) :: am_ins k v r
def am_set (lv : am_L) (k : Nat) (v : am_V) : am_L := match am_lng v with
  | true => am_ins k v (am_del (am_del lv (k + 1)) k)
  | false => am_ins k v (am_del lv k)
def am_pick (lv : am_L) : List Nat → Option am_L
  | [] => some []
  | k :: ks => match am_get lv k with
    | none => none
    | some v => match am_pick lv ks with
      | none => none
      | some r => some ((k, v) :: r)
def am_lk {α : Type} : List (Nat × α) → Nat → Option α
  | [], _ => none
  | (k, v) :: r, i => match Nat.beq k i with
    | true => some v
    | false => am_lk r i
-- what stands on the stack
def am_i1 (st : List am_V) (k : Int → List am_V → Prop) : Prop := match st with
  | .inl a :: r => k a r
  | _ => False
def am_i2 (st : List am_V) (k : Int → Int → List am_V → Prop) : Prop := match st with
  | .inl b :: .inl a :: r => k a b r
  | _ => False
def am_l1 (st : List am_V) (k : Int64 → List am_V → Prop) : Prop := match st with
  | .inr (.inl a) :: r => k a r
  | _ => False
def am_l2 (st : List am_V) (k : Int64 → Int64 → List am_V → Prop) : Prop := match st with
  | .inr (.inl b) :: .inr (.inl a) :: r => k a b r
  | _ => False
def am_li (st : List am_V) (k : Int64 → Int → List am_V → Prop) : Prop := match st with
  | .inl b :: .inr (.inl a) :: r => k a b r
  | _ => False
def am_r1 (st : List am_V) (k : Nat → List am_V → Prop) : Prop := match st with
  | .inr (.inr a) :: r => k a r
  | _ => False
def am_ri (st : List am_V) (k : Nat → Int → List am_V → Prop) : Prop := match st with
  | .inl i :: .inr (.inr a) :: r => k a i r
  | _ => False
def am_rii (st : List am_V) (k : Nat → Int → Int → List am_V → Prop) : Prop := match st with
  | .inl v :: .inl i :: .inr (.inr a) :: r => k a i v r
  | _ => False
def am_ril (st : List am_V) (k : Nat → Int → Int64 → List am_V → Prop) : Prop := match st with
  | .inr (.inl v) :: .inl i :: .inr (.inr a) :: r => k a i v r
  | _ => False
def am_oi (v : Option am_V) (k : Int → Prop) : Prop := match v with
  | some (.inl z) => k z
  | _ => False
def am_ol (v : Option am_V) (k : Int64 → Prop) : Prop := match v with
  | some (.inr (.inl z)) => k z
  | _ => False
def am_or' (v : Option am_V) (k : Nat → Prop) : Prop := match v with
  | some (.inr (.inr z)) => k z
  | _ => False
def am_ild (S : am_S) (q : Nat) (m : am_M) (i : Int) (k : Int → Prop) : Prop := match Nat.beq q 800 with
  | true => 0 ≤ i ∧ i < S.1 ∧ k (S.2 i)
  | false => match Nat.ble 900 q && Nat.ble q 902 with
    | true => 0 ≤ i ∧ i < 7 ∧ k (am_tab q i)
    | false => match Nat.beq (am_lay q).1 100 with
      | true => 0 ≤ i ∧ i < (am_len q : Int) ∧ k (m.1 q i)
      | false => False
def am_bld (q : Nat) (m : am_M) (i : Int) (k : Int → Prop) : Prop := match Nat.beq (am_lay q).1 101 || Nat.beq (am_lay q).1 102 with
  | true => 0 ≤ i ∧ i < (am_len q : Int) ∧ k (m.1 q i)
  | false => False
def am_lld (q : Nat) (m : am_M) (i : Int) (k : Int64 → Prop) : Prop := match Nat.beq (am_lay q).1 103 with
  | true => 0 ≤ i ∧ i < (am_len q : Int) ∧ k (m.2 q i)
  | false => False
def am_ist (q : Nat) (m : am_M) (i v : Int) (k : am_M → Prop) : Prop := match Nat.beq (am_lay q).1 100 with
  | true => 0 ≤ i ∧ i < (am_len q : Int) ∧ k (am_wr m q i v)
  | false => False
def am_bst (q : Nat) (m : am_M) (i v : Int) (k : am_M → Prop) : Prop := match Nat.beq (am_lay q).1 101 with
  | true => 0 ≤ i ∧ i < (am_len q : Int) ∧ (v = 0 ∨ v = 1) ∧ k (am_wr m q i v)
  | false => match Nat.beq (am_lay q).1 102 with
    | true => 0 ≤ i ∧ i < (am_len q : Int) ∧ (-128 ≤ v ∧ v ≤ 127) ∧ k (am_wr m q i v)
    | false => False
def am_lst (q : Nat) (m : am_M) (i : Int) (v : Int64) (k : am_M → Prop) : Prop := match Nat.beq (am_lay q).1 103 with
  | true => 0 ≤ i ∧ i < (am_len q : Int) ∧ k (am_wl m q i v)
  | false => False
def am_aldL (i : Int) (k : Nat → Prop) : Int → List (Nat × Nat) → Prop
  | _, [] => True
  | n, (q, _) :: r => (i = n → k q) ∧ am_aldL i k (n + 1) r
def am_ald (q : Nat) (i : Int) (k : Nat → Prop) : Prop := match Nat.beq (am_lay q).1 104 with
  | true => 0 ≤ i ∧ i < ((am_lay q).2.length : Int) ∧ am_aldL i k 0 (am_lay q).2
  | false => False
def am_gf (q n : Nat) (m : am_M) (k : am_V → Prop) : Prop := match am_fld q n with
  | (0, x) => k (.inl (m.1 x 0))
  | (1, x) => k (.inr (.inl (m.2 x 0)))
  | (2, x) => k (.inr (.inr x))
  | (3, x) => k (.inl (m.1 x 0))
  | _ => False
def am_pf (st : List am_V) (n : Nat) (m : am_M) (k : List am_V → am_M → Prop) : Prop := match st with
  | .inl v :: .inr (.inr q) :: r => (match am_fld q n with
    | (0, x) => k r (am_wr m x 0 v)
    | (3, x) => (v = 0 ∨ v = 1) ∧ k r (am_wr m x 0 v)
    | _ => False)
  | .inr (.inl v) :: .inr (.inr q) :: r => (match am_fld q n with
    | (1, x) => k r (am_wl m x 0 v)
    | _ => False)
  | _ => False
def am_al (q : Nat) (S : am_S) (k : Int → Prop) : Prop := match Nat.beq q 800 with
  | true => k S.1
  | false => match Nat.ble 900 q && Nat.ble q 902 with
   | true => k 7
   | false => match Nat.ble 100 (am_lay q).1 && Nat.ble (am_lay q).1 103 with
    | true => k (am_len q : Int)
    | false => False
def am_cp (st : List am_V) (m : am_M) (k : List am_V → am_M → Prop) : Prop := match st with
  | .inl n :: .inl dp :: .inr (.inr b) :: .inl sp :: .inr (.inr a) :: [] => (match Nat.ble 900 a with
    | true => (match Nat.beq a 902 && Nat.beq (am_lay b).1 100 with
      | true => 0 ≤ sp ∧ 0 ≤ dp ∧ 0 ≤ n ∧ sp + n ≤ 7 ∧ dp + n ≤ (am_len b : Int) ∧ k [] (am_ws1 m b (am_cpy (am_tab a) (m.1 b) sp dp n))
      | false => False)
    | false => (match Nat.beq (am_lay a).1 100 && Nat.beq (am_lay b).1 100 with
      | true => 0 ≤ sp ∧ 0 ≤ dp ∧ 0 ≤ n ∧ sp + n ≤ (am_len a : Int) ∧ dp + n ≤ (am_len b : Int) ∧ k [] (am_ws1 m b (am_cpy (m.1 a) (m.1 b) sp dp n))
      | false => (match Nat.beq (am_lay a).1 103 && Nat.beq (am_lay b).1 103 with
        | true => 0 ≤ sp ∧ 0 ≤ dp ∧ 0 ≤ n ∧ sp + n ≤ (am_len a : Int) ∧ dp + n ≤ (am_len b : Int) ∧ k [] (am_ws2 m b (am_cpy (m.2 a) (m.2 b) sp dp n))
        | false => False)))
  | _ => False
def am_cmp (c : ClassFile.Cond) (a b : Int) : Prop := match c with
  | .eq => a = b
  | .ne => a ≠ b
  | .lt => a < b
  | .ge => b ≤ a
  | .gt => b < a
  | .le => a ≤ b
def am_popn : Nat → List am_V → List am_V → Option (List am_V × List am_V)
  | 0, acc, st => some (acc, st)
  | _ + 1, _, [] => none
  | n + 1, acc, v :: st => am_popn n (v :: acc) st
def am_cat : List am_V → Nat
  | [] => 0
  | v :: r => (match am_lng v with | true => 2 | false => 1) + am_cat r
def am_lsw (x : Int) (J : Int → Prop) (d : Int) : List (Int × Int) → List Int → Prop
  | [], ns => ns.foldr (fun n P => x ≠ n → P) (J d)
  | (k, t) :: r, ns => (x = k → J t) ∧ am_lsw x J d r (k :: ns)
def am_dup (st : List am_V) (k : List am_V → Prop) : Prop := match st with
  | v :: r => (match am_lng v with | true => False | false => k (v :: v :: r))
  | _ => False
def am_dup2 (st : List am_V) (k : List am_V → Prop) : Prop := match st with
  | v :: r => (match am_lng v with
    | true => k (v :: v :: r)
    | false => (match r with
      | w :: r' => (match am_lng w with | true => False | false => k (v :: w :: v :: w :: r'))
      | _ => False))
  | _ => False
def am_pop (st : List am_V) (k : List am_V → Prop) : Prop := match st with
  | v :: r => (match am_lng v with | true => False | false => k r)
  | _ => False
def am_vi (v : am_V) (k : Int → Prop) : Prop := match v with
  | .inl z => k z
  | _ => False
def am_vl (v : am_V) (k : Int64 → Prop) : Prop := match v with
  | .inr (.inl z) => k z
  | _ => False
def am_vr (v : am_V) (k : Nat → Prop) : Prop := match v with
  | .inr (.inr z) => k z
  | _ => False
/-- two ints on top, what lies below them is small -/
def am_i2s (st : List am_V) (k : Int → Int → List am_V → Prop) : Prop := match st with
  | .inl b :: .inl a :: r => (match Nat.ble (am_cat r) 8 with | true => k a b r | false => False)
  | _ => False
abbrev am_Call : Type := Nat → List am_V → am_M → (am_V → am_M → Prop) → Prop
def am_rcv (n : Nat) (as : List am_V) (X : Prop) : Prop := match n with
  | 0 => X
  | 17 => (match as with
    | .inr (.inr q) :: _ => (1000 ≤ q ∧ q < 1014) ∧ X
    | _ => False)
  | n + 1 => (match as with
    | .inr (.inr q) :: _ => (match Nat.beq (am_lay q).1 n with | true => X | false => False)
    | _ => False)
def am_inv (call : am_Call) (y c : Nat) (lv : am_L) (st : List am_V) (m : am_M) (K : am_K) : Prop := match am_popn (c % 1000 / 10) [] st with
  | none => False
  | some (as, r) => (match Nat.ble (am_cat r) 8 with
    | false => False
    | true => am_rcv (c / 1000) as (match c % 10 with
      | 0 => call y as m (fun _ m' => K lv r m')
      | 1 => call y as m (fun v m' => am_vi v fun z => K lv (.inl z :: r) m')
      | 2 => call y as m (fun v m' => am_vl v fun z => K lv (.inr (.inl z) :: r) m')
      | _ => call y as m (fun v m' => am_vr v fun z => K lv (.inr (.inr z) :: r) m')))
/-- b: whether the method answers a boolean -/
def am_step (S : am_S) (call : am_Call) (b : Bool) (ret : am_V → am_M → Prop) (i : Instr) (lv : am_L) (st : List am_V) (m : am_M) (K : am_K) (J : Nat → am_K) : Prop := match i with
  | .iconst z => K lv (.inl z :: st) m
  | .ldc2_w n => K lv (.inr (.inl (Int64.ofNat n)) :: st) m
  | .ldc n => K lv (.inr (.inr n) :: st) m
  | .iload k => am_oi (am_get lv k) fun z => K lv (.inl z :: st) m
  | .lload k => am_ol (am_get lv k) fun z => K lv (.inr (.inl z) :: st) m
  | .aload k => am_or' (am_get lv k) fun z => K lv (.inr (.inr z) :: st) m
  | .istore k => am_i1 st fun z r => K (am_set lv k (.inl z)) r m
  | .lstore k => am_l1 st fun z r => K (am_set lv k (.inr (.inl z))) r m
  | .astore k => am_r1 st fun z r => K (am_set lv k (.inr (.inr z))) r m
  | .iinc k n => am_oi (am_get lv k) fun z => am_R (z + n) ∧ K (am_set lv k (.inl (z + n))) st m
  | .iadd => am_i2 st fun a b r => am_R (a + b) ∧ K lv (.inl (a + b) :: r) m
  | .isub => am_i2 st fun a b r => am_R (a - b) ∧ K lv (.inl (a - b) :: r) m
  | .imul => am_i2 st fun a b r => am_R (a * b) ∧ K lv (.inl (a * b) :: r) m
  | .idiv => am_i2 st fun a b r => 0 ≤ a ∧ 0 < b ∧ K lv (.inl (a / b) :: r) m
  | .irem => am_i2 st fun a b r => 0 ≤ a ∧ 0 < b ∧ K lv (.inl (a % b) :: r) m
  | .iand => am_i2 st fun a b r => K lv (.inl (am_and a b) :: r) m
  | .ior => am_i2 st fun a b r => K lv (.inl (am_or a b) :: r) m
  | .ixor => am_i2 st fun a b r => K lv (.inl (am_xor a b) :: r) m
  | .ishl => am_i2 st fun a b r => K lv (.inl (am_shl a b) :: r) m
  | .ishr => am_i2 st fun a b r => K lv (.inl (am_shr a b) :: r) m
  | .iushr => am_i2 st fun a b r => K lv (.inl (am_ushr a b) :: r) m
  | .i2b => am_i1 st fun a r => K lv (.inl (am_i2b a) :: r) m
  | .i2l => am_i1 st fun a r => K lv (.inr (.inl (am_i2l a)) :: r) m
  | .l2i => am_l1 st fun a r => K lv (.inl (am_l2i a) :: r) m
  | .ladd => am_l2 st fun a b r => K lv (.inr (.inl (a + b)) :: r) m
  | .lsub => am_l2 st fun a b r => K lv (.inr (.inl (a - b)) :: r) m
  | .lmul => am_l2 st fun a b r => K lv (.inr (.inl (a * b)) :: r) m
  | .land => am_l2 st fun a b r => K lv (.inr (.inl (a &&& b)) :: r) m
  | .lor => am_l2 st fun a b r => K lv (.inr (.inl (a ||| b)) :: r) m
  | .lxor => am_l2 st fun a b r => K lv (.inr (.inl (a ^^^ b)) :: r) m
  | .lneg => am_l1 st fun a r => K lv (.inr (.inl (-a)) :: r) m
  | .lshl => am_li st fun a b r => K lv (.inr (.inl (am_lshl a b)) :: r) m
  | .lshr => am_li st fun a b r => K lv (.inr (.inl (am_lshr a b)) :: r) m
  | .lushr => am_li st fun a b r => K lv (.inr (.inl (am_lushr a b)) :: r) m
  | .lcmp => am_l2 st fun a b r => K lv (.inl (am_lcmp a b) :: r) m
  | .dup => am_dup st fun r => K lv r m
  | .dup2 => am_dup2 st fun r => K lv r m
  | .pop => am_pop st fun r => K lv r m
  | .getfield n => am_r1 st fun q r => am_gf q n m fun v => K lv (v :: r) m
  | .putfield n => am_pf st n m fun r m' => K lv r m'
  | .getstatic n => K lv (.inr (.inr n) :: st) m
  | .iaload => am_ri st fun q i r => am_ild S q m i fun z => K lv (.inl z :: r) m
  | .baload => am_ri st fun q i r => am_bld q m i fun z => K lv (.inl z :: r) m
  | .laload => am_ri st fun q i r => am_lld q m i fun z => K lv (.inr (.inl z) :: r) m
  | .aaload => am_ri st fun q i r => am_ald q i fun z => K lv (.inr (.inr z) :: r) m
  | .iastore => am_rii st fun q i v r => am_ist q m i v fun m' => K lv r m'
  | .bastore => am_rii st fun q i v r => am_bst q m i v fun m' => K lv r m'
  | .lastore => am_ril st fun q i v r => am_lst q m i v fun m' => K lv r m'
  | .arraylength => am_r1 st fun q r => am_al q S fun z => K lv (.inl z :: r) m
  | .ifCond c t => am_i1 st fun a r => (am_cmp c a 0 → J t.toNat lv r m) ∧ (¬ am_cmp c a 0 → K lv r m)
  | .if_icmp c t => am_i2 st fun a b r => (am_cmp c a b → J t.toNat lv r m) ∧ (¬ am_cmp c a b → K lv r m)
  | .goto t => J t.toNat lv st m
  | .goto_w t => J t.toNat lv st m
  | .lookupswitch d ps => am_i1 st fun a r => am_lsw a (fun t => J t.toNat lv r m) d ps.toList []
  | .invokeinterface y c => am_inv call y c lv st m K
  | .fsub => am_i2s st fun a b r => K lv (.inl (if b < a then b else a) :: r) m
  | .fadd => am_i2s st fun a b r => K lv (.inl (if a < b then b else a) :: r) m
  | .invokedynamic _ => am_cp st m fun r m' => K lv r m'
  | .ireturn => (match st with
    | [.inl z] => (match b with | true => (z = 0 ∨ z = 1) ∧ ret (.inl z) m | false => ret (.inl z) m)
    | _ => False)
  | .lreturn => (match st with | [.inr (.inl z)] => ret (.inr (.inl z)) m | _ => False)
  | .areturn => (match st with | [.inr (.inr z)] => ret (.inr (.inr z)) m | _ => False)
  | .return_ => (match st with | [] => ret (.inl 0) m | _ => False)
  | _ => False
def am_run (S : am_S) (call : am_Call) (b : Bool) (ret : am_V → am_M → Prop) (G : Nat → am_K) (bl : List (Nat × List am_I)) (ct : List (Nat × List Nat)) : Nat → List am_I → am_L → List am_V → am_M → Prop
  | 0, _, _, _, _ => False
  | _ + 1, [], _, _, _ => False
  | f + 1, e :: r, lv, st, m => am_step S call b ret e.2.2.2 lv st m (am_run S call b ret G bl ct f r) (fun t lv st m => match am_lk ct t with
    | some ks => (match am_pick lv ks with | some lv' => G t lv' st m | none => False)
    | none => (match am_lk bl t with | some is => am_run S call b ret G bl ct f is lv st m | none => False))
end
section
/-! WORLDS: what the abstract machine's state is in the real one -/
/-- tables of classes; class of arrays by kind; addresses; the script's length and ints; addresses of the texts' bytes -/
abbrev am_E : Type := va_G × (Nat → ClassId) × (Nat → Nat) × (Nat × (Nat → Int32)) × (Nat → Nat)
def am_ad (E : am_E) (q : Nat) : Nat := E.2.2.1 q
def am_cv (E : am_E) : am_V → Value
  | .inl z => .int (Int32.ofInt z)
  | .inr (.inl x) => .long x
  | .inr (.inr q) => .ref (am_ad E q)
def am_vok : am_V → Prop
  | .inl z => am_R z
  | _ => True
def am_fv (E : am_E) (m : am_M) (e : Nat × Nat) : Value := match e.1 with
  | 0 => .int (Int32.ofInt (m.1 e.2 0))
  | 1 => .long (m.2 e.2 0)
  | 2 => .ref (am_ad E e.2)
  | _ => .int (Int32.ofInt (m.1 e.2 0))
def am_cell (E : am_E) (m : am_M) (q : Nat) : va_E :=
  if (am_lay q).1 < 100 then .inr ((am_lay q).1, (am_lay q).2.map (am_fv E m))
  else if (am_lay q).1 = 103 then .inl (E.2.1 103, am_len q, .inr (.inl fun j => m.2 q (j : Int)))
  else if (am_lay q).1 = 104 then .inl (E.2.1 104, (am_lay q).2.length, .inr (.inr (.inr (.inr fun j => some (am_ad E ((am_lay q).2.getD j (0, 0)).1)))))
  else .inl (E.2.1 (am_lay q).1, am_len q, .inl fun j => Int32.ofInt (m.1 q (j : Int)))
def am_ws (E : am_E) (m : am_M) : va_W := (List.range am_N).map fun q => (am_ad E q, am_cell E m q)
def am_tys (E : am_E) : List (ClassId × FieldType) := [(E.2.1 100, .int), (E.2.1 101, .boolean), (E.2.1 102, .byte), (E.2.1 103, .long), (E.2.1 104, .object "TripleSieve$Sieve")]
/-- 1: of two values; 2: a byte; 0: any int -/
def am_rg (id : Nat) : Nat := if id < 1000 then (if (am_lay id).1 = 101 then 1 else if (am_lay id).1 = 102 then 2 else 0)
  else if ((am_lay ((id - 1000) / 100)).2.getD ((id - 1000) % 100) (0, 0)).1 = 3 ∧ (am_lay ((id - 1000) / 100)).1 < 100 then 1 else 0
def am_In (r : Nat) (z : Int) : Prop := match r with
  | 1 => z = 0 ∨ z = 1
  | 2 => -128 ≤ z ∧ z ≤ 127
  | _ => am_R z
def am_MR (m : am_M) : Prop := ∀ (id : Nat) (z : Int), am_In (am_rg id) (m.1 id z)
def am_strlen (i : Nat) : Nat := (am_str.getD i "").length
def am_strT (i : Nat) : List Int32 := ((am_str.getD i "").toList.map fun c => Int32.ofNat c.toNat)
def am_stab (E : am_E) (A : Nat → Prop) (s : State) (n : String) (q : Nat) : Prop := va_Z "TripleSieve" n "[I" (.ref (am_ad E q)) A s s.heap ∧ va_T .int (am_ad E q) 7 (fun j => .int (Int32.ofInt (am_tab q (j : Int)))) A s s.heap
/-- what is only read: static rows, texts, the script, the words on nest mates -/
def am_RO (E : am_E) (A : Nat → Prop) (s : State) : Prop :=
  am_stab E A s "LOWEST" 900 ∧ am_stab E A s "HIGHEST" 901 ∧ am_stab E A s "UNTOLD" 902
  ∧ vk_S 14 (am_str.map String.length) ((List.range 14).map am_strT) (fun i => am_ad E (1000 + i)) E.2.2.2.2 A s s.heap
  ∧ (∀ e ∈ am_sl.getD 6 [], vk_R "TripleSieve$Reader" e.1 (am_str.getD (e.2 - 1000) "") (am_ad E e.2) s)
  ∧ (va_X (am_ad E 800) E.2.2.2.1.1 E.2.2.2.1.2 s s.heap ∧ am_ad E 800 < s.heap.size ∧ ¬ A (am_ad E 800))
  ∧ (∀ w ∈ am_nst, va_Nw w s)
  ∧ (∀ q, q < am_N → A (am_ad E q)) ∧ E.2.2.2.1.1 ≤ 3072
def am_Wd (E : am_E) (A : Nat → Prop) (m : am_M) (s : State) (H : Heap) : Prop := va_P E.1 vwCl (am_ws E m) H ∧ va_K E.1 vwCl (am_tys E) s ∧ va_D A (am_ws E m) ∧ am_MR m
def am_sc (E : am_E) : am_S := ((E.2.2.2.1.1 : Int), fun i => (E.2.2.2.1.2 i.toNat).toInt)
def am_mi (y : Nat) : am_MI := am_ml.getD y mi_L_law
def am_rm (d : Nat) : Room := { frames := d, cells := 0, slots := 0, locals := 64 * d }
def am_wds (y : Nat) : List Cond := .code (am_mi y).1 (am_mi y).2.1 (am_mi y).2.2.1 (am_mi y).2.2.2.1 :: am_big
def am_Pc (E : am_E) (A : Nat → Prop) (as : List am_V) (m : am_M) : Array Value → State → Prop := fun v U => v = (as.map (am_cv E)).toArray ∧ (∀ x ∈ as, am_vok x) ∧ am_Wd E A m U U.heap ∧ am_RO E A U
def am_rc (E : am_E) (y : Nat) (v : am_V) : Option Value := if (am_mi y).2.2.2.1 = none then none else some (am_cv E v)
def am_Qc (E : am_E) (A : Nat → Prop) (y : Nat) (P : am_V → am_M → Prop) : Array Value → State → Outcome → State → Prop := fun _ st oc t => (∃ (v : am_V) (m' : am_M), oc = .returned (am_rc E y v) ∧ am_vok v ∧ P v m' ∧ va_P E.1 vwCl (am_ws E m') t.heap ∧ am_MR m') ∧ va_F A st t
/-- method y, called with these arguments at this memory, comes back with P; d: how deep it may call -/
def am_Ok (d y : Nat) (as : List am_V) (m : am_M) (P : am_V → am_M → Prop) : Prop := ∀ (l : Launch) (E : am_E) (A : Nat → Prop), Met l (am_mi y).1 (am_wds y) (am_rm d) (am_Pc E A as m) (am_Qc E A y P) 0 0 A
def am_isRet (i : Instr) (v : am_V) : Prop := match i, v with
  | .ireturn, .inl _ => True
  | .lreturn, .inr (.inl _) => True
  | .areturn, .inr (.inr _) => True
  | .return_, .inl z => z = 0
  | _, _ => False
def am_rst (E : am_E) (i : Instr) (v : am_V) : List Value := match i with
  | .return_ => []
  | _ => [am_cv E v]
def am_bool (y : Nat) : Bool := match (am_mi y).2.2.2.1 with
  | some .boolean => true
  | _ => false
def am_rtk (rt : Option FieldType) (i : Instr) : Bool := match i, rt with
  | .ireturn, some .int => true
  | .ireturn, some .boolean => true
  | .lreturn, some .long => true
  | .areturn, some (.object _) => true
  | .return_, none => true
  | _, _ => false
/-- the frame in which a method's code runs -/
def am_Cx (p : Program) (l : Launch) (e : Env) (R : Room) (s : State) (mm : MethodId) (args : Array Value) (below : List Frame) (meth : Method) (c : Code) (cells slots : Nat) (Q : State → Prop) (E : am_E) (A : Nat → Prop) (y d : Nat) (P : am_V → am_M → Prop) : Prop :=
  p.tables.exec = Jvm.exec ∧ c.code = (am_mi y).2.1 ∧ c.maxLocals = (am_mi y).2.2.1 ∧ s.vm.findClass (am_cn.getD (am_mi y).2.2.2.2 "") = some mm.cls ∧ (∀ w ∈ am_big, w.before args s = true)
  ∧ d ≤ R.frames ∧ 64 * d ≤ R.locals ∧ cells ≤ R.cells ∧ slots ≤ R.slots ∧ am_RO E A s ∧ va_K E.1 vwCl (am_tys E) s
  ∧ (∀ (i : Instr) (pc : Nat) (ls : Array Slot) (H : Heap) (locs : List Loc) (m : am_M) (v : am_V), decode (am_mi y).2.1 pc = .ok (i, 1) → am_rtk (am_mi y).2.2.2.1 i = true → am_isRet i v → am_vok v → (am_bool y = true → ∀ z, v = .inl z → z = 0 ∨ z = 1) → P v m → am_Wd E A m s H → va_S A s.heap H locs → W p l e R s mm args below meth c H locs cells slots Q (F0 mm pc ls (am_rst E i v)))
def am_at (p : Program) (l : Launch) (e : Env) (R : Room) (s : State) (mm : MethodId) (args : Array Value) (below : List Frame) (meth : Method) (c : Code) (cells slots : Nat) (Q : State → Prop) (E : am_E) (A : Nat → Prop) (y : Nat) (pc : Nat) (lv : am_L) (st : List am_V) (m : am_M) : Prop :=
  ∀ (H : Heap) (locs : List Loc) (ls : Array Slot), am_Wd E A m s H → va_S A s.heap H locs → lv_has ls (am_mi y).2.2.1 (lv.map fun q => (q.1, am_cv E q.2)) → (∀ q ∈ lv, am_vok q.2) → (∀ v ∈ st, am_vok v) → W p l e R s mm args below meth c H locs cells slots Q (F0 mm pc ls (st.map (am_cv E)))
/-- at a place of a method's code -/
def am_G (d y : Nat) (P : am_V → am_M → Prop) (pc : Nat) (lv : am_L) (st : List am_V) (m : am_M) : Prop :=
  ∀ (p : Program) (l : Launch) (e : Env) (R : Room) (s : State) (mm : MethodId) (args : Array Value) (below : List Frame) (meth : Method) (c : Code) (cells slots : Nat) (Q : State → Prop) (E : am_E) (A : Nat → Prop),
    am_Cx p l e R s mm args below meth c cells slots Q E A y d P → am_at p l e R s mm args below meth c cells slots Q E A y pc lv st m
def am_OkI (d y : Nat) (as : List am_V) (m : am_M) (P : Int → am_M → Prop) : Prop := am_Ok d y as m (fun v m' => am_vi v fun z => P z m')
def am_OkL (d y : Nat) (as : List am_V) (m : am_M) (P : Int64 → am_M → Prop) : Prop := am_Ok d y as m (fun v m' => am_vl v fun z => P z m')
def am_OkR (d y : Nat) (as : List am_V) (m : am_M) (P : Nat → am_M → Prop) : Prop := am_Ok d y as m (fun v m' => am_vr v fun z => P z m')
def am_OkV (d y : Nat) (as : List am_V) (m : am_M) (P : am_M → Prop) : Prop := am_Ok d y as m (fun _ m' => P m')
def am_GI (d y : Nat) (P : Int → am_M → Prop) (pc : Nat) (lv : am_L) (st : List am_V) (m : am_M) : Prop := am_G d y (fun v m' => am_vi v fun z => P z m') pc lv st m
def am_GL (d y : Nat) (P : Int64 → am_M → Prop) (pc : Nat) (lv : am_L) (st : List am_V) (m : am_M) : Prop := am_G d y (fun v m' => am_vl v fun z => P z m') pc lv st m
def am_GR (d y : Nat) (P : Nat → am_M → Prop) (pc : Nat) (lv : am_L) (st : List am_V) (m : am_M) : Prop := am_G d y (fun v m' => am_vr v fun z => P z m') pc lv st m
def am_GV (d y : Nat) (P : am_M → Prop) (pc : Nat) (lv : am_L) (st : List am_V) (m : am_M) : Prop := am_G d y (fun _ m' => P m') pc lv st m
end
section
/-! numbers and worlds: the plain facts that the soundness of the abstract machine stands on -/
theorem am_R_min : Int32.minValue.toInt = -2147483648 := by decide
theorem am_R_max : Int32.maxValue.toInt = 2147483647 := by decide
theorem am_to {z : Int} (h : am_R z) : (Int32.ofInt z).toInt = z := Int32.toInt_ofInt_of_le (by have := h.1; omega) (by have := h.2; omega)
theorem am_ltI {a b : Int} (ha : am_R a) (hb : am_R b) : Int32.ofInt a < Int32.ofInt b ↔ a < b := by rw [Int32.lt_iff_toInt_lt, am_to ha, am_to hb]
theorem am_leI {a b : Int} (ha : am_R a) (hb : am_R b) : Int32.ofInt a ≤ Int32.ofInt b ↔ a ≤ b := by rw [Int32.le_iff_toInt_le, am_to ha, am_to hb]
theorem am_eqI {a b : Int} (ha : am_R a) (hb : am_R b) : Int32.ofInt a = Int32.ofInt b ↔ a = b := by rw [← Int32.toInt_inj, am_to ha, am_to hb]
theorem am_R0 : am_R 0 := ⟨by decide, by decide⟩
theorem am_RT (x : Int32) : am_R x.toInt := ⟨by have := Int32.le_toInt x; omega, by have := Int32.toInt_lt x; omega⟩
theorem am_of (x : Int32) : Int32.ofInt x.toInt = x := Int32.ofInt_toInt x
theorem am_clamp {z : Int} (h : am_R z) : (Int32.ofInt z).toNatClampNeg = z.toNat := Int32.toNatClampNeg_ofInt_of_le (by have := h.1; omega) (by have := h.2; omega)
theorem am_vin {z : Int} {n : Nat} (h : am_R z) (h0 : 0 ≤ z) (h1 : z < (n : Int)) : vp_in (Int32.ofInt z) n := by
  intro hn
  rcases hn with hn | hn
  · have := (am_ltI h am_R0).mp hn
    omega
  · rw [am_clamp h] at hn
    omega
theorem am_In_R {r : Nat} {z : Int} (h : am_In r z) : am_R z := by
  unfold am_In at h
  split at h
  · rcases h with rfl | rfl <;> exact ⟨by decide, by decide⟩
  · exact ⟨by omega, by omega⟩
  · exact h
theorem am_MR.R {m : am_M} (h : am_MR m) (id : Nat) (z : Int) : am_R (m.1 id z) := am_In_R (h id z)
theorem am_rg0 {q : Nat} (h : q < 1000) (hk : (am_lay q).1 ≠ 101) (hk2 : (am_lay q).1 ≠ 102) : am_rg q = 0 := by simp [am_rg, h, hk, hk2]
theorem am_rg1 {q : Nat} (h : q < 1000) (hk : (am_lay q).1 = 101) : am_rg q = 1 := by simp [am_rg, h, hk]
theorem am_rg2 {q : Nat} (h : q < 1000) (hk : (am_lay q).1 = 102) : am_rg q = 2 := by simp [am_rg, h, hk]
theorem am_MR.wr {m : am_M} (h : am_MR m) {id : Nat} {z v : Int} (hv : am_In (am_rg id) v) : am_MR (am_wr m id z v) := by
  intro i j
  show am_In (am_rg i) ((if i = id then (fun j => if j = z then v else m.1 id j) else m.1 i) j)
  by_cases hi : i = id
  · subst hi
    rw [if_pos rfl]
    show am_In (am_rg i) (if j = z then v else m.1 i j)
    by_cases hj : j = z
    · rw [if_pos hj]; exact hv
    · rw [if_neg hj]; exact h i j
  · rw [if_neg hi]; exact h i j
theorem am_MR.wl {m : am_M} (h : am_MR m) {id : Nat} {z : Int} {v : Int64} : am_MR (am_wl m id z v) := h
theorem am_MR.ws1 {m : am_M} (h : am_MR m) {id : Nat} {f : Int → Int} (hf : ∀ j, am_In (am_rg id) (f j)) : am_MR (am_ws1 m id f) := by
  intro i j
  show am_In (am_rg i) ((if i = id then f else m.1 i) j)
  by_cases hi : i = id
  · subst hi; rw [if_pos rfl]; exact hf j
  · rw [if_neg hi]; exact h i j
theorem am_MR.ws2 {m : am_M} (h : am_MR m) {id : Nat} {f : Int → Int64} : am_MR (am_ws2 m id f) := h
-- the layout's own facts, by the kernel
def am_lok : Bool := (List.range am_N).all fun q => (am_layL.getD q (200, [])).1 < 105 && ((am_layL.getD q (200, [])).1 < 13 || 100 ≤ (am_layL.getD q (200, [])).1) && ((100 ≤ (am_layL.getD q (200, [])).1 && ((am_layL.getD q (200, [])).2.length == 1 || (am_layL.getD q (200, [])).1 == 104)) || ((am_layL.getD q (200, [])).2.length == (vwCl.getD (am_layL.getD q (200, [])).1 ("", fun _ => ("", "", "", false), 0)).2.2 && decide ((am_layL.getD q (200, [])).2.length ≤ 100) && (List.range (am_layL.getD q (200, [])).2.length).all fun k => let e := (am_layL.getD q (200, [])).2.getD k (9, 0); (e.1 == 2 && e.2 < am_N) || (e.1 < 4 && e.1 != 2 && e.2 == 1000 + 100 * q + k)))
theorem am_lok_true : am_lok = true := by decide +kernel
theorem am_N_len : am_layL.length = am_N := by decide +kernel
theorem am_lay_out {q : Nat} (h : am_N ≤ q) : am_lay q = (200, []) := by
  unfold am_lay
  rw [List.getD_eq_getElem?_getD, List.getElem?_eq_none (by rw [am_N_len]; exact h)]
  rfl
theorem am_lay_lt {q : Nat} (h : (am_lay q).1 < 200) : q < am_N := by
  rcases Nat.lt_or_ge q am_N with g | g
  · exact g
  · rw [am_lay_out g] at h
    exact absurd h (by decide)
theorem am_lokq {q : Nat} (hq : q < am_N) : ((am_lay q).1 < 105 ∧ ((am_lay q).1 < 13 ∨ 100 ≤ (am_lay q).1)) ∧ ((100 ≤ (am_lay q).1 ∧ ((am_lay q).2.length = 1 ∨ (am_lay q).1 = 104)) ∨ ((am_lay q).2.length = (vwCl.getD (am_lay q).1 ("", fun _ => ("", "", "", false), 0)).2.2 ∧ (am_lay q).2.length ≤ 100 ∧ ∀ k, k < (am_lay q).2.length → ((((am_lay q).2.getD k (9, 0)).1 = 2 ∧ ((am_lay q).2.getD k (9, 0)).2 < am_N) ∨ (((am_lay q).2.getD k (9, 0)).1 < 4 ∧ ((am_lay q).2.getD k (9, 0)).1 ≠ 2 ∧ ((am_lay q).2.getD k (9, 0)).2 = 1000 + 100 * q + k)))) := by
  have h := List.all_eq_true.mp am_lok_true q (List.mem_range.mpr hq)
  simp only [Bool.and_eq_true, Bool.or_eq_true, decide_eq_true_eq, beq_iff_eq, List.all_eq_true, List.mem_range, bne_iff_ne, ne_eq] at h
  obtain ⟨⟨h1, h2⟩, h3⟩ := h
  refine ⟨⟨h1, h2⟩, ?_⟩
  rcases h3 with h3 | ⟨⟨h3, h4⟩, h5⟩
  · exact Or.inl h3
  · refine Or.inr ⟨h3, h4, fun k hk => ?_⟩
    rcases h5 k hk with h6 | ⟨⟨h6, h7⟩, h8⟩
    · exact Or.inl h6
    · exact Or.inr ⟨h6, h7, h8⟩
theorem am_ws_get (E : am_E) (m : am_M) {q : Nat} (h : q < am_N) : (am_ws E m)[q]? = some (am_ad E q, am_cell E m q) := by
  unfold am_ws
  rw [List.getElem?_map, List.getElem?_range h]
  rfl
theorem am_ws_len (E : am_E) (m : am_M) : (am_ws E m).length = am_N := by simp [am_ws]
theorem am_ws_set (E : am_E) {m m' : am_M} {q : Nat} (ho : ∀ q', q' < am_N → q' ≠ q → am_cell E m' q' = am_cell E m q') : (am_ws E m).set q (am_ad E q, am_cell E m' q) = am_ws E m' := by
  refine List.ext_getElem? fun k => ?_
  rw [List.getElem?_set]
  by_cases hk : k < am_N
  · rw [am_ws_get E m hk, am_ws_get E m' hk]
    by_cases hq : q = k
    · subst hq
      rw [if_pos rfl, if_pos (by rw [am_ws_len]; exact hk)]
    · rw [if_neg hq, ho k hk (Ne.symm hq)]
  · have h1 : (am_ws E m)[k]? = none := List.getElem?_eq_none (by rw [am_ws_len]; omega)
    have h2 : (am_ws E m')[k]? = none := List.getElem?_eq_none (by rw [am_ws_len]; omega)
    rw [h1, h2]
    split
    · rw [if_neg (by rw [am_ws_len]; omega)]
    · rfl
/-- what a write of a row leaves of the other cells -/
theorem am_cell_arr {E : am_E} {m m' : am_M} {q : Nat} (hq : q < 1000) (h1 : ∀ i, i ≠ q → m'.1 i = m.1 i) (h2 : ∀ i, i ≠ q → m'.2 i = m.2 i) : ∀ q', q' < am_N → q' ≠ q → am_cell E m' q' = am_cell E m q' := by
  intro q' hN hne
  unfold am_cell
  split
  · rename_i hk
    congr 2
    refine List.map_congr_left fun e he => ?_
    obtain ⟨k, hk2⟩ := List.getElem?_of_mem he
    have hkl : k < (am_lay q').2.length := (List.getElem?_eq_some_iff.mp hk2).1
    have he2 : (am_lay q').2.getD k (9, 0) = e := by rw [List.getD_eq_getElem?_getD, hk2]; rfl
    rcases (am_lokq hN).2 with ⟨h, -⟩ | ⟨-, -, h⟩
    · omega
    · have h := h k hkl
      rw [he2] at h
      unfold am_fv
      rcases h with ⟨h3, -⟩ | ⟨h3, h4, h5⟩
      · simp only [h3]
      · rw [h1 e.2 (by omega), h2 e.2 (by omega)]
  · split
    · rw [h2 q' hne]
    · split
      · rfl
      · rw [h1 q' hne]
/-- what a write of a field leaves of the other cells -/
theorem am_cell_fld {E : am_E} {m m' : am_M} {q k : Nat} (hN0 : q < am_N) (hk : k < 100) (h1 : ∀ i, i ≠ 1000 + 100 * q + k → m'.1 i = m.1 i) (h2 : ∀ i, i ≠ 1000 + 100 * q + k → m'.2 i = m.2 i) : ∀ q', q' < am_N → q' ≠ q → am_cell E m' q' = am_cell E m q' := by
  intro q' hN hne
  have hNN : am_N < 1000 := by decide
  unfold am_cell
  split
  · rename_i hk
    congr 2
    refine List.map_congr_left fun e he => ?_
    obtain ⟨k', hk2⟩ := List.getElem?_of_mem he
    have hkl : k' < (am_lay q').2.length := (List.getElem?_eq_some_iff.mp hk2).1
    have he2 : (am_lay q').2.getD k' (9, 0) = e := by rw [List.getD_eq_getElem?_getD, hk2]; rfl
    rcases (am_lokq hN).2 with ⟨h, -⟩ | ⟨-, h100, h⟩
    · omega
    · have h := h k' hkl
      rw [he2] at h
      unfold am_fv
      rcases h with ⟨h3, -⟩ | ⟨h3, h4, h5⟩
      · simp only [h3]
      · rw [h1 e.2 (by omega), h2 e.2 (by omega)]
  · split
    · rw [h2 q' (by omega)]
    · split
      · rfl
      · rw [h1 q' (by omega)]
theorem am_D_any {E : am_E} {A : Nat → Prop} {m m' : am_M} (h : va_D A (am_ws E m)) : va_D A (am_ws E m') := by
  have key : ∀ (k : Nat) (x : Nat × va_E), (am_ws E m')[k]? = some x → (am_ws E m)[k]? = some (x.1, am_cell E m k) := by
    intro k x hx
    have hk : k < am_N := by
      have := (List.getElem?_eq_some_iff.mp hx).1
      rwa [am_ws_len] at this
    rw [am_ws_get E m' hk] at hx
    cases hx
    exact am_ws_get E m hk
  exact ⟨fun i j x z hi hj hxy => h.1 i j (x.1, am_cell E m i) (z.1, am_cell E m j) (key i x hi) (key j z hj) hxy, fun k x hk => h.2 k (x.1, am_cell E m k) (key k x hk)⟩
end
section
section
variable {p : Program} {l : Launch} {e : Env} {R : Room} {s : State} {mm : MethodId} {args : Array Value} {below : List Frame} {meth : Method} {c : Code} {cells slots : Nat} {Q : State → Prop} {E : am_E} {A : Nat → Prop} {y d : Nat} {P : am_V → am_M → Prop}
  {pc : Nat} {lv : am_L} {r st : List am_V} {m : am_M}
theorem am_lvget : ∀ {lv : am_L} {k : Nat} {v : am_V}, am_get lv k = some v → (k, v) ∈ lv
  | [], _, _, h => by cases h
  | (j, w) :: r, k, v, h => by
    unfold am_get at h
    cases hb : Nat.beq j k with
    | true =>
      rw [hb] at h
      cases h
      have := Nat.eq_of_beq_eq_true hb
      subst this
      exact List.mem_cons_self
    | false =>
      rw [hb] at h
      exact List.mem_cons_of_mem _ (am_lvget h)
theorem am_lvat {ls : Array Slot} {n k : Nat} {v : am_V} (hl : lv_has ls n (lv.map fun q => (q.1, am_cv E q.2))) (h : am_get lv k = some v) : ls[k]? = some (.val (am_cv E v)) :=
  hl.2.2 (k, am_cv E v) (List.mem_map.mpr ⟨(k, v), am_lvget h, rfl⟩)
theorem am_mem_ins {k : Nat} {v : am_V} : ∀ {lv : am_L} {x : Nat × am_V}, x ∈ am_ins k v lv → x = (k, v) ∨ x ∈ lv
  | [], x, h => by
    unfold am_ins at h
    exact Or.inl (List.mem_singleton.mp h)
  | (j, w) :: r, x, h => by
    unfold am_ins at h
    split at h
    · rcases List.mem_cons.mp h with h | h
      · exact Or.inl h
      · exact Or.inr h
    · rcases List.mem_cons.mp h with h | h
      · exact Or.inr (h ▸ List.mem_cons_self)
      · rcases am_mem_ins h with h | h
        · exact Or.inl h
        · exact Or.inr (List.mem_cons_of_mem _ h)
theorem am_mem_del {i : Nat} : ∀ {lv : am_L} {x : Nat × am_V}, x ∈ am_del lv i → x ∈ lv ∧ x.1 ≠ i ∧ ¬ (x.1 + 1 = i ∧ am_lng x.2 = true)
  | [], x, h => by unfold am_del at h; cases h
  | (j, w) :: r, x, h => by
    unfold am_del at h
    split at h
    · have := am_mem_del h
      exact ⟨List.mem_cons_of_mem _ this.1, this.2⟩
    · rename_i hb
      rcases List.mem_cons.mp h with h | h
      · subst h
        simp only [Bool.or_eq_false_iff, Bool.and_eq_false_iff] at hb
        refine ⟨List.mem_cons_self, fun hh => ?_, fun hh => ?_⟩
        · have := Nat.ne_of_beq_eq_false hb.1
          exact this hh
        · rcases hb.2 with h2 | h2
          · exact Nat.ne_of_beq_eq_false h2 hh.1
          · rw [hh.2] at h2
            cases h2
      · have := am_mem_del h
        exact ⟨List.mem_cons_of_mem _ this.1, this.2⟩
theorem am_cat_cv (v : am_V) : (am_cv E v).category = if am_lng v = true then 2 else 1 := by
  rcases v with z | z | z <;> rfl
/-- the locals behind a store -/
theorem am_lvset1 {ls : Array Slot} {n k : Nat} {v : am_V} (hv : am_lng v = false) (h : lv_has ls n ((k, am_cv E v) :: (lv.map fun q => (q.1, am_cv E q.2)).filter (fun q => !(q.1 == k) && !(q.1 + 1 == k && q.2.category == 2)))) : lv_has ls n ((am_set lv k v).map fun q => (q.1, am_cv E q.2)) := by
  refine ⟨h.1, h.2.1, fun q hq => ?_⟩
  obtain ⟨x, hx, rfl⟩ := List.mem_map.mp hq
  unfold am_set at hx
  rw [hv] at hx
  rcases am_mem_ins hx with rfl | hx
  · exact h.2.2 _ List.mem_cons_self
  · obtain ⟨h1, h2, h3⟩ := am_mem_del hx
    refine h.2.2 _ (List.mem_cons_of_mem _ (List.mem_filter.mpr ⟨List.mem_map.mpr ⟨x, h1, rfl⟩, ?_⟩))
    have h5 : (am_cv E x.2).category = if am_lng x.2 = true then 2 else 1 := am_cat_cv x.2
    simp only [Bool.and_eq_true, Bool.not_eq_true', beq_eq_false_iff_ne, ne_eq, Bool.and_eq_false_iff]
    refine ⟨h2, ?_⟩
    by_cases h4 : x.1 + 1 = k
    · right
      rw [h5, if_neg (fun hh => h3 ⟨h4, hh⟩)]
      decide
    · exact Or.inl h4
theorem am_lvset2 {ls : Array Slot} {n k : Nat} {v : am_V} (hv : am_lng v = true) (h : lv_has ls n ((k, am_cv E v) :: (lv.map fun q => (q.1, am_cv E q.2)).filter (fun q => !(q.1 == k) && (!(q.1 == k + 1) && !(q.1 + 1 == k && q.2.category == 2))))) : lv_has ls n ((am_set lv k v).map fun q => (q.1, am_cv E q.2)) := by
  refine ⟨h.1, h.2.1, fun q hq => ?_⟩
  obtain ⟨x, hx, rfl⟩ := List.mem_map.mp hq
  unfold am_set at hx
  rw [hv] at hx
  rcases am_mem_ins hx with rfl | hx
  · exact h.2.2 _ List.mem_cons_self
  · obtain ⟨h1, h2, h3⟩ := am_mem_del hx
    obtain ⟨h1, h2', -⟩ := am_mem_del h1
    refine h.2.2 _ (List.mem_cons_of_mem _ (List.mem_filter.mpr ⟨List.mem_map.mpr ⟨x, h1, rfl⟩, ?_⟩))
    have h5 : (am_cv E x.2).category = if am_lng x.2 = true then 2 else 1 := am_cat_cv x.2
    simp only [Bool.and_eq_true, Bool.not_eq_true', beq_eq_false_iff_ne, ne_eq, Bool.and_eq_false_iff]
    refine ⟨h2, h2', ?_⟩
    by_cases h4 : x.1 + 1 = k
    · right
      rw [h5, if_neg (fun hh => h3 ⟨h4, hh⟩)]
      decide
    · exact Or.inl h4
theorem am_vok_set {k : Nat} {v : am_V} (h : ∀ q ∈ lv, am_vok q.2) (hv : am_vok v) : ∀ q ∈ am_set lv k v, am_vok q.2 := by
  intro q hq
  unfold am_set at hq
  split at hq
  · rcases am_mem_ins hq with rfl | hq
    · exact hv
    · exact h q (am_mem_del (am_mem_del hq).1).1
  · rcases am_mem_ins hq with rfl | hq
    · exact hv
    · exact h q (am_mem_del hq).1
theorem am_vc {v : am_V} {st : List am_V} (hv : am_vok v) (h : ∀ v ∈ st, am_vok v) : ∀ x ∈ v :: st, am_vok x := fun x hx => by
  rcases List.mem_cons.mp hx with rfl | hx
  · exact hv
  · exact h x hx
theorem am_vt {v : am_V} {st : List am_V} (h : ∀ x ∈ v :: st, am_vok x) : ∀ x ∈ st, am_vok x := fun x hx => h x (List.mem_cons_of_mem _ hx)
theorem am_vh {v : am_V} {st : List am_V} (h : ∀ x ∈ v :: st, am_vok x) : am_vok v := h v List.mem_cons_self
theorem s_iconst (C : am_Cx p l e R s mm args below meth c cells slots Q E A y d P) {n : Int} {z : Int} (hz : Int32.ofInt n = Int32.ofInt z) (hr : am_R z) (hd : decode (am_mi y).2.1 pc = .ok (.iconst n, 1)) (k : am_at p l e R s mm args below meth c cells slots Q E A y (pc + 1) lv (.inl z :: st) m) : am_at p l e R s mm args below meth c cells slots Q E A y (pc) lv (st) m := by
  obtain ⟨hx, hb, hml, hown, hts, hfr, hlo, hce, hsl, hRO, hK, hret⟩ := id C
  intro H locs ls hW hS hl hv hst
  exact lv_iconst hx hb hd hz (k H locs ls hW hS hl hv (am_vc hr hst))
theorem s_bipush (C : am_Cx p l e R s mm args below meth c cells slots Q E A y d P) {n : Int} {z : Int} (hz : (Int8.ofInt n).toInt32 = Int32.ofInt z) (hr : am_R z) (hd : decode (am_mi y).2.1 pc = .ok (.bipush n, 2)) (k : am_at p l e R s mm args below meth c cells slots Q E A y (pc + 2) lv (.inl z :: st) m) : am_at p l e R s mm args below meth c cells slots Q E A y (pc) lv (st) m := by
  obtain ⟨hx, hb, hml, hown, hts, hfr, hlo, hce, hsl, hRO, hK, hret⟩ := id C
  intro H locs ls hW hS hl hv hst
  exact lv_bipush hx hb hd hz (k H locs ls hW hS hl hv (am_vc hr hst))
theorem s_sipush (C : am_Cx p l e R s mm args below meth c cells slots Q E A y d P) {n : Int} {z : Int} (hz : (Int16.ofInt n).toInt32 = Int32.ofInt z) (hr : am_R z) (hd : decode (am_mi y).2.1 pc = .ok (.sipush n, 3)) (k : am_at p l e R s mm args below meth c cells slots Q E A y (pc + 3) lv (.inl z :: st) m) : am_at p l e R s mm args below meth c cells slots Q E A y (pc) lv (st) m := by
  obtain ⟨hx, hb, hml, hown, hts, hfr, hlo, hce, hsl, hRO, hK, hret⟩ := id C
  intro H locs ls hW hS hl hv hst
  exact lv_sipush hx hb hd hz (k H locs ls hW hS hl hv (am_vc hr hst))
theorem s_ldc (C : am_Cx p l e R s mm args below meth c cells slots Q E A y d P) {i : Nat} {z : Int} (hc : Cond.constant (am_cn.getD (am_mi y).2.2.2.2 "") i (Int32.ofInt z) ∈ am_big) (hr : am_R z) (hd : decode (am_mi y).2.1 pc = .ok (.ldc i, 2)) (k : am_at p l e R s mm args below meth c cells slots Q E A y (pc + 2) lv (.inl z :: st) m) : am_at p l e R s mm args below meth c cells slots Q E A y (pc) lv (st) m := by
  obtain ⟨hx, hb, hml, hown, hts, hfr, hlo, hce, hsl, hRO, hK, hret⟩ := id C
  intro H locs ls hW hS hl hv hst
  exact lv_ldc hx hb hown (hts _ hc) hd (k H locs ls hW hS hl hv (am_vc hr hst))
theorem s_ldcw (C : am_Cx p l e R s mm args below meth c cells slots Q E A y d P) {i : Nat} {z : Int} (hc : Cond.constant (am_cn.getD (am_mi y).2.2.2.2 "") i (Int32.ofInt z) ∈ am_big) (hr : am_R z) (hd : decode (am_mi y).2.1 pc = .ok (.ldc_w i, 3)) (k : am_at p l e R s mm args below meth c cells slots Q E A y (pc + 3) lv (.inl z :: st) m) : am_at p l e R s mm args below meth c cells slots Q E A y (pc) lv (st) m := by
  obtain ⟨hx, hb, hml, hown, hts, hfr, hlo, hce, hsl, hRO, hK, hret⟩ := id C
  intro H locs ls hW hS hl hv hst
  exact lv_ldcw hx hb hown (hts _ hc) hd (k H locs ls hW hS hl hv (am_vc hr hst))
theorem s_lconst (C : am_Cx p l e R s mm args below meth c cells slots Q E A y d P) {n : Fin 2} (hd : decode (am_mi y).2.1 pc = .ok (.lconst n, 1)) (k : am_at p l e R s mm args below meth c cells slots Q E A y (pc + 1) lv (.inr (.inl (Int64.ofNat n.val)) :: st) m) : am_at p l e R s mm args below meth c cells slots Q E A y (pc) lv (st) m := by
  obtain ⟨hx, hb, hml, hown, hts, hfr, hlo, hce, hsl, hRO, hK, hret⟩ := id C
  intro H locs ls hW hS hl hv hst
  exact lv_lconst hx hb hd rfl (k H locs ls hW hS hl hv (am_vc trivial hst))
theorem s_ldc2 (C : am_Cx p l e R s mm args below meth c cells slots Q E A y d P) {i n : Nat} (hc : Cond.constantLong (am_cn.getD (am_mi y).2.2.2.2 "") i (Int64.ofNat n) ∈ am_big) (hd : decode (am_mi y).2.1 pc = .ok (.ldc2_w i, 3)) (k : am_at p l e R s mm args below meth c cells slots Q E A y (pc + 3) lv (.inr (.inl (Int64.ofNat n)) :: st) m) : am_at p l e R s mm args below meth c cells slots Q E A y (pc) lv (st) m := by
  obtain ⟨hx, hb, hml, hown, hts, hfr, hlo, hce, hsl, hRO, hK, hret⟩ := id C
  intro H locs ls hW hS hl hv hst
  exact lv_ldc2 hx hb hown (hts _ hc) hd (k H locs ls hW hS hl hv (am_vc trivial hst))
theorem s_ldcS (C : am_Cx p l e R s mm args below meth c cells slots Q E A y d P) {i n : Nat} (ho : am_cn.getD (am_mi y).2.2.2.2 "" = "TripleSieve$Reader") (hc : (i, n) ∈ am_sl.getD 6 []) (hd : decode (am_mi y).2.1 pc = .ok (.ldc i, 2)) (k : am_at p l e R s mm args below meth c cells slots Q E A y (pc + 2) lv (.inr (.inr n) :: st) m) : am_at p l e R s mm args below meth c cells slots Q E A y (pc) lv (st) m := by
  obtain ⟨hx, hb, hml, hown, hts, hfr, hlo, hce, hsl, hRO, hK, hret⟩ := id C
  intro H locs ls hW hS hl hv hst
  have hz := hRO.2.2.2.2.1 _ hc
  rw [ho] at hown
  exact va_ldcS hx hb hown hz hd (k H locs ls hW hS hl hv (am_vc trivial hst))
theorem s_iload (C : am_Cx p l e R s mm args below meth c cells slots Q E A y d P) {i : Nat} {z : Int} (hg : am_get lv i = some (.inl z)) (hd : decode (am_mi y).2.1 pc = .ok (.iload i, 2)) (k : am_at p l e R s mm args below meth c cells slots Q E A y (pc + 2) lv (.inl z :: st) m) : am_at p l e R s mm args below meth c cells slots Q E A y (pc) lv (st) m := by
  obtain ⟨hx, hb, hml, hown, hts, hfr, hlo, hce, hsl, hRO, hK, hret⟩ := id C
  intro H locs ls hW hS hl hv hst
  exact lv_iload hx hb hd (am_lvat hl hg) (k H locs ls hW hS hl hv (am_vc (hv _ (am_lvget hg)) hst))
theorem s_iloadn (C : am_Cx p l e R s mm args below meth c cells slots Q E A y d P) {n : Fin 4} {i : Nat} (hi : (n : Nat) = i) {z : Int} (hg : am_get lv i = some (.inl z)) (hd : decode (am_mi y).2.1 pc = .ok (.iload_n n, 1)) (k : am_at p l e R s mm args below meth c cells slots Q E A y (pc + 1) lv (.inl z :: st) m) : am_at p l e R s mm args below meth c cells slots Q E A y (pc) lv (st) m := by
  obtain ⟨hx, hb, hml, hown, hts, hfr, hlo, hce, hsl, hRO, hK, hret⟩ := id C
  intro H locs ls hW hS hl hv hst
  exact lv_iload_n hx hb hd hi (am_lvat hl hg) (k H locs ls hW hS hl hv (am_vc (hv _ (am_lvget hg)) hst))
theorem s_lload (C : am_Cx p l e R s mm args below meth c cells slots Q E A y d P) {i : Nat} {z : Int64} (hg : am_get lv i = some (.inr (.inl z))) (hd : decode (am_mi y).2.1 pc = .ok (.lload i, 2)) (k : am_at p l e R s mm args below meth c cells slots Q E A y (pc + 2) lv (.inr (.inl z) :: st) m) : am_at p l e R s mm args below meth c cells slots Q E A y (pc) lv (st) m := by
  obtain ⟨hx, hb, hml, hown, hts, hfr, hlo, hce, hsl, hRO, hK, hret⟩ := id C
  intro H locs ls hW hS hl hv hst
  exact lv_lload hx hb hd (am_lvat hl hg) (k H locs ls hW hS hl hv (am_vc trivial hst))
theorem s_lloadn (C : am_Cx p l e R s mm args below meth c cells slots Q E A y d P) {n : Fin 4} {i : Nat} (hi : (n : Nat) = i) {z : Int64} (hg : am_get lv i = some (.inr (.inl z))) (hd : decode (am_mi y).2.1 pc = .ok (.lload_n n, 1)) (k : am_at p l e R s mm args below meth c cells slots Q E A y (pc + 1) lv (.inr (.inl z) :: st) m) : am_at p l e R s mm args below meth c cells slots Q E A y (pc) lv (st) m := by
  obtain ⟨hx, hb, hml, hown, hts, hfr, hlo, hce, hsl, hRO, hK, hret⟩ := id C
  intro H locs ls hW hS hl hv hst
  exact lv_lload_n hx hb hd hi (am_lvat hl hg) (k H locs ls hW hS hl hv (am_vc trivial hst))
theorem s_aload (C : am_Cx p l e R s mm args below meth c cells slots Q E A y d P) {i : Nat} {z : Nat} (hg : am_get lv i = some (.inr (.inr z))) (hd : decode (am_mi y).2.1 pc = .ok (.aload i, 2)) (k : am_at p l e R s mm args below meth c cells slots Q E A y (pc + 2) lv (.inr (.inr z) :: st) m) : am_at p l e R s mm args below meth c cells slots Q E A y (pc) lv (st) m := by
  obtain ⟨hx, hb, hml, hown, hts, hfr, hlo, hce, hsl, hRO, hK, hret⟩ := id C
  intro H locs ls hW hS hl hv hst
  exact lv_aload hx hb hd (am_lvat hl hg) (k H locs ls hW hS hl hv (am_vc trivial hst))
theorem s_aloadn (C : am_Cx p l e R s mm args below meth c cells slots Q E A y d P) {n : Fin 4} {i : Nat} (hi : (n : Nat) = i) {z : Nat} (hg : am_get lv i = some (.inr (.inr z))) (hd : decode (am_mi y).2.1 pc = .ok (.aload_n n, 1)) (k : am_at p l e R s mm args below meth c cells slots Q E A y (pc + 1) lv (.inr (.inr z) :: st) m) : am_at p l e R s mm args below meth c cells slots Q E A y (pc) lv (st) m := by
  obtain ⟨hx, hb, hml, hown, hts, hfr, hlo, hce, hsl, hRO, hK, hret⟩ := id C
  intro H locs ls hW hS hl hv hst
  exact lv_aload_n hx hb hd hi (am_lvat hl hg) (k H locs ls hW hS hl hv (am_vc trivial hst))
theorem s_istore (C : am_Cx p l e R s mm args below meth c cells slots Q E A y d P) {i : Nat} {z : Int} (hn : i < (am_mi y).2.2.1) (hd : decode (am_mi y).2.1 pc = .ok (.istore i, 2)) (k : am_at p l e R s mm args below meth c cells slots Q E A y (pc + 2) (am_set lv i (.inl z)) (st) m) : am_at p l e R s mm args below meth c cells slots Q E A y (pc) lv (.inl z :: st) m := by
  obtain ⟨hx, hb, hml, hown, hts, hfr, hlo, hce, hsl, hRO, hK, hret⟩ := id C
  intro H locs ls hW hS hl hv hst
  exact lv_istore hx hb hd hl hn rfl (fun ls2 hl2 => k H locs ls2 hW hS (am_lvset1 (v := .inl z) rfl hl2) (am_vok_set hv (am_vh hst)) (am_vt hst))
theorem s_istoren (C : am_Cx p l e R s mm args below meth c cells slots Q E A y d P) {n : Fin 4} {i : Nat} (hi : (n : Nat) = i) {z : Int} (hn : i < (am_mi y).2.2.1) (hd : decode (am_mi y).2.1 pc = .ok (.istore_n n, 1)) (k : am_at p l e R s mm args below meth c cells slots Q E A y (pc + 1) (am_set lv i (.inl z)) (st) m) : am_at p l e R s mm args below meth c cells slots Q E A y (pc) lv (.inl z :: st) m := by
  obtain ⟨hx, hb, hml, hown, hts, hfr, hlo, hce, hsl, hRO, hK, hret⟩ := id C
  intro H locs ls hW hS hl hv hst
  exact lv_istore_n hx hb hd hi hl hn rfl (fun ls2 hl2 => k H locs ls2 hW hS (am_lvset1 (v := .inl z) rfl hl2) (am_vok_set hv (am_vh hst)) (am_vt hst))
theorem s_lstore (C : am_Cx p l e R s mm args below meth c cells slots Q E A y d P) {i : Nat} {z : Int64} (hn : i + 1 < (am_mi y).2.2.1) (hd : decode (am_mi y).2.1 pc = .ok (.lstore i, 2)) (k : am_at p l e R s mm args below meth c cells slots Q E A y (pc + 2) (am_set lv i (.inr (.inl z))) (st) m) : am_at p l e R s mm args below meth c cells slots Q E A y (pc) lv (.inr (.inl z) :: st) m := by
  obtain ⟨hx, hb, hml, hown, hts, hfr, hlo, hce, hsl, hRO, hK, hret⟩ := id C
  intro H locs ls hW hS hl hv hst
  exact lv_lstore hx hb hd hl hn rfl (fun ls2 hl2 => k H locs ls2 hW hS (am_lvset2 (v := .inr (.inl z)) rfl hl2) (am_vok_set hv (am_vh hst)) (am_vt hst))
theorem s_lstoren (C : am_Cx p l e R s mm args below meth c cells slots Q E A y d P) {n : Fin 4} {i : Nat} (hi : (n : Nat) = i) {z : Int64} (hn : i + 1 < (am_mi y).2.2.1) (hd : decode (am_mi y).2.1 pc = .ok (.lstore_n n, 1)) (k : am_at p l e R s mm args below meth c cells slots Q E A y (pc + 1) (am_set lv i (.inr (.inl z))) (st) m) : am_at p l e R s mm args below meth c cells slots Q E A y (pc) lv (.inr (.inl z) :: st) m := by
  obtain ⟨hx, hb, hml, hown, hts, hfr, hlo, hce, hsl, hRO, hK, hret⟩ := id C
  intro H locs ls hW hS hl hv hst
  exact lv_lstore_n hx hb hd hi hl hn rfl (fun ls2 hl2 => k H locs ls2 hW hS (am_lvset2 (v := .inr (.inl z)) rfl hl2) (am_vok_set hv (am_vh hst)) (am_vt hst))
theorem s_astore (C : am_Cx p l e R s mm args below meth c cells slots Q E A y d P) {i : Nat} {z : Nat} (hn : i < (am_mi y).2.2.1) (hd : decode (am_mi y).2.1 pc = .ok (.astore i, 2)) (k : am_at p l e R s mm args below meth c cells slots Q E A y (pc + 2) (am_set lv i (.inr (.inr z))) (st) m) : am_at p l e R s mm args below meth c cells slots Q E A y (pc) lv (.inr (.inr z) :: st) m := by
  obtain ⟨hx, hb, hml, hown, hts, hfr, hlo, hce, hsl, hRO, hK, hret⟩ := id C
  intro H locs ls hW hS hl hv hst
  exact lv_astore hx hb hd hl hn rfl (fun ls2 hl2 => k H locs ls2 hW hS (am_lvset1 (v := .inr (.inr z)) rfl hl2) (am_vok_set hv (am_vh hst)) (am_vt hst))
theorem s_astoren (C : am_Cx p l e R s mm args below meth c cells slots Q E A y d P) {n : Fin 4} {i : Nat} (hi : (n : Nat) = i) {z : Nat} (hn : i < (am_mi y).2.2.1) (hd : decode (am_mi y).2.1 pc = .ok (.astore_n n, 1)) (k : am_at p l e R s mm args below meth c cells slots Q E A y (pc + 1) (am_set lv i (.inr (.inr z))) (st) m) : am_at p l e R s mm args below meth c cells slots Q E A y (pc) lv (.inr (.inr z) :: st) m := by
  obtain ⟨hx, hb, hml, hown, hts, hfr, hlo, hce, hsl, hRO, hK, hret⟩ := id C
  intro H locs ls hW hS hl hv hst
  exact lv_astore_n hx hb hd hi hl hn rfl (fun ls2 hl2 => k H locs ls2 hW hS (am_lvset1 (v := .inr (.inr z)) rfl hl2) (am_vok_set hv (am_vh hst)) (am_vt hst))
theorem s_iinc (C : am_Cx p l e R s mm args below meth c cells slots Q E A y d P) {i : Nat} {n z : Int} (hg : am_get lv i = some (.inl z)) (hn : i < (am_mi y).2.2.1) (hr : am_R (z + n)) (hd : decode (am_mi y).2.1 pc = .ok (.iinc i n, 3)) (k : am_at p l e R s mm args below meth c cells slots Q E A y (pc + 3) (am_set lv i (.inl (z + n))) (st) m) : am_at p l e R s mm args below meth c cells slots Q E A y (pc) lv (st) m := by
  obtain ⟨hx, hb, hml, hown, hts, hfr, hlo, hce, hsl, hRO, hK, hret⟩ := id C
  intro H locs ls hW hS hl hv hst
  obtain ⟨j, hj⟩ := List.getElem?_of_mem (List.mem_map.mpr ⟨(i, .inl z), am_lvget hg, rfl⟩ : (i, am_cv E (.inl z)) ∈ lv.map fun q => (q.1, am_cv E q.2))
  exact lv_iinc hx hb hd hl hj (v := Int32.ofInt (z + n)) (by rw [Int32.ofInt_add]) hn rfl (fun ls2 hl2 => k H locs ls2 hW hS (am_lvset1 (v := .inl (z + n)) rfl hl2) (am_vok_set hv hr) hst)
theorem s_iadd (C : am_Cx p l e R s mm args below meth c cells slots Q E A y d P) {a b : Int} (hr : am_R (a + b)) (hd : decode (am_mi y).2.1 pc = .ok (.iadd, 1)) (k : am_at p l e R s mm args below meth c cells slots Q E A y (pc + 1) lv (.inl (a + b) :: st) m) : am_at p l e R s mm args below meth c cells slots Q E A y (pc) lv (.inl b :: .inl a :: st) m := by
  obtain ⟨hx, hb, hml, hown, hts, hfr, hlo, hce, hsl, hRO, hK, hret⟩ := id C
  intro H locs ls hW hS hl hv hst
  have k := k H locs ls hW hS hl hv (am_vc hr (am_vt (am_vt hst)))
  simp only [List.map_cons, am_cv, Int32.ofInt_add] at k
  exact lv_iadd hx hb hd k
theorem s_isub (C : am_Cx p l e R s mm args below meth c cells slots Q E A y d P) {a b : Int} (hr : am_R (a - b)) (hd : decode (am_mi y).2.1 pc = .ok (.isub, 1)) (k : am_at p l e R s mm args below meth c cells slots Q E A y (pc + 1) lv (.inl (a - b) :: st) m) : am_at p l e R s mm args below meth c cells slots Q E A y (pc) lv (.inl b :: .inl a :: st) m := by
  obtain ⟨hx, hb, hml, hown, hts, hfr, hlo, hce, hsl, hRO, hK, hret⟩ := id C
  intro H locs ls hW hS hl hv hst
  have k := k H locs ls hW hS hl hv (am_vc hr (am_vt (am_vt hst)))
  simp only [List.map_cons, am_cv, Int32.ofInt_sub] at k
  exact lv_isub hx hb hd k
theorem s_imul (C : am_Cx p l e R s mm args below meth c cells slots Q E A y d P) {a b : Int} (hr : am_R (a * b)) (hd : decode (am_mi y).2.1 pc = .ok (.imul, 1)) (k : am_at p l e R s mm args below meth c cells slots Q E A y (pc + 1) lv (.inl (a * b) :: st) m) : am_at p l e R s mm args below meth c cells slots Q E A y (pc) lv (.inl b :: .inl a :: st) m := by
  obtain ⟨hx, hb, hml, hown, hts, hfr, hlo, hce, hsl, hRO, hK, hret⟩ := id C
  intro H locs ls hW hS hl hv hst
  have k := k H locs ls hW hS hl hv (am_vc hr (am_vt (am_vt hst)))
  simp only [List.map_cons, am_cv, Int32.ofInt_mul] at k
  exact lv_imul hx hb hd k
theorem s_iand (C : am_Cx p l e R s mm args below meth c cells slots Q E A y d P) {a b : Int} (hd : decode (am_mi y).2.1 pc = .ok (.iand, 1)) (k : am_at p l e R s mm args below meth c cells slots Q E A y (pc + 1) lv (.inl (am_and a b) :: st) m) : am_at p l e R s mm args below meth c cells slots Q E A y (pc) lv (.inl b :: .inl a :: st) m := by
  obtain ⟨hx, hb, hml, hown, hts, hfr, hlo, hce, hsl, hRO, hK, hret⟩ := id C
  intro H locs ls hW hS hl hv hst
  have k := k H locs ls hW hS hl hv (am_vc (am_RT _) (am_vt (am_vt hst)))
  simp only [List.map_cons, am_cv, am_and, am_of] at k
  exact lv_iand hx hb hd k
theorem s_ior (C : am_Cx p l e R s mm args below meth c cells slots Q E A y d P) {a b : Int} (hd : decode (am_mi y).2.1 pc = .ok (.ior, 1)) (k : am_at p l e R s mm args below meth c cells slots Q E A y (pc + 1) lv (.inl (am_or a b) :: st) m) : am_at p l e R s mm args below meth c cells slots Q E A y (pc) lv (.inl b :: .inl a :: st) m := by
  obtain ⟨hx, hb, hml, hown, hts, hfr, hlo, hce, hsl, hRO, hK, hret⟩ := id C
  intro H locs ls hW hS hl hv hst
  have k := k H locs ls hW hS hl hv (am_vc (am_RT _) (am_vt (am_vt hst)))
  simp only [List.map_cons, am_cv, am_or, am_of] at k
  exact lv_ior hx hb hd k
theorem s_ixor (C : am_Cx p l e R s mm args below meth c cells slots Q E A y d P) {a b : Int} (hd : decode (am_mi y).2.1 pc = .ok (.ixor, 1)) (k : am_at p l e R s mm args below meth c cells slots Q E A y (pc + 1) lv (.inl (am_xor a b) :: st) m) : am_at p l e R s mm args below meth c cells slots Q E A y (pc) lv (.inl b :: .inl a :: st) m := by
  obtain ⟨hx, hb, hml, hown, hts, hfr, hlo, hce, hsl, hRO, hK, hret⟩ := id C
  intro H locs ls hW hS hl hv hst
  have k := k H locs ls hW hS hl hv (am_vc (am_RT _) (am_vt (am_vt hst)))
  simp only [List.map_cons, am_cv, am_xor, am_of] at k
  exact lv_ixor hx hb hd k
theorem s_ishl (C : am_Cx p l e R s mm args below meth c cells slots Q E A y d P) {a b : Int} (hd : decode (am_mi y).2.1 pc = .ok (.ishl, 1)) (k : am_at p l e R s mm args below meth c cells slots Q E A y (pc + 1) lv (.inl (am_shl a b) :: st) m) : am_at p l e R s mm args below meth c cells slots Q E A y (pc) lv (.inl b :: .inl a :: st) m := by
  obtain ⟨hx, hb, hml, hown, hts, hfr, hlo, hce, hsl, hRO, hK, hret⟩ := id C
  intro H locs ls hW hS hl hv hst
  have k := k H locs ls hW hS hl hv (am_vc (am_RT _) (am_vt (am_vt hst)))
  simp only [List.map_cons, am_cv, am_shl, am_of] at k
  exact lv_ishl hx hb hd k
theorem s_ishr (C : am_Cx p l e R s mm args below meth c cells slots Q E A y d P) {a b : Int} (hd : decode (am_mi y).2.1 pc = .ok (.ishr, 1)) (k : am_at p l e R s mm args below meth c cells slots Q E A y (pc + 1) lv (.inl (am_shr a b) :: st) m) : am_at p l e R s mm args below meth c cells slots Q E A y (pc) lv (.inl b :: .inl a :: st) m := by
  obtain ⟨hx, hb, hml, hown, hts, hfr, hlo, hce, hsl, hRO, hK, hret⟩ := id C
  intro H locs ls hW hS hl hv hst
  have k := k H locs ls hW hS hl hv (am_vc (am_RT _) (am_vt (am_vt hst)))
  simp only [List.map_cons, am_cv, am_shr, am_of] at k
  exact lv_ishr hx hb hd k
theorem s_iushr (C : am_Cx p l e R s mm args below meth c cells slots Q E A y d P) {a b : Int} (hd : decode (am_mi y).2.1 pc = .ok (.iushr, 1)) (k : am_at p l e R s mm args below meth c cells slots Q E A y (pc + 1) lv (.inl (am_ushr a b) :: st) m) : am_at p l e R s mm args below meth c cells slots Q E A y (pc) lv (.inl b :: .inl a :: st) m := by
  obtain ⟨hx, hb, hml, hown, hts, hfr, hlo, hce, hsl, hRO, hK, hret⟩ := id C
  intro H locs ls hW hS hl hv hst
  have k := k H locs ls hW hS hl hv (am_vc (am_RT _) (am_vt (am_vt hst)))
  simp only [List.map_cons, am_cv, am_ushr, am_of] at k
  exact lv_iushr hx hb hd rfl k
theorem s_idiv (C : am_Cx p l e R s mm args below meth c cells slots Q E A y d P) {a b : Int} (ha : 0 ≤ a) (hb0 : 0 < b) (hd : decode (am_mi y).2.1 pc = .ok (.idiv, 1)) (k : am_at p l e R s mm args below meth c cells slots Q E A y (pc + 1) lv (.inl (a / b) :: st) m) : am_at p l e R s mm args below meth c cells slots Q E A y (pc) lv (.inl b :: .inl a :: st) m := by
  obtain ⟨hx, hb, hml, hown, hts, hfr, hlo, hce, hsl, hRO, hK, hret⟩ := id C
  intro H locs ls hW hS hl hv hst
  have ra : am_R a := am_vh (am_vt hst)
  have rb : am_R b := am_vh hst
  have hq : 0 ≤ a / b := Int.ediv_nonneg ha (by omega)
  have hq2 : a / b ≤ a := Int.ediv_le_self b ha
  have e1 : Int32.ofInt (a / b) = Int32.ofInt a / Int32.ofInt b := by
    rw [← Int.tdiv_eq_ediv_of_nonneg ha]
    exact Int32.ofInt_tdiv (by rw [am_R_min]; exact ra.1) (by rw [am_R_max]; exact ra.2) (by rw [am_R_min]; exact rb.1) (by rw [am_R_max]; exact rb.2)
  have k := k H locs ls hW hS hl hv (am_vc (v := .inl (a / b)) ⟨by omega, by have := ra.2; omega⟩ (am_vt (am_vt hst)))
  simp only [List.map_cons, am_cv, e1] at k
  exact lv_idiv hx hb hd (fun h => by have := (am_eqI rb am_R0).mp h; omega) k
theorem s_irem (C : am_Cx p l e R s mm args below meth c cells slots Q E A y d P) {a b : Int} (ha : 0 ≤ a) (hb0 : 0 < b) (hd : decode (am_mi y).2.1 pc = .ok (.irem, 1)) (k : am_at p l e R s mm args below meth c cells slots Q E A y (pc + 1) lv (.inl (a % b) :: st) m) : am_at p l e R s mm args below meth c cells slots Q E A y (pc) lv (.inl b :: .inl a :: st) m := by
  obtain ⟨hx, hb, hml, hown, hts, hfr, hlo, hce, hsl, hRO, hK, hret⟩ := id C
  intro H locs ls hW hS hl hv hst
  have ra : am_R a := am_vh (am_vt hst)
  have rb : am_R b := am_vh hst
  have e0 : Int32.ofInt (a / b) = Int32.ofInt a / Int32.ofInt b := by
    rw [← Int.tdiv_eq_ediv_of_nonneg ha]
    exact Int32.ofInt_tdiv (by rw [am_R_min]; exact ra.1) (by rw [am_R_max]; exact ra.2) (by rw [am_R_min]; exact rb.1) (by rw [am_R_max]; exact rb.2)
  have e1 : Int32.ofInt (a % b) = Int32.ofInt a - Int32.ofInt a / Int32.ofInt b * Int32.ofInt b := by
    rw [← e0, ← Int32.ofInt_mul, ← Int32.ofInt_sub]
    congr 1
    rw [Int.mul_comm, Int.emod_def]
  have h1 : 0 ≤ a % b := Int.emod_nonneg a (by omega)
  have h2 : a % b < b := Int.emod_lt_of_pos a hb0
  have k := k H locs ls hW hS hl hv (am_vc (v := .inl (a % b)) ⟨by omega, by have := rb.2; omega⟩ (am_vt (am_vt hst)))
  simp only [List.map_cons, am_cv, e1] at k
  exact lv_irem hx hb hd (fun h => by have := (am_eqI rb am_R0).mp h; omega) k
theorem s_i2b (C : am_Cx p l e R s mm args below meth c cells slots Q E A y d P) {a : Int} (hd : decode (am_mi y).2.1 pc = .ok (.i2b, 1)) (k : am_at p l e R s mm args below meth c cells slots Q E A y (pc + 1) lv (.inl (am_i2b a) :: st) m) : am_at p l e R s mm args below meth c cells slots Q E A y (pc) lv (.inl a :: st) m := by
  obtain ⟨hx, hb, hml, hown, hts, hfr, hlo, hce, hsl, hRO, hK, hret⟩ := id C
  intro H locs ls hW hS hl hv hst
  have k := k H locs ls hW hS hl hv (am_vc (am_RT _) (am_vt hst))
  simp only [List.map_cons, am_cv, am_i2b, am_of] at k
  exact lv_i2b hx hb hd rfl k
theorem s_i2l (C : am_Cx p l e R s mm args below meth c cells slots Q E A y d P) {a : Int} (hd : decode (am_mi y).2.1 pc = .ok (.i2l, 1)) (k : am_at p l e R s mm args below meth c cells slots Q E A y (pc + 1) lv (.inr (.inl (am_i2l a)) :: st) m) : am_at p l e R s mm args below meth c cells slots Q E A y (pc) lv (.inl a :: st) m := by
  obtain ⟨hx, hb, hml, hown, hts, hfr, hlo, hce, hsl, hRO, hK, hret⟩ := id C
  intro H locs ls hW hS hl hv hst
  exact lv_i2l hx hb hd rfl (k H locs ls hW hS hl hv (am_vc trivial (am_vt hst)))
theorem s_l2i (C : am_Cx p l e R s mm args below meth c cells slots Q E A y d P) {a : Int64} (hd : decode (am_mi y).2.1 pc = .ok (.l2i, 1)) (k : am_at p l e R s mm args below meth c cells slots Q E A y (pc + 1) lv (.inl (am_l2i a) :: st) m) : am_at p l e R s mm args below meth c cells slots Q E A y (pc) lv (.inr (.inl a) :: st) m := by
  obtain ⟨hx, hb, hml, hown, hts, hfr, hlo, hce, hsl, hRO, hK, hret⟩ := id C
  intro H locs ls hW hS hl hv hst
  have k := k H locs ls hW hS hl hv (am_vc (am_RT _) (am_vt hst))
  simp only [List.map_cons, am_cv, am_l2i, am_of] at k
  exact lv_l2i hx hb hd rfl k
theorem s_ladd (C : am_Cx p l e R s mm args below meth c cells slots Q E A y d P) {a b : Int64} (hd : decode (am_mi y).2.1 pc = .ok (.ladd, 1)) (k : am_at p l e R s mm args below meth c cells slots Q E A y (pc + 1) lv (.inr (.inl (a + b)) :: st) m) : am_at p l e R s mm args below meth c cells slots Q E A y (pc) lv (.inr (.inl b) :: .inr (.inl a) :: st) m := by
  obtain ⟨hx, hb, hml, hown, hts, hfr, hlo, hce, hsl, hRO, hK, hret⟩ := id C
  intro H locs ls hW hS hl hv hst
  exact lv_ladd hx hb hd (k H locs ls hW hS hl hv (am_vc trivial (am_vt (am_vt hst))))
theorem s_lsub (C : am_Cx p l e R s mm args below meth c cells slots Q E A y d P) {a b : Int64} (hd : decode (am_mi y).2.1 pc = .ok (.lsub, 1)) (k : am_at p l e R s mm args below meth c cells slots Q E A y (pc + 1) lv (.inr (.inl (a - b)) :: st) m) : am_at p l e R s mm args below meth c cells slots Q E A y (pc) lv (.inr (.inl b) :: .inr (.inl a) :: st) m := by
  obtain ⟨hx, hb, hml, hown, hts, hfr, hlo, hce, hsl, hRO, hK, hret⟩ := id C
  intro H locs ls hW hS hl hv hst
  exact lv_lsub hx hb hd (k H locs ls hW hS hl hv (am_vc trivial (am_vt (am_vt hst))))
theorem s_lmul (C : am_Cx p l e R s mm args below meth c cells slots Q E A y d P) {a b : Int64} (hd : decode (am_mi y).2.1 pc = .ok (.lmul, 1)) (k : am_at p l e R s mm args below meth c cells slots Q E A y (pc + 1) lv (.inr (.inl (a * b)) :: st) m) : am_at p l e R s mm args below meth c cells slots Q E A y (pc) lv (.inr (.inl b) :: .inr (.inl a) :: st) m := by
  obtain ⟨hx, hb, hml, hown, hts, hfr, hlo, hce, hsl, hRO, hK, hret⟩ := id C
  intro H locs ls hW hS hl hv hst
  exact lv_lmul hx hb hd (k H locs ls hW hS hl hv (am_vc trivial (am_vt (am_vt hst))))
theorem s_land (C : am_Cx p l e R s mm args below meth c cells slots Q E A y d P) {a b : Int64} (hd : decode (am_mi y).2.1 pc = .ok (.land, 1)) (k : am_at p l e R s mm args below meth c cells slots Q E A y (pc + 1) lv (.inr (.inl (a &&& b)) :: st) m) : am_at p l e R s mm args below meth c cells slots Q E A y (pc) lv (.inr (.inl b) :: .inr (.inl a) :: st) m := by
  obtain ⟨hx, hb, hml, hown, hts, hfr, hlo, hce, hsl, hRO, hK, hret⟩ := id C
  intro H locs ls hW hS hl hv hst
  exact lv_land hx hb hd (k H locs ls hW hS hl hv (am_vc trivial (am_vt (am_vt hst))))
theorem s_lor (C : am_Cx p l e R s mm args below meth c cells slots Q E A y d P) {a b : Int64} (hd : decode (am_mi y).2.1 pc = .ok (.lor, 1)) (k : am_at p l e R s mm args below meth c cells slots Q E A y (pc + 1) lv (.inr (.inl (a ||| b)) :: st) m) : am_at p l e R s mm args below meth c cells slots Q E A y (pc) lv (.inr (.inl b) :: .inr (.inl a) :: st) m := by
  obtain ⟨hx, hb, hml, hown, hts, hfr, hlo, hce, hsl, hRO, hK, hret⟩ := id C
  intro H locs ls hW hS hl hv hst
  exact lv_lor hx hb hd (k H locs ls hW hS hl hv (am_vc trivial (am_vt (am_vt hst))))
theorem s_lxor (C : am_Cx p l e R s mm args below meth c cells slots Q E A y d P) {a b : Int64} (hd : decode (am_mi y).2.1 pc = .ok (.lxor, 1)) (k : am_at p l e R s mm args below meth c cells slots Q E A y (pc + 1) lv (.inr (.inl (a ^^^ b)) :: st) m) : am_at p l e R s mm args below meth c cells slots Q E A y (pc) lv (.inr (.inl b) :: .inr (.inl a) :: st) m := by
  obtain ⟨hx, hb, hml, hown, hts, hfr, hlo, hce, hsl, hRO, hK, hret⟩ := id C
  intro H locs ls hW hS hl hv hst
  exact lv_lxor hx hb hd (k H locs ls hW hS hl hv (am_vc trivial (am_vt (am_vt hst))))
theorem s_lneg (C : am_Cx p l e R s mm args below meth c cells slots Q E A y d P) {a : Int64} (hd : decode (am_mi y).2.1 pc = .ok (.lneg, 1)) (k : am_at p l e R s mm args below meth c cells slots Q E A y (pc + 1) lv (.inr (.inl (-a)) :: st) m) : am_at p l e R s mm args below meth c cells slots Q E A y (pc) lv (.inr (.inl a) :: st) m := by
  obtain ⟨hx, hb, hml, hown, hts, hfr, hlo, hce, hsl, hRO, hK, hret⟩ := id C
  intro H locs ls hW hS hl hv hst
  exact lv_lneg hx hb hd (k H locs ls hW hS hl hv (am_vc trivial (am_vt hst)))
theorem s_lshl (C : am_Cx p l e R s mm args below meth c cells slots Q E A y d P) {a : Int64} {b : Int} (hd : decode (am_mi y).2.1 pc = .ok (.lshl, 1)) (k : am_at p l e R s mm args below meth c cells slots Q E A y (pc + 1) lv (.inr (.inl (am_lshl a b)) :: st) m) : am_at p l e R s mm args below meth c cells slots Q E A y (pc) lv (.inl b :: .inr (.inl a) :: st) m := by
  obtain ⟨hx, hb, hml, hown, hts, hfr, hlo, hce, hsl, hRO, hK, hret⟩ := id C
  intro H locs ls hW hS hl hv hst
  exact lv_lshl hx hb hd rfl (k H locs ls hW hS hl hv (am_vc trivial (am_vt (am_vt hst))))
theorem s_lshr (C : am_Cx p l e R s mm args below meth c cells slots Q E A y d P) {a : Int64} {b : Int} (hd : decode (am_mi y).2.1 pc = .ok (.lshr, 1)) (k : am_at p l e R s mm args below meth c cells slots Q E A y (pc + 1) lv (.inr (.inl (am_lshr a b)) :: st) m) : am_at p l e R s mm args below meth c cells slots Q E A y (pc) lv (.inl b :: .inr (.inl a) :: st) m := by
  obtain ⟨hx, hb, hml, hown, hts, hfr, hlo, hce, hsl, hRO, hK, hret⟩ := id C
  intro H locs ls hW hS hl hv hst
  exact lv_lshr hx hb hd rfl (k H locs ls hW hS hl hv (am_vc trivial (am_vt (am_vt hst))))
theorem s_lushr (C : am_Cx p l e R s mm args below meth c cells slots Q E A y d P) {a : Int64} {b : Int} (hd : decode (am_mi y).2.1 pc = .ok (.lushr, 1)) (k : am_at p l e R s mm args below meth c cells slots Q E A y (pc + 1) lv (.inr (.inl (am_lushr a b)) :: st) m) : am_at p l e R s mm args below meth c cells slots Q E A y (pc) lv (.inl b :: .inr (.inl a) :: st) m := by
  obtain ⟨hx, hb, hml, hown, hts, hfr, hlo, hce, hsl, hRO, hK, hret⟩ := id C
  intro H locs ls hW hS hl hv hst
  exact lv_lushr hx hb hd rfl (k H locs ls hW hS hl hv (am_vc trivial (am_vt (am_vt hst))))
theorem s_lcmp (C : am_Cx p l e R s mm args below meth c cells slots Q E A y d P) {a b : Int64} (hd : decode (am_mi y).2.1 pc = .ok (.lcmp, 1)) (k : am_at p l e R s mm args below meth c cells slots Q E A y (pc + 1) lv (.inl (am_lcmp a b) :: st) m) : am_at p l e R s mm args below meth c cells slots Q E A y (pc) lv (.inr (.inl b) :: .inr (.inl a) :: st) m := by
  obtain ⟨hx, hb, hml, hown, hts, hfr, hlo, hce, hsl, hRO, hK, hret⟩ := id C
  intro H locs ls hW hS hl hv hst
  have k := k H locs ls hW hS hl hv (am_vc (am_RT _) (am_vt (am_vt hst)))
  simp only [List.map_cons, am_cv, am_lcmp, am_of] at k
  exact W.lcmp hx hb hd k
theorem s_dup (C : am_Cx p l e R s mm args below meth c cells slots Q E A y d P) {v : am_V} (hv1 : am_lng v = false) (hd : decode (am_mi y).2.1 pc = .ok (.dup, 1)) (k : am_at p l e R s mm args below meth c cells slots Q E A y (pc + 1) lv (v :: v :: st) m) : am_at p l e R s mm args below meth c cells slots Q E A y (pc) lv (v :: st) m := by
  obtain ⟨hx, hb, hml, hown, hts, hfr, hlo, hce, hsl, hRO, hK, hret⟩ := id C
  intro H locs ls hW hS hl hv hst
  exact lv_dup hx hb hd (by rw [am_cat_cv, hv1]; rfl) (k H locs ls hW hS hl hv (am_vc (am_vh hst) hst))
theorem s_dup2l (C : am_Cx p l e R s mm args below meth c cells slots Q E A y d P) {v : am_V} (hv1 : am_lng v = true) (hd : decode (am_mi y).2.1 pc = .ok (.dup2, 1)) (k : am_at p l e R s mm args below meth c cells slots Q E A y (pc + 1) lv (v :: v :: st) m) : am_at p l e R s mm args below meth c cells slots Q E A y (pc) lv (v :: st) m := by
  obtain ⟨hx, hb, hml, hown, hts, hfr, hlo, hce, hsl, hRO, hK, hret⟩ := id C
  intro H locs ls hW hS hl hv hst
  exact lv_dup2_2 hx hb hd (by rw [am_cat_cv, hv1]; rfl) (k H locs ls hW hS hl hv (am_vc (am_vh hst) hst))
theorem s_dup2s (C : am_Cx p l e R s mm args below meth c cells slots Q E A y d P) {v w : am_V} (hv1 : am_lng v = false) (hw1 : am_lng w = false) (hd : decode (am_mi y).2.1 pc = .ok (.dup2, 1)) (k : am_at p l e R s mm args below meth c cells slots Q E A y (pc + 1) lv (v :: w :: v :: w :: st) m) : am_at p l e R s mm args below meth c cells slots Q E A y (pc) lv (v :: w :: st) m := by
  obtain ⟨hx, hb, hml, hown, hts, hfr, hlo, hce, hsl, hRO, hK, hret⟩ := id C
  intro H locs ls hW hS hl hv hst
  exact lv_dup2_11 hx hb hd (by rw [am_cat_cv, hv1]; rfl) (by rw [am_cat_cv, hw1]; rfl) (k H locs ls hW hS hl hv (am_vc (am_vh hst) (am_vc (am_vh (am_vt hst)) hst)))
theorem s_pop (C : am_Cx p l e R s mm args below meth c cells slots Q E A y d P) {v : am_V} (hv1 : am_lng v = false) (hd : decode (am_mi y).2.1 pc = .ok (.pop, 1)) (k : am_at p l e R s mm args below meth c cells slots Q E A y (pc + 1) lv (st) m) : am_at p l e R s mm args below meth c cells slots Q E A y (pc) lv (v :: st) m := by
  obtain ⟨hx, hb, hml, hown, hts, hfr, hlo, hce, hsl, hRO, hK, hret⟩ := id C
  intro H locs ls hW hS hl hv hst
  exact lv_pop hx hb hd (by rw [am_cat_cv, hv1]; rfl) (k H locs ls hW hS hl hv (am_vt hst))
theorem s_icmp_eq (C : am_Cx p l e R s mm args below meth c cells slots Q E A y d P) {a b : Int} {off : Int} {t : Nat} (ht : (pc : Int) + off = (t : Int)) (hd : decode (am_mi y).2.1 pc = .ok (.if_icmp .eq off, 3)) (k1 : am_cmp .eq a b → am_at p l e R s mm args below meth c cells slots Q E A y (t) lv (st) m) (k2 : ¬ am_cmp .eq a b → am_at p l e R s mm args below meth c cells slots Q E A y (pc + 3) lv (st) m) : am_at p l e R s mm args below meth c cells slots Q E A y (pc) lv (.inl b :: .inl a :: st) m := by
  obtain ⟨hx, hb, hml, hown, hts, hfr, hlo, hce, hsl, hRO, hK, hret⟩ := id C
  intro H locs ls hW hS hl hv hst
  have ra : am_R a := am_vh (am_vt hst)
  have rb : am_R b := am_vh hst
  exact lv_icmp_eq hx hb hd ht (fun h => k1 ((am_eqI ra rb).mp h) H locs ls hW hS hl hv (am_vt (am_vt hst))) (fun h => k2 (fun z => h ((am_eqI ra rb).mpr z)) H locs ls hW hS hl hv (am_vt (am_vt hst)))
theorem s_if_eq (C : am_Cx p l e R s mm args below meth c cells slots Q E A y d P) {a : Int} {off : Int} {t : Nat} (ht : (pc : Int) + off = (t : Int)) (hd : decode (am_mi y).2.1 pc = .ok (.ifCond .eq off, 3)) (k1 : am_cmp .eq a 0 → am_at p l e R s mm args below meth c cells slots Q E A y (t) lv (st) m) (k2 : ¬ am_cmp .eq a 0 → am_at p l e R s mm args below meth c cells slots Q E A y (pc + 3) lv (st) m) : am_at p l e R s mm args below meth c cells slots Q E A y (pc) lv (.inl a :: st) m := by
  obtain ⟨hx, hb, hml, hown, hts, hfr, hlo, hce, hsl, hRO, hK, hret⟩ := id C
  intro H locs ls hW hS hl hv hst
  have ra : am_R a := am_vh hst
  exact lv_if_eq hx hb hd ht (fun h => k1 ((am_eqI ra am_R0).mp h) H locs ls hW hS hl hv (am_vt hst)) (fun h => k2 (fun z => h ((am_eqI ra am_R0).mpr z)) H locs ls hW hS hl hv (am_vt hst))
theorem s_icmp_ne (C : am_Cx p l e R s mm args below meth c cells slots Q E A y d P) {a b : Int} {off : Int} {t : Nat} (ht : (pc : Int) + off = (t : Int)) (hd : decode (am_mi y).2.1 pc = .ok (.if_icmp .ne off, 3)) (k1 : am_cmp .ne a b → am_at p l e R s mm args below meth c cells slots Q E A y (t) lv (st) m) (k2 : ¬ am_cmp .ne a b → am_at p l e R s mm args below meth c cells slots Q E A y (pc + 3) lv (st) m) : am_at p l e R s mm args below meth c cells slots Q E A y (pc) lv (.inl b :: .inl a :: st) m := by
  obtain ⟨hx, hb, hml, hown, hts, hfr, hlo, hce, hsl, hRO, hK, hret⟩ := id C
  intro H locs ls hW hS hl hv hst
  have ra : am_R a := am_vh (am_vt hst)
  have rb : am_R b := am_vh hst
  exact lv_icmp_ne hx hb hd ht (fun h => k1 ((not_congr (am_eqI ra rb)).mp h) H locs ls hW hS hl hv (am_vt (am_vt hst))) (fun h => k2 (fun z => z ((am_eqI ra rb).mp h)) H locs ls hW hS hl hv (am_vt (am_vt hst)))
theorem s_if_ne (C : am_Cx p l e R s mm args below meth c cells slots Q E A y d P) {a : Int} {off : Int} {t : Nat} (ht : (pc : Int) + off = (t : Int)) (hd : decode (am_mi y).2.1 pc = .ok (.ifCond .ne off, 3)) (k1 : am_cmp .ne a 0 → am_at p l e R s mm args below meth c cells slots Q E A y (t) lv (st) m) (k2 : ¬ am_cmp .ne a 0 → am_at p l e R s mm args below meth c cells slots Q E A y (pc + 3) lv (st) m) : am_at p l e R s mm args below meth c cells slots Q E A y (pc) lv (.inl a :: st) m := by
  obtain ⟨hx, hb, hml, hown, hts, hfr, hlo, hce, hsl, hRO, hK, hret⟩ := id C
  intro H locs ls hW hS hl hv hst
  have ra : am_R a := am_vh hst
  exact lv_if_ne hx hb hd ht (fun h => k1 ((not_congr (am_eqI ra am_R0)).mp h) H locs ls hW hS hl hv (am_vt hst)) (fun h => k2 (fun z => z ((am_eqI ra am_R0).mp h)) H locs ls hW hS hl hv (am_vt hst))
theorem s_icmp_lt (C : am_Cx p l e R s mm args below meth c cells slots Q E A y d P) {a b : Int} {off : Int} {t : Nat} (ht : (pc : Int) + off = (t : Int)) (hd : decode (am_mi y).2.1 pc = .ok (.if_icmp .lt off, 3)) (k1 : am_cmp .lt a b → am_at p l e R s mm args below meth c cells slots Q E A y (t) lv (st) m) (k2 : ¬ am_cmp .lt a b → am_at p l e R s mm args below meth c cells slots Q E A y (pc + 3) lv (st) m) : am_at p l e R s mm args below meth c cells slots Q E A y (pc) lv (.inl b :: .inl a :: st) m := by
  obtain ⟨hx, hb, hml, hown, hts, hfr, hlo, hce, hsl, hRO, hK, hret⟩ := id C
  intro H locs ls hW hS hl hv hst
  have ra : am_R a := am_vh (am_vt hst)
  have rb : am_R b := am_vh hst
  exact lv_icmp_lt hx hb hd ht (fun h => k1 ((am_ltI ra rb).mp h) H locs ls hW hS hl hv (am_vt (am_vt hst))) (fun h => k2 (fun z => h ((am_ltI ra rb).mpr z)) H locs ls hW hS hl hv (am_vt (am_vt hst)))
theorem s_if_lt (C : am_Cx p l e R s mm args below meth c cells slots Q E A y d P) {a : Int} {off : Int} {t : Nat} (ht : (pc : Int) + off = (t : Int)) (hd : decode (am_mi y).2.1 pc = .ok (.ifCond .lt off, 3)) (k1 : am_cmp .lt a 0 → am_at p l e R s mm args below meth c cells slots Q E A y (t) lv (st) m) (k2 : ¬ am_cmp .lt a 0 → am_at p l e R s mm args below meth c cells slots Q E A y (pc + 3) lv (st) m) : am_at p l e R s mm args below meth c cells slots Q E A y (pc) lv (.inl a :: st) m := by
  obtain ⟨hx, hb, hml, hown, hts, hfr, hlo, hce, hsl, hRO, hK, hret⟩ := id C
  intro H locs ls hW hS hl hv hst
  have ra : am_R a := am_vh hst
  exact lv_if_lt hx hb hd ht (fun h => k1 ((am_ltI ra am_R0).mp h) H locs ls hW hS hl hv (am_vt hst)) (fun h => k2 (fun z => h ((am_ltI ra am_R0).mpr z)) H locs ls hW hS hl hv (am_vt hst))
theorem s_icmp_ge (C : am_Cx p l e R s mm args below meth c cells slots Q E A y d P) {a b : Int} {off : Int} {t : Nat} (ht : (pc : Int) + off = (t : Int)) (hd : decode (am_mi y).2.1 pc = .ok (.if_icmp .ge off, 3)) (k1 : am_cmp .ge a b → am_at p l e R s mm args below meth c cells slots Q E A y (t) lv (st) m) (k2 : ¬ am_cmp .ge a b → am_at p l e R s mm args below meth c cells slots Q E A y (pc + 3) lv (st) m) : am_at p l e R s mm args below meth c cells slots Q E A y (pc) lv (.inl b :: .inl a :: st) m := by
  obtain ⟨hx, hb, hml, hown, hts, hfr, hlo, hce, hsl, hRO, hK, hret⟩ := id C
  intro H locs ls hW hS hl hv hst
  have ra : am_R a := am_vh (am_vt hst)
  have rb : am_R b := am_vh hst
  exact lv_icmp_ge hx hb hd ht (fun h => k1 ((am_leI rb ra).mp h) H locs ls hW hS hl hv (am_vt (am_vt hst))) (fun h => k2 (fun z => h ((am_leI rb ra).mpr z)) H locs ls hW hS hl hv (am_vt (am_vt hst)))
theorem s_if_ge (C : am_Cx p l e R s mm args below meth c cells slots Q E A y d P) {a : Int} {off : Int} {t : Nat} (ht : (pc : Int) + off = (t : Int)) (hd : decode (am_mi y).2.1 pc = .ok (.ifCond .ge off, 3)) (k1 : am_cmp .ge a 0 → am_at p l e R s mm args below meth c cells slots Q E A y (t) lv (st) m) (k2 : ¬ am_cmp .ge a 0 → am_at p l e R s mm args below meth c cells slots Q E A y (pc + 3) lv (st) m) : am_at p l e R s mm args below meth c cells slots Q E A y (pc) lv (.inl a :: st) m := by
  obtain ⟨hx, hb, hml, hown, hts, hfr, hlo, hce, hsl, hRO, hK, hret⟩ := id C
  intro H locs ls hW hS hl hv hst
  have ra : am_R a := am_vh hst
  exact lv_if_ge hx hb hd ht (fun h => k1 ((am_leI am_R0 ra).mp h) H locs ls hW hS hl hv (am_vt hst)) (fun h => k2 (fun z => h ((am_leI am_R0 ra).mpr z)) H locs ls hW hS hl hv (am_vt hst))
theorem s_icmp_gt (C : am_Cx p l e R s mm args below meth c cells slots Q E A y d P) {a b : Int} {off : Int} {t : Nat} (ht : (pc : Int) + off = (t : Int)) (hd : decode (am_mi y).2.1 pc = .ok (.if_icmp .gt off, 3)) (k1 : am_cmp .gt a b → am_at p l e R s mm args below meth c cells slots Q E A y (t) lv (st) m) (k2 : ¬ am_cmp .gt a b → am_at p l e R s mm args below meth c cells slots Q E A y (pc + 3) lv (st) m) : am_at p l e R s mm args below meth c cells slots Q E A y (pc) lv (.inl b :: .inl a :: st) m := by
  obtain ⟨hx, hb, hml, hown, hts, hfr, hlo, hce, hsl, hRO, hK, hret⟩ := id C
  intro H locs ls hW hS hl hv hst
  have ra : am_R a := am_vh (am_vt hst)
  have rb : am_R b := am_vh hst
  exact lv_icmp_gt hx hb hd ht (fun h => k1 ((am_ltI rb ra).mp h) H locs ls hW hS hl hv (am_vt (am_vt hst))) (fun h => k2 (fun z => h ((am_ltI rb ra).mpr z)) H locs ls hW hS hl hv (am_vt (am_vt hst)))
theorem s_if_gt (C : am_Cx p l e R s mm args below meth c cells slots Q E A y d P) {a : Int} {off : Int} {t : Nat} (ht : (pc : Int) + off = (t : Int)) (hd : decode (am_mi y).2.1 pc = .ok (.ifCond .gt off, 3)) (k1 : am_cmp .gt a 0 → am_at p l e R s mm args below meth c cells slots Q E A y (t) lv (st) m) (k2 : ¬ am_cmp .gt a 0 → am_at p l e R s mm args below meth c cells slots Q E A y (pc + 3) lv (st) m) : am_at p l e R s mm args below meth c cells slots Q E A y (pc) lv (.inl a :: st) m := by
  obtain ⟨hx, hb, hml, hown, hts, hfr, hlo, hce, hsl, hRO, hK, hret⟩ := id C
  intro H locs ls hW hS hl hv hst
  have ra : am_R a := am_vh hst
  exact lv_if_gt hx hb hd ht (fun h => k1 ((am_ltI am_R0 ra).mp h) H locs ls hW hS hl hv (am_vt hst)) (fun h => k2 (fun z => h ((am_ltI am_R0 ra).mpr z)) H locs ls hW hS hl hv (am_vt hst))
theorem s_icmp_le (C : am_Cx p l e R s mm args below meth c cells slots Q E A y d P) {a b : Int} {off : Int} {t : Nat} (ht : (pc : Int) + off = (t : Int)) (hd : decode (am_mi y).2.1 pc = .ok (.if_icmp .le off, 3)) (k1 : am_cmp .le a b → am_at p l e R s mm args below meth c cells slots Q E A y (t) lv (st) m) (k2 : ¬ am_cmp .le a b → am_at p l e R s mm args below meth c cells slots Q E A y (pc + 3) lv (st) m) : am_at p l e R s mm args below meth c cells slots Q E A y (pc) lv (.inl b :: .inl a :: st) m := by
  obtain ⟨hx, hb, hml, hown, hts, hfr, hlo, hce, hsl, hRO, hK, hret⟩ := id C
  intro H locs ls hW hS hl hv hst
  have ra : am_R a := am_vh (am_vt hst)
  have rb : am_R b := am_vh hst
  exact lv_icmp_le hx hb hd ht (fun h => k1 ((am_leI ra rb).mp h) H locs ls hW hS hl hv (am_vt (am_vt hst))) (fun h => k2 (fun z => h ((am_leI ra rb).mpr z)) H locs ls hW hS hl hv (am_vt (am_vt hst)))
theorem s_if_le (C : am_Cx p l e R s mm args below meth c cells slots Q E A y d P) {a : Int} {off : Int} {t : Nat} (ht : (pc : Int) + off = (t : Int)) (hd : decode (am_mi y).2.1 pc = .ok (.ifCond .le off, 3)) (k1 : am_cmp .le a 0 → am_at p l e R s mm args below meth c cells slots Q E A y (t) lv (st) m) (k2 : ¬ am_cmp .le a 0 → am_at p l e R s mm args below meth c cells slots Q E A y (pc + 3) lv (st) m) : am_at p l e R s mm args below meth c cells slots Q E A y (pc) lv (.inl a :: st) m := by
  obtain ⟨hx, hb, hml, hown, hts, hfr, hlo, hce, hsl, hRO, hK, hret⟩ := id C
  intro H locs ls hW hS hl hv hst
  have ra : am_R a := am_vh hst
  exact lv_if_le hx hb hd ht (fun h => k1 ((am_leI ra am_R0).mp h) H locs ls hW hS hl hv (am_vt hst)) (fun h => k2 (fun z => h ((am_leI ra am_R0).mpr z)) H locs ls hW hS hl hv (am_vt hst))
theorem s_goto (C : am_Cx p l e R s mm args below meth c cells slots Q E A y d P) {off : Int} {t : Nat} (ht : (pc : Int) + off = (t : Int)) (hd : decode (am_mi y).2.1 pc = .ok (.goto off, 3)) (k : am_at p l e R s mm args below meth c cells slots Q E A y (t) lv (st) m) : am_at p l e R s mm args below meth c cells slots Q E A y (pc) lv (st) m := by
  obtain ⟨hx, hb, hml, hown, hts, hfr, hlo, hce, hsl, hRO, hK, hret⟩ := id C
  intro H locs ls hW hS hl hv hst
  exact lv_goto hx hb hd ht (k H locs ls hW hS hl hv hst)
theorem s_tableOut (C : am_Cx p l e R s mm args below meth c cells slots Q E A y d P) {a : Int} {dflt lo hi : Int} {offs : Array Int} {len t : Nat} (h : a < lo ∨ hi < a) (ht : (pc : Int) + dflt = (t : Int)) (hd : decode (am_mi y).2.1 pc = .ok (.tableswitch dflt lo hi offs, len)) (k : am_at p l e R s mm args below meth c cells slots Q E A y (t) lv (st) m) : am_at p l e R s mm args below meth c cells slots Q E A y (pc) lv (.inl a :: st) m := by
  obtain ⟨hx, hb, hml, hown, hts, hfr, hlo, hce, hsl, hRO, hK, hret⟩ := id C
  intro H locs ls hW hS hl hv hst
  exact lv_tableOut hx hb hd (by rw [am_to (am_vh hst)]; exact h) ht (k H locs ls hW hS hl hv (am_vt hst))
theorem s_tableIn (C : am_Cx p l e R s mm args below meth c cells slots Q E A y d P) {a : Int} {dflt lo hi off : Int} {offs : Array Int} {len t : Nat} (h1 : ¬ a < lo) (h2 : ¬ hi < a) (ho : offs[(a - lo).toNat]? = some off) (ht : (pc : Int) + off = (t : Int)) (hd : decode (am_mi y).2.1 pc = .ok (.tableswitch dflt lo hi offs, len)) (k : am_at p l e R s mm args below meth c cells slots Q E A y (t) lv (st) m) : am_at p l e R s mm args below meth c cells slots Q E A y (pc) lv (.inl a :: st) m := by
  obtain ⟨hx, hb, hml, hown, hts, hfr, hlo, hce, hsl, hRO, hK, hret⟩ := id C
  intro H locs ls hW hS hl hv hst
  exact lv_tableIn hx hb hd (by rw [am_to (am_vh hst)]; exact h1) (by rw [am_to (am_vh hst)]; exact h2) (by rw [am_to (am_vh hst)]; exact ho) ht (k H locs ls hW hS hl hv (am_vt hst))
theorem s_lookup (C : am_Cx p l e R s mm args below meth c cells slots Q E A y d P) {a : Int} {dflt off : Int} {ps : Array (Int × Int)} {len t : Nat} (hp : (ps.toList.zip (ps.toList.drop 1)).all (fun (a, next) => a.1 < next.1) = true) (ho : Op.lookupswitch.offset ps.toList dflt a = off) (ht : (pc : Int) + off = (t : Int)) (hd : decode (am_mi y).2.1 pc = .ok (.lookupswitch dflt ps, len)) (k : am_at p l e R s mm args below meth c cells slots Q E A y (t) lv (st) m) : am_at p l e R s mm args below meth c cells slots Q E A y (pc) lv (.inl a :: st) m := by
  obtain ⟨hx, hb, hml, hown, hts, hfr, hlo, hce, hsl, hRO, hK, hret⟩ := id C
  intro H locs ls hW hS hl hv hst
  exact lv_lookup hx hb hd hp (by rw [am_to (am_vh hst)]; exact ho) ht (k H locs ls hW hS hl hv (am_vt hst))
end
end
section
theorem am_inbig {ws : List Cond} (ps : List Nat) (hp : ws = ps.filterMap (fun i => lw_tbl[i]?)) (h : ws.all goodWord = true) : ∀ w ∈ ws, w ∈ am_big := by
  intro w hw
  have h1 := List.all_eq_true.mp h w hw
  rw [hp] at hw
  obtain ⟨i, -, hi⟩ := List.mem_filterMap.mp hw
  exact List.mem_filter.mpr ⟨List.mem_of_getElem? hi, h1⟩
theorem am_big_of {i : Nat} {w : Cond} (h : lw_tbl[i]? = some w) (hg : goodWord w = true) : w ∈ am_big := List.mem_filter.mpr ⟨List.mem_of_getElem? h, hg⟩
theorem am_inX0 : ∀ w ∈ u_ws RX0 TX0 6, w ∈ am_big := am_inbig [237, 239, 241, 243, 245, 247] (by decide +kernel) (by decide +kernel)
theorem am_inX1 : ∀ w ∈ u_ws RX1 TX1 3, w ∈ am_big := am_inbig [397, 399, 401] (by decide +kernel) (by decide +kernel)
theorem am_inX2 : ∀ w ∈ u_ws RX2 TX2 5, w ∈ am_big := am_inbig [211, 213, 215, 217, 219] (by decide +kernel) (by decide +kernel)
theorem am_inX3 : ∀ w ∈ u_ws RX3 TX3 8, w ∈ am_big := am_inbig [270, 272, 274, 276, 278, 280, 282, 284] (by decide +kernel) (by decide +kernel)
theorem am_inX4 : ∀ w ∈ u_ws RX4 TX4 7, w ∈ am_big := am_inbig [420, 422, 424, 426, 428, 430, 432] (by decide +kernel) (by decide +kernel)
theorem am_inX5 : ∀ w ∈ u_ws RX5 TX5 8, w ∈ am_big := am_inbig [360, 362, 364, 366, 368, 370, 372, 374] (by decide +kernel) (by decide +kernel)
theorem am_inX6 : ∀ w ∈ u_ws RX6 TX6 1, w ∈ am_big := am_inbig [176] (by decide +kernel) (by decide +kernel)
theorem am_inX7 : ∀ w ∈ u_ws RX7 TX7 1, w ∈ am_big := am_inbig [385] (by decide +kernel) (by decide +kernel)
theorem am_inX8 : ∀ w ∈ u_ws RX8 TX8 9, w ∈ am_big := am_inbig [323, 325, 327, 329, 331, 333, 335, 337, 339] (by decide +kernel) (by decide +kernel)
theorem am_inX9 : ∀ w ∈ u_ws RX9 TX9 4, w ∈ am_big := am_inbig [449, 451, 453, 455] (by decide +kernel) (by decide +kernel)
theorem am_inX10 : ∀ w ∈ u_ws RX10 TX10 6, w ∈ am_big := am_inbig [155, 157, 159, 161, 163, 165] (by decide +kernel) (by decide +kernel)
theorem am_inX11 : ∀ w ∈ u_ws RX11 TX11 13, w ∈ am_big := am_inbig [472, 474, 476, 478, 480, 482, 484, 486, 488, 490, 492, 494, 496] (by decide +kernel) (by decide +kernel)
theorem am_inX12 : ∀ w ∈ u_ws RX12 TX12 49, w ∈ am_big := am_inbig [1186, 1188, 1190, 1192, 1194, 1196, 1198, 1200, 1202, 1204, 1206, 1208, 1210, 1212, 1214, 1216, 1218, 1220, 1222, 1224, 1226, 1228, 1230, 1232, 1234, 1236, 1238, 1240, 1242, 1244, 1246, 1248, 1250, 1252, 1254, 1256, 1258, 1260, 1262, 1264, 1266, 1268, 1270, 1272, 1274, 1276, 1278, 1280, 1282] (by decide +kernel) (by decide +kernel)
/-- what the tables say of a class -/
def am_clsF (C : String) (T : u_T) (N : Nat) : Prop := (∀ w ∈ u_ws C T N, w ∈ am_big) ∧ (∃ ty : Nat → FieldType, ∀ k, k < N → parseFieldDescriptor (T k).2.2.1 = some (ty k)) ∧ (∀ a, a < N → ∀ b, b < N → a ≠ b → (T a).2.1 ≠ (T b).2.1) ∧ ∀ k, k < N → (T k).1 = C
theorem am_cls : ∀ {ci : Nat} {C : String} {T : u_T} {N : Nat}, vwCl[ci]? = some (C, T, N) → am_clsF C T N := by
  intro ci C T N h
  match ci, h with
  | 0, h => cases h; exact ⟨am_inX0, ⟨tyX0, tyX0_ok⟩, nmX0, by decide +kernel⟩
  | 1, h => cases h; exact ⟨am_inX1, ⟨tyX1, tyX1_ok⟩, nmX1, by decide +kernel⟩
  | 2, h => cases h; exact ⟨am_inX2, ⟨tyX2, tyX2_ok⟩, nmX2, by decide +kernel⟩
  | 3, h => cases h; exact ⟨am_inX3, ⟨tyX3, tyX3_ok⟩, nmX3, by decide +kernel⟩
  | 4, h => cases h; exact ⟨am_inX4, ⟨tyX4, tyX4_ok⟩, nmX4, by decide +kernel⟩
  | 5, h => cases h; exact ⟨am_inX5, ⟨tyX5, tyX5_ok⟩, nmX5, by decide +kernel⟩
  | 6, h => cases h; exact ⟨am_inX6, ⟨tyX6, tyX6_ok⟩, nmX6, by decide +kernel⟩
  | 7, h => cases h; exact ⟨am_inX7, ⟨tyX7, tyX7_ok⟩, nmX7, by decide +kernel⟩
  | 8, h => cases h; exact ⟨am_inX8, ⟨tyX8, tyX8_ok⟩, nmX8, by decide +kernel⟩
  | 9, h => cases h; exact ⟨am_inX9, ⟨tyX9, tyX9_ok⟩, nmX9, by decide +kernel⟩
  | 10, h => cases h; exact ⟨am_inX10, ⟨tyX10, tyX10_ok⟩, nmX10, by decide +kernel⟩
  | 11, h => cases h; exact ⟨am_inX11, ⟨tyX11, tyX11_ok⟩, nmX11, by decide +kernel⟩
  | 12, h => cases h; exact ⟨am_inX12, ⟨tyX12, tyX12_ok⟩, nmX12, by decide +kernel⟩
  | n + 13, h => simp [vwCl] at h
def am_C (ci : Nat) : vw_C := vwCl.getD ci ("", fun _ => ("", "", "", false), 0)
theorem am_C_at {ci : Nat} (h : ci < 13) : vwCl[ci]? = some ((am_C ci).1, (am_C ci).2.1, (am_C ci).2.2) := by
  have hl : vwCl.length = 13 := rfl
  unfold am_C
  rw [List.getD_eq_getElem?_getD]
  cases hc : vwCl[ci]? with
  | none =>
    rw [List.getElem?_eq_none_iff] at hc
    omega
  | some x => rfl
def am_fck (o : Nat) (e : Nat × Nat × Nat × Nat) : Bool := decide (e.2.1 / 100 < 13) && decide (e.2.1 % 100 < (am_C (e.2.1 / 100)).2.2) && decide (lw_tbl[e.2.2.2]? = some (if e.2.2.1 = 0 then Cond.fieldLink (am_cn.getD o "") e.1 (am_C (e.2.1 / 100)).1 ((am_C (e.2.1 / 100)).2.1 (e.2.1 % 100)).2.1 ((am_C (e.2.1 / 100)).2.1 (e.2.1 % 100)).2.2.1 else Cond.fieldLinkNest (am_cn.getD o "") e.1 (am_C (e.2.1 / 100)).1 ((am_C (e.2.1 / 100)).2.1 (e.2.1 % 100)).2.1 ((am_C (e.2.1 / 100)).2.1 (e.2.1 % 100)).2.2.1 "TripleSieve"))
theorem am_ft_ok : (List.range 17).all (fun o => (am_ft.getD o []).all (am_fck o)) = true := by decide +kernel
def am_gck (o : Nat) (e : Nat × Nat × Nat × Nat) : Bool := decide (900 ≤ e.2.1 ∧ e.2.1 ≤ 902) && decide (lw_tbl[e.2.2.2]? = some (if e.2.2.1 = 0 then Cond.fieldLink (am_cn.getD o "") e.1 "TripleSieve" (["LOWEST", "HIGHEST", "UNTOLD"].getD (e.2.1 - 900) "") "[I" else Cond.fieldLinkNest (am_cn.getD o "") e.1 "TripleSieve" (["LOWEST", "HIGHEST", "UNTOLD"].getD (e.2.1 - 900) "") "[I" "TripleSieve"))
theorem am_gs_ok : (List.range 17).all (fun o => (am_gs.getD o []).all (am_gck o)) = true := by decide +kernel
def am_cck (o : Nat) (e : Nat × Int × Nat) : Bool := decide (lw_tbl[e.2.2]? = some (Cond.constant (am_cn.getD o "") e.1 (Int32.ofInt e.2.1)))
theorem am_ct_ok : (List.range 17).all (fun o => (am_ct.getD o []).all (am_cck o)) = true := by decide +kernel
def am_lck (o : Nat) (e : Nat × Nat × Nat) : Bool := decide (lw_tbl[e.2.2]? = some (Cond.constantLong (am_cn.getD o "") e.1 (Int64.ofNat e.2.1)))
theorem am_lt_ok : (List.range 17).all (fun o => (am_lt.getD o []).all (am_lck o)) = true := by decide +kernel
def am_ack (o : Nat) (e : Nat × Nat) : Bool := decide (lw_tbl[e.2]? = some (Cond.methodLink (am_cn.getD o "") e.1 arraycopyName))
theorem am_act_ok : (List.range 17).all (fun o => (am_act.getD o []).all (am_ack o)) = true := by decide +kernel
theorem am_acw1 : lw_tbl[am_acw.1]? = some (Cond.static arraycopyName) := by decide +kernel
theorem am_acw2 : lw_tbl[am_acw.2.1]? = some (Cond.native arraycopyName) := by decide +kernel
theorem am_acw3 : lw_tbl[am_acw.2.2]? = some (Cond.initialized "java/lang/System") := by decide +kernel
theorem am_all17 {α : Type} {f : Nat → List α} {g : Nat → α → Bool} (h : (List.range 17).all (fun o => (f o).all (g o)) = true) (hf : ∀ o, 17 ≤ o → f o = []) {o : Nat} {e : α} (he : e ∈ f o) : g o e = true := by
  rcases Nat.lt_or_ge o 17 with ho | ho
  · exact List.all_eq_true.mp (List.all_eq_true.mp h o (List.mem_range.mpr ho)) e he
  · rw [hf o ho] at he
    cases he
theorem am_ft17 (o : Nat) (h : 17 ≤ o) : am_ft.getD o [] = [] := by
  rw [List.getD_eq_getElem?_getD, List.getElem?_eq_none (show am_ft.length ≤ o from h)]; rfl
theorem am_gs17 (o : Nat) (h : 17 ≤ o) : am_gs.getD o [] = [] := by
  rw [List.getD_eq_getElem?_getD, List.getElem?_eq_none (show am_gs.length ≤ o from h)]; rfl
theorem am_ct17 (o : Nat) (h : 17 ≤ o) : am_ct.getD o [] = [] := by
  rw [List.getD_eq_getElem?_getD, List.getElem?_eq_none (show am_ct.length ≤ o from h)]; rfl
theorem am_lt17 (o : Nat) (h : 17 ≤ o) : am_lt.getD o [] = [] := by
  rw [List.getD_eq_getElem?_getD, List.getElem?_eq_none (show am_lt.length ≤ o from h)]; rfl
theorem am_act17 (o : Nat) (h : 17 ≤ o) : am_act.getD o [] = [] := by
  rw [List.getD_eq_getElem?_getD, List.getElem?_eq_none (show am_act.length ≤ o from h)]; rfl
theorem am_flink {o i n nest w : Nat} (h : (i, n, nest, w) ∈ am_ft.getD o []) : n / 100 < 13 ∧ n % 100 < (am_C (n / 100)).2.2 ∧ (Cond.fieldLink (am_cn.getD o "") i (am_C (n / 100)).1 ((am_C (n / 100)).2.1 (n % 100)).2.1 ((am_C (n / 100)).2.1 (n % 100)).2.2.1 ∈ am_big ∨ Cond.fieldLinkNest (am_cn.getD o "") i (am_C (n / 100)).1 ((am_C (n / 100)).2.1 (n % 100)).2.1 ((am_C (n / 100)).2.1 (n % 100)).2.2.1 "TripleSieve" ∈ am_nst) := by
  have h1 := am_all17 (f := fun o => am_ft.getD o []) am_ft_ok am_ft17 h
  simp only [am_fck, Bool.and_eq_true, decide_eq_true_eq] at h1
  obtain ⟨⟨h1, h2⟩, h3⟩ := h1
  refine ⟨h1, h2, ?_⟩
  by_cases hn : nest = 0
  · rw [if_pos hn] at h3
    exact Or.inl (am_big_of h3 rfl)
  · rw [if_neg hn] at h3
    exact Or.inr (List.mem_filter.mpr ⟨List.mem_of_getElem? h3, rfl⟩)
theorem am_glink {o i n nest w : Nat} (h : (i, n, nest, w) ∈ am_gs.getD o []) : (900 ≤ n ∧ n ≤ 902) ∧ (Cond.fieldLink (am_cn.getD o "") i "TripleSieve" (["LOWEST", "HIGHEST", "UNTOLD"].getD (n - 900) "") "[I" ∈ am_big ∨ Cond.fieldLinkNest (am_cn.getD o "") i "TripleSieve" (["LOWEST", "HIGHEST", "UNTOLD"].getD (n - 900) "") "[I" "TripleSieve" ∈ am_nst) := by
  have h1 := am_all17 (f := fun o => am_gs.getD o []) am_gs_ok am_gs17 h
  simp only [am_gck, Bool.and_eq_true, decide_eq_true_eq] at h1
  obtain ⟨h1, h3⟩ := h1
  refine ⟨h1, ?_⟩
  by_cases hn : nest = 0
  · rw [if_pos hn] at h3
    exact Or.inl (am_big_of h3 rfl)
  · rw [if_neg hn] at h3
    exact Or.inr (List.mem_filter.mpr ⟨List.mem_of_getElem? h3, rfl⟩)
theorem am_clink {o i w : Nat} {z : Int} (h : (i, z, w) ∈ am_ct.getD o []) : Cond.constant (am_cn.getD o "") i (Int32.ofInt z) ∈ am_big := by
  have h1 := am_all17 (f := fun o => am_ct.getD o []) am_ct_ok am_ct17 h
  simp only [am_cck, decide_eq_true_eq] at h1
  exact am_big_of h1 rfl
theorem am_llink {o i w n : Nat} (h : (i, n, w) ∈ am_lt.getD o []) : Cond.constantLong (am_cn.getD o "") i (Int64.ofNat n) ∈ am_big := by
  have h1 := am_all17 (f := fun o => am_lt.getD o []) am_lt_ok am_lt17 h
  simp only [am_lck, decide_eq_true_eq] at h1
  exact am_big_of h1 rfl
theorem am_alink {o i w : Nat} (h : (i, w) ∈ am_act.getD o []) : Cond.methodLink (am_cn.getD o "") i arraycopyName ∈ am_big := by
  have h1 := am_all17 (f := fun o => am_act.getD o []) am_act_ok am_act17 h
  simp only [am_ack, decide_eq_true_eq] at h1
  exact am_big_of h1 rfl
-- fields by the layout
theorem am_fld_spec {q n t x : Nat} (h : am_fld q n = (t, x)) (ht : t ≠ 9) : q < am_N ∧ (am_lay q).1 = n / 100 ∧ (am_lay q).2[n % 100]? = some (t, x) := by
  unfold am_fld at h
  split at h
  · rename_i hb
    have hk := Nat.eq_of_beq_eq_true hb
    rw [List.getD_eq_getElem?_getD] at h
    cases hc : (am_lay q).2[n % 100]? with
    | none => rw [hc] at h; cases h; exact absurd rfl ht
    | some e =>
      rw [hc] at h
      cases h
      refine ⟨?_, hk, rfl⟩
      rcases Nat.lt_or_ge q am_N with g | g
      · exact g
      · rw [am_lay_out g] at hc
        cases hc
  · cases h; exact absurd rfl ht
def am_fty : Bool := (List.range am_N).all fun q => decide (100 ≤ (am_lay q).1) || (List.range (am_lay q).2.length).all fun k => let e := (am_lay q).2.getD k (9, 0); let f := (am_C (am_lay q).1).2.1 k; e.1 == 2 || (f.2.2.2 == false && ((e.1 == 0 && f.2.2.1 == "I") || (e.1 == 1 && f.2.2.1 == "J") || (e.1 == 3 && f.2.2.1 == "Z")))
theorem am_fty_true : am_fty = true := by decide +kernel
theorem am_ftyq {q k t x : Nat} (hq : q < am_N) (hk : (am_lay q).1 < 100) (he : (am_lay q).2[k]? = some (t, x)) (ht : t ≠ 2) : ((am_C (am_lay q).1).2.1 k).2.2.2 = false ∧ ((t = 0 ∧ ((am_C (am_lay q).1).2.1 k).2.2.1 = "I") ∨ (t = 1 ∧ ((am_C (am_lay q).1).2.1 k).2.2.1 = "J") ∨ (t = 3 ∧ ((am_C (am_lay q).1).2.1 k).2.2.1 = "Z")) := by
  have h := List.all_eq_true.mp am_fty_true q (List.mem_range.mpr hq)
  simp only [Bool.or_eq_true, decide_eq_true_eq] at h
  rcases h with h | h
  · omega
  · have hl : k < (am_lay q).2.length := (List.getElem?_eq_some_iff.mp he).1
    have h := List.all_eq_true.mp h k (List.mem_range.mpr hl)
    have he2 : (am_lay q).2.getD k (9, 0) = (t, x) := by rw [List.getD_eq_getElem?_getD, he]; rfl
    simp only [he2, Bool.or_eq_true, Bool.and_eq_true, beq_iff_eq] at h
    rcases h with h | ⟨h1, h2⟩
    · exact absurd h ht
    · refine ⟨h1, ?_⟩
      rcases h2 with (h2 | h2) | h2
      · exact Or.inl h2
      · exact Or.inr (Or.inl h2)
      · exact Or.inr (Or.inr h2)
theorem am_idq {q k t x : Nat} (hq : q < am_N) (hk : (am_lay q).1 < 100) (he : (am_lay q).2[k]? = some (t, x)) (ht : t ≠ 2) : x = 1000 + 100 * q + k ∧ k < 100 := by
  have hl : k < (am_lay q).2.length := (List.getElem?_eq_some_iff.mp he).1
  have he2 : (am_lay q).2.getD k (9, 0) = (t, x) := by rw [List.getD_eq_getElem?_getD, he]; rfl
  rcases (am_lokq hq).2 with ⟨h, -⟩ | ⟨-, h100, h⟩
  · omega
  · have h := h k hl
    rw [he2] at h
    rcases h with ⟨h3, -⟩ | ⟨-, -, h5⟩
    · exact absurd h3 ht
    · exact ⟨h5, by omega⟩
theorem am_cell_obj {E : am_E} {m : am_M} {q : Nat} (hk : (am_lay q).1 < 100) : am_cell E m q = .inr ((am_lay q).1, (am_lay q).2.map (am_fv E m)) := by
  unfold am_cell
  rw [if_pos hk]
theorem am_cell_put {E : am_E} {m m' : am_M} {q k t x : Nat} (hq : q < am_N) (hk : (am_lay q).1 < 100) (he : (am_lay q).2[k]? = some (t, x)) (ht : t ≠ 2) (h1 : ∀ i, i ≠ x → m'.1 i = m.1 i) (h2 : ∀ i, i ≠ x → m'.2 i = m.2 i) : am_cell E m' q = .inr ((am_lay q).1, ((am_lay q).2.map (am_fv E m)).set k (am_fv E m' (t, x))) := by
  rw [am_cell_obj hk]
  congr 2
  obtain ⟨hx, h100⟩ := am_idq hq hk he ht
  refine List.ext_getElem? fun j => ?_
  rw [List.getElem?_set, List.getElem?_map]
  by_cases hj : k = j
  · subst hj
    have hl : k < (am_lay q).2.length := (List.getElem?_eq_some_iff.mp he).1
    rw [if_pos rfl, if_pos (by simpa using hl), he]
    rfl
  · rw [if_neg hj, List.getElem?_map]
    cases hc : (am_lay q).2[j]? with
    | none => rfl
    | some e =>
      obtain ⟨t', x'⟩ := e
      show some (am_fv E m' (t', x')) = some (am_fv E m (t', x'))
      congr 1
      by_cases ht' : t' = 2
      · subst ht'; rfl
      · obtain ⟨hx', -⟩ := am_idq hq hk hc ht'
        unfold am_fv
        rw [h1 x' (by omega), h2 x' (by omega)]
theorem am_wr1 (m : am_M) (id : Nat) (z v : Int) : ∀ i, i ≠ id → (am_wr m id z v).1 i = m.1 i := fun i hi => by simp [am_wr, hi]
theorem am_wl2 (m : am_M) (id : Nat) (z : Int) (v : Int64) : ∀ i, i ≠ id → (am_wl m id z v).2 i = m.2 i := fun i hi => by simp [am_wl, hi]
theorem am_ws11 (m : am_M) (id : Nat) (f : Int → Int) : ∀ i, i ≠ id → (am_ws1 m id f).1 i = m.1 i := fun i hi => by simp [am_ws1, hi]
theorem am_ws22 (m : am_M) (id : Nat) (f : Int → Int64) : ∀ i, i ≠ id → (am_ws2 m id f).2 i = m.2 i := fun i hi => by simp [am_ws2, hi]
theorem am_wr_self (m : am_M) (id : Nat) (z v : Int) : (am_wr m id z v).1 id z = v := by simp [am_wr]
theorem am_wl_self (m : am_M) (id : Nat) (z : Int) (v : Int64) : (am_wl m id z v).2 id z = v := by simp [am_wl]
theorem am_nb : ∀ z : Int, (z = 0 ∨ z = 1) → narrow .boolean (.int (Int32.ofInt z)) = .int (Int32.ofInt z) ∧ fits .boolean (.int (Int32.ofInt z)) = true ∧ vp_nar .boolean (Int32.ofInt z) = Int32.ofInt z := by
  intro z hz
  rcases hz with rfl | rfl <;> exact ⟨by decide, by decide, by decide⟩
theorem am_nby {z : Int} (h1 : -128 ≤ z) (h2 : z ≤ 127) : (Int32.ofInt z).toInt8.toInt32 = Int32.ofInt z := by
  have hr : am_R z := ⟨by omega, by omega⟩
  rw [← Int32.toInt_inj, Int8.toInt_toInt32, Int32.toInt_toInt8, am_to hr]
  exact Int.bmod_eq_of_le (by omega) (by omega)
end
section
section
variable {p : Program} {l : Launch} {e : Env} {R : Room} {s : State} {mm : MethodId} {args : Array Value} {below : List Frame} {meth : Method} {c : Code} {cells slots : Nat} {Q : State → Prop} {E : am_E} {A : Nat → Prop} {y d : Nat} {P : am_V → am_M → Prop}
  {pc : Nat} {lv : am_L} {r st : List am_V} {m : am_M}
theorem s_getfield (C : am_Cx p l e R s mm args below meth c cells slots Q E A y d P) {i n q t x nest w : Nat} {v : am_V} (hf : (i, n, nest, w) ∈ am_ft.getD (am_mi y).2.2.2.2 []) (hg : am_fld q n = (t, x)) (ht : t ≠ 9) (hcv : am_fv E m (t, x) = am_cv E v) (hok : am_MR m → am_vok v) (hd : decode (am_mi y).2.1 pc = .ok (.getfield i, 3)) (k : am_at p l e R s mm args below meth c cells slots Q E A y (pc + 3) lv (v :: st) (m)) : am_at p l e R s mm args below meth c cells slots Q E A y (pc) lv (.inr (.inr q) :: st) (m) := by
  obtain ⟨hx, hb, hml, hown, hts, hfr, hlo, hce, hsl, hRO, hK, hret⟩ := id C
  intro H locs ls hW hS hl hv hst
  obtain ⟨hP, -, hD, hM⟩ := id hW
  obtain ⟨h13, hkN, hlk⟩ := am_flink hf
  obtain ⟨hq, hci, he⟩ := am_fld_spec hg ht
  have hk100 : (am_lay q).1 < 100 := by omega
  obtain ⟨hcin, ⟨ty, hty⟩, hnm, hde⟩ := am_cls (am_C_at h13)
  have hws := am_ws_get E m hq
  rw [am_cell_obj hk100, hci] at hws
  have hfs : ((am_lay q).2.map (am_fv E m))[n % 100]? = some (am_cv E v) := by rw [List.getElem?_map, he, ← hcv]; rfl
  have k := k H locs ls hW hS hl hv (am_vc (hok hM) (am_vt hst))
  rcases hlk with hlk | hlk
  · exact va_get (ref := (am_C (n / 100)).1) hx hb hts hcin hown hK hP q hws (am_C_at h13) (n % 100) hkN (hts _ hlk) (by rw [hde _ hkN]; exact fun _ h => h) hfs hd k
  · exact va_getN (ref := (am_C (n / 100)).1) hx hb hts hcin hown hK hP q hws (am_C_at h13) (n % 100) hkN (va_Nw.use rfl (hRO.2.2.2.2.2.2.1 _ hlk)) (by rw [hde _ hkN]; exact fun _ h => h) hfs hd k
theorem s_putfield (C : am_Cx p l e R s mm args below meth c cells slots Q E A y d P) {i n q t x nest w : Nat} {v : am_V} {m2 : am_M} (hf : (i, n, nest, w) ∈ am_ft.getD (am_mi y).2.2.2.2 []) (hg : am_fld q n = (t, x)) (ht : t ≠ 9) (ht2 : t ≠ 2) (h1 : ∀ i, i ≠ x → m2.1 i = m.1 i) (h2 : ∀ i, i ≠ x → m2.2 i = m.2 i) (hcv : am_fv E m2 (t, x) = am_cv E v) (hnf : ∀ ty, ((t = 0 ∧ ty = FieldType.int) ∨ (t = 1 ∧ ty = FieldType.long) ∨ (t = 3 ∧ ty = FieldType.boolean)) → narrow ty (am_cv E v) = am_cv E v ∧ fits ty (am_cv E v) = true) (hok : am_MR m → am_vok v → am_MR m2) (hd : decode (am_mi y).2.1 pc = .ok (.putfield i, 3)) (k : am_at p l e R s mm args below meth c cells slots Q E A y (pc + 3) lv (st) (m2)) : am_at p l e R s mm args below meth c cells slots Q E A y (pc) lv (v :: .inr (.inr q) :: st) (m) := by
  obtain ⟨hx, hb, hml, hown, hts, hfr, hlo, hce, hsl, hRO, hK, hret⟩ := id C
  intro H locs ls hW hS hl hv hst
  obtain ⟨hP, -, hD, hM⟩ := id hW
  obtain ⟨h13, hkN, hlk⟩ := am_flink hf
  obtain ⟨hq, hci, he⟩ := am_fld_spec hg ht
  have hk100 : (am_lay q).1 < 100 := by omega
  obtain ⟨hcin, ⟨ty, hty⟩, hnm, hde⟩ := am_cls (am_C_at h13)
  obtain ⟨hfin, hdes⟩ := am_ftyq hq hk100 he ht2
  obtain ⟨hxx, hk1⟩ := am_idq hq hk100 he ht2
  rw [hci] at hfin hdes
  have hws := am_ws_get E m hq
  rw [am_cell_obj hk100, hci] at hws
  have hset : (am_ws E m).set q (am_ad E q, .inr (n / 100, ((am_lay q).2.map (am_fv E m)).set (n % 100) (am_cv E v))) = am_ws E m2 := by
    rw [← hcv]
    have h3 := am_cell_put (E := E) (m' := m2) hq hk100 he ht2 h1 h2
    rw [hci] at h3
    rw [← h3]
    refine am_ws_set E (am_cell_fld hq hk1 ?_ ?_)
    · rw [← hxx]; exact h1
    · rw [← hxx]; exact h2
  obtain ⟨ty2, hp2, hnn⟩ : ∃ ty2, parseFieldDescriptor ((am_C (n / 100)).2.1 (n % 100)).2.2.1 = some ty2 ∧ narrow ty2 (am_cv E v) = am_cv E v ∧ fits ty2 (am_cv E v) = true := by
    rcases hdes with ⟨a1, a2⟩ | ⟨a1, a2⟩ | ⟨a1, a2⟩
    · exact ⟨.int, by rw [a2]; decide, hnf _ (Or.inl ⟨a1, rfl⟩)⟩
    · exact ⟨.long, by rw [a2]; decide, hnf _ (Or.inr (Or.inl ⟨a1, rfl⟩))⟩
    · exact ⟨.boolean, by rw [a2]; decide, hnf _ (Or.inr (Or.inr ⟨a1, rfl⟩))⟩
  have hlen : n % 100 < ((am_lay q).2.map (am_fv E m)).length := by rw [List.length_map]; exact (List.getElem?_eq_some_iff.mp he).1
  have k : ∀ (H1 : Heap) (locs1 : List Loc), va_P E.1 vwCl ((am_ws E m).set q (am_ad E q, .inr (n / 100, ((am_lay q).2.map (am_fv E m)).set (n % 100) (am_cv E v)))) H1 → va_D A ((am_ws E m).set q (am_ad E q, .inr (n / 100, ((am_lay q).2.map (am_fv E m)).set (n % 100) (am_cv E v)))) → va_S A s.heap H1 locs1 → W p l e R s mm args below meth c H1 locs1 cells slots Q (F0 mm (pc + 3) ls (st.map (am_cv E))) := by
    intro H1 locs1 hP1 hD1 hS1
    rw [hset] at hP1 hD1
    exact k H1 locs1 ls ⟨hP1, hW.2.1, hD1, hok hM (am_vh hst)⟩ hS1 hl hv (am_vt (am_vt hst))
  rcases hlk with hlk | hlk
  · exact va_put (ref := (am_C (n / 100)).1) hx hb hts hcin ty hty hnm hown hK hP hD hS q hws (am_C_at h13) (n % 100) hkN (hts _ hlk) (by rw [hde _ hkN]; exact fun _ h => h) hfin hp2 hnn.1 hnn.2 hlen hd k
  · exact va_putN (ref := (am_C (n / 100)).1) hx hb hts hcin ty hty hnm hown hK hP hD hS q hws (am_C_at h13) (n % 100) hkN (va_Nw.use rfl (hRO.2.2.2.2.2.2.1 _ hlk)) (by rw [hde _ hkN]; exact fun _ h => h) hfin hp2 hnn.1 hnn.2 hlen hd k
theorem s_getstatic (C : am_Cx p l e R s mm args below meth c cells slots Q E A y d P) {i n nest w : Nat} (hf : (i, n, nest, w) ∈ am_gs.getD (am_mi y).2.2.2.2 []) (hd : decode (am_mi y).2.1 pc = .ok (.getstatic i, 3)) (k : am_at p l e R s mm args below meth c cells slots Q E A y (pc + 3) lv (.inr (.inr n) :: st) (m)) : am_at p l e R s mm args below meth c cells slots Q E A y (pc) lv (st) (m) := by
  obtain ⟨hx, hb, hml, hown, hts, hfr, hlo, hce, hsl, hRO, hK, hret⟩ := id C
  intro H locs ls hW hS hl hv hst
  obtain ⟨hP, -, hD, hM⟩ := id hW
  obtain ⟨⟨h1, h2⟩, hlk⟩ := am_glink hf
  have k := k H locs ls hW hS hl hv (am_vc trivial hst)
  have hz : va_Z "TripleSieve" (["LOWEST", "HIGHEST", "UNTOLD"].getD (n - 900) "") "[I" (.ref (am_ad E n)) A s s.heap := by
    rcases (show n = 900 ∨ n = 901 ∨ n = 902 by omega) with rfl | rfl | rfl
    · exact hRO.1.1
    · exact hRO.2.1.1
    · exact hRO.2.2.1.1
  rcases hlk with hlk | hlk
  · exact va_gets hx hb hz hS hown (hts _ hlk) (fun _ h => h) hd k
  · exact va_getsN hx hb hz hS hown (va_Nw.use rfl (hRO.2.2.2.2.2.2.1 _ hlk)) (fun _ h => h) hd k
theorem am_cell_int {E : am_E} {m : am_M} {q : Nat} (hk : (am_lay q).1 = 100 ∨ (am_lay q).1 = 101 ∨ (am_lay q).1 = 102) : am_cell E m q = .inl (E.2.1 (am_lay q).1, am_len q, .inl fun j => Int32.ofInt (m.1 q (j : Int))) := by
  unfold am_cell
  rw [if_neg (by omega), if_neg (by omega), if_neg (by omega)]
theorem am_cell_lng {E : am_E} {m : am_M} {q : Nat} (hk : (am_lay q).1 = 103) : am_cell E m q = .inl (E.2.1 103, am_len q, .inr (.inl fun j => m.2 q (j : Int))) := by
  unfold am_cell
  rw [if_neg (by omega), if_pos hk]
theorem am_cell_ref {E : am_E} {m : am_M} {q : Nat} (hk : (am_lay q).1 = 104) : am_cell E m q = .inl (E.2.1 104, (am_lay q).2.length, .inr (.inr (.inr (.inr fun j => some (am_ad E ((am_lay q).2.getD j (0, 0)).1))))) := by
  unfold am_cell
  rw [if_neg (by omega), if_neg (by omega), if_pos hk]
theorem am_N1000 : am_N < 1000 := by decide
theorem am_toN {z : Int} (h : 0 ≤ z) : ((z.toNat : Nat) : Int) = z := Int.toNat_of_nonneg h
theorem s_iaload (C : am_Cx p l e R s mm args below meth c cells slots Q E A y d P) {q : Nat} {i : Int} (hk : (am_lay q).1 = 100) (h0 : 0 ≤ i) (h1 : i < (am_len q : Int)) (hd : decode (am_mi y).2.1 pc = .ok (.iaload, 1)) (k : am_at p l e R s mm args below meth c cells slots Q E A y (pc + 1) lv (.inl (m.1 q i) :: st) (m)) : am_at p l e R s mm args below meth c cells slots Q E A y (pc) lv (.inl i :: .inr (.inr q) :: st) (m) := by
  obtain ⟨hx, hb, hml, hown, hts, hfr, hlo, hce, hsl, hRO, hK, hret⟩ := id C
  intro H locs ls hW hS hl hv hst
  obtain ⟨hP, -, hD, hM⟩ := id hW
  have hq : q < am_N := am_lay_lt (by omega)
  have hws := am_ws_get E m hq
  rw [am_cell_int (by omega), hk] at hws
  have ri : am_R i := am_vh hst
  have k := k H locs ls hW hS hl hv (am_vc (hM.R q i) (am_vt (am_vt hst)))
  refine va_iald hx hb hK hP q 0 hws rfl (am_vin ri h0 h1) hd ?_
  simp only [am_clamp ri, am_toN h0]
  exact k
theorem s_zaload (C : am_Cx p l e R s mm args below meth c cells slots Q E A y d P) {q : Nat} {i : Int} (hk : (am_lay q).1 = 101) (h0 : 0 ≤ i) (h1 : i < (am_len q : Int)) (hd : decode (am_mi y).2.1 pc = .ok (.baload, 1)) (k : am_at p l e R s mm args below meth c cells slots Q E A y (pc + 1) lv (.inl (m.1 q i) :: st) (m)) : am_at p l e R s mm args below meth c cells slots Q E A y (pc) lv (.inl i :: .inr (.inr q) :: st) (m) := by
  obtain ⟨hx, hb, hml, hown, hts, hfr, hlo, hce, hsl, hRO, hK, hret⟩ := id C
  intro H locs ls hW hS hl hv hst
  obtain ⟨hP, -, hD, hM⟩ := id hW
  have hq : q < am_N := am_lay_lt (by omega)
  have hws := am_ws_get E m hq
  rw [am_cell_int (by omega), hk] at hws
  have ri : am_R i := am_vh hst
  have k := k H locs ls hW hS hl hv (am_vc (hM.R q i) (am_vt (am_vt hst)))
  refine va_zald hx hb hK hP q 1 hws rfl (am_vin ri h0 h1) hd ?_
  simp only [am_clamp ri, am_toN h0]
  exact k
theorem s_baload (C : am_Cx p l e R s mm args below meth c cells slots Q E A y d P) {q : Nat} {i : Int} (hk : (am_lay q).1 = 102) (h0 : 0 ≤ i) (h1 : i < (am_len q : Int)) (hd : decode (am_mi y).2.1 pc = .ok (.baload, 1)) (k : am_at p l e R s mm args below meth c cells slots Q E A y (pc + 1) lv (.inl (m.1 q i) :: st) (m)) : am_at p l e R s mm args below meth c cells slots Q E A y (pc) lv (.inl i :: .inr (.inr q) :: st) (m) := by
  obtain ⟨hx, hb, hml, hown, hts, hfr, hlo, hce, hsl, hRO, hK, hret⟩ := id C
  intro H locs ls hW hS hl hv hst
  obtain ⟨hP, -, hD, hM⟩ := id hW
  have hq : q < am_N := am_lay_lt (by omega)
  have hws := am_ws_get E m hq
  rw [am_cell_int (by omega), hk] at hws
  have ri : am_R i := am_vh hst
  have k := k H locs ls hW hS hl hv (am_vc (hM.R q i) (am_vt (am_vt hst)))
  refine va_bald hx hb hK hP q 2 hws rfl (am_vin ri h0 h1) hd ?_
  simp only [am_clamp ri, am_toN h0]
  exact k
theorem s_laload (C : am_Cx p l e R s mm args below meth c cells slots Q E A y d P) {q : Nat} {i : Int} (hk : (am_lay q).1 = 103) (h0 : 0 ≤ i) (h1 : i < (am_len q : Int)) (hd : decode (am_mi y).2.1 pc = .ok (.laload, 1)) (k : am_at p l e R s mm args below meth c cells slots Q E A y (pc + 1) lv (.inr (.inl (m.2 q i)) :: st) (m)) : am_at p l e R s mm args below meth c cells slots Q E A y (pc) lv (.inl i :: .inr (.inr q) :: st) (m) := by
  obtain ⟨hx, hb, hml, hown, hts, hfr, hlo, hce, hsl, hRO, hK, hret⟩ := id C
  intro H locs ls hW hS hl hv hst
  obtain ⟨hP, -, hD, hM⟩ := id hW
  have hq : q < am_N := am_lay_lt (by omega)
  have hws := am_ws_get E m hq
  rw [am_cell_lng hk] at hws
  have ri : am_R i := am_vh hst
  have k := k H locs ls hW hS hl hv (am_vc trivial (am_vt (am_vt hst)))
  refine va_lald hx hb hK hP q 3 hws rfl (am_vin ri h0 h1) hd ?_
  simp only [am_clamp ri, am_toN h0]
  exact k
theorem s_aaload (C : am_Cx p l e R s mm args below meth c cells slots Q E A y d P) {q q2 : Nat} {i : Int} (hk : (am_lay q).1 = 104) (h0 : 0 ≤ i) (h1 : i < ((am_lay q).2.length : Int)) (h2 : ((am_lay q).2.getD i.toNat (0, 0)).1 = q2) (hd : decode (am_mi y).2.1 pc = .ok (.aaload, 1)) (k : am_at p l e R s mm args below meth c cells slots Q E A y (pc + 1) lv (.inr (.inr q2) :: st) (m)) : am_at p l e R s mm args below meth c cells slots Q E A y (pc) lv (.inl i :: .inr (.inr q) :: st) (m) := by
  obtain ⟨hx, hb, hml, hown, hts, hfr, hlo, hce, hsl, hRO, hK, hret⟩ := id C
  intro H locs ls hW hS hl hv hst
  obtain ⟨hP, -, hD, hM⟩ := id hW
  have hq : q < am_N := am_lay_lt (by omega)
  have hws := am_ws_get E m hq
  rw [am_cell_ref hk] at hws
  have ri : am_R i := am_vh hst
  have k := k H locs ls hW hS hl hv (am_vc trivial (am_vt (am_vt hst)))
  refine va_aldq hx hb hK hP q 4 hws rfl (am_vin ri h0 h1) hd ?_
  simp only [am_clamp ri, h2]
  exact k
theorem s_tabload (C : am_Cx p l e R s mm args below meth c cells slots Q E A y d P) {q : Nat} {i : Int} (hq : 900 ≤ q ∧ q ≤ 902) (h0 : 0 ≤ i) (h1 : i < 7) (hd : decode (am_mi y).2.1 pc = .ok (.iaload, 1)) (k : am_at p l e R s mm args below meth c cells slots Q E A y (pc + 1) lv (.inl (am_tab q i) :: st) (m)) : am_at p l e R s mm args below meth c cells slots Q E A y (pc) lv (.inl i :: .inr (.inr q) :: st) (m) := by
  obtain ⟨hx, hb, hml, hown, hts, hfr, hlo, hce, hsl, hRO, hK, hret⟩ := id C
  intro H locs ls hW hS hl hv hst
  obtain ⟨hP, -, hD, hM⟩ := id hW
  have ri : am_R i := am_vh hst
  have hT : va_T .int (am_ad E q) 7 (fun j => .int (Int32.ofInt (am_tab q (j : Int)))) A s s.heap := by
    rcases (show q = 900 ∨ q = 901 ∨ q = 902 by omega) with rfl | rfl | rfl
    · exact hRO.1.2
    · exact hRO.2.1.2
    · exact hRO.2.2.1.2
  have hr : am_R (am_tab q i) := by
    have key : ∀ j : Nat, j < 7 → (am_lowT.getD j 0 ≤ 999999999 ∧ 0 ≤ am_lowT.getD j 0) ∧ (am_highT.getD j 0 ≤ 999999999 ∧ 0 ≤ am_highT.getD j 0) ∧ am_untT.getD j 0 ≤ 999999999 ∧ 0 ≤ am_untT.getD j 0 := by decide
    have := key i.toNat (by omega)
    unfold am_tab am_R
    split <;> omega
  have k := k H locs ls hW hS hl hv (am_vc hr (am_vt (am_vt hst)))
  refine va_ti hx hb hT hS (am_vin (n := 7) ri h0 h1) (v := .int (Int32.ofInt (am_tab q i))) ?_ hd k
  show Value.int (Int32.ofInt (am_tab q ((Int32.ofInt i).toNatClampNeg : Int))) = _
  rw [am_clamp ri, am_toN h0]
theorem s_scriptload (C : am_Cx p l e R s mm args below meth c cells slots Q E A y d P) {i : Int} (h0 : 0 ≤ i) (h1 : i < (am_sc E).1) (hd : decode (am_mi y).2.1 pc = .ok (.iaload, 1)) (k : am_at p l e R s mm args below meth c cells slots Q E A y (pc + 1) lv (.inl ((am_sc E).2 i) :: st) (m)) : am_at p l e R s mm args below meth c cells slots Q E A y (pc) lv (.inl i :: .inr (.inr 800) :: st) (m) := by
  obtain ⟨hx, hb, hml, hown, hts, hfr, hlo, hce, hsl, hRO, hK, hret⟩ := id C
  intro H locs ls hW hS hl hv hst
  obtain ⟨hP, -, hD, hM⟩ := id hW
  have ri : am_R i := am_vh hst
  obtain ⟨hX, hbl, hbA⟩ := hRO.2.2.2.2.2.1
  have k := k H locs ls hW hS hl hv (am_vc (am_RT _) (am_vt (am_vt hst)))
  refine va_sld hx hb hX hbl hbA hS (am_vin ri h0 h1) hd ?_
  rw [am_clamp ri]
  simp only [List.map_cons, am_cv, am_sc, am_of] at k
  exact k
theorem s_scriptlen (C : am_Cx p l e R s mm args below meth c cells slots Q E A y d P) (hd : decode (am_mi y).2.1 pc = .ok (.arraylength, 1)) (hL : am_R (am_sc E).1) (k : am_at p l e R s mm args below meth c cells slots Q E A y (pc + 1) lv (.inl (am_sc E).1 :: st) (m)) : am_at p l e R s mm args below meth c cells slots Q E A y (pc) lv (.inr (.inr 800) :: st) (m) := by
  obtain ⟨hx, hb, hml, hown, hts, hfr, hlo, hce, hsl, hRO, hK, hret⟩ := id C
  intro H locs ls hW hS hl hv hst
  obtain ⟨hP, -, hD, hM⟩ := id hW
  obtain ⟨hX, hbl, hbA⟩ := hRO.2.2.2.2.2.1
  have k := k H locs ls hW hS hl hv (am_vc hL (am_vt hst))
  refine va_slen hx hb hX hbl hbA hS hd ?_
  simp only [List.map_cons, am_cv, am_sc, Int32.ofInt_eq_ofNat] at k
  exact k
theorem s_tablen (C : am_Cx p l e R s mm args below meth c cells slots Q E A y d P) {q : Nat} (hq : 900 ≤ q ∧ q ≤ 902) (hd : decode (am_mi y).2.1 pc = .ok (.arraylength, 1)) (k : am_at p l e R s mm args below meth c cells slots Q E A y (pc + 1) lv (.inl 7 :: st) (m)) : am_at p l e R s mm args below meth c cells slots Q E A y (pc) lv (.inr (.inr q) :: st) (m) := by
  obtain ⟨hx, hb, hml, hown, hts, hfr, hlo, hce, hsl, hRO, hK, hret⟩ := id C
  intro H locs ls hW hS hl hv hst
  obtain ⟨hP, -, hD, hM⟩ := id hW
  have hT : va_T .int (am_ad E q) 7 (fun j => .int (Int32.ofInt (am_tab q (j : Int)))) A s s.heap := by
    rcases (show q = 900 ∨ q = 901 ∨ q = 902 by omega) with rfl | rfl | rfl
    · exact hRO.1.2
    · exact hRO.2.1.2
    · exact hRO.2.2.1.2
  exact va_tlen hx hb hT hS rfl hd (k H locs ls hW hS hl hv (am_vc (v := .inl 7) ⟨by decide, by decide⟩ (am_vt hst)))
theorem s_arrlen (C : am_Cx p l e R s mm args below meth c cells slots Q E A y d P) {q : Nat} (hk : 100 ≤ (am_lay q).1 ∧ (am_lay q).1 ≤ 103) (hL : am_len q < 2147483648) (hd : decode (am_mi y).2.1 pc = .ok (.arraylength, 1)) (k : am_at p l e R s mm args below meth c cells slots Q E A y (pc + 1) lv (.inl (am_len q : Int) :: st) (m)) : am_at p l e R s mm args below meth c cells slots Q E A y (pc) lv (.inr (.inr q) :: st) (m) := by
  obtain ⟨hx, hb, hml, hown, hts, hfr, hlo, hce, hsl, hRO, hK, hret⟩ := id C
  intro H locs ls hW hS hl hv hst
  obtain ⟨hP, -, hD, hM⟩ := id hW
  have hq : q < am_N := am_lay_lt (by omega)
  have hws := am_ws_get E m hq
  have k := k H locs ls hW hS hl hv (am_vc (v := .inl (am_len q : Int)) ⟨by omega, by omega⟩ (am_vt hst))
  simp only [List.map_cons, am_cv, Int32.ofInt_eq_ofNat] at k
  rcases (show (am_lay q).1 = 100 ∨ (am_lay q).1 = 101 ∨ (am_lay q).1 = 102 ∨ (am_lay q).1 = 103 by omega) with h | h | h | h
  · rw [am_cell_int (by omega), h] at hws
    exact va_alen hx hb hK hP q 0 hws (ty := .int) rfl rfl hd k
  · rw [am_cell_int (by omega), h] at hws
    exact va_alen hx hb hK hP q 1 hws (ty := .boolean) rfl rfl hd k
  · rw [am_cell_int (by omega), h] at hws
    exact va_alen hx hb hK hP q 2 hws (ty := .byte) rfl rfl hd k
  · rw [am_cell_lng h] at hws
    exact va_alen hx hb hK hP q 3 hws (ty := .long) rfl rfl hd k
theorem am_upd_eq {m : am_M} {q : Nat} {i v : Int} (h0 : 0 ≤ i) : upd (fun j : Nat => Int32.ofInt (m.1 q (j : Int))) i.toNat (Int32.ofInt v) = fun j : Nat => Int32.ofInt ((am_wr m q i v).1 q (j : Int)) := by
  funext j
  simp only [upd, am_wr, if_true]
  by_cases hj : j = i.toNat
  · rw [if_pos hj, if_pos (by omega)]
  · rw [if_neg hj, if_neg (by omega)]
theorem am_updL_eq {m : am_M} {q : Nat} {i : Int} {v : Int64} (h0 : 0 ≤ i) : vp_updL (fun j : Nat => m.2 q (j : Int)) i.toNat v = fun j : Nat => (am_wl m q i v).2 q (j : Int) := by
  funext j
  simp only [vp_updL, am_wl, if_true]
  by_cases hj : j = i.toNat
  · rw [if_pos hj, if_pos (by omega)]
  · rw [if_neg hj, if_neg (by omega)]
theorem am_ws_int {E : am_E} {m m2 : am_M} {q : Nat} (hk : (am_lay q).1 = 100 ∨ (am_lay q).1 = 101 ∨ (am_lay q).1 = 102) (h1 : ∀ i, i ≠ q → m2.1 i = m.1 i) (h2 : ∀ i, i ≠ q → m2.2 i = m.2 i) : (am_ws E m).set q (am_ad E q, .inl (E.2.1 (am_lay q).1, am_len q, .inl fun j => Int32.ofInt (m2.1 q (j : Int)))) = am_ws E m2 := by
  rw [← am_cell_int hk]
  exact am_ws_set E (am_cell_arr (by have := am_N1000; have : q < am_N := am_lay_lt (by omega); omega) h1 h2)
theorem am_ws_lng {E : am_E} {m m2 : am_M} {q : Nat} (hk : (am_lay q).1 = 103) (h1 : ∀ i, i ≠ q → m2.1 i = m.1 i) (h2 : ∀ i, i ≠ q → m2.2 i = m.2 i) : (am_ws E m).set q (am_ad E q, .inl (E.2.1 103, am_len q, .inr (.inl fun j => m2.2 q (j : Int)))) = am_ws E m2 := by
  rw [← am_cell_lng hk]
  exact am_ws_set E (am_cell_arr (by have := am_N1000; have : q < am_N := am_lay_lt (by omega); omega) h1 h2)
theorem s_iastore (C : am_Cx p l e R s mm args below meth c cells slots Q E A y d P) {q : Nat} {i v : Int} (hk : (am_lay q).1 = 100) (h0 : 0 ≤ i) (h1 : i < (am_len q : Int)) (hd : decode (am_mi y).2.1 pc = .ok (.iastore, 1)) (k : am_at p l e R s mm args below meth c cells slots Q E A y (pc + 1) lv (st) (am_wr m q i v)) : am_at p l e R s mm args below meth c cells slots Q E A y (pc) lv (.inl v :: .inl i :: .inr (.inr q) :: st) (m) := by
  obtain ⟨hx, hb, hml, hown, hts, hfr, hlo, hce, hsl, hRO, hK, hret⟩ := id C
  intro H locs ls hW hS hl hv hst
  obtain ⟨hP, -, hD, hM⟩ := id hW
  have hq : q < am_N := am_lay_lt (by omega)
  have hws := am_ws_get E m hq
  rw [am_cell_int (by omega)] at hws
  have ri : am_R i := am_vh (am_vt hst)
  have hset := am_ws_int (E := E) (m := m) (m2 := am_wr m q i v) (q := q) (by omega) (am_wr1 m q i v) (fun _ _ => rfl)
  refine va_iast hx hb hK hP hD hS q 0 hws (by rw [hk]; rfl) (am_vin ri h0 h1) hd fun H1 locs1 hP1 hD1 hS1 => ?_
  rw [am_clamp ri, am_upd_eq h0, hset] at hP1 hD1
  exact k H1 locs1 ls ⟨hP1, hW.2.1, hD1, hM.wr (by rw [am_rg0 (by have := am_N1000; omega) (by omega) (by omega)]; exact am_vh hst)⟩ hS1 hl hv (am_vt (am_vt (am_vt hst)))
theorem s_zastore (C : am_Cx p l e R s mm args below meth c cells slots Q E A y d P) {q : Nat} {i v : Int} (hk : (am_lay q).1 = 101) (h0 : 0 ≤ i) (h1 : i < (am_len q : Int)) (hz : v = 0 ∨ v = 1) (hd : decode (am_mi y).2.1 pc = .ok (.bastore, 1)) (k : am_at p l e R s mm args below meth c cells slots Q E A y (pc + 1) lv (st) (am_wr m q i v)) : am_at p l e R s mm args below meth c cells slots Q E A y (pc) lv (.inl v :: .inl i :: .inr (.inr q) :: st) (m) := by
  obtain ⟨hx, hb, hml, hown, hts, hfr, hlo, hce, hsl, hRO, hK, hret⟩ := id C
  intro H locs ls hW hS hl hv hst
  obtain ⟨hP, -, hD, hM⟩ := id hW
  have hq : q < am_N := am_lay_lt (by omega)
  have hws := am_ws_get E m hq
  rw [am_cell_int (by omega)] at hws
  have ri : am_R i := am_vh (am_vt hst)
  have hset := am_ws_int (E := E) (m := m) (m2 := am_wr m q i v) (q := q) (by omega) (am_wr1 m q i v) (fun _ _ => rfl)
  refine va_zast hx hb hK hP hD hS q 1 hws (by rw [hk]; rfl) (am_vin ri h0 h1) hd fun H1 locs1 hP1 hD1 hS1 => ?_
  rw [(am_nb v hz).2.2] at hP1 hD1
  rw [am_clamp ri, am_upd_eq h0, hset] at hP1 hD1
  exact k H1 locs1 ls ⟨hP1, hW.2.1, hD1, hM.wr (by rw [am_rg1 (by have := am_N1000; omega) hk]; exact hz)⟩ hS1 hl hv (am_vt (am_vt (am_vt hst)))
theorem s_bastore (C : am_Cx p l e R s mm args below meth c cells slots Q E A y d P) {q : Nat} {i v : Int} (hk : (am_lay q).1 = 102) (h0 : 0 ≤ i) (h1 : i < (am_len q : Int)) (hz : -128 ≤ v ∧ v ≤ 127) (hd : decode (am_mi y).2.1 pc = .ok (.bastore, 1)) (k : am_at p l e R s mm args below meth c cells slots Q E A y (pc + 1) lv (st) (am_wr m q i v)) : am_at p l e R s mm args below meth c cells slots Q E A y (pc) lv (.inl v :: .inl i :: .inr (.inr q) :: st) (m) := by
  obtain ⟨hx, hb, hml, hown, hts, hfr, hlo, hce, hsl, hRO, hK, hret⟩ := id C
  intro H locs ls hW hS hl hv hst
  obtain ⟨hP, -, hD, hM⟩ := id hW
  have hq : q < am_N := am_lay_lt (by omega)
  have hws := am_ws_get E m hq
  rw [am_cell_int (by omega)] at hws
  have ri : am_R i := am_vh (am_vt hst)
  have hset := am_ws_int (E := E) (m := m) (m2 := am_wr m q i v) (q := q) (by omega) (am_wr1 m q i v) (fun _ _ => rfl)
  refine va_bast hx hb hK hP hD hS q 2 hws (by rw [hk]; rfl) (am_vin ri h0 h1) hd fun H1 locs1 hP1 hD1 hS1 => ?_
  rw [vp_nar_byte, am_nby hz.1 hz.2] at hP1 hD1
  rw [am_clamp ri, am_upd_eq h0, hset] at hP1 hD1
  exact k H1 locs1 ls ⟨hP1, hW.2.1, hD1, hM.wr (by rw [am_rg2 (by have := am_N1000; omega) hk]; exact hz)⟩ hS1 hl hv (am_vt (am_vt (am_vt hst)))
theorem s_lastore (C : am_Cx p l e R s mm args below meth c cells slots Q E A y d P) {q : Nat} {i : Int} {v : Int64} (hk : (am_lay q).1 = 103) (h0 : 0 ≤ i) (h1 : i < (am_len q : Int)) (hd : decode (am_mi y).2.1 pc = .ok (.lastore, 1)) (k : am_at p l e R s mm args below meth c cells slots Q E A y (pc + 1) lv (st) (am_wl m q i v)) : am_at p l e R s mm args below meth c cells slots Q E A y (pc) lv (.inr (.inl v) :: .inl i :: .inr (.inr q) :: st) (m) := by
  obtain ⟨hx, hb, hml, hown, hts, hfr, hlo, hce, hsl, hRO, hK, hret⟩ := id C
  intro H locs ls hW hS hl hv hst
  obtain ⟨hP, -, hD, hM⟩ := id hW
  have hq : q < am_N := am_lay_lt (by omega)
  have hws := am_ws_get E m hq
  rw [am_cell_lng hk] at hws
  have ri : am_R i := am_vh (am_vt hst)
  have hset := am_ws_lng (E := E) (m := m) (m2 := am_wl m q i v) (q := q) hk (fun _ _ => rfl) (am_wl2 m q i v)
  refine va_last hx hb hK hP hD hS q 3 hws rfl (am_vin ri h0 h1) hd fun H1 locs1 hP1 hD1 hS1 => ?_
  rw [am_clamp ri, am_updL_eq h0, hset] at hP1 hD1
  exact k H1 locs1 ls ⟨hP1, hW.2.1, hD1, hM.wl⟩ hS1 hl hv (am_vt (am_vt (am_vt hst)))
theorem am_cpy_eq {f g : Int → Int} {sp dp n : Int} (h1 : 0 ≤ sp) (h2 : 0 ≤ dp) (h3 : 0 ≤ n) : va_cpy (fun j : Nat => Int32.ofInt (f (j : Int))) (fun j : Nat => Int32.ofInt (g (j : Int))) sp.toNat dp.toNat n.toNat = fun j : Nat => Int32.ofInt (am_cpy f g sp dp n (j : Int)) := by
  funext j
  simp only [va_cpy, am_cpy]
  by_cases hj : dp.toNat ≤ j ∧ j < dp.toNat + n.toNat
  · rw [if_pos hj, if_pos (by omega)]
    congr 2
    omega
  · rw [if_neg hj, if_neg (by omega)]
theorem am_cpyL_eq {f g : Int → Int64} {sp dp n : Int} (h1 : 0 ≤ sp) (h2 : 0 ≤ dp) (h3 : 0 ≤ n) : va_cpy (fun j : Nat => f (j : Int)) (fun j : Nat => g (j : Int)) sp.toNat dp.toNat n.toNat = fun j : Nat => am_cpy f g sp dp n (j : Int) := by
  funext j
  simp only [va_cpy, am_cpy]
  by_cases hj : dp.toNat ≤ j ∧ j < dp.toNat + n.toNat
  · rw [if_pos hj, if_pos (by omega)]
    congr 1
    omega
  · rw [if_neg hj, if_neg (by omega)]
theorem am_hnl {d : Nat} {R : Room} (hd1 : 1 ≤ d) (hlo : 64 * d ≤ R.locals) : (([] : List Value).map fun v => v.category).sum + (nativeFrameWords "java/lang/System" "arraycopy" 5 + 11) ≤ R.locals := by
  have h7 : nativeFrameWords "java/lang/System" "arraycopy" 5 = 7 := by decide
  rw [h7]
  simp
  omega
theorem am_nn {z : Int} (h : am_R z) (h0 : 0 ≤ z) : ¬ Int32.ofInt z < 0 := fun hh => by have := (am_ltI h am_R0).mp hh; omega
theorem s_copyi (C : am_Cx p l e R s mm args below meth c cells slots Q E A y d P) {a b i w : Nat} {sp dp n : Int} (hf : (i, w) ∈ am_act.getD (am_mi y).2.2.2.2 []) (hka : (am_lay a).1 = 100) (hkb : (am_lay b).1 = 100) (h1 : 0 ≤ sp) (h2 : 0 ≤ dp) (h3 : 0 ≤ n) (h4 : sp + n ≤ (am_len a : Int)) (h5 : dp + n ≤ (am_len b : Int)) (hd1 : 1 ≤ d) (hd : decode (am_mi y).2.1 pc = .ok (.invokestatic i, 3)) (k : am_at p l e R s mm args below meth c cells slots Q E A y (pc + 3) lv ([]) (am_ws1 m b (am_cpy (m.1 a) (m.1 b) sp dp n))) : am_at p l e R s mm args below meth c cells slots Q E A y (pc) lv ([.inl n, .inl dp, .inr (.inr b), .inl sp, .inr (.inr a)]) (m) := by
  obtain ⟨hx, hb, hml, hown, hts, hfr, hlo, hce, hsl, hRO, hK, hret⟩ := id C
  intro H locs ls hW hS hl hv hst
  obtain ⟨hP, -, hD, hM⟩ := id hW
  have hqa : a < am_N := am_lay_lt (by omega)
  have hqb : b < am_N := am_lay_lt (by omega)
  have hwa := am_ws_get E m hqa
  have hwb := am_ws_get E m hqb
  rw [am_cell_int (by omega), hka] at hwa
  rw [am_cell_int (by omega), hkb] at hwb
  have rn : am_R n := am_vh hst
  have rd : am_R dp := am_vh (am_vt hst)
  have rs : am_R sp := am_vh (am_vt (am_vt (am_vt hst)))
  have hset := am_ws_int (E := E) (m := m) (m2 := am_ws1 m b (am_cpy (m.1 a) (m.1 b) sp dp n)) (q := b) (by omega) (am_ws11 m b _) (fun _ _ => rfl)
  have e2 : (am_ws1 m b (am_cpy (m.1 a) (m.1 b) sp dp n)).1 b = am_cpy (m.1 a) (m.1 b) sp dp n := by simp [am_ws1]
  rw [hkb, e2] at hset
  have hnl := am_hnl hd1 hlo
  refine va_copyi hx hb (hml.trans hl.1.symm) hown (hts _ (am_alink hf)) (hts _ (am_big_of am_acw2 rfl)) (hts _ (am_big_of am_acw1 rfl)) (hts _ (am_big_of am_acw3 rfl)) hK hP hD hS a b 0 0 hwa hwb rfl rfl rfl (am_nn rs h1) (am_nn rd h2) (am_nn rn h3) (by rw [am_clamp rs, am_clamp rn]; omega) (by rw [am_clamp rd, am_clamp rn]; omega) (fun _ _ => rfl) (by omega) (rest := []) hnl hd fun H1 locs1 hP1 hD1 hS1 => ?_
  rw [am_clamp rs, am_clamp rd, am_clamp rn, am_cpy_eq h1 h2 h3, hset] at hP1 hD1
  refine k H1 locs1 ls ⟨hP1, hW.2.1, hD1, hM.ws1 (fun j => ?_)⟩ hS1 hl hv (fun _ h => by cases h)
  rw [am_rg0 (by have := am_N1000; omega) (by omega) (by omega)]
  unfold am_cpy
  split
  · exact hM.R _ _
  · exact hM.R _ _
theorem s_copyl (C : am_Cx p l e R s mm args below meth c cells slots Q E A y d P) {a b i w : Nat} {sp dp n : Int} (hf : (i, w) ∈ am_act.getD (am_mi y).2.2.2.2 []) (hka : (am_lay a).1 = 103) (hkb : (am_lay b).1 = 103) (h1 : 0 ≤ sp) (h2 : 0 ≤ dp) (h3 : 0 ≤ n) (h4 : sp + n ≤ (am_len a : Int)) (h5 : dp + n ≤ (am_len b : Int)) (hd1 : 1 ≤ d) (hd : decode (am_mi y).2.1 pc = .ok (.invokestatic i, 3)) (k : am_at p l e R s mm args below meth c cells slots Q E A y (pc + 3) lv ([]) (am_ws2 m b (am_cpy (m.2 a) (m.2 b) sp dp n))) : am_at p l e R s mm args below meth c cells slots Q E A y (pc) lv ([.inl n, .inl dp, .inr (.inr b), .inl sp, .inr (.inr a)]) (m) := by
  obtain ⟨hx, hb, hml, hown, hts, hfr, hlo, hce, hsl, hRO, hK, hret⟩ := id C
  intro H locs ls hW hS hl hv hst
  obtain ⟨hP, -, hD, hM⟩ := id hW
  have hqa : a < am_N := am_lay_lt (by omega)
  have hqb : b < am_N := am_lay_lt (by omega)
  have hwa := am_ws_get E m hqa
  have hwb := am_ws_get E m hqb
  rw [am_cell_lng hka] at hwa
  rw [am_cell_lng hkb] at hwb
  have rn : am_R n := am_vh hst
  have rd : am_R dp := am_vh (am_vt hst)
  have rs : am_R sp := am_vh (am_vt (am_vt (am_vt hst)))
  have hset := am_ws_lng (E := E) (m := m) (m2 := am_ws2 m b (am_cpy (m.2 a) (m.2 b) sp dp n)) (q := b) hkb (fun _ _ => rfl) (am_ws22 m b _)
  have e2 : (am_ws2 m b (am_cpy (m.2 a) (m.2 b) sp dp n)).2 b = am_cpy (m.2 a) (m.2 b) sp dp n := by simp [am_ws2]
  rw [e2] at hset
  have hnl := am_hnl hd1 hlo
  refine va_copyl hx hb (hml.trans hl.1.symm) hown (hts _ (am_alink hf)) (hts _ (am_big_of am_acw2 rfl)) (hts _ (am_big_of am_acw1 rfl)) (hts _ (am_big_of am_acw3 rfl)) hK hP hD hS a b 3 3 hwa hwb rfl rfl rfl (am_nn rs h1) (am_nn rd h2) (am_nn rn h3) (by rw [am_clamp rs, am_clamp rn]; omega) (by rw [am_clamp rd, am_clamp rn]; omega) (fun _ _ => rfl) (by omega) (rest := []) hnl hd fun H1 locs1 hP1 hD1 hS1 => ?_
  rw [am_clamp rs, am_clamp rd, am_clamp rn, am_cpyL_eq h1 h2 h3, hset] at hP1 hD1
  exact k H1 locs1 ls ⟨hP1, hW.2.1, hD1, hM.ws2⟩ hS1 hl hv (fun _ h => by cases h)
theorem s_copyt (C : am_Cx p l e R s mm args below meth c cells slots Q E A y d P) {b i w : Nat} {sp dp n : Int} (hf : (i, w) ∈ am_act.getD (am_mi y).2.2.2.2 []) (hkb : (am_lay b).1 = 100) (h1 : 0 ≤ sp) (h2 : 0 ≤ dp) (h3 : 0 ≤ n) (h4 : sp + n ≤ 7) (h5 : dp + n ≤ (am_len b : Int)) (hd1 : 1 ≤ d) (hd : decode (am_mi y).2.1 pc = .ok (.invokestatic i, 3)) (k : am_at p l e R s mm args below meth c cells slots Q E A y (pc + 3) lv ([]) (am_ws1 m b (am_cpy (am_tab 902) (m.1 b) sp dp n))) : am_at p l e R s mm args below meth c cells slots Q E A y (pc) lv ([.inl n, .inl dp, .inr (.inr b), .inl sp, .inr (.inr 902)]) (m) := by
  obtain ⟨hx, hb, hml, hown, hts, hfr, hlo, hce, hsl, hRO, hK, hret⟩ := id C
  intro H locs ls hW hS hl hv hst
  obtain ⟨hP, -, hD, hM⟩ := id hW
  have hqb : b < am_N := am_lay_lt (by omega)
  have hwb := am_ws_get E m hqb
  rw [am_cell_int (by omega), hkb] at hwb
  have rn : am_R n := am_vh hst
  have rd : am_R dp := am_vh (am_vt hst)
  have rs : am_R sp := am_vh (am_vt (am_vt (am_vt hst)))
  have hset := am_ws_int (E := E) (m := m) (m2 := am_ws1 m b (am_cpy (am_tab 902) (m.1 b) sp dp n)) (q := b) (by omega) (am_ws11 m b _) (fun _ _ => rfl)
  have e2 : (am_ws1 m b (am_cpy (am_tab 902) (m.1 b) sp dp n)).1 b = am_cpy (am_tab 902) (m.1 b) sp dp n := by simp [am_ws1]
  rw [hkb, e2] at hset
  have hnl := am_hnl hd1 hlo
  have hml2 : c.maxLocals = ls.size := hml.trans hl.1.symm
  have nn : ∀ {z : Int}, am_R z → 0 ≤ z → (Int32.ofInt z).toInt = ((Int32.ofInt z).toNatClampNeg : Int) := fun {z} h h0 => by rw [am_to h, am_clamp h, am_toN h0]
  intro T hT X
  obtain ⟨scr, hs1, hs2, hs3, hs4, -, hs5, hs7⟩ := hRO.2.2.1.2
  have hc0 : H[am_ad E 902]? = some scr := by rw [hS.2.1 _ (Array.getElem?_eq_some_iff.mp hs1).1 hs7]; exact hs1
  have hc1 : H[am_ad E b]? = some (vp_cell (E.2.1 100) (am_len b, .inl fun j : Nat => Int32.ofInt (m.1 b (j : Int)))) := hP b _ hwb
  obtain ⟨hs6, k0, hk0, cm0, hkk0⟩ := hs2
  obtain ⟨-, k1, hk1, cm1, hkk1⟩ := (hK.2 0 (E.2.1 100, .int) rfl).1 (am_len b) (fun j => .int (Int32.ofInt (m.1 b (j : Int))))
  have i4 : (Int32.ofInt sp).toNatClampNeg + (Int32.ofInt n).toNatClampNeg ≤ 7 := by rw [am_clamp rs, am_clamp rn]; omega
  have i5 : (Int32.ofInt dp).toNatClampNeg + (Int32.ofInt n).toNatClampNeg ≤ am_len b := by rw [am_clamp rd, am_clamp rn]; omega
  obtain ⟨vm', X', step⟩ := X.arraycopy hx hown (hts _ (am_alink hf)) (hts _ (am_big_of am_acw2 rfl)) (hts _ (am_big_of am_acw1 rfl)) (hts _ (am_big_of am_acw3 rfl)) (src := am_ad E 902) (dst := am_ad E b) (cs := scr) (cd := vp_cell (E.2.1 100) (am_len b, .inl fun j : Nat => Int32.ofInt (m.1 b (j : Int)))) (srcPos := Int32.ofInt sp) (destPos := Int32.ofInt dp) (n := Int32.ofInt n) (by rw [hT]; exact hc0) (by rw [hT]; exact hc1)
    hs6 (fun _ h => by cases h) hs3 (fun h => by cases h) hk0 hk1 hkk0 hkk1 (by simp [refKind]) (am_nn rs h1) (am_nn rd h2) (am_nn rn h3)
    (by rw [nn rs h1, nn rn h3]; omega)
    (by rw [nn rd h2, nn rn h3]; show ¬ _ > ((arrV (E.2.1 100) (am_len b) (fun j => .int (Int32.ofInt (m.1 b (j : Int))))).slots.size : Int); rw [arrV_size]; omega)
    (fun vm₁ _ i hi => by
      have e : scr.slots.getD ((Int32.ofInt sp).toNatClampNeg + i) .null = .int (Int32.ofInt (am_tab 902 (((Int32.ofInt sp).toNatClampNeg + i : Nat) : Int))) := by
        rw [Array.getD_eq_getD_getElem?, hs5 _ (by omega)]
        rfl
      refine ⟨?_, ?_⟩
      · rw [e]
        rfl
      · rw [e]
        exact trivial)
    (g := F0 mm pc ls [.int (Int32.ofInt n), .int (Int32.ofInt dp), .ref (am_ad E b), .int (Int32.ofInt sp), .ref (am_ad E 902)]) rfl (by rw [hml2]) (rest := []) rfl (by rw [hb]; exact hd) (by omega) (by show 2 * 0 + _ + _ ≤ _; omega)
  have e1 : copied scr (vp_cell (E.2.1 100) (am_len b, .inl fun j : Nat => Int32.ofInt (m.1 b (j : Int)))) (Int32.ofInt sp) (Int32.ofInt dp) (Int32.ofInt n) = vp_cell (E.2.1 100) (am_len b, .inl (va_cpy (fun j : Nat => Int32.ofInt (am_tab 902 (j : Int))) (fun j : Nat => Int32.ofInt (m.1 b (j : Int))) (Int32.ofInt sp).toNatClampNeg (Int32.ofInt dp).toNatClampNeg (Int32.ofInt n).toNatClampNeg)) := va_copiedX (fun z => .int z) scr (E.2.1 100) (fun j : Nat => Int32.ofInt (am_tab 902 (j : Int))) (fun j : Nat => Int32.ofInt (m.1 b (j : Int))) hs5 i4
  rw [e1, am_clamp rs, am_clamp rd, am_clamp rn, am_cpy_eq h1 h2 h3] at X' step
  have hlb : am_ad E b < H.size := (Array.getElem?_eq_some_iff.mp hc1).1
  have oq : ∀ (x : Cell) (q : Nat), q ≠ am_ad E b → (H.setIfInBounds (am_ad E b) x)[q]? = H[q]? := fun x q hq => by simp [Array.getElem?_setIfInBounds, Ne.symm hq]
  have hAb : A (am_ad E b) := hD.2 b _ hwb
  have hP1 := hP.set hD hwb (e := .inl (E.2.1 100, am_len b, .inl fun j : Nat => Int32.ofInt (am_cpy (am_tab 902) (m.1 b) sp dp n (j : Int)))) (H1 := H.setIfInBounds (am_ad E b) (vp_cell (E.2.1 100) (am_len b, .inl fun j : Nat => Int32.ofInt (am_cpy (am_tab 902) (m.1 b) sp dp n (j : Int))))) (show (H.setIfInBounds (am_ad E b) _)[am_ad E b]? = some _ by simp [Array.getElem?_setIfInBounds, hlb]) (oq _)
  have hD1 := hD.set (e := .inl (E.2.1 100, am_len b, .inl fun j : Nat => Int32.ofInt (am_cpy (am_tab 902) (m.1 b) sp dp n (j : Int)))) hwb
  rw [hset] at hP1 hD1
  have hMR : am_MR (am_ws1 m b (am_cpy (am_tab 902) (m.1 b) sp dp n)) := hM.ws1 (fun j => by
    rw [am_rg0 (by have := am_N1000; omega) (by omega) (by omega)]
    unfold am_cpy
    split
    · have key : ∀ j : Nat, j < 7 → am_untT.getD j 0 ≤ 999999999 ∧ 0 ≤ am_untT.getD j 0 := by decide
      rename_i hj
      have := key (sp + (j - dp)).toNat (by omega)
      show am_R (am_untT.getD (sp + (j - dp)).toNat 0)
      unfold am_R
      omega
    · exact hM.R _ _)
  obtain ⟨t, a1, b1⟩ := k _ _ ls ⟨hP1, hW.2.1, hD1, hMR⟩ ⟨by simp; exact hS.1, fun q g1 g2 => by
      rw [oq _ q (fun e => g2 (by rw [e]; exact hAb))]
      exact hS.2.1 q g1 g2, fun q hq => by
      rcases List.mem_append.mp hq with h | h
      · exact hS.2.2 q h
      · obtain ⟨z, -, hz⟩ := List.mem_map.mp h
        rw [← hz]
        exact hAb⟩ hl hv (fun _ h => by cases h) _ (by rw [← hT]; rfl) X'
  exact ⟨t, step t a1, b1⟩
end
end
section
set_option maxRecDepth 20000 in
theorem cw_0 : lw_tbl[678]? = some (Cond.code mi_Acts_forget.1 mi_Acts_forget.2.1 mi_Acts_forget.2.2.1 mi_Acts_forget.2.2.2.1) := rfl
set_option maxRecDepth 20000 in
theorem cw_1 : lw_tbl[699]? = some (Cond.code mi_Acts_note.1 mi_Acts_note.2.1 mi_Acts_note.2.2.1 mi_Acts_note.2.2.2.1) := rfl
set_option maxRecDepth 20000 in
theorem cw_2 : lw_tbl[1033]? = some (Cond.code mi_Acts_undoLatest.1 mi_Acts_undoLatest.2.1 mi_Acts_undoLatest.2.2.1 mi_Acts_undoLatest.2.2.2.1) := rfl
set_option maxRecDepth 20000 in
theorem cw_3 : lw_tbl[892]? = some (Cond.code mi_Basis_independent.1 mi_Basis_independent.2.1 mi_Basis_independent.2.2.1 mi_Basis_independent.2.2.2.1) := rfl
set_option maxRecDepth 20000 in
theorem cw_4 : lw_tbl[896]? = some (Cond.code mi_Basis_join.1 mi_Basis_join.2.1 mi_Basis_join.2.2.1 mi_Basis_join.2.2.2.1) := rfl
set_option maxRecDepth 20000 in
theorem cw_5 : lw_tbl[522]? = some (Cond.code mi_Given_reset.1 mi_Given_reset.2.1 mi_Given_reset.2.2.1 mi_Given_reset.2.2.2.1) := rfl
set_option maxRecDepth 20000 in
theorem cw_6 : lw_tbl[674]? = some (Cond.code mi_Given_copy.1 mi_Given_copy.2.1 mi_Given_copy.2.2.1 mi_Given_copy.2.2.2.1) := rfl
set_option maxRecDepth 20000 in
theorem cw_7 : lw_tbl[686]? = some (Cond.code mi_Given_has.1 mi_Given_has.2.1 mi_Given_has.2.2.1 mi_Given_has.2.2.2.1) := rfl
set_option maxRecDepth 20000 in
theorem cw_8 : lw_tbl[660]? = some (Cond.code mi_Given_find.1 mi_Given_find.2.1 mi_Given_find.2.2.1 mi_Given_find.2.2.2.1) := rfl
set_option maxRecDepth 20000 in
theorem cw_9 : lw_tbl[670]? = some (Cond.code mi_Given_insert.1 mi_Given_insert.2.1 mi_Given_insert.2.2.1 mi_Given_insert.2.2.2.1) := rfl
set_option maxRecDepth 20000 in
theorem cw_10 : lw_tbl[711]? = some (Cond.code mi_Given_drop.1 mi_Given_drop.2.1 mi_Given_drop.2.2.1 mi_Given_drop.2.2.2.1) := rfl
set_option maxRecDepth 20000 in
theorem cw_11 : lw_tbl[720]? = some (Cond.code mi_Given_revalue.1 mi_Given_revalue.2.1 mi_Given_revalue.2.2.1 mi_Given_revalue.2.2.2.1) := rfl
set_option maxRecDepth 20000 in
theorem cw_12 : lw_tbl[646]? = some (Cond.code mi_Given_resettle.1 mi_Given_resettle.2.1 mi_Given_resettle.2.2.1 mi_Given_resettle.2.2.2.1) := rfl
set_option maxRecDepth 20000 in
theorem cw_13 : lw_tbl[694]? = some (Cond.code mi_Given_canBeValue.1 mi_Given_canBeValue.2.1 mi_Given_canBeValue.2.2.1 mi_Given_canBeValue.2.2.2.1) := rfl
set_option maxRecDepth 20000 in
theorem cw_14 : lw_tbl[729]? = some (Cond.code mi_Given_fitsBits.1 mi_Given_fitsBits.2.1 mi_Given_fitsBits.2.2.1 mi_Given_fitsBits.2.2.2.1) := rfl
set_option maxRecDepth 20000 in
theorem cw_15 : lw_tbl[649]? = some (Cond.code mi_Given_canBeSetting.1 mi_Given_canBeSetting.2.1 mi_Given_canBeSetting.2.2.1 mi_Given_canBeSetting.2.2.2.1) := rfl
set_option maxRecDepth 20000 in
theorem cw_16 : lw_tbl[737]? = some (Cond.code mi_Marks_mix.1 mi_Marks_mix.2.1 mi_Marks_mix.2.2.1 mi_Marks_mix.2.2.2.1) := rfl
set_option maxRecDepth 20000 in
theorem cw_17 : lw_tbl[751]? = some (Cond.code mi_Marks_aim.1 mi_Marks_aim.2.1 mi_Marks_aim.2.2.1 mi_Marks_aim.2.2.2.1) := rfl
set_option maxRecDepth 20000 in
theorem cw_18 : lw_tbl[756]? = some (Cond.code mi_Marks_look.1 mi_Marks_look.2.1 mi_Marks_look.2.2.1 mi_Marks_look.2.2.2.1) := rfl
set_option maxRecDepth 20000 in
theorem cw_19 : lw_tbl[760]? = some (Cond.code mi_Marks_placeApart.1 mi_Marks_placeApart.2.1 mi_Marks_placeApart.2.2.1 mi_Marks_placeApart.2.2.2.1) := rfl
set_option maxRecDepth 20000 in
theorem cw_20 : lw_tbl[768]? = some (Cond.code mi_Marks_placeClose.1 mi_Marks_placeClose.2.1 mi_Marks_placeClose.2.2.1 mi_Marks_placeClose.2.2.2.1) := rfl
set_option maxRecDepth 20000 in
theorem cw_21 : lw_tbl[772]? = some (Cond.code mi_Marks_placeFree.1 mi_Marks_placeFree.2.1 mi_Marks_placeFree.2.2.1 mi_Marks_placeFree.2.2.2.1) := rfl
set_option maxRecDepth 20000 in
theorem cw_22 : lw_tbl[763]? = some (Cond.code mi_Marks_share.1 mi_Marks_share.2.1 mi_Marks_share.2.2.1 mi_Marks_share.2.2.2.1) := rfl
set_option maxRecDepth 20000 in
theorem cw_23 : lw_tbl[776]? = some (Cond.code mi_Marks_gatherTouched.1 mi_Marks_gatherTouched.2.1 mi_Marks_gatherTouched.2.2.1 mi_Marks_gatherTouched.2.2.2.1) := rfl
set_option maxRecDepth 20000 in
theorem cw_24 : lw_tbl[780]? = some (Cond.code mi_Marks_touchOnly.1 mi_Marks_touchOnly.2.1 mi_Marks_touchOnly.2.2.1 mi_Marks_touchOnly.2.2.2.1) := rfl
set_option maxRecDepth 20000 in
theorem cw_25 : lw_tbl[995]? = some (Cond.code mi_Marks_sum.1 mi_Marks_sum.2.1 mi_Marks_sum.2.2.1 mi_Marks_sum.2.2.2.1) := rfl
set_option maxRecDepth 20000 in
theorem cw_26 : lw_tbl[904]? = some (Cond.code mi_Mender_search.1 mi_Mender_search.2.1 mi_Mender_search.2.2.1 mi_Mender_search.2.2.2.1) := rfl
set_option maxRecDepth 20000 in
theorem cw_27 : lw_tbl[908]? = some (Cond.code mi_Mender_choose.1 mi_Mender_choose.2.1 mi_Mender_choose.2.2.1 mi_Mender_choose.2.2.2.1) := rfl
set_option maxRecDepth 20000 in
theorem cw_28 : lw_tbl[916]? = some (Cond.code mi_Mender_leaveOut.1 mi_Mender_leaveOut.2.1 mi_Mender_leaveOut.2.2.1 mi_Mender_leaveOut.2.2.2.1) := rfl
set_option maxRecDepth 20000 in
theorem cw_29 : lw_tbl[920]? = some (Cond.code mi_Mender_take.1 mi_Mender_take.2.1 mi_Mender_take.2.2.1 mi_Mender_take.2.2.2.1) := rfl
set_option maxRecDepth 20000 in
theorem cw_30 : lw_tbl[926]? = some (Cond.code mi_Mender_bringBack.1 mi_Mender_bringBack.2.1 mi_Mender_bringBack.2.2.1 mi_Mender_bringBack.2.2.2.1) := rfl
set_option maxRecDepth 20000 in
theorem cw_31 : lw_tbl[829]? = some (Cond.code mi_Peeling_run.1 mi_Peeling_run.2.1 mi_Peeling_run.2.2.1 mi_Peeling_run.2.2.2.1) := rfl
set_option maxRecDepth 20000 in
theorem cw_32 : lw_tbl[849]? = some (Cond.code mi_Peeling_runLine.1 mi_Peeling_runLine.2.1 mi_Peeling_runLine.2.2.1 mi_Peeling_runLine.2.2.2.1) := rfl
set_option maxRecDepth 20000 in
theorem cw_33 : lw_tbl[853]? = some (Cond.code mi_Peeling_lineUp.1 mi_Peeling_lineUp.2.1 mi_Peeling_lineUp.2.2.1 mi_Peeling_lineUp.2.2.2.1) := rfl
set_option maxRecDepth 20000 in
theorem cw_34 : lw_tbl[857]? = some (Cond.code mi_Peeling_leaveLine.1 mi_Peeling_leaveLine.2.1 mi_Peeling_leaveLine.2.2.1 mi_Peeling_leaveLine.2.2.2.1) := rfl
set_option maxRecDepth 20000 in
theorem cw_35 : lw_tbl[833]? = some (Cond.code mi_Peeling_runLeast.1 mi_Peeling_runLeast.2.1 mi_Peeling_runLeast.2.2.1 mi_Peeling_runLeast.2.2.2.1) := rfl
set_option maxRecDepth 20000 in
theorem cw_36 : lw_tbl[841]? = some (Cond.code mi_Peeling_goOut.1 mi_Peeling_goOut.2.1 mi_Peeling_goOut.2.2.1 mi_Peeling_goOut.2.2.2.1) := rfl
set_option maxRecDepth 20000 in
theorem cw_37 : lw_tbl[952]? = some (Cond.code mi_Peeling_fillBack.1 mi_Peeling_fillBack.2.1 mi_Peeling_fillBack.2.2.1 mi_Peeling_fillBack.2.2.2.1) := rfl
set_option maxRecDepth 20000 in
theorem cw_38 : lw_tbl[947]? = some (Cond.code mi_Peeling_countWoken.1 mi_Peeling_countWoken.2.1 mi_Peeling_countWoken.2.2.1 mi_Peeling_countWoken.2.2.2.1) := rfl
set_option maxRecDepth 20000 in
theorem cw_39 : lw_tbl[518]? = some (Cond.code mi_Reader_read.1 mi_Reader_read.2.1 mi_Reader_read.2.2.1 mi_Reader_read.2.2.2.1) := rfl
set_option maxRecDepth 20000 in
theorem cw_40 : lw_tbl[551]? = some (Cond.code mi_Reader_readSetting.1 mi_Reader_readSetting.2.1 mi_Reader_readSetting.2.2.1 mi_Reader_readSetting.2.2.2.1) := rfl
set_option maxRecDepth 20000 in
theorem cw_41 : lw_tbl[655]? = some (Cond.code mi_Reader_readKey.1 mi_Reader_readKey.2.1 mi_Reader_readKey.2.2.1 mi_Reader_readKey.2.2.2.1) := rfl
set_option maxRecDepth 20000 in
theorem cw_42 : lw_tbl[665]? = some (Cond.code mi_Reader_takeValue.1 mi_Reader_takeValue.2.1 mi_Reader_takeValue.2.2.1 mi_Reader_takeValue.2.2.2.1) := rfl
set_option maxRecDepth 20000 in
theorem cw_43 : lw_tbl[621]? = some (Cond.code mi_Reader_takeNumber.1 mi_Reader_takeNumber.2.1 mi_Reader_takeNumber.2.2.1 mi_Reader_takeNumber.2.2.2.1) := rfl
set_option maxRecDepth 20000 in
theorem cw_44 : lw_tbl[629]? = some (Cond.code mi_Reader_takeChoice.1 mi_Reader_takeChoice.2.1 mi_Reader_takeChoice.2.2.1 mi_Reader_takeChoice.2.2.2.1) := rfl
set_option maxRecDepth 20000 in
theorem cw_45 : lw_tbl[642]? = some (Cond.code mi_Reader_passStop.1 mi_Reader_passStop.2.1 mi_Reader_passStop.2.2.1 mi_Reader_passStop.2.2.2.1) := rfl
set_option maxRecDepth 20000 in
theorem cw_46 : lw_tbl[625]? = some (Cond.code mi_Reader_fail.1 mi_Reader_fail.2.1 mi_Reader_fail.2.2.1 mi_Reader_fail.2.2.2.1) := rfl
set_option maxRecDepth 20000 in
theorem cw_47 : lw_tbl[554]? = some (Cond.code mi_Reader_nameOf.1 mi_Reader_nameOf.2.1 mi_Reader_nameOf.2.2.1 mi_Reader_nameOf.2.2.2.1) := rfl
set_option maxRecDepth 20000 in
theorem cw_48 : lw_tbl[632]? = some (Cond.code mi_Reader_choiceOf.1 mi_Reader_choiceOf.2.1 mi_Reader_choiceOf.2.2.1 mi_Reader_choiceOf.2.2.2.1) := rfl
set_option maxRecDepth 20000 in
theorem cw_49 : lw_tbl[873]? = some (Cond.code mi_Rounds_run.1 mi_Rounds_run.2.1 mi_Rounds_run.2.2.1 mi_Rounds_run.2.2.2.1) := rfl
set_option maxRecDepth 20000 in
theorem cw_50 : lw_tbl[878]? = some (Cond.code mi_Rounds_mark.1 mi_Rounds_mark.2.1 mi_Rounds_mark.2.2.1 mi_Rounds_mark.2.2.2.1) := rfl
set_option maxRecDepth 20000 in
theorem cw_51 : lw_tbl[883]? = some (Cond.code mi_Rounds_takeMarked.1 mi_Rounds_takeMarked.2.1 mi_Rounds_takeMarked.2.2.1 mi_Rounds_takeMarked.2.2.2.1) := rfl
set_option maxRecDepth 20000 in
theorem cw_52 : lw_tbl[800]? = some (Cond.code mi_Row_lay.1 mi_Row_lay.2.1 mi_Row_lay.2.2.1 mi_Row_lay.2.2.2.1) := rfl
set_option maxRecDepth 20000 in
theorem cw_53 : lw_tbl[809]? = some (Cond.code mi_Row_putBack.1 mi_Row_putBack.2.1 mi_Row_putBack.2.2.1 mi_Row_putBack.2.2.2.1) := rfl
set_option maxRecDepth 20000 in
theorem cw_54 : lw_tbl[845]? = some (Cond.code mi_Row_takeOff.1 mi_Row_takeOff.2.1 mi_Row_takeOff.2.2.1 mi_Row_takeOff.2.2.2.1) := rfl
set_option maxRecDepth 20000 in
theorem cw_55 : lw_tbl[837]? = some (Cond.code mi_Row_isAlone.1 mi_Row_isAlone.2.1 mi_Row_isAlone.2.2.1 mi_Row_isAlone.2.2.2.1) := rfl
set_option maxRecDepth 20000 in
theorem cw_56 : lw_tbl[912]? = some (Cond.code mi_Row_countTouched.1 mi_Row_countTouched.2.1 mi_Row_countTouched.2.2.1 mi_Row_countTouched.2.2.2.1) := rfl
set_option maxRecDepth 20000 in
theorem cw_57 : lw_tbl[865]? = some (Cond.code mi_Row_leftAt.1 mi_Row_leftAt.2.1 mi_Row_leftAt.2.2.1 mi_Row_leftAt.2.2.2.1) := rfl
set_option maxRecDepth 20000 in
theorem cw_58 : lw_tbl[817]? = some (Cond.code mi_Row_touchSame.1 mi_Row_touchSame.2.1 mi_Row_touchSame.2.2.1 mi_Row_touchSame.2.2.2.1) := rfl
set_option maxRecDepth 20000 in
theorem cw_59 : lw_tbl[960]? = some (Cond.code mi_Sieve_describe.1 mi_Sieve_describe.2.1 mi_Sieve_describe.2.2.1 mi_Sieve_describe.2.2.2.1) := rfl
set_option maxRecDepth 20000 in
theorem cw_60 : lw_tbl[1016]? = some (Cond.code mi_Sieve_copy.1 mi_Sieve_copy.2.1 mi_Sieve_copy.2.2.1 mi_Sieve_copy.2.2.2.1) := rfl
set_option maxRecDepth 20000 in
theorem cw_61 : lw_tbl[973]? = some (Cond.code mi_Sieve_length.1 mi_Sieve_length.2.1 mi_Sieve_length.2.2.1 mi_Sieve_length.2.2.2.1) := rfl
set_option maxRecDepth 20000 in
theorem cw_62 : lw_tbl[969]? = some (Cond.code mi_Sieve_countBits.1 mi_Sieve_countBits.2.1 mi_Sieve_countBits.2.2.1 mi_Sieve_countBits.2.2.2.1) := rfl
set_option maxRecDepth 20000 in
theorem cw_63 : lw_tbl[986]? = some (Cond.code mi_Sieve_aim.1 mi_Sieve_aim.2.1 mi_Sieve_aim.2.2.1 mi_Sieve_aim.2.2.2.1) := rfl
set_option maxRecDepth 20000 in
theorem cw_64 : lw_tbl[991]? = some (Cond.code mi_Sieve_letsThrough.1 mi_Sieve_letsThrough.2.1 mi_Sieve_letsThrough.2.2.1 mi_Sieve_letsThrough.2.2.2.1) := rfl
set_option maxRecDepth 20000 in
theorem cw_65 : lw_tbl[1025]? = some (Cond.code mi_Sieve_countUnlike.1 mi_Sieve_countUnlike.2.1 mi_Sieve_countUnlike.2.2.1 mi_Sieve_countUnlike.2.2.2.1) := rfl
set_option maxRecDepth 20000 in
theorem cw_66 : lw_tbl[506]? = some (Cond.code mi_Tape_append.1 mi_Tape_append.2.1 mi_Tape_append.2.2.1 mi_Tape_append.2.2.2.1) := rfl
set_option maxRecDepth 20000 in
theorem cw_67 : lw_tbl[529]? = some (Cond.code mi_Tape_rewind.1 mi_Tape_rewind.2.1 mi_Tape_rewind.2.2.1 mi_Tape_rewind.2.2.2.1) := rfl
set_option maxRecDepth 20000 in
theorem cw_68 : lw_tbl[533]? = some (Cond.code mi_Tape_step.1 mi_Tape_step.2.1 mi_Tape_step.2.2.1 mi_Tape_step.2.2.2.1) := rfl
set_option maxRecDepth 20000 in
theorem cw_69 : lw_tbl[540]? = some (Cond.code mi_Tape_takeWord.1 mi_Tape_takeWord.2.1 mi_Tape_takeWord.2.2.1 mi_Tape_takeWord.2.2.2.1) := rfl
set_option maxRecDepth 20000 in
theorem cw_70 : lw_tbl[547]? = some (Cond.code mi_Tape_takeNumber.1 mi_Tape_takeNumber.2.1 mi_Tape_takeNumber.2.2.1 mi_Tape_takeNumber.2.2.2.1) := rfl
set_option maxRecDepth 20000 in
theorem cw_71 : lw_tbl[564]? = some (Cond.code mi_Tape_isWord.1 mi_Tape_isWord.2.1 mi_Tape_isWord.2.2.1 mi_Tape_isWord.2.2.2.1) := rfl
set_option maxRecDepth 20000 in
theorem cw_72 : lw_tbl[536]? = some (Cond.code mi_Tape_isLetter.1 mi_Tape_isLetter.2.1 mi_Tape_isLetter.2.2.1 mi_Tape_isLetter.2.2.2.1) := rfl
set_option maxRecDepth 20000 in
theorem cw_73 : lw_tbl[543]? = some (Cond.code mi_Tape_isDigit.1 mi_Tape_isDigit.2.1 mi_Tape_isDigit.2.2.1 mi_Tape_isDigit.2.2.2.1) := rfl
set_option maxRecDepth 20000 in
theorem cw_74 : lw_tbl[502]? = some (Cond.code mi_T_feed.1 mi_T_feed.2.1 mi_T_feed.2.2.1 mi_T_feed.2.2.2.1) := rfl
set_option maxRecDepth 20000 in
theorem cw_75 : lw_tbl[510]? = some (Cond.code mi_T_end.1 mi_T_end.2.1 mi_T_end.2.2.1 mi_T_end.2.2.2.1) := rfl
set_option maxRecDepth 20000 in
theorem cw_76 : lw_tbl[514]? = some (Cond.code mi_T_text.1 mi_T_text.2.1 mi_T_text.2.2.1 mi_T_text.2.2.2.1) := rfl
set_option maxRecDepth 20000 in
theorem cw_77 : lw_tbl[1050]? = some (Cond.code mi_T_key.1 mi_T_key.2.1 mi_T_key.2.2.1 mi_T_key.2.2.2.1) := rfl
set_option maxRecDepth 20000 in
theorem cw_78 : lw_tbl[682]? = some (Cond.code mi_T_worth.1 mi_T_worth.2.1 mi_T_worth.2.2.1 mi_T_worth.2.2.2.1) := rfl
set_option maxRecDepth 20000 in
theorem cw_79 : lw_tbl[690]? = some (Cond.code mi_T_add.1 mi_T_add.2.1 mi_T_add.2.2.1 mi_T_add.2.2.2.1) := rfl
set_option maxRecDepth 20000 in
theorem cw_80 : lw_tbl[707]? = some (Cond.code mi_T_gone.1 mi_T_gone.2.1 mi_T_gone.2.2.1 mi_T_gone.2.2.2.1) := rfl
set_option maxRecDepth 20000 in
theorem cw_81 : lw_tbl[716]? = some (Cond.code mi_T_turn.1 mi_T_turn.2.1 mi_T_turn.2.2.1 mi_T_turn.2.2.2.1) := rfl
set_option maxRecDepth 20000 in
theorem cw_82 : lw_tbl[724]? = some (Cond.code mi_T_set.1 mi_T_set.2.1 mi_T_set.2.2.1 mi_T_set.2.2.2.1) := rfl
set_option maxRecDepth 20000 in
theorem cw_83 : lw_tbl[734]? = some (Cond.code mi_T_hash.1 mi_T_hash.2.1 mi_T_hash.2.2.1 mi_T_hash.2.2.2.1) := rfl
set_option maxRecDepth 20000 in
theorem cw_84 : lw_tbl[743]? = some (Cond.code mi_T_cell.1 mi_T_cell.2.1 mi_T_cell.2.2.1 mi_T_cell.2.2.2.1) := rfl
set_option maxRecDepth 20000 in
theorem cw_85 : lw_tbl[788]? = some (Cond.code mi_T_print.1 mi_T_print.2.1 mi_T_print.2.2.1 mi_T_print.2.2.2.1) := rfl
set_option maxRecDepth 20000 in
theorem cw_86 : lw_tbl[792]? = some (Cond.code mi_T_load.1 mi_T_load.2.1 mi_T_load.2.2.1 mi_T_load.2.2.2.1) := rfl
set_option maxRecDepth 20000 in
theorem cw_87 : lw_tbl[813]? = some (Cond.code mi_T_twins.1 mi_T_twins.2.1 mi_T_twins.2.2.1 mi_T_twins.2.2.2.1) := rfl
set_option maxRecDepth 20000 in
theorem cw_88 : lw_tbl[821]? = some (Cond.code mi_T_peel.1 mi_T_peel.2.1 mi_T_peel.2.2.1 mi_T_peel.2.2.2.1) := rfl
set_option maxRecDepth 20000 in
theorem cw_89 : lw_tbl[861]? = some (Cond.code mi_T_core.1 mi_T_core.2.1 mi_T_core.2.2.1 mi_T_core.2.2.2.1) := rfl
set_option maxRecDepth 20000 in
theorem cw_90 : lw_tbl[869]? = some (Cond.code mi_T_level.1 mi_T_level.2.1 mi_T_level.2.2.1 mi_T_level.2.2.2.1) := rfl
set_option maxRecDepth 20000 in
theorem cw_91 : lw_tbl[888]? = some (Cond.code mi_T_rank.1 mi_T_rank.2.1 mi_T_rank.2.2.1 mi_T_rank.2.2.2.1) := rfl
set_option maxRecDepth 20000 in
theorem cw_92 : lw_tbl[900]? = some (Cond.code mi_T_mend.1 mi_T_mend.2.1 mi_T_mend.2.2.1 mi_T_mend.2.2.2.1) := rfl
set_option maxRecDepth 20000 in
theorem cw_93 : lw_tbl[931]? = some (Cond.code mi_T_tight.1 mi_T_tight.2.1 mi_T_tight.2.2.1 mi_T_tight.2.2.2.1) := rfl
set_option maxRecDepth 20000 in
theorem cw_94 : lw_tbl[939]? = some (Cond.code mi_T_peels.1 mi_T_peels.2.1 mi_T_peels.2.2.1 mi_T_peels.2.2.2.1) := rfl
set_option maxRecDepth 20000 in
theorem cw_95 : lw_tbl[943]? = some (Cond.code mi_T_wake.1 mi_T_wake.2.1 mi_T_wake.2.2.1 mi_T_wake.2.2.2.1) := rfl
set_option maxRecDepth 20000 in
theorem cw_96 : lw_tbl[956]? = some (Cond.code mi_T_build.1 mi_T_build.2.1 mi_T_build.2.2.1 mi_T_build.2.2.2.1) := rfl
set_option maxRecDepth 20000 in
theorem cw_97 : lw_tbl[965]? = some (Cond.code mi_T_built.1 mi_T_built.2.1 mi_T_built.2.2.1 mi_T_built.2.2.2.1) := rfl
set_option maxRecDepth 20000 in
theorem cw_98 : lw_tbl[977]? = some (Cond.code mi_T_filled.1 mi_T_filled.2.1 mi_T_filled.2.2.1 mi_T_filled.2.2.2.1) := rfl
set_option maxRecDepth 20000 in
theorem cw_99 : lw_tbl[982]? = some (Cond.code mi_T_passes.1 mi_T_passes.2.1 mi_T_passes.2.2.1 mi_T_passes.2.2.2.1) := rfl
set_option maxRecDepth 20000 in
theorem cw_100 : lw_tbl[999]? = some (Cond.code mi_T_told.1 mi_T_told.2.1 mi_T_told.2.2.1 mi_T_told.2.2.2.1) := rfl
set_option maxRecDepth 20000 in
theorem cw_101 : lw_tbl[1004]? = some (Cond.code mi_T_right.1 mi_T_right.2.1 mi_T_right.2.2.1 mi_T_right.2.2.2.1) := rfl
set_option maxRecDepth 20000 in
theorem cw_102 : lw_tbl[1008]? = some (Cond.code mi_T_strangers.1 mi_T_strangers.2.1 mi_T_strangers.2.2.1 mi_T_strangers.2.2.2.1) := rfl
set_option maxRecDepth 20000 in
theorem cw_103 : lw_tbl[1012]? = some (Cond.code mi_T_shelf.1 mi_T_shelf.2.1 mi_T_shelf.2.2.1 mi_T_shelf.2.2.2.1) := rfl
set_option maxRecDepth 20000 in
theorem cw_104 : lw_tbl[1021]? = some (Cond.code mi_T_unlike.1 mi_T_unlike.2.1 mi_T_unlike.2.2.1 mi_T_unlike.2.2.2.1) := rfl
set_option maxRecDepth 20000 in
theorem cw_105 : lw_tbl[1029]? = some (Cond.code mi_T_undo.1 mi_T_undo.2.1 mi_T_undo.2.2.1 mi_T_undo.2.2.2.1) := rfl
set_option maxRecDepth 20000 in
theorem cw_106 : lw_tbl[1041]? = some (Cond.code mi_T_count.1 mi_T_count.2.1 mi_T_count.2.2.1 mi_T_count.2.2.2.1) := rfl
set_option maxRecDepth 20000 in
theorem cw_107 : lw_tbl[747]? = some (Cond.code mi_T_lookNow.1 mi_T_lookNow.2.1 mi_T_lookNow.2.2.1 mi_T_lookNow.2.2.2.1) := rfl
set_option maxRecDepth 20000 in
theorem cw_108 : lw_tbl[796]? = some (Cond.code mi_T_layNow.1 mi_T_layNow.2.1 mi_T_layNow.2.2.1 mi_T_layNow.2.2.2.1) := rfl
set_option maxRecDepth 20000 in
theorem cw_109 : lw_tbl[825]? = some (Cond.code mi_T_peelNow.1 mi_T_peelNow.2.1 mi_T_peelNow.2.2.1 mi_T_peelNow.2.2.2.1) := rfl
set_option maxRecDepth 20000 in
theorem cw_110 : lw_tbl[935]? = some (Cond.code mi_T_allPeel.1 mi_T_allPeel.2.1 mi_T_allPeel.2.2.1 mi_T_allPeel.2.2.2.1) := rfl
set_option maxRecDepth 20000 in
theorem cw_111 : lw_tbl[1115]? = some (Cond.code mi_M_thrown.1 mi_M_thrown.2.1 mi_M_thrown.2.2.1 mi_M_thrown.2.2.2.1) := rfl
set_option maxRecDepth 20000 in
theorem cw_112 : lw_tbl[1379]? = some (Cond.code mi_M_refuse.1 mi_M_refuse.2.1 mi_M_refuse.2.2.1 mi_M_refuse.2.2.2.1) := rfl
set_option maxRecDepth 20000 in
theorem cw_113 : lw_tbl[1354]? = some (Cond.code mi_M_isIn.1 mi_M_isIn.2.1 mi_M_isIn.2.2.1 mi_M_isIn.2.2.2.1) := rfl
set_option maxRecDepth 20000 in
theorem cw_114 : lw_tbl[1124]? = some (Cond.code mi_M_lays.1 mi_M_lays.2.1 mi_M_lays.2.2.1 mi_M_lays.2.2.2.1) := rfl
set_option maxRecDepth 20000 in
theorem cw_115 : lw_tbl[1119]? = some (Cond.code mi_M_feed.1 mi_M_feed.2.1 mi_M_feed.2.2.1 mi_M_feed.2.2.2.1) := rfl
set_option maxRecDepth 20000 in
theorem cw_116 : lw_tbl[1128]? = some (Cond.code mi_M_end.1 mi_M_end.2.1 mi_M_end.2.2.1 mi_M_end.2.2.2.1) := rfl
set_option maxRecDepth 20000 in
theorem cw_117 : lw_tbl[1299]? = some (Cond.code mi_M_tapeAt.1 mi_M_tapeAt.2.1 mi_M_tapeAt.2.2.1 mi_M_tapeAt.2.2.2.1) := rfl
set_option maxRecDepth 20000 in
theorem cw_118 : lw_tbl[1304]? = some (Cond.code mi_M_isDigit.1 mi_M_isDigit.2.1 mi_M_isDigit.2.2.1 mi_M_isDigit.2.2.2.1) := rfl
set_option maxRecDepth 20000 in
theorem cw_119 : lw_tbl[1295]? = some (Cond.code mi_M_isLetter.1 mi_M_isLetter.2.1 mi_M_isLetter.2.2.1 mi_M_isLetter.2.2.2.1) := rfl
set_option maxRecDepth 20000 in
theorem cw_120 : lw_tbl[1292]? = some (Cond.code mi_M_go.1 mi_M_go.2.1 mi_M_go.2.2.1 mi_M_go.2.2.2.1) := rfl
set_option maxRecDepth 20000 in
theorem cw_121 : lw_tbl[1318]? = some (Cond.code mi_M_three.1 mi_M_three.2.1 mi_M_three.2.2.1 mi_M_three.2.2.2.1) := rfl
set_option maxRecDepth 20000 in
theorem cw_122 : lw_tbl[1314]? = some (Cond.code mi_M_five.1 mi_M_five.2.1 mi_M_five.2.2.1 mi_M_five.2.2.2.1) := rfl
set_option maxRecDepth 20000 in
theorem cw_123 : lw_tbl[1321]? = some (Cond.code mi_M_six.1 mi_M_six.2.1 mi_M_six.2.2.1 mi_M_six.2.2.2.1) := rfl
set_option maxRecDepth 20000 in
theorem cw_124 : lw_tbl[1327]? = some (Cond.code mi_M_isWord.1 mi_M_isWord.2.1 mi_M_isWord.2.2.1 mi_M_isWord.2.2.2.1) := rfl
set_option maxRecDepth 20000 in
theorem cw_125 : lw_tbl[1344]? = some (Cond.code mi_M_bad.1 mi_M_bad.2.1 mi_M_bad.2.2.1 mi_M_bad.2.2.2.1) := rfl
set_option maxRecDepth 20000 in
theorem cw_126 : lw_tbl[1136]? = some (Cond.code mi_M_begins.1 mi_M_begins.2.1 mi_M_begins.2.2.1 mi_M_begins.2.2.2.1) := rfl
set_option maxRecDepth 20000 in
theorem cw_127 : lw_tbl[1347]? = some (Cond.code mi_M_lowOf.1 mi_M_lowOf.2.1 mi_M_lowOf.2.2.1 mi_M_lowOf.2.2.2.1) := rfl
set_option maxRecDepth 20000 in
theorem cw_128 : lw_tbl[1350]? = some (Cond.code mi_M_highOf.1 mi_M_highOf.2.1 mi_M_highOf.2.2.1 mi_M_highOf.2.2.2.1) := rfl
set_option maxRecDepth 20000 in
theorem cw_129 : lw_tbl[1311]? = some (Cond.code mi_M_nameOf.1 mi_M_nameOf.2.1 mi_M_nameOf.2.2.1 mi_M_nameOf.2.2.2.1) := rfl
set_option maxRecDepth 20000 in
theorem cw_130 : lw_tbl[1335]? = some (Cond.code mi_M_wayHere.1 mi_M_wayHere.2.1 mi_M_wayHere.2.2.1 mi_M_wayHere.2.2.2.1) := rfl
set_option maxRecDepth 20000 in
theorem cw_131 : lw_tbl[1339]? = some (Cond.code mi_M_spreadHere.1 mi_M_spreadHere.2.1 mi_M_spreadHere.2.2.1 mi_M_spreadHere.2.2.2.1) := rfl
set_option maxRecDepth 20000 in
theorem cw_132 : lw_tbl[1331]? = some (Cond.code mi_M_readSetting.1 mi_M_readSetting.2.1 mi_M_readSetting.2.2.1 mi_M_readSetting.2.2.2.1) := rfl
set_option maxRecDepth 20000 in
theorem cw_133 : lw_tbl[1358]? = some (Cond.code mi_M_readEnd.1 mi_M_readEnd.2.1 mi_M_readEnd.2.2.1 mi_M_readEnd.2.2.2.1) := rfl
set_option maxRecDepth 20000 in
theorem cw_134 : lw_tbl[1362]? = some (Cond.code mi_M_readKey.1 mi_M_readKey.2.1 mi_M_readKey.2.2.1 mi_M_readKey.2.2.2.1) := rfl
set_option maxRecDepth 20000 in
theorem cw_135 : lw_tbl[1308]? = some (Cond.code mi_M_readWhole.1 mi_M_readWhole.2.1 mi_M_readWhole.2.2.1 mi_M_readWhole.2.2.2.1) := rfl
set_option maxRecDepth 20000 in
theorem cw_136 : lw_tbl[1288]? = some (Cond.code mi_M_text.1 mi_M_text.2.1 mi_M_text.2.2.1 mi_M_text.2.2.2.1) := rfl
set_option maxRecDepth 20000 in
theorem cw_137 : lw_tbl[1375]? = some (Cond.code mi_M_isKey.1 mi_M_isKey.2.1 mi_M_isKey.2.2.1 mi_M_isKey.2.2.2.1) := rfl
set_option maxRecDepth 20000 in
theorem cw_138 : lw_tbl[1391]? = some (Cond.code mi_M_isValue.1 mi_M_isValue.2.1 mi_M_isValue.2.2.1 mi_M_isValue.2.2.2.1) := rfl
set_option maxRecDepth 20000 in
theorem cw_139 : lw_tbl[1395]? = some (Cond.code mi_M_indexOf.1 mi_M_indexOf.2.1 mi_M_indexOf.2.2.1 mi_M_indexOf.2.2.2.1) := rfl
set_option maxRecDepth 20000 in
theorem cw_140 : lw_tbl[1399]? = some (Cond.code mi_M_snap.1 mi_M_snap.2.1 mi_M_snap.2.2.1 mi_M_snap.2.2.2.1) := rfl
set_option maxRecDepth 20000 in
theorem cw_141 : lw_tbl[1367]? = some (Cond.code mi_M_undo.1 mi_M_undo.2.1 mi_M_undo.2.2.1 mi_M_undo.2.2.2.1) := rfl
set_option maxRecDepth 20000 in
theorem cw_142 : lw_tbl[1371]? = some (Cond.code mi_M_key.1 mi_M_key.2.1 mi_M_key.2.2.1 mi_M_key.2.2.2.1) := rfl
set_option maxRecDepth 20000 in
theorem cw_143 : lw_tbl[1383]? = some (Cond.code mi_M_worth.1 mi_M_worth.2.1 mi_M_worth.2.2.1 mi_M_worth.2.2.2.1) := rfl
set_option maxRecDepth 20000 in
theorem cw_144 : lw_tbl[1387]? = some (Cond.code mi_M_add.1 mi_M_add.2.1 mi_M_add.2.2.1 mi_M_add.2.2.2.1) := rfl
set_option maxRecDepth 20000 in
theorem cw_145 : lw_tbl[1403]? = some (Cond.code mi_M_gone.1 mi_M_gone.2.1 mi_M_gone.2.2.1 mi_M_gone.2.2.2.1) := rfl
set_option maxRecDepth 20000 in
theorem cw_146 : lw_tbl[1407]? = some (Cond.code mi_M_turn.1 mi_M_turn.2.1 mi_M_turn.2.2.1 mi_M_turn.2.2.2.1) := rfl
set_option maxRecDepth 20000 in
theorem cw_147 : lw_tbl[1411]? = some (Cond.code mi_M_set.1 mi_M_set.2.1 mi_M_set.2.2.1 mi_M_set.2.2.2.1) := rfl
set_option maxRecDepth 20000 in
theorem cw_148 : lw_tbl[1421]? = some (Cond.code mi_M_mix.1 mi_M_mix.2.1 mi_M_mix.2.2.1 mi_M_mix.2.2.2.1) := rfl
set_option maxRecDepth 20000 in
theorem cw_149 : lw_tbl[1418]? = some (Cond.code mi_M_hashOf.1 mi_M_hashOf.2.1 mi_M_hashOf.2.2.1 mi_M_hashOf.2.2.2.1) := rfl
set_option maxRecDepth 20000 in
theorem cw_150 : lw_tbl[1443]? = some (Cond.code mi_M_printOf.1 mi_M_printOf.2.1 mi_M_printOf.2.2.1 mi_M_printOf.2.2.2.1) := rfl
set_option maxRecDepth 20000 in
theorem cw_151 : lw_tbl[1434]? = some (Cond.code mi_M_part.1 mi_M_part.2.1 mi_M_part.2.2.1 mi_M_part.2.2.2.1) := rfl
set_option maxRecDepth 20000 in
theorem cw_152 : lw_tbl[1431]? = some (Cond.code mi_M_lays3.1 mi_M_lays3.2.1 mi_M_lays3.2.2.1 mi_M_lays3.2.2.2.1) := rfl
set_option maxRecDepth 20000 in
theorem cw_153 : lw_tbl[1459]? = some (Cond.code mi_M_touchesBy.1 mi_M_touchesBy.2.1 mi_M_touchesBy.2.2.1 mi_M_touchesBy.2.2.2.1) := rfl
set_option maxRecDepth 20000 in
theorem cw_154 : lw_tbl[1415]? = some (Cond.code mi_M_hash.1 mi_M_hash.2.1 mi_M_hash.2.2.1 mi_M_hash.2.2.2.1) := rfl
set_option maxRecDepth 20000 in
theorem cw_155 : lw_tbl[1427]? = some (Cond.code mi_M_cell.1 mi_M_cell.2.1 mi_M_cell.2.2.1 mi_M_cell.2.2.2.1) := rfl
set_option maxRecDepth 20000 in
theorem cw_156 : lw_tbl[1440]? = some (Cond.code mi_M_print.1 mi_M_print.2.1 mi_M_print.2.2.1 mi_M_print.2.2.2.1) := rfl
set_option maxRecDepth 20000 in
theorem cw_157 : lw_tbl[1455]? = some (Cond.code mi_M_nets.1 mi_M_nets.2.1 mi_M_nets.2.2.1 mi_M_nets.2.2.2.1) := rfl
set_option maxRecDepth 20000 in
theorem cw_158 : lw_tbl[1451]? = some (Cond.code mi_M_netNow.1 mi_M_netNow.2.1 mi_M_netNow.2.2.1 mi_M_netNow.2.2.2.1) := rfl
set_option maxRecDepth 20000 in
theorem cw_159 : lw_tbl[1495]? = some (Cond.code mi_M_takesOut.1 mi_M_takesOut.2.1 mi_M_takesOut.2.2.1 mi_M_takesOut.2.2.2.1) := rfl
set_option maxRecDepth 20000 in
theorem cw_160 : lw_tbl[1491]? = some (Cond.code mi_M_nextCell.1 mi_M_nextCell.2.1 mi_M_nextCell.2.2.1 mi_M_nextCell.2.2.2.1) := rfl
set_option maxRecDepth 20000 in
theorem cw_161 : lw_tbl[1487]? = some (Cond.code mi_M_comesBehind.1 mi_M_comesBehind.2.1 mi_M_comesBehind.2.2.1 mi_M_comesBehind.2.2.2.1) := rfl
set_option maxRecDepth 20000 in
theorem cw_162 : lw_tbl[1483]? = some (Cond.code mi_M_peelsBy.1 mi_M_peelsBy.2.1 mi_M_peelsBy.2.2.1 mi_M_peelsBy.2.2.2.1) := rfl
set_option maxRecDepth 20000 in
theorem cw_163 : lw_tbl[1471]? = some (Cond.code mi_M_isOf.1 mi_M_isOf.2.1 mi_M_isOf.2.2.1 mi_M_isOf.2.2.2.1) := rfl
set_option maxRecDepth 20000 in
theorem cw_164 : lw_tbl[1479]? = some (Cond.code mi_M_peelNow.1 mi_M_peelNow.2.1 mi_M_peelNow.2.2.1 mi_M_peelNow.2.2.2.1) := rfl
set_option maxRecDepth 20000 in
theorem cw_165 : lw_tbl[1523]? = some (Cond.code mi_M_peelsAll.1 mi_M_peelsAll.2.1 mi_M_peelsAll.2.2.1 mi_M_peelsAll.2.2.2.1) := rfl
set_option maxRecDepth 20000 in
theorem cw_166 : lw_tbl[1447]? = some (Cond.code mi_M_load.1 mi_M_load.2.1 mi_M_load.2.2.1 mi_M_load.2.2.2.1) := rfl
set_option maxRecDepth 20000 in
theorem cw_167 : lw_tbl[1463]? = some (Cond.code mi_M_twins.1 mi_M_twins.2.1 mi_M_twins.2.2.1 mi_M_twins.2.2.2.1) := rfl
set_option maxRecDepth 20000 in
theorem cw_168 : lw_tbl[1467]? = some (Cond.code mi_M_areTwins.1 mi_M_areTwins.2.1 mi_M_areTwins.2.2.1 mi_M_areTwins.2.2.2.1) := rfl
set_option maxRecDepth 20000 in
theorem cw_169 : lw_tbl[1475]? = some (Cond.code mi_M_peel.1 mi_M_peel.2.1 mi_M_peel.2.2.1 mi_M_peel.2.2.2.1) := rfl
set_option maxRecDepth 20000 in
theorem cw_170 : lw_tbl[1499]? = some (Cond.code mi_M_core.1 mi_M_core.2.1 mi_M_core.2.2.1 mi_M_core.2.2.2.1) := rfl
set_option maxRecDepth 20000 in
theorem cw_171 : lw_tbl[1507]? = some (Cond.code mi_M_laysLevels.1 mi_M_laysLevels.2.1 mi_M_laysLevels.2.2.1 mi_M_laysLevels.2.2.2.1) := rfl
set_option maxRecDepth 20000 in
theorem cw_172 : lw_tbl[1503]? = some (Cond.code mi_M_level.1 mi_M_level.2.1 mi_M_level.2.2.1 mi_M_level.2.2.2.1) := rfl
set_option maxRecDepth 20000 in
theorem cw_173 : lw_tbl[1511]? = some (Cond.code mi_M_rank.1 mi_M_rank.2.1 mi_M_rank.2.2.1 mi_M_rank.2.2.2.1) := rfl
set_option maxRecDepth 20000 in
theorem cw_174 : lw_tbl[1519]? = some (Cond.code mi_M_findsOut.1 mi_M_findsOut.2.1 mi_M_findsOut.2.2.1 mi_M_findsOut.2.2.2.1) := rfl
set_option maxRecDepth 20000 in
theorem cw_175 : lw_tbl[1515]? = some (Cond.code mi_M_mend.1 mi_M_mend.2.1 mi_M_mend.2.2.1 mi_M_mend.2.2.2.1) := rfl
set_option maxRecDepth 20000 in
theorem cw_176 : lw_tbl[1527]? = some (Cond.code mi_M_tight.1 mi_M_tight.2.1 mi_M_tight.2.2.1 mi_M_tight.2.2.2.1) := rfl
set_option maxRecDepth 20000 in
theorem cw_177 : lw_tbl[1531]? = some (Cond.code mi_M_peels.1 mi_M_peels.2.1 mi_M_peels.2.2.1 mi_M_peels.2.2.2.1) := rfl
set_option maxRecDepth 20000 in
theorem cw_178 : lw_tbl[1539]? = some (Cond.code mi_M_fills.1 mi_M_fills.2.1 mi_M_fills.2.2.1 mi_M_fills.2.2.2.1) := rfl
set_option maxRecDepth 20000 in
theorem cw_179 : lw_tbl[1535]? = some (Cond.code mi_M_wake.1 mi_M_wake.2.1 mi_M_wake.2.2.1 mi_M_wake.2.2.2.1) := rfl
set_option maxRecDepth 20000 in
theorem cw_180 : lw_tbl[1543]? = some (Cond.code mi_M_build.1 mi_M_build.2.1 mi_M_build.2.2.1 mi_M_build.2.2.2.1) := rfl
set_option maxRecDepth 20000 in
theorem cw_181 : lw_tbl[1547]? = some (Cond.code mi_M_built.1 mi_M_built.2.1 mi_M_built.2.2.1 mi_M_built.2.2.2.1) := rfl
set_option maxRecDepth 20000 in
theorem cw_182 : lw_tbl[1551]? = some (Cond.code mi_M_filled.1 mi_M_filled.2.1 mi_M_filled.2.2.1 mi_M_filled.2.2.2.1) := rfl
set_option maxRecDepth 20000 in
theorem cw_183 : lw_tbl[1559]? = some (Cond.code mi_M_asks.1 mi_M_asks.2.1 mi_M_asks.2.2.1 mi_M_asks.2.2.2.1) := rfl
set_option maxRecDepth 20000 in
theorem cw_184 : lw_tbl[1555]? = some (Cond.code mi_M_passes.1 mi_M_passes.2.1 mi_M_passes.2.2.1 mi_M_passes.2.2.2.1) := rfl
set_option maxRecDepth 20000 in
theorem cw_185 : lw_tbl[1563]? = some (Cond.code mi_M_told.1 mi_M_told.2.1 mi_M_told.2.2.1 mi_M_told.2.2.2.1) := rfl
set_option maxRecDepth 20000 in
theorem cw_186 : lw_tbl[1567]? = some (Cond.code mi_M_right.1 mi_M_right.2.1 mi_M_right.2.2.1 mi_M_right.2.2.2.1) := rfl
set_option maxRecDepth 20000 in
theorem cw_187 : lw_tbl[1571]? = some (Cond.code mi_M_strangers.1 mi_M_strangers.2.1 mi_M_strangers.2.2.1 mi_M_strangers.2.2.2.1) := rfl
set_option maxRecDepth 20000 in
theorem cw_188 : lw_tbl[1579]? = some (Cond.code mi_M_copies.1 mi_M_copies.2.1 mi_M_copies.2.2.1 mi_M_copies.2.2.2.1) := rfl
set_option maxRecDepth 20000 in
theorem cw_189 : lw_tbl[1575]? = some (Cond.code mi_M_shelf.1 mi_M_shelf.2.1 mi_M_shelf.2.2.1 mi_M_shelf.2.2.2.1) := rfl
set_option maxRecDepth 20000 in
theorem cw_190 : lw_tbl[1583]? = some (Cond.code mi_M_unlike.1 mi_M_unlike.2.1 mi_M_unlike.2.2.1 mi_M_unlike.2.2.2.1) := rfl
set_option maxRecDepth 20000 in
theorem cw_191 : lw_tbl[1591]? = some (Cond.code mi_M_emptyCells.1 mi_M_emptyCells.2.1 mi_M_emptyCells.2.2.1 mi_M_emptyCells.2.2.2.1) := rfl
set_option maxRecDepth 20000 in
theorem cw_192 : lw_tbl[1587]? = some (Cond.code mi_M_count.1 mi_M_count.2.1 mi_M_count.2.2.1 mi_M_count.2.2.2.1) := rfl
set_option maxRecDepth 20000 in
theorem cw_194 : lw_tbl[804]? = some (Cond.code mi_Arrays_fill.1 mi_Arrays_fill.2.1 mi_Arrays_fill.2.2.1 mi_Arrays_fill.2.2.2.1) := rfl
set_option maxRecDepth 20000 in
theorem cw_195 : lw_tbl[702]? = some (Cond.code mi_Math_min.1 mi_Math_min.2.1 mi_Math_min.2.2.1 mi_Math_min.2.2.2.1) := rfl
set_option maxRecDepth 20000 in
theorem cw_196 : lw_tbl[784]? = some (Cond.code mi_Math_max.1 mi_Math_max.2.1 mi_Math_max.2.2.1 mi_Math_max.2.2.2.1) := rfl
set_option maxRecDepth 20000 in
theorem cw_197 : lw_tbl[568]? = some (Cond.code mi_String_length.1 mi_String_length.2.1 mi_String_length.2.2.1 mi_String_length.2.2.2.1) := rfl
set_option maxRecDepth 20000 in
theorem cw_198 : lw_tbl[578]? = some (Cond.code mi_String_charAt.1 mi_String_charAt.2.1 mi_String_charAt.2.2.1 mi_String_charAt.2.2.2.1) := rfl
def am_cwP (y : Nat) : Prop := Cond.code (am_mi y).1 (am_mi y).2.1 (am_mi y).2.2.1 (am_mi y).2.2.2.1 ∈ am_big
theorem cwb_0 : am_cwP 0 := am_big_of cw_0 rfl
theorem cwb_1 : am_cwP 1 := am_big_of cw_1 rfl
theorem cwb_2 : am_cwP 2 := am_big_of cw_2 rfl
theorem cwb_3 : am_cwP 3 := am_big_of cw_3 rfl
theorem cwb_4 : am_cwP 4 := am_big_of cw_4 rfl
theorem cwb_5 : am_cwP 5 := am_big_of cw_5 rfl
theorem cwb_6 : am_cwP 6 := am_big_of cw_6 rfl
theorem cwb_7 : am_cwP 7 := am_big_of cw_7 rfl
theorem cwb_8 : am_cwP 8 := am_big_of cw_8 rfl
theorem cwb_9 : am_cwP 9 := am_big_of cw_9 rfl
theorem cwb_10 : am_cwP 10 := am_big_of cw_10 rfl
theorem cwb_11 : am_cwP 11 := am_big_of cw_11 rfl
theorem cwb_12 : am_cwP 12 := am_big_of cw_12 rfl
theorem cwb_13 : am_cwP 13 := am_big_of cw_13 rfl
theorem cwb_14 : am_cwP 14 := am_big_of cw_14 rfl
theorem cwb_15 : am_cwP 15 := am_big_of cw_15 rfl
theorem cwb_16 : am_cwP 16 := am_big_of cw_16 rfl
theorem cwb_17 : am_cwP 17 := am_big_of cw_17 rfl
theorem cwb_18 : am_cwP 18 := am_big_of cw_18 rfl
theorem cwb_19 : am_cwP 19 := am_big_of cw_19 rfl
theorem cwb_20 : am_cwP 20 := am_big_of cw_20 rfl
theorem cwb_21 : am_cwP 21 := am_big_of cw_21 rfl
theorem cwb_22 : am_cwP 22 := am_big_of cw_22 rfl
theorem cwb_23 : am_cwP 23 := am_big_of cw_23 rfl
theorem cwb_24 : am_cwP 24 := am_big_of cw_24 rfl
theorem cwb_25 : am_cwP 25 := am_big_of cw_25 rfl
theorem cwb_26 : am_cwP 26 := am_big_of cw_26 rfl
theorem cwb_27 : am_cwP 27 := am_big_of cw_27 rfl
theorem cwb_28 : am_cwP 28 := am_big_of cw_28 rfl
theorem cwb_29 : am_cwP 29 := am_big_of cw_29 rfl
theorem cwb_30 : am_cwP 30 := am_big_of cw_30 rfl
theorem cwb_31 : am_cwP 31 := am_big_of cw_31 rfl
theorem cwb_32 : am_cwP 32 := am_big_of cw_32 rfl
theorem cwb_33 : am_cwP 33 := am_big_of cw_33 rfl
theorem cwb_34 : am_cwP 34 := am_big_of cw_34 rfl
theorem cwb_35 : am_cwP 35 := am_big_of cw_35 rfl
theorem cwb_36 : am_cwP 36 := am_big_of cw_36 rfl
theorem cwb_37 : am_cwP 37 := am_big_of cw_37 rfl
theorem cwb_38 : am_cwP 38 := am_big_of cw_38 rfl
theorem cwb_39 : am_cwP 39 := am_big_of cw_39 rfl
theorem cwb_40 : am_cwP 40 := am_big_of cw_40 rfl
theorem cwb_41 : am_cwP 41 := am_big_of cw_41 rfl
theorem cwb_42 : am_cwP 42 := am_big_of cw_42 rfl
theorem cwb_43 : am_cwP 43 := am_big_of cw_43 rfl
theorem cwb_44 : am_cwP 44 := am_big_of cw_44 rfl
theorem cwb_45 : am_cwP 45 := am_big_of cw_45 rfl
theorem cwb_46 : am_cwP 46 := am_big_of cw_46 rfl
theorem cwb_47 : am_cwP 47 := am_big_of cw_47 rfl
theorem cwb_48 : am_cwP 48 := am_big_of cw_48 rfl
theorem cwb_49 : am_cwP 49 := am_big_of cw_49 rfl
theorem cwb_50 : am_cwP 50 := am_big_of cw_50 rfl
theorem cwb_51 : am_cwP 51 := am_big_of cw_51 rfl
theorem cwb_52 : am_cwP 52 := am_big_of cw_52 rfl
theorem cwb_53 : am_cwP 53 := am_big_of cw_53 rfl
theorem cwb_54 : am_cwP 54 := am_big_of cw_54 rfl
theorem cwb_55 : am_cwP 55 := am_big_of cw_55 rfl
theorem cwb_56 : am_cwP 56 := am_big_of cw_56 rfl
theorem cwb_57 : am_cwP 57 := am_big_of cw_57 rfl
theorem cwb_58 : am_cwP 58 := am_big_of cw_58 rfl
theorem cwb_59 : am_cwP 59 := am_big_of cw_59 rfl
theorem cwb_60 : am_cwP 60 := am_big_of cw_60 rfl
theorem cwb_61 : am_cwP 61 := am_big_of cw_61 rfl
theorem cwb_62 : am_cwP 62 := am_big_of cw_62 rfl
theorem cwb_63 : am_cwP 63 := am_big_of cw_63 rfl
theorem cwb_64 : am_cwP 64 := am_big_of cw_64 rfl
theorem cwb_65 : am_cwP 65 := am_big_of cw_65 rfl
theorem cwb_66 : am_cwP 66 := am_big_of cw_66 rfl
theorem cwb_67 : am_cwP 67 := am_big_of cw_67 rfl
theorem cwb_68 : am_cwP 68 := am_big_of cw_68 rfl
theorem cwb_69 : am_cwP 69 := am_big_of cw_69 rfl
theorem cwb_70 : am_cwP 70 := am_big_of cw_70 rfl
theorem cwb_71 : am_cwP 71 := am_big_of cw_71 rfl
theorem cwb_72 : am_cwP 72 := am_big_of cw_72 rfl
theorem cwb_73 : am_cwP 73 := am_big_of cw_73 rfl
theorem cwb_74 : am_cwP 74 := am_big_of cw_74 rfl
theorem cwb_75 : am_cwP 75 := am_big_of cw_75 rfl
theorem cwb_76 : am_cwP 76 := am_big_of cw_76 rfl
theorem cwb_77 : am_cwP 77 := am_big_of cw_77 rfl
theorem cwb_78 : am_cwP 78 := am_big_of cw_78 rfl
theorem cwb_79 : am_cwP 79 := am_big_of cw_79 rfl
theorem cwb_80 : am_cwP 80 := am_big_of cw_80 rfl
theorem cwb_81 : am_cwP 81 := am_big_of cw_81 rfl
theorem cwb_82 : am_cwP 82 := am_big_of cw_82 rfl
theorem cwb_83 : am_cwP 83 := am_big_of cw_83 rfl
theorem cwb_84 : am_cwP 84 := am_big_of cw_84 rfl
theorem cwb_85 : am_cwP 85 := am_big_of cw_85 rfl
theorem cwb_86 : am_cwP 86 := am_big_of cw_86 rfl
theorem cwb_87 : am_cwP 87 := am_big_of cw_87 rfl
theorem cwb_88 : am_cwP 88 := am_big_of cw_88 rfl
theorem cwb_89 : am_cwP 89 := am_big_of cw_89 rfl
theorem cwb_90 : am_cwP 90 := am_big_of cw_90 rfl
theorem cwb_91 : am_cwP 91 := am_big_of cw_91 rfl
theorem cwb_92 : am_cwP 92 := am_big_of cw_92 rfl
theorem cwb_93 : am_cwP 93 := am_big_of cw_93 rfl
theorem cwb_94 : am_cwP 94 := am_big_of cw_94 rfl
theorem cwb_95 : am_cwP 95 := am_big_of cw_95 rfl
theorem cwb_96 : am_cwP 96 := am_big_of cw_96 rfl
theorem cwb_97 : am_cwP 97 := am_big_of cw_97 rfl
theorem cwb_98 : am_cwP 98 := am_big_of cw_98 rfl
theorem cwb_99 : am_cwP 99 := am_big_of cw_99 rfl
theorem cwb_100 : am_cwP 100 := am_big_of cw_100 rfl
theorem cwb_101 : am_cwP 101 := am_big_of cw_101 rfl
theorem cwb_102 : am_cwP 102 := am_big_of cw_102 rfl
theorem cwb_103 : am_cwP 103 := am_big_of cw_103 rfl
theorem cwb_104 : am_cwP 104 := am_big_of cw_104 rfl
theorem cwb_105 : am_cwP 105 := am_big_of cw_105 rfl
theorem cwb_106 : am_cwP 106 := am_big_of cw_106 rfl
theorem cwb_107 : am_cwP 107 := am_big_of cw_107 rfl
theorem cwb_108 : am_cwP 108 := am_big_of cw_108 rfl
theorem cwb_109 : am_cwP 109 := am_big_of cw_109 rfl
theorem cwb_110 : am_cwP 110 := am_big_of cw_110 rfl
theorem cwb_111 : am_cwP 111 := am_big_of cw_111 rfl
theorem cwb_112 : am_cwP 112 := am_big_of cw_112 rfl
theorem cwb_113 : am_cwP 113 := am_big_of cw_113 rfl
theorem cwb_114 : am_cwP 114 := am_big_of cw_114 rfl
theorem cwb_115 : am_cwP 115 := am_big_of cw_115 rfl
theorem cwb_116 : am_cwP 116 := am_big_of cw_116 rfl
theorem cwb_117 : am_cwP 117 := am_big_of cw_117 rfl
theorem cwb_118 : am_cwP 118 := am_big_of cw_118 rfl
theorem cwb_119 : am_cwP 119 := am_big_of cw_119 rfl
theorem cwb_120 : am_cwP 120 := am_big_of cw_120 rfl
theorem cwb_121 : am_cwP 121 := am_big_of cw_121 rfl
theorem cwb_122 : am_cwP 122 := am_big_of cw_122 rfl
theorem cwb_123 : am_cwP 123 := am_big_of cw_123 rfl
theorem cwb_124 : am_cwP 124 := am_big_of cw_124 rfl
theorem cwb_125 : am_cwP 125 := am_big_of cw_125 rfl
theorem cwb_126 : am_cwP 126 := am_big_of cw_126 rfl
theorem cwb_127 : am_cwP 127 := am_big_of cw_127 rfl
theorem cwb_128 : am_cwP 128 := am_big_of cw_128 rfl
theorem cwb_129 : am_cwP 129 := am_big_of cw_129 rfl
theorem cwb_130 : am_cwP 130 := am_big_of cw_130 rfl
theorem cwb_131 : am_cwP 131 := am_big_of cw_131 rfl
theorem cwb_132 : am_cwP 132 := am_big_of cw_132 rfl
theorem cwb_133 : am_cwP 133 := am_big_of cw_133 rfl
theorem cwb_134 : am_cwP 134 := am_big_of cw_134 rfl
theorem cwb_135 : am_cwP 135 := am_big_of cw_135 rfl
theorem cwb_136 : am_cwP 136 := am_big_of cw_136 rfl
theorem cwb_137 : am_cwP 137 := am_big_of cw_137 rfl
theorem cwb_138 : am_cwP 138 := am_big_of cw_138 rfl
theorem cwb_139 : am_cwP 139 := am_big_of cw_139 rfl
theorem cwb_140 : am_cwP 140 := am_big_of cw_140 rfl
theorem cwb_141 : am_cwP 141 := am_big_of cw_141 rfl
theorem cwb_142 : am_cwP 142 := am_big_of cw_142 rfl
theorem cwb_143 : am_cwP 143 := am_big_of cw_143 rfl
theorem cwb_144 : am_cwP 144 := am_big_of cw_144 rfl
theorem cwb_145 : am_cwP 145 := am_big_of cw_145 rfl
theorem cwb_146 : am_cwP 146 := am_big_of cw_146 rfl
theorem cwb_147 : am_cwP 147 := am_big_of cw_147 rfl
theorem cwb_148 : am_cwP 148 := am_big_of cw_148 rfl
theorem cwb_149 : am_cwP 149 := am_big_of cw_149 rfl
theorem cwb_150 : am_cwP 150 := am_big_of cw_150 rfl
theorem cwb_151 : am_cwP 151 := am_big_of cw_151 rfl
theorem cwb_152 : am_cwP 152 := am_big_of cw_152 rfl
theorem cwb_153 : am_cwP 153 := am_big_of cw_153 rfl
theorem cwb_154 : am_cwP 154 := am_big_of cw_154 rfl
theorem cwb_155 : am_cwP 155 := am_big_of cw_155 rfl
theorem cwb_156 : am_cwP 156 := am_big_of cw_156 rfl
theorem cwb_157 : am_cwP 157 := am_big_of cw_157 rfl
theorem cwb_158 : am_cwP 158 := am_big_of cw_158 rfl
theorem cwb_159 : am_cwP 159 := am_big_of cw_159 rfl
theorem cwb_160 : am_cwP 160 := am_big_of cw_160 rfl
theorem cwb_161 : am_cwP 161 := am_big_of cw_161 rfl
theorem cwb_162 : am_cwP 162 := am_big_of cw_162 rfl
theorem cwb_163 : am_cwP 163 := am_big_of cw_163 rfl
theorem cwb_164 : am_cwP 164 := am_big_of cw_164 rfl
theorem cwb_165 : am_cwP 165 := am_big_of cw_165 rfl
theorem cwb_166 : am_cwP 166 := am_big_of cw_166 rfl
theorem cwb_167 : am_cwP 167 := am_big_of cw_167 rfl
theorem cwb_168 : am_cwP 168 := am_big_of cw_168 rfl
theorem cwb_169 : am_cwP 169 := am_big_of cw_169 rfl
theorem cwb_170 : am_cwP 170 := am_big_of cw_170 rfl
theorem cwb_171 : am_cwP 171 := am_big_of cw_171 rfl
theorem cwb_172 : am_cwP 172 := am_big_of cw_172 rfl
theorem cwb_173 : am_cwP 173 := am_big_of cw_173 rfl
theorem cwb_174 : am_cwP 174 := am_big_of cw_174 rfl
theorem cwb_175 : am_cwP 175 := am_big_of cw_175 rfl
theorem cwb_176 : am_cwP 176 := am_big_of cw_176 rfl
theorem cwb_177 : am_cwP 177 := am_big_of cw_177 rfl
theorem cwb_178 : am_cwP 178 := am_big_of cw_178 rfl
theorem cwb_179 : am_cwP 179 := am_big_of cw_179 rfl
theorem cwb_180 : am_cwP 180 := am_big_of cw_180 rfl
theorem cwb_181 : am_cwP 181 := am_big_of cw_181 rfl
theorem cwb_182 : am_cwP 182 := am_big_of cw_182 rfl
theorem cwb_183 : am_cwP 183 := am_big_of cw_183 rfl
theorem cwb_184 : am_cwP 184 := am_big_of cw_184 rfl
theorem cwb_185 : am_cwP 185 := am_big_of cw_185 rfl
theorem cwb_186 : am_cwP 186 := am_big_of cw_186 rfl
theorem cwb_187 : am_cwP 187 := am_big_of cw_187 rfl
theorem cwb_188 : am_cwP 188 := am_big_of cw_188 rfl
theorem cwb_189 : am_cwP 189 := am_big_of cw_189 rfl
theorem cwb_190 : am_cwP 190 := am_big_of cw_190 rfl
theorem cwb_191 : am_cwP 191 := am_big_of cw_191 rfl
theorem cwb_192 : am_cwP 192 := am_big_of cw_192 rfl
theorem cwb_194 : am_cwP 194 := am_big_of cw_194 rfl
theorem cwb_195 : am_cwP 195 := am_big_of cw_195 rfl
theorem cwb_196 : am_cwP 196 := am_big_of cw_196 rfl
theorem cwb_197 : am_cwP 197 := am_big_of cw_197 rfl
theorem cwb_198 : am_cwP 198 := am_big_of cw_198 rfl
theorem am_cwA : ∀ y, (y < 199 ∧ y ≠ 193) → am_cwP y := by
  intro y h
  match y, h with
  | 0, _ => exact cwb_0
  | 1, _ => exact cwb_1
  | 2, _ => exact cwb_2
  | 3, _ => exact cwb_3
  | 4, _ => exact cwb_4
  | 5, _ => exact cwb_5
  | 6, _ => exact cwb_6
  | 7, _ => exact cwb_7
  | 8, _ => exact cwb_8
  | 9, _ => exact cwb_9
  | 10, _ => exact cwb_10
  | 11, _ => exact cwb_11
  | 12, _ => exact cwb_12
  | 13, _ => exact cwb_13
  | 14, _ => exact cwb_14
  | 15, _ => exact cwb_15
  | 16, _ => exact cwb_16
  | 17, _ => exact cwb_17
  | 18, _ => exact cwb_18
  | 19, _ => exact cwb_19
  | 20, _ => exact cwb_20
  | 21, _ => exact cwb_21
  | 22, _ => exact cwb_22
  | 23, _ => exact cwb_23
  | 24, _ => exact cwb_24
  | 25, _ => exact cwb_25
  | 26, _ => exact cwb_26
  | 27, _ => exact cwb_27
  | 28, _ => exact cwb_28
  | 29, _ => exact cwb_29
  | 30, _ => exact cwb_30
  | 31, _ => exact cwb_31
  | 32, _ => exact cwb_32
  | 33, _ => exact cwb_33
  | 34, _ => exact cwb_34
  | 35, _ => exact cwb_35
  | 36, _ => exact cwb_36
  | 37, _ => exact cwb_37
  | 38, _ => exact cwb_38
  | 39, _ => exact cwb_39
  | 40, _ => exact cwb_40
  | 41, _ => exact cwb_41
  | 42, _ => exact cwb_42
  | 43, _ => exact cwb_43
  | 44, _ => exact cwb_44
  | 45, _ => exact cwb_45
  | 46, _ => exact cwb_46
  | 47, _ => exact cwb_47
  | 48, _ => exact cwb_48
  | 49, _ => exact cwb_49
  | 50, _ => exact cwb_50
  | 51, _ => exact cwb_51
  | 52, _ => exact cwb_52
  | 53, _ => exact cwb_53
  | 54, _ => exact cwb_54
  | 55, _ => exact cwb_55
  | 56, _ => exact cwb_56
  | 57, _ => exact cwb_57
  | 58, _ => exact cwb_58
  | 59, _ => exact cwb_59
  | 60, _ => exact cwb_60
  | 61, _ => exact cwb_61
  | 62, _ => exact cwb_62
  | 63, _ => exact cwb_63
  | 64, _ => exact cwb_64
  | 65, _ => exact cwb_65
  | 66, _ => exact cwb_66
  | 67, _ => exact cwb_67
  | 68, _ => exact cwb_68
  | 69, _ => exact cwb_69
  | 70, _ => exact cwb_70
  | 71, _ => exact cwb_71
  | 72, _ => exact cwb_72
  | 73, _ => exact cwb_73
  | 74, _ => exact cwb_74
  | 75, _ => exact cwb_75
  | 76, _ => exact cwb_76
  | 77, _ => exact cwb_77
  | 78, _ => exact cwb_78
  | 79, _ => exact cwb_79
  | 80, _ => exact cwb_80
  | 81, _ => exact cwb_81
  | 82, _ => exact cwb_82
  | 83, _ => exact cwb_83
  | 84, _ => exact cwb_84
  | 85, _ => exact cwb_85
  | 86, _ => exact cwb_86
  | 87, _ => exact cwb_87
  | 88, _ => exact cwb_88
  | 89, _ => exact cwb_89
  | 90, _ => exact cwb_90
  | 91, _ => exact cwb_91
  | 92, _ => exact cwb_92
  | 93, _ => exact cwb_93
  | 94, _ => exact cwb_94
  | 95, _ => exact cwb_95
  | 96, _ => exact cwb_96
  | 97, _ => exact cwb_97
  | 98, _ => exact cwb_98
  | 99, _ => exact cwb_99
  | 100, _ => exact cwb_100
  | 101, _ => exact cwb_101
  | 102, _ => exact cwb_102
  | 103, _ => exact cwb_103
  | 104, _ => exact cwb_104
  | 105, _ => exact cwb_105
  | 106, _ => exact cwb_106
  | 107, _ => exact cwb_107
  | 108, _ => exact cwb_108
  | 109, _ => exact cwb_109
  | 110, _ => exact cwb_110
  | 111, _ => exact cwb_111
  | 112, _ => exact cwb_112
  | 113, _ => exact cwb_113
  | 114, _ => exact cwb_114
  | 115, _ => exact cwb_115
  | 116, _ => exact cwb_116
  | 117, _ => exact cwb_117
  | 118, _ => exact cwb_118
  | 119, _ => exact cwb_119
  | 120, _ => exact cwb_120
  | 121, _ => exact cwb_121
  | 122, _ => exact cwb_122
  | 123, _ => exact cwb_123
  | 124, _ => exact cwb_124
  | 125, _ => exact cwb_125
  | 126, _ => exact cwb_126
  | 127, _ => exact cwb_127
  | 128, _ => exact cwb_128
  | 129, _ => exact cwb_129
  | 130, _ => exact cwb_130
  | 131, _ => exact cwb_131
  | 132, _ => exact cwb_132
  | 133, _ => exact cwb_133
  | 134, _ => exact cwb_134
  | 135, _ => exact cwb_135
  | 136, _ => exact cwb_136
  | 137, _ => exact cwb_137
  | 138, _ => exact cwb_138
  | 139, _ => exact cwb_139
  | 140, _ => exact cwb_140
  | 141, _ => exact cwb_141
  | 142, _ => exact cwb_142
  | 143, _ => exact cwb_143
  | 144, _ => exact cwb_144
  | 145, _ => exact cwb_145
  | 146, _ => exact cwb_146
  | 147, _ => exact cwb_147
  | 148, _ => exact cwb_148
  | 149, _ => exact cwb_149
  | 150, _ => exact cwb_150
  | 151, _ => exact cwb_151
  | 152, _ => exact cwb_152
  | 153, _ => exact cwb_153
  | 154, _ => exact cwb_154
  | 155, _ => exact cwb_155
  | 156, _ => exact cwb_156
  | 157, _ => exact cwb_157
  | 158, _ => exact cwb_158
  | 159, _ => exact cwb_159
  | 160, _ => exact cwb_160
  | 161, _ => exact cwb_161
  | 162, _ => exact cwb_162
  | 163, _ => exact cwb_163
  | 164, _ => exact cwb_164
  | 165, _ => exact cwb_165
  | 166, _ => exact cwb_166
  | 167, _ => exact cwb_167
  | 168, _ => exact cwb_168
  | 169, _ => exact cwb_169
  | 170, _ => exact cwb_170
  | 171, _ => exact cwb_171
  | 172, _ => exact cwb_172
  | 173, _ => exact cwb_173
  | 174, _ => exact cwb_174
  | 175, _ => exact cwb_175
  | 176, _ => exact cwb_176
  | 177, _ => exact cwb_177
  | 178, _ => exact cwb_178
  | 179, _ => exact cwb_179
  | 180, _ => exact cwb_180
  | 181, _ => exact cwb_181
  | 182, _ => exact cwb_182
  | 183, _ => exact cwb_183
  | 184, _ => exact cwb_184
  | 185, _ => exact cwb_185
  | 186, _ => exact cwb_186
  | 187, _ => exact cwb_187
  | 188, _ => exact cwb_188
  | 189, _ => exact cwb_189
  | 190, _ => exact cwb_190
  | 191, _ => exact cwb_191
  | 192, _ => exact cwb_192
  | 193, h => exact absurd rfl h.2
  | 194, _ => exact cwb_194
  | 195, _ => exact cwb_195
  | 196, _ => exact cwb_196
  | 197, _ => exact cwb_197
  | 198, _ => exact cwb_198
  | n + 199, h => exact absurd h.1 (by omega)
end
section
theorem am_nst_warm {s U : State} (hW : s.WarmedH U.vm) {w : Cond} (hw : w ∈ am_nst) (h : va_Nw w s) : va_Nw w U := by
  have h1 := (List.mem_filter.mp hw).2
  cases w <;> first | exact va_Nw.warmF hW h | exact va_Nw.warmM hW h | cases h1
theorem am_nst_same {s U : State} (hv : s.vm = U.vm) {w : Cond} (hw : w ∈ am_nst) (h : va_Nw w s) : va_Nw w U := by
  have h1 := (List.mem_filter.mp hw).2
  cases w <;> first | exact va_Nw.same rfl hv h | cases h1
theorem am_RO.at {E : am_E} {A : Nat → Prop} {s U : State} {H : Heap} {locs : List Loc} (h : am_RO E A s) (hS : va_S A s.heap H locs) (hU : U.heap = H) (hW : s.WarmedH U.vm) : am_RO E A U := by
  obtain ⟨⟨a1, a2⟩, ⟨b1, b2⟩, ⟨c1, c2⟩, h4, h5, ⟨x1, x2, x3⟩, h7, h8⟩ := h
  have hq : ∀ a : Nat, a < s.heap.size → ¬ A a → U.heap[a]? = s.heap[a]? := by rw [hU]; exact hS.2.1
  have hal := hW.alike
  refine ⟨⟨(a1.kept hq).moved hal, (a2.kept hq).moved hal⟩, ⟨(b1.kept hq).moved hal, (b2.kept hq).moved hal⟩, ⟨(c1.kept hq).moved hal, (c2.kept hq).moved hal⟩, (h4.kept hq).moved hal, fun e he => (h5 e he).warm hW, ⟨(x1.kept (hq _ x2 x3)).moved hal, by rw [hU]; exact Nat.lt_of_lt_of_le x2 hS.1, x3⟩, fun w hw => am_nst_warm hW hw (h7 w hw), h8⟩
theorem am_RO.same {E : am_E} {A : Nat → Prop} {s U : State} (h : am_RO E A s) (hH : U.heap = s.heap) (hv : s.vm = U.vm) : am_RO E A U := by
  obtain ⟨⟨a1, a2⟩, ⟨b1, b2⟩, ⟨c1, c2⟩, h4, h5, ⟨x1, x2, x3⟩, h7, h8⟩ := h
  have hq : ∀ a : Nat, a < s.heap.size → ¬ A a → U.heap[a]? = s.heap[a]? := by rw [hH]; exact fun _ _ _ => rfl
  have hal : s.vm.Alike U.vm := by rw [hv]; exact Vm.Alike.refl _
  refine ⟨⟨(a1.kept hq).moved hal, (a2.kept hq).moved hal⟩, ⟨(b1.kept hq).moved hal, (b2.kept hq).moved hal⟩, ⟨(c1.kept hq).moved hal, (c2.kept hq).moved hal⟩, (h4.kept hq).moved hal, fun e he => (h5 e he).same hv.symm, ⟨(x1.kept (hq _ x2 x3)).moved hal, by rw [hH]; exact x2, x3⟩, fun w hw => am_nst_same hv hw (h7 w hw), h8⟩
theorem am_blind (E : am_E) (A : Nat → Prop) (as : List am_V) (m : am_M) : FrameBlind (am_Pc E A as m) := by
  intro a U g mk h
  obtain ⟨h1, h2, ⟨p1, p2, p3, p4⟩, h4⟩ := h
  exact ⟨h1, h2, ⟨p1, va_K.moved (u := U) (U := U.calling g mk a) (Vm.Alike.refl U.vm) p2, p3, p4⟩, h4.same rfl rfl⟩
theorem am_popn_spec : ∀ {n : Nat} {acc st as r : List am_V}, am_popn n acc st = some (as, r) → ∃ xs, st = xs ++ r ∧ as = xs.reverse ++ acc ∧ xs.length = n
  | 0, acc, st, as, r, h => by
    cases h
    exact ⟨[], rfl, rfl, rfl⟩
  | n + 1, acc, [], as, r, h => by cases h
  | n + 1, acc, v :: st, as, r, h => by
    obtain ⟨xs, h1, h2, h3⟩ := am_popn_spec (n := n) (acc := v :: acc) (st := st) h
    refine ⟨v :: xs, by rw [h1]; rfl, by rw [h2]; simp, by rw [List.length_cons, h3]⟩
theorem am_cat_sum (E : am_E) : ∀ (r : List am_V), ((r.map (am_cv E)).map fun v => v.category).sum = am_cat r
  | [] => rfl
  | v :: r => by
    rw [List.map_cons, List.map_cons, List.sum_cons, am_cat_sum E r, am_cat_cv]
    show _ = (match am_lng v with | true => 2 | false => 1) + am_cat r
    cases am_lng v <;> rfl
def am_mck (o : Nat) (e : Nat × Nat × Nat × Nat × Nat × Nat × Nat × Nat) : Bool :=
  let nm := (am_mi e.2.1).1
  let c := e.2.2.2.1
  let kd := e.2.2.1
  decide (lw_tbl[e.2.2.2.2.1]? = some (if kd = 0 ∨ kd = 2 then Cond.methodLink (am_cn.getD o "") e.1 nm else Cond.methodLinkNest (am_cn.getD o "") e.1 nm "TripleSieve"))
  && decide (lw_tbl[e.2.2.2.2.2.1]? = some (if kd < 2 then Cond.static nm else Cond.instanceMethod nm))
  && (decide (kd < 2) || decide (lw_tbl[e.2.2.2.2.2.2.1]? = some (Cond.selects nm.cls nm nm)))
  && decide (lw_tbl[e.2.2.2.2.2.2.2]? = some (Cond.initialized nm.cls))
  && decide (nm.cls ≠ "java/lang/invoke/MethodHandle") && decide (nm.cls ≠ "java/lang/invoke/VarHandle")
  && decide ((parseMethodDescriptor nm.desc).map (fun d => d.parameters.length) = some (if kd < 2 then c % 1000 / 10 else c % 1000 / 10 - 1))
  && decide (if kd < 2 then c / 1000 = 0 else 1 ≤ c % 1000 / 10 ∧ 1 ≤ c / 1000 ∧ ((c / 1000 = 17 ∧ nm.cls = "java/lang/String") ∨ (c / 1000 ≤ 13 ∧ (am_C (c / 1000 - 1)).1 = nm.cls)))
  && decide ((am_mi e.2.1).2.2.1 ≤ 45)
  && decide (e.2.1 < 199 ∧ e.2.1 ≠ 193)
  && decide (((am_mi e.2.1).2.2.2.1 = none ↔ c % 10 = 0))
theorem am_mt_ok0 : (am_mt.getD 0 []).all (am_mck 0) = true := by decide +kernel
theorem am_mt_ok1 : (am_mt.getD 1 []).all (am_mck 1) = true := by decide +kernel
theorem am_mt_ok2 : (am_mt.getD 2 []).all (am_mck 2) = true := by decide +kernel
theorem am_mt_ok3 : (am_mt.getD 3 []).all (am_mck 3) = true := by decide +kernel
theorem am_mt_ok4 : (am_mt.getD 4 []).all (am_mck 4) = true := by decide +kernel
theorem am_mt_ok5 : (am_mt.getD 5 []).all (am_mck 5) = true := by decide +kernel
theorem am_mt_ok6 : (am_mt.getD 6 []).all (am_mck 6) = true := by decide +kernel
theorem am_mt_ok7 : (am_mt.getD 7 []).all (am_mck 7) = true := by decide +kernel
theorem am_mt_ok8 : (am_mt.getD 8 []).all (am_mck 8) = true := by decide +kernel
theorem am_mt_ok9 : (am_mt.getD 9 []).all (am_mck 9) = true := by decide +kernel
theorem am_mt_ok10 : (am_mt.getD 10 []).all (am_mck 10) = true := by decide +kernel
theorem am_mt_ok11 : (am_mt.getD 11 []).all (am_mck 11) = true := by decide +kernel
theorem am_mt_ok12 : (am_mt.getD 12 []).all (am_mck 12) = true := by decide +kernel
theorem am_mt_ok13 : (am_mt.getD 13 []).all (am_mck 13) = true := by decide +kernel
theorem am_mt_ok14 : (am_mt.getD 14 []).all (am_mck 14) = true := by decide +kernel
theorem am_mt_ok15 : (am_mt.getD 15 []).all (am_mck 15) = true := by decide +kernel
theorem am_mt_ok16 : (am_mt.getD 16 []).all (am_mck 16) = true := by decide +kernel
theorem am_mt_ok : ∀ o, o < 17 → (am_mt.getD o []).all (am_mck o) = true := by
  intro o h
  match o, h with
  | 0, _ => exact am_mt_ok0
  | 1, _ => exact am_mt_ok1
  | 2, _ => exact am_mt_ok2
  | 3, _ => exact am_mt_ok3
  | 4, _ => exact am_mt_ok4
  | 5, _ => exact am_mt_ok5
  | 6, _ => exact am_mt_ok6
  | 7, _ => exact am_mt_ok7
  | 8, _ => exact am_mt_ok8
  | 9, _ => exact am_mt_ok9
  | 10, _ => exact am_mt_ok10
  | 11, _ => exact am_mt_ok11
  | 12, _ => exact am_mt_ok12
  | 13, _ => exact am_mt_ok13
  | 14, _ => exact am_mt_ok14
  | 15, _ => exact am_mt_ok15
  | 16, _ => exact am_mt_ok16
  | n + 17, h => exact absurd h (by omega)
theorem am_mt17 (o : Nat) (h : 17 ≤ o) : am_mt.getD o [] = [] := by
  rw [List.getD_eq_getElem?_getD, List.getElem?_eq_none (show am_mt.length ≤ o from h)]; rfl
theorem am_good (y : Nat) (h : Cond.code (am_mi y).1 (am_mi y).2.1 (am_mi y).2.2.1 (am_mi y).2.2.2.1 ∈ am_big) : GoodIn am_big (am_wds y) := by
  have key : ∀ w ∈ am_big, w ∈ am_big ∧ ((w.onTables && w.keeps) = true ∨ ∃ ty, w = .arrayClass ty) := fun w hw => ⟨hw, good_of_word (List.mem_filter.mp hw).2⟩
  intro w hw
  rcases List.mem_cons.mp hw with rfl | hw
  · exact key _ h
  · exact key w hw
section
variable {p : Program} {l : Launch} {e : Env} {R : Room} {s : State} {mm : MethodId} {args : Array Value} {below : List Frame} {meth : Method} {c : Code} {cells slots : Nat} {Q : State → Prop} {E : am_E} {A : Nat → Prop} {y d : Nat} {P : am_V → am_M → Prop}
  {pc : Nat} {lv : am_L} {r st : List am_V} {m : am_M}
theorem am_back {H : Heap} {locs : List Loc} {ls : Array Slot} {st0 rest : List Value} {y2 : Nat} {K : am_V → am_M → Prop} {av : Array Value} (hr : va_Run p l e R s mm args below meth c H locs cells slots 0 0 (F0 mm pc ls st0) rest (am_Qc E A y2 K av) A) (hS : va_S A s.heap H locs)
    (kk : ∀ (v : am_V) (m' : am_M) (H1 : Heap) (locs1 : List Loc), am_vok v → K v m' → va_P E.1 vwCl (am_ws E m') H1 → am_MR m' → va_S A s.heap H1 locs1 → W p l e R s mm args below meth c H1 locs1 cells slots Q (F0 mm (pc + 3) ls ((am_rc E y2 v).toList ++ rest))) : W p l e R s mm args below meth c H locs cells slots Q (F0 mm pc ls st0) := by
  intro T hT X
  obtain ⟨v, st₀, t, T', L, h0, X', hL, e1, e2, ⟨⟨u, m', hv, hok, hp, hP1, hM1⟩, hz, hk⟩, st⟩ := hr T hT X
  cases hv
  rw [h0] at hz hk
  obtain ⟨t2, a1, b1⟩ := kk u m' T'.heap (locs ++ L) hok hp (by rw [e1]; exact hP1) hM1
    ⟨Nat.le_trans hS.1 (by rw [e1]; exact hz), fun q h1 h2 => by rw [e1, hk q (Nat.lt_of_lt_of_le h1 hS.1) h2]; exact hS.2.1 q h1 h2, fun q hq => by
      rcases List.mem_append.mp hq with h | h
      · exact hS.2.2 q h
      · exact hL q h⟩ T' rfl X'
  exact ⟨t2, st t2 a1, b1⟩
theorem s_call (C : am_Cx p l e R s mm args below meth c cells slots Q E A y (d + 1) P) {i y2 kd cc w1 w2 w3 w4 : Nat} {as : List am_V} {K : am_V → am_M → Prop} {ig : Instr}
    (hf : (i, y2, kd, cc, w1, w2, w3, w4) ∈ am_mt.getD (am_mi y).2.2.2.2 []) (hig : (kd < 2 ∧ ig = .invokestatic i) ∨ (¬ kd < 2 ∧ ig = .invokevirtual i))
    (hpop : am_popn (cc % 1000 / 10) [] st = some (as, r)) (hcat : am_cat r ≤ 8)
    (hrc : cc / 1000 = 0 ∨ ∃ q as', as = .inr (.inr q) :: as' ∧ ((cc / 1000 = 17 ∧ 1000 ≤ q ∧ q < 1014) ∨ (cc / 1000 ≠ 17 ∧ (am_lay q).1 = cc / 1000 - 1)))
    (hOk : am_Ok d y2 as m K) (hd : decode (am_mi y).2.1 pc = .ok (ig, 3))
    (k : ∀ v m', K v m' → am_at p l e R s mm args below meth c cells slots Q E A y (pc + 3) lv (if cc % 10 = 0 then r else v :: r) m') : am_at p l e R s mm args below meth c cells slots Q E A y pc lv st m := by
  obtain ⟨hx, hb, hml, hown, hts, hfr, hlo, hce, hsl, hRO, hK, hret⟩ := id C
  intro H locs ls hW hS hl hv hst
  obtain ⟨hP, -, hD, hM⟩ := id hW
  obtain ⟨xs, e1, e2, e3⟩ := am_popn_spec hpop
  rw [List.append_nil] at e2
  have h1 := am_all17 (f := fun o => am_mt.getD o []) (List.all_eq_true.mpr fun o ho => am_mt_ok o (List.mem_range.mp ho)) am_mt17 hf
  simp only [am_mck, Bool.and_eq_true, decide_eq_true_eq, Bool.or_eq_true] at h1
  obtain ⟨⟨⟨⟨⟨⟨⟨⟨⟨⟨g1, g2⟩, g3⟩, g4⟩, g5⟩, g6⟩, g7⟩, g8⟩, g9⟩, g10⟩, g11⟩ := h1
  have hok : ∀ x ∈ as, am_vok x := fun x hx => hst x (by rw [e1]; rw [e2] at hx; exact List.mem_append_left _ (List.mem_reverse.mp hx))
  have hokr : ∀ x ∈ r, am_vok x := fun x hx => hst x (by rw [e1]; exact List.mem_append_right _ hx)
  have hcode : am_cwP y2 := am_cwA y2 g10
  have hgood := am_good y2 hcode
  have hini : (Cond.initialized (am_mi y2).1.cls).before args s = true := hts _ (am_big_of g4 rfl)
  have hR : (am_rm d).frames + 1 ≤ R.frames ∧ 8 + ((am_mi y2).2.2.1 + 11) + (am_rm d).locals ≤ R.locals := ⟨hfr, by show 8 + ((am_mi y2).2.2.1 + 11) + 64 * d ≤ R.locals; omega⟩
  have hfix : CallFix p mm c (am_mi y).2.1 (am_mi y).2.2.1 s args am_big (am_cn.getD (am_mi y).2.2.2.2 "") := ⟨hx, hb, hml, hown, hts⟩
  have hpre : ∀ U : State, U.heap = H → s.WarmedH U.vm → am_Pc E A as m (as.map (am_cv E)).toArray U := fun U hU hWm => ⟨rfl, hok, ⟨by rw [hU]; exact hP, va_K.moved hWm.alike hK, hD, hM⟩, hRO.at hS hU hWm⟩
  have hst0 : st.map (am_cv E) = (as.map (am_cv E)).reverse ++ r.map (am_cv E) := by rw [e1, e2, List.map_append, List.map_reverse, List.reverse_reverse]
  have hroom : (((r.map (am_cv E)).map fun v => v.category).sum) ≤ 8 := by rw [am_cat_sum]; exact hcat
  have hcell : cells + 0 ≤ R.cells ∧ slots + 0 ≤ R.slots := ⟨hce, hsl⟩
  have hM2 := hOk l E A
  have last : ∀ (v : am_V) (m' : am_M) (H1 : Heap) (locs1 : List Loc), am_vok v → K v m' → va_P E.1 vwCl (am_ws E m') H1 → am_MR m' → va_S A s.heap H1 locs1 → W p l e R s mm args below meth c H1 locs1 cells slots Q (F0 mm (pc + 3) ls ((am_rc E y2 v).toList ++ r.map (am_cv E))) := by
    intro v m' H1 locs1 hvv hKv hP1 hM1 hS1
    have k := k v m' hKv H1 locs1 ls ⟨hP1, hW.2.1, am_D_any hD, hM1⟩ hS1 hl hv
    unfold am_rc
    by_cases h0 : cc % 10 = 0
    · rw [if_pos h0] at k
      rw [if_pos (g11.mpr h0)]
      exact k hokr
    · rw [if_neg h0] at k
      rw [if_neg (fun h => h0 (g11.mp h))]
      exact k (am_vc hvv hokr)
  rcases hig with ⟨hkd, rfl⟩ | ⟨hkd, rfl⟩
  · rw [if_pos hkd] at g2 g7 g8
    have hlen : (as.map (am_cv E)).length = cc % 1000 / 10 := by rw [List.length_map, e2, List.length_reverse, e3]
    have hstat := hts _ (am_big_of g2 rfl)
    by_cases h0 : kd = 0
    · rw [if_pos (Or.inl h0)] at g1
      have cw := callB_of (R := R) (mc := 0) (ms := 0) (cc % 1000 / 10) hts hgood rfl rfl rfl hini (hts _ (am_big_of g1 rfl)) ⟨g5, g6, g7⟩ hR
      exact am_back (va_runS (As := as.map (am_cv E)) (rest := r.map (am_cv E)) hfix hM2 ⟨cw, hstat⟩ ⟨am_blind E A as m, hpre⟩ rfl hlen hl.1 hst0 (lv_room hroom) hd hcell) hS last
    · rw [if_neg (by omega)] at g1
      have hnw : va_Nw (.methodLinkNest (am_cn.getD (am_mi y).2.2.2.2 "") i (am_mi y2).1 "TripleSieve") s := hRO.2.2.2.2.2.2.1 _ (List.mem_filter.mpr ⟨List.mem_of_getElem? g1, rfl⟩)
      have cw := va_cnB (R := R) (mc := 0) (ms := 0) (cc % 1000 / 10) hts hgood rfl rfl rfl hnw hini ⟨g5, g6, g7⟩ hR
      exact am_back (va_runSN (As := as.map (am_cv E)) (rest := r.map (am_cv E)) hfix hM2 ⟨cw, hstat, trivial⟩ ⟨am_blind E A as m, hpre⟩ rfl hlen hl.1 hst0 (lv_room hroom) hd hcell) hS last
  · rw [if_neg hkd] at g2 g7 g8
    obtain ⟨q, as', rfl, hq⟩ := hrc.resolve_left (by have := g8.2.1; omega)
    have hlen : (as'.map (am_cv E)).length = cc % 1000 / 10 - 1 := by
      have h3 : (Sum.inr (Sum.inr q) :: as' : List am_V).length = cc % 1000 / 10 := by rw [e2, List.length_reverse, e3]
      rw [List.length_map]
      rw [List.length_cons] at h3
      omega
    have hinst := hts _ (am_big_of g2 rfl)
    have hsel := hts _ (am_big_of (g3.resolve_left hkd) rfl)
    have hrecv : ∃ cellB : Cell, H[am_ad E q]? = some cellB ∧ cellB.vm.isStatics = false ∧ s.vm.findClass (am_mi y2).1.cls = some cellB.cls := by
      obtain ⟨k1, k2, k3⟩ := g8
      rcases hq with ⟨q1, q2, q3⟩ | ⟨q1, q2⟩
      · rcases k3 with ⟨-, k4⟩ | ⟨k4, -⟩
        · have := vk_recv hRO.2.2.2.1 (i := q - 1000) (by omega) hS
          rw [k4]
          rw [show 1000 + (q - 1000) = q by omega] at this
          exact this
        · omega
      · rcases k3 with ⟨k4, -⟩ | ⟨k4, k5⟩
        · exact absurd k4 q1
        · have hk100 : (am_lay q).1 < 100 := by omega
          have hqN : q < am_N := am_lay_lt (by omega)
          have hws := am_ws_get E m hqN
          rw [am_cell_obj hk100] at hws
          have := va_recv hK hP (am_C_at (ci := (am_lay q).1) (by omega)) hws
          rw [← k5, ← q2]
          exact this
    have hst1 : st.map (am_cv E) = (as'.map (am_cv E)).reverse ++ .ref (am_ad E q) :: r.map (am_cv E) := by rw [hst0]; simp [am_cv]
    by_cases h0 : kd = 2
    · rw [if_pos (Or.inr h0)] at g1
      have cw := callB_of (R := R) (mc := 0) (ms := 0) (cc % 1000 / 10 - 1) hts hgood rfl rfl rfl hini (hts _ (am_big_of g1 rfl)) ⟨g5, g6, g7⟩ hR
      exact am_back (va_runV (As := as'.map (am_cv E)) (b := am_ad E q) (C := (am_mi y2).1.cls) (rest := r.map (am_cv E)) hfix hM2 ⟨cw, hinst, hsel⟩ ⟨am_blind E A _ m, hrecv, hpre⟩ rfl hlen hl.1 hst1 (lv_room hroom) hd hcell) hS last
    · rw [if_neg (by omega)] at g1
      have hnw : va_Nw (.methodLinkNest (am_cn.getD (am_mi y).2.2.2.2 "") i (am_mi y2).1 "TripleSieve") s := hRO.2.2.2.2.2.2.1 _ (List.mem_filter.mpr ⟨List.mem_of_getElem? g1, rfl⟩)
      have cw := va_cnB (R := R) (mc := 0) (ms := 0) (cc % 1000 / 10 - 1) hts hgood rfl rfl rfl hnw hini ⟨g5, g6, g7⟩ hR
      exact am_back (va_runVN (As := as'.map (am_cv E)) (b := am_ad E q) (C := (am_mi y2).1.cls) (rest := r.map (am_cv E)) hfix hM2 ⟨cw, hinst, hsel⟩ ⟨am_blind E A _ m, hrecv, hpre⟩ rfl hlen hl.1 hst1 (lv_room hroom) hd hcell) hS last
end
end
section
def am_rng (z : Int) : Bool := decide (-2147483648 ≤ z) && decide (z ≤ 2147483647)
def am_lkI : List (Int × Int) → Int → Int → Int
  | [], _, d => d
  | (k, t) :: r, x, d => if x = k then t else am_lkI r x d
/-- the abstract instruction beside the real one -/
def am_rel (rt : Option FieldType) (o mx pc : Nat) (real : Instr) (len : Nat) (abs : Instr) : Bool := match real, abs with
  | .iconst n, .iconst z => decide (Int32.ofInt n = Int32.ofInt z) && am_rng z && Nat.beq len 1
  | .bipush n, .iconst z => decide ((Int8.ofInt n).toInt32 = Int32.ofInt z) && am_rng z && Nat.beq len 2
  | .sipush n, .iconst z => decide ((Int16.ofInt n).toInt32 = Int32.ofInt z) && am_rng z && Nat.beq len 3
  | .ldc i, .iconst z => (am_ct.getD o []).any (fun e => Nat.beq e.1 i && decide (e.2.1 = z)) && am_rng z && Nat.beq len 2
  | .ldc_w i, .iconst z => (am_ct.getD o []).any (fun e => Nat.beq e.1 i && decide (e.2.1 = z)) && am_rng z && Nat.beq len 3
  | .ldc i, .ldc n => Nat.beq o 6 && (am_sl.getD 6 []).any (fun e => Nat.beq e.1 i && Nat.beq e.2 n) && Nat.beq len 2
  | .lconst n, .ldc2_w k => Nat.beq n.val k && Nat.beq len 1
  | .ldc2_w i, .ldc2_w n => (am_lt.getD o []).any (fun e => Nat.beq e.1 i && Nat.beq e.2.1 n) && Nat.beq len 3
  | .iload_n n, .iload k => Nat.beq n.val k && Nat.beq len 1
  | .lload_n n, .lload k => Nat.beq n.val k && Nat.beq len 1
  | .aload_n n, .aload k => Nat.beq n.val k && Nat.beq len 1
  | .iload n, .iload k => Nat.beq n k && Nat.beq len 2
  | .lload n, .lload k => Nat.beq n k && Nat.beq len 2
  | .aload n, .aload k => Nat.beq n k && Nat.beq len 2
  | .istore_n n, .istore k => Nat.beq n.val k && Nat.blt k mx && Nat.beq len 1
  | .lstore_n n, .lstore k => Nat.beq n.val k && Nat.blt (k + 1) mx && Nat.beq len 1
  | .astore_n n, .astore k => Nat.beq n.val k && Nat.blt k mx && Nat.beq len 1
  | .istore n, .istore k => Nat.beq n k && Nat.blt k mx && Nat.beq len 2
  | .lstore n, .lstore k => Nat.beq n k && Nat.blt (k + 1) mx && Nat.beq len 2
  | .astore n, .astore k => Nat.beq n k && Nat.blt k mx && Nat.beq len 2
  | .iinc n a, .iinc k b => Nat.beq n k && decide (a = b) && Nat.blt k mx && Nat.beq len 3
  | .getfield i, .getfield n => (am_ft.getD o []).any (fun e => Nat.beq e.1 i && Nat.beq e.2.1 n) && Nat.beq len 3
  | .putfield i, .putfield n => (am_ft.getD o []).any (fun e => Nat.beq e.1 i && Nat.beq e.2.1 n) && Nat.beq len 3
  | .getstatic i, .getstatic n => (am_gs.getD o []).any (fun e => Nat.beq e.1 i && Nat.beq e.2.1 n) && Nat.beq len 3
  | .ifCond c off, .ifCond c2 t => decide (c = c2) && decide ((pc : Int) + off = t) && decide (0 ≤ t) && Nat.beq len 3
  | .if_icmp c off, .if_icmp c2 t => decide (c = c2) && decide ((pc : Int) + off = t) && decide (0 ≤ t) && Nat.beq len 3
  | .goto off, .goto t => decide ((pc : Int) + off = t) && decide (0 ≤ t) && Nat.beq len 3
  | .tableswitch dd lo hi offs, .lookupswitch d ps => decide ((pc : Int) + dd = d) && decide (0 ≤ d) && ps.toList.all (fun e => decide (lo ≤ e.1) && decide (e.1 ≤ hi) && decide (0 ≤ e.2)) && (List.range (hi - lo + 1).toNat).all (fun j => match offs[j]? with | some of => decide ((pc : Int) + of = am_lkI ps.toList (lo + j) d) | none => false)
  | .lookupswitch dd qs, .lookupswitch d ps => decide ((pc : Int) + dd = d) && decide (0 ≤ d) && (qs.toList.zip (qs.toList.drop 1)).all (fun (a, next) => a.1 < next.1) && ps.toList.all (fun e => decide (0 ≤ e.2) && qs.toList.any (fun q => decide (q.1 = e.1))) && qs.toList.all (fun q => decide ((pc : Int) + q.2 = am_lkI ps.toList q.1 d))
  | .invokevirtual i, .invokeinterface y c => (am_mt.getD o []).any (fun e => Nat.beq e.1 i && Nat.beq e.2.1 y && Nat.ble 2 e.2.2.1 && Nat.beq e.2.2.2.1 c) && Nat.beq len 3
  | .invokestatic i, .invokeinterface y c => (am_mt.getD o []).any (fun e => Nat.beq e.1 i && Nat.beq e.2.1 y && Nat.blt e.2.2.1 2 && Nat.beq e.2.2.2.1 c) && Nat.beq len 3
  | .invokestatic i, .fsub => (am_mt.getD o []).any (fun e => Nat.beq e.1 i && Nat.beq e.2.1 195 && Nat.beq e.2.2.1 0) && Nat.beq len 3
  | .invokestatic i, .fadd => (am_mt.getD o []).any (fun e => Nat.beq e.1 i && Nat.beq e.2.1 196 && Nat.beq e.2.2.1 0) && Nat.beq len 3
  | .invokestatic i, .invokedynamic _ => (am_act.getD o []).any (fun e => Nat.beq e.1 i) && Nat.beq len 3
  | .iadd, .iadd => Nat.beq len 1
  | .isub, .isub => Nat.beq len 1
  | .imul, .imul => Nat.beq len 1
  | .idiv, .idiv => Nat.beq len 1
  | .irem, .irem => Nat.beq len 1
  | .iand, .iand => Nat.beq len 1
  | .ior, .ior => Nat.beq len 1
  | .ixor, .ixor => Nat.beq len 1
  | .ishl, .ishl => Nat.beq len 1
  | .ishr, .ishr => Nat.beq len 1
  | .iushr, .iushr => Nat.beq len 1
  | .i2b, .i2b => Nat.beq len 1
  | .i2l, .i2l => Nat.beq len 1
  | .l2i, .l2i => Nat.beq len 1
  | .ladd, .ladd => Nat.beq len 1
  | .lsub, .lsub => Nat.beq len 1
  | .lmul, .lmul => Nat.beq len 1
  | .land, .land => Nat.beq len 1
  | .lor, .lor => Nat.beq len 1
  | .lxor, .lxor => Nat.beq len 1
  | .lneg, .lneg => Nat.beq len 1
  | .lshl, .lshl => Nat.beq len 1
  | .lshr, .lshr => Nat.beq len 1
  | .lushr, .lushr => Nat.beq len 1
  | .lcmp, .lcmp => Nat.beq len 1
  | .dup, .dup => Nat.beq len 1
  | .dup2, .dup2 => Nat.beq len 1
  | .pop, .pop => Nat.beq len 1
  | .iaload, .iaload => Nat.beq len 1
  | .baload, .baload => Nat.beq len 1
  | .laload, .laload => Nat.beq len 1
  | .aaload, .aaload => Nat.beq len 1
  | .iastore, .iastore => Nat.beq len 1
  | .bastore, .bastore => Nat.beq len 1
  | .lastore, .lastore => Nat.beq len 1
  | .arraylength, .arraylength => Nat.beq len 1
  | .ireturn, .ireturn => Nat.beq len 1 && am_rtk rt .ireturn
  | .lreturn, .lreturn => Nat.beq len 1 && am_rtk rt .lreturn
  | .areturn, .areturn => Nat.beq len 1 && am_rtk rt .areturn
  | .return_, .return_ => Nat.beq len 1 && am_rtk rt .return_
  | _, _ => false
def am_one (rt : Option FieldType) (o mx : Nat) (by' : ByteArray) (e : am_I) : Bool := match e.2.2.2 with
  | .goto_w t => decide ((e.1 : Int) = t)
  | _ => decide (decode by' e.1 = .ok (e.2.1, e.2.2.1)) && am_rel rt o mx e.1 e.2.1 e.2.2.1 e.2.2.2
def am_chkL (rt : Option FieldType) (o mx : Nat) (by' : ByteArray) : List am_I → Bool
  | [] => true
  | e :: r => am_one rt o mx by' e && (match r with | [] => true | e2 :: _ => Nat.beq e2.1 (e.1 + e.2.2.1)) && am_chkL rt o mx by' r
def am_chk (y : Nat) (bl : List (Nat × List am_I)) (ct : List (Nat × List Nat)) (b : Bool) : Bool := plainName (am_mi y).1.cls && decide (am_cn.getD (am_mi y).2.2.2.2 "" = (am_mi y).1.cls) && (match am_bool y, b with | true, true => true | false, false => true | _, _ => false) && bl.all fun e => am_chkL (am_mi y).2.2.2.1 (am_mi y).2.2.2.2 (am_mi y).2.2.1 (am_mi y).2.1 e.2 && (match e.2 with | [] => false | x :: _ => Nat.beq x.1 e.1)
end
section
section
variable {p : Program} {l : Launch} {e : Env} {R : Room} {s : State} {mm : MethodId} {args : Array Value} {below : List Frame} {meth : Method} {c : Code} {cells slots : Nat} {Q : State → Prop} {E : am_E} {A : Nat → Prop} {y d : Nat} {P : am_V → am_M → Prop}
  {pc : Nat} {lv : am_L} {r st : List am_V} {m : am_M}
theorem am_lsw_spec {x : Int} {J : Int → Prop} {d : Int} : ∀ {ps : List (Int × Int)} {ns : List Int}, am_lsw x J d ps ns → (∀ n ∈ ns, x ≠ n) → J (am_lkI ps x d)
  | [], ns, h, hn => by
    unfold am_lsw at h
    show J d
    induction ns with
    | nil => exact h
    | cons a ns ih => exact ih (fun n hh => hn n (List.mem_cons_of_mem _ hh)) (h (hn a List.mem_cons_self))
  | (k, t) :: ps, ns, h, hn => by
    unfold am_lsw at h
    unfold am_lkI
    by_cases hx : x = k
    · rw [if_pos hx]; exact h.1 hx
    · rw [if_neg hx]
      exact am_lsw_spec h.2 (fun n hh => by
        rcases List.mem_cons.mp hh with rfl | hh
        · exact hx
        · exact hn n hh)
theorem am_lkI_none {x d : Int} : ∀ {ps : List (Int × Int)}, (∀ q ∈ ps, q.1 ≠ x) → am_lkI ps x d = d
  | [], _ => rfl
  | (k, t) :: ps, h => by
    unfold am_lkI
    rw [if_neg (fun hh => h (k, t) List.mem_cons_self hh.symm)]
    exact am_lkI_none (fun q hq => h q (List.mem_cons_of_mem _ hq))
theorem am_lkI_nn {x d : Int} (hd : 0 ≤ d) : ∀ {ps : List (Int × Int)}, (∀ q ∈ ps, 0 ≤ q.2) → 0 ≤ am_lkI ps x d
  | [], _ => hd
  | (k, t) :: ps, h => by
    unfold am_lkI
    split
    · exact h (k, t) List.mem_cons_self
    · exact am_lkI_nn hd (fun q hq => h q (List.mem_cons_of_mem _ hq))
theorem am_off {x dd : Int} : ∀ {qs : List (Int × Int)}, (∃ q ∈ qs, q.1 = x ∧ Op.lookupswitch.offset qs dd x = q.2) ∨ ((∀ q ∈ qs, q.1 ≠ x) ∧ Op.lookupswitch.offset qs dd x = dd)
  | [] => Or.inr ⟨fun _ h => absurd h List.not_mem_nil, rfl⟩
  | (a, t) :: qs => by
    rw [Op.lookupswitch.offset_cons]
    by_cases h : a = x
    · rw [if_pos h]
      exact Or.inl ⟨(a, t), List.mem_cons_self, h, rfl⟩
    · rw [if_neg h]
      rcases am_off (x := x) (dd := dd) (qs := qs) with ⟨q, h1, h2, h3⟩ | ⟨h1, h2⟩
      · exact Or.inl ⟨q, List.mem_cons_of_mem _ h1, h2, h3⟩
      · refine Or.inr ⟨fun q hq => ?_, h2⟩
        rcases List.mem_cons.mp hq with rfl | hq
        · exact h
        · exact h1 q hq
theorem am_lk_mem {α : Type} : ∀ {l : List (Nat × α)} {i : Nat} {v : α}, am_lk l i = some v → (i, v) ∈ l
  | [], _, _, h => by cases h
  | (k, w) :: r, i, v, h => by
    unfold am_lk at h
    split at h
    · rename_i hb
      cases h
      have := Nat.eq_of_beq_eq_true hb
      subst this
      exact List.mem_cons_self
    · exact List.mem_cons_of_mem _ (am_lk_mem h)
theorem am_pick_mem : ∀ {ks : List Nat} {lv lv2 : am_L}, am_pick lv ks = some lv2 → ∀ q ∈ lv2, q ∈ lv
  | [], lv, lv2, h => by
    cases h
    intro q hq
    cases hq
  | k :: ks, lv, lv2, h => by
    unfold am_pick at h
    split at h
    · cases h
    · rename_i v hv
      split at h
      · cases h
      · rename_i r hr
        cases h
        intro q hq
        rcases List.mem_cons.mp hq with rfl | hq
        · exact am_lvget hv
        · exact am_pick_mem hr q hq
theorem am_at_sub {lv2 : am_L} (hs : ∀ q ∈ lv2, q ∈ lv) (h : am_at p l e R s mm args below meth c cells slots Q E A y pc lv2 st m) : am_at p l e R s mm args below meth c cells slots Q E A y pc lv st m := by
  intro H locs ls hW hS hl hv hst
  refine h H locs ls hW hS ⟨hl.1, hl.2.1, fun q hq => ?_⟩ (fun q hq => hv q (hs q hq)) hst
  obtain ⟨x, hx, rfl⟩ := List.mem_map.mp hq
  exact hl.2.2 _ (List.mem_map.mpr ⟨x, hs x hx, rfl⟩)
theorem am_beq {a b : Nat} : (Nat.beq a b = true) ↔ a = b := ⟨Nat.eq_of_beq_eq_true, fun h => by rw [h]; exact Nat.beq_refl b⟩
theorem am_ble {a b : Nat} : (Nat.ble a b = true) ↔ a ≤ b := ⟨Nat.le_of_ble_eq_true, Nat.ble_eq_true_of_le⟩
theorem am_blt {a b : Nat} : (Nat.blt a b = true) ↔ a < b := am_ble
theorem am_rgf {q k t x : Nat} (hq : q < am_N) (hk : (am_lay q).1 < 100) (he : (am_lay q).2[k]? = some (t, x)) (ht : t ≠ 2) (ht3 : t ≠ 3) : am_rg x = 0 := by
  obtain ⟨hx, h100⟩ := am_idq hq hk he ht
  have e1 : (x - 1000) / 100 = q := by omega
  have e2 : (x - 1000) % 100 = k := by omega
  have e3 : (am_lay q).2.getD k (0, 0) = (t, x) := by rw [List.getD_eq_getElem?_getD, he]; rfl
  unfold am_rg
  rw [if_neg (by omega), e1, e2, e3, if_neg (fun h => ht3 h.1)]
theorem am_rgz {q k x : Nat} (hq : q < am_N) (hk : (am_lay q).1 < 100) (he : (am_lay q).2[k]? = some (3, x)) : am_rg x = 1 := by
  obtain ⟨hx, h100⟩ := am_idq hq hk he (by decide)
  have e1 : (x - 1000) / 100 = q := by omega
  have e2 : (x - 1000) % 100 = k := by omega
  have e3 : (am_lay q).2.getD k (0, 0) = (3, x) := by rw [List.getD_eq_getElem?_getD, he]; rfl
  unfold am_rg
  rw [if_neg (by omega), e1, e2, e3, if_pos ⟨rfl, hk⟩]
theorem am_lenL : ∀ q, q < am_N → am_len q < 2147483648 := by decide +kernel
theorem s_ret (C : am_Cx p l e R s mm args below meth c cells slots Q E A y d P) {i : Instr} {v : am_V} (hd : decode (am_mi y).2.1 pc = .ok (i, 1)) (hrt : am_rtk (am_mi y).2.2.2.1 i = true) (hi : am_isRet i v) (hb2 : am_bool y = true → ∀ z, v = .inl z → z = 0 ∨ z = 1) (hp : P v m) : am_at p l e R s mm args below meth c cells slots Q E A y pc lv (match i with | .return_ => [] | _ => [v]) m := by
  obtain ⟨hx, hb, hml, hown, hts, hfr, hlo, hce, hsl, hRO, hK, hret⟩ := id C
  intro H locs ls hW hS hl hv hst
  have hvok : am_vok v := by
    cases i <;> first | exact hst v List.mem_cons_self | skip
    rcases v with z | z | z
    · rw [show z = 0 from hi]; exact am_R0
    · exact trivial
    · exact trivial
  have h := hret i pc ls H locs m v hd hrt hi hvok hb2 hp hW hS
  unfold am_rst at h
  cases i <;> exact h
theorem am_aldL_spec {i : Int} {k : Nat → Prop} : ∀ {n : Int} {l : List (Nat × Nat)}, am_aldL i k n l → n ≤ i → i < n + (l.length : Int) → k (l.getD (i - n).toNat (0, 0)).1
  | n, [], h, h1, h2 => by simp at h2; omega
  | n, (q, x) :: l, h, h1, h2 => by
    unfold am_aldL at h
    by_cases hn : i = n
    · subst hn
      rw [Int.sub_self]
      exact h.1 rfl
    · have h3 := am_aldL_spec h.2 (by omega) (by rw [List.length_cons] at h2; omega)
      have e : (i - n).toNat = (i - (n + 1)).toNat + 1 := by omega
      rw [e]
      exact h3
theorem am_inv_spec {call : am_Call} {y2 cc : Nat} {K : am_K} (h : am_inv call y2 cc lv st m K) : ∃ (as r : List am_V) (K2 : am_V → am_M → Prop), am_popn (cc % 1000 / 10) [] st = some (as, r) ∧ am_cat r ≤ 8 ∧ (cc / 1000 = 0 ∨ ∃ q as', as = .inr (.inr q) :: as' ∧ ((cc / 1000 = 17 ∧ 1000 ≤ q ∧ q < 1014) ∨ (cc / 1000 ≠ 17 ∧ (am_lay q).1 = cc / 1000 - 1))) ∧ call y2 as m K2 ∧ ∀ v m', K2 v m' → K lv (if cc % 10 = 0 then r else v :: r) m' := by
  unfold am_inv at h
  split at h
  · exact h.elim
  · rename_i as r hp
    split at h
    · exact h.elim
    · rename_i hc
      have key : ∀ X : Prop, am_rcv (cc / 1000) as X → X ∧ (cc / 1000 = 0 ∨ ∃ q as', as = .inr (.inr q) :: as' ∧ ((cc / 1000 = 17 ∧ 1000 ≤ q ∧ q < 1014) ∨ (cc / 1000 ≠ 17 ∧ (am_lay q).1 = cc / 1000 - 1))) := by
        intro X hX
        generalize cc / 1000 = n at hX ⊢
        unfold am_rcv at hX
        split at hX
        · exact ⟨hX, Or.inl rfl⟩
        · split at hX
          · exact ⟨hX.2, Or.inr ⟨_, _, rfl, Or.inl ⟨rfl, hX.1⟩⟩⟩
          · exact hX.elim
        · rename_i n hn
          split at hX
          · split at hX
            · rename_i hb
              exact ⟨hX, Or.inr ⟨_, _, rfl, Or.inr ⟨fun hh => hn (by omega), by rw [am_beq.mp hb]; rfl⟩⟩⟩
            · exact hX.elim
          · exact hX.elim
      obtain ⟨h, hr⟩ := key _ h
      split at h
      · rename_i h0
        exact ⟨as, r, _, hp, am_ble.mp hc, hr, h, fun v m' hv => by rw [if_pos h0]; exact hv⟩
      · rename_i h0
        refine ⟨as, r, _, hp, am_ble.mp hc, hr, h, fun v m' hv => ?_⟩
        rw [if_neg (by omega)]
        rcases v with z | z | z
        · exact hv
        · exact hv.elim
        · exact hv.elim
      · rename_i h0
        refine ⟨as, r, _, hp, am_ble.mp hc, hr, h, fun v m' hv => ?_⟩
        rw [if_neg (by omega)]
        rcases v with z | z | z
        · exact hv.elim
        · exact hv
        · exact hv.elim
      · rename_i h0 h1 h2
        refine ⟨as, r, _, hp, am_ble.mp hc, hr, h, fun v m' hv => ?_⟩
        rw [if_neg h0]
        rcases v with z | z | z
        · exact hv.elim
        · exact hv.elim
        · exact hv
theorem s_min (C : am_Cx p l e R s mm args below meth c cells slots Q E A y (d + 1) P) {i cc w1 w2 w3 w4 : Nat} {a b : Int} (hf : (i, 195, 0, cc, w1, w2, w3, w4) ∈ am_mt.getD (am_mi y).2.2.2.2 []) (hcat : am_cat st ≤ 8) (hd : decode (am_mi y).2.1 pc = .ok (.invokestatic i, 3)) (k : am_at p l e R s mm args below meth c cells slots Q E A y (pc + 3) lv (.inl (if b < a then b else a) :: st) m) : am_at p l e R s mm args below meth c cells slots Q E A y pc lv (.inl b :: .inl a :: st) m := by
  obtain ⟨hx, hb, hml, hown, hts, hfr, hlo, hce, hsl, hRO, hK, hret⟩ := id C
  intro H locs ls hW hS hl hv hst
  have h1 := am_all17 (f := fun o => am_mt.getD o []) (List.all_eq_true.mpr fun o ho => am_mt_ok o (List.mem_range.mp ho)) am_mt17 hf
  simp only [am_mck, Bool.and_eq_true, decide_eq_true_eq, Bool.or_eq_true] at h1
  obtain ⟨⟨⟨⟨⟨⟨⟨⟨⟨⟨g1, g2⟩, g3⟩, g4⟩, g5⟩, g6⟩, g7⟩, g8⟩, g9⟩, g10⟩, g11⟩ := h1
  have ra : am_R a := am_vh (am_vt hst)
  have rb : am_R b := am_vh hst
  have rr : am_R (if b < a then b else a) := by split <;> assumption
  have k := k H locs ls hW hS hl hv (am_vc rr (am_vt (am_vt hst)))
  have e1 : Int32.ofInt (if b < a then b else a) = if Int32.ofInt b < Int32.ofInt a then Int32.ofInt b else Int32.ofInt a := by
    by_cases hc : b < a
    · rw [if_pos hc, if_pos ((am_ltI rb ra).mpr hc)]
    · rw [if_neg hc, if_neg (fun hh => hc ((am_ltI rb ra).mp hh))]
  simp only [List.map_cons, am_cv, e1] at k
  exact va_mmin hx hb (hml.trans hl.1.symm) hown (hts _ (am_big_of g1 rfl)) (hts _ (am_big_of g2 rfl)) (hts _ (am_big_of g4 rfl)) (hts _ (cwb_195 : am_cwP 195)) (by omega) (by rw [am_cat_sum]; omega) hce hsl hd k
theorem s_max (C : am_Cx p l e R s mm args below meth c cells slots Q E A y (d + 1) P) {i cc w1 w2 w3 w4 : Nat} {a b : Int} (hf : (i, 196, 0, cc, w1, w2, w3, w4) ∈ am_mt.getD (am_mi y).2.2.2.2 []) (hcat : am_cat st ≤ 8) (hd : decode (am_mi y).2.1 pc = .ok (.invokestatic i, 3)) (k : am_at p l e R s mm args below meth c cells slots Q E A y (pc + 3) lv (.inl (if a < b then b else a) :: st) m) : am_at p l e R s mm args below meth c cells slots Q E A y pc lv (.inl b :: .inl a :: st) m := by
  obtain ⟨hx, hb, hml, hown, hts, hfr, hlo, hce, hsl, hRO, hK, hret⟩ := id C
  intro H locs ls hW hS hl hv hst
  have h1 := am_all17 (f := fun o => am_mt.getD o []) (List.all_eq_true.mpr fun o ho => am_mt_ok o (List.mem_range.mp ho)) am_mt17 hf
  simp only [am_mck, Bool.and_eq_true, decide_eq_true_eq, Bool.or_eq_true] at h1
  obtain ⟨⟨⟨⟨⟨⟨⟨⟨⟨⟨g1, g2⟩, g3⟩, g4⟩, g5⟩, g6⟩, g7⟩, g8⟩, g9⟩, g10⟩, g11⟩ := h1
  have ra : am_R a := am_vh (am_vt hst)
  have rb : am_R b := am_vh hst
  have rr : am_R (if a < b then b else a) := by split <;> assumption
  have k := k H locs ls hW hS hl hv (am_vc rr (am_vt (am_vt hst)))
  have e1 : Int32.ofInt (if a < b then b else a) = if Int32.ofInt a < Int32.ofInt b then Int32.ofInt b else Int32.ofInt a := by
    by_cases hc : a < b
    · rw [if_pos hc, if_pos ((am_ltI ra rb).mpr hc)]
    · rw [if_neg hc, if_neg (fun hh => hc ((am_ltI ra rb).mp hh))]
  simp only [List.map_cons, am_cv, e1] at k
  exact va_mmax hx hb (hml.trans hl.1.symm) hown (hts _ (am_big_of g1 rfl)) (hts _ (am_big_of g2 rfl)) (hts _ (am_big_of g4 rfl)) (hts _ (cwb_196 : am_cwP 196)) (by omega) (by rw [am_cat_sum]; omega) hce hsl hd k
theorem am_any {α : Type} {l : List α} {f : α → Bool} (h : l.any f = true) : ∃ x, x ∈ l ∧ f x = true := List.any_eq_true.mp h
set_option maxHeartbeats 4000000 in
set_option maxRecDepth 20000 in
theorem am_stepS (C : am_Cx p l e R s mm args below meth c cells slots Q E A y (d + 1) P) (hLs : am_R (am_sc E).1) {x : am_I} (hone : am_one (am_mi y).2.2.2.1 (am_mi y).2.2.2.2 (am_mi y).2.2.1 (am_mi y).2.1 x = true) {b : Bool} (hbb : b = am_bool y) {K : am_K} {J : Nat → am_K}
    (hK : ∀ lv st m, K lv st m → am_at p l e R s mm args below meth c cells slots Q E A y (x.1 + x.2.2.1) lv st m) (hJ : ∀ t lv st m, J t lv st m → am_at p l e R s mm args below meth c cells slots Q E A y t lv st m) (h : am_step (am_sc E) (am_Ok d) b P x.2.2.2 lv st m K J) : am_at p l e R s mm args below meth c cells slots Q E A y x.1 lv st m := by
  obtain ⟨pc, real, len, abs⟩ := x
  simp only at hK h ⊢
  simp only [am_one] at hone
  split at hone
  · rename_i t
    simp only [decide_eq_true_eq] at hone
    have h := hJ _ _ _ _ h
    rw [← hone] at h
    exact h
  · simp only [Bool.and_eq_true, decide_eq_true_eq] at hone
    obtain ⟨hd, hrel⟩ := hone
    unfold am_rel at hrel
    split at hrel
    all_goals simp only [Bool.and_eq_true, decide_eq_true_eq, am_beq, am_blt, am_ble, am_rng, Bool.false_eq_true] at hrel
    all_goals simp only [am_step] at h
    · obtain ⟨⟨h1, h2⟩, rfl⟩ := hrel
      exact s_iconst C h1 h2 hd (hK _ _ _ h)
    · obtain ⟨⟨h1, h2⟩, rfl⟩ := hrel
      exact s_bipush C h1 h2 hd (hK _ _ _ h)
    · obtain ⟨⟨h1, h2⟩, rfl⟩ := hrel
      exact s_sipush C h1 h2 hd (hK _ _ _ h)
    · obtain ⟨⟨h1, h2⟩, rfl⟩ := hrel
      obtain ⟨⟨i1, z1, w1⟩, g1, g2⟩ := am_any h1
      simp only [Bool.and_eq_true, decide_eq_true_eq, am_beq] at g2
      obtain ⟨rfl, rfl⟩ := g2
      exact s_ldc C (am_clink g1) h2 hd (hK _ _ _ h)
    · obtain ⟨⟨h1, h2⟩, rfl⟩ := hrel
      obtain ⟨⟨i1, z1, w1⟩, g1, g2⟩ := am_any h1
      simp only [Bool.and_eq_true, decide_eq_true_eq, am_beq] at g2
      obtain ⟨rfl, rfl⟩ := g2
      exact s_ldcw C (am_clink g1) h2 hd (hK _ _ _ h)
    · obtain ⟨⟨h0, h1⟩, rfl⟩ := hrel
      obtain ⟨⟨i1, n1⟩, g1, g2⟩ := am_any h1
      simp only [Bool.and_eq_true, am_beq] at g2
      obtain ⟨rfl, rfl⟩ := g2
      exact s_ldcS C (by rw [h0]; rfl) g1 hd (hK _ _ _ h)
    · obtain ⟨rfl, rfl⟩ := hrel
      exact s_lconst C hd (hK _ _ _ h)
    · obtain ⟨h1, rfl⟩ := hrel
      obtain ⟨⟨i1, n1, w1⟩, g1, g2⟩ := am_any h1
      simp only [Bool.and_eq_true, am_beq] at g2
      obtain ⟨rfl, rfl⟩ := g2
      exact s_ldc2 C (am_llink g1) hd (hK _ _ _ h)
    · obtain ⟨h1, rfl⟩ := hrel
      unfold am_oi at h
      split at h
      · rename_i z hz
        exact s_iloadn C h1 hz hd (hK _ _ _ h)
      · exact h.elim
    · obtain ⟨h1, rfl⟩ := hrel
      unfold am_ol at h
      split at h
      · rename_i z hz
        exact s_lloadn C h1 hz hd (hK _ _ _ h)
      · exact h.elim
    · obtain ⟨h1, rfl⟩ := hrel
      unfold am_or' at h
      split at h
      · rename_i z hz
        exact s_aloadn C h1 hz hd (hK _ _ _ h)
      · exact h.elim
    · obtain ⟨rfl, rfl⟩ := hrel
      unfold am_oi at h
      split at h
      · rename_i z hz
        exact s_iload C hz hd (hK _ _ _ h)
      · exact h.elim
    · obtain ⟨rfl, rfl⟩ := hrel
      unfold am_ol at h
      split at h
      · rename_i z hz
        exact s_lload C hz hd (hK _ _ _ h)
      · exact h.elim
    · obtain ⟨rfl, rfl⟩ := hrel
      unfold am_or' at h
      split at h
      · rename_i z hz
        exact s_aload C hz hd (hK _ _ _ h)
      · exact h.elim
    · obtain ⟨⟨h1, h2⟩, rfl⟩ := hrel
      unfold am_i1 at h
      split at h
      · exact s_istoren C h1 h2 hd (hK _ _ _ h)
      · exact h.elim
    · obtain ⟨⟨h1, h2⟩, rfl⟩ := hrel
      unfold am_l1 at h
      split at h
      · exact s_lstoren C h1 h2 hd (hK _ _ _ h)
      · exact h.elim
    · obtain ⟨⟨h1, h2⟩, rfl⟩ := hrel
      unfold am_r1 at h
      split at h
      · exact s_astoren C h1 h2 hd (hK _ _ _ h)
      · exact h.elim
    · obtain ⟨⟨rfl, h2⟩, rfl⟩ := hrel
      unfold am_i1 at h
      split at h
      · exact s_istore C h2 hd (hK _ _ _ h)
      · exact h.elim
    · obtain ⟨⟨rfl, h2⟩, rfl⟩ := hrel
      unfold am_l1 at h
      split at h
      · exact s_lstore C h2 hd (hK _ _ _ h)
      · exact h.elim
    · obtain ⟨⟨rfl, h2⟩, rfl⟩ := hrel
      unfold am_r1 at h
      split at h
      · exact s_astore C h2 hd (hK _ _ _ h)
      · exact h.elim
    · obtain ⟨⟨⟨rfl, rfl⟩, h2⟩, rfl⟩ := hrel
      unfold am_oi at h
      split at h
      · rename_i z hz
        exact s_iinc C hz h2 h.1 hd (hK _ _ _ h.2)
      · exact h.elim
    · obtain ⟨h1, rfl⟩ := hrel
      obtain ⟨⟨i1, n1, f1, w1⟩, g1, g2⟩ := am_any h1
      simp only [Bool.and_eq_true, am_beq] at g2
      obtain ⟨rfl, rfl⟩ := g2
      unfold am_r1 at h
      split at h
      · unfold am_gf at h
        split at h
        · rename_i hg
          exact s_getfield (v := .inl _) C g1 hg (by decide) rfl (fun hM => hM.R _ _) hd (hK _ _ _ h)
        · rename_i hg
          exact s_getfield (v := .inr (.inl _)) C g1 hg (by decide) rfl (fun _ => trivial) hd (hK _ _ _ h)
        · rename_i hg
          exact s_getfield (v := .inr (.inr _)) C g1 hg (by decide) rfl (fun _ => trivial) hd (hK _ _ _ h)
        · rename_i hg
          exact s_getfield (v := .inl _) C g1 hg (by decide) rfl (fun hM => hM.R _ _) hd (hK _ _ _ h)
        · exact h.elim
      · exact h.elim
    · obtain ⟨h1, rfl⟩ := hrel
      obtain ⟨⟨i1, n1, f1, w1⟩, g1, g2⟩ := am_any h1
      simp only [Bool.and_eq_true, am_beq] at g2
      obtain ⟨rfl, rfl⟩ := g2
      unfold am_pf at h
      split at h
      · rename_i v q r
        split at h
        · rename_i x hg
          have hg' := am_fld_spec hg (by decide)
          have hk100 : (am_lay q).1 < 100 := by rw [hg'.2.1]; have := (am_flink g1).1; omega
          refine s_putfield C g1 hg (by decide) (by decide) (am_wr1 m x 0 v) (fun _ _ => rfl) (by show Value.int (Int32.ofInt ((am_wr m x 0 v).1 x 0)) = _; rw [am_wr_self]; rfl) ?_ (fun hM hv => hM.wr ?_) hd (hK _ _ _ h)
          · intro ty hty
            rcases hty with ⟨-, rfl⟩ | ⟨h0, -⟩ | ⟨h0, -⟩
            · exact ⟨rfl, rfl⟩
            · cases h0
            · cases h0
          · have hx := am_idq hg'.1 hk100 hg'.2.2 (by decide)
            rw [am_rgf hg'.1 hk100 hg'.2.2 (by decide) (by decide)]
            exact hv
        · rename_i x hg
          have hg' := am_fld_spec hg (by decide)
          have hk100 : (am_lay q).1 < 100 := by rw [hg'.2.1]; have := (am_flink g1).1; omega
          refine s_putfield C g1 hg (by decide) (by decide) (am_wr1 m x 0 v) (fun _ _ => rfl) (by show Value.int (Int32.ofInt ((am_wr m x 0 v).1 x 0)) = _; rw [am_wr_self]; rfl) ?_ (fun hM hv => hM.wr ?_) hd (hK _ _ _ h.2)
          · intro ty hty
            rcases hty with ⟨h0, -⟩ | ⟨h0, -⟩ | ⟨-, rfl⟩
            · cases h0
            · cases h0
            · exact ⟨(am_nb v h.1).1, (am_nb v h.1).2.1⟩
          · rw [am_rgz hg'.1 hk100 hg'.2.2]
            exact h.1
        · exact h.elim
      · rename_i v q r
        split at h
        · rename_i x hg
          refine s_putfield (m2 := am_wl m x 0 v) C g1 hg (by decide) (by decide) (fun _ _ => rfl) (am_wl2 m x 0 v) (by show Value.long ((am_wl m x 0 v).2 x 0) = _; rw [am_wl_self]; rfl) ?_ (fun hM hv => hM.wl) hd (hK _ _ _ h)
          intro ty hty
          rcases hty with ⟨h0, -⟩ | ⟨-, rfl⟩ | ⟨h0, -⟩
          · cases h0
          · exact ⟨rfl, rfl⟩
          · cases h0
        · exact h.elim
      · exact h.elim
    · obtain ⟨h1, rfl⟩ := hrel
      obtain ⟨⟨i1, n1, f1, w1⟩, g1, g2⟩ := am_any h1
      simp only [Bool.and_eq_true, am_beq] at g2
      obtain ⟨rfl, rfl⟩ := g2
      exact s_getstatic C g1 hd (hK _ _ _ h)
    · obtain ⟨⟨⟨rfl, h1⟩, h2⟩, rfl⟩ := hrel
      unfold am_i1 at h
      split at h
      · rename_i cnd off t _ _ a r
        have ht : (pc : Int) + off = ((t.toNat : Nat) : Int) := h1.trans (Int.toNat_of_nonneg h2).symm
        cases cnd
        · exact s_if_eq C ht hd (fun hh => hJ _ _ _ _ (h.1 hh)) (fun hh => hK _ _ _ (h.2 hh))
        · exact s_if_ne C ht hd (fun hh => hJ _ _ _ _ (h.1 hh)) (fun hh => hK _ _ _ (h.2 hh))
        · exact s_if_lt C ht hd (fun hh => hJ _ _ _ _ (h.1 hh)) (fun hh => hK _ _ _ (h.2 hh))
        · exact s_if_ge C ht hd (fun hh => hJ _ _ _ _ (h.1 hh)) (fun hh => hK _ _ _ (h.2 hh))
        · exact s_if_gt C ht hd (fun hh => hJ _ _ _ _ (h.1 hh)) (fun hh => hK _ _ _ (h.2 hh))
        · exact s_if_le C ht hd (fun hh => hJ _ _ _ _ (h.1 hh)) (fun hh => hK _ _ _ (h.2 hh))
      · exact h.elim
    · obtain ⟨⟨⟨rfl, h1⟩, h2⟩, rfl⟩ := hrel
      unfold am_i2 at h
      split at h
      · rename_i cnd off t _ _ b a r
        have ht : (pc : Int) + off = ((t.toNat : Nat) : Int) := h1.trans (Int.toNat_of_nonneg h2).symm
        cases cnd
        · exact s_icmp_eq C ht hd (fun hh => hJ _ _ _ _ (h.1 hh)) (fun hh => hK _ _ _ (h.2 hh))
        · exact s_icmp_ne C ht hd (fun hh => hJ _ _ _ _ (h.1 hh)) (fun hh => hK _ _ _ (h.2 hh))
        · exact s_icmp_lt C ht hd (fun hh => hJ _ _ _ _ (h.1 hh)) (fun hh => hK _ _ _ (h.2 hh))
        · exact s_icmp_ge C ht hd (fun hh => hJ _ _ _ _ (h.1 hh)) (fun hh => hK _ _ _ (h.2 hh))
        · exact s_icmp_gt C ht hd (fun hh => hJ _ _ _ _ (h.1 hh)) (fun hh => hK _ _ _ (h.2 hh))
        · exact s_icmp_le C ht hd (fun hh => hJ _ _ _ _ (h.1 hh)) (fun hh => hK _ _ _ (h.2 hh))
      · exact h.elim
    · obtain ⟨⟨h1, h2⟩, rfl⟩ := hrel
      exact s_goto C (h1.trans (Int.toNat_of_nonneg h2).symm) hd (hJ _ _ _ _ h)
    · obtain ⟨⟨⟨h1, h2⟩, h3⟩, h4⟩ := hrel
      unfold am_i1 at h
      split at h
      · rename_i dd lo hi offs d2 ps _ _ a r
        have hj := am_lsw_spec h (fun n hn => absurd hn List.not_mem_nil)
        have h3' : ∀ q ∈ ps.toList, (lo ≤ q.1 ∧ q.1 ≤ hi) ∧ 0 ≤ q.2 := fun q hq => by
          have := List.all_eq_true.mp h3 q hq
          simp only [Bool.and_eq_true, decide_eq_true_eq] at this
          exact this
        have hnn : 0 ≤ am_lkI ps.toList a d2 := am_lkI_nn h2 (fun q hq => (h3' q hq).2)
        by_cases hr : a < lo ∨ hi < a
        · rw [am_lkI_none (fun q hq hh => by have := h3' q hq; omega)] at hj
          exact s_tableOut C hr (h1.trans (Int.toNat_of_nonneg h2).symm) hd (hJ _ _ _ _ hj)
        · have hj4 := List.all_eq_true.mp h4 (a - lo).toNat (List.mem_range.mpr (by omega))
          split at hj4
          · rename_i of hof
            simp only [decide_eq_true_eq] at hj4
            rw [show lo + (((a - lo).toNat : Nat) : Int) = a by omega] at hj4
            exact s_tableIn C (fun hh => hr (Or.inl hh)) (fun hh => hr (Or.inr hh)) hof (hj4.trans (Int.toNat_of_nonneg hnn).symm) hd (hJ _ _ _ _ hj)
          · cases hj4
      · exact h.elim
    · obtain ⟨⟨⟨⟨h1, h2⟩, h3⟩, h4⟩, h5⟩ := hrel
      unfold am_i1 at h
      split at h
      · rename_i dd qs d2 ps _ _ a r
        have hj := am_lsw_spec h (fun n hn => absurd hn List.not_mem_nil)
        have h4' : ∀ q ∈ ps.toList, 0 ≤ q.2 ∧ ∃ x ∈ qs.toList, x.1 = q.1 := fun q hq => by
          have := List.all_eq_true.mp h4 q hq
          simp only [Bool.and_eq_true, decide_eq_true_eq] at this
          obtain ⟨x, hx1, hx2⟩ := am_any this.2
          exact ⟨this.1, x, hx1, of_decide_eq_true hx2⟩
        have hnn : 0 ≤ am_lkI ps.toList a d2 := am_lkI_nn h2 (fun q hq => (h4' q hq).1)
        refine s_lookup C h3 rfl (t := (am_lkI ps.toList a d2).toNat) ?_ hd (hJ _ _ _ _ hj)
        rw [Int.toNat_of_nonneg hnn]
        rcases am_off (x := a) (dd := dd) (qs := qs.toList) with ⟨q, g1, g2, g3⟩ | ⟨g1, g2⟩
        · have := of_decide_eq_true (List.all_eq_true.mp h5 q g1)
          rw [g3, this, g2]
        · rw [g2, h1, am_lkI_none (fun q hq hh => by
            obtain ⟨x, hx1, hx2⟩ := (h4' q hq).2
            exact g1 x hx1 (hx2.trans hh))]
      · exact h.elim
    · obtain ⟨h1, rfl⟩ := hrel
      obtain ⟨⟨i1, y1, k1, c1, w1, w2, w3, w4⟩, g1, g2⟩ := am_any h1
      simp only [Bool.and_eq_true, am_beq, am_ble, am_blt] at g2
      obtain ⟨⟨⟨rfl, rfl⟩, g3⟩, rfl⟩ := g2
      obtain ⟨as, r, K2, i1, i2, i3, i4, i5⟩ := am_inv_spec h
      exact s_call C g1 (Or.inr ⟨by omega, rfl⟩) i1 i2 i3 i4 hd (fun v m' hv => hK _ _ _ (i5 v m' hv))
    · obtain ⟨h1, rfl⟩ := hrel
      obtain ⟨⟨i1, y1, k1, c1, w1, w2, w3, w4⟩, g1, g2⟩ := am_any h1
      simp only [Bool.and_eq_true, am_beq, am_ble, am_blt] at g2
      obtain ⟨⟨⟨rfl, rfl⟩, g3⟩, rfl⟩ := g2
      obtain ⟨as, r, K2, i1, i2, i3, i4, i5⟩ := am_inv_spec h
      exact s_call C g1 (Or.inl ⟨g3, rfl⟩) i1 i2 i3 i4 hd (fun v m' hv => hK _ _ _ (i5 v m' hv))
    · obtain ⟨h1, rfl⟩ := hrel
      obtain ⟨⟨i1, y1, k1, c1, w1, w2, w3, w4⟩, g1, g2⟩ := am_any h1
      simp only [Bool.and_eq_true, am_beq] at g2
      obtain ⟨⟨rfl, rfl⟩, rfl⟩ := g2
      unfold am_i2s at h
      split at h
      · split at h
        · rename_i hc
          exact s_min C g1 (am_ble.mp hc) hd (hK _ _ _ h)
        · exact h.elim
      · exact h.elim
    · obtain ⟨h1, rfl⟩ := hrel
      obtain ⟨⟨i1, y1, k1, c1, w1, w2, w3, w4⟩, g1, g2⟩ := am_any h1
      simp only [Bool.and_eq_true, am_beq] at g2
      obtain ⟨⟨rfl, rfl⟩, rfl⟩ := g2
      unfold am_i2s at h
      split at h
      · split at h
        · rename_i hc
          exact s_max C g1 (am_ble.mp hc) hd (hK _ _ _ h)
        · exact h.elim
      · exact h.elim
    · obtain ⟨h1, rfl⟩ := hrel
      obtain ⟨⟨i1, w1⟩, g1, g2⟩ := am_any h1
      simp only [am_beq] at g2
      subst g2
      unfold am_cp at h
      split at h
      · split at h
        · split at h
          · rename_i hk
            simp only [Bool.and_eq_true, am_beq] at hk
            obtain ⟨rfl, hk⟩ := hk
            exact s_copyt C g1 hk h.1 h.2.1 h.2.2.1 h.2.2.2.1 h.2.2.2.2.1 (by omega) hd (hK _ _ _ h.2.2.2.2.2)
          · exact h.elim
        · split at h
          · rename_i hk
            simp only [Bool.and_eq_true, am_beq] at hk
            exact s_copyi C g1 hk.1 hk.2 h.1 h.2.1 h.2.2.1 h.2.2.2.1 h.2.2.2.2.1 (by omega) hd (hK _ _ _ h.2.2.2.2.2)
          · split at h
            · rename_i hk
              simp only [Bool.and_eq_true, am_beq] at hk
              exact s_copyl C g1 hk.1 hk.2 h.1 h.2.1 h.2.2.1 h.2.2.2.1 h.2.2.2.2.1 (by omega) hd (hK _ _ _ h.2.2.2.2.2)
            · exact h.elim
      · exact h.elim
    · subst hrel
      unfold am_i2 at h
      split at h
      · exact s_iadd C h.1 hd (hK _ _ _ h.2)
      · exact h.elim
    · subst hrel
      unfold am_i2 at h
      split at h
      · exact s_isub C h.1 hd (hK _ _ _ h.2)
      · exact h.elim
    · subst hrel
      unfold am_i2 at h
      split at h
      · exact s_imul C h.1 hd (hK _ _ _ h.2)
      · exact h.elim
    · subst hrel
      unfold am_i2 at h
      split at h
      · exact s_idiv C h.1 h.2.1 hd (hK _ _ _ h.2.2)
      · exact h.elim
    · subst hrel
      unfold am_i2 at h
      split at h
      · exact s_irem C h.1 h.2.1 hd (hK _ _ _ h.2.2)
      · exact h.elim
    · subst hrel
      unfold am_i2 at h
      split at h
      · exact s_iand C hd (hK _ _ _ h)
      · exact h.elim
    · subst hrel
      unfold am_i2 at h
      split at h
      · exact s_ior C hd (hK _ _ _ h)
      · exact h.elim
    · subst hrel
      unfold am_i2 at h
      split at h
      · exact s_ixor C hd (hK _ _ _ h)
      · exact h.elim
    · subst hrel
      unfold am_i2 at h
      split at h
      · exact s_ishl C hd (hK _ _ _ h)
      · exact h.elim
    · subst hrel
      unfold am_i2 at h
      split at h
      · exact s_ishr C hd (hK _ _ _ h)
      · exact h.elim
    · subst hrel
      unfold am_i2 at h
      split at h
      · exact s_iushr C hd (hK _ _ _ h)
      · exact h.elim
    · subst hrel
      unfold am_i1 at h
      split at h
      · exact s_i2b C hd (hK _ _ _ h)
      · exact h.elim
    · subst hrel
      unfold am_i1 at h
      split at h
      · exact s_i2l C hd (hK _ _ _ h)
      · exact h.elim
    · subst hrel
      unfold am_l1 at h
      split at h
      · exact s_l2i C hd (hK _ _ _ h)
      · exact h.elim
    · subst hrel
      unfold am_l2 at h
      split at h
      · exact s_ladd C hd (hK _ _ _ h)
      · exact h.elim
    · subst hrel
      unfold am_l2 at h
      split at h
      · exact s_lsub C hd (hK _ _ _ h)
      · exact h.elim
    · subst hrel
      unfold am_l2 at h
      split at h
      · exact s_lmul C hd (hK _ _ _ h)
      · exact h.elim
    · subst hrel
      unfold am_l2 at h
      split at h
      · exact s_land C hd (hK _ _ _ h)
      · exact h.elim
    · subst hrel
      unfold am_l2 at h
      split at h
      · exact s_lor C hd (hK _ _ _ h)
      · exact h.elim
    · subst hrel
      unfold am_l2 at h
      split at h
      · exact s_lxor C hd (hK _ _ _ h)
      · exact h.elim
    · subst hrel
      unfold am_l1 at h
      split at h
      · exact s_lneg C hd (hK _ _ _ h)
      · exact h.elim
    · subst hrel
      unfold am_li at h
      split at h
      · exact s_lshl C hd (hK _ _ _ h)
      · exact h.elim
    · subst hrel
      unfold am_li at h
      split at h
      · exact s_lshr C hd (hK _ _ _ h)
      · exact h.elim
    · subst hrel
      unfold am_li at h
      split at h
      · exact s_lushr C hd (hK _ _ _ h)
      · exact h.elim
    · subst hrel
      unfold am_l2 at h
      split at h
      · exact s_lcmp C hd (hK _ _ _ h)
      · exact h.elim
    · subst hrel
      unfold am_dup at h
      split at h
      · split at h
        · exact h.elim
        · rename_i hv
          exact s_dup C hv hd (hK _ _ _ h)
      · exact h.elim
    · subst hrel
      unfold am_dup2 at h
      split at h
      · split at h
        · rename_i hv
          exact s_dup2l C hv hd (hK _ _ _ h)
        · rename_i hv
          split at h
          · split at h
            · exact h.elim
            · rename_i hw
              exact s_dup2s C hv hw hd (hK _ _ _ h)
          · exact h.elim
      · exact h.elim
    · subst hrel
      unfold am_pop at h
      split at h
      · split at h
        · exact h.elim
        · rename_i hv
          exact s_pop C hv hd (hK _ _ _ h)
      · exact h.elim
    · subst hrel
      unfold am_ri at h
      split at h
      · unfold am_ild at h
        split at h
        · rename_i hq
          have := am_beq.mp hq
          subst this
          exact s_scriptload C h.1 h.2.1 hd (hK _ _ _ h.2.2)
        · split at h
          · rename_i hq
            simp only [Bool.and_eq_true, am_ble] at hq
            exact s_tabload C hq h.1 h.2.1 hd (hK _ _ _ h.2.2)
          · split at h
            · rename_i hq
              exact s_iaload C (am_beq.mp hq) h.1 h.2.1 hd (hK _ _ _ h.2.2)
            · exact h.elim
      · exact h.elim
    · subst hrel
      unfold am_ri at h
      split at h
      · unfold am_bld at h
        split at h
        · rename_i hq
          simp only [Bool.or_eq_true, am_beq] at hq
          rcases hq with hq | hq
          · exact s_zaload C hq h.1 h.2.1 hd (hK _ _ _ h.2.2)
          · exact s_baload C hq h.1 h.2.1 hd (hK _ _ _ h.2.2)
        · exact h.elim
      · exact h.elim
    · subst hrel
      unfold am_ri at h
      split at h
      · unfold am_lld at h
        split at h
        · rename_i hq
          exact s_laload C (am_beq.mp hq) h.1 h.2.1 hd (hK _ _ _ h.2.2)
        · exact h.elim
      · exact h.elim
    · subst hrel
      unfold am_ri at h
      split at h
      · unfold am_ald at h
        split at h
        · rename_i hq
          have hk := am_aldL_spec (n := 0) h.2.2 (by simpa using h.1) (by simpa using h.2.1)
          rw [Int.sub_zero] at hk
          exact s_aaload C (am_beq.mp hq) h.1 h.2.1 rfl hd (hK _ _ _ hk)
        · exact h.elim
      · exact h.elim
    · subst hrel
      unfold am_rii at h
      split at h
      · unfold am_ist at h
        split at h
        · rename_i hq
          exact s_iastore C (am_beq.mp hq) h.1 h.2.1 hd (hK _ _ _ h.2.2)
        · exact h.elim
      · exact h.elim
    · subst hrel
      unfold am_rii at h
      split at h
      · unfold am_bst at h
        split at h
        · rename_i hq
          exact s_zastore C (am_beq.mp hq) h.1 h.2.1 h.2.2.1 hd (hK _ _ _ h.2.2.2)
        · split at h
          · rename_i hq
            exact s_bastore C (am_beq.mp hq) h.1 h.2.1 h.2.2.1 hd (hK _ _ _ h.2.2.2)
          · exact h.elim
      · exact h.elim
    · subst hrel
      unfold am_ril at h
      split at h
      · unfold am_lst at h
        split at h
        · rename_i hq
          exact s_lastore C (am_beq.mp hq) h.1 h.2.1 hd (hK _ _ _ h.2.2)
        · exact h.elim
      · exact h.elim
    · subst hrel
      unfold am_r1 at h
      split at h
      · unfold am_al at h
        split at h
        · rename_i hq
          have := am_beq.mp hq
          subst this
          exact s_scriptlen C hd hLs (hK _ _ _ h)
        · split at h
          · rename_i hq
            simp only [Bool.and_eq_true, am_ble] at hq
            exact s_tablen C hq hd (hK _ _ _ h)
          · split at h
            · rename_i hq
              simp only [Bool.and_eq_true, am_ble] at hq
              exact s_arrlen C hq (am_lenL _ (am_lay_lt (by omega))) hd (hK _ _ _ h)
            · exact h.elim
      · exact h.elim
    · obtain ⟨rfl, hrt⟩ := hrel
      split at h
      · split at h
        · exact s_ret C (i := .ireturn) (v := .inl _) hd hrt trivial (fun _ z hz => by cases hz; exact h.1) h.2
        · refine s_ret C (i := .ireturn) (v := .inl _) hd hrt trivial (fun hz => ?_) h
          rw [← hbb] at hz
          cases hz
      · exact h.elim
    · obtain ⟨rfl, hrt⟩ := hrel
      split at h
      · exact s_ret C (i := .lreturn) (v := .inr (.inl _)) hd hrt trivial (fun _ z hz => by cases hz) h
      · exact h.elim
    · obtain ⟨rfl, hrt⟩ := hrel
      split at h
      · exact s_ret C (i := .areturn) (v := .inr (.inr _)) hd hrt trivial (fun _ z hz => by cases hz) h
      · exact h.elim
    · obtain ⟨rfl, hrt⟩ := hrel
      split at h
      · exact s_ret C (i := .return_) (v := .inl 0) hd hrt rfl (fun _ z hz => by cases hz; exact Or.inl rfl) h
      · exact h.elim
end
end
section
section
variable {p : Program} {l : Launch} {e : Env} {R : Room} {s : State} {mm : MethodId} {args : Array Value} {below : List Frame} {meth : Method} {c : Code} {cells slots : Nat} {Q : State → Prop} {E : am_E} {A : Nat → Prop} {y d : Nat} {P : am_V → am_M → Prop}
theorem am_sound (C : am_Cx p l e R s mm args below meth c cells slots Q E A y (d + 1) P) {b : Bool} (hbb : b = am_bool y) {bl : List (Nat × List am_I)} {ct : List (Nat × List Nat)}
    (hbl : ∀ t is, am_lk bl t = some is → am_chkL (am_mi y).2.2.2.1 (am_mi y).2.2.2.2 (am_mi y).2.2.1 (am_mi y).2.1 is = true ∧ ∀ x r, is = x :: r → x.1 = t)
    {G : Nat → am_K} (hG : ∀ t lv st m, G t lv st m → am_at p l e R s mm args below meth c cells slots Q E A y t lv st m) :
    ∀ (f : Nat) (is : List am_I) (lv : am_L) (st : List am_V) (m : am_M), am_chkL (am_mi y).2.2.2.1 (am_mi y).2.2.2.2 (am_mi y).2.2.1 (am_mi y).2.1 is = true → am_run (am_sc E) (am_Ok d) b P G bl ct f is lv st m → ∃ x r, is = x :: r ∧ am_at p l e R s mm args below meth c cells slots Q E A y x.1 lv st m
  | 0, is, lv, st, m, _, h => by
    unfold am_run at h
    exact h.elim
  | f + 1, [], lv, st, m, _, h => by
    unfold am_run at h
    exact h.elim
  | f + 1, x :: r, lv, st, m, hc, h => by
    refine ⟨x, r, rfl, ?_⟩
    unfold am_run at h
    unfold am_chkL at hc
    simp only [Bool.and_eq_true] at hc
    obtain ⟨⟨h1, h2⟩, h3⟩ := hc
    have hLs : am_R (am_sc E).1 := by
      obtain ⟨hx, hb, hml, hown, hts, hfr, hlo, hce, hsl, hRO, hK, hret⟩ := C
      have := hRO.2.2.2.2.2.2.2.2
      show am_R (E.2.2.2.1.1 : Int)
      exact ⟨by omega, by omega⟩
    refine am_stepS C hLs h1 hbb (fun lv st m hk => ?_) (fun t lv st m hj => ?_) h
    · obtain ⟨x2, r2, e1, e2⟩ := am_sound C hbb hbl hG f r lv st m h3 hk
      subst e1
      have := am_beq.mp h2
      rw [this] at e2
      exact e2
    · split at hj
      · split at hj
        · rename_i lv2 hp
          exact am_at_sub (am_pick_mem hp) (hG _ _ _ _ hj)
        · exact hj.elim
      · split at hj
        · rename_i is2 hl
          obtain ⟨g1, g2⟩ := hbl _ _ hl
          obtain ⟨x2, r2, e1, e2⟩ := am_sound C hbb hbl hG f is2 lv st m g1 hj
          rw [g2 x2 r2 e1] at e2
          exact e2
        · exact hj.elim
end
theorem am_chk_spec {y : Nat} {bl : List (Nat × List am_I)} {ct : List (Nat × List Nat)} {b : Bool} (h : am_chk y bl ct b = true) : plainName (am_mi y).1.cls = true ∧ am_cn.getD (am_mi y).2.2.2.2 "" = (am_mi y).1.cls ∧ b = am_bool y ∧ ∀ t is, am_lk bl t = some is → am_chkL (am_mi y).2.2.2.1 (am_mi y).2.2.2.2 (am_mi y).2.2.1 (am_mi y).2.1 is = true ∧ ∃ x r, is = x :: r ∧ x.1 = t := by
  unfold am_chk at h
  simp only [Bool.and_eq_true, decide_eq_true_eq, List.all_eq_true] at h
  obtain ⟨⟨⟨h1, h2⟩, h3⟩, h4⟩ := h
  refine ⟨h1, h2, ?_, fun t is hl => ?_⟩
  · cases hb : am_bool y <;> cases b <;> simp [hb] at h3 ⊢
  · obtain ⟨g1, g2⟩ := h4 _ (am_lk_mem hl)
    refine ⟨g1, ?_⟩
    cases is with
    | nil => cases g2
    | cons x r => exact ⟨x, r, rfl, am_beq.mp g2⟩
section
variable {d y : Nat} {bl : List (Nat × List am_I)} {ct : List (Nat × List Nat)} {b : Bool} {L : Nat} {is : List am_I} {lv : am_L} {m : am_M} {as : List am_V}
theorem am_cut {P : am_V → am_M → Prop} (hc : am_chk y bl ct b = true) (hl : am_lk bl L = some is) (h : ∀ S, am_run S (am_Ok d) b P (am_G (d + 1) y P) bl ct 2000 is lv [] m) : am_G (d + 1) y P L lv [] m := by
  obtain ⟨-, -, h3, h4⟩ := am_chk_spec hc
  intro p l e R s mm args below meth c cells slots Q E A C
  obtain ⟨x, r, e1, e2⟩ := am_sound C h3 (bl := bl) (ct := ct) (fun t is hl => ⟨(h4 t is hl).1, fun x r e => by
    obtain ⟨x2, r2, e2, e3⟩ := (h4 t is hl).2
    rw [e] at e2
    cases e2
    exact e3⟩) (G := am_G (d + 1) y P) (fun t lv st m hg => hg _ _ _ _ _ _ _ _ _ _ _ _ _ _ _ C) 2000 is lv [] m (h4 L is hl).1 (h (am_sc E))
  obtain ⟨x2, r2, e3, e4⟩ := (h4 L is hl).2
  rw [e3] at e1
  cases e1
  rw [e4] at e2
  exact e2
def am_args : Nat → List am_V → am_L
  | _, [] => []
  | k, v :: r => (k, v) :: am_args (match am_lng v with | true => k + 2 | false => k + 1) r
theorem am_args_cv (E : am_E) : ∀ (as : List am_V) (k : Nat), lv_args k (as.map (am_cv E)) = (am_args k as).map fun q => (q.1, am_cv E q.2)
  | [], _ => rfl
  | v :: r, k => by
    rw [List.map_cons, lv_args, am_args, List.map_cons, ← am_args_cv E r]
    congr 2
    rw [am_cat_cv]
    cases am_lng v <;> rfl
theorem am_args_mem : ∀ {as : List am_V} {k : Nat} {q : Nat × am_V}, q ∈ am_args k as → q.2 ∈ as
  | [], _, _, h => by cases h
  | v :: r, k, q, h => by
    rcases List.mem_cons.mp h with rfl | h
    · exact List.mem_cons_self
    · exact List.mem_cons_of_mem _ (am_args_mem h)
theorem am_lgsl (E : am_E) : ∀ (as : List am_V), (lg_sl (as.map (am_cv E))).length = am_cat as
  | [] => rfl
  | v :: r => by
    have ih := am_lgsl E r
    unfold lg_sl at ih ⊢
    rw [List.map_cons, List.flatMap_cons, List.length_append, ih]
    show _ = (match am_lng v with | true => 2 | false => 1) + am_cat r
    congr 1
    rw [am_cat_cv]
    cases am_lng v <;> rfl
set_option maxHeartbeats 1000000 in
theorem am_ent {P : am_V → am_M → Prop} (hc : am_chk y bl ct b = true) (hw : Nat.ble (am_cat as) (am_mi y).2.2.1 = true) (h : ∀ S, am_run S (am_Ok d) b P (am_G (d + 1) y P) bl ct 2000 [(0, .nop, 0, .goto_w 0)] (am_args 0 as) [] m) : am_Ok (d + 1) y as m P := by
  obtain ⟨h1, h2, h3, h4⟩ := am_chk_spec hc
  intro l E A
  refine Met.ofW (cc := (am_mi y).2.1) (maxL := (am_mi y).2.2.1) (ret := (am_mi y).2.2.2.1) h1 rfl ?_
  intro p e s mm args below meth c s₁ B hml hv
  obtain ⟨rfl, hok, hWd, hRO⟩ := hv
  have hx := B.exec
  have hb := B.bytes
  have hr := B.returns
  have hts := atoms_spec (ws := am_wds y) B.pre
  have hown : s.vm.findClass (am_mi y).1.cls = some mm.cls := findClass_of_methodNamed B.named
  have hlocks := B.notSynchronized
  have hl := lv_entry (as.map (am_cv E)) (n := (am_mi y).2.2.1) (by rw [am_lgsl]; exact am_ble.mp hw)
  rw [lg_entry_eq]
  generalize (lg_sl (as.map (am_cv E)) ++ List.replicate ((am_mi y).2.2.1 - (lg_sl (as.map (am_cv E))).length) Slot.unset).toArray = ls at hl ⊢
  rw [am_args_cv] at hl
  have C : am_Cx p l e (headSpec (am_wds y) (am_rm (d + 1))).room s mm (as.map (am_cv E)).toArray below meth c 0 0 (MQ below (am_Qc E A y P) (as.map (am_cv E)).toArray s 0 0 A) E A y (d + 1) P := by
    refine ⟨hx, hb, hml, by rw [h2]; exact hown, fun w hw => hts w (List.mem_cons_of_mem _ hw), Nat.le_refl _, Nat.le_refl _, Nat.le_refl _, Nat.le_refl _, hRO, hWd.2.1, ?_⟩
    intro i pc ls H locs m' v hd hrt hi hvok hbz hp hW hS
    have hq : ∀ t : State, t.heap = H → am_Qc E A y P (as.map (am_cv E)).toArray s (.returned (am_rc E y v)) t := fun t ht => ⟨⟨v, m', rfl, hvok, hp, by rw [ht]; exact hW.1, hW.2.2.2⟩, hS.F ht⟩
    have hf : ∀ q ∈ locs, A q.base := hS.2.2
    unfold am_rtk at hrt
    unfold am_isRet at hi
    split at hrt
    · rename_i hrt2
      rcases v with z | z | z
      · have hq2 : ∀ t : State, t.heap = H → s.WarmedH t.vm → am_Qc E A y P (as.map (am_cv E)).toArray s (.returned (some (.int (Int32.ofInt z)))) t := fun t ht _ => by
          have := hq t ht
          unfold am_rc at this
          rw [hrt2] at this
          exact this
        exact W.iret hx hb (by rw [hr, hrt2]) hq2 hf hd
      · exact hi.elim
      · exact hi.elim
    · rename_i hrt2
      rcases v with z | z | z
      · have hq2 : ∀ t : State, t.heap = H → s.WarmedH t.vm → am_Qc E A y P (as.map (am_cv E)).toArray s (.returned (some (.int (Int32.ofInt z)))) t := fun t ht _ => by
          have := hq t ht
          unfold am_rc at this
          rw [hrt2] at this
          exact this
        exact W.zret hx hb (ty := .boolean) (by rw [hr, hrt2]) (am_nb z (hbz (by unfold am_bool; rw [hrt2]) z rfl)).1 hq2 hf hd
      · exact hi.elim
      · exact hi.elim
    · rename_i hrt2
      rcases v with z | z | z
      · exact hi.elim
      · have hq2 : ∀ t : State, t.heap = H → s.WarmedH t.vm → am_Qc E A y P (as.map (am_cv E)).toArray s (.returned (some (.long z))) t := fun t ht _ => by
          have := hq t ht
          unfold am_rc at this
          rw [hrt2] at this
          exact this
        exact W.lret hx hb (by rw [hr, hrt2]) hq2 hf hd
      · exact hi.elim
    · rename_i n hrt2
      rcases v with z | z | z
      · exact hi.elim
      · exact hi.elim
      · have hq2 : ∀ t : State, t.heap = H → s.WarmedH t.vm → am_Qc E A y P (as.map (am_cv E)).toArray s (.returned (some (.ref (am_ad E z)))) t := fun t ht _ => by
          have := hq t ht
          unfold am_rc at this
          rw [hrt2] at this
          exact this
        exact W.aret hx hb (rt := .object n) (by rw [hr, hrt2]) (Or.inl ⟨_, rfl⟩) (Or.inr ⟨_, rfl⟩) hq2 hf hd
    · rename_i hrt2
      have hq2 : ∀ t : State, t.heap = H → s.WarmedH t.vm → am_Qc E A y P (as.map (am_cv E)).toArray s (.returned none) t := fun t ht _ => by
          have := hq t ht
          unfold am_rc at this
          rw [hrt2] at this
          exact this
      exact W.vret hx hb (by rw [hr, hrt2]) hq2 hf hd
    · cases hrt
  obtain ⟨x, r, e1, e2⟩ := am_sound C h3 (bl := bl) (ct := ct) (fun t is hl => ⟨(h4 t is hl).1, fun x r e => by
    obtain ⟨x2, r2, e2, e3⟩ := (h4 t is hl).2
    rw [e] at e2
    cases e2
    exact e3⟩) (G := am_G (d + 1) y P) (fun t lv st m hg => hg _ _ _ _ _ _ _ _ _ _ _ _ _ _ _ C) 2000 [(0, .nop, 0, .goto_w 0)] (am_args 0 as) [] m rfl (h (am_sc E))
  cases e1
  exact e2 s.heap [] ls hWd va_S.rf hl (fun q hq => hok _ (am_args_mem hq)) (fun v hv => by cases hv)
theorem am_c0 {P : am_M → Prop} (hc : am_chk y bl ct b = true) (hl : am_lk bl L = some is) (h : ∀ S, am_run S (am_Ok d) b (fun _ m' => P m') (am_G (d + 1) y (fun _ m' => P m')) bl ct 2000 is lv [] m) : am_GV (d + 1) y P L lv [] m := am_cut hc hl h
theorem am_c1 {P : Int → am_M → Prop} (hc : am_chk y bl ct b = true) (hl : am_lk bl L = some is) (h : ∀ S, am_run S (am_Ok d) b (fun v m' => am_vi v fun z => P z m') (am_G (d + 1) y (fun v m' => am_vi v fun z => P z m')) bl ct 2000 is lv [] m) : am_GI (d + 1) y P L lv [] m := am_cut hc hl h
theorem am_c2 {P : Int64 → am_M → Prop} (hc : am_chk y bl ct b = true) (hl : am_lk bl L = some is) (h : ∀ S, am_run S (am_Ok d) b (fun v m' => am_vl v fun z => P z m') (am_G (d + 1) y (fun v m' => am_vl v fun z => P z m')) bl ct 2000 is lv [] m) : am_GL (d + 1) y P L lv [] m := am_cut hc hl h
theorem am_c3 {P : Nat → am_M → Prop} (hc : am_chk y bl ct b = true) (hl : am_lk bl L = some is) (h : ∀ S, am_run S (am_Ok d) b (fun v m' => am_vr v fun z => P z m') (am_G (d + 1) y (fun v m' => am_vr v fun z => P z m')) bl ct 2000 is lv [] m) : am_GR (d + 1) y P L lv [] m := am_cut hc hl h
theorem am_e0 {P : am_M → Prop} (hc : am_chk y bl ct b = true) (hw : Nat.ble (am_cat as) (am_mi y).2.2.1 = true) (h : ∀ S, am_run S (am_Ok d) b (fun _ m' => P m') (am_G (d + 1) y (fun _ m' => P m')) bl ct 2000 [(0, .nop, 0, .goto_w 0)] (am_args 0 as) [] m) : am_OkV (d + 1) y as m P := am_ent hc hw h
theorem am_e1 {P : Int → am_M → Prop} (hc : am_chk y bl ct b = true) (hw : Nat.ble (am_cat as) (am_mi y).2.2.1 = true) (h : ∀ S, am_run S (am_Ok d) b (fun v m' => am_vi v fun z => P z m') (am_G (d + 1) y (fun v m' => am_vi v fun z => P z m')) bl ct 2000 [(0, .nop, 0, .goto_w 0)] (am_args 0 as) [] m) : am_OkI (d + 1) y as m P := am_ent hc hw h
theorem am_e2 {P : Int64 → am_M → Prop} (hc : am_chk y bl ct b = true) (hw : Nat.ble (am_cat as) (am_mi y).2.2.1 = true) (h : ∀ S, am_run S (am_Ok d) b (fun v m' => am_vl v fun z => P z m') (am_G (d + 1) y (fun v m' => am_vl v fun z => P z m')) bl ct 2000 [(0, .nop, 0, .goto_w 0)] (am_args 0 as) [] m) : am_OkL (d + 1) y as m P := am_ent hc hw h
theorem am_e3 {P : Nat → am_M → Prop} (hc : am_chk y bl ct b = true) (hw : Nat.ble (am_cat as) (am_mi y).2.2.1 = true) (h : ∀ S, am_run S (am_Ok d) b (fun v m' => am_vr v fun z => P z m') (am_G (d + 1) y (fun v m' => am_vr v fun z => P z m')) bl ct 2000 [(0, .nop, 0, .goto_w 0)] (am_args 0 as) [] m) : am_OkR (d + 1) y as m P := am_ent hc hw h
end
end
