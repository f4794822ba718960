section
-- ===== PART A: goes FIRST, ahead of the names: the tables' words, and 'selects' of the private methods out of them =====
/-- a private method of a class that the tables say can be made, by its rows of tables_1 -/
def lw_okq (q : MethodName × Nat) : Prop := (q.1.cls ≠ "java/lang/invoke/MethodHandle" ∧ q.1.cls ≠ "java/lang/invoke/VarHandle") ∧ Cond.instantiable q.1.cls q.2 ∈ tables_1 ∧ Cond.privateMethod q.1 ∈ tables_1 ∧ Cond.instanceMethod q.1 ∈ tables_1
theorem lw_p0 : lw_okq (⟨"TripleSieve$Tape", "append", "(I)V"⟩, 6) := ⟨⟨by decide +kernel, by decide +kernel⟩, List.mem_of_getElem? (i := 34) (by decide +kernel), List.mem_of_getElem? (i := 398) (by decide +kernel), List.mem_of_getElem? (i := 399) (by decide +kernel)⟩
theorem lw_p1 : lw_okq (⟨"TripleSieve$Reader", "read", "(LTripleSieve$Tape;LTripleSieve$Given;)I"⟩, 1) := ⟨⟨by decide +kernel, by decide +kernel⟩, List.mem_of_getElem? (i := 64) (by decide +kernel), List.mem_of_getElem? (i := 410) (by decide +kernel), List.mem_of_getElem? (i := 411) (by decide +kernel)⟩
theorem lw_p2 : lw_okq (⟨"TripleSieve$Given", "reset", "()V"⟩, 5) := ⟨⟨by decide +kernel, by decide +kernel⟩, List.mem_of_getElem? (i := 74) (by decide +kernel), List.mem_of_getElem? (i := 414) (by decide +kernel), List.mem_of_getElem? (i := 415) (by decide +kernel)⟩
theorem lw_p3 : lw_okq (⟨"TripleSieve$Tape", "rewind", "()V"⟩, 6) := ⟨⟨by decide +kernel, by decide +kernel⟩, List.mem_of_getElem? (i := 34) (by decide +kernel), List.mem_of_getElem? (i := 421) (by decide +kernel), List.mem_of_getElem? (i := 422) (by decide +kernel)⟩
theorem lw_p4 : lw_okq (⟨"TripleSieve$Tape", "step", "()V"⟩, 6) := ⟨⟨by decide +kernel, by decide +kernel⟩, List.mem_of_getElem? (i := 34) (by decide +kernel), List.mem_of_getElem? (i := 425) (by decide +kernel), List.mem_of_getElem? (i := 426) (by decide +kernel)⟩
theorem lw_p5 : lw_okq (⟨"TripleSieve$Tape", "takeWord", "()V"⟩, 6) := ⟨⟨by decide +kernel, by decide +kernel⟩, List.mem_of_getElem? (i := 34) (by decide +kernel), List.mem_of_getElem? (i := 432) (by decide +kernel), List.mem_of_getElem? (i := 433) (by decide +kernel)⟩
theorem lw_p6 : lw_okq (⟨"TripleSieve$Tape", "takeNumber", "()V"⟩, 6) := ⟨⟨by decide +kernel, by decide +kernel⟩, List.mem_of_getElem? (i := 34) (by decide +kernel), List.mem_of_getElem? (i := 439) (by decide +kernel), List.mem_of_getElem? (i := 440) (by decide +kernel)⟩
theorem lw_p7 : lw_okq (⟨"TripleSieve$Reader", "readSetting", "(LTripleSieve$Tape;LTripleSieve$Given;I)V"⟩, 1) := ⟨⟨by decide +kernel, by decide +kernel⟩, List.mem_of_getElem? (i := 64) (by decide +kernel), List.mem_of_getElem? (i := 443) (by decide +kernel), List.mem_of_getElem? (i := 444) (by decide +kernel)⟩
theorem lw_p8 : lw_okq (⟨"TripleSieve$Tape", "isWord", "(Ljava/lang/String;)Z"⟩, 6) := ⟨⟨by decide +kernel, by decide +kernel⟩, List.mem_of_getElem? (i := 34) (by decide +kernel), List.mem_of_getElem? (i := 456) (by decide +kernel), List.mem_of_getElem? (i := 457) (by decide +kernel)⟩
theorem lw_p9 : lw_okq (⟨"TripleSieve$Reader", "takeNumber", "(LTripleSieve$Tape;II)I"⟩, 1) := ⟨⟨by decide +kernel, by decide +kernel⟩, List.mem_of_getElem? (i := 64) (by decide +kernel), List.mem_of_getElem? (i := 513) (by decide +kernel), List.mem_of_getElem? (i := 514) (by decide +kernel)⟩
theorem lw_p10 : lw_okq (⟨"TripleSieve$Reader", "fail", "(LTripleSieve$Tape;I)V"⟩, 1) := ⟨⟨by decide +kernel, by decide +kernel⟩, List.mem_of_getElem? (i := 64) (by decide +kernel), List.mem_of_getElem? (i := 517) (by decide +kernel), List.mem_of_getElem? (i := 518) (by decide +kernel)⟩
theorem lw_p11 : lw_okq (⟨"TripleSieve$Reader", "takeChoice", "(LTripleSieve$Tape;I)I"⟩, 1) := ⟨⟨by decide +kernel, by decide +kernel⟩, List.mem_of_getElem? (i := 64) (by decide +kernel), List.mem_of_getElem? (i := 521) (by decide +kernel), List.mem_of_getElem? (i := 522) (by decide +kernel)⟩
theorem lw_p12 : lw_okq (⟨"TripleSieve$Reader", "passStop", "(LTripleSieve$Tape;)V"⟩, 1) := ⟨⟨by decide +kernel, by decide +kernel⟩, List.mem_of_getElem? (i := 64) (by decide +kernel), List.mem_of_getElem? (i := 534) (by decide +kernel), List.mem_of_getElem? (i := 535) (by decide +kernel)⟩
theorem lw_p13 : lw_okq (⟨"TripleSieve$Given", "resettle", "(II)V"⟩, 5) := ⟨⟨by decide +kernel, by decide +kernel⟩, List.mem_of_getElem? (i := 74) (by decide +kernel), List.mem_of_getElem? (i := 538) (by decide +kernel), List.mem_of_getElem? (i := 539) (by decide +kernel)⟩
theorem lw_p14 : lw_okq (⟨"TripleSieve$Reader", "readKey", "(LTripleSieve$Tape;LTripleSieve$Given;)V"⟩, 1) := ⟨⟨by decide +kernel, by decide +kernel⟩, List.mem_of_getElem? (i := 64) (by decide +kernel), List.mem_of_getElem? (i := 547) (by decide +kernel), List.mem_of_getElem? (i := 548) (by decide +kernel)⟩
theorem lw_p15 : lw_okq (⟨"TripleSieve$Given", "find", "(J)I"⟩, 5) := ⟨⟨by decide +kernel, by decide +kernel⟩, List.mem_of_getElem? (i := 74) (by decide +kernel), List.mem_of_getElem? (i := 552) (by decide +kernel), List.mem_of_getElem? (i := 553) (by decide +kernel)⟩
def lw_privs_1 : List (MethodName × Nat) := [(⟨"TripleSieve$Tape", "append", "(I)V"⟩, 6), (⟨"TripleSieve$Reader", "read", "(LTripleSieve$Tape;LTripleSieve$Given;)I"⟩, 1), (⟨"TripleSieve$Given", "reset", "()V"⟩, 5), (⟨"TripleSieve$Tape", "rewind", "()V"⟩, 6), (⟨"TripleSieve$Tape", "step", "()V"⟩, 6), (⟨"TripleSieve$Tape", "takeWord", "()V"⟩, 6), (⟨"TripleSieve$Tape", "takeNumber", "()V"⟩, 6), (⟨"TripleSieve$Reader", "readSetting", "(LTripleSieve$Tape;LTripleSieve$Given;I)V"⟩, 1), (⟨"TripleSieve$Tape", "isWord", "(Ljava/lang/String;)Z"⟩, 6), (⟨"TripleSieve$Reader", "takeNumber", "(LTripleSieve$Tape;II)I"⟩, 1), (⟨"TripleSieve$Reader", "fail", "(LTripleSieve$Tape;I)V"⟩, 1), (⟨"TripleSieve$Reader", "takeChoice", "(LTripleSieve$Tape;I)I"⟩, 1), (⟨"TripleSieve$Reader", "passStop", "(LTripleSieve$Tape;)V"⟩, 1), (⟨"TripleSieve$Given", "resettle", "(II)V"⟩, 5), (⟨"TripleSieve$Reader", "readKey", "(LTripleSieve$Tape;LTripleSieve$Given;)V"⟩, 1), (⟨"TripleSieve$Given", "find", "(J)I"⟩, 5)]
theorem lw_r1 : ∀ q ∈ lw_privs_1, lw_okq q := List.forall_mem_cons.mpr ⟨lw_p0, List.forall_mem_cons.mpr ⟨lw_p1, List.forall_mem_cons.mpr ⟨lw_p2, List.forall_mem_cons.mpr ⟨lw_p3, List.forall_mem_cons.mpr ⟨lw_p4, List.forall_mem_cons.mpr ⟨lw_p5, List.forall_mem_cons.mpr ⟨lw_p6, List.forall_mem_cons.mpr ⟨lw_p7, List.forall_mem_cons.mpr ⟨lw_p8, List.forall_mem_cons.mpr ⟨lw_p9, List.forall_mem_cons.mpr ⟨lw_p10, List.forall_mem_cons.mpr ⟨lw_p11, List.forall_mem_cons.mpr ⟨lw_p12, List.forall_mem_cons.mpr ⟨lw_p13, List.forall_mem_cons.mpr ⟨lw_p14, List.forall_mem_cons.mpr ⟨lw_p15, fun _ h => absurd h List.not_mem_nil⟩⟩⟩⟩⟩⟩⟩⟩⟩⟩⟩⟩⟩⟩⟩⟩
theorem lw_p16 : lw_okq (⟨"TripleSieve$Reader", "takeValue", "(LTripleSieve$Tape;LTripleSieve$Given;)I"⟩, 1) := ⟨⟨by decide +kernel, by decide +kernel⟩, List.mem_of_getElem? (i := 64) (by decide +kernel), List.mem_of_getElem? (i := 557) (by decide +kernel), List.mem_of_getElem? (i := 558) (by decide +kernel)⟩
theorem lw_p17 : lw_okq (⟨"TripleSieve$Given", "insert", "(IJI)V"⟩, 5) := ⟨⟨by decide +kernel, by decide +kernel⟩, List.mem_of_getElem? (i := 74) (by decide +kernel), List.mem_of_getElem? (i := 562) (by decide +kernel), List.mem_of_getElem? (i := 563) (by decide +kernel)⟩
theorem lw_p18 : lw_okq (⟨"TripleSieve$Given", "copy", "(LTripleSieve$Given;)V"⟩, 5) := ⟨⟨by decide +kernel, by decide +kernel⟩, List.mem_of_getElem? (i := 74) (by decide +kernel), List.mem_of_getElem? (i := 566) (by decide +kernel), List.mem_of_getElem? (i := 567) (by decide +kernel)⟩
theorem lw_p19 : lw_okq (⟨"TripleSieve$Acts", "forget", "()V"⟩, 6) := ⟨⟨by decide +kernel, by decide +kernel⟩, List.mem_of_getElem? (i := 119) (by decide +kernel), List.mem_of_getElem? (i := 570) (by decide +kernel), List.mem_of_getElem? (i := 571) (by decide +kernel)⟩
theorem lw_p20 : lw_okq (⟨"TripleSieve$Given", "has", "(I)Z"⟩, 5) := ⟨⟨by decide +kernel, by decide +kernel⟩, List.mem_of_getElem? (i := 74) (by decide +kernel), List.mem_of_getElem? (i := 578) (by decide +kernel), List.mem_of_getElem? (i := 579) (by decide +kernel)⟩
theorem lw_p21 : lw_okq (⟨"TripleSieve$Given", "canBeValue", "(I)Z"⟩, 5) := ⟨⟨by decide +kernel, by decide +kernel⟩, List.mem_of_getElem? (i := 74) (by decide +kernel), List.mem_of_getElem? (i := 586) (by decide +kernel), List.mem_of_getElem? (i := 587) (by decide +kernel)⟩
theorem lw_p22 : lw_okq (⟨"TripleSieve$Acts", "note", "(IIJI)V"⟩, 6) := ⟨⟨by decide +kernel, by decide +kernel⟩, List.mem_of_getElem? (i := 119) (by decide +kernel), List.mem_of_getElem? (i := 591) (by decide +kernel), List.mem_of_getElem? (i := 592) (by decide +kernel)⟩
theorem lw_p23 : lw_okq (⟨"TripleSieve$Given", "drop", "(I)V"⟩, 5) := ⟨⟨by decide +kernel, by decide +kernel⟩, List.mem_of_getElem? (i := 74) (by decide +kernel), List.mem_of_getElem? (i := 603) (by decide +kernel), List.mem_of_getElem? (i := 604) (by decide +kernel)⟩
theorem lw_p24 : lw_okq (⟨"TripleSieve$Given", "revalue", "(II)V"⟩, 5) := ⟨⟨by decide +kernel, by decide +kernel⟩, List.mem_of_getElem? (i := 74) (by decide +kernel), List.mem_of_getElem? (i := 612) (by decide +kernel), List.mem_of_getElem? (i := 613) (by decide +kernel)⟩
theorem lw_p25 : lw_okq (⟨"TripleSieve$Given", "fitsBits", "(I)Z"⟩, 5) := ⟨⟨by decide +kernel, by decide +kernel⟩, List.mem_of_getElem? (i := 74) (by decide +kernel), List.mem_of_getElem? (i := 621) (by decide +kernel), List.mem_of_getElem? (i := 622) (by decide +kernel)⟩
theorem lw_p26 : lw_okq (⟨"TripleSieve", "lookNow", "(J)V"⟩, 13) := ⟨⟨by decide +kernel, by decide +kernel⟩, List.mem_of_getElem? (i := 26) (by decide +kernel), List.mem_of_getElem? (i := 639) (by decide +kernel), List.mem_of_getElem? (i := 640) (by decide +kernel)⟩
theorem lw_p27 : lw_okq (⟨"TripleSieve$Marks", "aim", "(IIII)V"⟩, 8) := ⟨⟨by decide +kernel, by decide +kernel⟩, List.mem_of_getElem? (i := 145) (by decide +kernel), List.mem_of_getElem? (i := 643) (by decide +kernel), List.mem_of_getElem? (i := 644) (by decide +kernel)⟩
theorem lw_p28 : lw_okq (⟨"TripleSieve$Marks", "look", "(J)V"⟩, 8) := ⟨⟨by decide +kernel, by decide +kernel⟩, List.mem_of_getElem? (i := 145) (by decide +kernel), List.mem_of_getElem? (i := 648) (by decide +kernel), List.mem_of_getElem? (i := 649) (by decide +kernel)⟩
theorem lw_p29 : lw_okq (⟨"TripleSieve$Marks", "placeApart", "(J)V"⟩, 8) := ⟨⟨by decide +kernel, by decide +kernel⟩, List.mem_of_getElem? (i := 145) (by decide +kernel), List.mem_of_getElem? (i := 652) (by decide +kernel), List.mem_of_getElem? (i := 653) (by decide +kernel)⟩
theorem lw_p30 : lw_okq (⟨"TripleSieve$Marks", "placeClose", "(J)V"⟩, 8) := ⟨⟨by decide +kernel, by decide +kernel⟩, List.mem_of_getElem? (i := 145) (by decide +kernel), List.mem_of_getElem? (i := 660) (by decide +kernel), List.mem_of_getElem? (i := 661) (by decide +kernel)⟩
theorem lw_p31 : lw_okq (⟨"TripleSieve$Marks", "placeFree", "(J)V"⟩, 8) := ⟨⟨by decide +kernel, by decide +kernel⟩, List.mem_of_getElem? (i := 145) (by decide +kernel), List.mem_of_getElem? (i := 664) (by decide +kernel), List.mem_of_getElem? (i := 665) (by decide +kernel)⟩
def lw_privs_2 : List (MethodName × Nat) := [(⟨"TripleSieve$Reader", "takeValue", "(LTripleSieve$Tape;LTripleSieve$Given;)I"⟩, 1), (⟨"TripleSieve$Given", "insert", "(IJI)V"⟩, 5), (⟨"TripleSieve$Given", "copy", "(LTripleSieve$Given;)V"⟩, 5), (⟨"TripleSieve$Acts", "forget", "()V"⟩, 6), (⟨"TripleSieve$Given", "has", "(I)Z"⟩, 5), (⟨"TripleSieve$Given", "canBeValue", "(I)Z"⟩, 5), (⟨"TripleSieve$Acts", "note", "(IIJI)V"⟩, 6), (⟨"TripleSieve$Given", "drop", "(I)V"⟩, 5), (⟨"TripleSieve$Given", "revalue", "(II)V"⟩, 5), (⟨"TripleSieve$Given", "fitsBits", "(I)Z"⟩, 5), (⟨"TripleSieve", "lookNow", "(J)V"⟩, 13), (⟨"TripleSieve$Marks", "aim", "(IIII)V"⟩, 8), (⟨"TripleSieve$Marks", "look", "(J)V"⟩, 8), (⟨"TripleSieve$Marks", "placeApart", "(J)V"⟩, 8), (⟨"TripleSieve$Marks", "placeClose", "(J)V"⟩, 8), (⟨"TripleSieve$Marks", "placeFree", "(J)V"⟩, 8)]
theorem lw_r2 : ∀ q ∈ lw_privs_2, lw_okq q := List.forall_mem_cons.mpr ⟨lw_p16, List.forall_mem_cons.mpr ⟨lw_p17, List.forall_mem_cons.mpr ⟨lw_p18, List.forall_mem_cons.mpr ⟨lw_p19, List.forall_mem_cons.mpr ⟨lw_p20, List.forall_mem_cons.mpr ⟨lw_p21, List.forall_mem_cons.mpr ⟨lw_p22, List.forall_mem_cons.mpr ⟨lw_p23, List.forall_mem_cons.mpr ⟨lw_p24, List.forall_mem_cons.mpr ⟨lw_p25, List.forall_mem_cons.mpr ⟨lw_p26, List.forall_mem_cons.mpr ⟨lw_p27, List.forall_mem_cons.mpr ⟨lw_p28, List.forall_mem_cons.mpr ⟨lw_p29, List.forall_mem_cons.mpr ⟨lw_p30, List.forall_mem_cons.mpr ⟨lw_p31, fun _ h => absurd h List.not_mem_nil⟩⟩⟩⟩⟩⟩⟩⟩⟩⟩⟩⟩⟩⟩⟩⟩
theorem lw_p32 : lw_okq (⟨"TripleSieve$Marks", "gatherTouched", "()V"⟩, 8) := ⟨⟨by decide +kernel, by decide +kernel⟩, List.mem_of_getElem? (i := 145) (by decide +kernel), List.mem_of_getElem? (i := 668) (by decide +kernel), List.mem_of_getElem? (i := 669) (by decide +kernel)⟩
theorem lw_p33 : lw_okq (⟨"TripleSieve$Marks", "touchOnly", "(I)V"⟩, 8) := ⟨⟨by decide +kernel, by decide +kernel⟩, List.mem_of_getElem? (i := 145) (by decide +kernel), List.mem_of_getElem? (i := 672) (by decide +kernel), List.mem_of_getElem? (i := 673) (by decide +kernel)⟩
theorem lw_p34 : lw_okq (⟨"TripleSieve", "layNow", "()V"⟩, 13) := ⟨⟨by decide +kernel, by decide +kernel⟩, List.mem_of_getElem? (i := 26) (by decide +kernel), List.mem_of_getElem? (i := 688) (by decide +kernel), List.mem_of_getElem? (i := 689) (by decide +kernel)⟩
theorem lw_p35 : lw_okq (⟨"TripleSieve$Row", "lay", "(LTripleSieve$Given;LTripleSieve$Marks;II)V"⟩, 9) := ⟨⟨by decide +kernel, by decide +kernel⟩, List.mem_of_getElem? (i := 182) (by decide +kernel), List.mem_of_getElem? (i := 692) (by decide +kernel), List.mem_of_getElem? (i := 693) (by decide +kernel)⟩
theorem lw_p36 : lw_okq (⟨"TripleSieve$Row", "putBack", "(I)V"⟩, 9) := ⟨⟨by decide +kernel, by decide +kernel⟩, List.mem_of_getElem? (i := 182) (by decide +kernel), List.mem_of_getElem? (i := 701) (by decide +kernel), List.mem_of_getElem? (i := 702) (by decide +kernel)⟩
theorem lw_p37 : lw_okq (⟨"TripleSieve$Row", "touchSame", "(II)Z"⟩, 9) := ⟨⟨by decide +kernel, by decide +kernel⟩, List.mem_of_getElem? (i := 182) (by decide +kernel), List.mem_of_getElem? (i := 709) (by decide +kernel), List.mem_of_getElem? (i := 710) (by decide +kernel)⟩
theorem lw_p38 : lw_okq (⟨"TripleSieve", "peelNow", "()V"⟩, 13) := ⟨⟨by decide +kernel, by decide +kernel⟩, List.mem_of_getElem? (i := 26) (by decide +kernel), List.mem_of_getElem? (i := 717) (by decide +kernel), List.mem_of_getElem? (i := 718) (by decide +kernel)⟩
theorem lw_p39 : lw_okq (⟨"TripleSieve$Peeling", "run", "(LTripleSieve$Row;I)V"⟩, 8) := ⟨⟨by decide +kernel, by decide +kernel⟩, List.mem_of_getElem? (i := 238) (by decide +kernel), List.mem_of_getElem? (i := 721) (by decide +kernel), List.mem_of_getElem? (i := 722) (by decide +kernel)⟩
theorem lw_p40 : lw_okq (⟨"TripleSieve$Peeling", "runLeast", "(LTripleSieve$Row;)V"⟩, 8) := ⟨⟨by decide +kernel, by decide +kernel⟩, List.mem_of_getElem? (i := 238) (by decide +kernel), List.mem_of_getElem? (i := 725) (by decide +kernel), List.mem_of_getElem? (i := 726) (by decide +kernel)⟩
theorem lw_p41 : lw_okq (⟨"TripleSieve$Row", "isAlone", "(I)Z"⟩, 9) := ⟨⟨by decide +kernel, by decide +kernel⟩, List.mem_of_getElem? (i := 182) (by decide +kernel), List.mem_of_getElem? (i := 729) (by decide +kernel), List.mem_of_getElem? (i := 730) (by decide +kernel)⟩
theorem lw_p42 : lw_okq (⟨"TripleSieve$Peeling", "goOut", "(LTripleSieve$Row;I)I"⟩, 8) := ⟨⟨by decide +kernel, by decide +kernel⟩, List.mem_of_getElem? (i := 238) (by decide +kernel), List.mem_of_getElem? (i := 733) (by decide +kernel), List.mem_of_getElem? (i := 734) (by decide +kernel)⟩
theorem lw_p43 : lw_okq (⟨"TripleSieve$Row", "takeOff", "(I)V"⟩, 9) := ⟨⟨by decide +kernel, by decide +kernel⟩, List.mem_of_getElem? (i := 182) (by decide +kernel), List.mem_of_getElem? (i := 737) (by decide +kernel), List.mem_of_getElem? (i := 738) (by decide +kernel)⟩
theorem lw_p44 : lw_okq (⟨"TripleSieve$Peeling", "runLine", "(LTripleSieve$Row;Z)V"⟩, 8) := ⟨⟨by decide +kernel, by decide +kernel⟩, List.mem_of_getElem? (i := 238) (by decide +kernel), List.mem_of_getElem? (i := 741) (by decide +kernel), List.mem_of_getElem? (i := 742) (by decide +kernel)⟩
theorem lw_p45 : lw_okq (⟨"TripleSieve$Peeling", "lineUp", "(LTripleSieve$Row;I)V"⟩, 8) := ⟨⟨by decide +kernel, by decide +kernel⟩, List.mem_of_getElem? (i := 238) (by decide +kernel), List.mem_of_getElem? (i := 745) (by decide +kernel), List.mem_of_getElem? (i := 746) (by decide +kernel)⟩
theorem lw_p46 : lw_okq (⟨"TripleSieve$Peeling", "leaveLine", "(Z)I"⟩, 8) := ⟨⟨by decide +kernel, by decide +kernel⟩, List.mem_of_getElem? (i := 238) (by decide +kernel), List.mem_of_getElem? (i := 749) (by decide +kernel), List.mem_of_getElem? (i := 750) (by decide +kernel)⟩
theorem lw_p47 : lw_okq (⟨"TripleSieve$Row", "leftAt", "(I)I"⟩, 9) := ⟨⟨by decide +kernel, by decide +kernel⟩, List.mem_of_getElem? (i := 182) (by decide +kernel), List.mem_of_getElem? (i := 757) (by decide +kernel), List.mem_of_getElem? (i := 758) (by decide +kernel)⟩
def lw_privs_3 : List (MethodName × Nat) := [(⟨"TripleSieve$Marks", "gatherTouched", "()V"⟩, 8), (⟨"TripleSieve$Marks", "touchOnly", "(I)V"⟩, 8), (⟨"TripleSieve", "layNow", "()V"⟩, 13), (⟨"TripleSieve$Row", "lay", "(LTripleSieve$Given;LTripleSieve$Marks;II)V"⟩, 9), (⟨"TripleSieve$Row", "putBack", "(I)V"⟩, 9), (⟨"TripleSieve$Row", "touchSame", "(II)Z"⟩, 9), (⟨"TripleSieve", "peelNow", "()V"⟩, 13), (⟨"TripleSieve$Peeling", "run", "(LTripleSieve$Row;I)V"⟩, 8), (⟨"TripleSieve$Peeling", "runLeast", "(LTripleSieve$Row;)V"⟩, 8), (⟨"TripleSieve$Row", "isAlone", "(I)Z"⟩, 9), (⟨"TripleSieve$Peeling", "goOut", "(LTripleSieve$Row;I)I"⟩, 8), (⟨"TripleSieve$Row", "takeOff", "(I)V"⟩, 9), (⟨"TripleSieve$Peeling", "runLine", "(LTripleSieve$Row;Z)V"⟩, 8), (⟨"TripleSieve$Peeling", "lineUp", "(LTripleSieve$Row;I)V"⟩, 8), (⟨"TripleSieve$Peeling", "leaveLine", "(Z)I"⟩, 8), (⟨"TripleSieve$Row", "leftAt", "(I)I"⟩, 9)]
theorem lw_r3 : ∀ q ∈ lw_privs_3, lw_okq q := List.forall_mem_cons.mpr ⟨lw_p32, List.forall_mem_cons.mpr ⟨lw_p33, List.forall_mem_cons.mpr ⟨lw_p34, List.forall_mem_cons.mpr ⟨lw_p35, List.forall_mem_cons.mpr ⟨lw_p36, List.forall_mem_cons.mpr ⟨lw_p37, List.forall_mem_cons.mpr ⟨lw_p38, List.forall_mem_cons.mpr ⟨lw_p39, List.forall_mem_cons.mpr ⟨lw_p40, List.forall_mem_cons.mpr ⟨lw_p41, List.forall_mem_cons.mpr ⟨lw_p42, List.forall_mem_cons.mpr ⟨lw_p43, List.forall_mem_cons.mpr ⟨lw_p44, List.forall_mem_cons.mpr ⟨lw_p45, List.forall_mem_cons.mpr ⟨lw_p46, List.forall_mem_cons.mpr ⟨lw_p47, fun _ h => absurd h List.not_mem_nil⟩⟩⟩⟩⟩⟩⟩⟩⟩⟩⟩⟩⟩⟩⟩⟩
theorem lw_p48 : lw_okq (⟨"TripleSieve$Rounds", "run", "(LTripleSieve$Row;)I"⟩, 1) := ⟨⟨by decide +kernel, by decide +kernel⟩, List.mem_of_getElem? (i := 272) (by decide +kernel), List.mem_of_getElem? (i := 765) (by decide +kernel), List.mem_of_getElem? (i := 766) (by decide +kernel)⟩
theorem lw_p49 : lw_okq (⟨"TripleSieve$Rounds", "mark", "(LTripleSieve$Row;I)Z"⟩, 1) := ⟨⟨by decide +kernel, by decide +kernel⟩, List.mem_of_getElem? (i := 272) (by decide +kernel), List.mem_of_getElem? (i := 770) (by decide +kernel), List.mem_of_getElem? (i := 771) (by decide +kernel)⟩
theorem lw_p50 : lw_okq (⟨"TripleSieve$Rounds", "takeMarked", "(LTripleSieve$Row;I)V"⟩, 1) := ⟨⟨by decide +kernel, by decide +kernel⟩, List.mem_of_getElem? (i := 272) (by decide +kernel), List.mem_of_getElem? (i := 775) (by decide +kernel), List.mem_of_getElem? (i := 776) (by decide +kernel)⟩
theorem lw_p51 : lw_okq (⟨"TripleSieve$Basis", "independent", "(LTripleSieve$Row;)I"⟩, 3) := ⟨⟨by decide +kernel, by decide +kernel⟩, List.mem_of_getElem? (i := 283) (by decide +kernel), List.mem_of_getElem? (i := 784) (by decide +kernel), List.mem_of_getElem? (i := 785) (by decide +kernel)⟩
theorem lw_p52 : lw_okq (⟨"TripleSieve$Basis", "join", "(JJ)V"⟩, 3) := ⟨⟨by decide +kernel, by decide +kernel⟩, List.mem_of_getElem? (i := 283) (by decide +kernel), List.mem_of_getElem? (i := 788) (by decide +kernel), List.mem_of_getElem? (i := 789) (by decide +kernel)⟩
theorem lw_p53 : lw_okq (⟨"TripleSieve$Mender", "search", "(LTripleSieve$Row;)V"⟩, 7) := ⟨⟨by decide +kernel, by decide +kernel⟩, List.mem_of_getElem? (i := 299) (by decide +kernel), List.mem_of_getElem? (i := 796) (by decide +kernel), List.mem_of_getElem? (i := 797) (by decide +kernel)⟩
theorem lw_p54 : lw_okq (⟨"TripleSieve$Mender", "choose", "(LTripleSieve$Row;III)Z"⟩, 7) := ⟨⟨by decide +kernel, by decide +kernel⟩, List.mem_of_getElem? (i := 299) (by decide +kernel), List.mem_of_getElem? (i := 800) (by decide +kernel), List.mem_of_getElem? (i := 801) (by decide +kernel)⟩
theorem lw_p55 : lw_okq (⟨"TripleSieve$Row", "countTouched", "()I"⟩, 9) := ⟨⟨by decide +kernel, by decide +kernel⟩, List.mem_of_getElem? (i := 182) (by decide +kernel), List.mem_of_getElem? (i := 804) (by decide +kernel), List.mem_of_getElem? (i := 805) (by decide +kernel)⟩
theorem lw_p56 : lw_okq (⟨"TripleSieve$Mender", "leaveOut", "(LTripleSieve$Row;I)V"⟩, 7) := ⟨⟨by decide +kernel, by decide +kernel⟩, List.mem_of_getElem? (i := 299) (by decide +kernel), List.mem_of_getElem? (i := 808) (by decide +kernel), List.mem_of_getElem? (i := 809) (by decide +kernel)⟩
theorem lw_p57 : lw_okq (⟨"TripleSieve$Mender", "take", "(LTripleSieve$Row;I)V"⟩, 7) := ⟨⟨by decide +kernel, by decide +kernel⟩, List.mem_of_getElem? (i := 299) (by decide +kernel), List.mem_of_getElem? (i := 812) (by decide +kernel), List.mem_of_getElem? (i := 813) (by decide +kernel)⟩
theorem lw_p58 : lw_okq (⟨"TripleSieve$Mender", "bringBack", "(LTripleSieve$Row;I)V"⟩, 7) := ⟨⟨by decide +kernel, by decide +kernel⟩, List.mem_of_getElem? (i := 299) (by decide +kernel), List.mem_of_getElem? (i := 818) (by decide +kernel), List.mem_of_getElem? (i := 819) (by decide +kernel)⟩
theorem lw_p59 : lw_okq (⟨"TripleSieve", "allPeel", "(II)Z"⟩, 13) := ⟨⟨by decide +kernel, by decide +kernel⟩, List.mem_of_getElem? (i := 26) (by decide +kernel), List.mem_of_getElem? (i := 827) (by decide +kernel), List.mem_of_getElem? (i := 828) (by decide +kernel)⟩
theorem lw_p60 : lw_okq (⟨"TripleSieve$Peeling", "countWoken", "(LTripleSieve$Row;I)I"⟩, 8) := ⟨⟨by decide +kernel, by decide +kernel⟩, List.mem_of_getElem? (i := 238) (by decide +kernel), List.mem_of_getElem? (i := 839) (by decide +kernel), List.mem_of_getElem? (i := 840) (by decide +kernel)⟩
theorem lw_p61 : lw_okq (⟨"TripleSieve$Peeling", "fillBack", "(LTripleSieve$Row;[I[I)V"⟩, 8) := ⟨⟨by decide +kernel, by decide +kernel⟩, List.mem_of_getElem? (i := 238) (by decide +kernel), List.mem_of_getElem? (i := 844) (by decide +kernel), List.mem_of_getElem? (i := 845) (by decide +kernel)⟩
theorem lw_p62 : lw_okq (⟨"TripleSieve$Sieve", "describe", "(LTripleSieve$Given;II)V"⟩, 4) := ⟨⟨by decide +kernel, by decide +kernel⟩, List.mem_of_getElem? (i := 330) (by decide +kernel), List.mem_of_getElem? (i := 852) (by decide +kernel), List.mem_of_getElem? (i := 853) (by decide +kernel)⟩
theorem lw_p63 : lw_okq (⟨"TripleSieve$Sieve", "countBits", "()I"⟩, 4) := ⟨⟨by decide +kernel, by decide +kernel⟩, List.mem_of_getElem? (i := 330) (by decide +kernel), List.mem_of_getElem? (i := 861) (by decide +kernel), List.mem_of_getElem? (i := 862) (by decide +kernel)⟩
def lw_privs_4 : List (MethodName × Nat) := [(⟨"TripleSieve$Rounds", "run", "(LTripleSieve$Row;)I"⟩, 1), (⟨"TripleSieve$Rounds", "mark", "(LTripleSieve$Row;I)Z"⟩, 1), (⟨"TripleSieve$Rounds", "takeMarked", "(LTripleSieve$Row;I)V"⟩, 1), (⟨"TripleSieve$Basis", "independent", "(LTripleSieve$Row;)I"⟩, 3), (⟨"TripleSieve$Basis", "join", "(JJ)V"⟩, 3), (⟨"TripleSieve$Mender", "search", "(LTripleSieve$Row;)V"⟩, 7), (⟨"TripleSieve$Mender", "choose", "(LTripleSieve$Row;III)Z"⟩, 7), (⟨"TripleSieve$Row", "countTouched", "()I"⟩, 9), (⟨"TripleSieve$Mender", "leaveOut", "(LTripleSieve$Row;I)V"⟩, 7), (⟨"TripleSieve$Mender", "take", "(LTripleSieve$Row;I)V"⟩, 7), (⟨"TripleSieve$Mender", "bringBack", "(LTripleSieve$Row;I)V"⟩, 7), (⟨"TripleSieve", "allPeel", "(II)Z"⟩, 13), (⟨"TripleSieve$Peeling", "countWoken", "(LTripleSieve$Row;I)I"⟩, 8), (⟨"TripleSieve$Peeling", "fillBack", "(LTripleSieve$Row;[I[I)V"⟩, 8), (⟨"TripleSieve$Sieve", "describe", "(LTripleSieve$Given;II)V"⟩, 4), (⟨"TripleSieve$Sieve", "countBits", "()I"⟩, 4)]
theorem lw_r4 : ∀ q ∈ lw_privs_4, lw_okq q := List.forall_mem_cons.mpr ⟨lw_p48, List.forall_mem_cons.mpr ⟨lw_p49, List.forall_mem_cons.mpr ⟨lw_p50, List.forall_mem_cons.mpr ⟨lw_p51, List.forall_mem_cons.mpr ⟨lw_p52, List.forall_mem_cons.mpr ⟨lw_p53, List.forall_mem_cons.mpr ⟨lw_p54, List.forall_mem_cons.mpr ⟨lw_p55, List.forall_mem_cons.mpr ⟨lw_p56, List.forall_mem_cons.mpr ⟨lw_p57, List.forall_mem_cons.mpr ⟨lw_p58, List.forall_mem_cons.mpr ⟨lw_p59, List.forall_mem_cons.mpr ⟨lw_p60, List.forall_mem_cons.mpr ⟨lw_p61, List.forall_mem_cons.mpr ⟨lw_p62, List.forall_mem_cons.mpr ⟨lw_p63, fun _ h => absurd h List.not_mem_nil⟩⟩⟩⟩⟩⟩⟩⟩⟩⟩⟩⟩⟩⟩⟩⟩
theorem lw_p64 : lw_okq (⟨"TripleSieve$Sieve", "length", "()I"⟩, 4) := ⟨⟨by decide +kernel, by decide +kernel⟩, List.mem_of_getElem? (i := 330) (by decide +kernel), List.mem_of_getElem? (i := 865) (by decide +kernel), List.mem_of_getElem? (i := 866) (by decide +kernel)⟩
theorem lw_p65 : lw_okq (⟨"TripleSieve$Sieve", "aim", "(LTripleSieve$Marks;)V"⟩, 4) := ⟨⟨by decide +kernel, by decide +kernel⟩, List.mem_of_getElem? (i := 330) (by decide +kernel), List.mem_of_getElem? (i := 878) (by decide +kernel), List.mem_of_getElem? (i := 879) (by decide +kernel)⟩
theorem lw_p66 : lw_okq (⟨"TripleSieve$Sieve", "letsThrough", "(LTripleSieve$Marks;)Z"⟩, 4) := ⟨⟨by decide +kernel, by decide +kernel⟩, List.mem_of_getElem? (i := 330) (by decide +kernel), List.mem_of_getElem? (i := 883) (by decide +kernel), List.mem_of_getElem? (i := 884) (by decide +kernel)⟩
theorem lw_p67 : lw_okq (⟨"TripleSieve$Marks", "sum", "([I)I"⟩, 8) := ⟨⟨by decide +kernel, by decide +kernel⟩, List.mem_of_getElem? (i := 145) (by decide +kernel), List.mem_of_getElem? (i := 887) (by decide +kernel), List.mem_of_getElem? (i := 888) (by decide +kernel)⟩
theorem lw_p68 : lw_okq (⟨"TripleSieve$Sieve", "copy", "(LTripleSieve$Sieve;)V"⟩, 4) := ⟨⟨by decide +kernel, by decide +kernel⟩, List.mem_of_getElem? (i := 330) (by decide +kernel), List.mem_of_getElem? (i := 908) (by decide +kernel), List.mem_of_getElem? (i := 909) (by decide +kernel)⟩
theorem lw_p69 : lw_okq (⟨"TripleSieve$Sieve", "countUnlike", "(LTripleSieve$Sieve;)I"⟩, 4) := ⟨⟨by decide +kernel, by decide +kernel⟩, List.mem_of_getElem? (i := 330) (by decide +kernel), List.mem_of_getElem? (i := 917) (by decide +kernel), List.mem_of_getElem? (i := 918) (by decide +kernel)⟩
theorem lw_p70 : lw_okq (⟨"TripleSieve$Acts", "undoLatest", "(LTripleSieve$Given;)V"⟩, 6) := ⟨⟨by decide +kernel, by decide +kernel⟩, List.mem_of_getElem? (i := 119) (by decide +kernel), List.mem_of_getElem? (i := 925) (by decide +kernel), List.mem_of_getElem? (i := 926) (by decide +kernel)⟩
theorem lw_p71 : lw_okq (⟨"java/lang/Throwable", "fillInStackTrace", "(I)Ljava/lang/Throwable;"⟩, 6) := ⟨⟨by decide +kernel, by decide +kernel⟩, List.mem_of_getElem? (i := 982) (by decide +kernel), List.mem_of_getElem? (i := 980) (by decide +kernel), List.mem_of_getElem? (i := 981) (by decide +kernel)⟩
theorem lw_p72 : lw_okq (⟨"TripleSieveModel", "lays", "(I)V"⟩, 49) := ⟨⟨by decide +kernel, by decide +kernel⟩, List.mem_of_getElem? (i := 1017) (by decide +kernel), List.mem_of_getElem? (i := 1015) (by decide +kernel), List.mem_of_getElem? (i := 1016) (by decide +kernel)⟩
theorem lw_p73 : lw_okq (⟨"TripleSieveModel", "go", "()V"⟩, 49) := ⟨⟨by decide +kernel, by decide +kernel⟩, List.mem_of_getElem? (i := 1017) (by decide +kernel), List.mem_of_getElem? (i := 1184) (by decide +kernel), List.mem_of_getElem? (i := 1185) (by decide +kernel)⟩
theorem lw_p74 : lw_okq (⟨"TripleSieveModel", "tapeAt", "(I)I"⟩, 49) := ⟨⟨by decide +kernel, by decide +kernel⟩, List.mem_of_getElem? (i := 1017) (by decide +kernel), List.mem_of_getElem? (i := 1191) (by decide +kernel), List.mem_of_getElem? (i := 1192) (by decide +kernel)⟩
theorem lw_p75 : lw_okq (⟨"TripleSieveModel", "readWhole", "()Z"⟩, 49) := ⟨⟨by decide +kernel, by decide +kernel⟩, List.mem_of_getElem? (i := 1017) (by decide +kernel), List.mem_of_getElem? (i := 1200) (by decide +kernel), List.mem_of_getElem? (i := 1201) (by decide +kernel)⟩
theorem lw_p76 : lw_okq (⟨"TripleSieveModel", "isWord", "(J)Z"⟩, 49) := ⟨⟨by decide +kernel, by decide +kernel⟩, List.mem_of_getElem? (i := 1017) (by decide +kernel), List.mem_of_getElem? (i := 1219) (by decide +kernel), List.mem_of_getElem? (i := 1220) (by decide +kernel)⟩
theorem lw_p77 : lw_okq (⟨"TripleSieveModel", "readSetting", "(I)Z"⟩, 49) := ⟨⟨by decide +kernel, by decide +kernel⟩, List.mem_of_getElem? (i := 1017) (by decide +kernel), List.mem_of_getElem? (i := 1223) (by decide +kernel), List.mem_of_getElem? (i := 1224) (by decide +kernel)⟩
theorem lw_p78 : lw_okq (⟨"TripleSieveModel", "wayHere", "()I"⟩, 49) := ⟨⟨by decide +kernel, by decide +kernel⟩, List.mem_of_getElem? (i := 1017) (by decide +kernel), List.mem_of_getElem? (i := 1227) (by decide +kernel), List.mem_of_getElem? (i := 1228) (by decide +kernel)⟩
theorem lw_p79 : lw_okq (⟨"TripleSieveModel", "spreadHere", "()I"⟩, 49) := ⟨⟨by decide +kernel, by decide +kernel⟩, List.mem_of_getElem? (i := 1017) (by decide +kernel), List.mem_of_getElem? (i := 1231) (by decide +kernel), List.mem_of_getElem? (i := 1232) (by decide +kernel)⟩
def lw_privs_5 : List (MethodName × Nat) := [(⟨"TripleSieve$Sieve", "length", "()I"⟩, 4), (⟨"TripleSieve$Sieve", "aim", "(LTripleSieve$Marks;)V"⟩, 4), (⟨"TripleSieve$Sieve", "letsThrough", "(LTripleSieve$Marks;)Z"⟩, 4), (⟨"TripleSieve$Marks", "sum", "([I)I"⟩, 8), (⟨"TripleSieve$Sieve", "copy", "(LTripleSieve$Sieve;)V"⟩, 4), (⟨"TripleSieve$Sieve", "countUnlike", "(LTripleSieve$Sieve;)I"⟩, 4), (⟨"TripleSieve$Acts", "undoLatest", "(LTripleSieve$Given;)V"⟩, 6), (⟨"java/lang/Throwable", "fillInStackTrace", "(I)Ljava/lang/Throwable;"⟩, 6), (⟨"TripleSieveModel", "lays", "(I)V"⟩, 49), (⟨"TripleSieveModel", "go", "()V"⟩, 49), (⟨"TripleSieveModel", "tapeAt", "(I)I"⟩, 49), (⟨"TripleSieveModel", "readWhole", "()Z"⟩, 49), (⟨"TripleSieveModel", "isWord", "(J)Z"⟩, 49), (⟨"TripleSieveModel", "readSetting", "(I)Z"⟩, 49), (⟨"TripleSieveModel", "wayHere", "()I"⟩, 49), (⟨"TripleSieveModel", "spreadHere", "()I"⟩, 49)]
theorem lw_r5 : ∀ q ∈ lw_privs_5, lw_okq q := List.forall_mem_cons.mpr ⟨lw_p64, List.forall_mem_cons.mpr ⟨lw_p65, List.forall_mem_cons.mpr ⟨lw_p66, List.forall_mem_cons.mpr ⟨lw_p67, List.forall_mem_cons.mpr ⟨lw_p68, List.forall_mem_cons.mpr ⟨lw_p69, List.forall_mem_cons.mpr ⟨lw_p70, List.forall_mem_cons.mpr ⟨lw_p71, List.forall_mem_cons.mpr ⟨lw_p72, List.forall_mem_cons.mpr ⟨lw_p73, List.forall_mem_cons.mpr ⟨lw_p74, List.forall_mem_cons.mpr ⟨lw_p75, List.forall_mem_cons.mpr ⟨lw_p76, List.forall_mem_cons.mpr ⟨lw_p77, List.forall_mem_cons.mpr ⟨lw_p78, List.forall_mem_cons.mpr ⟨lw_p79, fun _ h => absurd h List.not_mem_nil⟩⟩⟩⟩⟩⟩⟩⟩⟩⟩⟩⟩⟩⟩⟩⟩
theorem lw_p80 : lw_okq (⟨"TripleSieveModel", "bad", "(I)Z"⟩, 49) := ⟨⟨by decide +kernel, by decide +kernel⟩, List.mem_of_getElem? (i := 1017) (by decide +kernel), List.mem_of_getElem? (i := 1236) (by decide +kernel), List.mem_of_getElem? (i := 1237) (by decide +kernel)⟩
theorem lw_p81 : lw_okq (⟨"TripleSieveModel", "readEnd", "()Z"⟩, 49) := ⟨⟨by decide +kernel, by decide +kernel⟩, List.mem_of_getElem? (i := 1017) (by decide +kernel), List.mem_of_getElem? (i := 1250) (by decide +kernel), List.mem_of_getElem? (i := 1251) (by decide +kernel)⟩
theorem lw_p82 : lw_okq (⟨"TripleSieveModel", "readKey", "()Z"⟩, 49) := ⟨⟨by decide +kernel, by decide +kernel⟩, List.mem_of_getElem? (i := 1017) (by decide +kernel), List.mem_of_getElem? (i := 1254) (by decide +kernel), List.mem_of_getElem? (i := 1255) (by decide +kernel)⟩
theorem lw_p83 : lw_okq (⟨"TripleSieveModel", "isKey", "(I)Z"⟩, 49) := ⟨⟨by decide +kernel, by decide +kernel⟩, List.mem_of_getElem? (i := 1017) (by decide +kernel), List.mem_of_getElem? (i := 1267) (by decide +kernel), List.mem_of_getElem? (i := 1268) (by decide +kernel)⟩
theorem lw_p84 : lw_okq (⟨"TripleSieveModel", "refuse", "()J"⟩, 49) := ⟨⟨by decide +kernel, by decide +kernel⟩, List.mem_of_getElem? (i := 1017) (by decide +kernel), List.mem_of_getElem? (i := 1271) (by decide +kernel), List.mem_of_getElem? (i := 1272) (by decide +kernel)⟩
theorem lw_p85 : lw_okq (⟨"TripleSieveModel", "isValue", "(I)Z"⟩, 49) := ⟨⟨by decide +kernel, by decide +kernel⟩, List.mem_of_getElem? (i := 1017) (by decide +kernel), List.mem_of_getElem? (i := 1283) (by decide +kernel), List.mem_of_getElem? (i := 1284) (by decide +kernel)⟩
theorem lw_p86 : lw_okq (⟨"TripleSieveModel", "indexOf", "(J)I"⟩, 49) := ⟨⟨by decide +kernel, by decide +kernel⟩, List.mem_of_getElem? (i := 1017) (by decide +kernel), List.mem_of_getElem? (i := 1287) (by decide +kernel), List.mem_of_getElem? (i := 1288) (by decide +kernel)⟩
theorem lw_p87 : lw_okq (⟨"TripleSieveModel", "snap", "()V"⟩, 49) := ⟨⟨by decide +kernel, by decide +kernel⟩, List.mem_of_getElem? (i := 1017) (by decide +kernel), List.mem_of_getElem? (i := 1291) (by decide +kernel), List.mem_of_getElem? (i := 1292) (by decide +kernel)⟩
theorem lw_p88 : lw_okq (⟨"TripleSieveModel", "lays3", "(JII)V"⟩, 49) := ⟨⟨by decide +kernel, by decide +kernel⟩, List.mem_of_getElem? (i := 1017) (by decide +kernel), List.mem_of_getElem? (i := 1323) (by decide +kernel), List.mem_of_getElem? (i := 1324) (by decide +kernel)⟩
theorem lw_p89 : lw_okq (⟨"TripleSieveModel", "netNow", "()V"⟩, 49) := ⟨⟨by decide +kernel, by decide +kernel⟩, List.mem_of_getElem? (i := 1017) (by decide +kernel), List.mem_of_getElem? (i := 1343) (by decide +kernel), List.mem_of_getElem? (i := 1344) (by decide +kernel)⟩
theorem lw_p90 : lw_okq (⟨"TripleSieveModel", "nets", "(IJI)V"⟩, 49) := ⟨⟨by decide +kernel, by decide +kernel⟩, List.mem_of_getElem? (i := 1017) (by decide +kernel), List.mem_of_getElem? (i := 1347) (by decide +kernel), List.mem_of_getElem? (i := 1348) (by decide +kernel)⟩
theorem lw_p91 : lw_okq (⟨"TripleSieveModel", "touchesBy", "(I)Z"⟩, 49) := ⟨⟨by decide +kernel, by decide +kernel⟩, List.mem_of_getElem? (i := 1017) (by decide +kernel), List.mem_of_getElem? (i := 1351) (by decide +kernel), List.mem_of_getElem? (i := 1352) (by decide +kernel)⟩
theorem lw_p92 : lw_okq (⟨"TripleSieveModel", "areTwins", "(II)Z"⟩, 49) := ⟨⟨by decide +kernel, by decide +kernel⟩, List.mem_of_getElem? (i := 1017) (by decide +kernel), List.mem_of_getElem? (i := 1359) (by decide +kernel), List.mem_of_getElem? (i := 1360) (by decide +kernel)⟩
theorem lw_p93 : lw_okq (⟨"TripleSieveModel", "isOf", "(II)Z"⟩, 49) := ⟨⟨by decide +kernel, by decide +kernel⟩, List.mem_of_getElem? (i := 1017) (by decide +kernel), List.mem_of_getElem? (i := 1363) (by decide +kernel), List.mem_of_getElem? (i := 1364) (by decide +kernel)⟩
theorem lw_p94 : lw_okq (⟨"TripleSieveModel", "peelNow", "()V"⟩, 49) := ⟨⟨by decide +kernel, by decide +kernel⟩, List.mem_of_getElem? (i := 1017) (by decide +kernel), List.mem_of_getElem? (i := 1371) (by decide +kernel), List.mem_of_getElem? (i := 1372) (by decide +kernel)⟩
theorem lw_p95 : lw_okq (⟨"TripleSieveModel", "peelsBy", "(II)V"⟩, 49) := ⟨⟨by decide +kernel, by decide +kernel⟩, List.mem_of_getElem? (i := 1017) (by decide +kernel), List.mem_of_getElem? (i := 1375) (by decide +kernel), List.mem_of_getElem? (i := 1376) (by decide +kernel)⟩
def lw_privs_6 : List (MethodName × Nat) := [(⟨"TripleSieveModel", "bad", "(I)Z"⟩, 49), (⟨"TripleSieveModel", "readEnd", "()Z"⟩, 49), (⟨"TripleSieveModel", "readKey", "()Z"⟩, 49), (⟨"TripleSieveModel", "isKey", "(I)Z"⟩, 49), (⟨"TripleSieveModel", "refuse", "()J"⟩, 49), (⟨"TripleSieveModel", "isValue", "(I)Z"⟩, 49), (⟨"TripleSieveModel", "indexOf", "(J)I"⟩, 49), (⟨"TripleSieveModel", "snap", "()V"⟩, 49), (⟨"TripleSieveModel", "lays3", "(JII)V"⟩, 49), (⟨"TripleSieveModel", "netNow", "()V"⟩, 49), (⟨"TripleSieveModel", "nets", "(IJI)V"⟩, 49), (⟨"TripleSieveModel", "touchesBy", "(I)Z"⟩, 49), (⟨"TripleSieveModel", "areTwins", "(II)Z"⟩, 49), (⟨"TripleSieveModel", "isOf", "(II)Z"⟩, 49), (⟨"TripleSieveModel", "peelNow", "()V"⟩, 49), (⟨"TripleSieveModel", "peelsBy", "(II)V"⟩, 49)]
theorem lw_r6 : ∀ q ∈ lw_privs_6, lw_okq q := List.forall_mem_cons.mpr ⟨lw_p80, List.forall_mem_cons.mpr ⟨lw_p81, List.forall_mem_cons.mpr ⟨lw_p82, List.forall_mem_cons.mpr ⟨lw_p83, List.forall_mem_cons.mpr ⟨lw_p84, List.forall_mem_cons.mpr ⟨lw_p85, List.forall_mem_cons.mpr ⟨lw_p86, List.forall_mem_cons.mpr ⟨lw_p87, List.forall_mem_cons.mpr ⟨lw_p88, List.forall_mem_cons.mpr ⟨lw_p89, List.forall_mem_cons.mpr ⟨lw_p90, List.forall_mem_cons.mpr ⟨lw_p91, List.forall_mem_cons.mpr ⟨lw_p92, List.forall_mem_cons.mpr ⟨lw_p93, List.forall_mem_cons.mpr ⟨lw_p94, List.forall_mem_cons.mpr ⟨lw_p95, fun _ h => absurd h List.not_mem_nil⟩⟩⟩⟩⟩⟩⟩⟩⟩⟩⟩⟩⟩⟩⟩⟩
theorem lw_p96 : lw_okq (⟨"TripleSieveModel", "comesBehind", "(I)V"⟩, 49) := ⟨⟨by decide +kernel, by decide +kernel⟩, List.mem_of_getElem? (i := 1017) (by decide +kernel), List.mem_of_getElem? (i := 1379) (by decide +kernel), List.mem_of_getElem? (i := 1380) (by decide +kernel)⟩
theorem lw_p97 : lw_okq (⟨"TripleSieveModel", "nextCell", "(II)I"⟩, 49) := ⟨⟨by decide +kernel, by decide +kernel⟩, List.mem_of_getElem? (i := 1017) (by decide +kernel), List.mem_of_getElem? (i := 1383) (by decide +kernel), List.mem_of_getElem? (i := 1384) (by decide +kernel)⟩
theorem lw_p98 : lw_okq (⟨"TripleSieveModel", "takesOut", "(I)V"⟩, 49) := ⟨⟨by decide +kernel, by decide +kernel⟩, List.mem_of_getElem? (i := 1017) (by decide +kernel), List.mem_of_getElem? (i := 1387) (by decide +kernel), List.mem_of_getElem? (i := 1388) (by decide +kernel)⟩
theorem lw_p99 : lw_okq (⟨"TripleSieveModel", "laysLevels", "()I"⟩, 49) := ⟨⟨by decide +kernel, by decide +kernel⟩, List.mem_of_getElem? (i := 1017) (by decide +kernel), List.mem_of_getElem? (i := 1399) (by decide +kernel), List.mem_of_getElem? (i := 1400) (by decide +kernel)⟩
theorem lw_p100 : lw_okq (⟨"TripleSieveModel", "findsOut", "(III)Z"⟩, 49) := ⟨⟨by decide +kernel, by decide +kernel⟩, List.mem_of_getElem? (i := 1017) (by decide +kernel), List.mem_of_getElem? (i := 1411) (by decide +kernel), List.mem_of_getElem? (i := 1412) (by decide +kernel)⟩
theorem lw_p101 : lw_okq (⟨"TripleSieveModel", "peelsAll", "(IJI)Z"⟩, 49) := ⟨⟨by decide +kernel, by decide +kernel⟩, List.mem_of_getElem? (i := 1017) (by decide +kernel), List.mem_of_getElem? (i := 1415) (by decide +kernel), List.mem_of_getElem? (i := 1416) (by decide +kernel)⟩
theorem lw_p102 : lw_okq (⟨"TripleSieveModel", "fills", "(J)V"⟩, 49) := ⟨⟨by decide +kernel, by decide +kernel⟩, List.mem_of_getElem? (i := 1017) (by decide +kernel), List.mem_of_getElem? (i := 1431) (by decide +kernel), List.mem_of_getElem? (i := 1432) (by decide +kernel)⟩
theorem lw_p103 : lw_okq (⟨"TripleSieveModel", "asks", "(J)Z"⟩, 49) := ⟨⟨by decide +kernel, by decide +kernel⟩, List.mem_of_getElem? (i := 1017) (by decide +kernel), List.mem_of_getElem? (i := 1451) (by decide +kernel), List.mem_of_getElem? (i := 1452) (by decide +kernel)⟩
theorem lw_p104 : lw_okq (⟨"TripleSieveModel", "copies", "(II)V"⟩, 49) := ⟨⟨by decide +kernel, by decide +kernel⟩, List.mem_of_getElem? (i := 1017) (by decide +kernel), List.mem_of_getElem? (i := 1471) (by decide +kernel), List.mem_of_getElem? (i := 1472) (by decide +kernel)⟩
theorem lw_p105 : lw_okq (⟨"TripleSieveModel", "emptyCells", "()I"⟩, 49) := ⟨⟨by decide +kernel, by decide +kernel⟩, List.mem_of_getElem? (i := 1017) (by decide +kernel), List.mem_of_getElem? (i := 1483) (by decide +kernel), List.mem_of_getElem? (i := 1484) (by decide +kernel)⟩
def lw_privs_7 : List (MethodName × Nat) := [(⟨"TripleSieveModel", "comesBehind", "(I)V"⟩, 49), (⟨"TripleSieveModel", "nextCell", "(II)I"⟩, 49), (⟨"TripleSieveModel", "takesOut", "(I)V"⟩, 49), (⟨"TripleSieveModel", "laysLevels", "()I"⟩, 49), (⟨"TripleSieveModel", "findsOut", "(III)Z"⟩, 49), (⟨"TripleSieveModel", "peelsAll", "(IJI)Z"⟩, 49), (⟨"TripleSieveModel", "fills", "(J)V"⟩, 49), (⟨"TripleSieveModel", "asks", "(J)Z"⟩, 49), (⟨"TripleSieveModel", "copies", "(II)V"⟩, 49), (⟨"TripleSieveModel", "emptyCells", "()I"⟩, 49)]
theorem lw_r7 : ∀ q ∈ lw_privs_7, lw_okq q := List.forall_mem_cons.mpr ⟨lw_p96, List.forall_mem_cons.mpr ⟨lw_p97, List.forall_mem_cons.mpr ⟨lw_p98, List.forall_mem_cons.mpr ⟨lw_p99, List.forall_mem_cons.mpr ⟨lw_p100, List.forall_mem_cons.mpr ⟨lw_p101, List.forall_mem_cons.mpr ⟨lw_p102, List.forall_mem_cons.mpr ⟨lw_p103, List.forall_mem_cons.mpr ⟨lw_p104, List.forall_mem_cons.mpr ⟨lw_p105, fun _ h => absurd h List.not_mem_nil⟩⟩⟩⟩⟩⟩⟩⟩⟩⟩
def lw_privs : List (MethodName × Nat) := lw_privs_1 ++ (lw_privs_2 ++ (lw_privs_3 ++ (lw_privs_4 ++ (lw_privs_5 ++ (lw_privs_6 ++ (lw_privs_7))))))
def lw_tbl : List Cond := k2_sels lw_privs ++ tables_1
theorem lw_privs_ok : ∀ q ∈ lw_privs, lw_okq q := by
  show ∀ q ∈ lw_privs_1 ++ (lw_privs_2 ++ (lw_privs_3 ++ (lw_privs_4 ++ (lw_privs_5 ++ (lw_privs_6 ++ (lw_privs_7)))))), lw_okq q
  exact List.forall_mem_append.mpr ⟨lw_r1, List.forall_mem_append.mpr ⟨lw_r2, List.forall_mem_append.mpr ⟨lw_r3, List.forall_mem_append.mpr ⟨lw_r4, List.forall_mem_append.mpr ⟨lw_r5, List.forall_mem_append.mpr ⟨lw_r6, lw_r7⟩⟩⟩⟩⟩⟩
-- class tables (as the printed names have them)
def RX0 : String := "TripleSieve$Acts"
def TX0 : u_T := fun k => match k with
  | 0 => ("TripleSieve$Acts", "kinds", "[I", true)
  | 1 => ("TripleSieve$Acts", "places", "[I", true)
  | 2 => ("TripleSieve$Acts", "numbers", "[J", true)
  | 3 => ("TripleSieve$Acts", "values", "[I", true)
  | 4 => ("TripleSieve$Acts", "next", "I", false)
  | _ => ("TripleSieve$Acts", "size", "I", false)
def tyX0 : Nat → FieldType := fun k => match k with
  | 0 => .array .int
  | 1 => .array .int
  | 2 => .array .long
  | 3 => .array .int
  | 4 => .int
  | _ => .int
theorem nmX0 : ∀ a, a < 6 → ∀ b, b < 6 → a ≠ b → (TX0 a).2.1 ≠ (TX0 b).2.1 := by decide +kernel
theorem tyX0_ok : ∀ k, k < 6 → parseFieldDescriptor (TX0 k).2.2.1 = some (tyX0 k) := by decide +kernel
def RX1 : String := "TripleSieve$Basis"
def TX1 : u_T := fun k => match k with
  | 0 => ("TripleSieve$Basis", "lows", "[J", true)
  | 1 => ("TripleSieve$Basis", "highs", "[J", true)
  | _ => ("TripleSieve$Basis", "size", "I", false)
def tyX1 : Nat → FieldType := fun k => match k with
  | 0 => .array .long
  | 1 => .array .long
  | _ => .int
theorem nmX1 : ∀ a, a < 3 → ∀ b, b < 3 → a ≠ b → (TX1 a).2.1 ≠ (TX1 b).2.1 := by decide +kernel
theorem tyX1_ok : ∀ k, k < 3 → parseFieldDescriptor (TX1 k).2.2.1 = some (tyX1 k) := by decide +kernel
def RX2 : String := "TripleSieve$Given"
def TX2 : u_T := fun k => match k with
  | 0 => ("TripleSieve$Given", "numbers", "[J", true)
  | 1 => ("TripleSieve$Given", "values", "[I", true)
  | 2 => ("TripleSieve$Given", "settings", "[I", true)
  | 3 => ("TripleSieve$Given", "size", "I", false)
  | _ => ("TripleSieve$Given", "changes", "I", false)
def tyX2 : Nat → FieldType := fun k => match k with
  | 0 => .array .long
  | 1 => .array .int
  | 2 => .array .int
  | 3 => .int
  | _ => .int
theorem nmX2 : ∀ a, a < 5 → ∀ b, b < 5 → a ≠ b → (TX2 a).2.1 ≠ (TX2 b).2.1 := by decide +kernel
theorem tyX2_ok : ∀ k, k < 5 → parseFieldDescriptor (TX2 k).2.2.1 = some (tyX2 k) := by decide +kernel
def RX3 : String := "TripleSieve$Marks"
def TX3 : u_T := fun k => match k with
  | 0 => ("TripleSieve$Marks", "three", "[I", true)
  | 1 => ("TripleSieve$Marks", "touched", "[I", true)
  | 2 => ("TripleSieve$Marks", "touches", "I", false)
  | 3 => ("TripleSieve$Marks", "print", "I", false)
  | 4 => ("TripleSieve$Marks", "seedMix", "J", false)
  | 5 => ("TripleSieve$Marks", "cells", "I", false)
  | 6 => ("TripleSieve$Marks", "printMask", "I", false)
  | _ => ("TripleSieve$Marks", "spread", "I", false)
def tyX3 : Nat → FieldType := fun k => match k with
  | 0 => .array .int
  | 1 => .array .int
  | 2 => .int
  | 3 => .int
  | 4 => .long
  | 5 => .int
  | 6 => .int
  | _ => .int
theorem nmX3 : ∀ a, a < 8 → ∀ b, b < 8 → a ≠ b → (TX3 a).2.1 ≠ (TX3 b).2.1 := by decide +kernel
theorem tyX3_ok : ∀ k, k < 8 → parseFieldDescriptor (TX3 k).2.2.1 = some (tyX3 k) := by decide +kernel
def RX4 : String := "TripleSieve$Mender"
def TX4 : u_T := fun k => match k with
  | 0 => ("TripleSieve$Mender", "chosen", "[I", true)
  | 1 => ("TripleSieve$Mender", "fewest", "I", false)
  | 2 => ("TripleSieve$Mender", "changes", "I", false)
  | 3 => ("TripleSieve$Mender", "trail", "[I", true)
  | 4 => ("TripleSieve$Mender", "trailSize", "I", false)
  | 5 => ("TripleSieve$Mender", "line", "[I", true)
  | _ => ("TripleSieve$Mender", "lineSize", "I", false)
def tyX4 : Nat → FieldType := fun k => match k with
  | 0 => .array .int
  | 1 => .int
  | 2 => .int
  | 3 => .array .int
  | 4 => .int
  | 5 => .array .int
  | _ => .int
theorem nmX4 : ∀ a, a < 7 → ∀ b, b < 7 → a ≠ b → (TX4 a).2.1 ≠ (TX4 b).2.1 := by decide +kernel
theorem tyX4_ok : ∀ k, k < 7 → parseFieldDescriptor (TX4 k).2.2.1 = some (tyX4 k) := by decide +kernel
def RX5 : String := "TripleSieve$Peeling"
def TX5 : u_T := fun k => match k with
  | 0 => ("TripleSieve$Peeling", "keyOf", "[I", true)
  | 1 => ("TripleSieve$Peeling", "cellOf", "[I", true)
  | 2 => ("TripleSieve$Peeling", "peeled", "I", false)
  | 3 => ("TripleSieve$Peeling", "line", "[I", true)
  | 4 => ("TripleSieve$Peeling", "head", "I", false)
  | 5 => ("TripleSieve$Peeling", "tail", "I", false)
  | 6 => ("TripleSieve$Peeling", "goals", "[I", true)
  | _ => ("TripleSieve$Peeling", "woken", "[I", true)
def tyX5 : Nat → FieldType := fun k => match k with
  | 0 => .array .int
  | 1 => .array .int
  | 2 => .int
  | 3 => .array .int
  | 4 => .int
  | 5 => .int
  | 6 => .array .int
  | _ => .array .int
theorem nmX5 : ∀ a, a < 8 → ∀ b, b < 8 → a ≠ b → (TX5 a).2.1 ≠ (TX5 b).2.1 := by decide +kernel
theorem tyX5_ok : ∀ k, k < 8 → parseFieldDescriptor (TX5 k).2.2.1 = some (tyX5 k) := by decide +kernel
def RX6 : String := "TripleSieve$Reader"
def TX6 : u_T := fun k => match k with
  | _ => ("TripleSieve$Reader", "fault", "I", false)
def tyX6 : Nat → FieldType := fun k => match k with
  | _ => .int
theorem nmX6 : ∀ a, a < 1 → ∀ b, b < 1 → a ≠ b → (TX6 a).2.1 ≠ (TX6 b).2.1 := by decide +kernel
theorem tyX6_ok : ∀ k, k < 1 → parseFieldDescriptor (TX6 k).2.2.1 = some (tyX6 k) := by decide +kernel
def RX7 : String := "TripleSieve$Rounds"
def TX7 : u_T := fun k => match k with
  | _ => ("TripleSieve$Rounds", "levels", "[I", true)
def tyX7 : Nat → FieldType := fun k => match k with
  | _ => .array .int
theorem nmX7 : ∀ a, a < 1 → ∀ b, b < 1 → a ≠ b → (TX7 a).2.1 ≠ (TX7 b).2.1 := by decide +kernel
theorem tyX7_ok : ∀ k, k < 1 → parseFieldDescriptor (TX7 k).2.2.1 = some (tyX7 k) := by decide +kernel
def RX8 : String := "TripleSieve$Row"
def TX8 : u_T := fun k => match k with
  | 0 => ("TripleSieve$Row", "touched", "[I", true)
  | 1 => ("TripleSieve$Row", "touches", "[I", true)
  | 2 => ("TripleSieve$Row", "prints", "[I", true)
  | 3 => ("TripleSieve$Row", "off", "[Z", true)
  | 4 => ("TripleSieve$Row", "loads", "[I", true)
  | 5 => ("TripleSieve$Row", "mixes", "[I", true)
  | 6 => ("TripleSieve$Row", "keys", "I", false)
  | 7 => ("TripleSieve$Row", "left", "I", false)
  | _ => ("TripleSieve$Row", "cells", "I", false)
def tyX8 : Nat → FieldType := fun k => match k with
  | 0 => .array .int
  | 1 => .array .int
  | 2 => .array .int
  | 3 => .array .boolean
  | 4 => .array .int
  | 5 => .array .int
  | 6 => .int
  | 7 => .int
  | _ => .int
theorem nmX8 : ∀ a, a < 9 → ∀ b, b < 9 → a ≠ b → (TX8 a).2.1 ≠ (TX8 b).2.1 := by decide +kernel
theorem tyX8_ok : ∀ k, k < 9 → parseFieldDescriptor (TX8 k).2.2.1 = some (tyX8 k) := by decide +kernel
def RX9 : String := "TripleSieve$Sieve"
def TX9 : u_T := fun k => match k with
  | 0 => ("TripleSieve$Sieve", "facts", "[I", true)
  | 1 => ("TripleSieve$Sieve", "prints", "[I", true)
  | 2 => ("TripleSieve$Sieve", "values", "[I", true)
  | _ => ("TripleSieve$Sieve", "stands", "Z", false)
def tyX9 : Nat → FieldType := fun k => match k with
  | 0 => .array .int
  | 1 => .array .int
  | 2 => .array .int
  | _ => .boolean
theorem nmX9 : ∀ a, a < 4 → ∀ b, b < 4 → a ≠ b → (TX9 a).2.1 ≠ (TX9 b).2.1 := by decide +kernel
theorem tyX9_ok : ∀ k, k < 4 → parseFieldDescriptor (TX9 k).2.2.1 = some (tyX9 k) := by decide +kernel
def RX10 : String := "TripleSieve$Tape"
def TX10 : u_T := fun k => match k with
  | 0 => ("TripleSieve$Tape", "bytes", "[B", true)
  | 1 => ("TripleSieve$Tape", "length", "I", false)
  | 2 => ("TripleSieve$Tape", "kind", "I", false)
  | 3 => ("TripleSieve$Tape", "start", "I", false)
  | 4 => ("TripleSieve$Tape", "behind", "I", false)
  | _ => ("TripleSieve$Tape", "number", "I", false)
def tyX10 : Nat → FieldType := fun k => match k with
  | 0 => .array .byte
  | 1 => .int
  | 2 => .int
  | 3 => .int
  | 4 => .int
  | _ => .int
theorem nmX10 : ∀ a, a < 6 → ∀ b, b < 6 → a ≠ b → (TX10 a).2.1 ≠ (TX10 b).2.1 := by decide +kernel
theorem tyX10_ok : ∀ k, k < 6 → parseFieldDescriptor (TX10 k).2.2.1 = some (tyX10 k) := by decide +kernel
def RX11 : String := "TripleSieve"
def TX11 : u_T := fun k => match k with
  | 0 => ("TripleSieve", "tape", "LTripleSieve$Tape;", true)
  | 1 => ("TripleSieve", "reader", "LTripleSieve$Reader;", true)
  | 2 => ("TripleSieve", "given", "LTripleSieve$Given;", true)
  | 3 => ("TripleSieve", "draft", "LTripleSieve$Given;", true)
  | 4 => ("TripleSieve", "acts", "LTripleSieve$Acts;", true)
  | 5 => ("TripleSieve", "marks", "LTripleSieve$Marks;", true)
  | 6 => ("TripleSieve", "row", "LTripleSieve$Row;", true)
  | 7 => ("TripleSieve", "peeling", "LTripleSieve$Peeling;", true)
  | 8 => ("TripleSieve", "rounds", "LTripleSieve$Rounds;", true)
  | 9 => ("TripleSieve", "basis", "LTripleSieve$Basis;", true)
  | 10 => ("TripleSieve", "mender", "LTripleSieve$Mender;", true)
  | 11 => ("TripleSieve", "sieve", "LTripleSieve$Sieve;", true)
  | _ => ("TripleSieve", "shelves", "[LTripleSieve$Sieve;", true)
def tyX11 : Nat → FieldType := fun k => match k with
  | 0 => .object "TripleSieve$Tape"
  | 1 => .object "TripleSieve$Reader"
  | 2 => .object "TripleSieve$Given"
  | 3 => .object "TripleSieve$Given"
  | 4 => .object "TripleSieve$Acts"
  | 5 => .object "TripleSieve$Marks"
  | 6 => .object "TripleSieve$Row"
  | 7 => .object "TripleSieve$Peeling"
  | 8 => .object "TripleSieve$Rounds"
  | 9 => .object "TripleSieve$Basis"
  | 10 => .object "TripleSieve$Mender"
  | 11 => .object "TripleSieve$Sieve"
  | _ => .array (.object "TripleSieve$Sieve")
theorem nmX11 : ∀ a, a < 13 → ∀ b, b < 13 → a ≠ b → (TX11 a).2.1 ≠ (TX11 b).2.1 := by decide +kernel
theorem tyX11_ok : ∀ k, k < 13 → parseFieldDescriptor (TX11 k).2.2.1 = some (tyX11 k) := by decide +kernel
def RX12 : String := "TripleSieveModel"
def TX12 : u_T := fun k => match k with
  | 0 => ("TripleSieveModel", "thrown", "I", false)
  | 1 => ("TripleSieveModel", "tape", "[I", true)
  | 2 => ("TripleSieveModel", "taped", "I", false)
  | 3 => ("TripleSieveModel", "size", "I", false)
  | 4 => ("TripleSieveModel", "to", "I", false)
  | 5 => ("TripleSieveModel", "from", "I", false)
  | 6 => ("TripleSieveModel", "sort", "I", false)
  | 7 => ("TripleSieveModel", "number", "I", false)
  | 8 => ("TripleSieveModel", "fault", "I", false)
  | 9 => ("TripleSieveModel", "place", "I", false)
  | 10 => ("TripleSieveModel", "word", "J", false)
  | 11 => ("TripleSieveModel", "keys", "[J", true)
  | 12 => ("TripleSieveModel", "readKeys", "[J", true)
  | 13 => ("TripleSieveModel", "keptKeys", "[J", true)
  | 14 => ("TripleSieveModel", "values", "[I", true)
  | 15 => ("TripleSieveModel", "readValues", "[I", true)
  | 16 => ("TripleSieveModel", "keptValues", "[I", true)
  | 17 => ("TripleSieveModel", "settings", "[I", true)
  | 18 => ("TripleSieveModel", "readSettings", "[I", true)
  | 19 => ("TripleSieveModel", "keptSettings", "[I", true)
  | 20 => ("TripleSieveModel", "keptMany", "[I", true)
  | 21 => ("TripleSieveModel", "many", "I", false)
  | 22 => ("TripleSieveModel", "readMany", "I", false)
  | 23 => ("TripleSieveModel", "kept", "I", false)
  | 24 => ("TripleSieveModel", "cells3", "[I", true)
  | 25 => ("TripleSieveModel", "touched", "[I", true)
  | 26 => ("TripleSieveModel", "touchMany", "[I", true)
  | 27 => ("TripleSieveModel", "loads", "[I", true)
  | 28 => ("TripleSieveModel", "sums", "[I", true)
  | 29 => ("TripleSieveModel", "isLeft", "[Z", true)
  | 30 => ("TripleSieveModel", "leftMany", "I", false)
  | 31 => ("TripleSieveModel", "out", "[I", true)
  | 32 => ("TripleSieveModel", "line", "[I", true)
  | 33 => ("TripleSieveModel", "peeledKey", "[I", true)
  | 34 => ("TripleSieveModel", "peeledBy", "[I", true)
  | 35 => ("TripleSieveModel", "lineFrom", "I", false)
  | 36 => ("TripleSieveModel", "lineTo", "I", false)
  | 37 => ("TripleSieveModel", "peeled", "I", false)
  | 38 => ("TripleSieveModel", "levels", "[I", true)
  | 39 => ("TripleSieveModel", "low", "[J", true)
  | 40 => ("TripleSieveModel", "high", "[J", true)
  | 41 => ("TripleSieveModel", "fillPrint", "[I", true)
  | 42 => ("TripleSieveModel", "fillValue", "[I", true)
  | 43 => ("TripleSieveModel", "fillOther", "[I", true)
  | 44 => ("TripleSieveModel", "sieves", "[I", true)
  | 45 => ("TripleSieveModel", "sievePrint", "[I", true)
  | 46 => ("TripleSieveModel", "sieveValue", "[I", true)
  | 47 => ("TripleSieveModel", "isThere", "[Z", true)
  | _ => ("TripleSieveModel", "answer", "I", false)
def tyX12 : Nat → FieldType := fun k => match k with
  | 0 => .int
  | 1 => .array .int
  | 2 => .int
  | 3 => .int
  | 4 => .int
  | 5 => .int
  | 6 => .int
  | 7 => .int
  | 8 => .int
  | 9 => .int
  | 10 => .long
  | 11 => .array .long
  | 12 => .array .long
  | 13 => .array .long
  | 14 => .array .int
  | 15 => .array .int
  | 16 => .array .int
  | 17 => .array .int
  | 18 => .array .int
  | 19 => .array .int
  | 20 => .array .int
  | 21 => .int
  | 22 => .int
  | 23 => .int
  | 24 => .array .int
  | 25 => .array .int
  | 26 => .array .int
  | 27 => .array .int
  | 28 => .array .int
  | 29 => .array .boolean
  | 30 => .int
  | 31 => .array .int
  | 32 => .array .int
  | 33 => .array .int
  | 34 => .array .int
  | 35 => .int
  | 36 => .int
  | 37 => .int
  | 38 => .array .int
  | 39 => .array .long
  | 40 => .array .long
  | 41 => .array .int
  | 42 => .array .int
  | 43 => .array .int
  | 44 => .array .int
  | 45 => .array .int
  | 46 => .array .int
  | 47 => .array .boolean
  | _ => .int
theorem nmX12 : ∀ a, a < 49 → ∀ b, b < 49 → a ≠ b → (TX12 a).2.1 ≠ (TX12 b).2.1 := by decide +kernel
theorem tyX12_ok : ∀ k, k < 49 → parseFieldDescriptor (TX12 k).2.2.1 = some (tyX12 k) := by decide +kernel
abbrev vwCl : List vw_C := [(RX0, TX0, 6), (RX1, TX1, 3), (RX2, TX2, 5), (RX3, TX3, 8), (RX4, TX4, 7), (RX5, TX5, 8), (RX6, TX6, 1), (RX7, TX7, 1), (RX8, TX8, 9), (RX9, TX9, 4), (RX10, TX10, 6), (RX11, TX11, 13), (RX12, TX12, 49)]
abbrev am_I : Type := Nat × Instr × Nat × Instr
abbrev am_MI : Type := MethodName × ByteArray × Nat × Option FieldType × Nat
def am_cn : List String := ["TripleSieve$Acts", "TripleSieve$Basis", "TripleSieve$Given", "TripleSieve$Marks", "TripleSieve$Mender", "TripleSieve$Peeling", "TripleSieve$Reader", "TripleSieve$Rounds", "TripleSieve$Row", "TripleSieve$Sieve", "TripleSieve$Tape", "TripleSieve", "TripleSieveModel", "TripleSieveLaw", "java/util/Arrays", "java/lang/Math", "java/lang/String"]
/-- the cells: an object (its class, its fields: 0 int, 1 long, 2 the cell at a place, 3 boolean), or an array (100 int, 101 boolean, 102 byte, 103 long, 104 of sieves) -/
def am_layL : List (Nat × List (Nat × Nat)) := [
  (11, [(2, 1), (2, 3), (2, 4), (2, 8), (2, 12), (2, 17), (2, 20), (2, 27), (2, 33), (2, 35), (2, 38), (2, 42), (2, 54)]), 
  (10, [(2, 2), (0, 1101), (0, 1102), (0, 1103), (0, 1104), (0, 1105)]), 
  (102, [(600, 0)]), 
  (6, [(0, 1300)]), 
  (2, [(2, 5), (2, 6), (2, 7), (0, 1403), (0, 1404)]), 
  (103, [(48, 0)]), 
  (100, [(48, 0)]), 
  (100, [(7, 0)]), 
  (2, [(2, 9), (2, 10), (2, 11), (0, 1803), (0, 1804)]), 
  (103, [(48, 0)]), 
  (100, [(48, 0)]), 
  (100, [(7, 0)]), 
  (0, [(2, 13), (2, 14), (2, 15), (2, 16), (0, 2204), (0, 2205)]), 
  (100, [(12, 0)]), 
  (100, [(12, 0)]), 
  (103, [(12, 0)]), 
  (100, [(12, 0)]), 
  (3, [(2, 18), (2, 19), (0, 2702), (0, 2703), (1, 2704), (0, 2705), (0, 2706), (0, 2707)]), 
  (100, [(3, 0)]), 
  (100, [(3, 0)]), 
  (8, [(2, 21), (2, 22), (2, 23), (2, 24), (2, 25), (2, 26), (0, 3006), (0, 3007), (0, 3008)]), 
  (100, [(144, 0)]), 
  (100, [(48, 0)]), 
  (100, [(48, 0)]), 
  (101, [(48, 0)]), 
  (100, [(96, 0)]), 
  (100, [(96, 0)]), 
  (5, [(2, 28), (2, 29), (0, 3702), (2, 30), (0, 3704), (0, 3705), (2, 31), (2, 32)]), 
  (100, [(48, 0)]), 
  (100, [(48, 0)]), 
  (100, [(96, 0)]), 
  (100, [(48, 0)]), 
  (100, [(96, 0)]), 
  (7, [(2, 34)]), 
  (100, [(48, 0)]), 
  (1, [(2, 36), (2, 37), (0, 4502)]), 
  (103, [(48, 0)]), 
  (103, [(48, 0)]), 
  (4, [(2, 39), (0, 4801), (0, 4802), (2, 40), (0, 4804), (2, 41), (0, 4806)]), 
  (100, [(3, 0)]), 
  (100, [(48, 0)]), 
  (100, [(96, 0)]), 
  (9, [(2, 43), (2, 44), (2, 45), (3, 5203)]), 
  (100, [(7, 0)]), 
  (100, [(96, 0)]), 
  (100, [(96, 0)]), 
  (9, [(2, 47), (2, 48), (2, 49), (3, 5603)]), 
  (100, [(7, 0)]), 
  (100, [(96, 0)]), 
  (100, [(96, 0)]), 
  (9, [(2, 51), (2, 52), (2, 53), (3, 6003)]), 
  (100, [(7, 0)]), 
  (100, [(96, 0)]), 
  (100, [(96, 0)]), 
  (104, [(46, 0), (50, 0)]), 
  (12, [(0, 6500), (2, 56), (0, 6502), (0, 6503), (0, 6504), (0, 6505), (0, 6506), (0, 6507), (0, 6508), (0, 6509), (1, 6510), (2, 57), (2, 58), (2, 59), (2, 60), (2, 61), (2, 62), (2, 63), (2, 64), (2, 65), (2, 66), (0, 6521), (0, 6522), (0, 6523), (2, 67), (2, 68), (2, 69), (2, 70), (2, 71), (2, 72), (0, 6530), (2, 73), (2, 74), (2, 75), (2, 76), (0, 6535), (0, 6536), (0, 6537), (2, 77), (2, 78), (2, 79), (2, 80), (2, 81), (2, 82), (2, 83), (2, 84), (2, 85), (2, 86), (0, 6548)]), 
  (100, [(600, 0)]), 
  (103, [(48, 0)]), 
  (103, [(48, 0)]), 
  (103, [(576, 0)]), 
  (100, [(48, 0)]), 
  (100, [(48, 0)]), 
  (100, [(576, 0)]), 
  (100, [(7, 0)]), 
  (100, [(7, 0)]), 
  (100, [(84, 0)]), 
  (100, [(12, 0)]), 
  (100, [(3, 0)]), 
  (100, [(144, 0)]), 
  (100, [(48, 0)]), 
  (100, [(96, 0)]), 
  (100, [(96, 0)]), 
  (101, [(48, 0)]), 
  (100, [(3, 0)]), 
  (100, [(512, 0)]), 
  (100, [(48, 0)]), 
  (100, [(48, 0)]), 
  (100, [(48, 0)]), 
  (103, [(96, 0)]), 
  (103, [(96, 0)]), 
  (100, [(96, 0)]), 
  (100, [(96, 0)]), 
  (100, [(96, 0)]), 
  (100, [(21, 0)]), 
  (100, [(288, 0)]), 
  (100, [(288, 0)]), 
  (101, [(3, 0)]), 
  (103, [(1, 0)])]
def am_N : Nat := 88
def mi_Acts_forget : am_MI := (⟨"TripleSieve$Acts", "forget", "()V"⟩, prog_2_method_2_code, 1, none, 0)
def mi_Acts_note : am_MI := (⟨"TripleSieve$Acts", "note", "(IIJI)V"⟩, prog_2_method_3_code, 6, none, 0)
def mi_Acts_undoLatest : am_MI := (⟨"TripleSieve$Acts", "undoLatest", "(LTripleSieve$Given;)V"⟩, prog_2_method_4_code, 2, none, 0)
def mi_Basis_independent : am_MI := (⟨"TripleSieve$Basis", "independent", "(LTripleSieve$Row;)I"⟩, prog_3_method_2_code, 9, (some .int), 1)
def mi_Basis_join : am_MI := (⟨"TripleSieve$Basis", "join", "(JJ)V"⟩, prog_3_method_3_code, 10, none, 1)
def mi_Given_reset : am_MI := (⟨"TripleSieve$Given", "reset", "()V"⟩, prog_4_method_2_code, 1, none, 2)
def mi_Given_copy : am_MI := (⟨"TripleSieve$Given", "copy", "(LTripleSieve$Given;)V"⟩, prog_4_method_3_code, 2, none, 2)
def mi_Given_has : am_MI := (⟨"TripleSieve$Given", "has", "(I)Z"⟩, prog_4_method_4_code, 2, (some .boolean), 2)
def mi_Given_find : am_MI := (⟨"TripleSieve$Given", "find", "(J)I"⟩, prog_4_method_5_code, 4, (some .int), 2)
def mi_Given_insert : am_MI := (⟨"TripleSieve$Given", "insert", "(IJI)V"⟩, prog_4_method_6_code, 5, none, 2)
def mi_Given_drop : am_MI := (⟨"TripleSieve$Given", "drop", "(I)V"⟩, prog_4_method_7_code, 2, none, 2)
def mi_Given_revalue : am_MI := (⟨"TripleSieve$Given", "revalue", "(II)V"⟩, prog_4_method_8_code, 3, none, 2)
def mi_Given_resettle : am_MI := (⟨"TripleSieve$Given", "resettle", "(II)V"⟩, prog_4_method_9_code, 3, none, 2)
def mi_Given_canBeValue : am_MI := (⟨"TripleSieve$Given", "canBeValue", "(I)Z"⟩, prog_4_method_10_code, 2, (some .boolean), 2)
def mi_Given_fitsBits : am_MI := (⟨"TripleSieve$Given", "fitsBits", "(I)Z"⟩, prog_4_method_11_code, 3, (some .boolean), 2)
def mi_Given_canBeSetting : am_MI := (⟨"TripleSieve$Given", "canBeSetting", "(II)Z"⟩, prog_4_method_12_code, 2, (some .boolean), 2)
def mi_Marks_mix : am_MI := (⟨"TripleSieve$Marks", "mix", "(J)J"⟩, prog_5_method_2_code, 6, (some .long), 3)
def mi_Marks_aim : am_MI := (⟨"TripleSieve$Marks", "aim", "(IIII)V"⟩, prog_5_method_3_code, 5, none, 3)
def mi_Marks_look : am_MI := (⟨"TripleSieve$Marks", "look", "(J)V"⟩, prog_5_method_4_code, 5, none, 3)
def mi_Marks_placeApart : am_MI := (⟨"TripleSieve$Marks", "placeApart", "(J)V"⟩, prog_5_method_5_code, 4, none, 3)
def mi_Marks_placeClose : am_MI := (⟨"TripleSieve$Marks", "placeClose", "(J)V"⟩, prog_5_method_6_code, 6, none, 3)
def mi_Marks_placeFree : am_MI := (⟨"TripleSieve$Marks", "placeFree", "(J)V"⟩, prog_5_method_7_code, 4, none, 3)
def mi_Marks_share : am_MI := (⟨"TripleSieve$Marks", "share", "(JII)I"⟩, prog_5_method_8_code, 5, (some .int), 3)
def mi_Marks_gatherTouched : am_MI := (⟨"TripleSieve$Marks", "gatherTouched", "()V"⟩, prog_5_method_9_code, 4, none, 3)
def mi_Marks_touchOnly : am_MI := (⟨"TripleSieve$Marks", "touchOnly", "(I)V"⟩, prog_5_method_10_code, 2, none, 3)
def mi_Marks_sum : am_MI := (⟨"TripleSieve$Marks", "sum", "([I)I"⟩, prog_5_method_11_code, 4, (some .int), 3)
def mi_Mender_search : am_MI := (⟨"TripleSieve$Mender", "search", "(LTripleSieve$Row;)V"⟩, prog_6_method_2_code, 3, none, 4)
def mi_Mender_choose : am_MI := (⟨"TripleSieve$Mender", "choose", "(LTripleSieve$Row;III)Z"⟩, prog_6_method_3_code, 7, (some .boolean), 4)
def mi_Mender_leaveOut : am_MI := (⟨"TripleSieve$Mender", "leaveOut", "(LTripleSieve$Row;I)V"⟩, prog_6_method_4_code, 5, none, 4)
def mi_Mender_take : am_MI := (⟨"TripleSieve$Mender", "take", "(LTripleSieve$Row;I)V"⟩, prog_6_method_5_code, 4, none, 4)
def mi_Mender_bringBack : am_MI := (⟨"TripleSieve$Mender", "bringBack", "(LTripleSieve$Row;I)V"⟩, prog_6_method_6_code, 3, none, 4)
def mi_Peeling_run : am_MI := (⟨"TripleSieve$Peeling", "run", "(LTripleSieve$Row;I)V"⟩, prog_7_method_2_code, 3, none, 5)
def mi_Peeling_runLine : am_MI := (⟨"TripleSieve$Peeling", "runLine", "(LTripleSieve$Row;Z)V"⟩, prog_7_method_3_code, 7, none, 5)
def mi_Peeling_lineUp : am_MI := (⟨"TripleSieve$Peeling", "lineUp", "(LTripleSieve$Row;I)V"⟩, prog_7_method_4_code, 3, none, 5)
def mi_Peeling_leaveLine : am_MI := (⟨"TripleSieve$Peeling", "leaveLine", "(Z)I"⟩, prog_7_method_5_code, 2, (some .int), 5)
def mi_Peeling_runLeast : am_MI := (⟨"TripleSieve$Peeling", "runLeast", "(LTripleSieve$Row;)V"⟩, prog_7_method_6_code, 5, none, 5)
def mi_Peeling_goOut : am_MI := (⟨"TripleSieve$Peeling", "goOut", "(LTripleSieve$Row;I)I"⟩, prog_7_method_7_code, 4, (some .int), 5)
def mi_Peeling_fillBack : am_MI := (⟨"TripleSieve$Peeling", "fillBack", "(LTripleSieve$Row;[I[I)V"⟩, prog_7_method_8_code, 8, none, 5)
def mi_Peeling_countWoken : am_MI := (⟨"TripleSieve$Peeling", "countWoken", "(LTripleSieve$Row;I)I"⟩, prog_7_method_9_code, 5, (some .int), 5)
def mi_Reader_read : am_MI := (⟨"TripleSieve$Reader", "read", "(LTripleSieve$Tape;LTripleSieve$Given;)I"⟩, prog_8_method_2_code, 4, (some .int), 6)
def mi_Reader_readSetting : am_MI := (⟨"TripleSieve$Reader", "readSetting", "(LTripleSieve$Tape;LTripleSieve$Given;I)V"⟩, prog_8_method_3_code, 5, none, 6)
def mi_Reader_readKey : am_MI := (⟨"TripleSieve$Reader", "readKey", "(LTripleSieve$Tape;LTripleSieve$Given;)V"⟩, prog_8_method_4_code, 5, none, 6)
def mi_Reader_takeValue : am_MI := (⟨"TripleSieve$Reader", "takeValue", "(LTripleSieve$Tape;LTripleSieve$Given;)I"⟩, prog_8_method_5_code, 3, (some .int), 6)
def mi_Reader_takeNumber : am_MI := (⟨"TripleSieve$Reader", "takeNumber", "(LTripleSieve$Tape;II)I"⟩, prog_8_method_6_code, 5, (some .int), 6)
def mi_Reader_takeChoice : am_MI := (⟨"TripleSieve$Reader", "takeChoice", "(LTripleSieve$Tape;I)I"⟩, prog_8_method_7_code, 4, (some .int), 6)
def mi_Reader_passStop : am_MI := (⟨"TripleSieve$Reader", "passStop", "(LTripleSieve$Tape;)V"⟩, prog_8_method_8_code, 2, none, 6)
def mi_Reader_fail : am_MI := (⟨"TripleSieve$Reader", "fail", "(LTripleSieve$Tape;I)V"⟩, prog_8_method_9_code, 3, none, 6)
def mi_Reader_nameOf : am_MI := (⟨"TripleSieve$Reader", "nameOf", "(I)Ljava/lang/String;"⟩, prog_8_method_10_code, 1, (some (.object "java/lang/String")), 6)
def mi_Reader_choiceOf : am_MI := (⟨"TripleSieve$Reader", "choiceOf", "(II)Ljava/lang/String;"⟩, prog_8_method_11_code, 2, (some (.object "java/lang/String")), 6)
def mi_Rounds_run : am_MI := (⟨"TripleSieve$Rounds", "run", "(LTripleSieve$Row;)I"⟩, prog_9_method_2_code, 3, (some .int), 7)
def mi_Rounds_mark : am_MI := (⟨"TripleSieve$Rounds", "mark", "(LTripleSieve$Row;I)Z"⟩, prog_9_method_3_code, 5, (some .boolean), 7)
def mi_Rounds_takeMarked : am_MI := (⟨"TripleSieve$Rounds", "takeMarked", "(LTripleSieve$Row;I)V"⟩, prog_9_method_4_code, 4, none, 7)
def mi_Row_lay : am_MI := (⟨"TripleSieve$Row", "lay", "(LTripleSieve$Given;LTripleSieve$Marks;II)V"⟩, prog_10_method_2_code, 7, none, 8)
def mi_Row_putBack : am_MI := (⟨"TripleSieve$Row", "putBack", "(I)V"⟩, prog_10_method_3_code, 3, none, 8)
def mi_Row_takeOff : am_MI := (⟨"TripleSieve$Row", "takeOff", "(I)V"⟩, prog_10_method_4_code, 3, none, 8)
def mi_Row_isAlone : am_MI := (⟨"TripleSieve$Row", "isAlone", "(I)Z"⟩, prog_10_method_5_code, 2, (some .boolean), 8)
def mi_Row_countTouched : am_MI := (⟨"TripleSieve$Row", "countTouched", "()I"⟩, prog_10_method_6_code, 3, (some .int), 8)
def mi_Row_leftAt : am_MI := (⟨"TripleSieve$Row", "leftAt", "(I)I"⟩, prog_10_method_7_code, 4, (some .int), 8)
def mi_Row_touchSame : am_MI := (⟨"TripleSieve$Row", "touchSame", "(II)Z"⟩, prog_10_method_8_code, 4, (some .boolean), 8)
def mi_Sieve_describe : am_MI := (⟨"TripleSieve$Sieve", "describe", "(LTripleSieve$Given;II)V"⟩, prog_11_method_2_code, 4, none, 9)
def mi_Sieve_copy : am_MI := (⟨"TripleSieve$Sieve", "copy", "(LTripleSieve$Sieve;)V"⟩, prog_11_method_3_code, 2, none, 9)
def mi_Sieve_length : am_MI := (⟨"TripleSieve$Sieve", "length", "()I"⟩, prog_11_method_4_code, 1, (some .int), 9)
def mi_Sieve_countBits : am_MI := (⟨"TripleSieve$Sieve", "countBits", "()I"⟩, prog_11_method_5_code, 1, (some .int), 9)
def mi_Sieve_aim : am_MI := (⟨"TripleSieve$Sieve", "aim", "(LTripleSieve$Marks;)V"⟩, prog_11_method_6_code, 2, none, 9)
def mi_Sieve_letsThrough : am_MI := (⟨"TripleSieve$Sieve", "letsThrough", "(LTripleSieve$Marks;)Z"⟩, prog_11_method_7_code, 2, (some .boolean), 9)
def mi_Sieve_countUnlike : am_MI := (⟨"TripleSieve$Sieve", "countUnlike", "(LTripleSieve$Sieve;)I"⟩, prog_11_method_8_code, 4, (some .int), 9)
def mi_Tape_append : am_MI := (⟨"TripleSieve$Tape", "append", "(I)V"⟩, prog_12_method_2_code, 3, none, 10)
def mi_Tape_rewind : am_MI := (⟨"TripleSieve$Tape", "rewind", "()V"⟩, prog_12_method_3_code, 1, none, 10)
def mi_Tape_step : am_MI := (⟨"TripleSieve$Tape", "step", "()V"⟩, prog_12_method_4_code, 1, none, 10)
def mi_Tape_takeWord : am_MI := (⟨"TripleSieve$Tape", "takeWord", "()V"⟩, prog_12_method_5_code, 1, none, 10)
def mi_Tape_takeNumber : am_MI := (⟨"TripleSieve$Tape", "takeNumber", "()V"⟩, prog_12_method_6_code, 2, none, 10)
def mi_Tape_isWord : am_MI := (⟨"TripleSieve$Tape", "isWord", "(Ljava/lang/String;)Z"⟩, prog_12_method_7_code, 3, (some .boolean), 10)
def mi_Tape_isLetter : am_MI := (⟨"TripleSieve$Tape", "isLetter", "(B)Z"⟩, prog_12_method_8_code, 1, (some .boolean), 10)
def mi_Tape_isDigit : am_MI := (⟨"TripleSieve$Tape", "isDigit", "(B)Z"⟩, prog_12_method_9_code, 1, (some .boolean), 10)
def mi_T_feed : am_MI := (⟨"TripleSieve", "feed", "(IIIII)I"⟩, prog_1_method_2_code, 6, (some .int), 11)
def mi_T_end : am_MI := (⟨"TripleSieve", "end", "(I)Z"⟩, prog_1_method_3_code, 2, (some .boolean), 11)
def mi_T_text : am_MI := (⟨"TripleSieve", "text", "()I"⟩, prog_1_method_4_code, 3, (some .int), 11)
def mi_T_key : am_MI := (⟨"TripleSieve", "key", "(I)J"⟩, prog_1_method_5_code, 2, (some .long), 11)
def mi_T_worth : am_MI := (⟨"TripleSieve", "worth", "(I)I"⟩, prog_1_method_6_code, 2, (some .int), 11)
def mi_T_add : am_MI := (⟨"TripleSieve", "add", "(JI)I"⟩, prog_1_method_7_code, 4, (some .int), 11)
def mi_T_gone : am_MI := (⟨"TripleSieve", "gone", "(J)I"⟩, prog_1_method_8_code, 4, (some .int), 11)
def mi_T_turn : am_MI := (⟨"TripleSieve", "turn", "(II)I"⟩, prog_1_method_9_code, 4, (some .int), 11)
def mi_T_set : am_MI := (⟨"TripleSieve", "set", "(II)I"⟩, prog_1_method_10_code, 4, (some .int), 11)
def mi_T_hash : am_MI := (⟨"TripleSieve", "hash", "(JI)J"⟩, prog_1_method_11_code, 4, (some .long), 11)
def mi_T_cell : am_MI := (⟨"TripleSieve", "cell", "(JI)I"⟩, prog_1_method_12_code, 4, (some .int), 11)
def mi_T_print : am_MI := (⟨"TripleSieve", "print", "(J)I"⟩, prog_1_method_13_code, 3, (some .int), 11)
def mi_T_load : am_MI := (⟨"TripleSieve", "load", "(I)I"⟩, prog_1_method_14_code, 2, (some .int), 11)
def mi_T_twins : am_MI := (⟨"TripleSieve", "twins", "()I"⟩, prog_1_method_15_code, 4, (some .int), 11)
def mi_T_peel : am_MI := (⟨"TripleSieve", "peel", "(II)I"⟩, prog_1_method_16_code, 3, (some .int), 11)
def mi_T_core : am_MI := (⟨"TripleSieve", "core", "(I)I"⟩, prog_1_method_17_code, 2, (some .int), 11)
def mi_T_level : am_MI := (⟨"TripleSieve", "level", "(I)I"⟩, prog_1_method_18_code, 3, (some .int), 11)
def mi_T_rank : am_MI := (⟨"TripleSieve", "rank", "()I"⟩, prog_1_method_19_code, 1, (some .int), 11)
def mi_T_mend : am_MI := (⟨"TripleSieve", "mend", "(I)I"⟩, prog_1_method_20_code, 2, (some .int), 11)
def mi_T_tight : am_MI := (⟨"TripleSieve", "tight", "()I"⟩, prog_1_method_21_code, 2, (some .int), 11)
def mi_T_peels : am_MI := (⟨"TripleSieve", "peels", "(I)I"⟩, prog_1_method_22_code, 4, (some .int), 11)
def mi_T_wake : am_MI := (⟨"TripleSieve", "wake", "(II)I"⟩, prog_1_method_23_code, 3, (some .int), 11)
def mi_T_build : am_MI := (⟨"TripleSieve", "build", "(I)I"⟩, prog_1_method_24_code, 4, (some .int), 11)
def mi_T_built : am_MI := (⟨"TripleSieve", "built", "(I)I"⟩, prog_1_method_25_code, 2, (some .int), 11)
def mi_T_filled : am_MI := (⟨"TripleSieve", "filled", "(IZ)I"⟩, prog_1_method_26_code, 3, (some .int), 11)
def mi_T_passes : am_MI := (⟨"TripleSieve", "passes", "(J)Z"⟩, prog_1_method_27_code, 3, (some .boolean), 11)
def mi_T_told : am_MI := (⟨"TripleSieve", "told", "(J)I"⟩, prog_1_method_28_code, 3, (some .int), 11)
def mi_T_right : am_MI := (⟨"TripleSieve", "right", "()I"⟩, prog_1_method_29_code, 3, (some .int), 11)
def mi_T_strangers : am_MI := (⟨"TripleSieve", "strangers", "(JII)I"⟩, prog_1_method_30_code, 7, (some .int), 11)
def mi_T_shelf : am_MI := (⟨"TripleSieve", "shelf", "(IZ)Z"⟩, prog_1_method_31_code, 5, (some .boolean), 11)
def mi_T_unlike : am_MI := (⟨"TripleSieve", "unlike", "(I)I"⟩, prog_1_method_32_code, 2, (some .int), 11)
def mi_T_undo : am_MI := (⟨"TripleSieve", "undo", "()I"⟩, prog_1_method_33_code, 1, (some .int), 11)
def mi_T_count : am_MI := (⟨"TripleSieve", "count", "(I)I"⟩, prog_1_method_34_code, 2, (some .int), 11)
def mi_T_lookNow : am_MI := (⟨"TripleSieve", "lookNow", "(J)V"⟩, prog_1_method_35_code, 3, none, 11)
def mi_T_layNow : am_MI := (⟨"TripleSieve", "layNow", "()V"⟩, prog_1_method_36_code, 1, none, 11)
def mi_T_peelNow : am_MI := (⟨"TripleSieve", "peelNow", "()V"⟩, prog_1_method_37_code, 1, none, 11)
def mi_T_allPeel : am_MI := (⟨"TripleSieve", "allPeel", "(II)Z"⟩, prog_1_method_38_code, 3, (some .boolean), 11)
def mi_M_thrown : am_MI := (⟨"TripleSieveModel", "thrown", "()I"⟩, prog_14_method_1_code, 1, (some .int), 12)
def mi_M_refuse : am_MI := (⟨"TripleSieveModel", "refuse", "()J"⟩, prog_14_method_2_code, 1, (some .long), 12)
def mi_M_isIn : am_MI := (⟨"TripleSieveModel", "isIn", "(III)Z"⟩, prog_14_method_3_code, 3, (some .boolean), 12)
def mi_M_lays : am_MI := (⟨"TripleSieveModel", "lays", "(I)V"⟩, prog_14_method_4_code, 3, none, 12)
def mi_M_feed : am_MI := (⟨"TripleSieveModel", "feed", "(IIIII)I"⟩, prog_14_method_5_code, 6, (some .int), 12)
def mi_M_end : am_MI := (⟨"TripleSieveModel", "end", "(I)Z"⟩, prog_14_method_6_code, 2, (some .boolean), 12)
def mi_M_tapeAt : am_MI := (⟨"TripleSieveModel", "tapeAt", "(I)I"⟩, prog_14_method_7_code, 2, (some .int), 12)
def mi_M_isDigit : am_MI := (⟨"TripleSieveModel", "isDigit", "(I)Z"⟩, prog_14_method_8_code, 1, (some .boolean), 12)
def mi_M_isLetter : am_MI := (⟨"TripleSieveModel", "isLetter", "(I)Z"⟩, prog_14_method_9_code, 1, (some .boolean), 12)
def mi_M_go : am_MI := (⟨"TripleSieveModel", "go", "()V"⟩, prog_14_method_10_code, 2, none, 12)
def mi_M_three : am_MI := (⟨"TripleSieveModel", "three", "(III)J"⟩, prog_14_method_11_code, 3, (some .long), 12)
def mi_M_five : am_MI := (⟨"TripleSieveModel", "five", "(IIIII)J"⟩, prog_14_method_12_code, 5, (some .long), 12)
def mi_M_six : am_MI := (⟨"TripleSieveModel", "six", "(IIIIII)J"⟩, prog_14_method_13_code, 6, (some .long), 12)
def mi_M_isWord : am_MI := (⟨"TripleSieveModel", "isWord", "(J)Z"⟩, prog_14_method_14_code, 3, (some .boolean), 12)
def mi_M_bad : am_MI := (⟨"TripleSieveModel", "bad", "(I)Z"⟩, prog_14_method_15_code, 2, (some .boolean), 12)
def mi_M_begins : am_MI := (⟨"TripleSieveModel", "begins", "([I)V"⟩, prog_14_method_17_code, 1, none, 12)
def mi_M_lowOf : am_MI := (⟨"TripleSieveModel", "lowOf", "(I)I"⟩, prog_14_method_18_code, 1, (some .int), 12)
def mi_M_highOf : am_MI := (⟨"TripleSieveModel", "highOf", "(I)I"⟩, prog_14_method_19_code, 1, (some .int), 12)
def mi_M_nameOf : am_MI := (⟨"TripleSieveModel", "nameOf", "(I)J"⟩, prog_14_method_20_code, 1, (some .long), 12)
def mi_M_wayHere : am_MI := (⟨"TripleSieveModel", "wayHere", "()I"⟩, prog_14_method_21_code, 1, (some .int), 12)
def mi_M_spreadHere : am_MI := (⟨"TripleSieveModel", "spreadHere", "()I"⟩, prog_14_method_22_code, 1, (some .int), 12)
def mi_M_readSetting : am_MI := (⟨"TripleSieveModel", "readSetting", "(I)Z"⟩, prog_14_method_23_code, 3, (some .boolean), 12)
def mi_M_readEnd : am_MI := (⟨"TripleSieveModel", "readEnd", "()Z"⟩, prog_14_method_24_code, 1, (some .boolean), 12)
def mi_M_readKey : am_MI := (⟨"TripleSieveModel", "readKey", "()Z"⟩, prog_14_method_25_code, 2, (some .boolean), 12)
def mi_M_readWhole : am_MI := (⟨"TripleSieveModel", "readWhole", "()Z"⟩, prog_14_method_26_code, 2, (some .boolean), 12)
def mi_M_text : am_MI := (⟨"TripleSieveModel", "text", "()I"⟩, prog_14_method_27_code, 2, (some .int), 12)
def mi_M_isKey : am_MI := (⟨"TripleSieveModel", "isKey", "(I)Z"⟩, prog_14_method_28_code, 2, (some .boolean), 12)
def mi_M_isValue : am_MI := (⟨"TripleSieveModel", "isValue", "(I)Z"⟩, prog_14_method_29_code, 2, (some .boolean), 12)
def mi_M_indexOf : am_MI := (⟨"TripleSieveModel", "indexOf", "(J)I"⟩, prog_14_method_30_code, 4, (some .int), 12)
def mi_M_snap : am_MI := (⟨"TripleSieveModel", "snap", "()V"⟩, prog_14_method_31_code, 2, none, 12)
def mi_M_undo : am_MI := (⟨"TripleSieveModel", "undo", "()I"⟩, prog_14_method_32_code, 2, (some .int), 12)
def mi_M_key : am_MI := (⟨"TripleSieveModel", "key", "(I)J"⟩, prog_14_method_33_code, 2, (some .long), 12)
def mi_M_worth : am_MI := (⟨"TripleSieveModel", "worth", "(I)I"⟩, prog_14_method_34_code, 2, (some .int), 12)
def mi_M_add : am_MI := (⟨"TripleSieveModel", "add", "(JI)I"⟩, prog_14_method_35_code, 4, (some .int), 12)
def mi_M_gone : am_MI := (⟨"TripleSieveModel", "gone", "(J)I"⟩, prog_14_method_36_code, 5, (some .int), 12)
def mi_M_turn : am_MI := (⟨"TripleSieveModel", "turn", "(II)I"⟩, prog_14_method_37_code, 4, (some .int), 12)
def mi_M_set : am_MI := (⟨"TripleSieveModel", "set", "(II)I"⟩, prog_14_method_38_code, 4, (some .int), 12)
def mi_M_mix : am_MI := (⟨"TripleSieveModel", "mix", "(J)J"⟩, prog_14_method_39_code, 6, (some .long), 12)
def mi_M_hashOf : am_MI := (⟨"TripleSieveModel", "hashOf", "(JJ)J"⟩, prog_14_method_40_code, 4, (some .long), 12)
def mi_M_printOf : am_MI := (⟨"TripleSieveModel", "printOf", "(JI)I"⟩, prog_14_method_41_code, 3, (some .int), 12)
def mi_M_part : am_MI := (⟨"TripleSieveModel", "part", "(JI)I"⟩, prog_14_method_42_code, 3, (some .int), 12)
def mi_M_lays3 : am_MI := (⟨"TripleSieveModel", "lays3", "(JII)V"⟩, prog_14_method_43_code, 7, none, 12)
def mi_M_touchesBy : am_MI := (⟨"TripleSieveModel", "touchesBy", "(I)Z"⟩, prog_14_method_44_code, 4, (some .boolean), 12)
def mi_M_hash : am_MI := (⟨"TripleSieveModel", "hash", "(JI)J"⟩, prog_14_method_45_code, 4, (some .long), 12)
def mi_M_cell : am_MI := (⟨"TripleSieveModel", "cell", "(JI)I"⟩, prog_14_method_46_code, 4, (some .int), 12)
def mi_M_print : am_MI := (⟨"TripleSieveModel", "print", "(J)I"⟩, prog_14_method_47_code, 3, (some .int), 12)
def mi_M_nets : am_MI := (⟨"TripleSieveModel", "nets", "(IJI)V"⟩, prog_14_method_48_code, 7, none, 12)
def mi_M_netNow : am_MI := (⟨"TripleSieveModel", "netNow", "()V"⟩, prog_14_method_49_code, 1, none, 12)
def mi_M_takesOut : am_MI := (⟨"TripleSieveModel", "takesOut", "(I)V"⟩, prog_14_method_50_code, 3, none, 12)
def mi_M_nextCell : am_MI := (⟨"TripleSieveModel", "nextCell", "(II)I"⟩, prog_14_method_51_code, 4, (some .int), 12)
def mi_M_comesBehind : am_MI := (⟨"TripleSieveModel", "comesBehind", "(I)V"⟩, prog_14_method_52_code, 2, none, 12)
def mi_M_peelsBy : am_MI := (⟨"TripleSieveModel", "peelsBy", "(II)V"⟩, prog_14_method_53_code, 6, none, 12)
def mi_M_isOf : am_MI := (⟨"TripleSieveModel", "isOf", "(II)Z"⟩, prog_14_method_54_code, 4, (some .boolean), 12)
def mi_M_peelNow : am_MI := (⟨"TripleSieveModel", "peelNow", "()V"⟩, prog_14_method_55_code, 1, none, 12)
def mi_M_peelsAll : am_MI := (⟨"TripleSieveModel", "peelsAll", "(IJI)Z"⟩, prog_14_method_56_code, 5, (some .boolean), 12)
def mi_M_load : am_MI := (⟨"TripleSieveModel", "load", "(I)I"⟩, prog_14_method_57_code, 2, (some .int), 12)
def mi_M_twins : am_MI := (⟨"TripleSieveModel", "twins", "()I"⟩, prog_14_method_58_code, 4, (some .int), 12)
def mi_M_areTwins : am_MI := (⟨"TripleSieveModel", "areTwins", "(II)Z"⟩, prog_14_method_59_code, 4, (some .boolean), 12)
def mi_M_peel : am_MI := (⟨"TripleSieveModel", "peel", "(II)I"⟩, prog_14_method_60_code, 3, (some .int), 12)
def mi_M_core : am_MI := (⟨"TripleSieveModel", "core", "(I)I"⟩, prog_14_method_61_code, 4, (some .int), 12)
def mi_M_laysLevels : am_MI := (⟨"TripleSieveModel", "laysLevels", "()I"⟩, prog_14_method_62_code, 5, (some .int), 12)
def mi_M_level : am_MI := (⟨"TripleSieveModel", "level", "(I)I"⟩, prog_14_method_63_code, 3, (some .int), 12)
def mi_M_rank : am_MI := (⟨"TripleSieveModel", "rank", "()I"⟩, prog_14_method_64_code, 9, (some .int), 12)
def mi_M_findsOut : am_MI := (⟨"TripleSieveModel", "findsOut", "(III)Z"⟩, prog_14_method_65_code, 5, (some .boolean), 12)
def mi_M_mend : am_MI := (⟨"TripleSieveModel", "mend", "(I)I"⟩, prog_14_method_66_code, 3, (some .int), 12)
def mi_M_tight : am_MI := (⟨"TripleSieveModel", "tight", "()I"⟩, prog_14_method_67_code, 2, (some .int), 12)
def mi_M_peels : am_MI := (⟨"TripleSieveModel", "peels", "(I)I"⟩, prog_14_method_68_code, 4, (some .int), 12)
def mi_M_fills : am_MI := (⟨"TripleSieveModel", "fills", "(J)V"⟩, prog_14_method_69_code, 10, none, 12)
def mi_M_wake : am_MI := (⟨"TripleSieveModel", "wake", "(II)I"⟩, prog_14_method_70_code, 6, (some .int), 12)
def mi_M_build : am_MI := (⟨"TripleSieveModel", "build", "(I)I"⟩, prog_14_method_71_code, 5, (some .int), 12)
def mi_M_built : am_MI := (⟨"TripleSieveModel", "built", "(I)I"⟩, prog_14_method_72_code, 2, (some .int), 12)
def mi_M_filled : am_MI := (⟨"TripleSieveModel", "filled", "(IZ)I"⟩, prog_14_method_73_code, 3, (some .int), 12)
def mi_M_asks : am_MI := (⟨"TripleSieveModel", "asks", "(J)Z"⟩, prog_14_method_74_code, 7, (some .boolean), 12)
def mi_M_passes : am_MI := (⟨"TripleSieveModel", "passes", "(J)Z"⟩, prog_14_method_75_code, 3, (some .boolean), 12)
def mi_M_told : am_MI := (⟨"TripleSieveModel", "told", "(J)I"⟩, prog_14_method_76_code, 3, (some .int), 12)
def mi_M_right : am_MI := (⟨"TripleSieveModel", "right", "()I"⟩, prog_14_method_77_code, 3, (some .int), 12)
def mi_M_strangers : am_MI := (⟨"TripleSieveModel", "strangers", "(JII)I"⟩, prog_14_method_78_code, 7, (some .int), 12)
def mi_M_copies : am_MI := (⟨"TripleSieveModel", "copies", "(II)V"⟩, prog_14_method_79_code, 4, none, 12)
def mi_M_shelf : am_MI := (⟨"TripleSieveModel", "shelf", "(IZ)Z"⟩, prog_14_method_80_code, 3, (some .boolean), 12)
def mi_M_unlike : am_MI := (⟨"TripleSieveModel", "unlike", "(I)I"⟩, prog_14_method_81_code, 4, (some .int), 12)
def mi_M_emptyCells : am_MI := (⟨"TripleSieveModel", "emptyCells", "()I"⟩, prog_14_method_82_code, 3, (some .int), 12)
def mi_M_count : am_MI := (⟨"TripleSieveModel", "count", "(I)I"⟩, prog_14_method_83_code, 2, (some .int), 12)
def mi_L_law : am_MI := (x, code, 8, ret, 13)
def mi_Arrays_fill : am_MI := (⟨"java/util/Arrays", "fill", "([II)V"⟩, prog_29_method_103_code, 4, none, 14)
def mi_Math_min : am_MI := (⟨"java/lang/Math", "min", "(II)I"⟩, prog_20_method_69_code, 2, (some .int), 15)
def mi_Math_max : am_MI := (⟨"java/lang/Math", "max", "(II)I"⟩, prog_20_method_65_code, 2, (some .int), 15)
def mi_String_length : am_MI := (⟨"java/lang/String", "length", "()I"⟩, prog_22_method_54_code, 1, (some .int), 16)
def mi_String_charAt : am_MI := (⟨"java/lang/String", "charAt", "(I)C"⟩, prog_22_method_56_code, 2, (some .char), 16)
def am_ml : List am_MI := [mi_Acts_forget, mi_Acts_note, mi_Acts_undoLatest, mi_Basis_independent, mi_Basis_join, mi_Given_reset, mi_Given_copy, mi_Given_has, mi_Given_find, mi_Given_insert, mi_Given_drop, mi_Given_revalue, mi_Given_resettle, mi_Given_canBeValue, mi_Given_fitsBits, mi_Given_canBeSetting, mi_Marks_mix, mi_Marks_aim, mi_Marks_look, mi_Marks_placeApart, mi_Marks_placeClose, mi_Marks_placeFree, mi_Marks_share, mi_Marks_gatherTouched, mi_Marks_touchOnly, mi_Marks_sum, mi_Mender_search, mi_Mender_choose, mi_Mender_leaveOut, mi_Mender_take, mi_Mender_bringBack, mi_Peeling_run, mi_Peeling_runLine, mi_Peeling_lineUp, mi_Peeling_leaveLine, mi_Peeling_runLeast, mi_Peeling_goOut, mi_Peeling_fillBack, mi_Peeling_countWoken, mi_Reader_read, mi_Reader_readSetting, mi_Reader_readKey, mi_Reader_takeValue, mi_Reader_takeNumber, mi_Reader_takeChoice, mi_Reader_passStop, mi_Reader_fail, mi_Reader_nameOf, mi_Reader_choiceOf, mi_Rounds_run, mi_Rounds_mark, mi_Rounds_takeMarked, mi_Row_lay, mi_Row_putBack, mi_Row_takeOff, mi_Row_isAlone, mi_Row_countTouched, mi_Row_leftAt, mi_Row_touchSame, mi_Sieve_describe, mi_Sieve_copy, mi_Sieve_length, mi_Sieve_countBits, mi_Sieve_aim, mi_Sieve_letsThrough, mi_Sieve_countUnlike, mi_Tape_append, mi_Tape_rewind, mi_Tape_step, mi_Tape_takeWord, mi_Tape_takeNumber, mi_Tape_isWord, mi_Tape_isLetter, mi_Tape_isDigit, mi_T_feed, mi_T_end, mi_T_text, mi_T_key, mi_T_worth, mi_T_add, mi_T_gone, mi_T_turn, mi_T_set, mi_T_hash, mi_T_cell, mi_T_print, mi_T_load, mi_T_twins, mi_T_peel, mi_T_core, mi_T_level, mi_T_rank, mi_T_mend, mi_T_tight, mi_T_peels, mi_T_wake, mi_T_build, mi_T_built, mi_T_filled, mi_T_passes, mi_T_told, mi_T_right, mi_T_strangers, mi_T_shelf, mi_T_unlike, mi_T_undo, mi_T_count, mi_T_lookNow, mi_T_layNow, mi_T_peelNow, mi_T_allPeel, mi_M_thrown, mi_M_refuse, mi_M_isIn, mi_M_lays, mi_M_feed, mi_M_end, mi_M_tapeAt, mi_M_isDigit, mi_M_isLetter, mi_M_go, mi_M_three, mi_M_five, mi_M_six, mi_M_isWord, mi_M_bad, mi_M_begins, mi_M_lowOf, mi_M_highOf, mi_M_nameOf, mi_M_wayHere, mi_M_spreadHere, mi_M_readSetting, mi_M_readEnd, mi_M_readKey, mi_M_readWhole, mi_M_text, mi_M_isKey, mi_M_isValue, mi_M_indexOf, mi_M_snap, mi_M_undo, mi_M_key, mi_M_worth, mi_M_add, mi_M_gone, mi_M_turn, mi_M_set, mi_M_mix, mi_M_hashOf, mi_M_printOf, mi_M_part, mi_M_lays3, mi_M_touchesBy, mi_M_hash, mi_M_cell, mi_M_print, mi_M_nets, mi_M_netNow, mi_M_takesOut, mi_M_nextCell, mi_M_comesBehind, mi_M_peelsBy, mi_M_isOf, mi_M_peelNow, mi_M_peelsAll, mi_M_load, mi_M_twins, mi_M_areTwins, mi_M_peel, mi_M_core, mi_M_laysLevels, mi_M_level, mi_M_rank, mi_M_findsOut, mi_M_mend, mi_M_tight, mi_M_peels, mi_M_fills, mi_M_wake, mi_M_build, mi_M_built, mi_M_filled, mi_M_asks, mi_M_passes, mi_M_told, mi_M_right, mi_M_strangers, mi_M_copies, mi_M_shelf, mi_M_unlike, mi_M_emptyCells, mi_M_count, mi_L_law, mi_Arrays_fill, mi_Math_min, mi_Math_max, mi_String_length, mi_String_charAt]
/-- where the code word of a method stands -/
def am_mw : List Nat := [678, 699, 1033, 892, 896, 522, 674, 686, 660, 670, 711, 720, 646, 694, 729, 649, 737, 751, 756, 760, 768, 772, 763, 776, 780, 995, 904, 908, 916, 920, 926, 829, 849, 853, 857, 833, 841, 952, 947, 518, 551, 655, 665, 621, 629, 642, 625, 554, 632, 873, 878, 883, 800, 809, 845, 837, 912, 865, 817, 960, 1016, 973, 969, 986, 991, 1025, 506, 529, 533, 540, 547, 564, 536, 543, 502, 510, 514, 1050, 682, 690, 707, 716, 724, 734, 743, 788, 792, 813, 821, 861, 869, 888, 900, 931, 939, 943, 956, 965, 977, 982, 999, 1004, 1008, 1012, 1021, 1029, 1041, 747, 796, 825, 935, 1115, 1379, 1354, 1124, 1119, 1128, 1299, 1304, 1295, 1292, 1318, 1314, 1321, 1327, 1344, 1136, 1347, 1350, 1311, 1335, 1339, 1331, 1358, 1362, 1308, 1288, 1375, 1391, 1395, 1399, 1367, 1371, 1383, 1387, 1403, 1407, 1411, 1421, 1418, 1443, 1434, 1431, 1459, 1415, 1427, 1440, 1455, 1451, 1495, 1491, 1487, 1483, 1471, 1479, 1523, 1447, 1463, 1467, 1475, 1499, 1507, 1503, 1511, 1519, 1515, 1527, 1531, 1539, 1535, 1543, 1547, 1551, 1559, 1555, 1563, 1567, 1571, 1579, 1575, 1583, 1591, 1587, 0, 804, 702, 784, 568, 578]
/-- by class: (index, field, nest, word) -/
def am_ft : List (List (Nat × Nat × Nat × Nat)) := [
  [(9, 0, 0, 230), (15, 1, 0, 231), (18, 2, 0, 232), (22, 3, 0, 233), (25, 5, 0, 235), (29, 4, 0, 234)], 
  [(9, 100, 0, 394), (15, 101, 0, 395), (18, 102, 0, 396), (22, 806, 1, 311), (27, 801, 1, 298), (31, 800, 1, 294)], 
  [(9, 200, 0, 194), (15, 201, 0, 197), (27, 202, 0, 199), (30, 203, 0, 204), (40, 204, 0, 209)], 
  [(9, 300, 0, 256), (15, 301, 0, 258), (26, 304, 0, 266), (30, 305, 0, 267), (34, 306, 0, 268), (37, 307, 0, 269), (40, 303, 0, 263), (74, 302, 0, 261)], 
  [(9, 400, 0, 410), (15, 402, 0, 414), (19, 403, 0, 416), (22, 405, 0, 418), (25, 404, 0, 417), (28, 807, 1, 316), (33, 401, 0, 412), (44, 806, 1, 313), (47, 803, 1, 304), (58, 406, 0, 419), (68, 805, 1, 309), (75, 801, 1, 300), (78, 800, 1, 296)], 
  [(9, 500, 0, 349), (15, 501, 0, 351), (18, 503, 0, 355), (21, 506, 0, 358), (24, 507, 0, 359), (27, 502, 0, 353), (39, 504, 0, 356), (42, 505, 0, 357), (45, 808, 1, 321), (66, 801, 1, 299), (69, 800, 1, 295), (72, 805, 1, 310)], 
  [(9, 600, 0, 175), (29, 1002, 1, 148), (76, 203, 1, 207), (79, 1005, 1, 153), (97, 202, 1, 202), (104, 1003, 1, 151)], 
  [(9, 700, 0, 383), (29, 808, 1, 320), (39, 805, 1, 308), (42, 806, 1, 314)], 
  [(9, 800, 0, 293), (15, 801, 0, 297), (18, 802, 0, 301), (21, 803, 0, 303), (25, 804, 0, 305), (28, 805, 0, 307), (31, 202, 1, 200), (42, 203, 1, 205), (46, 806, 0, 312), (49, 807, 0, 317), (52, 808, 0, 319), (61, 200, 1, 195), (69, 302, 1, 260), (71, 303, 1, 262), (74, 301, 1, 259)], 
  [(11, 900, 0, 441), (15, 901, 0, 443), (18, 902, 0, 445), (21, 202, 1, 201), (26, 203, 1, 206), (30, 903, 0, 447), (50, 303, 1, 264)], 
  [(9, 1000, 0, 145), (15, 1001, 0, 147), (19, 1004, 0, 152), (25, 1003, 0, 150), (28, 1002, 0, 149), (44, 1005, 0, 154)], 
  [(12, 1100, 0, 459), (19, 1101, 0, 460), (26, 1102, 0, 461), (30, 1103, 0, 462), (36, 1104, 0, 463), (43, 1105, 0, 464), (50, 1106, 0, 465), (57, 1107, 0, 466), (64, 1108, 0, 467), (71, 1109, 0, 468), (78, 1110, 0, 469), (85, 1111, 0, 470), (89, 1112, 0, 471), (93, 1001, 1, 146), (112, 903, 1, 448), (116, 203, 1, 208), (126, 200, 1, 196), (130, 201, 1, 198), (163, 202, 1, 203), (177, 300, 1, 257), (180, 303, 1, 265), (186, 804, 1, 306), (189, 806, 1, 315), (198, 502, 1, 354), (201, 500, 1, 350), (204, 501, 1, 352), (207, 807, 1, 318), (218, 700, 1, 384), (224, 402, 1, 415), (227, 204, 1, 210), (232, 401, 1, 413), (235, 400, 1, 411), (249, 802, 1, 302), (252, 901, 1, 444), (257, 902, 1, 446), (262, 900, 1, 442), (289, 5, 1, 236), (293, 808, 1, 322)], 
  [(1, 1200, 0, 1137), (7, 1201, 0, 1138), (11, 1202, 0, 1139), (18, 1203, 0, 1140), (21, 1204, 0, 1141), (24, 1205, 0, 1142), (27, 1206, 0, 1143), (30, 1210, 0, 1147), (34, 1207, 0, 1144), (62, 1208, 0, 1145), (65, 1209, 0, 1146), (74, 1211, 0, 1148), (78, 1212, 0, 1149), (81, 1213, 0, 1150), (84, 1214, 0, 1151), (87, 1215, 0, 1152), (90, 1216, 0, 1153), (93, 1217, 0, 1154), (96, 1218, 0, 1155), (99, 1219, 0, 1156), (102, 1220, 0, 1157), (105, 1224, 0, 1161), (108, 1225, 0, 1162), (111, 1226, 0, 1163), (114, 1227, 0, 1164), (117, 1228, 0, 1165), (120, 1229, 0, 1166), (124, 1231, 0, 1168), (127, 1232, 0, 1169), (130, 1233, 0, 1170), (133, 1234, 0, 1171), (136, 1238, 0, 1175), (139, 1239, 0, 1176), (142, 1240, 0, 1177), (145, 1241, 0, 1178), (148, 1242, 0, 1179), (151, 1243, 0, 1180), (154, 1244, 0, 1181), (157, 1245, 0, 1182), (160, 1246, 0, 1183), (163, 1247, 0, 1184), (212, 1222, 0, 1159), (230, 1221, 0, 1158), (233, 1223, 0, 1160), (278, 1230, 0, 1167), (288, 1235, 0, 1172), (291, 1236, 0, 1173), (294, 1237, 0, 1174), (338, 1248, 0, 1185)], 
  [], 
  [], 
  [], 
  []]
def am_gs : List (List (Nat × Nat × Nat × Nat)) := [
  [], 
  [], 
  [(19, 902, 1, 185), (51, 900, 1, 650), (54, 901, 1, 651)], 
  [], 
  [], 
  [], 
  [(47, 900, 1, 614), (51, 901, 1, 616)], 
  [], 
  [], 
  [], 
  [], 
  [], 
  [], 
  [], 
  [], 
  [], 
  []]
/-- by class: (index, method, kind, shape, word, static or instanceMethod, selects, initialized) -/
def am_mt : List (List (Nat × Nat × Nat × Nat × Nat × Nat × Nat × Nat)) := [
  [(32, 195, 0, 21, 700, 701, 0, 129), (38, 10, 3, 3020, 1034, 710, 23, 110), (44, 9, 3, 3040, 1035, 669, 17, 110), (48, 11, 3, 3030, 1036, 719, 24, 110), (52, 12, 3, 3030, 1037, 645, 13, 110)], 
  [(34, 4, 2, 2030, 893, 895, 52, 116)], 
  [(43, 7, 2, 3021, 712, 685, 20, 110), (47, 15, 0, 21, 647, 648, 0, 110)], 
  [(22, 16, 0, 12, 752, 736, 0, 112), (43, 19, 2, 4020, 757, 759, 29, 112), (47, 20, 2, 4020, 765, 767, 30, 112), (50, 21, 2, 4020, 769, 771, 31, 112), (53, 23, 2, 4010, 773, 775, 32, 112), (56, 22, 0, 31, 761, 762, 0, 112), (61, 24, 2, 4020, 777, 779, 33, 112), (65, 195, 0, 21, 781, 701, 0, 129), (71, 196, 0, 21, 782, 783, 0, 129)], 
  [(36, 27, 2, 5051, 905, 907, 54, 117), (40, 56, 3, 9011, 909, 911, 55, 113), (51, 28, 2, 5030, 913, 915, 56, 117), (55, 30, 2, 5030, 923, 925, 58, 117), (61, 29, 2, 5030, 917, 919, 57, 117), (64, 55, 3, 9021, 922, 836, 41, 113), (71, 54, 3, 9020, 921, 844, 43, 113), (81, 53, 3, 9020, 927, 808, 36, 113)], 
  [(31, 35, 2, 6020, 830, 832, 40, 114), (35, 32, 2, 6030, 846, 848, 44, 114), (50, 33, 2, 6030, 850, 852, 45, 114), (54, 34, 2, 6021, 854, 856, 46, 114), (58, 55, 3, 9021, 834, 836, 41, 113), (62, 36, 2, 6031, 838, 840, 42, 114), (75, 54, 3, 9020, 842, 844, 43, 113), (79, 194, 0, 20, 948, 803, 0, 130), (85, 37, 2, 6040, 949, 951, 61, 114)], 
  [(15, 5, 3, 3010, 519, 521, 2, 110), (20, 67, 3, 11010, 526, 528, 3, 108), (25, 40, 2, 7040, 548, 550, 7, 109), (32, 41, 2, 7030, 652, 654, 14, 109), (36, 47, 0, 13, 552, 553, 0, 109), (40, 71, 3, 11021, 561, 563, 8, 108), (44, 68, 3, 11010, 613, 532, 4, 108), (54, 43, 2, 7041, 618, 620, 9, 109), (58, 44, 2, 7031, 626, 628, 11, 109), (62, 45, 2, 7020, 639, 641, 12, 109), (66, 12, 3, 3030, 643, 645, 13, 110), (72, 46, 2, 7030, 622, 624, 10, 109), (82, 8, 3, 3021, 657, 659, 15, 110), (87, 42, 2, 7031, 662, 664, 16, 109), (91, 9, 3, 3040, 667, 669, 17, 110), (100, 48, 0, 23, 630, 631, 0, 109)], 
  [(15, 194, 0, 20, 874, 803, 0, 130), (21, 50, 2, 8031, 875, 877, 49, 115), (25, 51, 2, 8030, 880, 882, 50, 115), (35, 55, 3, 9021, 879, 836, 41, 113), (45, 54, 3, 9020, 884, 844, 43, 113)], 
  [(36, 17, 3, 4050, 801, 750, 27, 112), (55, 194, 0, 20, 802, 803, 0, 130), (65, 18, 3, 4020, 805, 755, 28, 112), (75, 53, 2, 9020, 806, 808, 36, 113)], 
  [(40, 61, 2, 10011, 970, 972, 64, 118), (44, 17, 3, 4050, 987, 750, 27, 112), (53, 25, 3, 4021, 992, 994, 67, 112)], 
  [(22, 68, 2, 11010, 530, 532, 4, 108), (31, 72, 0, 11, 534, 535, 0, 108), (35, 69, 2, 11010, 537, 539, 5, 108), (38, 73, 0, 11, 541, 542, 0, 108), (41, 70, 2, 11010, 544, 546, 6, 108), (47, 197, 2, 17011, 565, 566, 567, 121), (52, 198, 2, 17021, 575, 576, 577, 121)], 
  [(97, 66, 3, 11020, 503, 505, 0, 108), (101, 39, 3, 7031, 515, 517, 1, 109), (105, 6, 3, 3020, 671, 673, 18, 110), (109, 0, 3, 1010, 675, 677, 19, 111), (119, 7, 3, 3021, 683, 685, 20, 110), (134, 13, 3, 3021, 691, 693, 21, 110), (137, 8, 3, 3021, 695, 659, 15, 110), (141, 1, 3, 1050, 696, 698, 22, 111), (145, 9, 3, 3040, 703, 669, 17, 110), (149, 10, 3, 3020, 708, 710, 23, 110), (152, 11, 3, 3030, 717, 719, 24, 110), (156, 15, 1, 21, 725, 648, 0, 110), (160, 14, 3, 3021, 726, 728, 25, 110), (166, 12, 3, 3030, 730, 645, 13, 110), (169, 16, 1, 12, 735, 736, 0, 112), (173, 107, 2, 12020, 744, 746, 26, 107), (183, 108, 2, 12010, 793, 795, 34, 107), (192, 58, 3, 9031, 814, 816, 37, 113), (195, 109, 2, 12010, 822, 824, 38, 107), (210, 57, 3, 9021, 862, 864, 47, 113), (214, 49, 3, 8021, 870, 872, 48, 115), (221, 3, 3, 2021, 889, 891, 51, 116), (228, 26, 3, 5020, 901, 903, 53, 117), (238, 110, 2, 12031, 932, 934, 59, 107), (241, 38, 3, 6031, 944, 946, 60, 114), (245, 59, 3, 10040, 957, 959, 62, 118), (253, 37, 3, 6040, 961, 951, 61, 114), (258, 62, 3, 10011, 966, 968, 63, 118), (265, 61, 3, 10011, 978, 972, 64, 118), (267, 63, 3, 10020, 983, 985, 65, 118), (271, 18, 3, 4020, 753, 755, 28, 112), (274, 64, 3, 10021, 988, 990, 66, 118), (278, 25, 3, 4021, 1000, 994, 67, 112), (282, 60, 3, 10020, 1013, 1015, 68, 118), (285, 65, 3, 10021, 1022, 1024, 69, 118), (290, 2, 3, 1020, 1030, 1032, 70, 111), (296, 56, 3, 9011, 1042, 911, 55, 113), (299, 17, 3, 4050, 748, 750, 27, 112), (302, 52, 3, 9050, 797, 799, 35, 113), (306, 31, 3, 6030, 826, 828, 39, 114)], 
  [(14, 114, 2, 13020, 1120, 1122, 72, 119), (37, 119, 0, 11, 1293, 1294, 0, 119), (41, 117, 2, 13021, 1296, 1298, 74, 119), (49, 118, 0, 11, 1302, 1303, 0, 119), (54, 121, 0, 32, 1316, 1317, 0, 119), (58, 122, 0, 52, 1312, 1313, 0, 119), (166, 126, 0, 10, 1134, 1135, 0, 119), (171, 123, 0, 62, 1319, 1320, 0, 119), (179, 124, 2, 13021, 1324, 1326, 76, 119), (185, 120, 2, 13010, 1289, 1291, 73, 119), (188, 130, 2, 13011, 1332, 1334, 78, 119), (192, 131, 2, 13011, 1336, 1338, 79, 119), (195, 125, 2, 13021, 1341, 1343, 80, 119), (198, 127, 0, 11, 1345, 1346, 0, 119), (201, 128, 0, 11, 1348, 1349, 0, 119), (204, 113, 0, 31, 1352, 1353, 0, 119), (208, 133, 2, 13011, 1355, 1357, 81, 119), (217, 129, 0, 12, 1309, 1310, 0, 119), (221, 132, 2, 13021, 1328, 1330, 77, 119), (224, 134, 2, 13011, 1359, 1361, 82, 119), (227, 135, 2, 13011, 1305, 1307, 75, 119), (236, 137, 2, 13021, 1372, 1374, 83, 119), (239, 112, 2, 13012, 1376, 1378, 84, 119), (243, 138, 2, 13021, 1388, 1390, 85, 119), (246, 139, 2, 13021, 1392, 1394, 86, 119), (250, 140, 2, 13010, 1396, 1398, 87, 119), (257, 148, 0, 12, 1419, 1420, 0, 119), (262, 151, 0, 21, 1432, 1433, 0, 119), (267, 149, 0, 22, 1416, 1417, 0, 119), (271, 152, 2, 13040, 1428, 1430, 88, 119), (275, 150, 0, 21, 1441, 1442, 0, 119), (281, 153, 2, 13021, 1456, 1458, 91, 119), (284, 157, 2, 13040, 1452, 1454, 90, 119), (297, 161, 2, 13020, 1484, 1486, 96, 119), (300, 160, 2, 13031, 1488, 1490, 97, 119), (304, 159, 2, 13020, 1492, 1494, 98, 119), (307, 163, 2, 13031, 1468, 1470, 93, 119), (311, 158, 2, 13010, 1448, 1450, 89, 119), (314, 162, 2, 13030, 1480, 1482, 95, 119), (318, 168, 2, 13031, 1464, 1466, 92, 119), (321, 164, 2, 13010, 1476, 1478, 94, 119), (324, 171, 2, 13011, 1504, 1506, 99, 119), (327, 165, 2, 13041, 1520, 1522, 101, 119), (331, 174, 2, 13041, 1516, 1518, 100, 119), (334, 178, 2, 13020, 1536, 1538, 102, 119), (341, 183, 2, 13021, 1556, 1558, 103, 119), (344, 188, 2, 13030, 1576, 1578, 104, 119), (347, 191, 2, 13011, 1588, 1590, 105, 119)], 
  [(7, 77, 2, 12022, 1047, 1048, 1049, 107), (19, 74, 2, 12061, 499, 500, 501, 107), (23, 115, 2, 13061, 1116, 1117, 1118, 119), (24, 75, 2, 12021, 507, 508, 509, 107), (28, 116, 2, 13021, 1125, 1126, 1127, 119), (29, 76, 2, 12011, 511, 512, 513, 107), (33, 136, 2, 13011, 1285, 1286, 1287, 119), (39, 142, 2, 13022, 1368, 1369, 1370, 119), (40, 111, 2, 13011, 1112, 1113, 1114, 119), (43, 78, 2, 12021, 679, 680, 681, 107), (47, 143, 2, 13021, 1380, 1381, 1382, 119), (50, 79, 2, 12031, 687, 688, 689, 107), (54, 144, 2, 13031, 1384, 1385, 1386, 119), (55, 80, 2, 12021, 704, 705, 706, 107), (59, 145, 2, 13021, 1400, 1401, 1402, 119), (60, 81, 2, 12031, 713, 714, 715, 107), (64, 146, 2, 13031, 1404, 1405, 1406, 119), (65, 82, 2, 12031, 721, 722, 723, 107), (68, 147, 2, 13031, 1408, 1409, 1410, 119), (69, 83, 2, 12032, 731, 732, 733, 107), (73, 154, 2, 13032, 1412, 1413, 1414, 119), (74, 84, 2, 12031, 740, 741, 742, 107), (77, 155, 2, 13031, 1424, 1425, 1426, 119), (78, 85, 2, 12021, 785, 786, 787, 107), (81, 156, 2, 13021, 1437, 1438, 1439, 119), (82, 86, 2, 12021, 789, 790, 791, 107), (85, 166, 2, 13021, 1444, 1445, 1446, 119), (86, 87, 2, 12011, 810, 811, 812, 107), (89, 167, 2, 13011, 1460, 1461, 1462, 119), (90, 88, 2, 12031, 818, 819, 820, 107), (93, 169, 2, 13031, 1472, 1473, 1474, 119), (94, 89, 2, 12021, 858, 859, 860, 107), (97, 170, 2, 13021, 1496, 1497, 1498, 119), (98, 90, 2, 12021, 866, 867, 868, 107), (101, 172, 2, 13021, 1500, 1501, 1502, 119), (102, 91, 2, 12011, 885, 886, 887, 107), (105, 173, 2, 13011, 1508, 1509, 1510, 119), (106, 92, 2, 12021, 897, 898, 899, 107), (109, 175, 2, 13021, 1512, 1513, 1514, 119), (110, 93, 2, 12011, 928, 929, 930, 107), (113, 176, 2, 13011, 1524, 1525, 1526, 119), (114, 94, 2, 12021, 936, 937, 938, 107), (117, 177, 2, 13021, 1528, 1529, 1530, 119), (118, 95, 2, 12031, 940, 941, 942, 107), (121, 179, 2, 13031, 1532, 1533, 1534, 119), (122, 96, 2, 12021, 953, 954, 955, 107), (125, 180, 2, 13021, 1540, 1541, 1542, 119), (126, 97, 2, 12021, 962, 963, 964, 107), (129, 181, 2, 13021, 1544, 1545, 1546, 119), (130, 98, 2, 12031, 974, 975, 976, 107), (134, 182, 2, 13031, 1548, 1549, 1550, 119), (135, 99, 2, 12021, 979, 980, 981, 107), (139, 184, 2, 13021, 1552, 1553, 1554, 119), (140, 100, 2, 12021, 996, 997, 998, 107), (143, 185, 2, 13021, 1560, 1561, 1562, 119), (144, 101, 2, 12011, 1001, 1002, 1003, 107), (147, 186, 2, 13011, 1564, 1565, 1566, 119), (148, 102, 2, 12041, 1005, 1006, 1007, 107), (152, 187, 2, 13041, 1568, 1569, 1570, 119), (153, 103, 2, 12031, 1009, 1010, 1011, 107), (157, 189, 2, 13031, 1572, 1573, 1574, 119), (158, 104, 2, 12021, 1018, 1019, 1020, 107), (161, 190, 2, 13021, 1580, 1581, 1582, 119), (162, 105, 2, 12011, 1026, 1027, 1028, 107), (165, 141, 2, 13011, 1364, 1365, 1366, 119), (166, 106, 2, 12021, 1038, 1039, 1040, 107), (169, 192, 2, 13021, 1584, 1585, 1586, 119)], 
  [], 
  [], 
  []]
def am_act : List (List (Nat × Nat)) := [
  [], 
  [], 
  [(34, 523)], 
  [], 
  [], 
  [], 
  [], 
  [], 
  [], 
  [(34, 1017)], 
  [], 
  [], 
  [], 
  [], 
  [], 
  [], 
  []]
def am_ct : List (List (Nat × Int × Nat)) := [
  [], 
  [], 
  [], 
  [(60, 65535, 764)], 
  [], 
  [], 
  [(86, 999999999, 661)], 
  [], 
  [], 
  [], 
  [], 
  [], 
  [(170, 999999999, 1351), (261, 65535, 1435), (266, 65536, 1436)], 
  [], 
  [], 
  [], 
  []]
def am_lt : List (List (Nat × Nat × Nat)) := [
  [], 
  [], 
  [], 
  [(18, 13787848793156543929, 738), (20, 10723151780598845931, 739)], 
  [], 
  [], 
  [], 
  [], 
  [], 
  [], 
  [], 
  [], 
  [(45, 27, 1300), (47, 96, 1301), (52, 729, 1315), (175, 19, 1322), (177, 4, 1323), (183, 5, 1340), (215, 262, 1363), (253, 13787848793156543929, 1422), (255, 10723151780598845931, 1423)], 
  [(48, 4294967295, 1592)], 
  [], 
  [], 
  []]
def am_sl : List (List (Nat × Nat)) := [
  [], 
  [], 
  [], 
  [], 
  [], 
  [], 
  [(107, 1000), (109, 1001), (111, 1002), (113, 1003), (115, 1004), (117, 1005), (119, 1006), (121, 1007), (123, 1008), (125, 1009), (127, 1010), (129, 1011), (70, 1012), (95, 1013)], 
  [], 
  [], 
  [], 
  [], 
  [], 
  [], 
  [], 
  [], 
  [], 
  []]
def am_acw : Nat × Nat × Nat := (524, 525, 120)
def am_nst : List Cond := lw_tbl.filter fun w => match w with | .fieldLinkNest .. => true | .methodLinkNest .. => true | _ => false
def am_big : List Cond := lw_tbl.filter goodWord
def am_str : List String := ["cells", "prints", "bits", "seed", "way", "spread", "queue", "apart", "stack", "close", "least", "free", "key", "is"]
end
section
/-! THE ABSTRACT MACHINE: whole numbers for ints, cells by places, a formula for each stretch of code -/
abbrev am_V : Type := Int ⊕ (Int64 ⊕ Nat)
abbrev am_M : Type := (Nat → Int → Int) × (Nat → Int → Int64)
abbrev am_L : Type := List (Nat × am_V)
abbrev am_S : Type := Int × (Int → Int)
abbrev am_K : Type := am_L → List am_V → am_M → Prop
def am_R (z : Int) : Prop := -2147483648 ≤ z ∧ z ≤ 2147483647
def am_wr (m : am_M) (id : Nat) (z v : Int) : am_M := (fun i => if i = id then (fun j => if j = z then v else m.1 id j) else m.1 i, m.2)
def am_wl (m : am_M) (id : Nat) (z : Int) (v : Int64) : am_M := (m.1, fun i => if i = id then (fun j => if j = z then v else m.2 id j) else m.2 i)
/-- a stretch of n copied: from f at sp to g at dp -/
def am_cpy {α : Type} (f g : Int → α) (sp dp n : Int) : Int → α := fun j => if dp ≤ j ∧ j < dp + n then f (sp + (j - dp)) else g j
def am_ws1 (m : am_M) (id : Nat) (f : Int → Int) : am_M := (fun i => if i = id then f else m.1 i, m.2)
def am_ws2 (m : am_M) (id : Nat) (f : Int → Int64) : am_M := (m.1, fun i => if i = id then f else m.2 i)
def am_lay (q : Nat) : Nat × List (Nat × Nat) := am_layL.getD q (200, [])
def am_fld (q n : Nat) : Nat × Nat := match Nat.beq (am_lay q).1 (n / 100) with
  | true => (am_lay q).2.getD (n % 100) (9, 0)
  | false => (9, 0)
def am_len (q : Nat) : Nat := ((am_lay q).2.getD 0 (0, 0)).1
def am_lowT : List Int := [0, 1, 1, 0, 0, 0, 0]
def am_highT : List Int := [0, 32, 16, 8, 999999999, 2, 2]
def am_untT : List Int := [0, 16, 8, 4, 1, 0, 0]
def am_tab (q : Nat) (i : Int) : Int := match q with
  | 900 => am_lowT.getD i.toNat 0
  | 901 => am_highT.getD i.toNat 0
  | _ => am_untT.getD i.toNat 0
-- the values of bit operations
def am_and (a b : Int) : Int := (Int32.ofInt a &&& Int32.ofInt b).toInt
def am_or (a b : Int) : Int := (Int32.ofInt a ||| Int32.ofInt b).toInt
def am_xor (a b : Int) : Int := (Int32.ofInt a ^^^ Int32.ofInt b).toInt
def am_shl (a b : Int) : Int := (Int32.ofInt a <<< (Int32.ofInt b &&& 31)).toInt
def am_shr (a b : Int) : Int := (Int32.ofInt a >>> (Int32.ofInt b &&& 31)).toInt
def am_ushr (a b : Int) : Int := (((Int32.ofInt a).toUInt32 >>> ((Int32.ofInt b).toUInt32 &&& Int32.toUInt32 31)).toInt32).toInt
def am_i2b (a : Int) : Int := (Int32.ofInt a).toInt8.toInt32.toInt
def am_i2l (a : Int) : Int64 := (Int32.ofInt a).toInt64
def am_l2i (x : Int64) : Int := x.toInt32.toInt
def am_lshl (x : Int64) (b : Int) : Int64 := x <<< ((Int32.ofInt b).toInt64 &&& 63)
def am_lshr (x : Int64) (b : Int) : Int64 := x >>> ((Int32.ofInt b).toInt64 &&& 63)
def am_lushr (x : Int64) (b : Int) : Int64 := (x.toUInt64 >>> ((Int32.ofInt b).toInt64.toUInt64 &&& Int64.toUInt64 63)).toInt64
def am_lcmp (x y : Int64) : Int := (lg_cmp x y).toInt
-- locals
def am_lng : am_V → Bool
  | .inr (.inl _) => true
  | _ => false
def am_get : am_L → Nat → Option am_V
  | [], _ => none
  | (k, v) :: r, i => match Nat.beq k i with
    | true => some v
    | false => am_get r i
def am_del : am_L → Nat → am_L
  | [], _ => []
  | (k, v) :: r, i => match Nat.beq k i || (Nat.beq (k + 1) i && am_lng v) with
    | true => am_del r i
    | false => (k, v) :: am_del r i
def am_ins (k : Nat) (v : am_V) : am_L → am_L
  | [] => [(k, v)]
  | (j, w) :: r => match Nat.blt k j with
    | true => (k, v) :: (j, w) :: r
    | false => (j, w) :: am_ins k v r
def am_set (lv : am_L) (k : Nat) (v : am_V) : am_L := match am_lng v with
  | true => am_ins k v (am_del (am_del lv (k + 1)) k)
  | false => am_ins k v (am_del lv k)
def am_pick (lv : am_L) : List Nat → Option am_L
  | [] => some []
  | k :: ks => match am_get lv k with
    | none => none
    | some v => match am_pick lv ks with
      | none => none
      | some r => some ((k, v) :: r)
def am_lk {α : Type} : List (Nat × α) → Nat → Option α
  | [], _ => none
  | (k, v) :: r, i => match Nat.beq k i with
    | true => some v
    | false => am_lk r i
-- what stands on the stack
def am_i1 (st : List am_V) (k : Int → List am_V → Prop) : Prop := match st with
  | .inl a :: r => k a r
  | _ => False
def am_i2 (st : List am_V) (k : Int → Int → List am_V → Prop) : Prop := match st with
  | .inl b :: .inl a :: r => k a b r
  | _ => False
def am_l1 (st : List am_V) (k : Int64 → List am_V → Prop) : Prop := match st with
  | .inr (.inl a) :: r => k a r
  | _ => False
def am_l2 (st : List am_V) (k : Int64 → Int64 → List am_V → Prop) : Prop := match st with
  | .inr (.inl b) :: .inr (.inl a) :: r => k a b r
  | _ => False
def am_li (st : List am_V) (k : Int64 → Int → List am_V → Prop) : Prop := match st with
  | .inl b :: .inr (.inl a) :: r => k a b r
  | _ => False
def am_r1 (st : List am_V) (k : Nat → List am_V → Prop) : Prop := match st with
  | .inr (.inr a) :: r => k a r
  | _ => False
def am_ri (st : List am_V) (k : Nat → Int → List am_V → Prop) : Prop := match st with
  | .inl i :: .inr (.inr a) :: r => k a i r
  | _ => False
def am_rii (st : List am_V) (k : Nat → Int → Int → List am_V → Prop) : Prop := match st with
  | .inl v :: .inl i :: .inr (.inr a) :: r => k a i v r
  | _ => False
def am_ril (st : List am_V) (k : Nat → Int → Int64 → List am_V → Prop) : Prop := match st with
  | .inr (.inl v) :: .inl i :: .inr (.inr a) :: r => k a i v r
  | _ => False
def am_oi (v : Option am_V) (k : Int → Prop) : Prop := match v with
  | some (.inl z) => k z
  | _ => False
def am_ol (v : Option am_V) (k : Int64 → Prop) : Prop := match v with
  | some (.inr (.inl z)) => k z
  | _ => False
def am_or' (v : Option am_V) (k : Nat → Prop) : Prop := match v with
  | some (.inr (.inr z)) => k z
  | _ => False
def am_ild (S : am_S) (q : Nat) (m : am_M) (i : Int) (k : Int → Prop) : Prop := match Nat.beq q 800 with
  | true => 0 ≤ i ∧ i < S.1 ∧ k (S.2 i)
  | false => match Nat.ble 900 q && Nat.ble q 902 with
    | true => 0 ≤ i ∧ i < 7 ∧ k (am_tab q i)
    | false => match Nat.beq (am_lay q).1 100 with
      | true => 0 ≤ i ∧ i < (am_len q : Int) ∧ k (m.1 q i)
      | false => False
def am_bld (q : Nat) (m : am_M) (i : Int) (k : Int → Prop) : Prop := match Nat.beq (am_lay q).1 101 || Nat.beq (am_lay q).1 102 with
  | true => 0 ≤ i ∧ i < (am_len q : Int) ∧ k (m.1 q i)
  | false => False
def am_lld (q : Nat) (m : am_M) (i : Int) (k : Int64 → Prop) : Prop := match Nat.beq (am_lay q).1 103 with
  | true => 0 ≤ i ∧ i < (am_len q : Int) ∧ k (m.2 q i)
  | false => False
def am_ist (q : Nat) (m : am_M) (i v : Int) (k : am_M → Prop) : Prop := match Nat.beq (am_lay q).1 100 with
  | true => 0 ≤ i ∧ i < (am_len q : Int) ∧ k (am_wr m q i v)
  | false => False
def am_bst (q : Nat) (m : am_M) (i v : Int) (k : am_M → Prop) : Prop := match Nat.beq (am_lay q).1 101 with
  | true => 0 ≤ i ∧ i < (am_len q : Int) ∧ (v = 0 ∨ v = 1) ∧ k (am_wr m q i v)
  | false => match Nat.beq (am_lay q).1 102 with
    | true => 0 ≤ i ∧ i < (am_len q : Int) ∧ (-128 ≤ v ∧ v ≤ 127) ∧ k (am_wr m q i v)
    | false => False
def am_lst (q : Nat) (m : am_M) (i : Int) (v : Int64) (k : am_M → Prop) : Prop := match Nat.beq (am_lay q).1 103 with
  | true => 0 ≤ i ∧ i < (am_len q : Int) ∧ k (am_wl m q i v)
  | false => False
def am_aldL (i : Int) (k : Nat → Prop) : Int → List (Nat × Nat) → Prop
  | _, [] => True
  | n, (q, _) :: r => (i = n → k q) ∧ am_aldL i k (n + 1) r
def am_ald (q : Nat) (i : Int) (k : Nat → Prop) : Prop := match Nat.beq (am_lay q).1 104 with
  | true => 0 ≤ i ∧ i < ((am_lay q).2.length : Int) ∧ am_aldL i k 0 (am_lay q).2
  | false => False
def am_gf (q n : Nat) (m : am_M) (k : am_V → Prop) : Prop := match am_fld q n with
  | (0, x) => k (.inl (m.1 x 0))
  | (1, x) => k (.inr (.inl (m.2 x 0)))
  | (2, x) => k (.inr (.inr x))
  | (3, x) => k (.inl (m.1 x 0))
  | _ => False
def am_pf (st : List am_V) (n : Nat) (m : am_M) (k : List am_V → am_M → Prop) : Prop := match st with
  | .inl v :: .inr (.inr q) :: r => (match am_fld q n with
    | (0, x) => k r (am_wr m x 0 v)
    | (3, x) => (v = 0 ∨ v = 1) ∧ k r (am_wr m x 0 v)
    | _ => False)
  | .inr (.inl v) :: .inr (.inr q) :: r => (match am_fld q n with
    | (1, x) => k r (am_wl m x 0 v)
    | _ => False)
  | _ => False
def am_al (q : Nat) (S : am_S) (k : Int → Prop) : Prop := match Nat.beq q 800 with
  | true => k S.1
  | false => match Nat.ble 900 q && Nat.ble q 902 with
   | true => k 7
   | false => match Nat.ble 100 (am_lay q).1 && Nat.ble (am_lay q).1 103 with
    | true => k (am_len q : Int)
    | false => False
def am_cp (st : List am_V) (m : am_M) (k : List am_V → am_M → Prop) : Prop := match st with
  | .inl n :: .inl dp :: .inr (.inr b) :: .inl sp :: .inr (.inr a) :: [] => (match Nat.ble 900 a with
    | true => (match Nat.beq a 902 && Nat.beq (am_lay b).1 100 with
      | true => 0 ≤ sp ∧ 0 ≤ dp ∧ 0 ≤ n ∧ sp + n ≤ 7 ∧ dp + n ≤ (am_len b : Int) ∧ k [] (am_ws1 m b (am_cpy (am_tab a) (m.1 b) sp dp n))
      | false => False)
    | false => (match Nat.beq (am_lay a).1 100 && Nat.beq (am_lay b).1 100 with
      | true => 0 ≤ sp ∧ 0 ≤ dp ∧ 0 ≤ n ∧ sp + n ≤ (am_len a : Int) ∧ dp + n ≤ (am_len b : Int) ∧ k [] (am_ws1 m b (am_cpy (m.1 a) (m.1 b) sp dp n))
      | false => (match Nat.beq (am_lay a).1 103 && Nat.beq (am_lay b).1 103 with
        | true => 0 ≤ sp ∧ 0 ≤ dp ∧ 0 ≤ n ∧ sp + n ≤ (am_len a : Int) ∧ dp + n ≤ (am_len b : Int) ∧ k [] (am_ws2 m b (am_cpy (m.2 a) (m.2 b) sp dp n))
        | false => False)))
  | _ => False
def am_cmp (c : ClassFile.Cond) (a b : Int) : Prop := match c with
  | .eq => a = b
  | .ne => a ≠ b
  | .lt => a < b
  | .ge => b ≤ a
  | .gt => b < a
  | .le => a ≤ b
def am_popn : Nat → List am_V → List am_V → Option (List am_V × List am_V)
  | 0, acc, st => some (acc, st)
  | _ + 1, _, [] => none
  | n + 1, acc, v :: st => am_popn n (v :: acc) st
def am_cat : List am_V → Nat
  | [] => 0
  | v :: r => (match am_lng v with | true => 2 | false => 1) + am_cat r
def am_lsw (x : Int) (J : Int → Prop) (d : Int) : List (Int × Int) → List Int → Prop
  | [], ns => ns.foldr (fun n P => x ≠ n → P) (J d)
  | (k, t) :: r, ns => (x = k → J t) ∧ am_lsw x J d r (k :: ns)
def am_dup (st : List am_V) (k : List am_V → Prop) : Prop := match st with
  | v :: r => (match am_lng v with | true => False | false => k (v :: v :: r))
  | _ => False
def am_dup2 (st : List am_V) (k : List am_V → Prop) : Prop := match st with
  | v :: r => (match am_lng v with
    | true => k (v :: v :: r)
    | false => (match r with
      | w :: r' => (match am_lng w with | true => False | false => k (v :: w :: v :: w :: r'))
      | _ => False))
  | _ => False
def am_pop (st : List am_V) (k : List am_V → Prop) : Prop := match st with
  | v :: r => (match am_lng v with | true => False | false => k r)
  | _ => False
def am_vi (v : am_V) (k : Int → Prop) : Prop := match v with
  | .inl z => k z
  | _ => False
def am_vl (v : am_V) (k : Int64 → Prop) : Prop := match v with
  | .inr (.inl z) => k z
  | _ => False
def am_vr (v : am_V) (k : Nat → Prop) : Prop := match v with
  | .inr (.inr z) => k z
  | _ => False
/-- two ints on top, what lies below them is small -/
def am_i2s (st : List am_V) (k : Int → Int → List am_V → Prop) : Prop := match st with
  | .inl b :: .inl a :: r => (match Nat.ble (am_cat r) 8 with | true => k a b r | false => False)
  | _ => False
abbrev am_Call : Type := Nat → List am_V → am_M → (am_V → am_M → Prop) → Prop
def am_rcv (n : Nat) (as : List am_V) (X : Prop) : Prop := match n with
  | 0 => X
  | 17 => (match as with
    | .inr (.inr q) :: _ => (1000 ≤ q ∧ q < 1014) ∧ X
    | _ => False)
  | n + 1 => (match as with
    | .inr (.inr q) :: _ => (match Nat.beq (am_lay q).1 n with | true => X | false => False)
    | _ => False)
def am_inv (call : am_Call) (y c : Nat) (lv : am_L) (st : List am_V) (m : am_M) (K : am_K) : Prop := match am_popn (c % 1000 / 10) [] st with
  | none => False
  | some (as, r) => (match Nat.ble (am_cat r) 8 with
    | false => False
    | true => am_rcv (c / 1000) as (match c % 10 with
      | 0 => call y as m (fun _ m' => K lv r m')
      | 1 => call y as m (fun v m' => am_vi v fun z => K lv (.inl z :: r) m')
      | 2 => call y as m (fun v m' => am_vl v fun z => K lv (.inr (.inl z) :: r) m')
      | _ => call y as m (fun v m' => am_vr v fun z => K lv (.inr (.inr z) :: r) m')))
/-- b: whether the method answers a boolean -/
def am_step (S : am_S) (call : am_Call) (b : Bool) (ret : am_V → am_M → Prop) (i : Instr) (lv : am_L) (st : List am_V) (m : am_M) (K : am_K) (J : Nat → am_K) : Prop := match i with
  | .iconst z => K lv (.inl z :: st) m
  | .ldc2_w n => K lv (.inr (.inl (Int64.ofNat n)) :: st) m
  | .ldc n => K lv (.inr (.inr n) :: st) m
  | .iload k => am_oi (am_get lv k) fun z => K lv (.inl z :: st) m
  | .lload k => am_ol (am_get lv k) fun z => K lv (.inr (.inl z) :: st) m
  | .aload k => am_or' (am_get lv k) fun z => K lv (.inr (.inr z) :: st) m
  | .istore k => am_i1 st fun z r => K (am_set lv k (.inl z)) r m
  | .lstore k => am_l1 st fun z r => K (am_set lv k (.inr (.inl z))) r m
  | .astore k => am_r1 st fun z r => K (am_set lv k (.inr (.inr z))) r m
  | .iinc k n => am_oi (am_get lv k) fun z => am_R (z + n) ∧ K (am_set lv k (.inl (z + n))) st m
  | .iadd => am_i2 st fun a b r => am_R (a + b) ∧ K lv (.inl (a + b) :: r) m
  | .isub => am_i2 st fun a b r => am_R (a - b) ∧ K lv (.inl (a - b) :: r) m
  | .imul => am_i2 st fun a b r => am_R (a * b) ∧ K lv (.inl (a * b) :: r) m
  | .idiv => am_i2 st fun a b r => 0 ≤ a ∧ 0 < b ∧ K lv (.inl (a / b) :: r) m
  | .irem => am_i2 st fun a b r => 0 ≤ a ∧ 0 < b ∧ K lv (.inl (a % b) :: r) m
  | .iand => am_i2 st fun a b r => K lv (.inl (am_and a b) :: r) m
  | .ior => am_i2 st fun a b r => K lv (.inl (am_or a b) :: r) m
  | .ixor => am_i2 st fun a b r => K lv (.inl (am_xor a b) :: r) m
  | .ishl => am_i2 st fun a b r => K lv (.inl (am_shl a b) :: r) m
  | .ishr => am_i2 st fun a b r => K lv (.inl (am_shr a b) :: r) m
  | .iushr => am_i2 st fun a b r => K lv (.inl (am_ushr a b) :: r) m
  | .i2b => am_i1 st fun a r => K lv (.inl (am_i2b a) :: r) m
  | .i2l => am_i1 st fun a r => K lv (.inr (.inl (am_i2l a)) :: r) m
  | .l2i => am_l1 st fun a r => K lv (.inl (am_l2i a) :: r) m
  | .ladd => am_l2 st fun a b r => K lv (.inr (.inl (a + b)) :: r) m
  | .lsub => am_l2 st fun a b r => K lv (.inr (.inl (a - b)) :: r) m
  | .lmul => am_l2 st fun a b r => K lv (.inr (.inl (a * b)) :: r) m
  | .land => am_l2 st fun a b r => K lv (.inr (.inl (a &&& b)) :: r) m
  | .lor => am_l2 st fun a b r => K lv (.inr (.inl (a ||| b)) :: r) m
  | .lxor => am_l2 st fun a b r => K lv (.inr (.inl (a ^^^ b)) :: r) m
  | .lneg => am_l1 st fun a r => K lv (.inr (.inl (-a)) :: r) m
  | .lshl => am_li st fun a b r => K lv (.inr (.inl (am_lshl a b)) :: r) m
  | .lshr => am_li st fun a b r => K lv (.inr (.inl (am_lshr a b)) :: r) m
  | .lushr => am_li st fun a b r => K lv (.inr (.inl (am_lushr a b)) :: r) m
  | .lcmp => am_l2 st fun a b r => K lv (.inl (am_lcmp a b) :: r) m
  | .dup => am_dup st fun r => K lv r m
  | .dup2 => am_dup2 st fun r => K lv r m
  | .pop => am_pop st fun r => K lv r m
  | .getfield n => am_r1 st fun q r => am_gf q n m fun v => K lv (v :: r) m
  | .putfield n => am_pf st n m fun r m' => K lv r m'
  | .getstatic n => K lv (.inr (.inr n) :: st) m
  | .iaload => am_ri st fun q i r => am_ild S q m i fun z => K lv (.inl z :: r) m
  | .baload => am_ri st fun q i r => am_bld q m i fun z => K lv (.inl z :: r) m
  | .laload => am_ri st fun q i r => am_lld q m i fun z => K lv (.inr (.inl z) :: r) m
  | .aaload => am_ri st fun q i r => am_ald q i fun z => K lv (.inr (.inr z) :: r) m
  | .iastore => am_rii st fun q i v r => am_ist q m i v fun m' => K lv r m'
  | .bastore => am_rii st fun q i v r => am_bst q m i v fun m' => K lv r m'
  | .lastore => am_ril st fun q i v r => am_lst q m i v fun m' => K lv r m'
  | .arraylength => am_r1 st fun q r => am_al q S fun z => K lv (.inl z :: r) m
  | .ifCond c t => am_i1 st fun a r => (am_cmp c a 0 → J t.toNat lv r m) ∧ (¬ am_cmp c a 0 → K lv r m)
  | .if_icmp c t => am_i2 st fun a b r => (am_cmp c a b → J t.toNat lv r m) ∧ (¬ am_cmp c a b → K lv r m)
  | .goto t => J t.toNat lv st m
  | .goto_w t => J t.toNat lv st m
  | .lookupswitch d ps => am_i1 st fun a r => am_lsw a (fun t => J t.toNat lv r m) d ps.toList []
  | .invokeinterface y c => am_inv call y c lv st m K
  | .fsub => am_i2s st fun a b r => K lv (.inl (if b < a then b else a) :: r) m
  | .fadd => am_i2s st fun a b r => K lv (.inl (if a < b then b else a) :: r) m
  | .invokedynamic _ => am_cp st m fun r m' => K lv r m'
  | .ireturn => (match st with
    | [.inl z] => (match b with | true => (z = 0 ∨ z = 1) ∧ ret (.inl z) m | false => ret (.inl z) m)
    | _ => False)
  | .lreturn => (match st with | [.inr (.inl z)] => ret (.inr (.inl z)) m | _ => False)
  | .areturn => (match st with | [.inr (.inr z)] => ret (.inr (.inr z)) m | _ => False)
  | .return_ => (match st with | [] => ret (.inl 0) m | _ => False)
  | _ => False
def am_run (S : am_S) (call : am_Call) (b : Bool) (ret : am_V → am_M → Prop) (G : Nat → am_K) (bl : List (Nat × List am_I)) (ct : List (Nat × List Nat)) : Nat → List am_I → am_L → List am_V → am_M → Prop
  | 0, _, _, _, _ => False
  | _ + 1, [], _, _, _ => False
  | f + 1, e :: r, lv, st, m => am_step S call b ret e.2.2.2 lv st m (am_run S call b ret G bl ct f r) (fun t lv st m => match am_lk ct t with
    | some ks => (match am_pick lv ks with | some lv' => G t lv' st m | none => False)
    | none => (match am_lk bl t with | some is => am_run S call b ret G bl ct f is lv st m | none => False))
end
section
/-! WORLDS: what the abstract machine's state is in the real one -/
/-- tables of classes; class of arrays by kind; addresses; the script's length and ints; addresses of the texts' bytes -/
abbrev am_E : Type := va_G × (Nat → ClassId) × (Nat → Nat) × (Nat × (Nat → Int32)) × (Nat → Nat)
def am_ad (E : am_E) (q : Nat) : Nat := E.2.2.1 q
def am_cv (E : am_E) : am_V → Value
  | .inl z => .int (Int32.ofInt z)
  | .inr (.inl x) => .long x
  | .inr (.inr q) => .ref (am_ad E q)
def am_vok : am_V → Prop
  | .inl z => am_R z
  | _ => True
def am_fv (E : am_E) (m : am_M) (e : Nat × Nat) : Value := match e.1 with
  | 0 => .int (Int32.ofInt (m.1 e.2 0))
  | 1 => .long (m.2 e.2 0)
  | 2 => .ref (am_ad E e.2)
  | _ => .int (Int32.ofInt (m.1 e.2 0))
def am_cell (E : am_E) (m : am_M) (q : Nat) : va_E :=
  if (am_lay q).1 < 100 then .inr ((am_lay q).1, (am_lay q).2.map (am_fv E m))
  else if (am_lay q).1 = 103 then .inl (E.2.1 103, am_len q, .inr (.inl fun j => m.2 q (j : Int)))
  else if (am_lay q).1 = 104 then .inl (E.2.1 104, (am_lay q).2.length, .inr (.inr (.inr (.inr fun j => some (am_ad E ((am_lay q).2.getD j (0, 0)).1)))))
  else .inl (E.2.1 (am_lay q).1, am_len q, .inl fun j => Int32.ofInt (m.1 q (j : Int)))
def am_ws (E : am_E) (m : am_M) : va_W := (List.range am_N).map fun q => (am_ad E q, am_cell E m q)
def am_tys (E : am_E) : List (ClassId × FieldType) := [(E.2.1 100, .int), (E.2.1 101, .boolean), (E.2.1 102, .byte), (E.2.1 103, .long), (E.2.1 104, .object "TripleSieve$Sieve")]
/-- 1: of two values; 2: a byte; 0: any int -/
def am_rg (id : Nat) : Nat := if id < 1000 then (if (am_lay id).1 = 101 then 1 else if (am_lay id).1 = 102 then 2 else 0)
  else if ((am_lay ((id - 1000) / 100)).2.getD ((id - 1000) % 100) (0, 0)).1 = 3 ∧ (am_lay ((id - 1000) / 100)).1 < 100 then 1 else 0
def am_In (r : Nat) (z : Int) : Prop := match r with
  | 1 => z = 0 ∨ z = 1
  | 2 => -128 ≤ z ∧ z ≤ 127
  | _ => am_R z
def am_MR (m : am_M) : Prop := ∀ (id : Nat) (z : Int), am_In (am_rg id) (m.1 id z)
def am_strlen (i : Nat) : Nat := (am_str.getD i "").length
def am_strT (i : Nat) : List Int32 := ((am_str.getD i "").toList.map fun c => Int32.ofNat c.toNat)
def am_stab (E : am_E) (A : Nat → Prop) (s : State) (n : String) (q : Nat) : Prop := va_Z "TripleSieve" n "[I" (.ref (am_ad E q)) A s s.heap ∧ va_T .int (am_ad E q) 7 (fun j => .int (Int32.ofInt (am_tab q (j : Int)))) A s s.heap
/-- what is only read: static rows, texts, the script, the words on nest mates -/
def am_RO (E : am_E) (A : Nat → Prop) (s : State) : Prop :=
  am_stab E A s "LOWEST" 900 ∧ am_stab E A s "HIGHEST" 901 ∧ am_stab E A s "UNTOLD" 902
  ∧ vk_S 14 (am_str.map String.length) ((List.range 14).map am_strT) (fun i => am_ad E (1000 + i)) E.2.2.2.2 A s s.heap
  ∧ (∀ e ∈ am_sl.getD 6 [], vk_R "TripleSieve$Reader" e.1 (am_str.getD (e.2 - 1000) "") (am_ad E e.2) s)
  ∧ (va_X (am_ad E 800) E.2.2.2.1.1 E.2.2.2.1.2 s s.heap ∧ am_ad E 800 < s.heap.size ∧ ¬ A (am_ad E 800))
  ∧ (∀ w ∈ am_nst, va_Nw w s)
  ∧ (∀ q, q < am_N → A (am_ad E q)) ∧ E.2.2.2.1.1 ≤ 3072
def am_Wd (E : am_E) (A : Nat → Prop) (m : am_M) (s : State) (H : Heap) : Prop := va_P E.1 vwCl (am_ws E m) H ∧ va_K E.1 vwCl (am_tys E) s ∧ va_D A (am_ws E m) ∧ am_MR m
def am_sc (E : am_E) : am_S := ((E.2.2.2.1.1 : Int), fun i => (E.2.2.2.1.2 i.toNat).toInt)
def am_mi (y : Nat) : am_MI := am_ml.getD y mi_L_law
def am_rm (d : Nat) : Room := { frames := d, cells := 0, slots := 0, locals := 64 * d }
def am_wds (y : Nat) : List Cond := .code (am_mi y).1 (am_mi y).2.1 (am_mi y).2.2.1 (am_mi y).2.2.2.1 :: am_big
def am_Pc (E : am_E) (A : Nat → Prop) (as : List am_V) (m : am_M) : Array Value → State → Prop := fun v U => v = (as.map (am_cv E)).toArray ∧ (∀ x ∈ as, am_vok x) ∧ am_Wd E A m U U.heap ∧ am_RO E A U
def am_rc (E : am_E) (y : Nat) (v : am_V) : Option Value := if (am_mi y).2.2.2.1 = none then none else some (am_cv E v)
def am_Qc (E : am_E) (A : Nat → Prop) (y : Nat) (P : am_V → am_M → Prop) : Array Value → State → Outcome → State → Prop := fun _ st oc t => (∃ (v : am_V) (m' : am_M), oc = .returned (am_rc E y v) ∧ am_vok v ∧ P v m' ∧ va_P E.1 vwCl (am_ws E m') t.heap ∧ am_MR m') ∧ va_F A st t
/-- method y, called with these arguments at this memory, comes back with P; d: how deep it may call -/
def am_Ok (d y : Nat) (as : List am_V) (m : am_M) (P : am_V → am_M → Prop) : Prop := ∀ (l : Launch) (E : am_E) (A : Nat → Prop), Met l (am_mi y).1 (am_wds y) (am_rm d) (am_Pc E A as m) (am_Qc E A y P) 0 0 A
def am_isRet (i : Instr) (v : am_V) : Prop := match i, v with
  | .ireturn, .inl _ => True
  | .lreturn, .inr (.inl _) => True
  | .areturn, .inr (.inr _) => True
  | .return_, .inl z => z = 0
  | _, _ => False
def am_rst (E : am_E) (i : Instr) (v : am_V) : List Value := match i with
  | .return_ => []
  | _ => [am_cv E v]
def am_bool (y : Nat) : Bool := match (am_mi y).2.2.2.1 with
  | some .boolean => true
  | _ => false
def am_rtk (rt : Option FieldType) (i : Instr) : Bool := match i, rt with
  | .ireturn, some .int => true
  | .ireturn, some .boolean => true
  | .lreturn, some .long => true
  | .areturn, some (.object _) => true
  | .return_, none => true
  | _, _ => false
/-- the frame in which a method's code runs -/
def am_Cx (p : Program) (l : Launch) (e : Env) (R : Room) (s : State) (mm : MethodId) (args : Array Value) (below : List Frame) (meth : Method) (c : Code) (cells slots : Nat) (Q : State → Prop) (E : am_E) (A : Nat → Prop) (y d : Nat) (P : am_V → am_M → Prop) : Prop :=
  p.tables.exec = Jvm.exec ∧ c.code = (am_mi y).2.1 ∧ c.maxLocals = (am_mi y).2.2.1 ∧ s.vm.findClass (am_cn.getD (am_mi y).2.2.2.2 "") = some mm.cls ∧ (∀ w ∈ am_big, w.before args s = true)
  ∧ d ≤ R.frames ∧ 64 * d ≤ R.locals ∧ cells ≤ R.cells ∧ slots ≤ R.slots ∧ am_RO E A s ∧ va_K E.1 vwCl (am_tys E) s
  ∧ (∀ (i : Instr) (pc : Nat) (ls : Array Slot) (H : Heap) (locs : List Loc) (m : am_M) (v : am_V), decode (am_mi y).2.1 pc = .ok (i, 1) → am_rtk (am_mi y).2.2.2.1 i = true → am_isRet i v → am_vok v → (am_bool y = true → ∀ z, v = .inl z → z = 0 ∨ z = 1) → P v m → am_Wd E A m s H → va_S A s.heap H locs → W p l e R s mm args below meth c H locs cells slots Q (F0 mm pc ls (am_rst E i v)))
def am_at (p : Program) (l : Launch) (e : Env) (R : Room) (s : State) (mm : MethodId) (args : Array Value) (below : List Frame) (meth : Method) (c : Code) (cells slots : Nat) (Q : State → Prop) (E : am_E) (A : Nat → Prop) (y : Nat) (pc : Nat) (lv : am_L) (st : List am_V) (m : am_M) : Prop :=
  ∀ (H : Heap) (locs : List Loc) (ls : Array Slot), am_Wd E A m s H → va_S A s.heap H locs → lv_has ls (am_mi y).2.2.1 (lv.map fun q => (q.1, am_cv E q.2)) → (∀ q ∈ lv, am_vok q.2) → (∀ v ∈ st, am_vok v) → W p l e R s mm args below meth c H locs cells slots Q (F0 mm pc ls (st.map (am_cv E)))
/-- at a place of a method's code -/
def am_G (d y : Nat) (P : am_V → am_M → Prop) (pc : Nat) (lv : am_L) (st : List am_V) (m : am_M) : Prop :=
  ∀ (p : Program) (l : Launch) (e : Env) (R : Room) (s : State) (mm : MethodId) (args : Array Value) (below : List Frame) (meth : Method) (c : Code) (cells slots : Nat) (Q : State → Prop) (E : am_E) (A : Nat → Prop),
    am_Cx p l e R s mm args below meth c cells slots Q E A y d P → am_at p l e R s mm args below meth c cells slots Q E A y pc lv st m
def am_OkI (d y : Nat) (as : List am_V) (m : am_M) (P : Int → am_M → Prop) : Prop := am_Ok d y as m (fun v m' => am_vi v fun z => P z m')
def am_OkL (d y : Nat) (as : List am_V) (m : am_M) (P : Int64 → am_M → Prop) : Prop := am_Ok d y as m (fun v m' => am_vl v fun z => P z m')
def am_OkR (d y : Nat) (as : List am_V) (m : am_M) (P : Nat → am_M → Prop) : Prop := am_Ok d y as m (fun v m' => am_vr v fun z => P z m')
def am_OkV (d y : Nat) (as : List am_V) (m : am_M) (P : am_M → Prop) : Prop := am_Ok d y as m (fun _ m' => P m')
def am_GI (d y : Nat) (P : Int → am_M → Prop) (pc : Nat) (lv : am_L) (st : List am_V) (m : am_M) : Prop := am_G d y (fun v m' => am_vi v fun z => P z m') pc lv st m
def am_GL (d y : Nat) (P : Int64 → am_M → Prop) (pc : Nat) (lv : am_L) (st : List am_V) (m : am_M) : Prop := am_G d y (fun v m' => am_vl v fun z => P z m') pc lv st m
def am_GR (d y : Nat) (P : Nat → am_M → Prop) (pc : Nat) (lv : am_L) (st : List am_V) (m : am_M) : Prop := am_G d y (fun v m' => am_vr v fun z => P z m') pc lv st m
def am_GV (d y : Nat) (P : am_M → Prop) (pc : Nat) (lv : am_L) (st : List am_V) (m : am_M) : Prop := am_G d y (fun _ m' => P m') pc lv st m
end
section
/-! numbers and worlds: the plain facts that the soundness of the abstract machine stands on -/
theorem am_R_min : Int32.minValue.toInt = -2147483648 := by decide
theorem am_R_max : Int32.maxValue.toInt = 2147483647 := by decide
theorem am_to {z : Int} (h : am_R z) : (Int32.ofInt z).toInt = z := Int32.toInt_ofInt_of_le (by have := h.1; omega) (by have := h.2; omega)
theorem am_ltI {a b : Int} (ha : am_R a) (hb : am_R b) : Int32.ofInt a < Int32.ofInt b ↔ a < b := by rw [Int32.lt_iff_toInt_lt, am_to ha, am_to hb]
theorem am_leI {a b : Int} (ha : am_R a) (hb : am_R b) : Int32.ofInt a ≤ Int32.ofInt b ↔ a ≤ b := by rw [Int32.le_iff_toInt_le, am_to ha, am_to hb]
theorem am_eqI {a b : Int} (ha : am_R a) (hb : am_R b) : Int32.ofInt a = Int32.ofInt b ↔ a = b := by rw [← Int32.toInt_inj, am_to ha, am_to hb]
theorem am_R0 : am_R 0 := ⟨by decide, by decide⟩
theorem am_RT (x : Int32) : am_R x.toInt := ⟨by have := Int32.le_toInt x; omega, by have := Int32.toInt_lt x; omega⟩
theorem am_of (x : Int32) : Int32.ofInt x.toInt = x := Int32.ofInt_toInt x
theorem am_clamp {z : Int} (h : am_R z) : (Int32.ofInt z).toNatClampNeg = z.toNat := Int32.toNatClampNeg_ofInt_of_le (by have := h.1; omega) (by have := h.2; omega)
theorem am_vin {z : Int} {n : Nat} (h : am_R z) (h0 : 0 ≤ z) (h1 : z < (n : Int)) : vp_in (Int32.ofInt z) n := by
  intro hn
  rcases hn with hn | hn
  · have := (am_ltI h am_R0).mp hn
    omega
  · rw [am_clamp h] at hn
    omega
theorem am_In_R {r : Nat} {z : Int} (h : am_In r z) : am_R z := by
  unfold am_In at h
  split at h
  · rcases h with rfl | rfl <;> exact ⟨by decide, by decide⟩
  · exact ⟨by omega, by omega⟩
  · exact h
theorem am_MR.R {m : am_M} (h : am_MR m) (id : Nat) (z : Int) : am_R (m.1 id z) := am_In_R (h id z)
theorem am_rg0 {q : Nat} (h : q < 1000) (hk : (am_lay q).1 ≠ 101) (hk2 : (am_lay q).1 ≠ 102) : am_rg q = 0 := by simp [am_rg, h, hk, hk2]
theorem am_rg1 {q : Nat} (h : q < 1000) (hk : (am_lay q).1 = 101) : am_rg q = 1 := by simp [am_rg, h, hk]
theorem am_rg2 {q : Nat} (h : q < 1000) (hk : (am_lay q).1 = 102) : am_rg q = 2 := by simp [am_rg, h, hk]
theorem am_MR.wr {m : am_M} (h : am_MR m) {id : Nat} {z v : Int} (hv : am_In (am_rg id) v) : am_MR (am_wr m id z v) := by
  intro i j
  show am_In (am_rg i) ((if i = id then (fun j => if j = z then v else m.1 id j) else m.1 i) j)
  by_cases hi : i = id
  · subst hi
    rw [if_pos rfl]
    show am_In (am_rg i) (if j = z then v else m.1 i j)
    by_cases hj : j = z
    · rw [if_pos hj]; exact hv
    · rw [if_neg hj]; exact h i j
  · rw [if_neg hi]; exact h i j
theorem am_MR.wl {m : am_M} (h : am_MR m) {id : Nat} {z : Int} {v : Int64} : am_MR (am_wl m id z v) := h
theorem am_MR.ws1 {m : am_M} (h : am_MR m) {id : Nat} {f : Int → Int} (hf : ∀ j, am_In (am_rg id) (f j)) : am_MR (am_ws1 m id f) := by
  intro i j
  show am_In (am_rg i) ((if i = id then f else m.1 i) j)
  by_cases hi : i = id
  · subst hi; rw [if_pos rfl]; exact hf j
  · rw [if_neg hi]; exact h i j
theorem am_MR.ws2 {m : am_M} (h : am_MR m) {id : Nat} {f : Int → Int64} : am_MR (am_ws2 m id f) := h
-- the layout's own facts, by the kernel
def am_lok : Bool := (List.range am_N).all fun q => (am_layL.getD q (200, [])).1 < 105 && ((am_layL.getD q (200, [])).1 < 13 || 100 ≤ (am_layL.getD q (200, [])).1) && ((100 ≤ (am_layL.getD q (200, [])).1 && ((am_layL.getD q (200, [])).2.length == 1 || (am_layL.getD q (200, [])).1 == 104)) || ((am_layL.getD q (200, [])).2.length == (vwCl.getD (am_layL.getD q (200, [])).1 ("", fun _ => ("", "", "", false), 0)).2.2 && decide ((am_layL.getD q (200, [])).2.length ≤ 100) && (List.range (am_layL.getD q (200, [])).2.length).all fun k => let e := (am_layL.getD q (200, [])).2.getD k (9, 0); (e.1 == 2 && e.2 < am_N) || (e.1 < 4 && e.1 != 2 && e.2 == 1000 + 100 * q + k)))
theorem am_lok_true : am_lok = true := by decide +kernel
theorem am_N_len : am_layL.length = am_N := by decide +kernel
theorem am_lay_out {q : Nat} (h : am_N ≤ q) : am_lay q = (200, []) := by
  unfold am_lay
  rw [List.getD_eq_getElem?_getD, List.getElem?_eq_none (by rw [am_N_len]; exact h)]
  rfl
theorem am_lay_lt {q : Nat} (h : (am_lay q).1 < 200) : q < am_N := by
  rcases Nat.lt_or_ge q am_N with g | g
  · exact g
  · rw [am_lay_out g] at h
    exact absurd h (by decide)
theorem am_lokq {q : Nat} (hq : q < am_N) : ((am_lay q).1 < 105 ∧ ((am_lay q).1 < 13 ∨ 100 ≤ (am_lay q).1)) ∧ ((100 ≤ (am_lay q).1 ∧ ((am_lay q).2.length = 1 ∨ (am_lay q).1 = 104)) ∨ ((am_lay q).2.length = (vwCl.getD (am_lay q).1 ("", fun _ => ("", "", "", false), 0)).2.2 ∧ (am_lay q).2.length ≤ 100 ∧ ∀ k, k < (am_lay q).2.length → ((((am_lay q).2.getD k (9, 0)).1 = 2 ∧ ((am_lay q).2.getD k (9, 0)).2 < am_N) ∨ (((am_lay q).2.getD k (9, 0)).1 < 4 ∧ ((am_lay q).2.getD k (9, 0)).1 ≠ 2 ∧ ((am_lay q).2.getD k (9, 0)).2 = 1000 + 100 * q + k)))) := by
  have h := List.all_eq_true.mp am_lok_true q (List.mem_range.mpr hq)
  simp only [Bool.and_eq_true, Bool.or_eq_true, decide_eq_true_eq, beq_iff_eq, List.all_eq_true, List.mem_range, bne_iff_ne, ne_eq] at h
  obtain ⟨⟨h1, h2⟩, h3⟩ := h
  refine ⟨⟨h1, h2⟩, ?_⟩
  rcases h3 with h3 | ⟨⟨h3, h4⟩, h5⟩
  · exact Or.inl h3
  · refine Or.inr ⟨h3, h4, fun k hk => ?_⟩
    rcases h5 k hk with h6 | ⟨⟨h6, h7⟩, h8⟩
    · exact Or.inl h6
    · exact Or.inr ⟨h6, h7, h8⟩
theorem am_ws_get (E : am_E) (m : am_M) {q : Nat} (h : q < am_N) : (am_ws E m)[q]? = some (am_ad E q, am_cell E m q) := by
  unfold am_ws
  rw [List.getElem?_map, List.getElem?_range h]
  rfl
theorem am_ws_len (E : am_E) (m : am_M) : (am_ws E m).length = am_N := by simp [am_ws]
theorem am_ws_set (E : am_E) {m m' : am_M} {q : Nat} (ho : ∀ q', q' < am_N → q' ≠ q → am_cell E m' q' = am_cell E m q') : (am_ws E m).set q (am_ad E q, am_cell E m' q) = am_ws E m' := by
  refine List.ext_getElem? fun k => ?_
  rw [List.getElem?_set]
  by_cases hk : k < am_N
  · rw [am_ws_get E m hk, am_ws_get E m' hk]
    by_cases hq : q = k
    · subst hq
      rw [if_pos rfl, if_pos (by rw [am_ws_len]; exact hk)]
    · rw [if_neg hq, ho k hk (Ne.symm hq)]
  · have h1 : (am_ws E m)[k]? = none := List.getElem?_eq_none (by rw [am_ws_len]; omega)
    have h2 : (am_ws E m')[k]? = none := List.getElem?_eq_none (by rw [am_ws_len]; omega)
    rw [h1, h2]
    split
    · rw [if_neg (by rw [am_ws_len]; omega)]
    · rfl
/-- what a write of a row leaves of the other cells -/
theorem am_cell_arr {E : am_E} {m m' : am_M} {q : Nat} (hq : q < 1000) (h1 : ∀ i, i ≠ q → m'.1 i = m.1 i) (h2 : ∀ i, i ≠ q → m'.2 i = m.2 i) : ∀ q', q' < am_N → q' ≠ q → am_cell E m' q' = am_cell E m q' := by
  intro q' hN hne
  unfold am_cell
  split
  · rename_i hk
    congr 2
    refine List.map_congr_left fun e he => ?_
    obtain ⟨k, hk2⟩ := List.getElem?_of_mem he
    have hkl : k < (am_lay q').2.length := (List.getElem?_eq_some_iff.mp hk2).1
    have he2 : (am_lay q').2.getD k (9, 0) = e := by rw [List.getD_eq_getElem?_getD, hk2]; rfl
    rcases (am_lokq hN).2 with ⟨h, -⟩ | ⟨-, -, h⟩
    · omega
    · have h := h k hkl
      rw [he2] at h
      unfold am_fv
      rcases h with ⟨h3, -⟩ | ⟨h3, h4, h5⟩
      · simp only [h3]
      · rw [h1 e.2 (by omega), h2 e.2 (by omega)]
  · split
    · rw [h2 q' hne]
    · split
      · rfl
      · rw [h1 q' hne]
/-- what a write of a field leaves of the other cells -/
theorem am_cell_fld {E : am_E} {m m' : am_M} {q k : Nat} (hN0 : q < am_N) (hk : k < 100) (h1 : ∀ i, i ≠ 1000 + 100 * q + k → m'.1 i = m.1 i) (h2 : ∀ i, i ≠ 1000 + 100 * q + k → m'.2 i = m.2 i) : ∀ q', q' < am_N → q' ≠ q → am_cell E m' q' = am_cell E m q' := by
  intro q' hN hne
  have hNN : am_N < 1000 := by decide
  unfold am_cell
  split
  · rename_i hk
    congr 2
    refine List.map_congr_left fun e he => ?_
    obtain ⟨k', hk2⟩ := List.getElem?_of_mem he
    have hkl : k' < (am_lay q').2.length := (List.getElem?_eq_some_iff.mp hk2).1
    have he2 : (am_lay q').2.getD k' (9, 0) = e := by rw [List.getD_eq_getElem?_getD, hk2]; rfl
    rcases (am_lokq hN).2 with ⟨h, -⟩ | ⟨-, h100, h⟩
    · omega
    · have h := h k' hkl
      rw [he2] at h
      unfold am_fv
      rcases h with ⟨h3, -⟩ | ⟨h3, h4, h5⟩
      · simp only [h3]
      · rw [h1 e.2 (by omega), h2 e.2 (by omega)]
  · split
    · rw [h2 q' (by omega)]
    · split
      · rfl
      · rw [h1 q' (by omega)]
theorem am_D_any {E : am_E} {A : Nat → Prop} {m m' : am_M} (h : va_D A (am_ws E m)) : va_D A (am_ws E m') := by
  have key : ∀ (k : Nat) (x : Nat × va_E), (am_ws E m')[k]? = some x → (am_ws E m)[k]? = some (x.1, am_cell E m k) := by
    intro k x hx
    have hk : k < am_N := by
      have := (List.getElem?_eq_some_iff.mp hx).1
      rwa [am_ws_len] at this
    rw [am_ws_get E m' hk] at hx
    cases hx
    exact am_ws_get E m hk
  exact ⟨fun i j x z hi hj hxy => h.1 i j (x.1, am_cell E m i) (z.1, am_cell E m j) (key i x hi) (key j z hj) hxy, fun k x hk => h.2 k (x.1, am_cell E m k) (key k x hk)⟩
end
section
section
variable {p : Program} {l : Launch} {e : Env} {R : Room} {s : State} {mm : MethodId} {args : Array Value} {below : List Frame} {meth : Method} {c : Code} {cells slots : Nat} {Q : State → Prop} {E : am_E} {A : Nat → Prop} {y d : Nat} {P : am_V → am_M → Prop}
  {pc : Nat} {lv : am_L} {r st : List am_V} {m : am_M}
theorem am_lvget : ∀ {lv : am_L} {k : Nat} {v : am_V}, am_get lv k = some v → (k, v) ∈ lv
  | [], _, _, h => by cases h
  | (j, w) :: r, k, v, h => by
    unfold am_get at h
    cases hb : Nat.beq j k with
    | true =>
      rw [hb] at h
      cases h
      have := Nat.eq_of_beq_eq_true hb
      subst this
      exact List.mem_cons_self
    | false =>
      rw [hb] at h
      exact List.mem_cons_of_mem _ (am_lvget h)
theorem am_lvat {ls : Array Slot} {n k : Nat} {v : am_V} (hl : lv_has ls n (lv.map fun q => (q.1, am_cv E q.2))) (h : am_get lv k = some v) : ls[k]? = some (.val (am_cv E v)) :=
  hl.2.2 (k, am_cv E v) (List.mem_map.mpr ⟨(k, v), am_lvget h, rfl⟩)
theorem am_mem_ins {k : Nat} {v : am_V} : ∀ {lv : am_L} {x : Nat × am_V}, x ∈ am_ins k v lv → x = (k, v) ∨ x ∈ lv
  | [], x, h => by
    unfold am_ins at h
    exact Or.inl (List.mem_singleton.mp h)
  | (j, w) :: r, x, h => by
    unfold am_ins at h
    split at h
    · rcases List.mem_cons.mp h with h | h
      · exact Or.inl h
      · exact Or.inr h
    · rcases List.mem_cons.mp h with h | h
      · exact Or.inr (h ▸ List.mem_cons_self)
      · rcases am_mem_ins h with h | h
        · exact Or.inl h
        · exact Or.inr (List.mem_cons_of_mem _ h)
theorem am_mem_del {i : Nat} : ∀ {lv : am_L} {x : Nat × am_V}, x ∈ am_del lv i → x ∈ lv ∧ x.1 ≠ i ∧ ¬ (x.1 + 1 = i ∧ am_lng x.2 = true)
  | [], x, h => by unfold am_del at h; cases h
  | (j, w) :: r, x, h => by
    unfold am_del at h
    split at h
    · have := am_mem_del h
      exact ⟨List.mem_cons_of_mem _ this.1, this.2⟩
    · rename_i hb
      rcases List.mem_cons.mp h with h | h
      · subst h
        simp only [Bool.or_eq_false_iff, Bool.and_eq_false_iff] at hb
        refine ⟨List.mem_cons_self, fun hh => ?_, fun hh => ?_⟩
        · have := Nat.ne_of_beq_eq_false hb.1
          exact this hh
        · rcases hb.2 with h2 | h2
          · exact Nat.ne_of_beq_eq_false h2 hh.1
          · rw [hh.2] at h2
            cases h2
      · have := am_mem_del h
        exact ⟨List.mem_cons_of_mem _ this.1, this.2⟩
theorem am_cat_cv (v : am_V) : (am_cv E v).category = if am_lng v = true then 2 else 1 := by
  rcases v with z | z | z <;> rfl
/-- the locals behind a store -/
theorem am_lvset1 {ls : Array Slot} {n k : Nat} {v : am_V} (hv : am_lng v = false) (h : lv_has ls n ((k, am_cv E v) :: (lv.map fun q => (q.1, am_cv E q.2)).filter (fun q => !(q.1 == k) && !(q.1 + 1 == k && q.2.category == 2)))) : lv_has ls n ((am_set lv k v).map fun q => (q.1, am_cv E q.2)) := by
  refine ⟨h.1, h.2.1, fun q hq => ?_⟩
  obtain ⟨x, hx, rfl⟩ := List.mem_map.mp hq
  unfold am_set at hx
  rw [hv] at hx
  rcases am_mem_ins hx with rfl | hx
  · exact h.2.2 _ List.mem_cons_self
  · obtain ⟨h1, h2, h3⟩ := am_mem_del hx
    refine h.2.2 _ (List.mem_cons_of_mem _ (List.mem_filter.mpr ⟨List.mem_map.mpr ⟨x, h1, rfl⟩, ?_⟩))
    have h5 : (am_cv E x.2).category = if am_lng x.2 = true then 2 else 1 := am_cat_cv x.2
    simp only [Bool.and_eq_true, Bool.not_eq_true', beq_eq_false_iff_ne, ne_eq, Bool.and_eq_false_iff]
    refine ⟨h2, ?_⟩
    by_cases h4 : x.1 + 1 = k
    · right
      rw [h5, if_neg (fun hh => h3 ⟨h4, hh⟩)]
      decide
    · exact Or.inl h4
theorem am_lvset2 {ls : Array Slot} {n k : Nat} {v : am_V} (hv : am_lng v = true) (h : lv_has ls n ((k, am_cv E v) :: (lv.map fun q => (q.1, am_cv E q.2)).filter (fun q => !(q.1 == k) && (!(q.1 == k + 1) && !(q.1 + 1 == k && q.2.category == 2))))) : lv_has ls n ((am_set lv k v).map fun q => (q.1, am_cv E q.2)) := by
  refine ⟨h.1, h.2.1, fun q hq => ?_⟩
  obtain ⟨x, hx, rfl⟩ := List.mem_map.mp hq
  unfold am_set at hx
  rw [hv] at hx
  rcases am_mem_ins hx with rfl | hx
  · exact h.2.2 _ List.mem_cons_self
  · obtain ⟨h1, h2, h3⟩ := am_mem_del hx
    obtain ⟨h1, h2', -⟩ := am_mem_del h1
    refine h.2.2 _ (List.mem_cons_of_mem _ (List.mem_filter.mpr ⟨List.mem_map.mpr ⟨x, h1, rfl⟩, ?_⟩))
    have h5 : (am_cv E x.2).category = if am_lng x.2 = true then 2 else 1 := am_cat_cv x.2
    simp only [Bool.and_eq_true, Bool.not_eq_true', beq_eq_false_iff_ne, ne_eq, Bool.and_eq_false_iff]
    refine ⟨h2, h2', ?_⟩
    by_cases h4 : x.1 + 1 = k
    · right
      rw [h5, if_neg (fun hh => h3 ⟨h4, hh⟩)]
      decide
    · exact Or.inl h4
theorem am_vok_set {k : Nat} {v : am_V} (h : ∀ q ∈ lv, am_vok q.2) (hv : am_vok v) : ∀ q ∈ am_set lv k v, am_vok q.2 := by
  intro q hq
  unfold am_set at hq
  split at hq
  · rcases am_mem_ins hq with rfl | hq
    · exact hv
    · exact h q (am_mem_del (am_mem_del hq).1).1
  · rcases am_mem_ins hq with rfl | hq
    · exact hv
    · exact h q (am_mem_del hq).1
theorem am_vc {v : am_V} {st : List am_V} (hv : am_vok v) (h : ∀ v ∈ st, am_vok v) : ∀ x ∈ v :: st, am_vok x := fun x hx => by
  rcases List.mem_cons.mp hx with rfl | hx
  · exact hv
  · exact h x hx
theorem am_vt {v : am_V} {st : List am_V} (h : ∀ x ∈ v :: st, am_vok x) : ∀ x ∈ st, am_vok x := fun x hx => h x (List.mem_cons_of_mem _ hx)
theorem am_vh {v : am_V} {st : List am_V} (h : ∀ x ∈ v :: st, am_vok x) : am_vok v := h v List.mem_cons_self
theorem s_iconst (C : am_Cx p l e R s mm args below meth c cells slots Q E A y d P) {n : Int} {z : Int} (hz : Int32.ofInt n = Int32.ofInt z) (hr : am_R z) (hd : decode (am_mi y).2.1 pc = .ok (.iconst n, 1)) (k : am_at p l e R s mm args below meth c cells slots Q E A y (pc + 1) lv (.inl z :: st) m) : am_at p l e R s mm args below meth c cells slots Q E A y (pc) lv (st) m := by
  obtain ⟨hx, hb, hml, hown, hts, hfr, hlo, hce, hsl, hRO, hK, hret⟩ := id C
  intro H locs ls hW hS hl hv hst
  exact lv_iconst hx hb hd hz (k H locs ls hW hS hl hv (am_vc hr hst))
theorem s_bipush (C : am_Cx p l e R s mm args below meth c cells slots Q E A y d P) {n : Int} {z : Int} (hz : (Int8.ofInt n).toInt32 = Int32.ofInt z) (hr : am_R z) (hd : decode (am_mi y).2.1 pc = .ok (.bipush n, 2)) (k : am_at p l e R s mm args below meth c cells slots Q E A y (pc + 2) lv (.inl z :: st) m) : am_at p l e R s mm args below meth c cells slots Q E A y (pc) lv (st) m := by
  obtain ⟨hx, hb, hml, hown, hts, hfr, hlo, hce, hsl, hRO, hK, hret⟩ := id C
  intro H locs ls hW hS hl hv hst
  exact lv_bipush hx hb hd hz (k H locs ls hW hS hl hv (am_vc hr hst))
theorem s_sipush (C : am_Cx p l e R s mm args below meth c cells slots Q E A y d P) {n : Int} {z : Int} (hz : (Int16.ofInt n).toInt32 = Int32.ofInt z) (hr : am_R z) (hd : decode (am_mi y).2.1 pc = .ok (.sipush n, 3)) (k : am_at p l e R s mm args below meth c cells slots Q E A y (pc + 3) lv (.inl z :: st) m) : am_at p l e R s mm args below meth c cells slots Q E A y (pc) lv (st) m := by
  obtain ⟨hx, hb, hml, hown, hts, hfr, hlo, hce, hsl, hRO, hK, hret⟩ := id C
  intro H locs ls hW hS hl hv hst
  exact lv_sipush hx hb hd hz (k H locs ls hW hS hl hv (am_vc hr hst))
theorem s_ldc (C : am_Cx p l e R s mm args below meth c cells slots Q E A y d P) {i : Nat} {z : Int} (hc : Cond.constant (am_cn.getD (am_mi y).2.2.2.2 "") i (Int32.ofInt z) ∈ am_big) (hr : am_R z) (hd : decode (am_mi y).2.1 pc = .ok (.ldc i, 2)) (k : am_at p l e R s mm args below meth c cells slots Q E A y (pc + 2) lv (.inl z :: st) m) : am_at p l e R s mm args below meth c cells slots Q E A y (pc) lv (st) m := by
  obtain ⟨hx, hb, hml, hown, hts, hfr, hlo, hce, hsl, hRO, hK, hret⟩ := id C
  intro H locs ls hW hS hl hv hst
  exact lv_ldc hx hb hown (hts _ hc) hd (k H locs ls hW hS hl hv (am_vc hr hst))
theorem s_ldcw (C : am_Cx p l e R s mm args below meth c cells slots Q E A y d P) {i : Nat} {z : Int} (hc : Cond.constant (am_cn.getD (am_mi y).2.2.2.2 "") i (Int32.ofInt z) ∈ am_big) (hr : am_R z) (hd : decode (am_mi y).2.1 pc = .ok (.ldc_w i, 3)) (k : am_at p l e R s mm args below meth c cells slots Q E A y (pc + 3) lv (.inl z :: st) m) : am_at p l e R s mm args below meth c cells slots Q E A y (pc) lv (st) m := by
  obtain ⟨hx, hb, hml, hown, hts, hfr, hlo, hce, hsl, hRO, hK, hret⟩ := id C
  intro H locs ls hW hS hl hv hst
  exact lv_ldcw hx hb hown (hts _ hc) hd (k H locs ls hW hS hl hv (am_vc hr hst))
theorem s_lconst (C : am_Cx p l e R s mm args below meth c cells slots Q E A y d P) {n : Fin 2} (hd : decode (am_mi y).2.1 pc = .ok (.lconst n, 1)) (k : am_at p l e R s mm args below meth c cells slots Q E A y (pc + 1) lv (.inr (.inl (Int64.ofNat n.val)) :: st) m) : am_at p l e R s mm args below meth c cells slots Q E A y (pc) lv (st) m := by
  obtain ⟨hx, hb, hml, hown, hts, hfr, hlo, hce, hsl, hRO, hK, hret⟩ := id C
  intro H locs ls hW hS hl hv hst
  exact lv_lconst hx hb hd rfl (k H locs ls hW hS hl hv (am_vc trivial hst))
theorem s_ldc2 (C : am_Cx p l e R s mm args below meth c cells slots Q E A y d P) {i n : Nat} (hc : Cond.constantLong (am_cn.getD (am_mi y).2.2.2.2 "") i (Int64.ofNat n) ∈ am_big) (hd : decode (am_mi y).2.1 pc = .ok (.ldc2_w i, 3)) (k : am_at p l e R s mm args below meth c cells slots Q E A y (pc + 3) lv (.inr (.inl (Int64.ofNat n)) :: st) m) : am_at p l e R s mm args below meth c cells slots Q E A y (pc) lv (st) m := by
  obtain ⟨hx, hb, hml, hown, hts, hfr, hlo, hce, hsl, hRO, hK, hret⟩ := id C
  intro H locs ls hW hS hl hv hst
  exact lv_ldc2 hx hb hown (hts _ hc) hd (k H locs ls hW hS hl hv (am_vc trivial hst))
theorem s_ldcS (C : am_Cx p l e R s mm args below meth c cells slots Q E A y d P) {i n : Nat} (ho : am_cn.getD (am_mi y).2.2.2.2 "" = "TripleSieve$Reader") (hc : (i, n) ∈ am_sl.getD 6 []) (hd : decode (am_mi y).2.1 pc = .ok (.ldc i, 2)) (k : am_at p l e R s mm args below meth c cells slots Q E A y (pc + 2) lv (.inr (.inr n) :: st) m) : am_at p l e R s mm args below meth c cells slots Q E A y (pc) lv (st) m := by
  obtain ⟨hx, hb, hml, hown, hts, hfr, hlo, hce, hsl, hRO, hK, hret⟩ := id C
  intro H locs ls hW hS hl hv hst
  have hz := hRO.2.2.2.2.1 _ hc
  rw [ho] at hown
  exact va_ldcS hx hb hown hz hd (k H locs ls hW hS hl hv (am_vc trivial hst))
theorem s_iload (C : am_Cx p l e R s mm args below meth c cells slots Q E A y d P) {i : Nat} {z : Int} (hg : am_get lv i = some (.inl z)) (hd : decode (am_mi y).2.1 pc = .ok (.iload i, 2)) (k : am_at p l e R s mm args below meth c cells slots Q E A y (pc + 2) lv (.inl z :: st) m) : am_at p l e R s mm args below meth c cells slots Q E A y (pc) lv (st) m := by
  obtain ⟨hx, hb, hml, hown, hts, hfr, hlo, hce, hsl, hRO, hK, hret⟩ := id C
  intro H locs ls hW hS hl hv hst
  exact lv_iload hx hb hd (am_lvat hl hg) (k H locs ls hW hS hl hv (am_vc (hv _ (am_lvget hg)) hst))
theorem s_iloadn (C : am_Cx p l e R s mm args below meth c cells slots Q E A y d P) {n : Fin 4} {i : Nat} (hi : (n : Nat) = i) {z : Int} (hg : am_get lv i = some (.inl z)) (hd : decode (am_mi y).2.1 pc = .ok (.iload_n n, 1)) (k : am_at p l e R s mm args below meth c cells slots Q E A y (pc + 1) lv (.inl z :: st) m) : am_at p l e R s mm args below meth c cells slots Q E A y (pc) lv (st) m := by
  obtain ⟨hx, hb, hml, hown, hts, hfr, hlo, hce, hsl, hRO, hK, hret⟩ := id C
  intro H locs ls hW hS hl hv hst
  exact lv_iload_n hx hb hd hi (am_lvat hl hg) (k H locs ls hW hS hl hv (am_vc (hv _ (am_lvget hg)) hst))
theorem s_lload (C : am_Cx p l e R s mm args below meth c cells slots Q E A y d P) {i : Nat} {z : Int64} (hg : am_get lv i = some (.inr (.inl z))) (hd : decode (am_mi y).2.1 pc = .ok (.lload i, 2)) (k : am_at p l e R s mm args below meth c cells slots Q E A y (pc + 2) lv (.inr (.inl z) :: st) m) : am_at p l e R s mm args below meth c cells slots Q E A y (pc) lv (st) m := by
  obtain ⟨hx, hb, hml, hown, hts, hfr, hlo, hce, hsl, hRO, hK, hret⟩ := id C
  intro H locs ls hW hS hl hv hst
  exact lv_lload hx hb hd (am_lvat hl hg) (k H locs ls hW hS hl hv (am_vc trivial hst))
theorem s_lloadn (C : am_Cx p l e R s mm args below meth c cells slots Q E A y d P) {n : Fin 4} {i : Nat} (hi : (n : Nat) = i) {z : Int64} (hg : am_get lv i = some (.inr (.inl z))) (hd : decode (am_mi y).2.1 pc = .ok (.lload_n n, 1)) (k : am_at p l e R s mm args below meth c cells slots Q E A y (pc + 1) lv (.inr (.inl z) :: st) m) : am_at p l e R s mm args below meth c cells slots Q E A y (pc) lv (st) m := by
  obtain ⟨hx, hb, hml, hown, hts, hfr, hlo, hce, hsl, hRO, hK, hret⟩ := id C
  intro H locs ls hW hS hl hv hst
  exact lv_lload_n hx hb hd hi (am_lvat hl hg) (k H locs ls hW hS hl hv (am_vc trivial hst))
theorem s_aload (C : am_Cx p l e R s mm args below meth c cells slots Q E A y d P) {i : Nat} {z : Nat} (hg : am_get lv i = some (.inr (.inr z))) (hd : decode (am_mi y).2.1 pc = .ok (.aload i, 2)) (k : am_at p l e R s mm args below meth c cells slots Q E A y (pc + 2) lv (.inr (.inr z) :: st) m) : am_at p l e R s mm args below meth c cells slots Q E A y (pc) lv (st) m := by
  obtain ⟨hx, hb, hml, hown, hts, hfr, hlo, hce, hsl, hRO, hK, hret⟩ := id C
  intro H locs ls hW hS hl hv hst
  exact lv_aload hx hb hd (am_lvat hl hg) (k H locs ls hW hS hl hv (am_vc trivial hst))
theorem s_aloadn (C : am_Cx p l e R s mm args below meth c cells slots Q E A y d P) {n : Fin 4} {i : Nat} (hi : (n : Nat) = i) {z : Nat} (hg : am_get lv i = some (.inr (.inr z))) (hd : decode (am_mi y).2.1 pc = .ok (.aload_n n, 1)) (k : am_at p l e R s mm args below meth c cells slots Q E A y (pc + 1) lv (.inr (.inr z) :: st) m) : am_at p l e R s mm args below meth c cells slots Q E A y (pc) lv (st) m := by
  obtain ⟨hx, hb, hml, hown, hts, hfr, hlo, hce, hsl, hRO, hK, hret⟩ := id C
  intro H locs ls hW hS hl hv hst
  exact lv_aload_n hx hb hd hi (am_lvat hl hg) (k H locs ls hW hS hl hv (am_vc trivial hst))
theorem s_istore (C : am_Cx p l e R s mm args below meth c cells slots Q E A y d P) {i : Nat} {z : Int} (hn : i < (am_mi y).2.2.1) (hd : decode (am_mi y).2.1 pc = .ok (.istore i, 2)) (k : am_at p l e R s mm args below meth c cells slots Q E A y (pc + 2) (am_set lv i (.inl z)) (st) m) : am_at p l e R s mm args below meth c cells slots Q E A y (pc) lv (.inl z :: st) m := by
  obtain ⟨hx, hb, hml, hown, hts, hfr, hlo, hce, hsl, hRO, hK, hret⟩ := id C
  intro H locs ls hW hS hl hv hst
  exact lv_istore hx hb hd hl hn rfl (fun ls2 hl2 => k H locs ls2 hW hS (am_lvset1 (v := .inl z) rfl hl2) (am_vok_set hv (am_vh hst)) (am_vt hst))
theorem s_istoren (C : am_Cx p l e R s mm args below meth c cells slots Q E A y d P) {n : Fin 4} {i : Nat} (hi : (n : Nat) = i) {z : Int} (hn : i < (am_mi y).2.2.1) (hd : decode (am_mi y).2.1 pc = .ok (.istore_n n, 1)) (k : am_at p l e R s mm args below meth c cells slots Q E A y (pc + 1) (am_set lv i (.inl z)) (st) m) : am_at p l e R s mm args below meth c cells slots Q E A y (pc) lv (.inl z :: st) m := by
  obtain ⟨hx, hb, hml, hown, hts, hfr, hlo, hce, hsl, hRO, hK, hret⟩ := id C
  intro H locs ls hW hS hl hv hst
  exact lv_istore_n hx hb hd hi hl hn rfl (fun ls2 hl2 => k H locs ls2 hW hS (am_lvset1 (v := .inl z) rfl hl2) (am_vok_set hv (am_vh hst)) (am_vt hst))
theorem s_lstore (C : am_Cx p l e R s mm args below meth c cells slots Q E A y d P) {i : Nat} {z : Int64} (hn : i + 1 < (am_mi y).2.2.1) (hd : decode (am_mi y).2.1 pc = .ok (.lstore i, 2)) (k : am_at p l e R s mm args below meth c cells slots Q E A y (pc + 2) (am_set lv i (.inr (.inl z))) (st) m) : am_at p l e R s mm args below meth c cells slots Q E A y (pc) lv (.inr (.inl z) :: st) m := by
  obtain ⟨hx, hb, hml, hown, hts, hfr, hlo, hce, hsl, hRO, hK, hret⟩ := id C
  intro H locs ls hW hS hl hv hst
  exact lv_lstore hx hb hd hl hn rfl (fun ls2 hl2 => k H locs ls2 hW hS (am_lvset2 (v := .inr (.inl z)) rfl hl2) (am_vok_set hv (am_vh hst)) (am_vt hst))
theorem s_lstoren (C : am_Cx p l e R s mm args below meth c cells slots Q E A y d P) {n : Fin 4} {i : Nat} (hi : (n : Nat) = i) {z : Int64} (hn : i + 1 < (am_mi y).2.2.1) (hd : decode (am_mi y).2.1 pc = .ok (.lstore_n n, 1)) (k : am_at p l e R s mm args below meth c cells slots Q E A y (pc + 1) (am_set lv i (.inr (.inl z))) (st) m) : am_at p l e R s mm args below meth c cells slots Q E A y (pc) lv (.inr (.inl z) :: st) m := by
  obtain ⟨hx, hb, hml, hown, hts, hfr, hlo, hce, hsl, hRO, hK, hret⟩ := id C
  intro H locs ls hW hS hl hv hst
  exact lv_lstore_n hx hb hd hi hl hn rfl (fun ls2 hl2 => k H locs ls2 hW hS (am_lvset2 (v := .inr (.inl z)) rfl hl2) (am_vok_set hv (am_vh hst)) (am_vt hst))
theorem s_astore (C : am_Cx p l e R s mm args below meth c cells slots Q E A y d P) {i : Nat} {z : Nat} (hn : i < (am_mi y).2.2.1) (hd : decode (am_mi y).2.1 pc = .ok (.astore i, 2)) (k : am_at p l e R s mm args below meth c cells slots Q E A y (pc + 2) (am_set lv i (.inr (.inr z))) (st) m) : am_at p l e R s mm args below meth c cells slots Q E A y (pc) lv (.inr (.inr z) :: st) m := by
  obtain ⟨hx, hb, hml, hown, hts, hfr, hlo, hce, hsl, hRO, hK, hret⟩ := id C
  intro H locs ls hW hS hl hv hst
  exact lv_astore hx hb hd hl hn rfl (fun ls2 hl2 => k H locs ls2 hW hS (am_lvset1 (v := .inr (.inr z)) rfl hl2) (am_vok_set hv (am_vh hst)) (am_vt hst))
theorem s_astoren (C : am_Cx p l e R s mm args below meth c cells slots Q E A y d P) {n : Fin 4} {i : Nat} (hi : (n : Nat) = i) {z : Nat} (hn : i < (am_mi y).2.2.1) (hd : decode (am_mi y).2.1 pc = .ok (.astore_n n, 1)) (k : am_at p l e R s mm args below meth c cells slots Q E A y (pc + 1) (am_set lv i (.inr (.inr z))) (st) m) : am_at p l e R s mm args below meth c cells slots Q E A y (pc) lv (.inr (.inr z) :: st) m := by
  obtain ⟨hx, hb, hml, hown, hts, hfr, hlo, hce, hsl, hRO, hK, hret⟩ := id C
  intro H locs ls hW hS hl hv hst
  exact lv_astore_n hx hb hd hi hl hn rfl (fun ls2 hl2 => k H locs ls2 hW hS (am_lvset1 (v := .inr (.inr z)) rfl hl2) (am_vok_set hv (am_vh hst)) (am_vt hst))
theorem s_iinc (C : am_Cx p l e R s mm args below meth c cells slots Q E A y d P) {i : Nat} {n z : Int} (hg : am_get lv i = some (.inl z)) (hn : i < (am_mi y).2.2.1) (hr : am_R (z + n)) (hd : decode (am_mi y).2.1 pc = .ok (.iinc i n, 3)) (k : am_at p l e R s mm args below meth c cells slots Q E A y (pc + 3) (am_set lv i (.inl (z + n))) (st) m) : am_at p l e R s mm args below meth c cells slots Q E A y (pc) lv (st) m := by
  obtain ⟨hx, hb, hml, hown, hts, hfr, hlo, hce, hsl, hRO, hK, hret⟩ := id C
  intro H locs ls hW hS hl hv hst
  obtain ⟨j, hj⟩ := List.getElem?_of_mem (List.mem_map.mpr ⟨(i, .inl z), am_lvget hg, rfl⟩ : (i, am_cv E (.inl z)) ∈ lv.map fun q => (q.1, am_cv E q.2))
  exact lv_iinc hx hb hd hl hj (v := Int32.ofInt (z + n)) (by rw [Int32.ofInt_add]) hn rfl (fun ls2 hl2 => k H locs ls2 hW hS (am_lvset1 (v := .inl (z + n)) rfl hl2) (am_vok_set hv hr) hst)
theorem s_iadd (C : am_Cx p l e R s mm args below meth c cells slots Q E A y d P) {a b : Int} (hr : am_R (a + b)) (hd : decode (am_mi y).2.1 pc = .ok (.iadd, 1)) (k : am_at p l e R s mm args below meth c cells slots Q E A y (pc + 1) lv (.inl (a + b) :: st) m) : am_at p l e R s mm args below meth c cells slots Q E A y (pc) lv (.inl b :: .inl a :: st) m := by
  obtain ⟨hx, hb, hml, hown, hts, hfr, hlo, hce, hsl, hRO, hK, hret⟩ := id C
  intro H locs ls hW hS hl hv hst
  have k := k H locs ls hW hS hl hv (am_vc hr (am_vt (am_vt hst)))
  simp only [List.map_cons, am_cv, Int32.ofInt_add] at k
  exact lv_iadd hx hb hd k
theorem s_isub (C : am_Cx p l e R s mm args below meth c cells slots Q E A y d P) {a b : Int} (hr : am_R (a - b)) (hd : decode (am_mi y).2.1 pc = .ok (.isub, 1)) (k : am_at p l e R s mm args below meth c cells slots Q E A y (pc + 1) lv (.inl (a - b) :: st) m) : am_at p l e R s mm args below meth c cells slots Q E A y (pc) lv (.inl b :: .inl a :: st) m := by
  obtain ⟨hx, hb, hml, hown, hts, hfr, hlo, hce, hsl, hRO, hK, hret⟩ := id C
  intro H locs ls hW hS hl hv hst
  have k := k H locs ls hW hS hl hv (am_vc hr (am_vt (am_vt hst)))
  simp only [List.map_cons, am_cv, Int32.ofInt_sub] at k
  exact lv_isub hx hb hd k
theorem s_imul (C : am_Cx p l e R s mm args below meth c cells slots Q E A y d P) {a b : Int} (hr : am_R (a * b)) (hd : decode (am_mi y).2.1 pc = .ok (.imul, 1)) (k : am_at p l e R s mm args below meth c cells slots Q E A y (pc + 1) lv (.inl (a * b) :: st) m) : am_at p l e R s mm args below meth c cells slots Q E A y (pc) lv (.inl b :: .inl a :: st) m := by
  obtain ⟨hx, hb, hml, hown, hts, hfr, hlo, hce, hsl, hRO, hK, hret⟩ := id C
  intro H locs ls hW hS hl hv hst
  have k := k H locs ls hW hS hl hv (am_vc hr (am_vt (am_vt hst)))
  simp only [List.map_cons, am_cv, Int32.ofInt_mul] at k
  exact lv_imul hx hb hd k
theorem s_iand (C : am_Cx p l e R s mm args below meth c cells slots Q E A y d P) {a b : Int} (hd : decode (am_mi y).2.1 pc = .ok (.iand, 1)) (k : am_at p l e R s mm args below meth c cells slots Q E A y (pc + 1) lv (.inl (am_and a b) :: st) m) : am_at p l e R s mm args below meth c cells slots Q E A y (pc) lv (.inl b :: .inl a :: st) m := by
  obtain ⟨hx, hb, hml, hown, hts, hfr, hlo, hce, hsl, hRO, hK, hret⟩ := id C
  intro H locs ls hW hS hl hv hst
  have k := k H locs ls hW hS hl hv (am_vc (am_RT _) (am_vt (am_vt hst)))
  simp only [List.map_cons, am_cv, am_and, am_of] at k
  exact lv_iand hx hb hd k
theorem s_ior (C : am_Cx p l e R s mm args below meth c cells slots Q E A y d P) {a b : Int} (hd : decode (am_mi y).2.1 pc = .ok (.ior, 1)) (k : am_at p l e R s mm args below meth c cells slots Q E A y (pc + 1) lv (.inl (am_or a b) :: st) m) : am_at p l e R s mm args below meth c cells slots Q E A y (pc) lv (.inl b :: .inl a :: st) m := by
  obtain ⟨hx, hb, hml, hown, hts, hfr, hlo, hce, hsl, hRO, hK, hret⟩ := id C
  intro H locs ls hW hS hl hv hst
  have k := k H locs ls hW hS hl hv (am_vc (am_RT _) (am_vt (am_vt hst)))
  simp only [List.map_cons, am_cv, am_or, am_of] at k
  exact lv_ior hx hb hd k
theorem s_ixor (C : am_Cx p l e R s mm args below meth c cells slots Q E A y d P) {a b : Int} (hd : decode (am_mi y).2.1 pc = .ok (.ixor, 1)) (k : am_at p l e R s mm args below meth c cells slots Q E A y (pc + 1) lv (.inl (am_xor a b) :: st) m) : am_at p l e R s mm args below meth c cells slots Q E A y (pc) lv (.inl b :: .inl a :: st) m := by
  obtain ⟨hx, hb, hml, hown, hts, hfr, hlo, hce, hsl, hRO, hK, hret⟩ := id C
  intro H locs ls hW hS hl hv hst
  have k := k H locs ls hW hS hl hv (am_vc (am_RT _) (am_vt (am_vt hst)))
  simp only [List.map_cons, am_cv, am_xor, am_of] at k
  exact lv_ixor hx hb hd k
theorem s_ishl (C : am_Cx p l e R s mm args below meth c cells slots Q E A y d P) {a b : Int} (hd : decode (am_mi y).2.1 pc = .ok (.ishl, 1)) (k : am_at p l e R s mm args below meth c cells slots Q E A y (pc + 1) lv (.inl (am_shl a b) :: st) m) : am_at p l e R s mm args below meth c cells slots Q E A y (pc) lv (.inl b :: .inl a :: st) m := by
  obtain ⟨hx, hb, hml, hown, hts, hfr, hlo, hce, hsl, hRO, hK, hret⟩ := id C
  intro H locs ls hW hS hl hv hst
  have k := k H locs ls hW hS hl hv (am_vc (am_RT _) (am_vt (am_vt hst)))
  simp only [List.map_cons, am_cv, am_shl, am_of] at k
  exact lv_ishl hx hb hd k
theorem s_ishr (C : am_Cx p l e R s mm args below meth c cells slots Q E A y d P) {a b : Int} (hd : decode (am_mi y).2.1 pc = .ok (.ishr, 1)) (k : am_at p l e R s mm args below meth c cells slots Q E A y (pc + 1) lv (.inl (am_shr a b) :: st) m) : am_at p l e R s mm args below meth c cells slots Q E A y (pc) lv (.inl b :: .inl a :: st) m := by
  obtain ⟨hx, hb, hml, hown, hts, hfr, hlo, hce, hsl, hRO, hK, hret⟩ := id C
  intro H locs ls hW hS hl hv hst
  have k := k H locs ls hW hS hl hv (am_vc (am_RT _) (am_vt (am_vt hst)))
  simp only [List.map_cons, am_cv, am_shr, am_of] at k
  exact lv_ishr hx hb hd k
theorem s_iushr (C : am_Cx p l e R s mm args below meth c cells slots Q E A y d P) {a b : Int} (hd : decode (am_mi y).2.1 pc = .ok (.iushr, 1)) (k : am_at p l e R s mm args below meth c cells slots Q E A y (pc + 1) lv (.inl (am_ushr a b) :: st) m) : am_at p l e R s mm args below meth c cells slots Q E A y (pc) lv (.inl b :: .inl a :: st) m := by
  obtain ⟨hx, hb, hml, hown, hts, hfr, hlo, hce, hsl, hRO, hK, hret⟩ := id C
  intro H locs ls hW hS hl hv hst
  have k := k H locs ls hW hS hl hv (am_vc (am_RT _) (am_vt (am_vt hst)))
  simp only [List.map_cons, am_cv, am_ushr, am_of] at k
  exact lv_iushr hx hb hd rfl k
theorem s_idiv (C : am_Cx p l e R s mm args below meth c cells slots Q E A y d P) {a b : Int} (ha : 0 ≤ a) (hb0 : 0 < b) (hd : decode (am_mi y).2.1 pc = .ok (.idiv, 1)) (k : am_at p l e R s mm args below meth c cells slots Q E A y (pc + 1) lv (.inl (a / b) :: st) m) : am_at p l e R s mm args below meth c cells slots Q E A y (pc) lv (.inl b :: .inl a :: st) m := by
  obtain ⟨hx, hb, hml, hown, hts, hfr, hlo, hce, hsl, hRO, hK, hret⟩ := id C
  intro H locs ls hW hS hl hv hst
  have ra : am_R a := am_vh (am_vt hst)
  have rb : am_R b := am_vh hst
  have hq : 0 ≤ a / b := Int.ediv_nonneg ha (by omega)
  have hq2 : a / b ≤ a := Int.ediv_le_self b ha
  have e1 : Int32.ofInt (a / b) = Int32.ofInt a / Int32.ofInt b := by
    rw [← Int.tdiv_eq_ediv_of_nonneg ha]
    exact Int32.ofInt_tdiv (by rw [am_R_min]; exact ra.1) (by rw [am_R_max]; exact ra.2) (by rw [am_R_min]; exact rb.1) (by rw [am_R_max]; exact rb.2)
  have k := k H locs ls hW hS hl hv (am_vc (v := .inl (a / b)) ⟨by omega, by have := ra.2; omega⟩ (am_vt (am_vt hst)))
  simp only [List.map_cons, am_cv, e1] at k
  exact lv_idiv hx hb hd (fun h => by have := (am_eqI rb am_R0).mp h; omega) k
theorem s_irem (C : am_Cx p l e R s mm args below meth c cells slots Q E A y d P) {a b : Int} (ha : 0 ≤ a) (hb0 : 0 < b) (hd : decode (am_mi y).2.1 pc = .ok (.irem, 1)) (k : am_at p l e R s mm args below meth c cells slots Q E A y (pc + 1) lv (.inl (a % b) :: st) m) : am_at p l e R s mm args below meth c cells slots Q E A y (pc) lv (.inl b :: .inl a :: st) m := by
  obtain ⟨hx, hb, hml, hown, hts, hfr, hlo, hce, hsl, hRO, hK, hret⟩ := id C
  intro H locs ls hW hS hl hv hst
  have ra : am_R a := am_vh (am_vt hst)
  have rb : am_R b := am_vh hst
  have e0 : Int32.ofInt (a / b) = Int32.ofInt a / Int32.ofInt b := by
    rw [← Int.tdiv_eq_ediv_of_nonneg ha]
    exact Int32.ofInt_tdiv (by rw [am_R_min]; exact ra.1) (by rw [am_R_max]; exact ra.2) (by rw [am_R_min]; exact rb.1) (by rw [am_R_max]; exact rb.2)
  have e1 : Int32.ofInt (a % b) = Int32.ofInt a - Int32.ofInt a / Int32.ofInt b * Int32.ofInt b := by
    rw [← e0, ← Int32.ofInt_mul, ← Int32.ofInt_sub]
    congr 1
    rw [Int.mul_comm, Int.emod_def]
  have h1 : 0 ≤ a % b := Int.emod_nonneg a (by omega)
  have h2 : a % b < b := Int.emod_lt_of_pos a hb0
  have k := k H locs ls hW hS hl hv (am_vc (v := .inl (a % b)) ⟨by omega, by have := rb.2; omega⟩ (am_vt (am_vt hst)))
  simp only [List.map_cons, am_cv, e1] at k
  exact lv_irem hx hb hd (fun h => by have := (am_eqI rb am_R0).mp h; omega) k
theorem s_i2b (C : am_Cx p l e R s mm args below meth c cells slots Q E A y d P) {a : Int} (hd : decode (am_mi y).2.1 pc = .ok (.i2b, 1)) (k : am_at p l e R s mm args below meth c cells slots Q E A y (pc + 1) lv (.inl (am_i2b a) :: st) m) : am_at p l e R s mm args below meth c cells slots Q E A y (pc) lv (.inl a :: st) m := by
  obtain ⟨hx, hb, hml, hown, hts, hfr, hlo, hce, hsl, hRO, hK, hret⟩ := id C
  intro H locs ls hW hS hl hv hst
  have k := k H locs ls hW hS hl hv (am_vc (am_RT _) (am_vt hst))
  simp only [List.map_cons, am_cv, am_i2b, am_of] at k
  exact lv_i2b hx hb hd rfl k
theorem s_i2l (C : am_Cx p l e R s mm args below meth c cells slots Q E A y d P) {a : Int} (hd : decode (am_mi y).2.1 pc = .ok (.i2l, 1)) (k : am_at p l e R s mm args below meth c cells slots Q E A y (pc + 1) lv (.inr (.inl (am_i2l a)) :: st) m) : am_at p l e R s mm args below meth c cells slots Q E A y (pc) lv (.inl a :: st) m := by
  obtain ⟨hx, hb, hml, hown, hts, hfr, hlo, hce, hsl, hRO, hK, hret⟩ := id C
  intro H locs ls hW hS hl hv hst
  exact lv_i2l hx hb hd rfl (k H locs ls hW hS hl hv (am_vc trivial (am_vt hst)))
theorem s_l2i (C : am_Cx p l e R s mm args below meth c cells slots Q E A y d P) {a : Int64} (hd : decode (am_mi y).2.1 pc = .ok (.l2i, 1)) (k : am_at p l e R s mm args below meth c cells slots Q E A y (pc + 1) lv (.inl (am_l2i a) :: st) m) : am_at p l e R s mm args below meth c cells slots Q E A y (pc) lv (.inr (.inl a) :: st) m := by
  obtain ⟨hx, hb, hml, hown, hts, hfr, hlo, hce, hsl, hRO, hK, hret⟩ := id C
  intro H locs ls hW hS hl hv hst
  have k := k H locs ls hW hS hl hv (am_vc (am_RT _) (am_vt hst))
  simp only [List.map_cons, am_cv, am_l2i, am_of] at k
  exact lv_l2i hx hb hd rfl k
theorem s_ladd (C : am_Cx p l e R s mm args below meth c cells slots Q E A y d P) {a b : Int64} (hd : decode (am_mi y).2.1 pc = .ok (.ladd, 1)) (k : am_at p l e R s mm args below meth c cells slots Q E A y (pc + 1) lv (.inr (.inl (a + b)) :: st) m) : am_at p l e R s mm args below meth c cells slots Q E A y (pc) lv (.inr (.inl b) :: .inr (.inl a) :: st) m := by
  obtain ⟨hx, hb, hml, hown, hts, hfr, hlo, hce, hsl, hRO, hK, hret⟩ := id C
  intro H locs ls hW hS hl hv hst
  exact lv_ladd hx hb hd (k H locs ls hW hS hl hv (am_vc trivial (am_vt (am_vt hst))))
theorem s_lsub (C : am_Cx p l e R s mm args below meth c cells slots Q E A y d P) {a b : Int64} (hd : decode (am_mi y).2.1 pc = .ok (.lsub, 1)) (k : am_at p l e R s mm args below meth c cells slots Q E A y (pc + 1) lv (.inr (.inl (a - b)) :: st) m) : am_at p l e R s mm args below meth c cells slots Q E A y (pc) lv (.inr (.inl b) :: .inr (.inl a) :: st) m := by
  obtain ⟨hx, hb, hml, hown, hts, hfr, hlo, hce, hsl, hRO, hK, hret⟩ := id C
  intro H locs ls hW hS hl hv hst
  exact lv_lsub hx hb hd (k H locs ls hW hS hl hv (am_vc trivial (am_vt (am_vt hst))))
theorem s_lmul (C : am_Cx p l e R s mm args below meth c cells slots Q E A y d P) {a b : Int64} (hd : decode (am_mi y).2.1 pc = .ok (.lmul, 1)) (k : am_at p l e R s mm args below meth c cells slots Q E A y (pc + 1) lv (.inr (.inl (a * b)) :: st) m) : am_at p l e R s mm args below meth c cells slots Q E A y (pc) lv (.inr (.inl b) :: .inr (.inl a) :: st) m := by
  obtain ⟨hx, hb, hml, hown, hts, hfr, hlo, hce, hsl, hRO, hK, hret⟩ := id C
  intro H locs ls hW hS hl hv hst
  exact lv_lmul hx hb hd (k H locs ls hW hS hl hv (am_vc trivial (am_vt (am_vt hst))))
theorem s_land (C : am_Cx p l e R s mm args below meth c cells slots Q E A y d P) {a b : Int64} (hd : decode (am_mi y).2.1 pc = .ok (.land, 1)) (k : am_at p l e R s mm args below meth c cells slots Q E A y (pc + 1) lv (.inr (.inl (a &&& b)) :: st) m) : am_at p l e R s mm args below meth c cells slots Q E A y (pc) lv (.inr (.inl b) :: .inr (.inl a) :: st) m := by
  obtain ⟨hx, hb, hml, hown, hts, hfr, hlo, hce, hsl, hRO, hK, hret⟩ := id C
  intro H locs ls hW hS hl hv hst
  exact lv_land hx hb hd (k H locs ls hW hS hl hv (am_vc trivial (am_vt (am_vt hst))))
theorem s_lor (C : am_Cx p l e R s mm args below meth c cells slots Q E A y d P) {a b : Int64} (hd : decode (am_mi y).2.1 pc = .ok (.lor, 1)) (k : am_at p l e R s mm args below meth c cells slots Q E A y (pc + 1) lv (.inr (.inl (a ||| b)) :: st) m) : am_at p l e R s mm args below meth c cells slots Q E A y (pc) lv (.inr (.inl b) :: .inr (.inl a) :: st) m := by
  obtain ⟨hx, hb, hml, hown, hts, hfr, hlo, hce, hsl, hRO, hK, hret⟩ := id C
  intro H locs ls hW hS hl hv hst
  exact lv_lor hx hb hd (k H locs ls hW hS hl hv (am_vc trivial (am_vt (am_vt hst))))
theorem s_lxor (C : am_Cx p l e R s mm args below meth c cells slots Q E A y d P) {a b : Int64} (hd : decode (am_mi y).2.1 pc = .ok (.lxor, 1)) (k : am_at p l e R s mm args below meth c cells slots Q E A y (pc + 1) lv (.inr (.inl (a ^^^ b)) :: st) m) : am_at p l e R s mm args below meth c cells slots Q E A y (pc) lv (.inr (.inl b) :: .inr (.inl a) :: st) m := by
  obtain ⟨hx, hb, hml, hown, hts, hfr, hlo, hce, hsl, hRO, hK, hret⟩ := id C
  intro H locs ls hW hS hl hv hst
  exact lv_lxor hx hb hd (k H locs ls hW hS hl hv (am_vc trivial (am_vt (am_vt hst))))
theorem s_lneg (C : am_Cx p l e R s mm args below meth c cells slots Q E A y d P) {a : Int64} (hd : decode (am_mi y).2.1 pc = .ok (.lneg, 1)) (k : am_at p l e R s mm args below meth c cells slots Q E A y (pc + 1) lv (.inr (.inl (-a)) :: st) m) : am_at p l e R s mm args below meth c cells slots Q E A y (pc) lv (.inr (.inl a) :: st) m := by
  obtain ⟨hx, hb, hml, hown, hts, hfr, hlo, hce, hsl, hRO, hK, hret⟩ := id C
  intro H locs ls hW hS hl hv hst
  exact lv_lneg hx hb hd (k H locs ls hW hS hl hv (am_vc trivial (am_vt hst)))
theorem s_lshl (C : am_Cx p l e R s mm args below meth c cells slots Q E A y d P) {a : Int64} {b : Int} (hd : decode (am_mi y).2.1 pc = .ok (.lshl, 1)) (k : am_at p l e R s mm args below meth c cells slots Q E A y (pc + 1) lv (.inr (.inl (am_lshl a b)) :: st) m) : am_at p l e R s mm args below meth c cells slots Q E A y (pc) lv (.inl b :: .inr (.inl a) :: st) m := by
  obtain ⟨hx, hb, hml, hown, hts, hfr, hlo, hce, hsl, hRO, hK, hret⟩ := id C
  intro H locs ls hW hS hl hv hst
  exact lv_lshl hx hb hd rfl (k H locs ls hW hS hl hv (am_vc trivial (am_vt (am_vt hst))))
theorem s_lshr (C : am_Cx p l e R s mm args below meth c cells slots Q E A y d P) {a : Int64} {b : Int} (hd : decode (am_mi y).2.1 pc = .ok (.lshr, 1)) (k : am_at p l e R s mm args below meth c cells slots Q E A y (pc + 1) lv (.inr (.inl (am_lshr a b)) :: st) m) : am_at p l e R s mm args below meth c cells slots Q E A y (pc) lv (.inl b :: .inr (.inl a) :: st) m := by
  obtain ⟨hx, hb, hml, hown, hts, hfr, hlo, hce, hsl, hRO, hK, hret⟩ := id C
  intro H locs ls hW hS hl hv hst
  exact lv_lshr hx hb hd rfl (k H locs ls hW hS hl hv (am_vc trivial (am_vt (am_vt hst))))
theorem s_lushr (C : am_Cx p l e R s mm args below meth c cells slots Q E A y d P) {a : Int64} {b : Int} (hd : decode (am_mi y).2.1 pc = .ok (.lushr, 1)) (k : am_at p l e R s mm args below meth c cells slots Q E A y (pc + 1) lv (.inr (.inl (am_lushr a b)) :: st) m) : am_at p l e R s mm args below meth c cells slots Q E A y (pc) lv (.inl b :: .inr (.inl a) :: st) m := by
  obtain ⟨hx, hb, hml, hown, hts, hfr, hlo, hce, hsl, hRO, hK, hret⟩ := id C
  intro H locs ls hW hS hl hv hst
  exact lv_lushr hx hb hd rfl (k H locs ls hW hS hl hv (am_vc trivial (am_vt (am_vt hst))))
theorem s_lcmp (C : am_Cx p l e R s mm args below meth c cells slots Q E A y d P) {a b : Int64} (hd : decode (am_mi y).2.1 pc = .ok (.lcmp, 1)) (k : am_at p l e R s mm args below meth c cells slots Q E A y (pc + 1) lv (.inl (am_lcmp a b) :: st) m) : am_at p l e R s mm args below meth c cells slots Q E A y (pc) lv (.inr (.inl b) :: .inr (.inl a) :: st) m := by
  obtain ⟨hx, hb, hml, hown, hts, hfr, hlo, hce, hsl, hRO, hK, hret⟩ := id C
  intro H locs ls hW hS hl hv hst
  have k := k H locs ls hW hS hl hv (am_vc (am_RT _) (am_vt (am_vt hst)))
  simp only [List.map_cons, am_cv, am_lcmp, am_of] at k
  exact W.lcmp hx hb hd k
theorem s_dup (C : am_Cx p l e R s mm args below meth c cells slots Q E A y d P) {v : am_V} (hv1 : am_lng v = false) (hd : decode (am_mi y).2.1 pc = .ok (.dup, 1)) (k : am_at p l e R s mm args below meth c cells slots Q E A y (pc + 1) lv (v :: v :: st) m) : am_at p l e R s mm args below meth c cells slots Q E A y (pc) lv (v :: st) m := by
  obtain ⟨hx, hb, hml, hown, hts, hfr, hlo, hce, hsl, hRO, hK, hret⟩ := id C
  intro H locs ls hW hS hl hv hst
  exact lv_dup hx hb hd (by rw [am_cat_cv, hv1]; rfl) (k H locs ls hW hS hl hv (am_vc (am_vh hst) hst))
theorem s_dup2l (C : am_Cx p l e R s mm args below meth c cells slots Q E A y d P) {v : am_V} (hv1 : am_lng v = true) (hd : decode (am_mi y).2.1 pc = .ok (.dup2, 1)) (k : am_at p l e R s mm args below meth c cells slots Q E A y (pc + 1) lv (v :: v :: st) m) : am_at p l e R s mm args below meth c cells slots Q E A y (pc) lv (v :: st) m := by
  obtain ⟨hx, hb, hml, hown, hts, hfr, hlo, hce, hsl, hRO, hK, hret⟩ := id C
  intro H locs ls hW hS hl hv hst
  exact lv_dup2_2 hx hb hd (by rw [am_cat_cv, hv1]; rfl) (k H locs ls hW hS hl hv (am_vc (am_vh hst) hst))
theorem s_dup2s (C : am_Cx p l e R s mm args below meth c cells slots Q E A y d P) {v w : am_V} (hv1 : am_lng v = false) (hw1 : am_lng w = false) (hd : decode (am_mi y).2.1 pc = .ok (.dup2, 1)) (k : am_at p l e R s mm args below meth c cells slots Q E A y (pc + 1) lv (v :: w :: v :: w :: st) m) : am_at p l e R s mm args below meth c cells slots Q E A y (pc) lv (v :: w :: st) m := by
  obtain ⟨hx, hb, hml, hown, hts, hfr, hlo, hce, hsl, hRO, hK, hret⟩ := id C
  intro H locs ls hW hS hl hv hst
  exact lv_dup2_11 hx hb hd (by rw [am_cat_cv, hv1]; rfl) (by rw [am_cat_cv, hw1]; rfl) (k H locs ls hW hS hl hv (am_vc (am_vh hst) (am_vc (am_vh (am_vt hst)) hst)))
theorem s_pop (C : am_Cx p l e R s mm args below meth c cells slots Q E A y d P) {v : am_V} (hv1 : am_lng v = false) (hd : decode (am_mi y).2.1 pc = .ok (.pop, 1)) (k : am_at p l e R s mm args below meth c cells slots Q E A y (pc + 1) lv (st) m) : am_at p l e R s mm args below meth c cells slots Q E A y (pc) lv (v :: st) m := by
  obtain ⟨hx, hb, hml, hown, hts, hfr, hlo, hce, hsl, hRO, hK, hret⟩ := id C
  intro H locs ls hW hS hl hv hst
  exact lv_pop hx hb hd (by rw [am_cat_cv, hv1]; rfl) (k H locs ls hW hS hl hv (am_vt hst))
theorem s_icmp_eq (C : am_Cx p l e R s mm args below meth c cells slots Q E A y d P) {a b : Int} {off : Int} {t : Nat} (ht : (pc : Int) + off = (t : Int)) (hd : decode (am_mi y).2.1 pc = .ok (.if_icmp .eq off, 3)) (k1 : am_cmp .eq a b → am_at p l e R s mm args below meth c cells slots Q E A y (t) lv (st) m) (k2 : ¬ am_cmp .eq a b → am_at p l e R s mm args below meth c cells slots Q E A y (pc + 3) lv (st) m) : am_at p l e R s mm args below meth c cells slots Q E A y (pc) lv (.inl b :: .inl a :: st) m := by
  obtain ⟨hx, hb, hml, hown, hts, hfr, hlo, hce, hsl, hRO, hK, hret⟩ := id C
  intro H locs ls hW hS hl hv hst
  have ra : am_R a := am_vh (am_vt hst)
  have rb : am_R b := am_vh hst
  exact lv_icmp_eq hx hb hd ht (fun h => k1 ((am_eqI ra rb).mp h) H locs ls hW hS hl hv (am_vt (am_vt hst))) (fun h => k2 (fun z => h ((am_eqI ra rb).mpr z)) H locs ls hW hS hl hv (am_vt (am_vt hst)))
theorem s_if_eq (C : am_Cx p l e R s mm args below meth c cells slots Q E A y d P) {a : Int} {off : Int} {t : Nat} (ht : (pc : Int) + off = (t : Int)) (hd : decode (am_mi y).2.1 pc = .ok (.ifCond .eq off, 3)) (k1 : am_cmp .eq a 0 → am_at p l e R s mm args below meth c cells slots Q E A y (t) lv (st) m) (k2 : ¬ am_cmp .eq a 0 → am_at p l e R s mm args below meth c cells slots Q E A y (pc + 3) lv (st) m) : am_at p l e R s mm args below meth c cells slots Q E A y (pc) lv (.inl a :: st) m := by
  obtain ⟨hx, hb, hml, hown, hts, hfr, hlo, hce, hsl, hRO, hK, hret⟩ := id C
  intro H locs ls hW hS hl hv hst
  have ra : am_R a := am_vh hst
  exact lv_if_eq hx hb hd ht (fun h => k1 ((am_eqI ra am_R0).mp h) H locs ls hW hS hl hv (am_vt hst)) (fun h => k2 (fun z => h ((am_eqI ra am_R0).mpr z)) H locs ls hW hS hl hv (am_vt hst))
theorem s_icmp_ne (C : am_Cx p l e R s mm args below meth c cells slots Q E A y d P) {a b : Int} {off : Int} {t : Nat} (ht : (pc : Int) + off = (t : Int)) (hd : decode (am_mi y).2.1 pc = .ok (.if_icmp .ne off, 3)) (k1 : am_cmp .ne a b → am_at p l e R s mm args below meth c cells slots Q E A y (t) lv (st) m) (k2 : ¬ am_cmp .ne a b → am_at p l e R s mm args below meth c cells slots Q E A y (pc + 3) lv (st) m) : am_at p l e R s mm args below meth c cells slots Q E A y (pc) lv (.inl b :: .inl a :: st) m := by
  obtain ⟨hx, hb, hml, hown, hts, hfr, hlo, hce, hsl, hRO, hK, hret⟩ := id C
  intro H locs ls hW hS hl hv hst
  have ra : am_R a := am_vh (am_vt hst)
  have rb : am_R b := am_vh hst
  exact lv_icmp_ne hx hb hd ht (fun h => k1 ((not_congr (am_eqI ra rb)).mp h) H locs ls hW hS hl hv (am_vt (am_vt hst))) (fun h => k2 (fun z => z ((am_eqI ra rb).mp h)) H locs ls hW hS hl hv (am_vt (am_vt hst)))
theorem s_if_ne (C : am_Cx p l e R s mm args below meth c cells slots Q E A y d P) {a : Int} {off : Int} {t : Nat} (ht : (pc : Int) + off = (t : Int)) (hd : decode (am_mi y).2.1 pc = .ok (.ifCond .ne off, 3)) (k1 : am_cmp .ne a 0 → am_at p l e R s mm args below meth c cells slots Q E A y (t) lv (st) m) (k2 : ¬ am_cmp .ne a 0 → am_at p l e R s mm args below meth c cells slots Q E A y (pc + 3) lv (st) m) : am_at p l e R s mm args below meth c cells slots Q E A y (pc) lv (.inl a :: st) m := by
  obtain ⟨hx, hb, hml, hown, hts, hfr, hlo, hce, hsl, hRO, hK, hret⟩ := id C
  intro H locs ls hW hS hl hv hst
  have ra : am_R a := am_vh hst
  exact lv_if_ne hx hb hd ht (fun h => k1 ((not_congr (am_eqI ra am_R0)).mp h) H locs ls hW hS hl hv (am_vt hst)) (fun h => k2 (fun z => z ((am_eqI ra am_R0).mp h)) H locs ls hW hS hl hv (am_vt hst))
theorem s_icmp_lt (C : am_Cx p l e R s mm args below meth c cells slots Q E A y d P) {a b : Int} {off : Int} {t : Nat} (ht : (pc : Int) + off = (t : Int)) (hd : decode (am_mi y).2.1 pc = .ok (.if_icmp .lt off, 3)) (k1 : am_cmp .lt a b → am_at p l e R s mm args below meth c cells slots Q E A y (t) lv (st) m) (k2 : ¬ am_cmp .lt a b → am_at p l e R s mm args below meth c cells slots Q E A y (pc + 3) lv (st) m) : am_at p l e R s mm args below meth c cells slots Q E A y (pc) lv (.inl b :: .inl a :: st) m := by
  obtain ⟨hx, hb, hml, hown, hts, hfr, hlo, hce, hsl, hRO, hK, hret⟩ := id C
  intro H locs ls hW hS hl hv hst
  have ra : am_R a := am_vh (am_vt hst)
  have rb : am_R b := am_vh hst
  exact lv_icmp_lt hx hb hd ht (fun h => k1 ((am_ltI ra rb).mp h) H locs ls hW hS hl hv (am_vt (am_vt hst))) (fun h => k2 (fun z => h ((am_ltI ra rb).mpr z)) H locs ls hW hS hl hv (am_vt (am_vt hst)))
theorem s_if_lt (C : am_Cx p l e R s mm args below meth c cells slots Q E A y d P) {a : Int} {off : Int} {t : Nat} (ht : (pc : Int) + off = (t : Int)) (hd : decode (am_mi y).2.1 pc = .ok (.ifCond .lt off, 3)) (k1 : am_cmp .lt a 0 → am_at p l e R s mm args below meth c cells slots Q E A y (t) lv (st) m) (k2 : ¬ am_cmp .lt a 0 → am_at p l e R s mm args below meth c cells slots Q E A y (pc + 3) lv (st) m) : am_at p l e R s mm args below meth c cells slots Q E A y (pc) lv (.inl a :: st) m := by
  obtain ⟨hx, hb, hml, hown, hts, hfr, hlo, hce, hsl, hRO, hK, hret⟩ := id C
  intro H locs ls hW hS hl hv hst
  have ra : am_R a := am_vh hst
  exact lv_if_lt hx hb hd ht (fun h => k1 ((am_ltI ra am_R0).mp h) H locs ls hW hS hl hv (am_vt hst)) (fun h => k2 (fun z => h ((am_ltI ra am_R0).mpr z)) H locs ls hW hS hl hv (am_vt hst))
theorem s_icmp_ge (C : am_Cx p l e R s mm args below meth c cells slots Q E A y d P) {a b : Int} {off : Int} {t : Nat} (ht : (pc : Int) + off = (t : Int)) (hd : decode (am_mi y).2.1 pc = .ok (.if_icmp .ge off, 3)) (k1 : am_cmp .ge a b → am_at p l e R s mm args below meth c cells slots Q E A y (t) lv (st) m) (k2 : ¬ am_cmp .ge a b → am_at p l e R s mm args below meth c cells slots Q E A y (pc + 3) lv (st) m) : am_at p l e R s mm args below meth c cells slots Q E A y (pc) lv (.inl b :: .inl a :: st) m := by
  obtain ⟨hx, hb, hml, hown, hts, hfr, hlo, hce, hsl, hRO, hK, hret⟩ := id C
  intro H locs ls hW hS hl hv hst
  have ra : am_R a := am_vh (am_vt hst)
  have rb : am_R b := am_vh hst
  exact lv_icmp_ge hx hb hd ht (fun h => k1 ((am_leI rb ra).mp h) H locs ls hW hS hl hv (am_vt (am_vt hst))) (fun h => k2 (fun z => h ((am_leI rb ra).mpr z)) H locs ls hW hS hl hv (am_vt (am_vt hst)))
theorem s_if_ge (C : am_Cx p l e R s mm args below meth c cells slots Q E A y d P) {a : Int} {off : Int} {t : Nat} (ht : (pc : Int) + off = (t : Int)) (hd : decode (am_mi y).2.1 pc = .ok (.ifCond .ge off, 3)) (k1 : am_cmp .ge a 0 → am_at p l e R s mm args below meth c cells slots Q E A y (t) lv (st) m) (k2 : ¬ am_cmp .ge a 0 → am_at p l e R s mm args below meth c cells slots Q E A y (pc + 3) lv (st) m) : am_at p l e R s mm args below meth c cells slots Q E A y (pc) lv (.inl a :: st) m := by
  obtain ⟨hx, hb, hml, hown, hts, hfr, hlo, hce, hsl, hRO, hK, hret⟩ := id C
  intro H locs ls hW hS hl hv hst
  have ra : am_R a := am_vh hst
  exact lv_if_ge hx hb hd ht (fun h => k1 ((am_leI am_R0 ra).mp h) H locs ls hW hS hl hv (am_vt hst)) (fun h => k2 (fun z => h ((am_leI am_R0 ra).mpr z)) H locs ls hW hS hl hv (am_vt hst))
theorem s_icmp_gt (C : am_Cx p l e R s mm args below meth c cells slots Q E A y d P) {a b : Int} {off : Int} {t : Nat} (ht : (pc : Int) + off = (t : Int)) (hd : decode (am_mi y).2.1 pc = .ok (.if_icmp .gt off, 3)) (k1 : am_cmp .gt a b → am_at p l e R s mm args below meth c cells slots Q E A y (t) lv (st) m) (k2 : ¬ am_cmp .gt a b → am_at p l e R s mm args below meth c cells slots Q E A y (pc + 3) lv (st) m) : am_at p l e R s mm args below meth c cells slots Q E A y (pc) lv (.inl b :: .inl a :: st) m := by
  obtain ⟨hx, hb, hml, hown, hts, hfr, hlo, hce, hsl, hRO, hK, hret⟩ := id C
  intro H locs ls hW hS hl hv hst
  have ra : am_R a := am_vh (am_vt hst)
  have rb : am_R b := am_vh hst
  exact lv_icmp_gt hx hb hd ht (fun h => k1 ((am_ltI rb ra).mp h) H locs ls hW hS hl hv (am_vt (am_vt hst))) (fun h => k2 (fun z => h ((am_ltI rb ra).mpr z)) H locs ls hW hS hl hv (am_vt (am_vt hst)))
theorem s_if_gt (C : am_Cx p l e R s mm args below meth c cells slots Q E A y d P) {a : Int} {off : Int} {t : Nat} (ht : (pc : Int) + off = (t : Int)) (hd : decode (am_mi y).2.1 pc = .ok (.ifCond .gt off, 3)) (k1 : am_cmp .gt a 0 → am_at p l e R s mm args below meth c cells slots Q E A y (t) lv (st) m) (k2 : ¬ am_cmp .gt a 0 → am_at p l e R s mm args below meth c cells slots Q E A y (pc + 3) lv (st) m) : am_at p l e R s mm args below meth c cells slots Q E A y (pc) lv (.inl a :: st) m := by
  obtain ⟨hx, hb, hml, hown, hts, hfr, hlo, hce, hsl, hRO, hK, hret⟩ := id C
  intro H locs ls hW hS hl hv hst
  have ra : am_R a := am_vh hst
  exact lv_if_gt hx hb hd ht (fun h => k1 ((am_ltI am_R0 ra).mp h) H locs ls hW hS hl hv (am_vt hst)) (fun h => k2 (fun z => h ((am_ltI am_R0 ra).mpr z)) H locs ls hW hS hl hv (am_vt hst))
theorem s_icmp_le (C : am_Cx p l e R s mm args below meth c cells slots Q E A y d P) {a b : Int} {off : Int} {t : Nat} (ht : (pc : Int) + off = (t : Int)) (hd : decode (am_mi y).2.1 pc = .ok (.if_icmp .le off, 3)) (k1 : am_cmp .le a b → am_at p l e R s mm args below meth c cells slots Q E A y (t) lv (st) m) (k2 : ¬ am_cmp .le a b → am_at p l e R s mm args below meth c cells slots Q E A y (pc + 3) lv (st) m) : am_at p l e R s mm args below meth c cells slots Q E A y (pc) lv (.inl b :: .inl a :: st) m := by
  obtain ⟨hx, hb, hml, hown, hts, hfr, hlo, hce, hsl, hRO, hK, hret⟩ := id C
  intro H locs ls hW hS hl hv hst
  have ra : am_R a := am_vh (am_vt hst)
  have rb : am_R b := am_vh hst
  exact lv_icmp_le hx hb hd ht (fun h => k1 ((am_leI ra rb).mp h) H locs ls hW hS hl hv (am_vt (am_vt hst))) (fun h => k2 (fun z => h ((am_leI ra rb).mpr z)) H locs ls hW hS hl hv (am_vt (am_vt hst)))
theorem s_if_le (C : am_Cx p l e R s mm args below meth c cells slots Q E A y d P) {a : Int} {off : Int} {t : Nat} (ht : (pc : Int) + off = (t : Int)) (hd : decode (am_mi y).2.1 pc = .ok (.ifCond .le off, 3)) (k1 : am_cmp .le a 0 → am_at p l e R s mm args below meth c cells slots Q E A y (t) lv (st) m) (k2 : ¬ am_cmp .le a 0 → am_at p l e R s mm args below meth c cells slots Q E A y (pc + 3) lv (st) m) : am_at p l e R s mm args below meth c cells slots Q E A y (pc) lv (.inl a :: st) m := by
  obtain ⟨hx, hb, hml, hown, hts, hfr, hlo, hce, hsl, hRO, hK, hret⟩ := id C
  intro H locs ls hW hS hl hv hst
  have ra : am_R a := am_vh hst
  exact lv_if_le hx hb hd ht (fun h => k1 ((am_leI ra am_R0).mp h) H locs ls hW hS hl hv (am_vt hst)) (fun h => k2 (fun z => h ((am_leI ra am_R0).mpr z)) H locs ls hW hS hl hv (am_vt hst))
theorem s_goto (C : am_Cx p l e R s mm args below meth c cells slots Q E A y d P) {off : Int} {t : Nat} (ht : (pc : Int) + off = (t : Int)) (hd : decode (am_mi y).2.1 pc = .ok (.goto off, 3)) (k : am_at p l e R s mm args below meth c cells slots Q E A y (t) lv (st) m) : am_at p l e R s mm args below meth c cells slots Q E A y (pc) lv (st) m := by
  obtain ⟨hx, hb, hml, hown, hts, hfr, hlo, hce, hsl, hRO, hK, hret⟩ := id C
  intro H locs ls hW hS hl hv hst
  exact lv_goto hx hb hd ht (k H locs ls hW hS hl hv hst)
theorem s_tableOut (C : am_Cx p l e R s mm args below meth c cells slots Q E A y d P) {a : Int} {dflt lo hi : Int} {offs : Array Int} {len t : Nat} (h : a < lo ∨ hi < a) (ht : (pc : Int) + dflt = (t : Int)) (hd : decode (am_mi y).2.1 pc = .ok (.tableswitch dflt lo hi offs, len)) (k : am_at p l e R s mm args below meth c cells slots Q E A y (t) lv (st) m) : am_at p l e R s mm args below meth c cells slots Q E A y (pc) lv (.inl a :: st) m := by
  obtain ⟨hx, hb, hml, hown, hts, hfr, hlo, hce, hsl, hRO, hK, hret⟩ := id C
  intro H locs ls hW hS hl hv hst
  exact lv_tableOut hx hb hd (by rw [am_to (am_vh hst)]; exact h) ht (k H locs ls hW hS hl hv (am_vt hst))
theorem s_tableIn (C : am_Cx p l e R s mm args below meth c cells slots Q E A y d P) {a : Int} {dflt lo hi off : Int} {offs : Array Int} {len t : Nat} (h1 : ¬ a < lo) (h2 : ¬ hi < a) (ho : offs[(a - lo).toNat]? = some off) (ht : (pc : Int) + off = (t : Int)) (hd : decode (am_mi y).2.1 pc = .ok (.tableswitch dflt lo hi offs, len)) (k : am_at p l e R s mm args below meth c cells slots Q E A y (t) lv (st) m) : am_at p l e R s mm args below meth c cells slots Q E A y (pc) lv (.inl a :: st) m := by
  obtain ⟨hx, hb, hml, hown, hts, hfr, hlo, hce, hsl, hRO, hK, hret⟩ := id C
  intro H locs ls hW hS hl hv hst
  exact lv_tableIn hx hb hd (by rw [am_to (am_vh hst)]; exact h1) (by rw [am_to (am_vh hst)]; exact h2) (by rw [am_to (am_vh hst)]; exact ho) ht (k H locs ls hW hS hl hv (am_vt hst))
theorem s_lookup (C : am_Cx p l e R s mm args below meth c cells slots Q E A y d P) {a : Int} {dflt off : Int} {ps : Array (Int × Int)} {len t : Nat} (hp : (ps.toList.zip (ps.toList.drop 1)).all (fun (a, next) => a.1 < next.1) = true) (ho : Op.lookupswitch.offset ps.toList dflt a = off) (ht : (pc : Int) + off = (t : Int)) (hd : decode (am_mi y).2.1 pc = .ok (.lookupswitch dflt ps, len)) (k : am_at p l e R s mm args below meth c cells slots Q E A y (t) lv (st) m) : am_at p l e R s mm args below meth c cells slots Q E A y (pc) lv (.inl a :: st) m := by
  obtain ⟨hx, hb, hml, hown, hts, hfr, hlo, hce, hsl, hRO, hK, hret⟩ := id C
  intro H locs ls hW hS hl hv hst
  exact lv_lookup hx hb hd hp (by rw [am_to (am_vh hst)]; exact ho) ht (k H locs ls hW hS hl hv (am_vt hst))
end
end
section
theorem am_inbig {ws : List Cond} (ps : List Nat) (hp : ws = ps.filterMap (fun i => lw_tbl[i]?)) (h : ws.all goodWord = true) : ∀ w ∈ ws, w ∈ am_big := by
  intro w hw
  have h1 := List.all_eq_true.mp h w hw
  rw [hp] at hw
  obtain ⟨i, -, hi⟩ := List.mem_filterMap.mp hw
  exact List.mem_filter.mpr ⟨List.mem_of_getElem? hi, h1⟩
theorem am_big_of {i : Nat} {w : Cond} (h : lw_tbl[i]? = some w) (hg : goodWord w = true) : w ∈ am_big := List.mem_filter.mpr ⟨List.mem_of_getElem? h, hg⟩
theorem am_inX0 : ∀ w ∈ u_ws RX0 TX0 6, w ∈ am_big := am_inbig [237, 239, 241, 243, 245, 247] (by decide +kernel) (by decide +kernel)
theorem am_inX1 : ∀ w ∈ u_ws RX1 TX1 3, w ∈ am_big := am_inbig [397, 399, 401] (by decide +kernel) (by decide +kernel)
theorem am_inX2 : ∀ w ∈ u_ws RX2 TX2 5, w ∈ am_big := am_inbig [211, 213, 215, 217, 219] (by decide +kernel) (by decide +kernel)
theorem am_inX3 : ∀ w ∈ u_ws RX3 TX3 8, w ∈ am_big := am_inbig [270, 272, 274, 276, 278, 280, 282, 284] (by decide +kernel) (by decide +kernel)
theorem am_inX4 : ∀ w ∈ u_ws RX4 TX4 7, w ∈ am_big := am_inbig [420, 422, 424, 426, 428, 430, 432] (by decide +kernel) (by decide +kernel)
theorem am_inX5 : ∀ w ∈ u_ws RX5 TX5 8, w ∈ am_big := am_inbig [360, 362, 364, 366, 368, 370, 372, 374] (by decide +kernel) (by decide +kernel)
theorem am_inX6 : ∀ w ∈ u_ws RX6 TX6 1, w ∈ am_big := am_inbig [176] (by decide +kernel) (by decide +kernel)
theorem am_inX7 : ∀ w ∈ u_ws RX7 TX7 1, w ∈ am_big := am_inbig [385] (by decide +kernel) (by decide +kernel)
theorem am_inX8 : ∀ w ∈ u_ws RX8 TX8 9, w ∈ am_big := am_inbig [323, 325, 327, 329, 331, 333, 335, 337, 339] (by decide +kernel) (by decide +kernel)
theorem am_inX9 : ∀ w ∈ u_ws RX9 TX9 4, w ∈ am_big := am_inbig [449, 451, 453, 455] (by decide +kernel) (by decide +kernel)
theorem am_inX10 : ∀ w ∈ u_ws RX10 TX10 6, w ∈ am_big := am_inbig [155, 157, 159, 161, 163, 165] (by decide +kernel) (by decide +kernel)
theorem am_inX11 : ∀ w ∈ u_ws RX11 TX11 13, w ∈ am_big := am_inbig [472, 474, 476, 478, 480, 482, 484, 486, 488, 490, 492, 494, 496] (by decide +kernel) (by decide +kernel)
theorem am_inX12 : ∀ w ∈ u_ws RX12 TX12 49, w ∈ am_big := am_inbig [1186, 1188, 1190, 1192, 1194, 1196, 1198, 1200, 1202, 1204, 1206, 1208, 1210, 1212, 1214, 1216, 1218, 1220, 1222, 1224, 1226, 1228, 1230, 1232, 1234, 1236, 1238, 1240, 1242, 1244, 1246, 1248, 1250, 1252, 1254, 1256, 1258, 1260, 1262, 1264, 1266, 1268, 1270, 1272, 1274, 1276, 1278, 1280, 1282] (by decide +kernel) (by decide +kernel)
/-- what the tables say of a class -/
def am_clsF (C : String) (T : u_T) (N : Nat) : Prop := (∀ w ∈ u_ws C T N, w ∈ am_big) ∧ (∃ ty : Nat → FieldType, ∀ k, k < N → parseFieldDescriptor (T k).2.2.1 = some (ty k)) ∧ (∀ a, a < N → ∀ b, b < N → a ≠ b → (T a).2.1 ≠ (T b).2.1) ∧ ∀ k, k < N → (T k).1 = C
theorem am_cls : ∀ {ci : Nat} {C : String} {T : u_T} {N : Nat}, vwCl[ci]? = some (C, T, N) → am_clsF C T N := by
  intro ci C T N h
  match ci, h with
  | 0, h => cases h; exact ⟨am_inX0, ⟨tyX0, tyX0_ok⟩, nmX0, by decide +kernel⟩
  | 1, h => cases h; exact ⟨am_inX1, ⟨tyX1, tyX1_ok⟩, nmX1, by decide +kernel⟩
  | 2, h => cases h; exact ⟨am_inX2, ⟨tyX2, tyX2_ok⟩, nmX2, by decide +kernel⟩
  | 3, h => cases h; exact ⟨am_inX3, ⟨tyX3, tyX3_ok⟩, nmX3, by decide +kernel⟩
  | 4, h => cases h; exact ⟨am_inX4, ⟨tyX4, tyX4_ok⟩, nmX4, by decide +kernel⟩
  | 5, h => cases h; exact ⟨am_inX5, ⟨tyX5, tyX5_ok⟩, nmX5, by decide +kernel⟩
  | 6, h => cases h; exact ⟨am_inX6, ⟨tyX6, tyX6_ok⟩, nmX6, by decide +kernel⟩
  | 7, h => cases h; exact ⟨am_inX7, ⟨tyX7, tyX7_ok⟩, nmX7, by decide +kernel⟩
  | 8, h => cases h; exact ⟨am_inX8, ⟨tyX8, tyX8_ok⟩, nmX8, by decide +kernel⟩
  | 9, h => cases h; exact ⟨am_inX9, ⟨tyX9, tyX9_ok⟩, nmX9, by decide +kernel⟩
  | 10, h => cases h; exact ⟨am_inX10, ⟨tyX10, tyX10_ok⟩, nmX10, by decide +kernel⟩
  | 11, h => cases h; exact ⟨am_inX11, ⟨tyX11, tyX11_ok⟩, nmX11, by decide +kernel⟩
  | 12, h => cases h; exact ⟨am_inX12, ⟨tyX12, tyX12_ok⟩, nmX12, by decide +kernel⟩
  | n + 13, h => simp [vwCl] at h
def am_C (ci : Nat) : vw_C := vwCl.getD ci ("", fun _ => ("", "", "", false), 0)
theorem am_C_at {ci : Nat} (h : ci < 13) : vwCl[ci]? = some ((am_C ci).1, (am_C ci).2.1, (am_C ci).2.2) := by
  have hl : vwCl.length = 13 := rfl
  unfold am_C
  rw [List.getD_eq_getElem?_getD]
  cases hc : vwCl[ci]? with
  | none =>
    rw [List.getElem?_eq_none_iff] at hc
    omega
  | some x => rfl
def am_fck (o : Nat) (e : Nat × Nat × Nat × Nat) : Bool := decide (e.2.1 / 100 < 13) && decide (e.2.1 % 100 < (am_C (e.2.1 / 100)).2.2) && decide (lw_tbl[e.2.2.2]? = some (if e.2.2.1 = 0 then Cond.fieldLink (am_cn.getD o "") e.1 (am_C (e.2.1 / 100)).1 ((am_C (e.2.1 / 100)).2.1 (e.2.1 % 100)).2.1 ((am_C (e.2.1 / 100)).2.1 (e.2.1 % 100)).2.2.1 else Cond.fieldLinkNest (am_cn.getD o "") e.1 (am_C (e.2.1 / 100)).1 ((am_C (e.2.1 / 100)).2.1 (e.2.1 % 100)).2.1 ((am_C (e.2.1 / 100)).2.1 (e.2.1 % 100)).2.2.1 "TripleSieve"))
theorem am_ft_ok : (List.range 17).all (fun o => (am_ft.getD o []).all (am_fck o)) = true := by decide +kernel
def am_gck (o : Nat) (e : Nat × Nat × Nat × Nat) : Bool := decide (900 ≤ e.2.1 ∧ e.2.1 ≤ 902) && decide (lw_tbl[e.2.2.2]? = some (if e.2.2.1 = 0 then Cond.fieldLink (am_cn.getD o "") e.1 "TripleSieve" (["LOWEST", "HIGHEST", "UNTOLD"].getD (e.2.1 - 900) "") "[I" else Cond.fieldLinkNest (am_cn.getD o "") e.1 "TripleSieve" (["LOWEST", "HIGHEST", "UNTOLD"].getD (e.2.1 - 900) "") "[I" "TripleSieve"))
theorem am_gs_ok : (List.range 17).all (fun o => (am_gs.getD o []).all (am_gck o)) = true := by decide +kernel
def am_cck (o : Nat) (e : Nat × Int × Nat) : Bool := decide (lw_tbl[e.2.2]? = some (Cond.constant (am_cn.getD o "") e.1 (Int32.ofInt e.2.1)))
theorem am_ct_ok : (List.range 17).all (fun o => (am_ct.getD o []).all (am_cck o)) = true := by decide +kernel
def am_lck (o : Nat) (e : Nat × Nat × Nat) : Bool := decide (lw_tbl[e.2.2]? = some (Cond.constantLong (am_cn.getD o "") e.1 (Int64.ofNat e.2.1)))
theorem am_lt_ok : (List.range 17).all (fun o => (am_lt.getD o []).all (am_lck o)) = true := by decide +kernel
def am_ack (o : Nat) (e : Nat × Nat) : Bool := decide (lw_tbl[e.2]? = some (Cond.methodLink (am_cn.getD o "") e.1 arraycopyName))
theorem am_act_ok : (List.range 17).all (fun o => (am_act.getD o []).all (am_ack o)) = true := by decide +kernel
theorem am_acw1 : lw_tbl[am_acw.1]? = some (Cond.static arraycopyName) := by decide +kernel
theorem am_acw2 : lw_tbl[am_acw.2.1]? = some (Cond.native arraycopyName) := by decide +kernel
theorem am_acw3 : lw_tbl[am_acw.2.2]? = some (Cond.initialized "java/lang/System") := by decide +kernel
theorem am_all17 {α : Type} {f : Nat → List α} {g : Nat → α → Bool} (h : (List.range 17).all (fun o => (f o).all (g o)) = true) (hf : ∀ o, 17 ≤ o → f o = []) {o : Nat} {e : α} (he : e ∈ f o) : g o e = true := by
  rcases Nat.lt_or_ge o 17 with ho | ho
  · exact List.all_eq_true.mp (List.all_eq_true.mp h o (List.mem_range.mpr ho)) e he
  · rw [hf o ho] at he
    cases he
theorem am_ft17 (o : Nat) (h : 17 ≤ o) : am_ft.getD o [] = [] := by
  rw [List.getD_eq_getElem?_getD, List.getElem?_eq_none (show am_ft.length ≤ o from h)]; rfl
theorem am_gs17 (o : Nat) (h : 17 ≤ o) : am_gs.getD o [] = [] := by
  rw [List.getD_eq_getElem?_getD, List.getElem?_eq_none (show am_gs.length ≤ o from h)]; rfl
theorem am_ct17 (o : Nat) (h : 17 ≤ o) : am_ct.getD o [] = [] := by
  rw [List.getD_eq_getElem?_getD, List.getElem?_eq_none (show am_ct.length ≤ o from h)]; rfl
theorem am_lt17 (o : Nat) (h : 17 ≤ o) : am_lt.getD o [] = [] := by
  rw [List.getD_eq_getElem?_getD, List.getElem?_eq_none (show am_lt.length ≤ o from h)]; rfl
theorem am_act17 (o : Nat) (h : 17 ≤ o) : am_act.getD o [] = [] := by
  rw [List.getD_eq_getElem?_getD, List.getElem?_eq_none (show am_act.length ≤ o from h)]; rfl
theorem am_flink {o i n nest w : Nat} (h : (i, n, nest, w) ∈ am_ft.getD o []) : n / 100 < 13 ∧ n % 100 < (am_C (n / 100)).2.2 ∧ (Cond.fieldLink (am_cn.getD o "") i (am_C (n / 100)).1 ((am_C (n / 100)).2.1 (n % 100)).2.1 ((am_C (n / 100)).2.1 (n % 100)).2.2.1 ∈ am_big ∨ Cond.fieldLinkNest (am_cn.getD o "") i (am_C (n / 100)).1 ((am_C (n / 100)).2.1 (n % 100)).2.1 ((am_C (n / 100)).2.1 (n % 100)).2.2.1 "TripleSieve" ∈ am_nst) := by
  have h1 := am_all17 (f := fun o => am_ft.getD o []) am_ft_ok am_ft17 h
  simp only [am_fck, Bool.and_eq_true, decide_eq_true_eq] at h1
  obtain ⟨⟨h1, h2⟩, h3⟩ := h1
  refine ⟨h1, h2, ?_⟩
  by_cases hn : nest = 0
  · rw [if_pos hn] at h3
    exact Or.inl (am_big_of h3 rfl)
  · rw [if_neg hn] at h3
    exact Or.inr (List.mem_filter.mpr ⟨List.mem_of_getElem? h3, rfl⟩)
theorem am_glink {o i n nest w : Nat} (h : (i, n, nest, w) ∈ am_gs.getD o []) : (900 ≤ n ∧ n ≤ 902) ∧ (Cond.fieldLink (am_cn.getD o "") i "TripleSieve" (["LOWEST", "HIGHEST", "UNTOLD"].getD (n - 900) "") "[I" ∈ am_big ∨ Cond.fieldLinkNest (am_cn.getD o "") i "TripleSieve" (["LOWEST", "HIGHEST", "UNTOLD"].getD (n - 900) "") "[I" "TripleSieve" ∈ am_nst) := by
  have h1 := am_all17 (f := fun o => am_gs.getD o []) am_gs_ok am_gs17 h
  simp only [am_gck, Bool.and_eq_true, decide_eq_true_eq] at h1
  obtain ⟨h1, h3⟩ := h1
  refine ⟨h1, ?_⟩
  by_cases hn : nest = 0
  · rw [if_pos hn] at h3
    exact Or.inl (am_big_of h3 rfl)
  · rw [if_neg hn] at h3
    exact Or.inr (List.mem_filter.mpr ⟨List.mem_of_getElem? h3, rfl⟩)
theorem am_clink {o i w : Nat} {z : Int} (h : (i, z, w) ∈ am_ct.getD o []) : Cond.constant (am_cn.getD o "") i (Int32.ofInt z) ∈ am_big := by
  have h1 := am_all17 (f := fun o => am_ct.getD o []) am_ct_ok am_ct17 h
  simp only [am_cck, decide_eq_true_eq] at h1
  exact am_big_of h1 rfl
theorem am_llink {o i w n : Nat} (h : (i, n, w) ∈ am_lt.getD o []) : Cond.constantLong (am_cn.getD o "") i (Int64.ofNat n) ∈ am_big := by
  have h1 := am_all17 (f := fun o => am_lt.getD o []) am_lt_ok am_lt17 h
  simp only [am_lck, decide_eq_true_eq] at h1
  exact am_big_of h1 rfl
theorem am_alink {o i w : Nat} (h : (i, w) ∈ am_act.getD o []) : Cond.methodLink (am_cn.getD o "") i arraycopyName ∈ am_big := by
  have h1 := am_all17 (f := fun o => am_act.getD o []) am_act_ok am_act17 h
  simp only [am_ack, decide_eq_true_eq] at h1
  exact am_big_of h1 rfl
-- fields by the layout
theorem am_fld_spec {q n t x : Nat} (h : am_fld q n = (t, x)) (ht : t ≠ 9) : q < am_N ∧ (am_lay q).1 = n / 100 ∧ (am_lay q).2[n % 100]? = some (t, x) := by
  unfold am_fld at h
  split at h
  · rename_i hb
    have hk := Nat.eq_of_beq_eq_true hb
    rw [List.getD_eq_getElem?_getD] at h
    cases hc : (am_lay q).2[n % 100]? with
    | none => rw [hc] at h; cases h; exact absurd rfl ht
    | some e =>
      rw [hc] at h
      cases h
      refine ⟨?_, hk, rfl⟩
      rcases Nat.lt_or_ge q am_N with g | g
      · exact g
      · rw [am_lay_out g] at hc
        cases hc
  · cases h; exact absurd rfl ht
def am_fty : Bool := (List.range am_N).all fun q => decide (100 ≤ (am_lay q).1) || (List.range (am_lay q).2.length).all fun k => let e := (am_lay q).2.getD k (9, 0); let f := (am_C (am_lay q).1).2.1 k; e.1 == 2 || (f.2.2.2 == false && ((e.1 == 0 && f.2.2.1 == "I") || (e.1 == 1 && f.2.2.1 == "J") || (e.1 == 3 && f.2.2.1 == "Z")))
theorem am_fty_true : am_fty = true := by decide +kernel
theorem am_ftyq {q k t x : Nat} (hq : q < am_N) (hk : (am_lay q).1 < 100) (he : (am_lay q).2[k]? = some (t, x)) (ht : t ≠ 2) : ((am_C (am_lay q).1).2.1 k).2.2.2 = false ∧ ((t = 0 ∧ ((am_C (am_lay q).1).2.1 k).2.2.1 = "I") ∨ (t = 1 ∧ ((am_C (am_lay q).1).2.1 k).2.2.1 = "J") ∨ (t = 3 ∧ ((am_C (am_lay q).1).2.1 k).2.2.1 = "Z")) := by
  have h := List.all_eq_true.mp am_fty_true q (List.mem_range.mpr hq)
  simp only [Bool.or_eq_true, decide_eq_true_eq] at h
  rcases h with h | h
  · omega
  · have hl : k < (am_lay q).2.length := (List.getElem?_eq_some_iff.mp he).1
    have h := List.all_eq_true.mp h k (List.mem_range.mpr hl)
    have he2 : (am_lay q).2.getD k (9, 0) = (t, x) := by rw [List.getD_eq_getElem?_getD, he]; rfl
    simp only [he2, Bool.or_eq_true, Bool.and_eq_true, beq_iff_eq] at h
    rcases h with h | ⟨h1, h2⟩
    · exact absurd h ht
    · refine ⟨h1, ?_⟩
      rcases h2 with (h2 | h2) | h2
      · exact Or.inl h2
      · exact Or.inr (Or.inl h2)
      · exact Or.inr (Or.inr h2)
theorem am_idq {q k t x : Nat} (hq : q < am_N) (hk : (am_lay q).1 < 100) (he : (am_lay q).2[k]? = some (t, x)) (ht : t ≠ 2) : x = 1000 + 100 * q + k ∧ k < 100 := by
  have hl : k < (am_lay q).2.length := (List.getElem?_eq_some_iff.mp he).1
  have he2 : (am_lay q).2.getD k (9, 0) = (t, x) := by rw [List.getD_eq_getElem?_getD, he]; rfl
  rcases (am_lokq hq).2 with ⟨h, -⟩ | ⟨-, h100, h⟩
  · omega
  · have h := h k hl
    rw [he2] at h
    rcases h with ⟨h3, -⟩ | ⟨-, -, h5⟩
    · exact absurd h3 ht
    · exact ⟨h5, by omega⟩
theorem am_cell_obj {E : am_E} {m : am_M} {q : Nat} (hk : (am_lay q).1 < 100) : am_cell E m q = .inr ((am_lay q).1, (am_lay q).2.map (am_fv E m)) := by
  unfold am_cell
  rw [if_pos hk]
theorem am_cell_put {E : am_E} {m m' : am_M} {q k t x : Nat} (hq : q < am_N) (hk : (am_lay q).1 < 100) (he : (am_lay q).2[k]? = some (t, x)) (ht : t ≠ 2) (h1 : ∀ i, i ≠ x → m'.1 i = m.1 i) (h2 : ∀ i, i ≠ x → m'.2 i = m.2 i) : am_cell E m' q = .inr ((am_lay q).1, ((am_lay q).2.map (am_fv E m)).set k (am_fv E m' (t, x))) := by
  rw [am_cell_obj hk]
  congr 2
  obtain ⟨hx, h100⟩ := am_idq hq hk he ht
  refine List.ext_getElem? fun j => ?_
  rw [List.getElem?_set, List.getElem?_map]
  by_cases hj : k = j
  · subst hj
    have hl : k < (am_lay q).2.length := (List.getElem?_eq_some_iff.mp he).1
    rw [if_pos rfl, if_pos (by simpa using hl), he]
    rfl
  · rw [if_neg hj, List.getElem?_map]
    cases hc : (am_lay q).2[j]? with
    | none => rfl
    | some e =>
      obtain ⟨t', x'⟩ := e
      show some (am_fv E m' (t', x')) = some (am_fv E m (t', x'))
      congr 1
      by_cases ht' : t' = 2
      · subst ht'; rfl
      · obtain ⟨hx', -⟩ := am_idq hq hk hc ht'
        unfold am_fv
        rw [h1 x' (by omega), h2 x' (by omega)]
theorem am_wr1 (m : am_M) (id : Nat) (z v : Int) : ∀ i, i ≠ id → (am_wr m id z v).1 i = m.1 i := fun i hi => by simp [am_wr, hi]
theorem am_wl2 (m : am_M) (id : Nat) (z : Int) (v : Int64) : ∀ i, i ≠ id → (am_wl m id z v).2 i = m.2 i := fun i hi => by simp [am_wl, hi]
theorem am_ws11 (m : am_M) (id : Nat) (f : Int → Int) : ∀ i, i ≠ id → (am_ws1 m id f).1 i = m.1 i := fun i hi => by simp [am_ws1, hi]
theorem am_ws22 (m : am_M) (id : Nat) (f : Int → Int64) : ∀ i, i ≠ id → (am_ws2 m id f).2 i = m.2 i := fun i hi => by simp [am_ws2, hi]
theorem am_wr_self (m : am_M) (id : Nat) (z v : Int) : (am_wr m id z v).1 id z = v := by simp [am_wr]
theorem am_wl_self (m : am_M) (id : Nat) (z : Int) (v : Int64) : (am_wl m id z v).2 id z = v := by simp [am_wl]
theorem am_nb : ∀ z : Int, (z = 0 ∨ z = 1) → narrow .boolean (.int (Int32.ofInt z)) = .int (Int32.ofInt z) ∧ fits .boolean (.int (Int32.ofInt z)) = true ∧ vp_nar .boolean (Int32.ofInt z) = Int32.ofInt z := by
  intro z hz
  rcases hz with rfl | rfl <;> exact ⟨by decide, by decide, by decide⟩
theorem am_nby {z : Int} (h1 : -128 ≤ z) (h2 : z ≤ 127) : (Int32.ofInt z).toInt8.toInt32 = Int32.ofInt z := by
  have hr : am_R z := ⟨by omega, by omega⟩
  rw [← Int32.toInt_inj, Int8.toInt_toInt32, Int32.toInt_toInt8, am_to hr]
  exact Int.bmod_eq_of_le (by omega) (by omega)
end
section
section
variable {p : Program} {l : Launch} {e : Env} {R : Room} {s : State} {mm : MethodId} {args : Array Value} {below : List Frame} {meth : Method} {c : Code} {cells slots : Nat} {Q : State → Prop} {E : am_E} {A : Nat → Prop} {y d : Nat} {P : am_V → am_M → Prop}
  {pc : Nat} {lv : am_L} {r st : List am_V} {m : am_M}
theorem s_getfield (C : am_Cx p l e R s mm args below meth c cells slots Q E A y d P) {i n q t x nest w : Nat} {v : am_V} (hf : (i, n, nest, w) ∈ am_ft.getD (am_mi y).2.2.2.2 []) (hg : am_fld q n = (t, x)) (ht : t ≠ 9) (hcv : am_fv E m (t, x) = am_cv E v) (hok : am_MR m → am_vok v) (hd : decode (am_mi y).2.1 pc = .ok (.getfield i, 3)) (k : am_at p l e R s mm args below meth c cells slots Q E A y (pc + 3) lv (v :: st) (m)) : am_at p l e R s mm args below meth c cells slots Q E A y (pc) lv (.inr (.inr q) :: st) (m) := by
  obtain ⟨hx, hb, hml, hown, hts, hfr, hlo, hce, hsl, hRO, hK, hret⟩ := id C
  intro H locs ls hW hS hl hv hst
  obtain ⟨hP, -, hD, hM⟩ := id hW
  obtain ⟨h13, hkN, hlk⟩ := am_flink hf
  obtain ⟨hq, hci, he⟩ := am_fld_spec hg ht
  have hk100 : (am_lay q).1 < 100 := by omega
  obtain ⟨hcin, ⟨ty, hty⟩, hnm, hde⟩ := am_cls (am_C_at h13)
  have hws := am_ws_get E m hq
  rw [am_cell_obj hk100, hci] at hws
  have hfs : ((am_lay q).2.map (am_fv E m))[n % 100]? = some (am_cv E v) := by rw [List.getElem?_map, he, ← hcv]; rfl
  have k := k H locs ls hW hS hl hv (am_vc (hok hM) (am_vt hst))
  rcases hlk with hlk | hlk
  · exact va_get (ref := (am_C (n / 100)).1) hx hb hts hcin hown hK hP q hws (am_C_at h13) (n % 100) hkN (hts _ hlk) (by rw [hde _ hkN]; exact fun _ h => h) hfs hd k
  · exact va_getN (ref := (am_C (n / 100)).1) hx hb hts hcin hown hK hP q hws (am_C_at h13) (n % 100) hkN (va_Nw.use rfl (hRO.2.2.2.2.2.2.1 _ hlk)) (by rw [hde _ hkN]; exact fun _ h => h) hfs hd k
theorem s_putfield (C : am_Cx p l e R s mm args below meth c cells slots Q E A y d P) {i n q t x nest w : Nat} {v : am_V} {m2 : am_M} (hf : (i, n, nest, w) ∈ am_ft.getD (am_mi y).2.2.2.2 []) (hg : am_fld q n = (t, x)) (ht : t ≠ 9) (ht2 : t ≠ 2) (h1 : ∀ i, i ≠ x → m2.1 i = m.1 i) (h2 : ∀ i, i ≠ x → m2.2 i = m.2 i) (hcv : am_fv E m2 (t, x) = am_cv E v) (hnf : ∀ ty, ((t = 0 ∧ ty = FieldType.int) ∨ (t = 1 ∧ ty = FieldType.long) ∨ (t = 3 ∧ ty = FieldType.boolean)) → narrow ty (am_cv E v) = am_cv E v ∧ fits ty (am_cv E v) = true) (hok : am_MR m → am_vok v → am_MR m2) (hd : decode (am_mi y).2.1 pc = .ok (.putfield i, 3)) (k : am_at p l e R s mm args below meth c cells slots Q E A y (pc + 3) lv (st) (m2)) : am_at p l e R s mm args below meth c cells slots Q E A y (pc) lv (v :: .inr (.inr q) :: st) (m) := by
  obtain ⟨hx, hb, hml, hown, hts, hfr, hlo, hce, hsl, hRO, hK, hret⟩ := id C
  intro H locs ls hW hS hl hv hst
  obtain ⟨hP, -, hD, hM⟩ := id hW
  obtain ⟨h13, hkN, hlk⟩ := am_flink hf
  obtain ⟨hq, hci, he⟩ := am_fld_spec hg ht
  have hk100 : (am_lay q).1 < 100 := by omega
  obtain ⟨hcin, ⟨ty, hty⟩, hnm, hde⟩ := am_cls (am_C_at h13)
  obtain ⟨hfin, hdes⟩ := am_ftyq hq hk100 he ht2
  obtain ⟨hxx, hk1⟩ := am_idq hq hk100 he ht2
  rw [hci] at hfin hdes
  have hws := am_ws_get E m hq
  rw [am_cell_obj hk100, hci] at hws
  have hset : (am_ws E m).set q (am_ad E q, .inr (n / 100, ((am_lay q).2.map (am_fv E m)).set (n % 100) (am_cv E v))) = am_ws E m2 := by
    rw [← hcv]
    have h3 := am_cell_put (E := E) (m' := m2) hq hk100 he ht2 h1 h2
    rw [hci] at h3
    rw [← h3]
    refine am_ws_set E (am_cell_fld hq hk1 ?_ ?_)
    · rw [← hxx]; exact h1
    · rw [← hxx]; exact h2
  obtain ⟨ty2, hp2, hnn⟩ : ∃ ty2, parseFieldDescriptor ((am_C (n / 100)).2.1 (n % 100)).2.2.1 = some ty2 ∧ narrow ty2 (am_cv E v) = am_cv E v ∧ fits ty2 (am_cv E v) = true := by
    rcases hdes with ⟨a1, a2⟩ | ⟨a1, a2⟩ | ⟨a1, a2⟩
    · exact ⟨.int, by rw [a2]; decide, hnf _ (Or.inl ⟨a1, rfl⟩)⟩
    · exact ⟨.long, by rw [a2]; decide, hnf _ (Or.inr (Or.inl ⟨a1, rfl⟩))⟩
    · exact ⟨.boolean, by rw [a2]; decide, hnf _ (Or.inr (Or.inr ⟨a1, rfl⟩))⟩
  have hlen : n % 100 < ((am_lay q).2.map (am_fv E m)).length := by rw [List.length_map]; exact (List.getElem?_eq_some_iff.mp he).1
  have k : ∀ (H1 : Heap) (locs1 : List Loc), va_P E.1 vwCl ((am_ws E m).set q (am_ad E q, .inr (n / 100, ((am_lay q).2.map (am_fv E m)).set (n % 100) (am_cv E v)))) H1 → va_D A ((am_ws E m).set q (am_ad E q, .inr (n / 100, ((am_lay q).2.map (am_fv E m)).set (n % 100) (am_cv E v)))) → va_S A s.heap H1 locs1 → W p l e R s mm args below meth c H1 locs1 cells slots Q (F0 mm (pc + 3) ls (st.map (am_cv E))) := by
    intro H1 locs1 hP1 hD1 hS1
    rw [hset] at hP1 hD1
    exact k H1 locs1 ls ⟨hP1, hW.2.1, hD1, hok hM (am_vh hst)⟩ hS1 hl hv (am_vt (am_vt hst))
  rcases hlk with hlk | hlk
  · exact va_put (ref := (am_C (n / 100)).1) hx hb hts hcin ty hty hnm hown hK hP hD hS q hws (am_C_at h13) (n % 100) hkN (hts _ hlk) (by rw [hde _ hkN]; exact fun _ h => h) hfin hp2 hnn.1 hnn.2 hlen hd k
  · exact va_putN (ref := (am_C (n / 100)).1) hx hb hts hcin ty hty hnm hown hK hP hD hS q hws (am_C_at h13) (n % 100) hkN (va_Nw.use rfl (hRO.2.2.2.2.2.2.1 _ hlk)) (by rw [hde _ hkN]; exact fun _ h => h) hfin hp2 hnn.1 hnn.2 hlen hd k
theorem s_getstatic (C : am_Cx p l e R s mm args below meth c cells slots Q E A y d P) {i n nest w : Nat} (hf : (i, n, nest, w) ∈ am_gs.getD (am_mi y).2.2.2.2 []) (hd : decode (am_mi y).2.1 pc = .ok (.getstatic i, 3)) (k : am_at p l e R s mm args below meth c cells slots Q E A y (pc + 3) lv (.inr (.inr n) :: st) (m)) : am_at p l e R s mm args below meth c cells slots Q E A y (pc) lv (st) (m) := by
  obtain ⟨hx, hb, hml, hown, hts, hfr, hlo, hce, hsl, hRO, hK, hret⟩ := id C
  intro H locs ls hW hS hl hv hst
  obtain ⟨hP, -, hD, hM⟩ := id hW
  obtain ⟨⟨h1, h2⟩, hlk⟩ := am_glink hf
  have k := k H locs ls hW hS hl hv (am_vc trivial hst)
  have hz : va_Z "TripleSieve" (["LOWEST", "HIGHEST", "UNTOLD"].getD (n - 900) "") "[I" (.ref (am_ad E n)) A s s.heap := by
    rcases (show n = 900 ∨ n = 901 ∨ n = 902 by omega) with rfl | rfl | rfl
    · exact hRO.1.1
    · exact hRO.2.1.1
    · exact hRO.2.2.1.1
  rcases hlk with hlk | hlk
  · exact va_gets hx hb hz hS hown (hts _ hlk) (fun _ h => h) hd k
  · exact va_getsN hx hb hz hS hown (va_Nw.use rfl (hRO.2.2.2.2.2.2.1 _ hlk)) (fun _ h => h) hd k
theorem am_cell_int {E : am_E} {m : am_M} {q : Nat} (hk : (am_lay q).1 = 100 ∨ (am_lay q).1 = 101 ∨ (am_lay q).1 = 102) : am_cell E m q = .inl (E.2.1 (am_lay q).1, am_len q, .inl fun j => Int32.ofInt (m.1 q (j : Int))) := by
  unfold am_cell
  rw [if_neg (by omega), if_neg (by omega), if_neg (by omega)]
theorem am_cell_lng {E : am_E} {m : am_M} {q : Nat} (hk : (am_lay q).1 = 103) : am_cell E m q = .inl (E.2.1 103, am_len q, .inr (.inl fun j => m.2 q (j : Int))) := by
  unfold am_cell
  rw [if_neg (by omega), if_pos hk]
theorem am_cell_ref {E : am_E} {m : am_M} {q : Nat} (hk : (am_lay q).1 = 104) : am_cell E m q = .inl (E.2.1 104, (am_lay q).2.length, .inr (.inr (.inr (.inr fun j => some (am_ad E ((am_lay q).2.getD j (0, 0)).1))))) := by
  unfold am_cell
  rw [if_neg (by omega), if_neg (by omega), if_pos hk]
theorem am_N1000 : am_N < 1000 := by decide
theorem am_toN {z : Int} (h : 0 ≤ z) : ((z.toNat : Nat) : Int) = z := Int.toNat_of_nonneg h
theorem s_iaload (C : am_Cx p l e R s mm args below meth c cells slots Q E A y d P) {q : Nat} {i : Int} (hk : (am_lay q).1 = 100) (h0 : 0 ≤ i) (h1 : i < (am_len q : Int)) (hd : decode (am_mi y).2.1 pc = .ok (.iaload, 1)) (k : am_at p l e R s mm args below meth c cells slots Q E A y (pc + 1) lv (.inl (m.1 q i) :: st) (m)) : am_at p l e R s mm args below meth c cells slots Q E A y (pc) lv (.inl i :: .inr (.inr q) :: st) (m) := by
  obtain ⟨hx, hb, hml, hown, hts, hfr, hlo, hce, hsl, hRO, hK, hret⟩ := id C
  intro H locs ls hW hS hl hv hst
  obtain ⟨hP, -, hD, hM⟩ := id hW
  have hq : q < am_N := am_lay_lt (by omega)
  have hws := am_ws_get E m hq
  rw [am_cell_int (by omega), hk] at hws
  have ri : am_R i := am_vh hst
  have k := k H locs ls hW hS hl hv (am_vc (hM.R q i) (am_vt (am_vt hst)))
  refine va_iald hx hb hK hP q 0 hws rfl (am_vin ri h0 h1) hd ?_
  simp only [am_clamp ri, am_toN h0]
  exact k
theorem s_zaload (C : am_Cx p l e R s mm args below meth c cells slots Q E A y d P) {q : Nat} {i : Int} (hk : (am_lay q).1 = 101) (h0 : 0 ≤ i) (h1 : i < (am_len q : Int)) (hd : decode (am_mi y).2.1 pc = .ok (.baload, 1)) (k : am_at p l e R s mm args below meth c cells slots Q E A y (pc + 1) lv (.inl (m.1 q i) :: st) (m)) : am_at p l e R s mm args below meth c cells slots Q E A y (pc) lv (.inl i :: .inr (.inr q) :: st) (m) := by
  obtain ⟨hx, hb, hml, hown, hts, hfr, hlo, hce, hsl, hRO, hK, hret⟩ := id C
  intro H locs ls hW hS hl hv hst
  obtain ⟨hP, -, hD, hM⟩ := id hW
  have hq : q < am_N := am_lay_lt (by omega)
  have hws := am_ws_get E m hq
  rw [am_cell_int (by omega), hk] at hws
  have ri : am_R i := am_vh hst
  have k := k H locs ls hW hS hl hv (am_vc (hM.R q i) (am_vt (am_vt hst)))
  refine va_zald hx hb hK hP q 1 hws rfl (am_vin ri h0 h1) hd ?_
  simp only [am_clamp ri, am_toN h0]
  exact k
theorem s_baload (C : am_Cx p l e R s mm args below meth c cells slots Q E A y d P) {q : Nat} {i : Int} (hk : (am_lay q).1 = 102) (h0 : 0 ≤ i) (h1 : i < (am_len q : Int)) (hd : decode (am_mi y).2.1 pc = .ok (.baload, 1)) (k : am_at p l e R s mm args below meth c cells slots Q E A y (pc + 1) lv (.inl (m.1 q i) :: st) (m)) : am_at p l e R s mm args below meth c cells slots Q E A y (pc) lv (.inl i :: .inr (.inr q) :: st) (m) := by
  obtain ⟨hx, hb, hml, hown, hts, hfr, hlo, hce, hsl, hRO, hK, hret⟩ := id C
  intro H locs ls hW hS hl hv hst
  obtain ⟨hP, -, hD, hM⟩ := id hW
  have hq : q < am_N := am_lay_lt (by omega)
  have hws := am_ws_get E m hq
  rw [am_cell_int (by omega), hk] at hws
  have ri : am_R i := am_vh hst
  have k := k H locs ls hW hS hl hv (am_vc (hM.R q i) (am_vt (am_vt hst)))
  refine va_bald hx hb hK hP q 2 hws rfl (am_vin ri h0 h1) hd ?_
  simp only [am_clamp ri, am_toN h0]
  exact k
theorem s_laload (C : am_Cx p l e R s mm args below meth c cells slots Q E A y d P) {q : Nat} {i : Int} (hk : (am_lay q).1 = 103) (h0 : 0 ≤ i) (h1 : i < (am_len q : Int)) (hd : decode (am_mi y).2.1 pc = .ok (.laload, 1)) (k : am_at p l e R s mm args below meth c cells slots Q E A y (pc + 1) lv (.inr (.inl (m.2 q i)) :: st) (m)) : am_at p l e R s mm args below meth c cells slots Q E A y (pc) lv (.inl i :: .inr (.inr q) :: st) (m) := by
  obtain ⟨hx, hb, hml, hown, hts, hfr, hlo, hce, hsl, hRO, hK, hret⟩ := id C
  intro H locs ls hW hS hl hv hst
  obtain ⟨hP, -, hD, hM⟩ := id hW
  have hq : q < am_N := am_lay_lt (by omega)
  have hws := am_ws_get E m hq
  rw [am_cell_lng hk] at hws
  have ri : am_R i := am_vh hst
  have k := k H locs ls hW hS hl hv (am_vc trivial (am_vt (am_vt hst)))
  refine va_lald hx hb hK hP q 3 hws rfl (am_vin ri h0 h1) hd ?_
  simp only [am_clamp ri, am_toN h0]
  exact k
theorem s_aaload (C : am_Cx p l e R s mm args below meth c cells slots Q E A y d P) {q q2 : Nat} {i : Int} (hk : (am_lay q).1 = 104) (h0 : 0 ≤ i) (h1 : i < ((am_lay q).2.length : Int)) (h2 : ((am_lay q).2.getD i.toNat (0, 0)).1 = q2) (hd : decode (am_mi y).2.1 pc = .ok (.aaload, 1)) (k : am_at p l e R s mm args below meth c cells slots Q E A y (pc + 1) lv (.inr (.inr q2) :: st) (m)) : am_at p l e R s mm args below meth c cells slots Q E A y (pc) lv (.inl i :: .inr (.inr q) :: st) (m) := by
  obtain ⟨hx, hb, hml, hown, hts, hfr, hlo, hce, hsl, hRO, hK, hret⟩ := id C
  intro H locs ls hW hS hl hv hst
  obtain ⟨hP, -, hD, hM⟩ := id hW
  have hq : q < am_N := am_lay_lt (by omega)
  have hws := am_ws_get E m hq
  rw [am_cell_ref hk] at hws
  have ri : am_R i := am_vh hst
  have k := k H locs ls hW hS hl hv (am_vc trivial (am_vt (am_vt hst)))
  refine va_aldq hx hb hK hP q 4 hws rfl (am_vin ri h0 h1) hd ?_
  simp only [am_clamp ri, h2]
  exact k
theorem s_tabload (C : am_Cx p l e R s mm args below meth c cells slots Q E A y d P) {q : Nat} {i : Int} (hq : 900 ≤ q ∧ q ≤ 902) (h0 : 0 ≤ i) (h1 : i < 7) (hd : decode (am_mi y).2.1 pc = .ok (.iaload, 1)) (k : am_at p l e R s mm args below meth c cells slots Q E A y (pc + 1) lv (.inl (am_tab q i) :: st) (m)) : am_at p l e R s mm args below meth c cells slots Q E A y (pc) lv (.inl i :: .inr (.inr q) :: st) (m) := by
  obtain ⟨hx, hb, hml, hown, hts, hfr, hlo, hce, hsl, hRO, hK, hret⟩ := id C
  intro H locs ls hW hS hl hv hst
  obtain ⟨hP, -, hD, hM⟩ := id hW
  have ri : am_R i := am_vh hst
  have hT : va_T .int (am_ad E q) 7 (fun j => .int (Int32.ofInt (am_tab q (j : Int)))) A s s.heap := by
    rcases (show q = 900 ∨ q = 901 ∨ q = 902 by omega) with rfl | rfl | rfl
    · exact hRO.1.2
    · exact hRO.2.1.2
    · exact hRO.2.2.1.2
  have hr : am_R (am_tab q i) := by
    have key : ∀ j : Nat, j < 7 → (am_lowT.getD j 0 ≤ 999999999 ∧ 0 ≤ am_lowT.getD j 0) ∧ (am_highT.getD j 0 ≤ 999999999 ∧ 0 ≤ am_highT.getD j 0) ∧ am_untT.getD j 0 ≤ 999999999 ∧ 0 ≤ am_untT.getD j 0 := by decide
    have := key i.toNat (by omega)
    unfold am_tab am_R
    split <;> omega
  have k := k H locs ls hW hS hl hv (am_vc hr (am_vt (am_vt hst)))
  refine va_ti hx hb hT hS (am_vin (n := 7) ri h0 h1) (v := .int (Int32.ofInt (am_tab q i))) ?_ hd k
  show Value.int (Int32.ofInt (am_tab q ((Int32.ofInt i).toNatClampNeg : Int))) = _
  rw [am_clamp ri, am_toN h0]
theorem s_scriptload (C : am_Cx p l e R s mm args below meth c cells slots Q E A y d P) {i : Int} (h0 : 0 ≤ i) (h1 : i < (am_sc E).1) (hd : decode (am_mi y).2.1 pc = .ok (.iaload, 1)) (k : am_at p l e R s mm args below meth c cells slots Q E A y (pc + 1) lv (.inl ((am_sc E).2 i) :: st) (m)) : am_at p l e R s mm args below meth c cells slots Q E A y (pc) lv (.inl i :: .inr (.inr 800) :: st) (m) := by
  obtain ⟨hx, hb, hml, hown, hts, hfr, hlo, hce, hsl, hRO, hK, hret⟩ := id C
  intro H locs ls hW hS hl hv hst
  obtain ⟨hP, -, hD, hM⟩ := id hW
  have ri : am_R i := am_vh hst
  obtain ⟨hX, hbl, hbA⟩ := hRO.2.2.2.2.2.1
  have k := k H locs ls hW hS hl hv (am_vc (am_RT _) (am_vt (am_vt hst)))
  refine va_sld hx hb hX hbl hbA hS (am_vin ri h0 h1) hd ?_
  rw [am_clamp ri]
  simp only [List.map_cons, am_cv, am_sc, am_of] at k
  exact k
theorem s_scriptlen (C : am_Cx p l e R s mm args below meth c cells slots Q E A y d P) (hd : decode (am_mi y).2.1 pc = .ok (.arraylength, 1)) (hL : am_R (am_sc E).1) (k : am_at p l e R s mm args below meth c cells slots Q E A y (pc + 1) lv (.inl (am_sc E).1 :: st) (m)) : am_at p l e R s mm args below meth c cells slots Q E A y (pc) lv (.inr (.inr 800) :: st) (m) := by
  obtain ⟨hx, hb, hml, hown, hts, hfr, hlo, hce, hsl, hRO, hK, hret⟩ := id C
  intro H locs ls hW hS hl hv hst
  obtain ⟨hP, -, hD, hM⟩ := id hW
  obtain ⟨hX, hbl, hbA⟩ := hRO.2.2.2.2.2.1
  have k := k H locs ls hW hS hl hv (am_vc hL (am_vt hst))
  refine va_slen hx hb hX hbl hbA hS hd ?_
  simp only [List.map_cons, am_cv, am_sc, Int32.ofInt_eq_ofNat] at k
  exact k
theorem s_tablen (C : am_Cx p l e R s mm args below meth c cells slots Q E A y d P) {q : Nat} (hq : 900 ≤ q ∧ q ≤ 902) (hd : decode (am_mi y).2.1 pc = .ok (.arraylength, 1)) (k : am_at p l e R s mm args below meth c cells slots Q E A y (pc + 1) lv (.inl 7 :: st) (m)) : am_at p l e R s mm args below meth c cells slots Q E A y (pc) lv (.inr (.inr q) :: st) (m) := by
  obtain ⟨hx, hb, hml, hown, hts, hfr, hlo, hce, hsl, hRO, hK, hret⟩ := id C
  intro H locs ls hW hS hl hv hst
  obtain ⟨hP, -, hD, hM⟩ := id hW
  have hT : va_T .int (am_ad E q) 7 (fun j => .int (Int32.ofInt (am_tab q (j : Int)))) A s s.heap := by
    rcases (show q = 900 ∨ q = 901 ∨ q = 902 by omega) with rfl | rfl | rfl
    · exact hRO.1.2
    · exact hRO.2.1.2
    · exact hRO.2.2.1.2
  exact va_tlen hx hb hT hS rfl hd (k H locs ls hW hS hl hv (am_vc (v := .inl 7) ⟨by decide, by decide⟩ (am_vt hst)))
theorem s_arrlen (C : am_Cx p l e R s mm args below meth c cells slots Q E A y d P) {q : Nat} (hk : 100 ≤ (am_lay q).1 ∧ (am_lay q).1 ≤ 103) (hL : am_len q < 2147483648) (hd : decode (am_mi y).2.1 pc = .ok (.arraylength, 1)) (k : am_at p l e R s mm args below meth c cells slots Q E A y (pc + 1) lv (.inl (am_len q : Int) :: st) (m)) : am_at p l e R s mm args below meth c cells slots Q E A y (pc) lv (.inr (.inr q) :: st) (m) := by
  obtain ⟨hx, hb, hml, hown, hts, hfr, hlo, hce, hsl, hRO, hK, hret⟩ := id C
  intro H locs ls hW hS hl hv hst
  obtain ⟨hP, -, hD, hM⟩ := id hW
  have hq : q < am_N := am_lay_lt (by omega)
  have hws := am_ws_get E m hq
  have k := k H locs ls hW hS hl hv (am_vc (v := .inl (am_len q : Int)) ⟨by omega, by omega⟩ (am_vt hst))
  simp only [List.map_cons, am_cv, Int32.ofInt_eq_ofNat] at k
  rcases (show (am_lay q).1 = 100 ∨ (am_lay q).1 = 101 ∨ (am_lay q).1 = 102 ∨ (am_lay q).1 = 103 by omega) with h | h | h | h
  · rw [am_cell_int (by omega), h] at hws
    exact va_alen hx hb hK hP q 0 hws (ty := .int) rfl rfl hd k
  · rw [am_cell_int (by omega), h] at hws
    exact va_alen hx hb hK hP q 1 hws (ty := .boolean) rfl rfl hd k
  · rw [am_cell_int (by omega), h] at hws
    exact va_alen hx hb hK hP q 2 hws (ty := .byte) rfl rfl hd k
  · rw [am_cell_lng h] at hws
    exact va_alen hx hb hK hP q 3 hws (ty := .long) rfl rfl hd k
theorem am_upd_eq {m : am_M} {q : Nat} {i v : Int} (h0 : 0 ≤ i) : upd (fun j : Nat => Int32.ofInt (m.1 q (j : Int))) i.toNat (Int32.ofInt v) = fun j : Nat => Int32.ofInt ((am_wr m q i v).1 q (j : Int)) := by
  funext j
  simp only [upd, am_wr, if_true]
  by_cases hj : j = i.toNat
  · rw [if_pos hj, if_pos (by omega)]
  · rw [if_neg hj, if_neg (by omega)]
theorem am_updL_eq {m : am_M} {q : Nat} {i : Int} {v : Int64} (h0 : 0 ≤ i) : vp_updL (fun j : Nat => m.2 q (j : Int)) i.toNat v = fun j : Nat => (am_wl m q i v).2 q (j : Int) := by
  funext j
  simp only [vp_updL, am_wl, if_true]
  by_cases hj : j = i.toNat
  · rw [if_pos hj, if_pos (by omega)]
  · rw [if_neg hj, if_neg (by omega)]
theorem am_ws_int {E : am_E} {m m2 : am_M} {q : Nat} (hk : (am_lay q).1 = 100 ∨ (am_lay q).1 = 101 ∨ (am_lay q).1 = 102) (h1 : ∀ i, i ≠ q → m2.1 i = m.1 i) (h2 : ∀ i, i ≠ q → m2.2 i = m.2 i) : (am_ws E m).set q (am_ad E q, .inl (E.2.1 (am_lay q).1, am_len q, .inl fun j => Int32.ofInt (m2.1 q (j : Int)))) = am_ws E m2 := by
  rw [← am_cell_int hk]
  exact am_ws_set E (am_cell_arr (by have := am_N1000; have : q < am_N := am_lay_lt (by omega); omega) h1 h2)
theorem am_ws_lng {E : am_E} {m m2 : am_M} {q : Nat} (hk : (am_lay q).1 = 103) (h1 : ∀ i, i ≠ q → m2.1 i = m.1 i) (h2 : ∀ i, i ≠ q → m2.2 i = m.2 i) : (am_ws E m).set q (am_ad E q, .inl (E.2.1 103, am_len q, .inr (.inl fun j => m2.2 q (j : Int)))) = am_ws E m2 := by
  rw [← am_cell_lng hk]
  exact am_ws_set E (am_cell_arr (by have := am_N1000; have : q < am_N := am_lay_lt (by omega); omega) h1 h2)
theorem s_iastore (C : am_Cx p l e R s mm args below meth c cells slots Q E A y d P) {q : Nat} {i v : Int} (hk : (am_lay q).1 = 100) (h0 : 0 ≤ i) (h1 : i < (am_len q : Int)) (hd : decode (am_mi y).2.1 pc = .ok (.iastore, 1)) (k : am_at p l e R s mm args below meth c cells slots Q E A y (pc + 1) lv (st) (am_wr m q i v)) : am_at p l e R s mm args below meth c cells slots Q E A y (pc) lv (.inl v :: .inl i :: .inr (.inr q) :: st) (m) := by
  obtain ⟨hx, hb, hml, hown, hts, hfr, hlo, hce, hsl, hRO, hK, hret⟩ := id C
  intro H locs ls hW hS hl hv hst
  obtain ⟨hP, -, hD, hM⟩ := id hW
  have hq : q < am_N := am_lay_lt (by omega)
  have hws := am_ws_get E m hq
  rw [am_cell_int (by omega)] at hws
  have ri : am_R i := am_vh (am_vt hst)
  have hset := am_ws_int (E := E) (m := m) (m2 := am_wr m q i v) (q := q) (by omega) (am_wr1 m q i v) (fun _ _ => rfl)
  refine va_iast hx hb hK hP hD hS q 0 hws (by rw [hk]; rfl) (am_vin ri h0 h1) hd fun H1 locs1 hP1 hD1 hS1 => ?_
  rw [am_clamp ri, am_upd_eq h0, hset] at hP1 hD1
  exact k H1 locs1 ls ⟨hP1, hW.2.1, hD1, hM.wr (by rw [am_rg0 (by have := am_N1000; omega) (by omega) (by omega)]; exact am_vh hst)⟩ hS1 hl hv (am_vt (am_vt (am_vt hst)))
theorem s_zastore (C : am_Cx p l e R s mm args below meth c cells slots Q E A y d P) {q : Nat} {i v : Int} (hk : (am_lay q).1 = 101) (h0 : 0 ≤ i) (h1 : i < (am_len q : Int)) (hz : v = 0 ∨ v = 1) (hd : decode (am_mi y).2.1 pc = .ok (.bastore, 1)) (k : am_at p l e R s mm args below meth c cells slots Q E A y (pc + 1) lv (st) (am_wr m q i v)) : am_at p l e R s mm args below meth c cells slots Q E A y (pc) lv (.inl v :: .inl i :: .inr (.inr q) :: st) (m) := by
  obtain ⟨hx, hb, hml, hown, hts, hfr, hlo, hce, hsl, hRO, hK, hret⟩ := id C
  intro H locs ls hW hS hl hv hst
  obtain ⟨hP, -, hD, hM⟩ := id hW
  have hq : q < am_N := am_lay_lt (by omega)
  have hws := am_ws_get E m hq
  rw [am_cell_int (by omega)] at hws
  have ri : am_R i := am_vh (am_vt hst)
  have hset := am_ws_int (E := E) (m := m) (m2 := am_wr m q i v) (q := q) (by omega) (am_wr1 m q i v) (fun _ _ => rfl)
  refine va_zast hx hb hK hP hD hS q 1 hws (by rw [hk]; rfl) (am_vin ri h0 h1) hd fun H1 locs1 hP1 hD1 hS1 => ?_
  rw [(am_nb v hz).2.2] at hP1 hD1
  rw [am_clamp ri, am_upd_eq h0, hset] at hP1 hD1
  exact k H1 locs1 ls ⟨hP1, hW.2.1, hD1, hM.wr (by rw [am_rg1 (by have := am_N1000; omega) hk]; exact hz)⟩ hS1 hl hv (am_vt (am_vt (am_vt hst)))
theorem s_bastore (C : am_Cx p l e R s mm args below meth c cells slots Q E A y d P) {q : Nat} {i v : Int} (hk : (am_lay q).1 = 102) (h0 : 0 ≤ i) (h1 : i < (am_len q : Int)) (hz : -128 ≤ v ∧ v ≤ 127) (hd : decode (am_mi y).2.1 pc = .ok (.bastore, 1)) (k : am_at p l e R s mm args below meth c cells slots Q E A y (pc + 1) lv (st) (am_wr m q i v)) : am_at p l e R s mm args below meth c cells slots Q E A y (pc) lv (.inl v :: .inl i :: .inr (.inr q) :: st) (m) := by
  obtain ⟨hx, hb, hml, hown, hts, hfr, hlo, hce, hsl, hRO, hK, hret⟩ := id C
  intro H locs ls hW hS hl hv hst
  obtain ⟨hP, -, hD, hM⟩ := id hW
  have hq : q < am_N := am_lay_lt (by omega)
  have hws := am_ws_get E m hq
  rw [am_cell_int (by omega)] at hws
  have ri : am_R i := am_vh (am_vt hst)
  have hset := am_ws_int (E := E) (m := m) (m2 := am_wr m q i v) (q := q) (by omega) (am_wr1 m q i v) (fun _ _ => rfl)
  refine va_bast hx hb hK hP hD hS q 2 hws (by rw [hk]; rfl) (am_vin ri h0 h1) hd fun H1 locs1 hP1 hD1 hS1 => ?_
  rw [vp_nar_byte, am_nby hz.1 hz.2] at hP1 hD1
  rw [am_clamp ri, am_upd_eq h0, hset] at hP1 hD1
  exact k H1 locs1 ls ⟨hP1, hW.2.1, hD1, hM.wr (by rw [am_rg2 (by have := am_N1000; omega) hk]; exact hz)⟩ hS1 hl hv (am_vt (am_vt (am_vt hst)))
theorem s_lastore (C : am_Cx p l e R s mm args below meth c cells slots Q E A y d P) {q : Nat} {i : Int} {v : Int64} (hk : (am_lay q).1 = 103) (h0 : 0 ≤ i) (h1 : i < (am_len q : Int)) (hd : decode (am_mi y).2.1 pc = .ok (.lastore, 1)) (k : am_at p l e R s mm args below meth c cells slots Q E A y (pc + 1) lv (st) (am_wl m q i v)) : am_at p l e R s mm args below meth c cells slots Q E A y (pc) lv (.inr (.inl v) :: .inl i :: .inr (.inr q) :: st) (m) := by
  obtain ⟨hx, hb, hml, hown, hts, hfr, hlo, hce, hsl, hRO, hK, hret⟩ := id C
  intro H locs ls hW hS hl hv hst
  obtain ⟨hP, -, hD, hM⟩ := id hW
  have hq : q < am_N := am_lay_lt (by omega)
  have hws := am_ws_get E m hq
  rw [am_cell_lng hk] at hws
  have ri : am_R i := am_vh (am_vt hst)
  have hset := am_ws_lng (E := E) (m := m) (m2 := am_wl m q i v) (q := q) hk (fun _ _ => rfl) (am_wl2 m q i v)
  refine va_last hx hb hK hP hD hS q 3 hws rfl (am_vin ri h0 h1) hd fun H1 locs1 hP1 hD1 hS1 => ?_
  rw [am_clamp ri, am_updL_eq h0, hset] at hP1 hD1
  exact k H1 locs1 ls ⟨hP1, hW.2.1, hD1, hM.wl⟩ hS1 hl hv (am_vt (am_vt (am_vt hst)))
theorem am_cpy_eq {f g : Int → Int} {sp dp n : Int} (h1 : 0 ≤ sp) (h2 : 0 ≤ dp) (h3 : 0 ≤ n) : va_cpy (fun j : Nat => Int32.ofInt (f (j : Int))) (fun j : Nat => Int32.ofInt (g (j : Int))) sp.toNat dp.toNat n.toNat = fun j : Nat => Int32.ofInt (am_cpy f g sp dp n (j : Int)) := by
  funext j
  simp only [va_cpy, am_cpy]
  by_cases hj : dp.toNat ≤ j ∧ j < dp.toNat + n.toNat
  · rw [if_pos hj, if_pos (by omega)]
    congr 2
    omega
  · rw [if_neg hj, if_neg (by omega)]
theorem am_cpyL_eq {f g : Int → Int64} {sp dp n : Int} (h1 : 0 ≤ sp) (h2 : 0 ≤ dp) (h3 : 0 ≤ n) : va_cpy (fun j : Nat => f (j : Int)) (fun j : Nat => g (j : Int)) sp.toNat dp.toNat n.toNat = fun j : Nat => am_cpy f g sp dp n (j : Int) := by
  funext j
  simp only [va_cpy, am_cpy]
  by_cases hj : dp.toNat ≤ j ∧ j < dp.toNat + n.toNat
  · rw [if_pos hj, if_pos (by omega)]
    congr 1
    omega
  · rw [if_neg hj, if_neg (by omega)]
theorem am_hnl {d : Nat} {R : Room} (hd1 : 1 ≤ d) (hlo : 64 * d ≤ R.locals) : (([] : List Value).map fun v => v.category).sum + (nativeFrameWords "java/lang/System" "arraycopy" 5 + 11) ≤ R.locals := by
  have h7 : nativeFrameWords "java/lang/System" "arraycopy" 5 = 7 := by decide
  rw [h7]
  simp
  omega
theorem am_nn {z : Int} (h : am_R z) (h0 : 0 ≤ z) : ¬ Int32.ofInt z < 0 := fun hh => by have := (am_ltI h am_R0).mp hh; omega
theorem s_copyi (C : am_Cx p l e R s mm args below meth c cells slots Q E A y d P) {a b i w : Nat} {sp dp n : Int} (hf : (i, w) ∈ am_act.getD (am_mi y).2.2.2.2 []) (hka : (am_lay a).1 = 100) (hkb : (am_lay b).1 = 100) (h1 : 0 ≤ sp) (h2 : 0 ≤ dp) (h3 : 0 ≤ n) (h4 : sp + n ≤ (am_len a : Int)) (h5 : dp + n ≤ (am_len b : Int)) (hd1 : 1 ≤ d) (hd : decode (am_mi y).2.1 pc = .ok (.invokestatic i, 3)) (k : am_at p l e R s mm args below meth c cells slots Q E A y (pc + 3) lv ([]) (am_ws1 m b (am_cpy (m.1 a) (m.1 b) sp dp n))) : am_at p l e R s mm args below meth c cells slots Q E A y (pc) lv ([.inl n, .inl dp, .inr (.inr b), .inl sp, .inr (.inr a)]) (m) := by
  obtain ⟨hx, hb, hml, hown, hts, hfr, hlo, hce, hsl, hRO, hK, hret⟩ := id C
  intro H locs ls hW hS hl hv hst
  obtain ⟨hP, -, hD, hM⟩ := id hW
  have hqa : a < am_N := am_lay_lt (by omega)
  have hqb : b < am_N := am_lay_lt (by omega)
  have hwa := am_ws_get E m hqa
  have hwb := am_ws_get E m hqb
  rw [am_cell_int (by omega), hka] at hwa
  rw [am_cell_int (by omega), hkb] at hwb
  have rn : am_R n := am_vh hst
  have rd : am_R dp := am_vh (am_vt hst)
  have rs : am_R sp := am_vh (am_vt (am_vt (am_vt hst)))
  have hset := am_ws_int (E := E) (m := m) (m2 := am_ws1 m b (am_cpy (m.1 a) (m.1 b) sp dp n)) (q := b) (by omega) (am_ws11 m b _) (fun _ _ => rfl)
  have e2 : (am_ws1 m b (am_cpy (m.1 a) (m.1 b) sp dp n)).1 b = am_cpy (m.1 a) (m.1 b) sp dp n := by simp [am_ws1]
  rw [hkb, e2] at hset
  have hnl := am_hnl hd1 hlo
  refine va_copyi hx hb (hml.trans hl.1.symm) hown (hts _ (am_alink hf)) (hts _ (am_big_of am_acw2 rfl)) (hts _ (am_big_of am_acw1 rfl)) (hts _ (am_big_of am_acw3 rfl)) hK hP hD hS a b 0 0 hwa hwb rfl rfl rfl (am_nn rs h1) (am_nn rd h2) (am_nn rn h3) (by rw [am_clamp rs, am_clamp rn]; omega) (by rw [am_clamp rd, am_clamp rn]; omega) (fun _ _ => rfl) (by omega) (rest := []) hnl hd fun H1 locs1 hP1 hD1 hS1 => ?_
  rw [am_clamp rs, am_clamp rd, am_clamp rn, am_cpy_eq h1 h2 h3, hset] at hP1 hD1
  refine k H1 locs1 ls ⟨hP1, hW.2.1, hD1, hM.ws1 (fun j => ?_)⟩ hS1 hl hv (fun _ h => by cases h)
  rw [am_rg0 (by have := am_N1000; omega) (by omega) (by omega)]
  unfold am_cpy
  split
  · exact hM.R _ _
  · exact hM.R _ _
theorem s_copyl (C : am_Cx p l e R s mm args below meth c cells slots Q E A y d P) {a b i w : Nat} {sp dp n : Int} (hf : (i, w) ∈ am_act.getD (am_mi y).2.2.2.2 []) (hka : (am_lay a).1 = 103) (hkb : (am_lay b).1 = 103) (h1 : 0 ≤ sp) (h2 : 0 ≤ dp) (h3 : 0 ≤ n) (h4 : sp + n ≤ (am_len a : Int)) (h5 : dp + n ≤ (am_len b : Int)) (hd1 : 1 ≤ d) (hd : decode (am_mi y).2.1 pc = .ok (.invokestatic i, 3)) (k : am_at p l e R s mm args below meth c cells slots Q E A y (pc + 3) lv ([]) (am_ws2 m b (am_cpy (m.2 a) (m.2 b) sp dp n))) : am_at p l e R s mm args below meth c cells slots Q E A y (pc) lv ([.inl n, .inl dp, .inr (.inr b), .inl sp, .inr (.inr a)]) (m) := by
  obtain ⟨hx, hb, hml, hown, hts, hfr, hlo, hce, hsl, hRO, hK, hret⟩ := id C
  intro H locs ls hW hS hl hv hst
  obtain ⟨hP, -, hD, hM⟩ := id hW
  have hqa : a < am_N := am_lay_lt (by omega)
  have hqb : b < am_N := am_lay_lt (by omega)
  have hwa := am_ws_get E m hqa
  have hwb := am_ws_get E m hqb
  rw [am_cell_lng hka] at hwa
  rw [am_cell_lng hkb] at hwb
  have rn : am_R n := am_vh hst
  have rd : am_R dp := am_vh (am_vt hst)
  have rs : am_R sp := am_vh (am_vt (am_vt (am_vt hst)))
  have hset := am_ws_lng (E := E) (m := m) (m2 := am_ws2 m b (am_cpy (m.2 a) (m.2 b) sp dp n)) (q := b) hkb (fun _ _ => rfl) (am_ws22 m b _)
  have e2 : (am_ws2 m b (am_cpy (m.2 a) (m.2 b) sp dp n)).2 b = am_cpy (m.2 a) (m.2 b) sp dp n := by simp [am_ws2]
  rw [e2] at hset
  have hnl := am_hnl hd1 hlo
  refine va_copyl hx hb (hml.trans hl.1.symm) hown (hts _ (am_alink hf)) (hts _ (am_big_of am_acw2 rfl)) (hts _ (am_big_of am_acw1 rfl)) (hts _ (am_big_of am_acw3 rfl)) hK hP hD hS a b 3 3 hwa hwb rfl rfl rfl (am_nn rs h1) (am_nn rd h2) (am_nn rn h3) (by rw [am_clamp rs, am_clamp rn]; omega) (by rw [am_clamp rd, am_clamp rn]; omega) (fun _ _ => rfl) (by omega) (rest := []) hnl hd fun H1 locs1 hP1 hD1 hS1 => ?_
  rw [am_clamp rs, am_clamp rd, am_clamp rn, am_cpyL_eq h1 h2 h3, hset] at hP1 hD1
  exact k H1 locs1 ls ⟨hP1, hW.2.1, hD1, hM.ws2⟩ hS1 hl hv (fun _ h => by cases h)
theorem s_copyt (C : am_Cx p l e R s mm args below meth c cells slots Q E A y d P) {b i w : Nat} {sp dp n : Int} (hf : (i, w) ∈ am_act.getD (am_mi y).2.2.2.2 []) (hkb : (am_lay b).1 = 100) (h1 : 0 ≤ sp) (h2 : 0 ≤ dp) (h3 : 0 ≤ n) (h4 : sp + n ≤ 7) (h5 : dp + n ≤ (am_len b : Int)) (hd1 : 1 ≤ d) (hd : decode (am_mi y).2.1 pc = .ok (.invokestatic i, 3)) (k : am_at p l e R s mm args below meth c cells slots Q E A y (pc + 3) lv ([]) (am_ws1 m b (am_cpy (am_tab 902) (m.1 b) sp dp n))) : am_at p l e R s mm args below meth c cells slots Q E A y (pc) lv ([.inl n, .inl dp, .inr (.inr b), .inl sp, .inr (.inr 902)]) (m) := by
  obtain ⟨hx, hb, hml, hown, hts, hfr, hlo, hce, hsl, hRO, hK, hret⟩ := id C
  intro H locs ls hW hS hl hv hst
  obtain ⟨hP, -, hD, hM⟩ := id hW
  have hqb : b < am_N := am_lay_lt (by omega)
  have hwb := am_ws_get E m hqb
  rw [am_cell_int (by omega), hkb] at hwb
  have rn : am_R n := am_vh hst
  have rd : am_R dp := am_vh (am_vt hst)
  have rs : am_R sp := am_vh (am_vt (am_vt (am_vt hst)))
  have hset := am_ws_int (E := E) (m := m) (m2 := am_ws1 m b (am_cpy (am_tab 902) (m.1 b) sp dp n)) (q := b) (by omega) (am_ws11 m b _) (fun _ _ => rfl)
  have e2 : (am_ws1 m b (am_cpy (am_tab 902) (m.1 b) sp dp n)).1 b = am_cpy (am_tab 902) (m.1 b) sp dp n := by simp [am_ws1]
  rw [hkb, e2] at hset
  have hnl := am_hnl hd1 hlo
  have hml2 : c.maxLocals = ls.size := hml.trans hl.1.symm
  have nn : ∀ {z : Int}, am_R z → 0 ≤ z → (Int32.ofInt z).toInt = ((Int32.ofInt z).toNatClampNeg : Int) := fun {z} h h0 => by rw [am_to h, am_clamp h, am_toN h0]
  intro T hT X
  obtain ⟨scr, hs1, hs2, hs3, hs4, -, hs5, hs7⟩ := hRO.2.2.1.2
  have hc0 : H[am_ad E 902]? = some scr := by rw [hS.2.1 _ (Array.getElem?_eq_some_iff.mp hs1).1 hs7]; exact hs1
  have hc1 : H[am_ad E b]? = some (vp_cell (E.2.1 100) (am_len b, .inl fun j : Nat => Int32.ofInt (m.1 b (j : Int)))) := hP b _ hwb
  obtain ⟨hs6, k0, hk0, cm0, hkk0⟩ := hs2
  obtain ⟨-, k1, hk1, cm1, hkk1⟩ := (hK.2 0 (E.2.1 100, .int) rfl).1 (am_len b) (fun j => .int (Int32.ofInt (m.1 b (j : Int))))
  have i4 : (Int32.ofInt sp).toNatClampNeg + (Int32.ofInt n).toNatClampNeg ≤ 7 := by rw [am_clamp rs, am_clamp rn]; omega
  have i5 : (Int32.ofInt dp).toNatClampNeg + (Int32.ofInt n).toNatClampNeg ≤ am_len b := by rw [am_clamp rd, am_clamp rn]; omega
  obtain ⟨vm', X', step⟩ := X.arraycopy hx hown (hts _ (am_alink hf)) (hts _ (am_big_of am_acw2 rfl)) (hts _ (am_big_of am_acw1 rfl)) (hts _ (am_big_of am_acw3 rfl)) (src := am_ad E 902) (dst := am_ad E b) (cs := scr) (cd := vp_cell (E.2.1 100) (am_len b, .inl fun j : Nat => Int32.ofInt (m.1 b (j : Int)))) (srcPos := Int32.ofInt sp) (destPos := Int32.ofInt dp) (n := Int32.ofInt n) (by rw [hT]; exact hc0) (by rw [hT]; exact hc1)
    hs6 (fun _ h => by cases h) hs3 (fun h => by cases h) hk0 hk1 hkk0 hkk1 (by simp [refKind]) (am_nn rs h1) (am_nn rd h2) (am_nn rn h3)
    (by rw [nn rs h1, nn rn h3]; omega)
    (by rw [nn rd h2, nn rn h3]; show ¬ _ > ((arrV (E.2.1 100) (am_len b) (fun j => .int (Int32.ofInt (m.1 b (j : Int))))).slots.size : Int); rw [arrV_size]; omega)
    (fun vm₁ _ i hi => by
      have e : scr.slots.getD ((Int32.ofInt sp).toNatClampNeg + i) .null = .int (Int32.ofInt (am_tab 902 (((Int32.ofInt sp).toNatClampNeg + i : Nat) : Int))) := by
        rw [Array.getD_eq_getD_getElem?, hs5 _ (by omega)]
        rfl
      refine ⟨?_, ?_⟩
      · rw [e]
        rfl
      · rw [e]
        exact trivial)
    (g := F0 mm pc ls [.int (Int32.ofInt n), .int (Int32.ofInt dp), .ref (am_ad E b), .int (Int32.ofInt sp), .ref (am_ad E 902)]) rfl (by rw [hml2]) (rest := []) rfl (by rw [hb]; exact hd) (by omega) (by show 2 * 0 + _ + _ ≤ _; omega)
  have e1 : copied scr (vp_cell (E.2.1 100) (am_len b, .inl fun j : Nat => Int32.ofInt (m.1 b (j : Int)))) (Int32.ofInt sp) (Int32.ofInt dp) (Int32.ofInt n) = vp_cell (E.2.1 100) (am_len b, .inl (va_cpy (fun j : Nat => Int32.ofInt (am_tab 902 (j : Int))) (fun j : Nat => Int32.ofInt (m.1 b (j : Int))) (Int32.ofInt sp).toNatClampNeg (Int32.ofInt dp).toNatClampNeg (Int32.ofInt n).toNatClampNeg)) := va_copiedX (fun z => .int z) scr (E.2.1 100) (fun j : Nat => Int32.ofInt (am_tab 902 (j : Int))) (fun j : Nat => Int32.ofInt (m.1 b (j : Int))) hs5 i4
  rw [e1, am_clamp rs, am_clamp rd, am_clamp rn, am_cpy_eq h1 h2 h3] at X' step
  have hlb : am_ad E b < H.size := (Array.getElem?_eq_some_iff.mp hc1).1
  have oq : ∀ (x : Cell) (q : Nat), q ≠ am_ad E b → (H.setIfInBounds (am_ad E b) x)[q]? = H[q]? := fun x q hq => by simp [Array.getElem?_setIfInBounds, Ne.symm hq]
  have hAb : A (am_ad E b) := hD.2 b _ hwb
  have hP1 := hP.set hD hwb (e := .inl (E.2.1 100, am_len b, .inl fun j : Nat => Int32.ofInt (am_cpy (am_tab 902) (m.1 b) sp dp n (j : Int)))) (H1 := H.setIfInBounds (am_ad E b) (vp_cell (E.2.1 100) (am_len b, .inl fun j : Nat => Int32.ofInt (am_cpy (am_tab 902) (m.1 b) sp dp n (j : Int))))) (show (H.setIfInBounds (am_ad E b) _)[am_ad E b]? = some _ by simp [Array.getElem?_setIfInBounds, hlb]) (oq _)
  have hD1 := hD.set (e := .inl (E.2.1 100, am_len b, .inl fun j : Nat => Int32.ofInt (am_cpy (am_tab 902) (m.1 b) sp dp n (j : Int)))) hwb
  rw [hset] at hP1 hD1
  have hMR : am_MR (am_ws1 m b (am_cpy (am_tab 902) (m.1 b) sp dp n)) := hM.ws1 (fun j => by
    rw [am_rg0 (by have := am_N1000; omega) (by omega) (by omega)]
    unfold am_cpy
    split
    · have key : ∀ j : Nat, j < 7 → am_untT.getD j 0 ≤ 999999999 ∧ 0 ≤ am_untT.getD j 0 := by decide
      rename_i hj
      have := key (sp + (j - dp)).toNat (by omega)
      show am_R (am_untT.getD (sp + (j - dp)).toNat 0)
      unfold am_R
      omega
    · exact hM.R _ _)
  obtain ⟨t, a1, b1⟩ := k _ _ ls ⟨hP1, hW.2.1, hD1, hMR⟩ ⟨by simp; exact hS.1, fun q g1 g2 => by
      rw [oq _ q (fun e => g2 (by rw [e]; exact hAb))]
      exact hS.2.1 q g1 g2, fun q hq => by
      rcases List.mem_append.mp hq with h | h
      · exact hS.2.2 q h
      · obtain ⟨z, -, hz⟩ := List.mem_map.mp h
        rw [← hz]
        exact hAb⟩ hl hv (fun _ h => by cases h) _ (by rw [← hT]; rfl) X'
  exact ⟨t, step t a1, b1⟩
end
end
section
set_option maxRecDepth 20000 in
theorem cw_0 : lw_tbl[678]? = some (Cond.code mi_Acts_forget.1 mi_Acts_forget.2.1 mi_Acts_forget.2.2.1 mi_Acts_forget.2.2.2.1) := rfl
set_option maxRecDepth 20000 in
theorem cw_1 : lw_tbl[699]? = some (Cond.code mi_Acts_note.1 mi_Acts_note.2.1 mi_Acts_note.2.2.1 mi_Acts_note.2.2.2.1) := rfl
set_option maxRecDepth 20000 in
theorem cw_2 : lw_tbl[1033]? = some (Cond.code mi_Acts_undoLatest.1 mi_Acts_undoLatest.2.1 mi_Acts_undoLatest.2.2.1 mi_Acts_undoLatest.2.2.2.1) := rfl
set_option maxRecDepth 20000 in
theorem cw_3 : lw_tbl[892]? = some (Cond.code mi_Basis_independent.1 mi_Basis_independent.2.1 mi_Basis_independent.2.2.1 mi_Basis_independent.2.2.2.1) := rfl
set_option maxRecDepth 20000 in
theorem cw_4 : lw_tbl[896]? = some (Cond.code mi_Basis_join.1 mi_Basis_join.2.1 mi_Basis_join.2.2.1 mi_Basis_join.2.2.2.1) := rfl
set_option maxRecDepth 20000 in
theorem cw_5 : lw_tbl[522]? = some (Cond.code mi_Given_reset.1 mi_Given_reset.2.1 mi_Given_reset.2.2.1 mi_Given_reset.2.2.2.1) := rfl
set_option maxRecDepth 20000 in
theorem cw_6 : lw_tbl[674]? = some (Cond.code mi_Given_copy.1 mi_Given_copy.2.1 mi_Given_copy.2.2.1 mi_Given_copy.2.2.2.1) := rfl
set_option maxRecDepth 20000 in
theorem cw_7 : lw_tbl[686]? = some (Cond.code mi_Given_has.1 mi_Given_has.2.1 mi_Given_has.2.2.1 mi_Given_has.2.2.2.1) := rfl
set_option maxRecDepth 20000 in
theorem cw_8 : lw_tbl[660]? = some (Cond.code mi_Given_find.1 mi_Given_find.2.1 mi_Given_find.2.2.1 mi_Given_find.2.2.2.1) := rfl
set_option maxRecDepth 20000 in
theorem cw_9 : lw_tbl[670]? = some (Cond.code mi_Given_insert.1 mi_Given_insert.2.1 mi_Given_insert.2.2.1 mi_Given_insert.2.2.2.1) := rfl
set_option maxRecDepth 20000 in
theorem cw_10 : lw_tbl[711]? = some (Cond.code mi_Given_drop.1 mi_Given_drop.2.1 mi_Given_drop.2.2.1 mi_Given_drop.2.2.2.1) := rfl
set_option maxRecDepth 20000 in
theorem cw_11 : lw_tbl[720]? = some (Cond.code mi_Given_revalue.1 mi_Given_revalue.2.1 mi_Given_revalue.2.2.1 mi_Given_revalue.2.2.2.1) := rfl
set_option maxRecDepth 20000 in
theorem cw_12 : lw_tbl[646]? = some (Cond.code mi_Given_resettle.1 mi_Given_resettle.2.1 mi_Given_resettle.2.2.1 mi_Given_resettle.2.2.2.1) := rfl
set_option maxRecDepth 20000 in
theorem cw_13 : lw_tbl[694]? = some (Cond.code mi_Given_canBeValue.1 mi_Given_canBeValue.2.1 mi_Given_canBeValue.2.2.1 mi_Given_canBeValue.2.2.2.1) := rfl
set_option maxRecDepth 20000 in
theorem cw_14 : lw_tbl[729]? = some (Cond.code mi_Given_fitsBits.1 mi_Given_fitsBits.2.1 mi_Given_fitsBits.2.2.1 mi_Given_fitsBits.2.2.2.1) := rfl
set_option maxRecDepth 20000 in
theorem cw_15 : lw_tbl[649]? = some (Cond.code mi_Given_canBeSetting.1 mi_Given_canBeSetting.2.1 mi_Given_canBeSetting.2.2.1 mi_Given_canBeSetting.2.2.2.1) := rfl
set_option maxRecDepth 20000 in
theorem cw_16 : lw_tbl[737]? = some (Cond.code mi_Marks_mix.1 mi_Marks_mix.2.1 mi_Marks_mix.2.2.1 mi_Marks_mix.2.2.2.1) := rfl
set_option maxRecDepth 20000 in
theorem cw_17 : lw_tbl[751]? = some (Cond.code mi_Marks_aim.1 mi_Marks_aim.2.1 mi_Marks_aim.2.2.1 mi_Marks_aim.2.2.2.1) := rfl
set_option maxRecDepth 20000 in
theorem cw_18 : lw_tbl[756]? = some (Cond.code mi_Marks_look.1 mi_Marks_look.2.1 mi_Marks_look.2.2.1 mi_Marks_look.2.2.2.1) := rfl
set_option maxRecDepth 20000 in
theorem cw_19 : lw_tbl[760]? = some (Cond.code mi_Marks_placeApart.1 mi_Marks_placeApart.2.1 mi_Marks_placeApart.2.2.1 mi_Marks_placeApart.2.2.2.1) := rfl
set_option maxRecDepth 20000 in
theorem cw_20 : lw_tbl[768]? = some (Cond.code mi_Marks_placeClose.1 mi_Marks_placeClose.2.1 mi_Marks_placeClose.2.2.1 mi_Marks_placeClose.2.2.2.1) := rfl
set_option maxRecDepth 20000 in
theorem cw_21 : lw_tbl[772]? = some (Cond.code mi_Marks_placeFree.1 mi_Marks_placeFree.2.1 mi_Marks_placeFree.2.2.1 mi_Marks_placeFree.2.2.2.1) := rfl
set_option maxRecDepth 20000 in
theorem cw_22 : lw_tbl[763]? = some (Cond.code mi_Marks_share.1 mi_Marks_share.2.1 mi_Marks_share.2.2.1 mi_Marks_share.2.2.2.1) := rfl
set_option maxRecDepth 20000 in
theorem cw_23 : lw_tbl[776]? = some (Cond.code mi_Marks_gatherTouched.1 mi_Marks_gatherTouched.2.1 mi_Marks_gatherTouched.2.2.1 mi_Marks_gatherTouched.2.2.2.1) := rfl
set_option maxRecDepth 20000 in
theorem cw_24 : lw_tbl[780]? = some (Cond.code mi_Marks_touchOnly.1 mi_Marks_touchOnly.2.1 mi_Marks_touchOnly.2.2.1 mi_Marks_touchOnly.2.2.2.1) := rfl
set_option maxRecDepth 20000 in
theorem cw_25 : lw_tbl[995]? = some (Cond.code mi_Marks_sum.1 mi_Marks_sum.2.1 mi_Marks_sum.2.2.1 mi_Marks_sum.2.2.2.1) := rfl
set_option maxRecDepth 20000 in
theorem cw_26 : lw_tbl[904]? = some (Cond.code mi_Mender_search.1 mi_Mender_search.2.1 mi_Mender_search.2.2.1 mi_Mender_search.2.2.2.1) := rfl
set_option maxRecDepth 20000 in
theorem cw_27 : lw_tbl[908]? = some (Cond.code mi_Mender_choose.1 mi_Mender_choose.2.1 mi_Mender_choose.2.2.1 mi_Mender_choose.2.2.2.1) := rfl
set_option maxRecDepth 20000 in
theorem cw_28 : lw_tbl[916]? = some (Cond.code mi_Mender_leaveOut.1 mi_Mender_leaveOut.2.1 mi_Mender_leaveOut.2.2.1 mi_Mender_leaveOut.2.2.2.1) := rfl
set_option maxRecDepth 20000 in
theorem cw_29 : lw_tbl[920]? = some (Cond.code mi_Mender_take.1 mi_Mender_take.2.1 mi_Mender_take.2.2.1 mi_Mender_take.2.2.2.1) := rfl
set_option maxRecDepth 20000 in
theorem cw_30 : lw_tbl[926]? = some (Cond.code mi_Mender_bringBack.1 mi_Mender_bringBack.2.1 mi_Mender_bringBack.2.2.1 mi_Mender_bringBack.2.2.2.1) := rfl
set_option maxRecDepth 20000 in
theorem cw_31 : lw_tbl[829]? = some (Cond.code mi_Peeling_run.1 mi_Peeling_run.2.1 mi_Peeling_run.2.2.1 mi_Peeling_run.2.2.2.1) := rfl
set_option maxRecDepth 20000 in
theorem cw_32 : lw_tbl[849]? = some (Cond.code mi_Peeling_runLine.1 mi_Peeling_runLine.2.1 mi_Peeling_runLine.2.2.1 mi_Peeling_runLine.2.2.2.1) := rfl
set_option maxRecDepth 20000 in
theorem cw_33 : lw_tbl[853]? = some (Cond.code mi_Peeling_lineUp.1 mi_Peeling_lineUp.2.1 mi_Peeling_lineUp.2.2.1 mi_Peeling_lineUp.2.2.2.1) := rfl
set_option maxRecDepth 20000 in
theorem cw_34 : lw_tbl[857]? = some (Cond.code mi_Peeling_leaveLine.1 mi_Peeling_leaveLine.2.1 mi_Peeling_leaveLine.2.2.1 mi_Peeling_leaveLine.2.2.2.1) := rfl
set_option maxRecDepth 20000 in
theorem cw_35 : lw_tbl[833]? = some (Cond.code mi_Peeling_runLeast.1 mi_Peeling_runLeast.2.1 mi_Peeling_runLeast.2.2.1 mi_Peeling_runLeast.2.2.2.1) := rfl
set_option maxRecDepth 20000 in
theorem cw_36 : lw_tbl[841]? = some (Cond.code mi_Peeling_goOut.1 mi_Peeling_goOut.2.1 mi_Peeling_goOut.2.2.1 mi_Peeling_goOut.2.2.2.1) := rfl
set_option maxRecDepth 20000 in
theorem cw_37 : lw_tbl[952]? = some (Cond.code mi_Peeling_fillBack.1 mi_Peeling_fillBack.2.1 mi_Peeling_fillBack.2.2.1 mi_Peeling_fillBack.2.2.2.1) := rfl
set_option maxRecDepth 20000 in
theorem cw_38 : lw_tbl[947]? = some (Cond.code mi_Peeling_countWoken.1 mi_Peeling_countWoken.2.1 mi_Peeling_countWoken.2.2.1 mi_Peeling_countWoken.2.2.2.1) := rfl
set_option maxRecDepth 20000 in
theorem cw_39 : lw_tbl[518]? = some (Cond.code mi_Reader_read.1 mi_Reader_read.2.1 mi_Reader_read.2.2.1 mi_Reader_read.2.2.2.1) := rfl
set_option maxRecDepth 20000 in
theorem cw_40 : lw_tbl[551]? = some (Cond.code mi_Reader_readSetting.1 mi_Reader_readSetting.2.1 mi_Reader_readSetting.2.2.1 mi_Reader_readSetting.2.2.2.1) := rfl
set_option maxRecDepth 20000 in
theorem cw_41 : lw_tbl[655]? = some (Cond.code mi_Reader_readKey.1 mi_Reader_readKey.2.1 mi_Reader_readKey.2.2.1 mi_Reader_readKey.2.2.2.1) := rfl
set_option maxRecDepth 20000 in
theorem cw_42 : lw_tbl[665]? = some (Cond.code mi_Reader_takeValue.1 mi_Reader_takeValue.2.1 mi_Reader_takeValue.2.2.1 mi_Reader_takeValue.2.2.2.1) := rfl
set_option maxRecDepth 20000 in
theorem cw_43 : lw_tbl[621]? = some (Cond.code mi_Reader_takeNumber.1 mi_Reader_takeNumber.2.1 mi_Reader_takeNumber.2.2.1 mi_Reader_takeNumber.2.2.2.1) := rfl
set_option maxRecDepth 20000 in
theorem cw_44 : lw_tbl[629]? = some (Cond.code mi_Reader_takeChoice.1 mi_Reader_takeChoice.2.1 mi_Reader_takeChoice.2.2.1 mi_Reader_takeChoice.2.2.2.1) := rfl
set_option maxRecDepth 20000 in
theorem cw_45 : lw_tbl[642]? = some (Cond.code mi_Reader_passStop.1 mi_Reader_passStop.2.1 mi_Reader_passStop.2.2.1 mi_Reader_passStop.2.2.2.1) := rfl
set_option maxRecDepth 20000 in
theorem cw_46 : lw_tbl[625]? = some (Cond.code mi_Reader_fail.1 mi_Reader_fail.2.1 mi_Reader_fail.2.2.1 mi_Reader_fail.2.2.2.1) := rfl
set_option maxRecDepth 20000 in
theorem cw_47 : lw_tbl[554]? = some (Cond.code mi_Reader_nameOf.1 mi_Reader_nameOf.2.1 mi_Reader_nameOf.2.2.1 mi_Reader_nameOf.2.2.2.1) := rfl
set_option maxRecDepth 20000 in
theorem cw_48 : lw_tbl[632]? = some (Cond.code mi_Reader_choiceOf.1 mi_Reader_choiceOf.2.1 mi_Reader_choiceOf.2.2.1 mi_Reader_choiceOf.2.2.2.1) := rfl
set_option maxRecDepth 20000 in
theorem cw_49 : lw_tbl[873]? = some (Cond.code mi_Rounds_run.1 mi_Rounds_run.2.1 mi_Rounds_run.2.2.1 mi_Rounds_run.2.2.2.1) := rfl
set_option maxRecDepth 20000 in
theorem cw_50 : lw_tbl[878]? = some (Cond.code mi_Rounds_mark.1 mi_Rounds_mark.2.1 mi_Rounds_mark.2.2.1 mi_Rounds_mark.2.2.2.1) := rfl
set_option maxRecDepth 20000 in
theorem cw_51 : lw_tbl[883]? = some (Cond.code mi_Rounds_takeMarked.1 mi_Rounds_takeMarked.2.1 mi_Rounds_takeMarked.2.2.1 mi_Rounds_takeMarked.2.2.2.1) := rfl
set_option maxRecDepth 20000 in
theorem cw_52 : lw_tbl[800]? = some (Cond.code mi_Row_lay.1 mi_Row_lay.2.1 mi_Row_lay.2.2.1 mi_Row_lay.2.2.2.1) := rfl
set_option maxRecDepth 20000 in
theorem cw_53 : lw_tbl[809]? = some (Cond.code mi_Row_putBack.1 mi_Row_putBack.2.1 mi_Row_putBack.2.2.1 mi_Row_putBack.2.2.2.1) := rfl
set_option maxRecDepth 20000 in
theorem cw_54 : lw_tbl[845]? = some (Cond.code mi_Row_takeOff.1 mi_Row_takeOff.2.1 mi_Row_takeOff.2.2.1 mi_Row_takeOff.2.2.2.1) := rfl
set_option maxRecDepth 20000 in
theorem cw_55 : lw_tbl[837]? = some (Cond.code mi_Row_isAlone.1 mi_Row_isAlone.2.1 mi_Row_isAlone.2.2.1 mi_Row_isAlone.2.2.2.1) := rfl
set_option maxRecDepth 20000 in
theorem cw_56 : lw_tbl[912]? = some (Cond.code mi_Row_countTouched.1 mi_Row_countTouched.2.1 mi_Row_countTouched.2.2.1 mi_Row_countTouched.2.2.2.1) := rfl
set_option maxRecDepth 20000 in
theorem cw_57 : lw_tbl[865]? = some (Cond.code mi_Row_leftAt.1 mi_Row_leftAt.2.1 mi_Row_leftAt.2.2.1 mi_Row_leftAt.2.2.2.1) := rfl
set_option maxRecDepth 20000 in
theorem cw_58 : lw_tbl[817]? = some (Cond.code mi_Row_touchSame.1 mi_Row_touchSame.2.1 mi_Row_touchSame.2.2.1 mi_Row_touchSame.2.2.2.1) := rfl
set_option maxRecDepth 20000 in
theorem cw_59 : lw_tbl[960]? = some (Cond.code mi_Sieve_describe.1 mi_Sieve_describe.2.1 mi_Sieve_describe.2.2.1 mi_Sieve_describe.2.2.2.1) := rfl
set_option maxRecDepth 20000 in
theorem cw_60 : lw_tbl[1016]? = some (Cond.code mi_Sieve_copy.1 mi_Sieve_copy.2.1 mi_Sieve_copy.2.2.1 mi_Sieve_copy.2.2.2.1) := rfl
set_option maxRecDepth 20000 in
theorem cw_61 : lw_tbl[973]? = some (Cond.code mi_Sieve_length.1 mi_Sieve_length.2.1 mi_Sieve_length.2.2.1 mi_Sieve_length.2.2.2.1) := rfl
set_option maxRecDepth 20000 in
theorem cw_62 : lw_tbl[969]? = some (Cond.code mi_Sieve_countBits.1 mi_Sieve_countBits.2.1 mi_Sieve_countBits.2.2.1 mi_Sieve_countBits.2.2.2.1) := rfl
set_option maxRecDepth 20000 in
theorem cw_63 : lw_tbl[986]? = some (Cond.code mi_Sieve_aim.1 mi_Sieve_aim.2.1 mi_Sieve_aim.2.2.1 mi_Sieve_aim.2.2.2.1) := rfl
set_option maxRecDepth 20000 in
theorem cw_64 : lw_tbl[991]? = some (Cond.code mi_Sieve_letsThrough.1 mi_Sieve_letsThrough.2.1 mi_Sieve_letsThrough.2.2.1 mi_Sieve_letsThrough.2.2.2.1) := rfl
set_option maxRecDepth 20000 in
theorem cw_65 : lw_tbl[1025]? = some (Cond.code mi_Sieve_countUnlike.1 mi_Sieve_countUnlike.2.1 mi_Sieve_countUnlike.2.2.1 mi_Sieve_countUnlike.2.2.2.1) := rfl
set_option maxRecDepth 20000 in
theorem cw_66 : lw_tbl[506]? = some (Cond.code mi_Tape_append.1 mi_Tape_append.2.1 mi_Tape_append.2.2.1 mi_Tape_append.2.2.2.1) := rfl
set_option maxRecDepth 20000 in
theorem cw_67 : lw_tbl[529]? = some (Cond.code mi_Tape_rewind.1 mi_Tape_rewind.2.1 mi_Tape_rewind.2.2.1 mi_Tape_rewind.2.2.2.1) := rfl
set_option maxRecDepth 20000 in
theorem cw_68 : lw_tbl[533]? = some (Cond.code mi_Tape_step.1 mi_Tape_step.2.1 mi_Tape_step.2.2.1 mi_Tape_step.2.2.2.1) := rfl
set_option maxRecDepth 20000 in
theorem cw_69 : lw_tbl[540]? = some (Cond.code mi_Tape_takeWord.1 mi_Tape_takeWord.2.1 mi_Tape_takeWord.2.2.1 mi_Tape_takeWord.2.2.2.1) := rfl
set_option maxRecDepth 20000 in
theorem cw_70 : lw_tbl[547]? = some (Cond.code mi_Tape_takeNumber.1 mi_Tape_takeNumber.2.1 mi_Tape_takeNumber.2.2.1 mi_Tape_takeNumber.2.2.2.1) := rfl
set_option maxRecDepth 20000 in
theorem cw_71 : lw_tbl[564]? = some (Cond.code mi_Tape_isWord.1 mi_Tape_isWord.2.1 mi_Tape_isWord.2.2.1 mi_Tape_isWord.2.2.2.1) := rfl
set_option maxRecDepth 20000 in
theorem cw_72 : lw_tbl[536]? = some (Cond.code mi_Tape_isLetter.1 mi_Tape_isLetter.2.1 mi_Tape_isLetter.2.2.1 mi_Tape_isLetter.2.2.2.1) := rfl
set_option maxRecDepth 20000 in
theorem cw_73 : lw_tbl[543]? = some (Cond.code mi_Tape_isDigit.1 mi_Tape_isDigit.2.1 mi_Tape_isDigit.2.2.1 mi_Tape_isDigit.2.2.2.1) := rfl
set_option maxRecDepth 20000 in
theorem cw_74 : lw_tbl[502]? = some (Cond.code mi_T_feed.1 mi_T_feed.2.1 mi_T_feed.2.2.1 mi_T_feed.2.2.2.1) := rfl
set_option maxRecDepth 20000 in
theorem cw_75 : lw_tbl[510]? = some (Cond.code mi_T_end.1 mi_T_end.2.1 mi_T_end.2.2.1 mi_T_end.2.2.2.1) := rfl
set_option maxRecDepth 20000 in
theorem cw_76 : lw_tbl[514]? = some (Cond.code mi_T_text.1 mi_T_text.2.1 mi_T_text.2.2.1 mi_T_text.2.2.2.1) := rfl
set_option maxRecDepth 20000 in
theorem cw_77 : lw_tbl[1050]? = some (Cond.code mi_T_key.1 mi_T_key.2.1 mi_T_key.2.2.1 mi_T_key.2.2.2.1) := rfl
set_option maxRecDepth 20000 in
theorem cw_78 : lw_tbl[682]? = some (Cond.code mi_T_worth.1 mi_T_worth.2.1 mi_T_worth.2.2.1 mi_T_worth.2.2.2.1) := rfl
set_option maxRecDepth 20000 in
theorem cw_79 : lw_tbl[690]? = some (Cond.code mi_T_add.1 mi_T_add.2.1 mi_T_add.2.2.1 mi_T_add.2.2.2.1) := rfl
set_option maxRecDepth 20000 in
theorem cw_80 : lw_tbl[707]? = some (Cond.code mi_T_gone.1 mi_T_gone.2.1 mi_T_gone.2.2.1 mi_T_gone.2.2.2.1) := rfl
set_option maxRecDepth 20000 in
theorem cw_81 : lw_tbl[716]? = some (Cond.code mi_T_turn.1 mi_T_turn.2.1 mi_T_turn.2.2.1 mi_T_turn.2.2.2.1) := rfl
set_option maxRecDepth 20000 in
theorem cw_82 : lw_tbl[724]? = some (Cond.code mi_T_set.1 mi_T_set.2.1 mi_T_set.2.2.1 mi_T_set.2.2.2.1) := rfl
set_option maxRecDepth 20000 in
theorem cw_83 : lw_tbl[734]? = some (Cond.code mi_T_hash.1 mi_T_hash.2.1 mi_T_hash.2.2.1 mi_T_hash.2.2.2.1) := rfl
set_option maxRecDepth 20000 in
theorem cw_84 : lw_tbl[743]? = some (Cond.code mi_T_cell.1 mi_T_cell.2.1 mi_T_cell.2.2.1 mi_T_cell.2.2.2.1) := rfl
set_option maxRecDepth 20000 in
theorem cw_85 : lw_tbl[788]? = some (Cond.code mi_T_print.1 mi_T_print.2.1 mi_T_print.2.2.1 mi_T_print.2.2.2.1) := rfl
set_option maxRecDepth 20000 in
theorem cw_86 : lw_tbl[792]? = some (Cond.code mi_T_load.1 mi_T_load.2.1 mi_T_load.2.2.1 mi_T_load.2.2.2.1) := rfl
set_option maxRecDepth 20000 in
theorem cw_87 : lw_tbl[813]? = some (Cond.code mi_T_twins.1 mi_T_twins.2.1 mi_T_twins.2.2.1 mi_T_twins.2.2.2.1) := rfl
set_option maxRecDepth 20000 in
theorem cw_88 : lw_tbl[821]? = some (Cond.code mi_T_peel.1 mi_T_peel.2.1 mi_T_peel.2.2.1 mi_T_peel.2.2.2.1) := rfl
set_option maxRecDepth 20000 in
theorem cw_89 : lw_tbl[861]? = some (Cond.code mi_T_core.1 mi_T_core.2.1 mi_T_core.2.2.1 mi_T_core.2.2.2.1) := rfl
set_option maxRecDepth 20000 in
theorem cw_90 : lw_tbl[869]? = some (Cond.code mi_T_level.1 mi_T_level.2.1 mi_T_level.2.2.1 mi_T_level.2.2.2.1) := rfl
set_option maxRecDepth 20000 in
theorem cw_91 : lw_tbl[888]? = some (Cond.code mi_T_rank.1 mi_T_rank.2.1 mi_T_rank.2.2.1 mi_T_rank.2.2.2.1) := rfl
set_option maxRecDepth 20000 in
theorem cw_92 : lw_tbl[900]? = some (Cond.code mi_T_mend.1 mi_T_mend.2.1 mi_T_mend.2.2.1 mi_T_mend.2.2.2.1) := rfl
set_option maxRecDepth 20000 in
theorem cw_93 : lw_tbl[931]? = some (Cond.code mi_T_tight.1 mi_T_tight.2.1 mi_T_tight.2.2.1 mi_T_tight.2.2.2.1) := rfl
set_option maxRecDepth 20000 in
theorem cw_94 : lw_tbl[939]? = some (Cond.code mi_T_peels.1 mi_T_peels.2.1 mi_T_peels.2.2.1 mi_T_peels.2.2.2.1) := rfl
set_option maxRecDepth 20000 in
theorem cw_95 : lw_tbl[943]? = some (Cond.code mi_T_wake.1 mi_T_wake.2.1 mi_T_wake.2.2.1 mi_T_wake.2.2.2.1) := rfl
set_option maxRecDepth 20000 in
theorem cw_96 : lw_tbl[956]? = some (Cond.code mi_T_build.1 mi_T_build.2.1 mi_T_build.2.2.1 mi_T_build.2.2.2.1) := rfl
set_option maxRecDepth 20000 in
theorem cw_97 : lw_tbl[965]? = some (Cond.code mi_T_built.1 mi_T_built.2.1 mi_T_built.2.2.1 mi_T_built.2.2.2.1) := rfl
set_option maxRecDepth 20000 in
theorem cw_98 : lw_tbl[977]? = some (Cond.code mi_T_filled.1 mi_T_filled.2.1 mi_T_filled.2.2.1 mi_T_filled.2.2.2.1) := rfl
set_option maxRecDepth 20000 in
theorem cw_99 : lw_tbl[982]? = some (Cond.code mi_T_passes.1 mi_T_passes.2.1 mi_T_passes.2.2.1 mi_T_passes.2.2.2.1) := rfl
set_option maxRecDepth 20000 in
theorem cw_100 : lw_tbl[999]? = some (Cond.code mi_T_told.1 mi_T_told.2.1 mi_T_told.2.2.1 mi_T_told.2.2.2.1) := rfl
set_option maxRecDepth 20000 in
theorem cw_101 : lw_tbl[1004]? = some (Cond.code mi_T_right.1 mi_T_right.2.1 mi_T_right.2.2.1 mi_T_right.2.2.2.1) := rfl
set_option maxRecDepth 20000 in
theorem cw_102 : lw_tbl[1008]? = some (Cond.code mi_T_strangers.1 mi_T_strangers.2.1 mi_T_strangers.2.2.1 mi_T_strangers.2.2.2.1) := rfl
set_option maxRecDepth 20000 in
theorem cw_103 : lw_tbl[1012]? = some (Cond.code mi_T_shelf.1 mi_T_shelf.2.1 mi_T_shelf.2.2.1 mi_T_shelf.2.2.2.1) := rfl
set_option maxRecDepth 20000 in
theorem cw_104 : lw_tbl[1021]? = some (Cond.code mi_T_unlike.1 mi_T_unlike.2.1 mi_T_unlike.2.2.1 mi_T_unlike.2.2.2.1) := rfl
set_option maxRecDepth 20000 in
theorem cw_105 : lw_tbl[1029]? = some (Cond.code mi_T_undo.1 mi_T_undo.2.1 mi_T_undo.2.2.1 mi_T_undo.2.2.2.1) := rfl
set_option maxRecDepth 20000 in
theorem cw_106 : lw_tbl[1041]? = some (Cond.code mi_T_count.1 mi_T_count.2.1 mi_T_count.2.2.1 mi_T_count.2.2.2.1) := rfl
set_option maxRecDepth 20000 in
theorem cw_107 : lw_tbl[747]? = some (Cond.code mi_T_lookNow.1 mi_T_lookNow.2.1 mi_T_lookNow.2.2.1 mi_T_lookNow.2.2.2.1) := rfl
set_option maxRecDepth 20000 in
theorem cw_108 : lw_tbl[796]? = some (Cond.code mi_T_layNow.1 mi_T_layNow.2.1 mi_T_layNow.2.2.1 mi_T_layNow.2.2.2.1) := rfl
set_option maxRecDepth 20000 in
theorem cw_109 : lw_tbl[825]? = some (Cond.code mi_T_peelNow.1 mi_T_peelNow.2.1 mi_T_peelNow.2.2.1 mi_T_peelNow.2.2.2.1) := rfl
set_option maxRecDepth 20000 in
theorem cw_110 : lw_tbl[935]? = some (Cond.code mi_T_allPeel.1 mi_T_allPeel.2.1 mi_T_allPeel.2.2.1 mi_T_allPeel.2.2.2.1) := rfl
set_option maxRecDepth 20000 in
theorem cw_111 : lw_tbl[1115]? = some (Cond.code mi_M_thrown.1 mi_M_thrown.2.1 mi_M_thrown.2.2.1 mi_M_thrown.2.2.2.1) := rfl
set_option maxRecDepth 20000 in
theorem cw_112 : lw_tbl[1379]? = some (Cond.code mi_M_refuse.1 mi_M_refuse.2.1 mi_M_refuse.2.2.1 mi_M_refuse.2.2.2.1) := rfl
set_option maxRecDepth 20000 in
theorem cw_113 : lw_tbl[1354]? = some (Cond.code mi_M_isIn.1 mi_M_isIn.2.1 mi_M_isIn.2.2.1 mi_M_isIn.2.2.2.1) := rfl
set_option maxRecDepth 20000 in
theorem cw_114 : lw_tbl[1124]? = some (Cond.code mi_M_lays.1 mi_M_lays.2.1 mi_M_lays.2.2.1 mi_M_lays.2.2.2.1) := rfl
set_option maxRecDepth 20000 in
theorem cw_115 : lw_tbl[1119]? = some (Cond.code mi_M_feed.1 mi_M_feed.2.1 mi_M_feed.2.2.1 mi_M_feed.2.2.2.1) := rfl
set_option maxRecDepth 20000 in
theorem cw_116 : lw_tbl[1128]? = some (Cond.code mi_M_end.1 mi_M_end.2.1 mi_M_end.2.2.1 mi_M_end.2.2.2.1) := rfl
set_option maxRecDepth 20000 in
theorem cw_117 : lw_tbl[1299]? = some (Cond.code mi_M_tapeAt.1 mi_M_tapeAt.2.1 mi_M_tapeAt.2.2.1 mi_M_tapeAt.2.2.2.1) := rfl
set_option maxRecDepth 20000 in
theorem cw_118 : lw_tbl[1304]? = some (Cond.code mi_M_isDigit.1 mi_M_isDigit.2.1 mi_M_isDigit.2.2.1 mi_M_isDigit.2.2.2.1) := rfl
set_option maxRecDepth 20000 in
theorem cw_119 : lw_tbl[1295]? = some (Cond.code mi_M_isLetter.1 mi_M_isLetter.2.1 mi_M_isLetter.2.2.1 mi_M_isLetter.2.2.2.1) := rfl
set_option maxRecDepth 20000 in
theorem cw_120 : lw_tbl[1292]? = some (Cond.code mi_M_go.1 mi_M_go.2.1 mi_M_go.2.2.1 mi_M_go.2.2.2.1) := rfl
set_option maxRecDepth 20000 in
theorem cw_121 : lw_tbl[1318]? = some (Cond.code mi_M_three.1 mi_M_three.2.1 mi_M_three.2.2.1 mi_M_three.2.2.2.1) := rfl
set_option maxRecDepth 20000 in
theorem cw_122 : lw_tbl[1314]? = some (Cond.code mi_M_five.1 mi_M_five.2.1 mi_M_five.2.2.1 mi_M_five.2.2.2.1) := rfl
set_option maxRecDepth 20000 in
theorem cw_123 : lw_tbl[1321]? = some (Cond.code mi_M_six.1 mi_M_six.2.1 mi_M_six.2.2.1 mi_M_six.2.2.2.1) := rfl
set_option maxRecDepth 20000 in
theorem cw_124 : lw_tbl[1327]? = some (Cond.code mi_M_isWord.1 mi_M_isWord.2.1 mi_M_isWord.2.2.1 mi_M_isWord.2.2.2.1) := rfl
set_option maxRecDepth 20000 in
theorem cw_125 : lw_tbl[1344]? = some (Cond.code mi_M_bad.1 mi_M_bad.2.1 mi_M_bad.2.2.1 mi_M_bad.2.2.2.1) := rfl
set_option maxRecDepth 20000 in
theorem cw_126 : lw_tbl[1136]? = some (Cond.code mi_M_begins.1 mi_M_begins.2.1 mi_M_begins.2.2.1 mi_M_begins.2.2.2.1) := rfl
set_option maxRecDepth 20000 in
theorem cw_127 : lw_tbl[1347]? = some (Cond.code mi_M_lowOf.1 mi_M_lowOf.2.1 mi_M_lowOf.2.2.1 mi_M_lowOf.2.2.2.1) := rfl
set_option maxRecDepth 20000 in
theorem cw_128 : lw_tbl[1350]? = some (Cond.code mi_M_highOf.1 mi_M_highOf.2.1 mi_M_highOf.2.2.1 mi_M_highOf.2.2.2.1) := rfl
set_option maxRecDepth 20000 in
theorem cw_129 : lw_tbl[1311]? = some (Cond.code mi_M_nameOf.1 mi_M_nameOf.2.1 mi_M_nameOf.2.2.1 mi_M_nameOf.2.2.2.1) := rfl
set_option maxRecDepth 20000 in
theorem cw_130 : lw_tbl[1335]? = some (Cond.code mi_M_wayHere.1 mi_M_wayHere.2.1 mi_M_wayHere.2.2.1 mi_M_wayHere.2.2.2.1) := rfl
set_option maxRecDepth 20000 in
theorem cw_131 : lw_tbl[1339]? = some (Cond.code mi_M_spreadHere.1 mi_M_spreadHere.2.1 mi_M_spreadHere.2.2.1 mi_M_spreadHere.2.2.2.1) := rfl
set_option maxRecDepth 20000 in
theorem cw_132 : lw_tbl[1331]? = some (Cond.code mi_M_readSetting.1 mi_M_readSetting.2.1 mi_M_readSetting.2.2.1 mi_M_readSetting.2.2.2.1) := rfl
set_option maxRecDepth 20000 in
theorem cw_133 : lw_tbl[1358]? = some (Cond.code mi_M_readEnd.1 mi_M_readEnd.2.1 mi_M_readEnd.2.2.1 mi_M_readEnd.2.2.2.1) := rfl
set_option maxRecDepth 20000 in
theorem cw_134 : lw_tbl[1362]? = some (Cond.code mi_M_readKey.1 mi_M_readKey.2.1 mi_M_readKey.2.2.1 mi_M_readKey.2.2.2.1) := rfl
set_option maxRecDepth 20000 in
theorem cw_135 : lw_tbl[1308]? = some (Cond.code mi_M_readWhole.1 mi_M_readWhole.2.1 mi_M_readWhole.2.2.1 mi_M_readWhole.2.2.2.1) := rfl
set_option maxRecDepth 20000 in
theorem cw_136 : lw_tbl[1288]? = some (Cond.code mi_M_text.1 mi_M_text.2.1 mi_M_text.2.2.1 mi_M_text.2.2.2.1) := rfl
set_option maxRecDepth 20000 in
theorem cw_137 : lw_tbl[1375]? = some (Cond.code mi_M_isKey.1 mi_M_isKey.2.1 mi_M_isKey.2.2.1 mi_M_isKey.2.2.2.1) := rfl
set_option maxRecDepth 20000 in
theorem cw_138 : lw_tbl[1391]? = some (Cond.code mi_M_isValue.1 mi_M_isValue.2.1 mi_M_isValue.2.2.1 mi_M_isValue.2.2.2.1) := rfl
set_option maxRecDepth 20000 in
theorem cw_139 : lw_tbl[1395]? = some (Cond.code mi_M_indexOf.1 mi_M_indexOf.2.1 mi_M_indexOf.2.2.1 mi_M_indexOf.2.2.2.1) := rfl
set_option maxRecDepth 20000 in
theorem cw_140 : lw_tbl[1399]? = some (Cond.code mi_M_snap.1 mi_M_snap.2.1 mi_M_snap.2.2.1 mi_M_snap.2.2.2.1) := rfl
set_option maxRecDepth 20000 in
theorem cw_141 : lw_tbl[1367]? = some (Cond.code mi_M_undo.1 mi_M_undo.2.1 mi_M_undo.2.2.1 mi_M_undo.2.2.2.1) := rfl
set_option maxRecDepth 20000 in
theorem cw_142 : lw_tbl[1371]? = some (Cond.code mi_M_key.1 mi_M_key.2.1 mi_M_key.2.2.1 mi_M_key.2.2.2.1) := rfl
set_option maxRecDepth 20000 in
theorem cw_143 : lw_tbl[1383]? = some (Cond.code mi_M_worth.1 mi_M_worth.2.1 mi_M_worth.2.2.1 mi_M_worth.2.2.2.1) := rfl
set_option maxRecDepth 20000 in
theorem cw_144 : lw_tbl[1387]? = some (Cond.code mi_M_add.1 mi_M_add.2.1 mi_M_add.2.2.1 mi_M_add.2.2.2.1) := rfl
set_option maxRecDepth 20000 in
theorem cw_145 : lw_tbl[1403]? = some (Cond.code mi_M_gone.1 mi_M_gone.2.1 mi_M_gone.2.2.1 mi_M_gone.2.2.2.1) := rfl
set_option maxRecDepth 20000 in
theorem cw_146 : lw_tbl[1407]? = some (Cond.code mi_M_turn.1 mi_M_turn.2.1 mi_M_turn.2.2.1 mi_M_turn.2.2.2.1) := rfl
set_option maxRecDepth 20000 in
theorem cw_147 : lw_tbl[1411]? = some (Cond.code mi_M_set.1 mi_M_set.2.1 mi_M_set.2.2.1 mi_M_set.2.2.2.1) := rfl
set_option maxRecDepth 20000 in
theorem cw_148 : lw_tbl[1421]? = some (Cond.code mi_M_mix.1 mi_M_mix.2.1 mi_M_mix.2.2.1 mi_M_mix.2.2.2.1) := rfl
set_option maxRecDepth 20000 in
theorem cw_149 : lw_tbl[1418]? = some (Cond.code mi_M_hashOf.1 mi_M_hashOf.2.1 mi_M_hashOf.2.2.1 mi_M_hashOf.2.2.2.1) := rfl
set_option maxRecDepth 20000 in
theorem cw_150 : lw_tbl[1443]? = some (Cond.code mi_M_printOf.1 mi_M_printOf.2.1 mi_M_printOf.2.2.1 mi_M_printOf.2.2.2.1) := rfl
set_option maxRecDepth 20000 in
theorem cw_151 : lw_tbl[1434]? = some (Cond.code mi_M_part.1 mi_M_part.2.1 mi_M_part.2.2.1 mi_M_part.2.2.2.1) := rfl
set_option maxRecDepth 20000 in
theorem cw_152 : lw_tbl[1431]? = some (Cond.code mi_M_lays3.1 mi_M_lays3.2.1 mi_M_lays3.2.2.1 mi_M_lays3.2.2.2.1) := rfl
set_option maxRecDepth 20000 in
theorem cw_153 : lw_tbl[1459]? = some (Cond.code mi_M_touchesBy.1 mi_M_touchesBy.2.1 mi_M_touchesBy.2.2.1 mi_M_touchesBy.2.2.2.1) := rfl
set_option maxRecDepth 20000 in
theorem cw_154 : lw_tbl[1415]? = some (Cond.code mi_M_hash.1 mi_M_hash.2.1 mi_M_hash.2.2.1 mi_M_hash.2.2.2.1) := rfl
set_option maxRecDepth 20000 in
theorem cw_155 : lw_tbl[1427]? = some (Cond.code mi_M_cell.1 mi_M_cell.2.1 mi_M_cell.2.2.1 mi_M_cell.2.2.2.1) := rfl
set_option maxRecDepth 20000 in
theorem cw_156 : lw_tbl[1440]? = some (Cond.code mi_M_print.1 mi_M_print.2.1 mi_M_print.2.2.1 mi_M_print.2.2.2.1) := rfl
set_option maxRecDepth 20000 in
theorem cw_157 : lw_tbl[1455]? = some (Cond.code mi_M_nets.1 mi_M_nets.2.1 mi_M_nets.2.2.1 mi_M_nets.2.2.2.1) := rfl
set_option maxRecDepth 20000 in
theorem cw_158 : lw_tbl[1451]? = some (Cond.code mi_M_netNow.1 mi_M_netNow.2.1 mi_M_netNow.2.2.1 mi_M_netNow.2.2.2.1) := rfl
set_option maxRecDepth 20000 in
theorem cw_159 : lw_tbl[1495]? = some (Cond.code mi_M_takesOut.1 mi_M_takesOut.2.1 mi_M_takesOut.2.2.1 mi_M_takesOut.2.2.2.1) := rfl
set_option maxRecDepth 20000 in
theorem cw_160 : lw_tbl[1491]? = some (Cond.code mi_M_nextCell.1 mi_M_nextCell.2.1 mi_M_nextCell.2.2.1 mi_M_nextCell.2.2.2.1) := rfl
set_option maxRecDepth 20000 in
theorem cw_161 : lw_tbl[1487]? = some (Cond.code mi_M_comesBehind.1 mi_M_comesBehind.2.1 mi_M_comesBehind.2.2.1 mi_M_comesBehind.2.2.2.1) := rfl
set_option maxRecDepth 20000 in
theorem cw_162 : lw_tbl[1483]? = some (Cond.code mi_M_peelsBy.1 mi_M_peelsBy.2.1 mi_M_peelsBy.2.2.1 mi_M_peelsBy.2.2.2.1) := rfl
set_option maxRecDepth 20000 in
theorem cw_163 : lw_tbl[1471]? = some (Cond.code mi_M_isOf.1 mi_M_isOf.2.1 mi_M_isOf.2.2.1 mi_M_isOf.2.2.2.1) := rfl
set_option maxRecDepth 20000 in
theorem cw_164 : lw_tbl[1479]? = some (Cond.code mi_M_peelNow.1 mi_M_peelNow.2.1 mi_M_peelNow.2.2.1 mi_M_peelNow.2.2.2.1) := rfl
set_option maxRecDepth 20000 in
theorem cw_165 : lw_tbl[1523]? = some (Cond.code mi_M_peelsAll.1 mi_M_peelsAll.2.1 mi_M_peelsAll.2.2.1 mi_M_peelsAll.2.2.2.1) := rfl
set_option maxRecDepth 20000 in
theorem cw_166 : lw_tbl[1447]? = some (Cond.code mi_M_load.1 mi_M_load.2.1 mi_M_load.2.2.1 mi_M_load.2.2.2.1) := rfl
set_option maxRecDepth 20000 in
theorem cw_167 : lw_tbl[1463]? = some (Cond.code mi_M_twins.1 mi_M_twins.2.1 mi_M_twins.2.2.1 mi_M_twins.2.2.2.1) := rfl
set_option maxRecDepth 20000 in
theorem cw_168 : lw_tbl[1467]? = some (Cond.code mi_M_areTwins.1 mi_M_areTwins.2.1 mi_M_areTwins.2.2.1 mi_M_areTwins.2.2.2.1) := rfl
set_option maxRecDepth 20000 in
theorem cw_169 : lw_tbl[1475]? = some (Cond.code mi_M_peel.1 mi_M_peel.2.1 mi_M_peel.2.2.1 mi_M_peel.2.2.2.1) := rfl
set_option maxRecDepth 20000 in
theorem cw_170 : lw_tbl[1499]? = some (Cond.code mi_M_core.1 mi_M_core.2.1 mi_M_core.2.2.1 mi_M_core.2.2.2.1) := rfl
set_option maxRecDepth 20000 in
theorem cw_171 : lw_tbl[1507]? = some (Cond.code mi_M_laysLevels.1 mi_M_laysLevels.2.1 mi_M_laysLevels.2.2.1 mi_M_laysLevels.2.2.2.1) := rfl
set_option maxRecDepth 20000 in
theorem cw_172 : lw_tbl[1503]? = some (Cond.code mi_M_level.1 mi_M_level.2.1 mi_M_level.2.2.1 mi_M_level.2.2.2.1) := rfl
set_option maxRecDepth 20000 in
theorem cw_173 : lw_tbl[1511]? = some (Cond.code mi_M_rank.1 mi_M_rank.2.1 mi_M_rank.2.2.1 mi_M_rank.2.2.2.1) := rfl
set_option maxRecDepth 20000 in
theorem cw_174 : lw_tbl[1519]? = some (Cond.code mi_M_findsOut.1 mi_M_findsOut.2.1 mi_M_findsOut.2.2.1 mi_M_findsOut.2.2.2.1) := rfl
set_option maxRecDepth 20000 in
theorem cw_175 : lw_tbl[1515]? = some (Cond.code mi_M_mend.1 mi_M_mend.2.1 mi_M_mend.2.2.1 mi_M_mend.2.2.2.1) := rfl
set_option maxRecDepth 20000 in
theorem cw_176 : lw_tbl[1527]? = some (Cond.code mi_M_tight.1 mi_M_tight.2.1 mi_M_tight.2.2.1 mi_M_tight.2.2.2.1) := rfl
set_option maxRecDepth 20000 in
theorem cw_177 : lw_tbl[1531]? = some (Cond.code mi_M_peels.1 mi_M_peels.2.1 mi_M_peels.2.2.1 mi_M_peels.2.2.2.1) := rfl
set_option maxRecDepth 20000 in
theorem cw_178 : lw_tbl[1539]? = some (Cond.code mi_M_fills.1 mi_M_fills.2.1 mi_M_fills.2.2.1 mi_M_fills.2.2.2.1) := rfl
set_option maxRecDepth 20000 in
theorem cw_179 : lw_tbl[1535]? = some (Cond.code mi_M_wake.1 mi_M_wake.2.1 mi_M_wake.2.2.1 mi_M_wake.2.2.2.1) := rfl
set_option maxRecDepth 20000 in
theorem cw_180 : lw_tbl[1543]? = some (Cond.code mi_M_build.1 mi_M_build.2.1 mi_M_build.2.2.1 mi_M_build.2.2.2.1) := rfl
set_option maxRecDepth 20000 in
theorem cw_181 : lw_tbl[1547]? = some (Cond.code mi_M_built.1 mi_M_built.2.1 mi_M_built.2.2.1 mi_M_built.2.2.2.1) := rfl
set_option maxRecDepth 20000 in
theorem cw_182 : lw_tbl[1551]? = some (Cond.code mi_M_filled.1 mi_M_filled.2.1 mi_M_filled.2.2.1 mi_M_filled.2.2.2.1) := rfl
set_option maxRecDepth 20000 in
theorem cw_183 : lw_tbl[1559]? = some (Cond.code mi_M_asks.1 mi_M_asks.2.1 mi_M_asks.2.2.1 mi_M_asks.2.2.2.1) := rfl
set_option maxRecDepth 20000 in
theorem cw_184 : lw_tbl[1555]? = some (Cond.code mi_M_passes.1 mi_M_passes.2.1 mi_M_passes.2.2.1 mi_M_passes.2.2.2.1) := rfl
set_option maxRecDepth 20000 in
theorem cw_185 : lw_tbl[1563]? = some (Cond.code mi_M_told.1 mi_M_told.2.1 mi_M_told.2.2.1 mi_M_told.2.2.2.1) := rfl
set_option maxRecDepth 20000 in
theorem cw_186 : lw_tbl[1567]? = some (Cond.code mi_M_right.1 mi_M_right.2.1 mi_M_right.2.2.1 mi_M_right.2.2.2.1) := rfl
set_option maxRecDepth 20000 in
theorem cw_187 : lw_tbl[1571]? = some (Cond.code mi_M_strangers.1 mi_M_strangers.2.1 mi_M_strangers.2.2.1 mi_M_strangers.2.2.2.1) := rfl
set_option maxRecDepth 20000 in
theorem cw_188 : lw_tbl[1579]? = some (Cond.code mi_M_copies.1 mi_M_copies.2.1 mi_M_copies.2.2.1 mi_M_copies.2.2.2.1) := rfl
set_option maxRecDepth 20000 in
theorem cw_189 : lw_tbl[1575]? = some (Cond.code mi_M_shelf.1 mi_M_shelf.2.1 mi_M_shelf.2.2.1 mi_M_shelf.2.2.2.1) := rfl
set_option maxRecDepth 20000 in
theorem cw_190 : lw_tbl[1583]? = some (Cond.code mi_M_unlike.1 mi_M_unlike.2.1 mi_M_unlike.2.2.1 mi_M_unlike.2.2.2.1) := rfl
set_option maxRecDepth 20000 in
theorem cw_191 : lw_tbl[1591]? = some (Cond.code mi_M_emptyCells.1 mi_M_emptyCells.2.1 mi_M_emptyCells.2.2.1 mi_M_emptyCells.2.2.2.1) := rfl
set_option maxRecDepth 20000 in
theorem cw_192 : lw_tbl[1587]? = some (Cond.code mi_M_count.1 mi_M_count.2.1 mi_M_count.2.2.1 mi_M_count.2.2.2.1) := rfl
set_option maxRecDepth 20000 in
theorem cw_194 : lw_tbl[804]? = some (Cond.code mi_Arrays_fill.1 mi_Arrays_fill.2.1 mi_Arrays_fill.2.2.1 mi_Arrays_fill.2.2.2.1) := rfl
set_option maxRecDepth 20000 in
theorem cw_195 : lw_tbl[702]? = some (Cond.code mi_Math_min.1 mi_Math_min.2.1 mi_Math_min.2.2.1 mi_Math_min.2.2.2.1) := rfl
set_option maxRecDepth 20000 in
theorem cw_196 : lw_tbl[784]? = some (Cond.code mi_Math_max.1 mi_Math_max.2.1 mi_Math_max.2.2.1 mi_Math_max.2.2.2.1) := rfl
set_option maxRecDepth 20000 in
theorem cw_197 : lw_tbl[568]? = some (Cond.code mi_String_length.1 mi_String_length.2.1 mi_String_length.2.2.1 mi_String_length.2.2.2.1) := rfl
set_option maxRecDepth 20000 in
theorem cw_198 : lw_tbl[578]? = some (Cond.code mi_String_charAt.1 mi_String_charAt.2.1 mi_String_charAt.2.2.1 mi_String_charAt.2.2.2.1) := rfl
def am_cwP (y : Nat) : Prop := Cond.code (am_mi y).1 (am_mi y).2.1 (am_mi y).2.2.1 (am_mi y).2.2.2.1 ∈ am_big
theorem cwb_0 : am_cwP 0 := am_big_of cw_0 rfl
theorem cwb_1 : am_cwP 1 := am_big_of cw_1 rfl
theorem cwb_2 : am_cwP 2 := am_big_of cw_2 rfl
theorem cwb_3 : am_cwP 3 := am_big_of cw_3 rfl
theorem cwb_4 : am_cwP 4 := am_big_of cw_4 rfl
theorem cwb_5 : am_cwP 5 := am_big_of cw_5 rfl
theorem cwb_6 : am_cwP 6 := am_big_of cw_6 rfl
theorem cwb_7 : am_cwP 7 := am_big_of cw_7 rfl
theorem cwb_8 : am_cwP 8 := am_big_of cw_8 rfl
theorem cwb_9 : am_cwP 9 := am_big_of cw_9 rfl
theorem cwb_10 : am_cwP 10 := am_big_of cw_10 rfl
theorem cwb_11 : am_cwP 11 := am_big_of cw_11 rfl
theorem cwb_12 : am_cwP 12 := am_big_of cw_12 rfl
theorem cwb_13 : am_cwP 13 := am_big_of cw_13 rfl
theorem cwb_14 : am_cwP 14 := am_big_of cw_14 rfl
theorem cwb_15 : am_cwP 15 := am_big_of cw_15 rfl
theorem cwb_16 : am_cwP 16 := am_big_of cw_16 rfl
theorem cwb_17 : am_cwP 17 := am_big_of cw_17 rfl
theorem cwb_18 : am_cwP 18 := am_big_of cw_18 rfl
theorem cwb_19 : am_cwP 19 := am_big_of cw_19 rfl
theorem cwb_20 : am_cwP 20 := am_big_of cw_20 rfl
theorem cwb_21 : am_cwP 21 := am_big_of cw_21 rfl
theorem cwb_22 : am_cwP 22 := am_big_of cw_22 rfl
theorem cwb_23 : am_cwP 23 := am_big_of cw_23 rfl
theorem cwb_24 : am_cwP 24 := am_big_of cw_24 rfl
theorem cwb_25 : am_cwP 25 := am_big_of cw_25 rfl
theorem cwb_26 : am_cwP 26 := am_big_of cw_26 rfl
theorem cwb_27 : am_cwP 27 := am_big_of cw_27 rfl
theorem cwb_28 : am_cwP 28 := am_big_of cw_28 rfl
theorem cwb_29 : am_cwP 29 := am_big_of cw_29 rfl
theorem cwb_30 : am_cwP 30 := am_big_of cw_30 rfl
theorem cwb_31 : am_cwP 31 := am_big_of cw_31 rfl
theorem cwb_32 : am_cwP 32 := am_big_of cw_32 rfl
theorem cwb_33 : am_cwP 33 := am_big_of cw_33 rfl
theorem cwb_34 : am_cwP 34 := am_big_of cw_34 rfl
theorem cwb_35 : am_cwP 35 := am_big_of cw_35 rfl
theorem cwb_36 : am_cwP 36 := am_big_of cw_36 rfl
theorem cwb_37 : am_cwP 37 := am_big_of cw_37 rfl
theorem cwb_38 : am_cwP 38 := am_big_of cw_38 rfl
theorem cwb_39 : am_cwP 39 := am_big_of cw_39 rfl
theorem cwb_40 : am_cwP 40 := am_big_of cw_40 rfl
theorem cwb_41 : am_cwP 41 := am_big_of cw_41 rfl
theorem cwb_42 : am_cwP 42 := am_big_of cw_42 rfl
theorem cwb_43 : am_cwP 43 := am_big_of cw_43 rfl
theorem cwb_44 : am_cwP 44 := am_big_of cw_44 rfl
theorem cwb_45 : am_cwP 45 := am_big_of cw_45 rfl
theorem cwb_46 : am_cwP 46 := am_big_of cw_46 rfl
theorem cwb_47 : am_cwP 47 := am_big_of cw_47 rfl
theorem cwb_48 : am_cwP 48 := am_big_of cw_48 rfl
theorem cwb_49 : am_cwP 49 := am_big_of cw_49 rfl
theorem cwb_50 : am_cwP 50 := am_big_of cw_50 rfl
theorem cwb_51 : am_cwP 51 := am_big_of cw_51 rfl
theorem cwb_52 : am_cwP 52 := am_big_of cw_52 rfl
theorem cwb_53 : am_cwP 53 := am_big_of cw_53 rfl
theorem cwb_54 : am_cwP 54 := am_big_of cw_54 rfl
theorem cwb_55 : am_cwP 55 := am_big_of cw_55 rfl
theorem cwb_56 : am_cwP 56 := am_big_of cw_56 rfl
theorem cwb_57 : am_cwP 57 := am_big_of cw_57 rfl
theorem cwb_58 : am_cwP 58 := am_big_of cw_58 rfl
theorem cwb_59 : am_cwP 59 := am_big_of cw_59 rfl
theorem cwb_60 : am_cwP 60 := am_big_of cw_60 rfl
theorem cwb_61 : am_cwP 61 := am_big_of cw_61 rfl
theorem cwb_62 : am_cwP 62 := am_big_of cw_62 rfl
theorem cwb_63 : am_cwP 63 := am_big_of cw_63 rfl
theorem cwb_64 : am_cwP 64 := am_big_of cw_64 rfl
theorem cwb_65 : am_cwP 65 := am_big_of cw_65 rfl
theorem cwb_66 : am_cwP 66 := am_big_of cw_66 rfl
theorem cwb_67 : am_cwP 67 := am_big_of cw_67 rfl
theorem cwb_68 : am_cwP 68 := am_big_of cw_68 rfl
theorem cwb_69 : am_cwP 69 := am_big_of cw_69 rfl
theorem cwb_70 : am_cwP 70 := am_big_of cw_70 rfl
theorem cwb_71 : am_cwP 71 := am_big_of cw_71 rfl
theorem cwb_72 : am_cwP 72 := am_big_of cw_72 rfl
theorem cwb_73 : am_cwP 73 := am_big_of cw_73 rfl
theorem cwb_74 : am_cwP 74 := am_big_of cw_74 rfl
theorem cwb_75 : am_cwP 75 := am_big_of cw_75 rfl
theorem cwb_76 : am_cwP 76 := am_big_of cw_76 rfl
theorem cwb_77 : am_cwP 77 := am_big_of cw_77 rfl
theorem cwb_78 : am_cwP 78 := am_big_of cw_78 rfl
theorem cwb_79 : am_cwP 79 := am_big_of cw_79 rfl
theorem cwb_80 : am_cwP 80 := am_big_of cw_80 rfl
theorem cwb_81 : am_cwP 81 := am_big_of cw_81 rfl
theorem cwb_82 : am_cwP 82 := am_big_of cw_82 rfl
theorem cwb_83 : am_cwP 83 := am_big_of cw_83 rfl
theorem cwb_84 : am_cwP 84 := am_big_of cw_84 rfl
theorem cwb_85 : am_cwP 85 := am_big_of cw_85 rfl
theorem cwb_86 : am_cwP 86 := am_big_of cw_86 rfl
theorem cwb_87 : am_cwP 87 := am_big_of cw_87 rfl
theorem cwb_88 : am_cwP 88 := am_big_of cw_88 rfl
theorem cwb_89 : am_cwP 89 := am_big_of cw_89 rfl
theorem cwb_90 : am_cwP 90 := am_big_of cw_90 rfl
theorem cwb_91 : am_cwP 91 := am_big_of cw_91 rfl
theorem cwb_92 : am_cwP 92 := am_big_of cw_92 rfl
theorem cwb_93 : am_cwP 93 := am_big_of cw_93 rfl
theorem cwb_94 : am_cwP 94 := am_big_of cw_94 rfl
theorem cwb_95 : am_cwP 95 := am_big_of cw_95 rfl
theorem cwb_96 : am_cwP 96 := am_big_of cw_96 rfl
theorem cwb_97 : am_cwP 97 := am_big_of cw_97 rfl
theorem cwb_98 : am_cwP 98 := am_big_of cw_98 rfl
theorem cwb_99 : am_cwP 99 := am_big_of cw_99 rfl
theorem cwb_100 : am_cwP 100 := am_big_of cw_100 rfl
theorem cwb_101 : am_cwP 101 := am_big_of cw_101 rfl
theorem cwb_102 : am_cwP 102 := am_big_of cw_102 rfl
theorem cwb_103 : am_cwP 103 := am_big_of cw_103 rfl
theorem cwb_104 : am_cwP 104 := am_big_of cw_104 rfl
theorem cwb_105 : am_cwP 105 := am_big_of cw_105 rfl
theorem cwb_106 : am_cwP 106 := am_big_of cw_106 rfl
theorem cwb_107 : am_cwP 107 := am_big_of cw_107 rfl
theorem cwb_108 : am_cwP 108 := am_big_of cw_108 rfl
theorem cwb_109 : am_cwP 109 := am_big_of cw_109 rfl
theorem cwb_110 : am_cwP 110 := am_big_of cw_110 rfl
theorem cwb_111 : am_cwP 111 := am_big_of cw_111 rfl
theorem cwb_112 : am_cwP 112 := am_big_of cw_112 rfl
theorem cwb_113 : am_cwP 113 := am_big_of cw_113 rfl
theorem cwb_114 : am_cwP 114 := am_big_of cw_114 rfl
theorem cwb_115 : am_cwP 115 := am_big_of cw_115 rfl
theorem cwb_116 : am_cwP 116 := am_big_of cw_116 rfl
theorem cwb_117 : am_cwP 117 := am_big_of cw_117 rfl
theorem cwb_118 : am_cwP 118 := am_big_of cw_118 rfl
theorem cwb_119 : am_cwP 119 := am_big_of cw_119 rfl
theorem cwb_120 : am_cwP 120 := am_big_of cw_120 rfl
theorem cwb_121 : am_cwP 121 := am_big_of cw_121 rfl
theorem cwb_122 : am_cwP 122 := am_big_of cw_122 rfl
theorem cwb_123 : am_cwP 123 := am_big_of cw_123 rfl
theorem cwb_124 : am_cwP 124 := am_big_of cw_124 rfl
theorem cwb_125 : am_cwP 125 := am_big_of cw_125 rfl
theorem cwb_126 : am_cwP 126 := am_big_of cw_126 rfl
theorem cwb_127 : am_cwP 127 := am_big_of cw_127 rfl
theorem cwb_128 : am_cwP 128 := am_big_of cw_128 rfl
theorem cwb_129 : am_cwP 129 := am_big_of cw_129 rfl
theorem cwb_130 : am_cwP 130 := am_big_of cw_130 rfl
theorem cwb_131 : am_cwP 131 := am_big_of cw_131 rfl
theorem cwb_132 : am_cwP 132 := am_big_of cw_132 rfl
theorem cwb_133 : am_cwP 133 := am_big_of cw_133 rfl
theorem cwb_134 : am_cwP 134 := am_big_of cw_134 rfl
theorem cwb_135 : am_cwP 135 := am_big_of cw_135 rfl
theorem cwb_136 : am_cwP 136 := am_big_of cw_136 rfl
theorem cwb_137 : am_cwP 137 := am_big_of cw_137 rfl
theorem cwb_138 : am_cwP 138 := am_big_of cw_138 rfl
theorem cwb_139 : am_cwP 139 := am_big_of cw_139 rfl
theorem cwb_140 : am_cwP 140 := am_big_of cw_140 rfl
theorem cwb_141 : am_cwP 141 := am_big_of cw_141 rfl
theorem cwb_142 : am_cwP 142 := am_big_of cw_142 rfl
theorem cwb_143 : am_cwP 143 := am_big_of cw_143 rfl
theorem cwb_144 : am_cwP 144 := am_big_of cw_144 rfl
theorem cwb_145 : am_cwP 145 := am_big_of cw_145 rfl
theorem cwb_146 : am_cwP 146 := am_big_of cw_146 rfl
theorem cwb_147 : am_cwP 147 := am_big_of cw_147 rfl
theorem cwb_148 : am_cwP 148 := am_big_of cw_148 rfl
theorem cwb_149 : am_cwP 149 := am_big_of cw_149 rfl
theorem cwb_150 : am_cwP 150 := am_big_of cw_150 rfl
theorem cwb_151 : am_cwP 151 := am_big_of cw_151 rfl
theorem cwb_152 : am_cwP 152 := am_big_of cw_152 rfl
theorem cwb_153 : am_cwP 153 := am_big_of cw_153 rfl
theorem cwb_154 : am_cwP 154 := am_big_of cw_154 rfl
theorem cwb_155 : am_cwP 155 := am_big_of cw_155 rfl
theorem cwb_156 : am_cwP 156 := am_big_of cw_156 rfl
theorem cwb_157 : am_cwP 157 := am_big_of cw_157 rfl
theorem cwb_158 : am_cwP 158 := am_big_of cw_158 rfl
theorem cwb_159 : am_cwP 159 := am_big_of cw_159 rfl
theorem cwb_160 : am_cwP 160 := am_big_of cw_160 rfl
theorem cwb_161 : am_cwP 161 := am_big_of cw_161 rfl
theorem cwb_162 : am_cwP 162 := am_big_of cw_162 rfl
theorem cwb_163 : am_cwP 163 := am_big_of cw_163 rfl
theorem cwb_164 : am_cwP 164 := am_big_of cw_164 rfl
theorem cwb_165 : am_cwP 165 := am_big_of cw_165 rfl
theorem cwb_166 : am_cwP 166 := am_big_of cw_166 rfl
theorem cwb_167 : am_cwP 167 := am_big_of cw_167 rfl
theorem cwb_168 : am_cwP 168 := am_big_of cw_168 rfl
theorem cwb_169 : am_cwP 169 := am_big_of cw_169 rfl
theorem cwb_170 : am_cwP 170 := am_big_of cw_170 rfl
theorem cwb_171 : am_cwP 171 := am_big_of cw_171 rfl
theorem cwb_172 : am_cwP 172 := am_big_of cw_172 rfl
theorem cwb_173 : am_cwP 173 := am_big_of cw_173 rfl
theorem cwb_174 : am_cwP 174 := am_big_of cw_174 rfl
theorem cwb_175 : am_cwP 175 := am_big_of cw_175 rfl
theorem cwb_176 : am_cwP 176 := am_big_of cw_176 rfl
theorem cwb_177 : am_cwP 177 := am_big_of cw_177 rfl
theorem cwb_178 : am_cwP 178 := am_big_of cw_178 rfl
theorem cwb_179 : am_cwP 179 := am_big_of cw_179 rfl
theorem cwb_180 : am_cwP 180 := am_big_of cw_180 rfl
theorem cwb_181 : am_cwP 181 := am_big_of cw_181 rfl
theorem cwb_182 : am_cwP 182 := am_big_of cw_182 rfl
theorem cwb_183 : am_cwP 183 := am_big_of cw_183 rfl
theorem cwb_184 : am_cwP 184 := am_big_of cw_184 rfl
theorem cwb_185 : am_cwP 185 := am_big_of cw_185 rfl
theorem cwb_186 : am_cwP 186 := am_big_of cw_186 rfl
theorem cwb_187 : am_cwP 187 := am_big_of cw_187 rfl
theorem cwb_188 : am_cwP 188 := am_big_of cw_188 rfl
theorem cwb_189 : am_cwP 189 := am_big_of cw_189 rfl
theorem cwb_190 : am_cwP 190 := am_big_of cw_190 rfl
theorem cwb_191 : am_cwP 191 := am_big_of cw_191 rfl
theorem cwb_192 : am_cwP 192 := am_big_of cw_192 rfl
theorem cwb_194 : am_cwP 194 := am_big_of cw_194 rfl
theorem cwb_195 : am_cwP 195 := am_big_of cw_195 rfl
theorem cwb_196 : am_cwP 196 := am_big_of cw_196 rfl
theorem cwb_197 : am_cwP 197 := am_big_of cw_197 rfl
theorem cwb_198 : am_cwP 198 := am_big_of cw_198 rfl
theorem am_cwA : ∀ y, (y < 199 ∧ y ≠ 193) → am_cwP y := by
  intro y h
  match y, h with
  | 0, _ => exact cwb_0
  | 1, _ => exact cwb_1
  | 2, _ => exact cwb_2
  | 3, _ => exact cwb_3
  | 4, _ => exact cwb_4
  | 5, _ => exact cwb_5
  | 6, _ => exact cwb_6
  | 7, _ => exact cwb_7
  | 8, _ => exact cwb_8
  | 9, _ => exact cwb_9
  | 10, _ => exact cwb_10
  | 11, _ => exact cwb_11
  | 12, _ => exact cwb_12
  | 13, _ => exact cwb_13
  | 14, _ => exact cwb_14
  | 15, _ => exact cwb_15
  | 16, _ => exact cwb_16
  | 17, _ => exact cwb_17
  | 18, _ => exact cwb_18
  | 19, _ => exact cwb_19
  | 20, _ => exact cwb_20
  | 21, _ => exact cwb_21
  | 22, _ => exact cwb_22
  | 23, _ => exact cwb_23
  | 24, _ => exact cwb_24
  | 25, _ => exact cwb_25
  | 26, _ => exact cwb_26
  | 27, _ => exact cwb_27
  | 28, _ => exact cwb_28
  | 29, _ => exact cwb_29
  | 30, _ => exact cwb_30
  | 31, _ => exact cwb_31
  | 32, _ => exact cwb_32
  | 33, _ => exact cwb_33
  | 34, _ => exact cwb_34
  | 35, _ => exact cwb_35
  | 36, _ => exact cwb_36
  | 37, _ => exact cwb_37
  | 38, _ => exact cwb_38
  | 39, _ => exact cwb_39
  | 40, _ => exact cwb_40
  | 41, _ => exact cwb_41
  | 42, _ => exact cwb_42
  | 43, _ => exact cwb_43
  | 44, _ => exact cwb_44
  | 45, _ => exact cwb_45
  | 46, _ => exact cwb_46
  | 47, _ => exact cwb_47
  | 48, _ => exact cwb_48
  | 49, _ => exact cwb_49
  | 50, _ => exact cwb_50
  | 51, _ => exact cwb_51
  | 52, _ => exact cwb_52
  | 53, _ => exact cwb_53
  | 54, _ => exact cwb_54
  | 55, _ => exact cwb_55
  | 56, _ => exact cwb_56
  | 57, _ => exact cwb_57
  | 58, _ => exact cwb_58
  | 59, _ => exact cwb_59
  | 60, _ => exact cwb_60
  | 61, _ => exact cwb_61
  | 62, _ => exact cwb_62
  | 63, _ => exact cwb_63
  | 64, _ => exact cwb_64
  | 65, _ => exact cwb_65
  | 66, _ => exact cwb_66
  | 67, _ => exact cwb_67
  | 68, _ => exact cwb_68
  | 69, _ => exact cwb_69
  | 70, _ => exact cwb_70
  | 71, _ => exact cwb_71
  | 72, _ => exact cwb_72
  | 73, _ => exact cwb_73
  | 74, _ => exact cwb_74
  | 75, _ => exact cwb_75
  | 76, _ => exact cwb_76
  | 77, _ => exact cwb_77
  | 78, _ => exact cwb_78
  | 79, _ => exact cwb_79
  | 80, _ => exact cwb_80
  | 81, _ => exact cwb_81
  | 82, _ => exact cwb_82
  | 83, _ => exact cwb_83
  | 84, _ => exact cwb_84
  | 85, _ => exact cwb_85
  | 86, _ => exact cwb_86
  | 87, _ => exact cwb_87
  | 88, _ => exact cwb_88
  | 89, _ => exact cwb_89
  | 90, _ => exact cwb_90
  | 91, _ => exact cwb_91
  | 92, _ => exact cwb_92
  | 93, _ => exact cwb_93
  | 94, _ => exact cwb_94
  | 95, _ => exact cwb_95
  | 96, _ => exact cwb_96
  | 97, _ => exact cwb_97
  | 98, _ => exact cwb_98
  | 99, _ => exact cwb_99
  | 100, _ => exact cwb_100
  | 101, _ => exact cwb_101
  | 102, _ => exact cwb_102
  | 103, _ => exact cwb_103
  | 104, _ => exact cwb_104
  | 105, _ => exact cwb_105
  | 106, _ => exact cwb_106
  | 107, _ => exact cwb_107
  | 108, _ => exact cwb_108
  | 109, _ => exact cwb_109
  | 110, _ => exact cwb_110
  | 111, _ => exact cwb_111
  | 112, _ => exact cwb_112
  | 113, _ => exact cwb_113
  | 114, _ => exact cwb_114
  | 115, _ => exact cwb_115
  | 116, _ => exact cwb_116
  | 117, _ => exact cwb_117
  | 118, _ => exact cwb_118
  | 119, _ => exact cwb_119
  | 120, _ => exact cwb_120
  | 121, _ => exact cwb_121
  | 122, _ => exact cwb_122
  | 123, _ => exact cwb_123
  | 124, _ => exact cwb_124
  | 125, _ => exact cwb_125
  | 126, _ => exact cwb_126
  | 127, _ => exact cwb_127
  | 128, _ => exact cwb_128
  | 129, _ => exact cwb_129
  | 130, _ => exact cwb_130
  | 131, _ => exact cwb_131
  | 132, _ => exact cwb_132
  | 133, _ => exact cwb_133
  | 134, _ => exact cwb_134
  | 135, _ => exact cwb_135
  | 136, _ => exact cwb_136
  | 137, _ => exact cwb_137
  | 138, _ => exact cwb_138
  | 139, _ => exact cwb_139
  | 140, _ => exact cwb_140
  | 141, _ => exact cwb_141
  | 142, _ => exact cwb_142
  | 143, _ => exact cwb_143
  | 144, _ => exact cwb_144
  | 145, _ => exact cwb_145
  | 146, _ => exact cwb_146
  | 147, _ => exact cwb_147
  | 148, _ => exact cwb_148
  | 149, _ => exact cwb_149
  | 150, _ => exact cwb_150
  | 151, _ => exact cwb_151
  | 152, _ => exact cwb_152
  | 153, _ => exact cwb_153
  | 154, _ => exact cwb_154
  | 155, _ => exact cwb_155
  | 156, _ => exact cwb_156
  | 157, _ => exact cwb_157
  | 158, _ => exact cwb_158
  | 159, _ => exact cwb_159
  | 160, _ => exact cwb_160
  | 161, _ => exact cwb_161
  | 162, _ => exact cwb_162
  | 163, _ => exact cwb_163
  | 164, _ => exact cwb_164
  | 165, _ => exact cwb_165
  | 166, _ => exact cwb_166
  | 167, _ => exact cwb_167
  | 168, _ => exact cwb_168
  | 169, _ => exact cwb_169
  | 170, _ => exact cwb_170
  | 171, _ => exact cwb_171
  | 172, _ => exact cwb_172
  | 173, _ => exact cwb_173
  | 174, _ => exact cwb_174
  | 175, _ => exact cwb_175
  | 176, _ => exact cwb_176
  | 177, _ => exact cwb_177
  | 178, _ => exact cwb_178
  | 179, _ => exact cwb_179
  | 180, _ => exact cwb_180
  | 181, _ => exact cwb_181
  | 182, _ => exact cwb_182
  | 183, _ => exact cwb_183
  | 184, _ => exact cwb_184
  | 185, _ => exact cwb_185
  | 186, _ => exact cwb_186
  | 187, _ => exact cwb_187
  | 188, _ => exact cwb_188
  | 189, _ => exact cwb_189
  | 190, _ => exact cwb_190
  | 191, _ => exact cwb_191
  | 192, _ => exact cwb_192
  | 193, h => exact absurd rfl h.2
  | 194, _ => exact cwb_194
  | 195, _ => exact cwb_195
  | 196, _ => exact cwb_196
  | 197, _ => exact cwb_197
  | 198, _ => exact cwb_198
  | n + 199, h => exact absurd h.1 (by omega)
end
section
theorem am_nst_warm {s U : State} (hW : s.WarmedH U.vm) {w : Cond} (hw : w ∈ am_nst) (h : va_Nw w s) : va_Nw w U := by
  have h1 := (List.mem_filter.mp hw).2
  cases w <;> first | exact va_Nw.warmF hW h | exact va_Nw.warmM hW h | cases h1
theorem am_nst_same {s U : State} (hv : s.vm = U.vm) {w : Cond} (hw : w ∈ am_nst) (h : va_Nw w s) : va_Nw w U := by
  have h1 := (List.mem_filter.mp hw).2
  cases w <;> first | exact va_Nw.same rfl hv h | cases h1
theorem am_RO.at {E : am_E} {A : Nat → Prop} {s U : State} {H : Heap} {locs : List Loc} (h : am_RO E A s) (hS : va_S A s.heap H locs) (hU : U.heap = H) (hW : s.WarmedH U.vm) : am_RO E A U := by
  obtain ⟨⟨a1, a2⟩, ⟨b1, b2⟩, ⟨c1, c2⟩, h4, h5, ⟨x1, x2, x3⟩, h7, h8⟩ := h
  have hq : ∀ a : Nat, a < s.heap.size → ¬ A a → U.heap[a]? = s.heap[a]? := by rw [hU]; exact hS.2.1
  have hal := hW.alike
  refine ⟨⟨(a1.kept hq).moved hal, (a2.kept hq).moved hal⟩, ⟨(b1.kept hq).moved hal, (b2.kept hq).moved hal⟩, ⟨(c1.kept hq).moved hal, (c2.kept hq).moved hal⟩, (h4.kept hq).moved hal, fun e he => (h5 e he).warm hW, ⟨(x1.kept (hq _ x2 x3)).moved hal, by rw [hU]; exact Nat.lt_of_lt_of_le x2 hS.1, x3⟩, fun w hw => am_nst_warm hW hw (h7 w hw), h8⟩
theorem am_RO.same {E : am_E} {A : Nat → Prop} {s U : State} (h : am_RO E A s) (hH : U.heap = s.heap) (hv : s.vm = U.vm) : am_RO E A U := by
  obtain ⟨⟨a1, a2⟩, ⟨b1, b2⟩, ⟨c1, c2⟩, h4, h5, ⟨x1, x2, x3⟩, h7, h8⟩ := h
  have hq : ∀ a : Nat, a < s.heap.size → ¬ A a → U.heap[a]? = s.heap[a]? := by rw [hH]; exact fun _ _ _ => rfl
  have hal : s.vm.Alike U.vm := by rw [hv]; exact Vm.Alike.refl _
  refine ⟨⟨(a1.kept hq).moved hal, (a2.kept hq).moved hal⟩, ⟨(b1.kept hq).moved hal, (b2.kept hq).moved hal⟩, ⟨(c1.kept hq).moved hal, (c2.kept hq).moved hal⟩, (h4.kept hq).moved hal, fun e he => (h5 e he).same hv.symm, ⟨(x1.kept (hq _ x2 x3)).moved hal, by rw [hH]; exact x2, x3⟩, fun w hw => am_nst_same hv hw (h7 w hw), h8⟩
theorem am_blind (E : am_E) (A : Nat → Prop) (as : List am_V) (m : am_M) : FrameBlind (am_Pc E A as m) := by
  intro a U g mk h
  obtain ⟨h1, h2, ⟨p1, p2, p3, p4⟩, h4⟩ := h
  exact ⟨h1, h2, ⟨p1, va_K.moved (u := U) (U := U.calling g mk a) (Vm.Alike.refl U.vm) p2, p3, p4⟩, h4.same rfl rfl⟩
theorem am_popn_spec : ∀ {n : Nat} {acc st as r : List am_V}, am_popn n acc st = some (as, r) → ∃ xs, st = xs ++ r ∧ as = xs.reverse ++ acc ∧ xs.length = n
  | 0, acc, st, as, r, h => by
    cases h
    exact ⟨[], rfl, rfl, rfl⟩
  | n + 1, acc, [], as, r, h => by cases h
  | n + 1, acc, v :: st, as, r, h => by
    obtain ⟨xs, h1, h2, h3⟩ := am_popn_spec (n := n) (acc := v :: acc) (st := st) h
    refine ⟨v :: xs, by rw [h1]; rfl, by rw [h2]; simp, by rw [List.length_cons, h3]⟩
theorem am_cat_sum (E : am_E) : ∀ (r : List am_V), ((r.map (am_cv E)).map fun v => v.category).sum = am_cat r
  | [] => rfl
  | v :: r => by
    rw [List.map_cons, List.map_cons, List.sum_cons, am_cat_sum E r, am_cat_cv]
    show _ = (match am_lng v with | true => 2 | false => 1) + am_cat r
    cases am_lng v <;> rfl
def am_mck (o : Nat) (e : Nat × Nat × Nat × Nat × Nat × Nat × Nat × Nat) : Bool :=
  let nm := (am_mi e.2.1).1
  let c := e.2.2.2.1
  let kd := e.2.2.1
  decide (lw_tbl[e.2.2.2.2.1]? = some (if kd = 0 ∨ kd = 2 then Cond.methodLink (am_cn.getD o "") e.1 nm else Cond.methodLinkNest (am_cn.getD o "") e.1 nm "TripleSieve"))
  && decide (lw_tbl[e.2.2.2.2.2.1]? = some (if kd < 2 then Cond.static nm else Cond.instanceMethod nm))
  && (decide (kd < 2) || decide (lw_tbl[e.2.2.2.2.2.2.1]? = some (Cond.selects nm.cls nm nm)))
  && decide (lw_tbl[e.2.2.2.2.2.2.2]? = some (Cond.initialized nm.cls))
  && decide (nm.cls ≠ "java/lang/invoke/MethodHandle") && decide (nm.cls ≠ "java/lang/invoke/VarHandle")
  && decide ((parseMethodDescriptor nm.desc).map (fun d => d.parameters.length) = some (if kd < 2 then c % 1000 / 10 else c % 1000 / 10 - 1))
  && decide (if kd < 2 then c / 1000 = 0 else 1 ≤ c % 1000 / 10 ∧ 1 ≤ c / 1000 ∧ ((c / 1000 = 17 ∧ nm.cls = "java/lang/String") ∨ (c / 1000 ≤ 13 ∧ (am_C (c / 1000 - 1)).1 = nm.cls)))
  && decide ((am_mi e.2.1).2.2.1 ≤ 45)
  && decide (e.2.1 < 199 ∧ e.2.1 ≠ 193)
  && decide (((am_mi e.2.1).2.2.2.1 = none ↔ c % 10 = 0))
theorem am_mt_ok0 : (am_mt.getD 0 []).all (am_mck 0) = true := by decide +kernel
theorem am_mt_ok1 : (am_mt.getD 1 []).all (am_mck 1) = true := by decide +kernel
theorem am_mt_ok2 : (am_mt.getD 2 []).all (am_mck 2) = true := by decide +kernel
theorem am_mt_ok3 : (am_mt.getD 3 []).all (am_mck 3) = true := by decide +kernel
theorem am_mt_ok4 : (am_mt.getD 4 []).all (am_mck 4) = true := by decide +kernel
theorem am_mt_ok5 : (am_mt.getD 5 []).all (am_mck 5) = true := by decide +kernel
theorem am_mt_ok6 : (am_mt.getD 6 []).all (am_mck 6) = true := by decide +kernel
theorem am_mt_ok7 : (am_mt.getD 7 []).all (am_mck 7) = true := by decide +kernel
theorem am_mt_ok8 : (am_mt.getD 8 []).all (am_mck 8) = true := by decide +kernel
theorem am_mt_ok9 : (am_mt.getD 9 []).all (am_mck 9) = true := by decide +kernel
theorem am_mt_ok10 : (am_mt.getD 10 []).all (am_mck 10) = true := by decide +kernel
theorem am_mt_ok11 : (am_mt.getD 11 []).all (am_mck 11) = true := by decide +kernel
theorem am_mt_ok12 : (am_mt.getD 12 []).all (am_mck 12) = true := by decide +kernel
theorem am_mt_ok13 : (am_mt.getD 13 []).all (am_mck 13) = true := by decide +kernel
theorem am_mt_ok14 : (am_mt.getD 14 []).all (am_mck 14) = true := by decide +kernel
theorem am_mt_ok15 : (am_mt.getD 15 []).all (am_mck 15) = true := by decide +kernel
theorem am_mt_ok16 : (am_mt.getD 16 []).all (am_mck 16) = true := by decide +kernel
theorem am_mt_ok : ∀ o, o < 17 → (am_mt.getD o []).all (am_mck o) = true := by
  intro o h
  match o, h with
  | 0, _ => exact am_mt_ok0
  | 1, _ => exact am_mt_ok1
  | 2, _ => exact am_mt_ok2
  | 3, _ => exact am_mt_ok3
  | 4, _ => exact am_mt_ok4
  | 5, _ => exact am_mt_ok5
  | 6, _ => exact am_mt_ok6
  | 7, _ => exact am_mt_ok7
  | 8, _ => exact am_mt_ok8
  | 9, _ => exact am_mt_ok9
  | 10, _ => exact am_mt_ok10
  | 11, _ => exact am_mt_ok11
  | 12, _ => exact am_mt_ok12
  | 13, _ => exact am_mt_ok13
  | 14, _ => exact am_mt_ok14
  | 15, _ => exact am_mt_ok15
  | 16, _ => exact am_mt_ok16
  | n + 17, h => exact absurd h (by omega)
theorem am_mt17 (o : Nat) (h : 17 ≤ o) : am_mt.getD o [] = [] := by
  rw [List.getD_eq_getElem?_getD, List.getElem?_eq_none (show am_mt.length ≤ o from h)]; rfl
theorem am_good (y : Nat) (h : Cond.code (am_mi y).1 (am_mi y).2.1 (am_mi y).2.2.1 (am_mi y).2.2.2.1 ∈ am_big) : GoodIn am_big (am_wds y) := by
  have key : ∀ w ∈ am_big, w ∈ am_big ∧ ((w.onTables && w.keeps) = true ∨ ∃ ty, w = .arrayClass ty) := fun w hw => ⟨hw, good_of_word (List.mem_filter.mp hw).2⟩
  intro w hw
  rcases List.mem_cons.mp hw with rfl | hw
  · exact key _ h
  · exact key w hw
section
variable {p : Program} {l : Launch} {e : Env} {R : Room} {s : State} {mm : MethodId} {args : Array Value} {below : List Frame} {meth : Method} {c : Code} {cells slots : Nat} {Q : State → Prop} {E : am_E} {A : Nat → Prop} {y d : Nat} {P : am_V → am_M → Prop}
  {pc : Nat} {lv : am_L} {r st : List am_V} {m : am_M}
theorem am_back {H : Heap} {locs : List Loc} {ls : Array Slot} {st0 rest : List Value} {y2 : Nat} {K : am_V → am_M → Prop} {av : Array Value} (hr : va_Run p l e R s mm args below meth c H locs cells slots 0 0 (F0 mm pc ls st0) rest (am_Qc E A y2 K av) A) (hS : va_S A s.heap H locs)
    (kk : ∀ (v : am_V) (m' : am_M) (H1 : Heap) (locs1 : List Loc), am_vok v → K v m' → va_P E.1 vwCl (am_ws E m') H1 → am_MR m' → va_S A s.heap H1 locs1 → W p l e R s mm args below meth c H1 locs1 cells slots Q (F0 mm (pc + 3) ls ((am_rc E y2 v).toList ++ rest))) : W p l e R s mm args below meth c H locs cells slots Q (F0 mm pc ls st0) := by
  intro T hT X
  obtain ⟨v, st₀, t, T', L, h0, X', hL, e1, e2, ⟨⟨u, m', hv, hok, hp, hP1, hM1⟩, hz, hk⟩, st⟩ := hr T hT X
  cases hv
  rw [h0] at hz hk
  obtain ⟨t2, a1, b1⟩ := kk u m' T'.heap (locs ++ L) hok hp (by rw [e1]; exact hP1) hM1
    ⟨Nat.le_trans hS.1 (by rw [e1]; exact hz), fun q h1 h2 => by rw [e1, hk q (Nat.lt_of_lt_of_le h1 hS.1) h2]; exact hS.2.1 q h1 h2, fun q hq => by
      rcases List.mem_append.mp hq with h | h
      · exact hS.2.2 q h
      · exact hL q h⟩ T' rfl X'
  exact ⟨t2, st t2 a1, b1⟩
theorem s_call (C : am_Cx p l e R s mm args below meth c cells slots Q E A y (d + 1) P) {i y2 kd cc w1 w2 w3 w4 : Nat} {as : List am_V} {K : am_V → am_M → Prop} {ig : Instr}
    (hf : (i, y2, kd, cc, w1, w2, w3, w4) ∈ am_mt.getD (am_mi y).2.2.2.2 []) (hig : (kd < 2 ∧ ig = .invokestatic i) ∨ (¬ kd < 2 ∧ ig = .invokevirtual i))
    (hpop : am_popn (cc % 1000 / 10) [] st = some (as, r)) (hcat : am_cat r ≤ 8)
    (hrc : cc / 1000 = 0 ∨ ∃ q as', as = .inr (.inr q) :: as' ∧ ((cc / 1000 = 17 ∧ 1000 ≤ q ∧ q < 1014) ∨ (cc / 1000 ≠ 17 ∧ (am_lay q).1 = cc / 1000 - 1)))
    (hOk : am_Ok d y2 as m K) (hd : decode (am_mi y).2.1 pc = .ok (ig, 3))
    (k : ∀ v m', K v m' → am_at p l e R s mm args below meth c cells slots Q E A y (pc + 3) lv (if cc % 10 = 0 then r else v :: r) m') : am_at p l e R s mm args below meth c cells slots Q E A y pc lv st m := by
  obtain ⟨hx, hb, hml, hown, hts, hfr, hlo, hce, hsl, hRO, hK, hret⟩ := id C
  intro H locs ls hW hS hl hv hst
  obtain ⟨hP, -, hD, hM⟩ := id hW
  obtain ⟨xs, e1, e2, e3⟩ := am_popn_spec hpop
  rw [List.append_nil] at e2
  have h1 := am_all17 (f := fun o => am_mt.getD o []) (List.all_eq_true.mpr fun o ho => am_mt_ok o (List.mem_range.mp ho)) am_mt17 hf
  simp only [am_mck, Bool.and_eq_true, decide_eq_true_eq, Bool.or_eq_true] at h1
  obtain ⟨⟨⟨⟨⟨⟨⟨⟨⟨⟨g1, g2⟩, g3⟩, g4⟩, g5⟩, g6⟩, g7⟩, g8⟩, g9⟩, g10⟩, g11⟩ := h1
  have hok : ∀ x ∈ as, am_vok x := fun x hx => hst x (by rw [e1]; rw [e2] at hx; exact List.mem_append_left _ (List.mem_reverse.mp hx))
  have hokr : ∀ x ∈ r, am_vok x := fun x hx => hst x (by rw [e1]; exact List.mem_append_right _ hx)
  have hcode : am_cwP y2 := am_cwA y2 g10
  have hgood := am_good y2 hcode
  have hini : (Cond.initialized (am_mi y2).1.cls).before args s = true := hts _ (am_big_of g4 rfl)
  have hR : (am_rm d).frames + 1 ≤ R.frames ∧ 8 + ((am_mi y2).2.2.1 + 11) + (am_rm d).locals ≤ R.locals := ⟨hfr, by show 8 + ((am_mi y2).2.2.1 + 11) + 64 * d ≤ R.locals; omega⟩
  have hfix : CallFix p mm c (am_mi y).2.1 (am_mi y).2.2.1 s args am_big (am_cn.getD (am_mi y).2.2.2.2 "") := ⟨hx, hb, hml, hown, hts⟩
  have hpre : ∀ U : State, U.heap = H → s.WarmedH U.vm → am_Pc E A as m (as.map (am_cv E)).toArray U := fun U hU hWm => ⟨rfl, hok, ⟨by rw [hU]; exact hP, va_K.moved hWm.alike hK, hD, hM⟩, hRO.at hS hU hWm⟩
  have hst0 : st.map (am_cv E) = (as.map (am_cv E)).reverse ++ r.map (am_cv E) := by rw [e1, e2, List.map_append, List.map_reverse, List.reverse_reverse]
  have hroom : (((r.map (am_cv E)).map fun v => v.category).sum) ≤ 8 := by rw [am_cat_sum]; exact hcat
  have hcell : cells + 0 ≤ R.cells ∧ slots + 0 ≤ R.slots := ⟨hce, hsl⟩
  have hM2 := hOk l E A
  have last : ∀ (v : am_V) (m' : am_M) (H1 : Heap) (locs1 : List Loc), am_vok v → K v m' → va_P E.1 vwCl (am_ws E m') H1 → am_MR m' → va_S A s.heap H1 locs1 → W p l e R s mm args below meth c H1 locs1 cells slots Q (F0 mm (pc + 3) ls ((am_rc E y2 v).toList ++ r.map (am_cv E))) := by
    intro v m' H1 locs1 hvv hKv hP1 hM1 hS1
    have k := k v m' hKv H1 locs1 ls ⟨hP1, hW.2.1, am_D_any hD, hM1⟩ hS1 hl hv
    unfold am_rc
    by_cases h0 : cc % 10 = 0
    · rw [if_pos h0] at k
      rw [if_pos (g11.mpr h0)]
      exact k hokr
    · rw [if_neg h0] at k
      rw [if_neg (fun h => h0 (g11.mp h))]
      exact k (am_vc hvv hokr)
  rcases hig with ⟨hkd, rfl⟩ | ⟨hkd, rfl⟩
  · rw [if_pos hkd] at g2 g7 g8
    have hlen : (as.map (am_cv E)).length = cc % 1000 / 10 := by rw [List.length_map, e2, List.length_reverse, e3]
    have hstat := hts _ (am_big_of g2 rfl)
    by_cases h0 : kd = 0
    · rw [if_pos (Or.inl h0)] at g1
      have cw := callB_of (R := R) (mc := 0) (ms := 0) (cc % 1000 / 10) hts hgood rfl rfl rfl hini (hts _ (am_big_of g1 rfl)) ⟨g5, g6, g7⟩ hR
      exact am_back (va_runS (As := as.map (am_cv E)) (rest := r.map (am_cv E)) hfix hM2 ⟨cw, hstat⟩ ⟨am_blind E A as m, hpre⟩ rfl hlen hl.1 hst0 (lv_room hroom) hd hcell) hS last
    · rw [if_neg (by omega)] at g1
      have hnw : va_Nw (.methodLinkNest (am_cn.getD (am_mi y).2.2.2.2 "") i (am_mi y2).1 "TripleSieve") s := hRO.2.2.2.2.2.2.1 _ (List.mem_filter.mpr ⟨List.mem_of_getElem? g1, rfl⟩)
      have cw := va_cnB (R := R) (mc := 0) (ms := 0) (cc % 1000 / 10) hts hgood rfl rfl rfl hnw hini ⟨g5, g6, g7⟩ hR
      exact am_back (va_runSN (As := as.map (am_cv E)) (rest := r.map (am_cv E)) hfix hM2 ⟨cw, hstat, trivial⟩ ⟨am_blind E A as m, hpre⟩ rfl hlen hl.1 hst0 (lv_room hroom) hd hcell) hS last
  · rw [if_neg hkd] at g2 g7 g8
    obtain ⟨q, as', rfl, hq⟩ := hrc.resolve_left (by have := g8.2.1; omega)
    have hlen : (as'.map (am_cv E)).length = cc % 1000 / 10 - 1 := by
      have h3 : (Sum.inr (Sum.inr q) :: as' : List am_V).length = cc % 1000 / 10 := by rw [e2, List.length_reverse, e3]
      rw [List.length_map]
      rw [List.length_cons] at h3
      omega
    have hinst := hts _ (am_big_of g2 rfl)
    have hsel := hts _ (am_big_of (g3.resolve_left hkd) rfl)
    have hrecv : ∃ cellB : Cell, H[am_ad E q]? = some cellB ∧ cellB.vm.isStatics = false ∧ s.vm.findClass (am_mi y2).1.cls = some cellB.cls := by
      obtain ⟨k1, k2, k3⟩ := g8
      rcases hq with ⟨q1, q2, q3⟩ | ⟨q1, q2⟩
      · rcases k3 with ⟨-, k4⟩ | ⟨k4, -⟩
        · have := vk_recv hRO.2.2.2.1 (i := q - 1000) (by omega) hS
          rw [k4]
          rw [show 1000 + (q - 1000) = q by omega] at this
          exact this
        · omega
      · rcases k3 with ⟨k4, -⟩ | ⟨k4, k5⟩
        · exact absurd k4 q1
        · have hk100 : (am_lay q).1 < 100 := by omega
          have hqN : q < am_N := am_lay_lt (by omega)
          have hws := am_ws_get E m hqN
          rw [am_cell_obj hk100] at hws
          have := va_recv hK hP (am_C_at (ci := (am_lay q).1) (by omega)) hws
          rw [← k5, ← q2]
          exact this
    have hst1 : st.map (am_cv E) = (as'.map (am_cv E)).reverse ++ .ref (am_ad E q) :: r.map (am_cv E) := by rw [hst0]; simp [am_cv]
    by_cases h0 : kd = 2
    · rw [if_pos (Or.inr h0)] at g1
      have cw := callB_of (R := R) (mc := 0) (ms := 0) (cc % 1000 / 10 - 1) hts hgood rfl rfl rfl hini (hts _ (am_big_of g1 rfl)) ⟨g5, g6, g7⟩ hR
      exact am_back (va_runV (As := as'.map (am_cv E)) (b := am_ad E q) (C := (am_mi y2).1.cls) (rest := r.map (am_cv E)) hfix hM2 ⟨cw, hinst, hsel⟩ ⟨am_blind E A _ m, hrecv, hpre⟩ rfl hlen hl.1 hst1 (lv_room hroom) hd hcell) hS last
    · rw [if_neg (by omega)] at g1
      have hnw : va_Nw (.methodLinkNest (am_cn.getD (am_mi y).2.2.2.2 "") i (am_mi y2).1 "TripleSieve") s := hRO.2.2.2.2.2.2.1 _ (List.mem_filter.mpr ⟨List.mem_of_getElem? g1, rfl⟩)
      have cw := va_cnB (R := R) (mc := 0) (ms := 0) (cc % 1000 / 10 - 1) hts hgood rfl rfl rfl hnw hini ⟨g5, g6, g7⟩ hR
      exact am_back (va_runVN (As := as'.map (am_cv E)) (b := am_ad E q) (C := (am_mi y2).1.cls) (rest := r.map (am_cv E)) hfix hM2 ⟨cw, hinst, hsel⟩ ⟨am_blind E A _ m, hrecv, hpre⟩ rfl hlen hl.1 hst1 (lv_room hroom) hd hcell) hS last
end
end
section
def am_rng (z : Int) : Bool := decide (-2147483648 ≤ z) && decide (z ≤ 2147483647)
def am_lkI : List (Int × Int) → Int → Int → Int
  | [], _, d => d
  | (k, t) :: r, x, d => if x = k then t else am_lkI r x d
/-- the abstract instruction beside the real one -/
def am_rel (rt : Option FieldType) (o mx pc : Nat) (real : Instr) (len : Nat) (abs : Instr) : Bool := match real, abs with
  | .iconst n, .iconst z => decide (Int32.ofInt n = Int32.ofInt z) && am_rng z && Nat.beq len 1
  | .bipush n, .iconst z => decide ((Int8.ofInt n).toInt32 = Int32.ofInt z) && am_rng z && Nat.beq len 2
  | .sipush n, .iconst z => decide ((Int16.ofInt n).toInt32 = Int32.ofInt z) && am_rng z && Nat.beq len 3
  | .ldc i, .iconst z => (am_ct.getD o []).any (fun e => Nat.beq e.1 i && decide (e.2.1 = z)) && am_rng z && Nat.beq len 2
  | .ldc_w i, .iconst z => (am_ct.getD o []).any (fun e => Nat.beq e.1 i && decide (e.2.1 = z)) && am_rng z && Nat.beq len 3
  | .ldc i, .ldc n => Nat.beq o 6 && (am_sl.getD 6 []).any (fun e => Nat.beq e.1 i && Nat.beq e.2 n) && Nat.beq len 2
  | .lconst n, .ldc2_w k => Nat.beq n.val k && Nat.beq len 1
  | .ldc2_w i, .ldc2_w n => (am_lt.getD o []).any (fun e => Nat.beq e.1 i && Nat.beq e.2.1 n) && Nat.beq len 3
  | .iload_n n, .iload k => Nat.beq n.val k && Nat.beq len 1
  | .lload_n n, .lload k => Nat.beq n.val k && Nat.beq len 1
  | .aload_n n, .aload k => Nat.beq n.val k && Nat.beq len 1
  | .iload n, .iload k => Nat.beq n k && Nat.beq len 2
  | .lload n, .lload k => Nat.beq n k && Nat.beq len 2
  | .aload n, .aload k => Nat.beq n k && Nat.beq len 2
  | .istore_n n, .istore k => Nat.beq n.val k && Nat.blt k mx && Nat.beq len 1
  | .lstore_n n, .lstore k => Nat.beq n.val k && Nat.blt (k + 1) mx && Nat.beq len 1
  | .astore_n n, .astore k => Nat.beq n.val k && Nat.blt k mx && Nat.beq len 1
  | .istore n, .istore k => Nat.beq n k && Nat.blt k mx && Nat.beq len 2
  | .lstore n, .lstore k => Nat.beq n k && Nat.blt (k + 1) mx && Nat.beq len 2
  | .astore n, .astore k => Nat.beq n k && Nat.blt k mx && Nat.beq len 2
  | .iinc n a, .iinc k b => Nat.beq n k && decide (a = b) && Nat.blt k mx && Nat.beq len 3
  | .getfield i, .getfield n => (am_ft.getD o []).any (fun e => Nat.beq e.1 i && Nat.beq e.2.1 n) && Nat.beq len 3
  | .putfield i, .putfield n => (am_ft.getD o []).any (fun e => Nat.beq e.1 i && Nat.beq e.2.1 n) && Nat.beq len 3
  | .getstatic i, .getstatic n => (am_gs.getD o []).any (fun e => Nat.beq e.1 i && Nat.beq e.2.1 n) && Nat.beq len 3
  | .ifCond c off, .ifCond c2 t => decide (c = c2) && decide ((pc : Int) + off = t) && decide (0 ≤ t) && Nat.beq len 3
  | .if_icmp c off, .if_icmp c2 t => decide (c = c2) && decide ((pc : Int) + off = t) && decide (0 ≤ t) && Nat.beq len 3
  | .goto off, .goto t => decide ((pc : Int) + off = t) && decide (0 ≤ t) && Nat.beq len 3
  | .tableswitch dd lo hi offs, .lookupswitch d ps => decide ((pc : Int) + dd = d) && decide (0 ≤ d) && ps.toList.all (fun e => decide (lo ≤ e.1) && decide (e.1 ≤ hi) && decide (0 ≤ e.2)) && (List.range (hi - lo + 1).toNat).all (fun j => match offs[j]? with | some of => decide ((pc : Int) + of = am_lkI ps.toList (lo + j) d) | none => false)
  | .lookupswitch dd qs, .lookupswitch d ps => decide ((pc : Int) + dd = d) && decide (0 ≤ d) && (qs.toList.zip (qs.toList.drop 1)).all (fun (a, next) => a.1 < next.1) && ps.toList.all (fun e => decide (0 ≤ e.2) && qs.toList.any (fun q => decide (q.1 = e.1))) && qs.toList.all (fun q => decide ((pc : Int) + q.2 = am_lkI ps.toList q.1 d))
  | .invokevirtual i, .invokeinterface y c => (am_mt.getD o []).any (fun e => Nat.beq e.1 i && Nat.beq e.2.1 y && Nat.ble 2 e.2.2.1 && Nat.beq e.2.2.2.1 c) && Nat.beq len 3
  | .invokestatic i, .invokeinterface y c => (am_mt.getD o []).any (fun e => Nat.beq e.1 i && Nat.beq e.2.1 y && Nat.blt e.2.2.1 2 && Nat.beq e.2.2.2.1 c) && Nat.beq len 3
  | .invokestatic i, .fsub => (am_mt.getD o []).any (fun e => Nat.beq e.1 i && Nat.beq e.2.1 195 && Nat.beq e.2.2.1 0) && Nat.beq len 3
  | .invokestatic i, .fadd => (am_mt.getD o []).any (fun e => Nat.beq e.1 i && Nat.beq e.2.1 196 && Nat.beq e.2.2.1 0) && Nat.beq len 3
  | .invokestatic i, .invokedynamic _ => (am_act.getD o []).any (fun e => Nat.beq e.1 i) && Nat.beq len 3
  | .iadd, .iadd => Nat.beq len 1
  | .isub, .isub => Nat.beq len 1
  | .imul, .imul => Nat.beq len 1
  | .idiv, .idiv => Nat.beq len 1
  | .irem, .irem => Nat.beq len 1
  | .iand, .iand => Nat.beq len 1
  | .ior, .ior => Nat.beq len 1
  | .ixor, .ixor => Nat.beq len 1
  | .ishl, .ishl => Nat.beq len 1
  | .ishr, .ishr => Nat.beq len 1
  | .iushr, .iushr => Nat.beq len 1
  | .i2b, .i2b => Nat.beq len 1
  | .i2l, .i2l => Nat.beq len 1
  | .l2i, .l2i => Nat.beq len 1
  | .ladd, .ladd => Nat.beq len 1
  | .lsub, .lsub => Nat.beq len 1
  | .lmul, .lmul => Nat.beq len 1
  | .land, .land => Nat.beq len 1
  | .lor, .lor => Nat.beq len 1
  | .lxor, .lxor => Nat.beq len 1
  | .lneg, .lneg => Nat.beq len 1
  | .lshl, .lshl => Nat.beq len 1
  | .lshr, .lshr => Nat.beq len 1
  | .lushr, .lushr => Nat.beq len 1
  | .lcmp, .lcmp => Nat.beq len 1
  | .dup, .dup => Nat.beq len 1
  | .dup2, .dup2 => Nat.beq len 1
  | .pop, .pop => Nat.beq len 1
  | .iaload, .iaload => Nat.beq len 1
  | .baload, .baload => Nat.beq len 1
  | .laload, .laload => Nat.beq len 1
  | .aaload, .aaload => Nat.beq len 1
  | .iastore, .iastore => Nat.beq len 1
  | .bastore, .bastore => Nat.beq len 1
  | .lastore, .lastore => Nat.beq len 1
  | .arraylength, .arraylength => Nat.beq len 1
  | .ireturn, .ireturn => Nat.beq len 1 && am_rtk rt .ireturn
  | .lreturn, .lreturn => Nat.beq len 1 && am_rtk rt .lreturn
  | .areturn, .areturn => Nat.beq len 1 && am_rtk rt .areturn
  | .return_, .return_ => Nat.beq len 1 && am_rtk rt .return_
  | _, _ => false
def am_one (rt : Option FieldType) (o mx : Nat) (by' : ByteArray) (e : am_I) : Bool := match e.2.2.2 with
  | .goto_w t => decide ((e.1 : Int) = t)
  | _ => decide (decode by' e.1 = .ok (e.2.1, e.2.2.1)) && am_rel rt o mx e.1 e.2.1 e.2.2.1 e.2.2.2
def am_chkL (rt : Option FieldType) (o mx : Nat) (by' : ByteArray) : List am_I → Bool
  | [] => true
  | e :: r => am_one rt o mx by' e && (match r with | [] => true | e2 :: _ => Nat.beq e2.1 (e.1 + e.2.2.1)) && am_chkL rt o mx by' r
def am_chk (y : Nat) (bl : List (Nat × List am_I)) (ct : List (Nat × List Nat)) (b : Bool) : Bool := plainName (am_mi y).1.cls && decide (am_cn.getD (am_mi y).2.2.2.2 "" = (am_mi y).1.cls) && (match am_bool y, b with | true, true => true | false, false => true | _, _ => false) && bl.all fun e => am_chkL (am_mi y).2.2.2.1 (am_mi y).2.2.2.2 (am_mi y).2.2.1 (am_mi y).2.1 e.2 && (match e.2 with | [] => false | x :: _ => Nat.beq x.1 e.1)
end
section
section
variable {p : Program} {l : Launch} {e : Env} {R : Room} {s : State} {mm : MethodId} {args : Array Value} {below : List Frame} {meth : Method} {c : Code} {cells slots : Nat} {Q : State → Prop} {E : am_E} {A : Nat → Prop} {y d : Nat} {P : am_V → am_M → Prop}
  {pc : Nat} {lv : am_L} {r st : List am_V} {m : am_M}
theorem am_lsw_spec {x : Int} {J : Int → Prop} {d : Int} : ∀ {ps : List (Int × Int)} {ns : List Int}, am_lsw x J d ps ns → (∀ n ∈ ns, x ≠ n) → J (am_lkI ps x d)
  | [], ns, h, hn => by
    unfold am_lsw at h
    show J d
    induction ns with
    | nil => exact h
    | cons a ns ih => exact ih (fun n hh => hn n (List.mem_cons_of_mem _ hh)) (h (hn a List.mem_cons_self))
  | (k, t) :: ps, ns, h, hn => by
    unfold am_lsw at h
    unfold am_lkI
    by_cases hx : x = k
    · rw [if_pos hx]; exact h.1 hx
    · rw [if_neg hx]
      exact am_lsw_spec h.2 (fun n hh => by
        rcases List.mem_cons.mp hh with rfl | hh
        · exact hx
        · exact hn n hh)
theorem am_lkI_none {x d : Int} : ∀ {ps : List (Int × Int)}, (∀ q ∈ ps, q.1 ≠ x) → am_lkI ps x d = d
  | [], _ => rfl
  | (k, t) :: ps, h => by
    unfold am_lkI
    rw [if_neg (fun hh => h (k, t) List.mem_cons_self hh.symm)]
    exact am_lkI_none (fun q hq => h q (List.mem_cons_of_mem _ hq))
theorem am_lkI_nn {x d : Int} (hd : 0 ≤ d) : ∀ {ps : List (Int × Int)}, (∀ q ∈ ps, 0 ≤ q.2) → 0 ≤ am_lkI ps x d
  | [], _ => hd
  | (k, t) :: ps, h => by
    unfold am_lkI
    split
    · exact h (k, t) List.mem_cons_self
    · exact am_lkI_nn hd (fun q hq => h q (List.mem_cons_of_mem _ hq))
theorem am_off {x dd : Int} : ∀ {qs : List (Int × Int)}, (∃ q ∈ qs, q.1 = x ∧ Op.lookupswitch.offset qs dd x = q.2) ∨ ((∀ q ∈ qs, q.1 ≠ x) ∧ Op.lookupswitch.offset qs dd x = dd)
  | [] => Or.inr ⟨fun _ h => absurd h List.not_mem_nil, rfl⟩
  | (a, t) :: qs => by
    rw [Op.lookupswitch.offset_cons]
    by_cases h : a = x
    · rw [if_pos h]
      exact Or.inl ⟨(a, t), List.mem_cons_self, h, rfl⟩
    · rw [if_neg h]
      rcases am_off (x := x) (dd := dd) (qs := qs) with ⟨q, h1, h2, h3⟩ | ⟨h1, h2⟩
      · exact Or.inl ⟨q, List.mem_cons_of_mem _ h1, h2, h3⟩
      · refine Or.inr ⟨fun q hq => ?_, h2⟩
        rcases List.mem_cons.mp hq with rfl | hq
        · exact h
        · exact h1 q hq
theorem am_lk_mem {α : Type} : ∀ {l : List (Nat × α)} {i : Nat} {v : α}, am_lk l i = some v → (i, v) ∈ l
  | [], _, _, h => by cases h
  | (k, w) :: r, i, v, h => by
    unfold am_lk at h
    split at h
    · rename_i hb
      cases h
      have := Nat.eq_of_beq_eq_true hb
      subst this
      exact List.mem_cons_self
    · exact List.mem_cons_of_mem _ (am_lk_mem h)
theorem am_pick_mem : ∀ {ks : List Nat} {lv lv2 : am_L}, am_pick lv ks = some lv2 → ∀ q ∈ lv2, q ∈ lv
  | [], lv, lv2, h => by
    cases h
    intro q hq
    cases hq
  | k :: ks, lv, lv2, h => by
    unfold am_pick at h
    split at h
    · cases h
    · rename_i v hv
      split at h
      · cases h
      · rename_i r hr
        cases h
        intro q hq
        rcases List.mem_cons.mp hq with rfl | hq
        · exact am_lvget hv
        · exact am_pick_mem hr q hq
theorem am_at_sub {lv2 : am_L} (hs : ∀ q ∈ lv2, q ∈ lv) (h : am_at p l e R s mm args below meth c cells slots Q E A y pc lv2 st m) : am_at p l e R s mm args below meth c cells slots Q E A y pc lv st m := by
  intro H locs ls hW hS hl hv hst
  refine h H locs ls hW hS ⟨hl.1, hl.2.1, fun q hq => ?_⟩ (fun q hq => hv q (hs q hq)) hst
  obtain ⟨x, hx, rfl⟩ := List.mem_map.mp hq
  exact hl.2.2 _ (List.mem_map.mpr ⟨x, hs x hx, rfl⟩)
theorem am_beq {a b : Nat} : (Nat.beq a b = true) ↔ a = b := ⟨Nat.eq_of_beq_eq_true, fun h => by rw [h]; exact Nat.beq_refl b⟩
theorem am_ble {a b : Nat} : (Nat.ble a b = true) ↔ a ≤ b := ⟨Nat.le_of_ble_eq_true, Nat.ble_eq_true_of_le⟩
theorem am_blt {a b : Nat} : (Nat.blt a b = true) ↔ a < b := am_ble
theorem am_rgf {q k t x : Nat} (hq : q < am_N) (hk : (am_lay q).1 < 100) (he : (am_lay q).2[k]? = some (t, x)) (ht : t ≠ 2) (ht3 : t ≠ 3) : am_rg x = 0 := by
  obtain ⟨hx, h100⟩ := am_idq hq hk he ht
  have e1 : (x - 1000) / 100 = q := by omega
  have e2 : (x - 1000) % 100 = k := by omega
  have e3 : (am_lay q).2.getD k (0, 0) = (t, x) := by rw [List.getD_eq_getElem?_getD, he]; rfl
  unfold am_rg
  rw [if_neg (by omega), e1, e2, e3, if_neg (fun h => ht3 h.1)]
theorem am_rgz {q k x : Nat} (hq : q < am_N) (hk : (am_lay q).1 < 100) (he : (am_lay q).2[k]? = some (3, x)) : am_rg x = 1 := by
  obtain ⟨hx, h100⟩ := am_idq hq hk he (by decide)
  have e1 : (x - 1000) / 100 = q := by omega
  have e2 : (x - 1000) % 100 = k := by omega
  have e3 : (am_lay q).2.getD k (0, 0) = (3, x) := by rw [List.getD_eq_getElem?_getD, he]; rfl
  unfold am_rg
  rw [if_neg (by omega), e1, e2, e3, if_pos ⟨rfl, hk⟩]
theorem am_lenL : ∀ q, q < am_N → am_len q < 2147483648 := by decide +kernel
theorem s_ret (C : am_Cx p l e R s mm args below meth c cells slots Q E A y d P) {i : Instr} {v : am_V} (hd : decode (am_mi y).2.1 pc = .ok (i, 1)) (hrt : am_rtk (am_mi y).2.2.2.1 i = true) (hi : am_isRet i v) (hb2 : am_bool y = true → ∀ z, v = .inl z → z = 0 ∨ z = 1) (hp : P v m) : am_at p l e R s mm args below meth c cells slots Q E A y pc lv (match i with | .return_ => [] | _ => [v]) m := by
  obtain ⟨hx, hb, hml, hown, hts, hfr, hlo, hce, hsl, hRO, hK, hret⟩ := id C
  intro H locs ls hW hS hl hv hst
  have hvok : am_vok v := by
    cases i <;> first | exact hst v List.mem_cons_self | skip
    rcases v with z | z | z
    · rw [show z = 0 from hi]; exact am_R0
    · exact trivial
    · exact trivial
  have h := hret i pc ls H locs m v hd hrt hi hvok hb2 hp hW hS
  unfold am_rst at h
  cases i <;> exact h
theorem am_aldL_spec {i : Int} {k : Nat → Prop} : ∀ {n : Int} {l : List (Nat × Nat)}, am_aldL i k n l → n ≤ i → i < n + (l.length : Int) → k (l.getD (i - n).toNat (0, 0)).1
  | n, [], h, h1, h2 => by simp at h2; omega
  | n, (q, x) :: l, h, h1, h2 => by
    unfold am_aldL at h
    by_cases hn : i = n
    · subst hn
      rw [Int.sub_self]
      exact h.1 rfl
    · have h3 := am_aldL_spec h.2 (by omega) (by rw [List.length_cons] at h2; omega)
      have e : (i - n).toNat = (i - (n + 1)).toNat + 1 := by omega
      rw [e]
      exact h3
theorem am_inv_spec {call : am_Call} {y2 cc : Nat} {K : am_K} (h : am_inv call y2 cc lv st m K) : ∃ (as r : List am_V) (K2 : am_V → am_M → Prop), am_popn (cc % 1000 / 10) [] st = some (as, r) ∧ am_cat r ≤ 8 ∧ (cc / 1000 = 0 ∨ ∃ q as', as = .inr (.inr q) :: as' ∧ ((cc / 1000 = 17 ∧ 1000 ≤ q ∧ q < 1014) ∨ (cc / 1000 ≠ 17 ∧ (am_lay q).1 = cc / 1000 - 1))) ∧ call y2 as m K2 ∧ ∀ v m', K2 v m' → K lv (if cc % 10 = 0 then r else v :: r) m' := by
  unfold am_inv at h
  split at h
  · exact h.elim
  · rename_i as r hp
    split at h
    · exact h.elim
    · rename_i hc
      have key : ∀ X : Prop, am_rcv (cc / 1000) as X → X ∧ (cc / 1000 = 0 ∨ ∃ q as', as = .inr (.inr q) :: as' ∧ ((cc / 1000 = 17 ∧ 1000 ≤ q ∧ q < 1014) ∨ (cc / 1000 ≠ 17 ∧ (am_lay q).1 = cc / 1000 - 1))) := by
        intro X hX
        generalize cc / 1000 = n at hX ⊢
        unfold am_rcv at hX
        split at hX
        · exact ⟨hX, Or.inl rfl⟩
        · split at hX
          · exact ⟨hX.2, Or.inr ⟨_, _, rfl, Or.inl ⟨rfl, hX.1⟩⟩⟩
          · exact hX.elim
        · rename_i n hn
          split at hX
          · split at hX
            · rename_i hb
              exact ⟨hX, Or.inr ⟨_, _, rfl, Or.inr ⟨fun hh => hn (by omega), by rw [am_beq.mp hb]; rfl⟩⟩⟩
            · exact hX.elim
          · exact hX.elim
      obtain ⟨h, hr⟩ := key _ h
      split at h
      · rename_i h0
        exact ⟨as, r, _, hp, am_ble.mp hc, hr, h, fun v m' hv => by rw [if_pos h0]; exact hv⟩
      · rename_i h0
        refine ⟨as, r, _, hp, am_ble.mp hc, hr, h, fun v m' hv => ?_⟩
        rw [if_neg (by omega)]
        rcases v with z | z | z
        · exact hv
        · exact hv.elim
        · exact hv.elim
      · rename_i h0
        refine ⟨as, r, _, hp, am_ble.mp hc, hr, h, fun v m' hv => ?_⟩
        rw [if_neg (by omega)]
        rcases v with z | z | z
        · exact hv.elim
        · exact hv
        · exact hv.elim
      · rename_i h0 h1 h2
        refine ⟨as, r, _, hp, am_ble.mp hc, hr, h, fun v m' hv => ?_⟩
        rw [if_neg h0]
        rcases v with z | z | z
        · exact hv.elim
        · exact hv.elim
        · exact hv
theorem s_min (C : am_Cx p l e R s mm args below meth c cells slots Q E A y (d + 1) P) {i cc w1 w2 w3 w4 : Nat} {a b : Int} (hf : (i, 195, 0, cc, w1, w2, w3, w4) ∈ am_mt.getD (am_mi y).2.2.2.2 []) (hcat : am_cat st ≤ 8) (hd : decode (am_mi y).2.1 pc = .ok (.invokestatic i, 3)) (k : am_at p l e R s mm args below meth c cells slots Q E A y (pc + 3) lv (.inl (if b < a then b else a) :: st) m) : am_at p l e R s mm args below meth c cells slots Q E A y pc lv (.inl b :: .inl a :: st) m := by
  obtain ⟨hx, hb, hml, hown, hts, hfr, hlo, hce, hsl, hRO, hK, hret⟩ := id C
  intro H locs ls hW hS hl hv hst
  have h1 := am_all17 (f := fun o => am_mt.getD o []) (List.all_eq_true.mpr fun o ho => am_mt_ok o (List.mem_range.mp ho)) am_mt17 hf
  simp only [am_mck, Bool.and_eq_true, decide_eq_true_eq, Bool.or_eq_true] at h1
  obtain ⟨⟨⟨⟨⟨⟨⟨⟨⟨⟨g1, g2⟩, g3⟩, g4⟩, g5⟩, g6⟩, g7⟩, g8⟩, g9⟩, g10⟩, g11⟩ := h1
  have ra : am_R a := am_vh (am_vt hst)
  have rb : am_R b := am_vh hst
  have rr : am_R (if b < a then b else a) := by split <;> assumption
  have k := k H locs ls hW hS hl hv (am_vc rr (am_vt (am_vt hst)))
  have e1 : Int32.ofInt (if b < a then b else a) = if Int32.ofInt b < Int32.ofInt a then Int32.ofInt b else Int32.ofInt a := by
    by_cases hc : b < a
    · rw [if_pos hc, if_pos ((am_ltI rb ra).mpr hc)]
    · rw [if_neg hc, if_neg (fun hh => hc ((am_ltI rb ra).mp hh))]
  simp only [List.map_cons, am_cv, e1] at k
  exact va_mmin hx hb (hml.trans hl.1.symm) hown (hts _ (am_big_of g1 rfl)) (hts _ (am_big_of g2 rfl)) (hts _ (am_big_of g4 rfl)) (hts _ (cwb_195 : am_cwP 195)) (by omega) (by rw [am_cat_sum]; omega) hce hsl hd k
theorem s_max (C : am_Cx p l e R s mm args below meth c cells slots Q E A y (d + 1) P) {i cc w1 w2 w3 w4 : Nat} {a b : Int} (hf : (i, 196, 0, cc, w1, w2, w3, w4) ∈ am_mt.getD (am_mi y).2.2.2.2 []) (hcat : am_cat st ≤ 8) (hd : decode (am_mi y).2.1 pc = .ok (.invokestatic i, 3)) (k : am_at p l e R s mm args below meth c cells slots Q E A y (pc + 3) lv (.inl (if a < b then b else a) :: st) m) : am_at p l e R s mm args below meth c cells slots Q E A y pc lv (.inl b :: .inl a :: st) m := by
  obtain ⟨hx, hb, hml, hown, hts, hfr, hlo, hce, hsl, hRO, hK, hret⟩ := id C
  intro H locs ls hW hS hl hv hst
  have h1 := am_all17 (f := fun o => am_mt.getD o []) (List.all_eq_true.mpr fun o ho => am_mt_ok o (List.mem_range.mp ho)) am_mt17 hf
  simp only [am_mck, Bool.and_eq_true, decide_eq_true_eq, Bool.or_eq_true] at h1
  obtain ⟨⟨⟨⟨⟨⟨⟨⟨⟨⟨g1, g2⟩, g3⟩, g4⟩, g5⟩, g6⟩, g7⟩, g8⟩, g9⟩, g10⟩, g11⟩ := h1
  have ra : am_R a := am_vh (am_vt hst)
  have rb : am_R b := am_vh hst
  have rr : am_R (if a < b then b else a) := by split <;> assumption
  have k := k H locs ls hW hS hl hv (am_vc rr (am_vt (am_vt hst)))
  have e1 : Int32.ofInt (if a < b then b else a) = if Int32.ofInt a < Int32.ofInt b then Int32.ofInt b else Int32.ofInt a := by
    by_cases hc : a < b
    · rw [if_pos hc, if_pos ((am_ltI ra rb).mpr hc)]
    · rw [if_neg hc, if_neg (fun hh => hc ((am_ltI ra rb).mp hh))]
  simp only [List.map_cons, am_cv, e1] at k
  exact va_mmax hx hb (hml.trans hl.1.symm) hown (hts _ (am_big_of g1 rfl)) (hts _ (am_big_of g2 rfl)) (hts _ (am_big_of g4 rfl)) (hts _ (cwb_196 : am_cwP 196)) (by omega) (by rw [am_cat_sum]; omega) hce hsl hd k
theorem am_any {α : Type} {l : List α} {f : α → Bool} (h : l.any f = true) : ∃ x, x ∈ l ∧ f x = true := List.any_eq_true.mp h
set_option maxHeartbeats 4000000 in
set_option maxRecDepth 20000 in
theorem am_stepS (C : am_Cx p l e R s mm args below meth c cells slots Q E A y (d + 1) P) (hLs : am_R (am_sc E).1) {x : am_I} (hone : am_one (am_mi y).2.2.2.1 (am_mi y).2.2.2.2 (am_mi y).2.2.1 (am_mi y).2.1 x = true) {b : Bool} (hbb : b = am_bool y) {K : am_K} {J : Nat → am_K}
    (hK : ∀ lv st m, K lv st m → am_at p l e R s mm args below meth c cells slots Q E A y (x.1 + x.2.2.1) lv st m) (hJ : ∀ t lv st m, J t lv st m → am_at p l e R s mm args below meth c cells slots Q E A y t lv st m) (h : am_step (am_sc E) (am_Ok d) b P x.2.2.2 lv st m K J) : am_at p l e R s mm args below meth c cells slots Q E A y x.1 lv st m := by
  obtain ⟨pc, real, len, abs⟩ := x
  simp only at hK h ⊢
  simp only [am_one] at hone
  split at hone
  · rename_i t
    simp only [decide_eq_true_eq] at hone
    have h := hJ _ _ _ _ h
    rw [← hone] at h
    exact h
  · simp only [Bool.and_eq_true, decide_eq_true_eq] at hone
    obtain ⟨hd, hrel⟩ := hone
    unfold am_rel at hrel
    split at hrel
    all_goals simp only [Bool.and_eq_true, decide_eq_true_eq, am_beq, am_blt, am_ble, am_rng, Bool.false_eq_true] at hrel
    all_goals simp only [am_step] at h
    · obtain ⟨⟨h1, h2⟩, rfl⟩ := hrel
      exact s_iconst C h1 h2 hd (hK _ _ _ h)
    · obtain ⟨⟨h1, h2⟩, rfl⟩ := hrel
      exact s_bipush C h1 h2 hd (hK _ _ _ h)
    · obtain ⟨⟨h1, h2⟩, rfl⟩ := hrel
      exact s_sipush C h1 h2 hd (hK _ _ _ h)
    · obtain ⟨⟨h1, h2⟩, rfl⟩ := hrel
      obtain ⟨⟨i1, z1, w1⟩, g1, g2⟩ := am_any h1
      simp only [Bool.and_eq_true, decide_eq_true_eq, am_beq] at g2
      obtain ⟨rfl, rfl⟩ := g2
      exact s_ldc C (am_clink g1) h2 hd (hK _ _ _ h)
    · obtain ⟨⟨h1, h2⟩, rfl⟩ := hrel
      obtain ⟨⟨i1, z1, w1⟩, g1, g2⟩ := am_any h1
      simp only [Bool.and_eq_true, decide_eq_true_eq, am_beq] at g2
      obtain ⟨rfl, rfl⟩ := g2
      exact s_ldcw C (am_clink g1) h2 hd (hK _ _ _ h)
    · obtain ⟨⟨h0, h1⟩, rfl⟩ := hrel
      obtain ⟨⟨i1, n1⟩, g1, g2⟩ := am_any h1
      simp only [Bool.and_eq_true, am_beq] at g2
      obtain ⟨rfl, rfl⟩ := g2
      exact s_ldcS C (by rw [h0]; rfl) g1 hd (hK _ _ _ h)
    · obtain ⟨rfl, rfl⟩ := hrel
      exact s_lconst C hd (hK _ _ _ h)
    · obtain ⟨h1, rfl⟩ := hrel
      obtain ⟨⟨i1, n1, w1⟩, g1, g2⟩ := am_any h1
      simp only [Bool.and_eq_true, am_beq] at g2
      obtain ⟨rfl, rfl⟩ := g2
      exact s_ldc2 C (am_llink g1) hd (hK _ _ _ h)
    · obtain ⟨h1, rfl⟩ := hrel
      unfold am_oi at h
      split at h
      · rename_i z hz
        exact s_iloadn C h1 hz hd (hK _ _ _ h)
      · exact h.elim
    · obtain ⟨h1, rfl⟩ := hrel
      unfold am_ol at h
      split at h
      · rename_i z hz
        exact s_lloadn C h1 hz hd (hK _ _ _ h)
      · exact h.elim
    · obtain ⟨h1, rfl⟩ := hrel
      unfold am_or' at h
      split at h
      · rename_i z hz
        exact s_aloadn C h1 hz hd (hK _ _ _ h)
      · exact h.elim
    · obtain ⟨rfl, rfl⟩ := hrel
      unfold am_oi at h
      split at h
      · rename_i z hz
        exact s_iload C hz hd (hK _ _ _ h)
      · exact h.elim
    · obtain ⟨rfl, rfl⟩ := hrel
      unfold am_ol at h
      split at h
      · rename_i z hz
        exact s_lload C hz hd (hK _ _ _ h)
      · exact h.elim
    · obtain ⟨rfl, rfl⟩ := hrel
      unfold am_or' at h
      split at h
      · rename_i z hz
        exact s_aload C hz hd (hK _ _ _ h)
      · exact h.elim
    · obtain ⟨⟨h1, h2⟩, rfl⟩ := hrel
      unfold am_i1 at h
      split at h
      · exact s_istoren C h1 h2 hd (hK _ _ _ h)
      · exact h.elim
    · obtain ⟨⟨h1, h2⟩, rfl⟩ := hrel
      unfold am_l1 at h
      split at h
      · exact s_lstoren C h1 h2 hd (hK _ _ _ h)
      · exact h.elim
    · obtain ⟨⟨h1, h2⟩, rfl⟩ := hrel
      unfold am_r1 at h
      split at h
      · exact s_astoren C h1 h2 hd (hK _ _ _ h)
      · exact h.elim
    · obtain ⟨⟨rfl, h2⟩, rfl⟩ := hrel
      unfold am_i1 at h
      split at h
      · exact s_istore C h2 hd (hK _ _ _ h)
      · exact h.elim
    · obtain ⟨⟨rfl, h2⟩, rfl⟩ := hrel
      unfold am_l1 at h
      split at h
      · exact s_lstore C h2 hd (hK _ _ _ h)
      · exact h.elim
    · obtain ⟨⟨rfl, h2⟩, rfl⟩ := hrel
      unfold am_r1 at h
      split at h
      · exact s_astore C h2 hd (hK _ _ _ h)
      · exact h.elim
    · obtain ⟨⟨⟨rfl, rfl⟩, h2⟩, rfl⟩ := hrel
      unfold am_oi at h
      split at h
      · rename_i z hz
        exact s_iinc C hz h2 h.1 hd (hK _ _ _ h.2)
      · exact h.elim
    · obtain ⟨h1, rfl⟩ := hrel
      obtain ⟨⟨i1, n1, f1, w1⟩, g1, g2⟩ := am_any h1
      simp only [Bool.and_eq_true, am_beq] at g2
      obtain ⟨rfl, rfl⟩ := g2
      unfold am_r1 at h
      split at h
      · unfold am_gf at h
        split at h
        · rename_i hg
          exact s_getfield (v := .inl _) C g1 hg (by decide) rfl (fun hM => hM.R _ _) hd (hK _ _ _ h)
        · rename_i hg
          exact s_getfield (v := .inr (.inl _)) C g1 hg (by decide) rfl (fun _ => trivial) hd (hK _ _ _ h)
        · rename_i hg
          exact s_getfield (v := .inr (.inr _)) C g1 hg (by decide) rfl (fun _ => trivial) hd (hK _ _ _ h)
        · rename_i hg
          exact s_getfield (v := .inl _) C g1 hg (by decide) rfl (fun hM => hM.R _ _) hd (hK _ _ _ h)
        · exact h.elim
      · exact h.elim
    · obtain ⟨h1, rfl⟩ := hrel
      obtain ⟨⟨i1, n1, f1, w1⟩, g1, g2⟩ := am_any h1
      simp only [Bool.and_eq_true, am_beq] at g2
      obtain ⟨rfl, rfl⟩ := g2
      unfold am_pf at h
      split at h
      · rename_i v q r
        split at h
        · rename_i x hg
          have hg' := am_fld_spec hg (by decide)
          have hk100 : (am_lay q).1 < 100 := by rw [hg'.2.1]; have := (am_flink g1).1; omega
          refine s_putfield C g1 hg (by decide) (by decide) (am_wr1 m x 0 v) (fun _ _ => rfl) (by show Value.int (Int32.ofInt ((am_wr m x 0 v).1 x 0)) = _; rw [am_wr_self]; rfl) ?_ (fun hM hv => hM.wr ?_) hd (hK _ _ _ h)
          · intro ty hty
            rcases hty with ⟨-, rfl⟩ | ⟨h0, -⟩ | ⟨h0, -⟩
            · exact ⟨rfl, rfl⟩
            · cases h0
            · cases h0
          · have hx := am_idq hg'.1 hk100 hg'.2.2 (by decide)
            rw [am_rgf hg'.1 hk100 hg'.2.2 (by decide) (by decide)]
            exact hv
        · rename_i x hg
          have hg' := am_fld_spec hg (by decide)
          have hk100 : (am_lay q).1 < 100 := by rw [hg'.2.1]; have := (am_flink g1).1; omega
          refine s_putfield C g1 hg (by decide) (by decide) (am_wr1 m x 0 v) (fun _ _ => rfl) (by show Value.int (Int32.ofInt ((am_wr m x 0 v).1 x 0)) = _; rw [am_wr_self]; rfl) ?_ (fun hM hv => hM.wr ?_) hd (hK _ _ _ h.2)
          · intro ty hty
            rcases hty with ⟨h0, -⟩ | ⟨h0, -⟩ | ⟨-, rfl⟩
            · cases h0
            · cases h0
            · exact ⟨(am_nb v h.1).1, (am_nb v h.1).2.1⟩
          · rw [am_rgz hg'.1 hk100 hg'.2.2]
            exact h.1
        · exact h.elim
      · rename_i v q r
        split at h
        · rename_i x hg
          refine s_putfield (m2 := am_wl m x 0 v) C g1 hg (by decide) (by decide) (fun _ _ => rfl) (am_wl2 m x 0 v) (by show Value.long ((am_wl m x 0 v).2 x 0) = _; rw [am_wl_self]; rfl) ?_ (fun hM hv => hM.wl) hd (hK _ _ _ h)
          intro ty hty
          rcases hty with ⟨h0, -⟩ | ⟨-, rfl⟩ | ⟨h0, -⟩
          · cases h0
          · exact ⟨rfl, rfl⟩
          · cases h0
        · exact h.elim
      · exact h.elim
    · obtain ⟨h1, rfl⟩ := hrel
      obtain ⟨⟨i1, n1, f1, w1⟩, g1, g2⟩ := am_any h1
      simp only [Bool.and_eq_true, am_beq] at g2
      obtain ⟨rfl, rfl⟩ := g2
      exact s_getstatic C g1 hd (hK _ _ _ h)
    · obtain ⟨⟨⟨rfl, h1⟩, h2⟩, rfl⟩ := hrel
      unfold am_i1 at h
      split at h
      · rename_i cnd off t _ _ a r
        have ht : (pc : Int) + off = ((t.toNat : Nat) : Int) := h1.trans (Int.toNat_of_nonneg h2).symm
        cases cnd
        · exact s_if_eq C ht hd (fun hh => hJ _ _ _ _ (h.1 hh)) (fun hh => hK _ _ _ (h.2 hh))
        · exact s_if_ne C ht hd (fun hh => hJ _ _ _ _ (h.1 hh)) (fun hh => hK _ _ _ (h.2 hh))
        · exact s_if_lt C ht hd (fun hh => hJ _ _ _ _ (h.1 hh)) (fun hh => hK _ _ _ (h.2 hh))
        · exact s_if_ge C ht hd (fun hh => hJ _ _ _ _ (h.1 hh)) (fun hh => hK _ _ _ (h.2 hh))
        · exact s_if_gt C ht hd (fun hh => hJ _ _ _ _ (h.1 hh)) (fun hh => hK _ _ _ (h.2 hh))
        · exact s_if_le C ht hd (fun hh => hJ _ _ _ _ (h.1 hh)) (fun hh => hK _ _ _ (h.2 hh))
      · exact h.elim
    · obtain ⟨⟨⟨rfl, h1⟩, h2⟩, rfl⟩ := hrel
      unfold am_i2 at h
      split at h
      · rename_i cnd off t _ _ b a r
        have ht : (pc : Int) + off = ((t.toNat : Nat) : Int) := h1.trans (Int.toNat_of_nonneg h2).symm
        cases cnd
        · exact s_icmp_eq C ht hd (fun hh => hJ _ _ _ _ (h.1 hh)) (fun hh => hK _ _ _ (h.2 hh))
        · exact s_icmp_ne C ht hd (fun hh => hJ _ _ _ _ (h.1 hh)) (fun hh => hK _ _ _ (h.2 hh))
        · exact s_icmp_lt C ht hd (fun hh => hJ _ _ _ _ (h.1 hh)) (fun hh => hK _ _ _ (h.2 hh))
        · exact s_icmp_ge C ht hd (fun hh => hJ _ _ _ _ (h.1 hh)) (fun hh => hK _ _ _ (h.2 hh))
        · exact s_icmp_gt C ht hd (fun hh => hJ _ _ _ _ (h.1 hh)) (fun hh => hK _ _ _ (h.2 hh))
        · exact s_icmp_le C ht hd (fun hh => hJ _ _ _ _ (h.1 hh)) (fun hh => hK _ _ _ (h.2 hh))
      · exact h.elim
    · obtain ⟨⟨h1, h2⟩, rfl⟩ := hrel
      exact s_goto C (h1.trans (Int.toNat_of_nonneg h2).symm) hd (hJ _ _ _ _ h)
    · obtain ⟨⟨⟨h1, h2⟩, h3⟩, h4⟩ := hrel
      unfold am_i1 at h
      split at h
      · rename_i dd lo hi offs d2 ps _ _ a r
        have hj := am_lsw_spec h (fun n hn => absurd hn List.not_mem_nil)
        have h3' : ∀ q ∈ ps.toList, (lo ≤ q.1 ∧ q.1 ≤ hi) ∧ 0 ≤ q.2 := fun q hq => by
          have := List.all_eq_true.mp h3 q hq
          simp only [Bool.and_eq_true, decide_eq_true_eq] at this
          exact this
        have hnn : 0 ≤ am_lkI ps.toList a d2 := am_lkI_nn h2 (fun q hq => (h3' q hq).2)
        by_cases hr : a < lo ∨ hi < a
        · rw [am_lkI_none (fun q hq hh => by have := h3' q hq; omega)] at hj
          exact s_tableOut C hr (h1.trans (Int.toNat_of_nonneg h2).symm) hd (hJ _ _ _ _ hj)
        · have hj4 := List.all_eq_true.mp h4 (a - lo).toNat (List.mem_range.mpr (by omega))
          split at hj4
          · rename_i of hof
            simp only [decide_eq_true_eq] at hj4
            rw [show lo + (((a - lo).toNat : Nat) : Int) = a by omega] at hj4
            exact s_tableIn C (fun hh => hr (Or.inl hh)) (fun hh => hr (Or.inr hh)) hof (hj4.trans (Int.toNat_of_nonneg hnn).symm) hd (hJ _ _ _ _ hj)
          · cases hj4
      · exact h.elim
    · obtain ⟨⟨⟨⟨h1, h2⟩, h3⟩, h4⟩, h5⟩ := hrel
      unfold am_i1 at h
      split at h
      · rename_i dd qs d2 ps _ _ a r
        have hj := am_lsw_spec h (fun n hn => absurd hn List.not_mem_nil)
        have h4' : ∀ q ∈ ps.toList, 0 ≤ q.2 ∧ ∃ x ∈ qs.toList, x.1 = q.1 := fun q hq => by
          have := List.all_eq_true.mp h4 q hq
          simp only [Bool.and_eq_true, decide_eq_true_eq] at this
          obtain ⟨x, hx1, hx2⟩ := am_any this.2
          exact ⟨this.1, x, hx1, of_decide_eq_true hx2⟩
        have hnn : 0 ≤ am_lkI ps.toList a d2 := am_lkI_nn h2 (fun q hq => (h4' q hq).1)
        refine s_lookup C h3 rfl (t := (am_lkI ps.toList a d2).toNat) ?_ hd (hJ _ _ _ _ hj)
        rw [Int.toNat_of_nonneg hnn]
        rcases am_off (x := a) (dd := dd) (qs := qs.toList) with ⟨q, g1, g2, g3⟩ | ⟨g1, g2⟩
        · have := of_decide_eq_true (List.all_eq_true.mp h5 q g1)
          rw [g3, this, g2]
        · rw [g2, h1, am_lkI_none (fun q hq hh => by
            obtain ⟨x, hx1, hx2⟩ := (h4' q hq).2
            exact g1 x hx1 (hx2.trans hh))]
      · exact h.elim
    · obtain ⟨h1, rfl⟩ := hrel
      obtain ⟨⟨i1, y1, k1, c1, w1, w2, w3, w4⟩, g1, g2⟩ := am_any h1
      simp only [Bool.and_eq_true, am_beq, am_ble, am_blt] at g2
      obtain ⟨⟨⟨rfl, rfl⟩, g3⟩, rfl⟩ := g2
      obtain ⟨as, r, K2, i1, i2, i3, i4, i5⟩ := am_inv_spec h
      exact s_call C g1 (Or.inr ⟨by omega, rfl⟩) i1 i2 i3 i4 hd (fun v m' hv => hK _ _ _ (i5 v m' hv))
    · obtain ⟨h1, rfl⟩ := hrel
      obtain ⟨⟨i1, y1, k1, c1, w1, w2, w3, w4⟩, g1, g2⟩ := am_any h1
      simp only [Bool.and_eq_true, am_beq, am_ble, am_blt] at g2
      obtain ⟨⟨⟨rfl, rfl⟩, g3⟩, rfl⟩ := g2
      obtain ⟨as, r, K2, i1, i2, i3, i4, i5⟩ := am_inv_spec h
      exact s_call C g1 (Or.inl ⟨g3, rfl⟩) i1 i2 i3 i4 hd (fun v m' hv => hK _ _ _ (i5 v m' hv))
    · obtain ⟨h1, rfl⟩ := hrel
      obtain ⟨⟨i1, y1, k1, c1, w1, w2, w3, w4⟩, g1, g2⟩ := am_any h1
      simp only [Bool.and_eq_true, am_beq] at g2
      obtain ⟨⟨rfl, rfl⟩, rfl⟩ := g2
      unfold am_i2s at h
      split at h
      · split at h
        · rename_i hc
          exact s_min C g1 (am_ble.mp hc) hd (hK _ _ _ h)
        · exact h.elim
      · exact h.elim
    · obtain ⟨h1, rfl⟩ := hrel
      obtain ⟨⟨i1, y1, k1, c1, w1, w2, w3, w4⟩, g1, g2⟩ := am_any h1
      simp only [Bool.and_eq_true, am_beq] at g2
      obtain ⟨⟨rfl, rfl⟩, rfl⟩ := g2
      unfold am_i2s at h
      split at h
      · split at h
        · rename_i hc
          exact s_max C g1 (am_ble.mp hc) hd (hK _ _ _ h)
        · exact h.elim
      · exact h.elim
    · obtain ⟨h1, rfl⟩ := hrel
      obtain ⟨⟨i1, w1⟩, g1, g2⟩ := am_any h1
      simp only [am_beq] at g2
      subst g2
      unfold am_cp at h
      split at h
      · split at h
        · split at h
          · rename_i hk
            simp only [Bool.and_eq_true, am_beq] at hk
            obtain ⟨rfl, hk⟩ := hk
            exact s_copyt C g1 hk h.1 h.2.1 h.2.2.1 h.2.2.2.1 h.2.2.2.2.1 (by omega) hd (hK _ _ _ h.2.2.2.2.2)
          · exact h.elim
        · split at h
          · rename_i hk
            simp only [Bool.and_eq_true, am_beq] at hk
            exact s_copyi C g1 hk.1 hk.2 h.1 h.2.1 h.2.2.1 h.2.2.2.1 h.2.2.2.2.1 (by omega) hd (hK _ _ _ h.2.2.2.2.2)
          · split at h
            · rename_i hk
              simp only [Bool.and_eq_true, am_beq] at hk
              exact s_copyl C g1 hk.1 hk.2 h.1 h.2.1 h.2.2.1 h.2.2.2.1 h.2.2.2.2.1 (by omega) hd (hK _ _ _ h.2.2.2.2.2)
            · exact h.elim
      · exact h.elim
    · subst hrel
      unfold am_i2 at h
      split at h
      · exact s_iadd C h.1 hd (hK _ _ _ h.2)
      · exact h.elim
    · subst hrel
      unfold am_i2 at h
      split at h
      · exact s_isub C h.1 hd (hK _ _ _ h.2)
      · exact h.elim
    · subst hrel
      unfold am_i2 at h
      split at h
      · exact s_imul C h.1 hd (hK _ _ _ h.2)
      · exact h.elim
    · subst hrel
      unfold am_i2 at h
      split at h
      · exact s_idiv C h.1 h.2.1 hd (hK _ _ _ h.2.2)
      · exact h.elim
    · subst hrel
      unfold am_i2 at h
      split at h
      · exact s_irem C h.1 h.2.1 hd (hK _ _ _ h.2.2)
      · exact h.elim
    · subst hrel
      unfold am_i2 at h
      split at h
      · exact s_iand C hd (hK _ _ _ h)
      · exact h.elim
    · subst hrel
      unfold am_i2 at h
      split at h
      · exact s_ior C hd (hK _ _ _ h)
      · exact h.elim
    · subst hrel
      unfold am_i2 at h
      split at h
      · exact s_ixor C hd (hK _ _ _ h)
      · exact h.elim
    · subst hrel
      unfold am_i2 at h
      split at h
      · exact s_ishl C hd (hK _ _ _ h)
      · exact h.elim
    · subst hrel
      unfold am_i2 at h
      split at h
      · exact s_ishr C hd (hK _ _ _ h)
      · exact h.elim
    · subst hrel
      unfold am_i2 at h
      split at h
      · exact s_iushr C hd (hK _ _ _ h)
      · exact h.elim
    · subst hrel
      unfold am_i1 at h
      split at h
      · exact s_i2b C hd (hK _ _ _ h)
      · exact h.elim
    · subst hrel
      unfold am_i1 at h
      split at h
      · exact s_i2l C hd (hK _ _ _ h)
      · exact h.elim
    · subst hrel
      unfold am_l1 at h
      split at h
      · exact s_l2i C hd (hK _ _ _ h)
      · exact h.elim
    · subst hrel
      unfold am_l2 at h
      split at h
      · exact s_ladd C hd (hK _ _ _ h)
      · exact h.elim
    · subst hrel
      unfold am_l2 at h
      split at h
      · exact s_lsub C hd (hK _ _ _ h)
      · exact h.elim
    · subst hrel
      unfold am_l2 at h
      split at h
      · exact s_lmul C hd (hK _ _ _ h)
      · exact h.elim
    · subst hrel
      unfold am_l2 at h
      split at h
      · exact s_land C hd (hK _ _ _ h)
      · exact h.elim
    · subst hrel
      unfold am_l2 at h
      split at h
      · exact s_lor C hd (hK _ _ _ h)
      · exact h.elim
    · subst hrel
      unfold am_l2 at h
      split at h
      · exact s_lxor C hd (hK _ _ _ h)
      · exact h.elim
    · subst hrel
      unfold am_l1 at h
      split at h
      · exact s_lneg C hd (hK _ _ _ h)
      · exact h.elim
    · subst hrel
      unfold am_li at h
      split at h
      · exact s_lshl C hd (hK _ _ _ h)
      · exact h.elim
    · subst hrel
      unfold am_li at h
      split at h
      · exact s_lshr C hd (hK _ _ _ h)
      · exact h.elim
    · subst hrel
      unfold am_li at h
      split at h
      · exact s_lushr C hd (hK _ _ _ h)
      · exact h.elim
    · subst hrel
      unfold am_l2 at h
      split at h
      · exact s_lcmp C hd (hK _ _ _ h)
      · exact h.elim
    · subst hrel
      unfold am_dup at h
      split at h
      · split at h
        · exact h.elim
        · rename_i hv
          exact s_dup C hv hd (hK _ _ _ h)
      · exact h.elim
    · subst hrel
      unfold am_dup2 at h
      split at h
      · split at h
        · rename_i hv
          exact s_dup2l C hv hd (hK _ _ _ h)
        · rename_i hv
          split at h
          · split at h
            · exact h.elim
            · rename_i hw
              exact s_dup2s C hv hw hd (hK _ _ _ h)
          · exact h.elim
      · exact h.elim
    · subst hrel
      unfold am_pop at h
      split at h
      · split at h
        · exact h.elim
        · rename_i hv
          exact s_pop C hv hd (hK _ _ _ h)
      · exact h.elim
    · subst hrel
      unfold am_ri at h
      split at h
      · unfold am_ild at h
        split at h
        · rename_i hq
          have := am_beq.mp hq
          subst this
          exact s_scriptload C h.1 h.2.1 hd (hK _ _ _ h.2.2)
        · split at h
          · rename_i hq
            simp only [Bool.and_eq_true, am_ble] at hq
            exact s_tabload C hq h.1 h.2.1 hd (hK _ _ _ h.2.2)
          · split at h
            · rename_i hq
              exact s_iaload C (am_beq.mp hq) h.1 h.2.1 hd (hK _ _ _ h.2.2)
            · exact h.elim
      · exact h.elim
    · subst hrel
      unfold am_ri at h
      split at h
      · unfold am_bld at h
        split at h
        · rename_i hq
          simp only [Bool.or_eq_true, am_beq] at hq
          rcases hq with hq | hq
          · exact s_zaload C hq h.1 h.2.1 hd (hK _ _ _ h.2.2)
          · exact s_baload C hq h.1 h.2.1 hd (hK _ _ _ h.2.2)
        · exact h.elim
      · exact h.elim
    · subst hrel
      unfold am_ri at h
      split at h
      · unfold am_lld at h
        split at h
        · rename_i hq
          exact s_laload C (am_beq.mp hq) h.1 h.2.1 hd (hK _ _ _ h.2.2)
        · exact h.elim
      · exact h.elim
    · subst hrel
      unfold am_ri at h
      split at h
      · unfold am_ald at h
        split at h
        · rename_i hq
          have hk := am_aldL_spec (n := 0) h.2.2 (by simpa using h.1) (by simpa using h.2.1)
          rw [Int.sub_zero] at hk
          exact s_aaload C (am_beq.mp hq) h.1 h.2.1 rfl hd (hK _ _ _ hk)
        · exact h.elim
      · exact h.elim
    · subst hrel
      unfold am_rii at h
      split at h
      · unfold am_ist at h
        split at h
        · rename_i hq
          exact s_iastore C (am_beq.mp hq) h.1 h.2.1 hd (hK _ _ _ h.2.2)
        · exact h.elim
      · exact h.elim
    · subst hrel
      unfold am_rii at h
      split at h
      · unfold am_bst at h
        split at h
        · rename_i hq
          exact s_zastore C (am_beq.mp hq) h.1 h.2.1 h.2.2.1 hd (hK _ _ _ h.2.2.2)
        · split at h
          · rename_i hq
            exact s_bastore C (am_beq.mp hq) h.1 h.2.1 h.2.2.1 hd (hK _ _ _ h.2.2.2)
          · exact h.elim
      · exact h.elim
    · subst hrel
      unfold am_ril at h
      split at h
      · unfold am_lst at h
        split at h
        · rename_i hq
          exact s_lastore C (am_beq.mp hq) h.1 h.2.1 hd (hK _ _ _ h.2.2)
        · exact h.elim
      · exact h.elim
    · subst hrel
      unfold am_r1 at h
      split at h
      · unfold am_al at h
        split at h
        · rename_i hq
          have := am_beq.mp hq
          subst this
          exact s_scriptlen C hd hLs (hK _ _ _ h)
        · split at h
          · rename_i hq
            simp only [Bool.and_eq_true, am_ble] at hq
            exact s_tablen C hq hd (hK _ _ _ h)
          · split at h
            · rename_i hq
              simp only [Bool.and_eq_true, am_ble] at hq
              exact s_arrlen C hq (am_lenL _ (am_lay_lt (by omega))) hd (hK _ _ _ h)
            · exact h.elim
      · exact h.elim
    · obtain ⟨rfl, hrt⟩ := hrel
      split at h
      · split at h
        · exact s_ret C (i := .ireturn) (v := .inl _) hd hrt trivial (fun _ z hz => by cases hz; exact h.1) h.2
        · refine s_ret C (i := .ireturn) (v := .inl _) hd hrt trivial (fun hz => ?_) h
          rw [← hbb] at hz
          cases hz
      · exact h.elim
    · obtain ⟨rfl, hrt⟩ := hrel
      split at h
      · exact s_ret C (i := .lreturn) (v := .inr (.inl _)) hd hrt trivial (fun _ z hz => by cases hz) h
      · exact h.elim
    · obtain ⟨rfl, hrt⟩ := hrel
      split at h
      · exact s_ret C (i := .areturn) (v := .inr (.inr _)) hd hrt trivial (fun _ z hz => by cases hz) h
      · exact h.elim
    · obtain ⟨rfl, hrt⟩ := hrel
      split at h
      · exact s_ret C (i := .return_) (v := .inl 0) hd hrt rfl (fun _ z hz => by cases hz; exact Or.inl rfl) h
      · exact h.elim
end
end
section
section
variable {p : Program} {l : Launch} {e : Env} {R : Room} {s : State} {mm : MethodId} {args : Array Value} {below : List Frame} {meth : Method} {c : Code} {cells slots : Nat} {Q : State → Prop} {E : am_E} {A : Nat → Prop} {y d : Nat} {P : am_V → am_M → Prop}
theorem am_sound (C : am_Cx p l e R s mm args below meth c cells slots Q E A y (d + 1) P) {b : Bool} (hbb : b = am_bool y) {bl : List (Nat × List am_I)} {ct : List (Nat × List Nat)}
    (hbl : ∀ t is, am_lk bl t = some is → am_chkL (am_mi y).2.2.2.1 (am_mi y).2.2.2.2 (am_mi y).2.2.1 (am_mi y).2.1 is = true ∧ ∀ x r, is = x :: r → x.1 = t)
    {G : Nat → am_K} (hG : ∀ t lv st m, G t lv st m → am_at p l e R s mm args below meth c cells slots Q E A y t lv st m) :
    ∀ (f : Nat) (is : List am_I) (lv : am_L) (st : List am_V) (m : am_M), am_chkL (am_mi y).2.2.2.1 (am_mi y).2.2.2.2 (am_mi y).2.2.1 (am_mi y).2.1 is = true → am_run (am_sc E) (am_Ok d) b P G bl ct f is lv st m → ∃ x r, is = x :: r ∧ am_at p l e R s mm args below meth c cells slots Q E A y x.1 lv st m
  | 0, is, lv, st, m, _, h => by
    unfold am_run at h
    exact h.elim
  | f + 1, [], lv, st, m, _, h => by
    unfold am_run at h
    exact h.elim
  | f + 1, x :: r, lv, st, m, hc, h => by
    refine ⟨x, r, rfl, ?_⟩
    unfold am_run at h
    unfold am_chkL at hc
    simp only [Bool.and_eq_true] at hc
    obtain ⟨⟨h1, h2⟩, h3⟩ := hc
    have hLs : am_R (am_sc E).1 := by
      obtain ⟨hx, hb, hml, hown, hts, hfr, hlo, hce, hsl, hRO, hK, hret⟩ := C
      have := hRO.2.2.2.2.2.2.2.2
      show am_R (E.2.2.2.1.1 : Int)
      exact ⟨by omega, by omega⟩
    refine am_stepS C hLs h1 hbb (fun lv st m hk => ?_) (fun t lv st m hj => ?_) h
    · obtain ⟨x2, r2, e1, e2⟩ := am_sound C hbb hbl hG f r lv st m h3 hk
      subst e1
      have := am_beq.mp h2
      rw [this] at e2
      exact e2
    · split at hj
      · split at hj
        · rename_i lv2 hp
          exact am_at_sub (am_pick_mem hp) (hG _ _ _ _ hj)
        · exact hj.elim
      · split at hj
        · rename_i is2 hl
          obtain ⟨g1, g2⟩ := hbl _ _ hl
          obtain ⟨x2, r2, e1, e2⟩ := am_sound C hbb hbl hG f is2 lv st m g1 hj
          rw [g2 x2 r2 e1] at e2
          exact e2
        · exact hj.elim
end
theorem am_chk_spec {y : Nat} {bl : List (Nat × List am_I)} {ct : List (Nat × List Nat)} {b : Bool} (h : am_chk y bl ct b = true) : plainName (am_mi y).1.cls = true ∧ am_cn.getD (am_mi y).2.2.2.2 "" = (am_mi y).1.cls ∧ b = am_bool y ∧ ∀ t is, am_lk bl t = some is → am_chkL (am_mi y).2.2.2.1 (am_mi y).2.2.2.2 (am_mi y).2.2.1 (am_mi y).2.1 is = true ∧ ∃ x r, is = x :: r ∧ x.1 = t := by
  unfold am_chk at h
  simp only [Bool.and_eq_true, decide_eq_true_eq, List.all_eq_true] at h
  obtain ⟨⟨⟨h1, h2⟩, h3⟩, h4⟩ := h
  refine ⟨h1, h2, ?_, fun t is hl => ?_⟩
  · cases hb : am_bool y <;> cases b <;> simp [hb] at h3 ⊢
  · obtain ⟨g1, g2⟩ := h4 _ (am_lk_mem hl)
    refine ⟨g1, ?_⟩
    cases is with
    | nil => cases g2
    | cons x r => exact ⟨x, r, rfl, am_beq.mp g2⟩
section
variable {d y : Nat} {bl : List (Nat × List am_I)} {ct : List (Nat × List Nat)} {b : Bool} {L : Nat} {is : List am_I} {lv : am_L} {m : am_M} {as : List am_V}
theorem am_cut {P : am_V → am_M → Prop} (hc : am_chk y bl ct b = true) (hl : am_lk bl L = some is) (h : ∀ S, am_run S (am_Ok d) b P (am_G (d + 1) y P) bl ct 2000 is lv [] m) : am_G (d + 1) y P L lv [] m := by
  obtain ⟨-, -, h3, h4⟩ := am_chk_spec hc
  intro p l e R s mm args below meth c cells slots Q E A C
  obtain ⟨x, r, e1, e2⟩ := am_sound C h3 (bl := bl) (ct := ct) (fun t is hl => ⟨(h4 t is hl).1, fun x r e => by
    obtain ⟨x2, r2, e2, e3⟩ := (h4 t is hl).2
    rw [e] at e2
    cases e2
    exact e3⟩) (G := am_G (d + 1) y P) (fun t lv st m hg => hg _ _ _ _ _ _ _ _ _ _ _ _ _ _ _ C) 2000 is lv [] m (h4 L is hl).1 (h (am_sc E))
  obtain ⟨x2, r2, e3, e4⟩ := (h4 L is hl).2
  rw [e3] at e1
  cases e1
  rw [e4] at e2
  exact e2
def am_args : Nat → List am_V → am_L
  | _, [] => []
  | k, v :: r => (k, v) :: am_args (match am_lng v with | true => k + 2 | false => k + 1) r
theorem am_args_cv (E : am_E) : ∀ (as : List am_V) (k : Nat), lv_args k (as.map (am_cv E)) = (am_args k as).map fun q => (q.1, am_cv E q.2)
  | [], _ => rfl
  | v :: r, k => by
    rw [List.map_cons, lv_args, am_args, List.map_cons, ← am_args_cv E r]
    congr 2
    rw [am_cat_cv]
    cases am_lng v <;> rfl
theorem am_args_mem : ∀ {as : List am_V} {k : Nat} {q : Nat × am_V}, q ∈ am_args k as → q.2 ∈ as
  | [], _, _, h => by cases h
  | v :: r, k, q, h => by
    rcases List.mem_cons.mp h with rfl | h
    · exact List.mem_cons_self
    · exact List.mem_cons_of_mem _ (am_args_mem h)
theorem am_lgsl (E : am_E) : ∀ (as : List am_V), (lg_sl (as.map (am_cv E))).length = am_cat as
  | [] => rfl
  | v :: r => by
    have ih := am_lgsl E r
    unfold lg_sl at ih ⊢
    rw [List.map_cons, List.flatMap_cons, List.length_append, ih]
    show _ = (match am_lng v with | true => 2 | false => 1) + am_cat r
    congr 1
    rw [am_cat_cv]
    cases am_lng v <;> rfl
set_option maxHeartbeats 1000000 in
theorem am_ent {P : am_V → am_M → Prop} (hc : am_chk y bl ct b = true) (hw : Nat.ble (am_cat as) (am_mi y).2.2.1 = true) (h : ∀ S, am_run S (am_Ok d) b P (am_G (d + 1) y P) bl ct 2000 [(0, .nop, 0, .goto_w 0)] (am_args 0 as) [] m) : am_Ok (d + 1) y as m P := by
  obtain ⟨h1, h2, h3, h4⟩ := am_chk_spec hc
  intro l E A
  refine Met.ofW (cc := (am_mi y).2.1) (maxL := (am_mi y).2.2.1) (ret := (am_mi y).2.2.2.1) h1 rfl ?_
  intro p e s mm args below meth c s₁ B hml hv
  obtain ⟨rfl, hok, hWd, hRO⟩ := hv
  have hx := B.exec
  have hb := B.bytes
  have hr := B.returns
  have hts := atoms_spec (ws := am_wds y) B.pre
  have hown : s.vm.findClass (am_mi y).1.cls = some mm.cls := findClass_of_methodNamed B.named
  have hlocks := B.notSynchronized
  have hl := lv_entry (as.map (am_cv E)) (n := (am_mi y).2.2.1) (by rw [am_lgsl]; exact am_ble.mp hw)
  rw [lg_entry_eq]
  generalize (lg_sl (as.map (am_cv E)) ++ List.replicate ((am_mi y).2.2.1 - (lg_sl (as.map (am_cv E))).length) Slot.unset).toArray = ls at hl ⊢
  rw [am_args_cv] at hl
  have C : am_Cx p l e (headSpec (am_wds y) (am_rm (d + 1))).room s mm (as.map (am_cv E)).toArray below meth c 0 0 (MQ below (am_Qc E A y P) (as.map (am_cv E)).toArray s 0 0 A) E A y (d + 1) P := by
    refine ⟨hx, hb, hml, by rw [h2]; exact hown, fun w hw => hts w (List.mem_cons_of_mem _ hw), Nat.le_refl _, Nat.le_refl _, Nat.le_refl _, Nat.le_refl _, hRO, hWd.2.1, ?_⟩
    intro i pc ls H locs m' v hd hrt hi hvok hbz hp hW hS
    have hq : ∀ t : State, t.heap = H → am_Qc E A y P (as.map (am_cv E)).toArray s (.returned (am_rc E y v)) t := fun t ht => ⟨⟨v, m', rfl, hvok, hp, by rw [ht]; exact hW.1, hW.2.2.2⟩, hS.F ht⟩
    have hf : ∀ q ∈ locs, A q.base := hS.2.2
    unfold am_rtk at hrt
    unfold am_isRet at hi
    split at hrt
    · rename_i hrt2
      rcases v with z | z | z
      · have hq2 : ∀ t : State, t.heap = H → s.WarmedH t.vm → am_Qc E A y P (as.map (am_cv E)).toArray s (.returned (some (.int (Int32.ofInt z)))) t := fun t ht _ => by
          have := hq t ht
          unfold am_rc at this
          rw [hrt2] at this
          exact this
        exact W.iret hx hb (by rw [hr, hrt2]) hq2 hf hd
      · exact hi.elim
      · exact hi.elim
    · rename_i hrt2
      rcases v with z | z | z
      · have hq2 : ∀ t : State, t.heap = H → s.WarmedH t.vm → am_Qc E A y P (as.map (am_cv E)).toArray s (.returned (some (.int (Int32.ofInt z)))) t := fun t ht _ => by
          have := hq t ht
          unfold am_rc at this
          rw [hrt2] at this
          exact this
        exact W.zret hx hb (ty := .boolean) (by rw [hr, hrt2]) (am_nb z (hbz (by unfold am_bool; rw [hrt2]) z rfl)).1 hq2 hf hd
      · exact hi.elim
      · exact hi.elim
    · rename_i hrt2
      rcases v with z | z | z
      · exact hi.elim
      · have hq2 : ∀ t : State, t.heap = H → s.WarmedH t.vm → am_Qc E A y P (as.map (am_cv E)).toArray s (.returned (some (.long z))) t := fun t ht _ => by
          have := hq t ht
          unfold am_rc at this
          rw [hrt2] at this
          exact this
        exact W.lret hx hb (by rw [hr, hrt2]) hq2 hf hd
      · exact hi.elim
    · rename_i n hrt2
      rcases v with z | z | z
      · exact hi.elim
      · exact hi.elim
      · have hq2 : ∀ t : State, t.heap = H → s.WarmedH t.vm → am_Qc E A y P (as.map (am_cv E)).toArray s (.returned (some (.ref (am_ad E z)))) t := fun t ht _ => by
          have := hq t ht
          unfold am_rc at this
          rw [hrt2] at this
          exact this
        exact W.aret hx hb (rt := .object n) (by rw [hr, hrt2]) (Or.inl ⟨_, rfl⟩) (Or.inr ⟨_, rfl⟩) hq2 hf hd
    · rename_i hrt2
      have hq2 : ∀ t : State, t.heap = H → s.WarmedH t.vm → am_Qc E A y P (as.map (am_cv E)).toArray s (.returned none) t := fun t ht _ => by
          have := hq t ht
          unfold am_rc at this
          rw [hrt2] at this
          exact this
      exact W.vret hx hb (by rw [hr, hrt2]) hq2 hf hd
    · cases hrt
  obtain ⟨x, r, e1, e2⟩ := am_sound C h3 (bl := bl) (ct := ct) (fun t is hl => ⟨(h4 t is hl).1, fun x r e => by
    obtain ⟨x2, r2, e2, e3⟩ := (h4 t is hl).2
    rw [e] at e2
    cases e2
    exact e3⟩) (G := am_G (d + 1) y P) (fun t lv st m hg => hg _ _ _ _ _ _ _ _ _ _ _ _ _ _ _ C) 2000 [(0, .nop, 0, .goto_w 0)] (am_args 0 as) [] m rfl (h (am_sc E))
  cases e1
  exact e2 s.heap [] ls hWd va_S.rf hl (fun q hq => hok _ (am_args_mem hq)) (fun v hv => by cases hv)
theorem am_c0 {P : am_M → Prop} (hc : am_chk y bl ct b = true) (hl : am_lk bl L = some is) (h : ∀ S, am_run S (am_Ok d) b (fun _ m' => P m') (am_G (d + 1) y (fun _ m' => P m')) bl ct 2000 is lv [] m) : am_GV (d + 1) y P L lv [] m := am_cut hc hl h
theorem am_c1 {P : Int → am_M → Prop} (hc : am_chk y bl ct b = true) (hl : am_lk bl L = some is) (h : ∀ S, am_run S (am_Ok d) b (fun v m' => am_vi v fun z => P z m') (am_G (d + 1) y (fun v m' => am_vi v fun z => P z m')) bl ct 2000 is lv [] m) : am_GI (d + 1) y P L lv [] m := am_cut hc hl h
theorem am_c2 {P : Int64 → am_M → Prop} (hc : am_chk y bl ct b = true) (hl : am_lk bl L = some is) (h : ∀ S, am_run S (am_Ok d) b (fun v m' => am_vl v fun z => P z m') (am_G (d + 1) y (fun v m' => am_vl v fun z => P z m')) bl ct 2000 is lv [] m) : am_GL (d + 1) y P L lv [] m := am_cut hc hl h
theorem am_c3 {P : Nat → am_M → Prop} (hc : am_chk y bl ct b = true) (hl : am_lk bl L = some is) (h : ∀ S, am_run S (am_Ok d) b (fun v m' => am_vr v fun z => P z m') (am_G (d + 1) y (fun v m' => am_vr v fun z => P z m')) bl ct 2000 is lv [] m) : am_GR (d + 1) y P L lv [] m := am_cut hc hl h
theorem am_e0 {P : am_M → Prop} (hc : am_chk y bl ct b = true) (hw : Nat.ble (am_cat as) (am_mi y).2.2.1 = true) (h : ∀ S, am_run S (am_Ok d) b (fun _ m' => P m') (am_G (d + 1) y (fun _ m' => P m')) bl ct 2000 [(0, .nop, 0, .goto_w 0)] (am_args 0 as) [] m) : am_OkV (d + 1) y as m P := am_ent hc hw h
theorem am_e1 {P : Int → am_M → Prop} (hc : am_chk y bl ct b = true) (hw : Nat.ble (am_cat as) (am_mi y).2.2.1 = true) (h : ∀ S, am_run S (am_Ok d) b (fun v m' => am_vi v fun z => P z m') (am_G (d + 1) y (fun v m' => am_vi v fun z => P z m')) bl ct 2000 [(0, .nop, 0, .goto_w 0)] (am_args 0 as) [] m) : am_OkI (d + 1) y as m P := am_ent hc hw h
theorem am_e2 {P : Int64 → am_M → Prop} (hc : am_chk y bl ct b = true) (hw : Nat.ble (am_cat as) (am_mi y).2.2.1 = true) (h : ∀ S, am_run S (am_Ok d) b (fun v m' => am_vl v fun z => P z m') (am_G (d + 1) y (fun v m' => am_vl v fun z => P z m')) bl ct 2000 [(0, .nop, 0, .goto_w 0)] (am_args 0 as) [] m) : am_OkL (d + 1) y as m P := am_ent hc hw h
theorem am_e3 {P : Nat → am_M → Prop} (hc : am_chk y bl ct b = true) (hw : Nat.ble (am_cat as) (am_mi y).2.2.1 = true) (h : ∀ S, am_run S (am_Ok d) b (fun v m' => am_vr v fun z => P z m') (am_G (d + 1) y (fun v m' => am_vr v fun z => P z m')) bl ct 2000 [(0, .nop, 0, .goto_w 0)] (am_args 0 as) [] m) : am_OkR (d + 1) y as m P := am_ent hc hw h
end
end
section
def bl_Acts_forget : List (Nat × List am_I) := [(0, [(0, .aload_n 0, 1, .aload 0), (1, .iconst (0), 1, .iconst (0)), (2, .putfield 25, 3, .putfield 5), (5, .return_, 1, .return_)])]
def ct_Acts_forget : List (Nat × List Nat) := []
def bl_Acts_note : List (Nat × List am_I) := [(0, [(0, .aload_n 0, 1, .aload 0), (1, .getfield 9, 3, .getfield 0), (4, .aload_n 0, 1, .aload 0), (5, .getfield 29, 3, .getfield 4), (8, .iload_n 1, 1, .iload 1), (9, .iastore, 1, .iastore), (10, .aload_n 0, 1, .aload 0), (11, .getfield 15, 3, .getfield 1), (14, .aload_n 0, 1, .aload 0), (15, .getfield 29, 3, .getfield 4), (18, .iload_n 2, 1, .iload 2), (19, .iastore, 1, .iastore), (20, .aload_n 0, 1, .aload 0), (21, .getfield 18, 3, .getfield 2), (24, .aload_n 0, 1, .aload 0), (25, .getfield 29, 3, .getfield 4), (28, .lload_n 3, 1, .lload 3), (29, .lastore, 1, .lastore), (30, .aload_n 0, 1, .aload 0), (31, .getfield 22, 3, .getfield 3), (34, .aload_n 0, 1, .aload 0), (35, .getfield 29, 3, .getfield 4), (38, .iload 5, 2, .iload 5), (40, .iastore, 1, .iastore), (41, .aload_n 0, 1, .aload 0), (42, .aload_n 0, 1, .aload 0), (43, .getfield 29, 3, .getfield 4), (46, .iconst (1), 1, .iconst (1)), (47, .iadd, 1, .iadd), (48, .bipush (12), 2, .iconst (12)), (50, .if_icmp .ge (12), 3, .if_icmp .ge 62), (53, .aload_n 0, 1, .aload 0), (54, .getfield 29, 3, .getfield 4), (57, .iconst (1), 1, .iconst (1)), (58, .iadd, 1, .iadd), (59, .goto (4), 3, .goto 63)]),
  (62, [(62, .iconst (0), 1, .iconst (0)), (63, .nop, 0, .goto_w 63)]),
  (63, [(63, .putfield 29, 3, .putfield 4), (66, .aload_n 0, 1, .aload 0), (67, .aload_n 0, 1, .aload 0), (68, .getfield 25, 3, .getfield 5), (71, .iconst (1), 1, .iconst (1)), (72, .iadd, 1, .iadd), (73, .bipush (12), 2, .iconst (12)), (75, .invokestatic 32, 3, .fsub), (78, .putfield 25, 3, .putfield 5), (81, .return_, 1, .return_)])]
def ct_Acts_note : List (Nat × List Nat) := []
def bl_Acts_undoLatest : List (Nat × List am_I) := [(0, [(0, .aload_n 0, 1, .aload 0), (1, .getfield 25, 3, .getfield 5), (4, .ifCond .ne (4), 3, .ifCond .ne 8), (7, .return_, 1, .return_)]),
  (8, [(8, .aload_n 0, 1, .aload 0), (9, .aload_n 0, 1, .aload 0), (10, .getfield 29, 3, .getfield 4), (13, .ifCond .le (12), 3, .ifCond .le 25), (16, .aload_n 0, 1, .aload 0), (17, .getfield 29, 3, .getfield 4), (20, .iconst (1), 1, .iconst (1)), (21, .isub, 1, .isub), (22, .goto (5), 3, .goto 27)]),
  (25, [(25, .bipush (11), 2, .iconst (11)), (27, .nop, 0, .goto_w 27)]),
  (27, [(27, .putfield 29, 3, .putfield 4), (30, .aload_n 0, 1, .aload 0), (31, .dup, 1, .dup), (32, .getfield 25, 3, .getfield 5), (35, .iconst (1), 1, .iconst (1)), (36, .isub, 1, .isub), (37, .putfield 25, 3, .putfield 5), (40, .aload_n 0, 1, .aload 0), (41, .getfield 9, 3, .getfield 0), (44, .aload_n 0, 1, .aload 0), (45, .getfield 29, 3, .getfield 4), (48, .iaload, 1, .iaload), (49, .tableswitch (102) (0) (2) #[27, 43, 77], 27, .lookupswitch 151 #[(0, 76), (1, 92), (2, 126)])]),
  (76, [(76, .aload_n 1, 1, .aload 1), (77, .aload_n 0, 1, .aload 0), (78, .getfield 15, 3, .getfield 1), (81, .aload_n 0, 1, .aload 0), (82, .getfield 29, 3, .getfield 4), (85, .iaload, 1, .iaload), (86, .invokevirtual 38, 3, .invokeinterface 10 3020), (89, .goto (84), 3, .goto 173)]),
  (92, [(92, .aload_n 1, 1, .aload 1), (93, .aload_n 0, 1, .aload 0), (94, .getfield 15, 3, .getfield 1), (97, .aload_n 0, 1, .aload 0), (98, .getfield 29, 3, .getfield 4), (101, .iaload, 1, .iaload), (102, .aload_n 0, 1, .aload 0), (103, .getfield 18, 3, .getfield 2), (106, .aload_n 0, 1, .aload 0), (107, .getfield 29, 3, .getfield 4), (110, .laload, 1, .laload), (111, .aload_n 0, 1, .aload 0), (112, .getfield 22, 3, .getfield 3), (115, .aload_n 0, 1, .aload 0), (116, .getfield 29, 3, .getfield 4), (119, .iaload, 1, .iaload), (120, .invokevirtual 44, 3, .invokeinterface 9 3040), (123, .goto (50), 3, .goto 173)]),
  (126, [(126, .aload_n 1, 1, .aload 1), (127, .aload_n 0, 1, .aload 0), (128, .getfield 15, 3, .getfield 1), (131, .aload_n 0, 1, .aload 0), (132, .getfield 29, 3, .getfield 4), (135, .iaload, 1, .iaload), (136, .aload_n 0, 1, .aload 0), (137, .getfield 22, 3, .getfield 3), (140, .aload_n 0, 1, .aload 0), (141, .getfield 29, 3, .getfield 4), (144, .iaload, 1, .iaload), (145, .invokevirtual 48, 3, .invokeinterface 11 3030), (148, .goto (25), 3, .goto 173)]),
  (151, [(151, .aload_n 1, 1, .aload 1), (152, .aload_n 0, 1, .aload 0), (153, .getfield 15, 3, .getfield 1), (156, .aload_n 0, 1, .aload 0), (157, .getfield 29, 3, .getfield 4), (160, .iaload, 1, .iaload), (161, .aload_n 0, 1, .aload 0), (162, .getfield 22, 3, .getfield 3), (165, .aload_n 0, 1, .aload 0), (166, .getfield 29, 3, .getfield 4), (169, .iaload, 1, .iaload), (170, .invokevirtual 52, 3, .invokeinterface 12 3030), (173, .nop, 0, .goto_w 173)]),
  (173, [(173, .return_, 1, .return_)])]
def ct_Acts_undoLatest : List (Nat × List Nat) := []
def bl_Basis_independent : List (Nat × List am_I) := [(0, [(0, .aload_n 0, 1, .aload 0), (1, .iconst (0), 1, .iconst (0)), (2, .putfield 18, 3, .putfield 102), (5, .iconst (0), 1, .iconst (0)), (6, .istore_n 2, 1, .istore 2), (7, .nop, 0, .goto_w 7)]),
  (7, [(7, .iload_n 2, 1, .iload 2), (8, .aload_n 1, 1, .aload 1), (9, .getfield 22, 3, .getfield 806), (12, .if_icmp .ge (97), 3, .if_icmp .ge 109), (15, .lconst 0, 1, .ldc2_w 0), (16, .lstore_n 3, 1, .lstore 3), (17, .lconst 0, 1, .ldc2_w 0), (18, .lstore 5, 2, .lstore 5), (20, .iconst (3), 1, .iconst (3)), (21, .iload_n 2, 1, .iload 2), (22, .imul, 1, .imul), (23, .istore 7, 2, .istore 7), (25, .nop, 0, .goto_w 25)]),
  (25, [(25, .iload 7, 2, .iload 7), (27, .iconst (3), 1, .iconst (3)), (28, .iload_n 2, 1, .iload 2), (29, .imul, 1, .imul), (30, .aload_n 1, 1, .aload 1), (31, .getfield 27, 3, .getfield 801), (34, .iload_n 2, 1, .iload 2), (35, .iaload, 1, .iaload), (36, .iadd, 1, .iadd), (37, .if_icmp .ge (59), 3, .if_icmp .ge 96), (40, .aload_n 1, 1, .aload 1), (41, .getfield 31, 3, .getfield 800), (44, .iload 7, 2, .iload 7), (46, .iaload, 1, .iaload), (47, .istore 8, 2, .istore 8), (49, .lload_n 3, 1, .lload 3), (50, .iload 8, 2, .iload 8), (52, .bipush (64), 2, .iconst (64)), (54, .if_icmp .ge (10), 3, .if_icmp .ge 64), (57, .lconst 1, 1, .ldc2_w 1), (58, .iload 8, 2, .iload 8), (60, .lshl, 1, .lshl), (61, .goto (4), 3, .goto 65)]),
  (64, [(64, .lconst 0, 1, .ldc2_w 0), (65, .nop, 0, .goto_w 65)]),
  (65, [(65, .lxor, 1, .lxor), (66, .lstore_n 3, 1, .lstore 3), (67, .lload 5, 2, .lload 5), (69, .iload 8, 2, .iload 8), (71, .bipush (64), 2, .iconst (64)), (73, .if_icmp .ge (7), 3, .if_icmp .ge 80), (76, .lconst 0, 1, .ldc2_w 0), (77, .goto (10), 3, .goto 87)]),
  (80, [(80, .lconst 1, 1, .ldc2_w 1), (81, .iload 8, 2, .iload 8), (83, .bipush (64), 2, .iconst (64)), (85, .isub, 1, .isub), (86, .lshl, 1, .lshl), (87, .nop, 0, .goto_w 87)]),
  (87, [(87, .lxor, 1, .lxor), (88, .lstore 5, 2, .lstore 5), (90, .iinc 7 (1), 3, .iinc 7 (1)), (93, .goto (-68), 3, .goto 25)]),
  (96, [(96, .aload_n 0, 1, .aload 0), (97, .lload_n 3, 1, .lload 3), (98, .lload 5, 2, .lload 5), (100, .invokevirtual 34, 3, .invokeinterface 4 2030), (103, .iinc 2 (1), 3, .iinc 2 (1)), (106, .goto (-99), 3, .goto 7)]),
  (109, [(109, .aload_n 0, 1, .aload 0), (110, .getfield 18, 3, .getfield 102), (113, .ireturn, 1, .ireturn)])]
def ct_Basis_independent : List (Nat × List Nat) := [(7, [0, 1, 2]), (25, [0, 1, 2, 3, 5, 7])]
def bl_Basis_join : List (Nat × List am_I) := [(0, [(0, .iconst (0), 1, .iconst (0)), (1, .istore 5, 2, .istore 5), (3, .nop, 0, .goto_w 3)]),
  (3, [(3, .iload 5, 2, .iload 5), (5, .aload_n 0, 1, .aload 0), (6, .getfield 18, 3, .getfield 102), (9, .if_icmp .ge (94), 3, .if_icmp .ge 103), (12, .aload_n 0, 1, .aload 0), (13, .getfield 9, 3, .getfield 100), (16, .iload 5, 2, .iload 5), (18, .laload, 1, .laload), (19, .aload_n 0, 1, .aload 0), (20, .getfield 9, 3, .getfield 100), (23, .iload 5, 2, .iload 5), (25, .laload, 1, .laload), (26, .lneg, 1, .lneg), (27, .land, 1, .land), (28, .lstore 6, 2, .lstore 6), (30, .lload 6, 2, .lload 6), (32, .lconst 0, 1, .ldc2_w 0), (33, .lcmp, 1, .lcmp), (34, .ifCond .ne (22), 3, .ifCond .ne 56), (37, .aload_n 0, 1, .aload 0), (38, .getfield 15, 3, .getfield 101), (41, .iload 5, 2, .iload 5), (43, .laload, 1, .laload), (44, .aload_n 0, 1, .aload 0), (45, .getfield 15, 3, .getfield 101), (48, .iload 5, 2, .iload 5), (50, .laload, 1, .laload), (51, .lneg, 1, .lneg), (52, .land, 1, .land), (53, .goto (4), 3, .goto 57)]),
  (56, [(56, .lconst 0, 1, .ldc2_w 0), (57, .nop, 0, .goto_w 57)]),
  (57, [(57, .lstore 8, 2, .lstore 8), (59, .nop, 0, .goto_w 59)]),
  (59, [(59, .lload_n 1, 1, .lload 1), (60, .lload 6, 2, .lload 6), (62, .land, 1, .land), (63, .lconst 0, 1, .ldc2_w 0), (64, .lcmp, 1, .lcmp), (65, .ifCond .ne (12), 3, .ifCond .ne 77), (68, .lload_n 3, 1, .lload 3), (69, .lload 8, 2, .lload 8), (71, .land, 1, .land), (72, .lconst 0, 1, .ldc2_w 0), (73, .lcmp, 1, .lcmp), (74, .ifCond .eq (23), 3, .ifCond .eq 97), (77, .nop, 0, .goto_w 77)]),
  (77, [(77, .lload_n 1, 1, .lload 1), (78, .aload_n 0, 1, .aload 0), (79, .getfield 9, 3, .getfield 100), (82, .iload 5, 2, .iload 5), (84, .laload, 1, .laload), (85, .lxor, 1, .lxor), (86, .lstore_n 1, 1, .lstore 1), (87, .lload_n 3, 1, .lload 3), (88, .aload_n 0, 1, .aload 0), (89, .getfield 15, 3, .getfield 101), (92, .iload 5, 2, .iload 5), (94, .laload, 1, .laload), (95, .lxor, 1, .lxor), (96, .lstore_n 3, 1, .lstore 3), (97, .nop, 0, .goto_w 97)]),
  (97, [(97, .iinc 5 (1), 3, .iinc 5 (1)), (100, .goto (-97), 3, .goto 3)]),
  (103, [(103, .lload_n 1, 1, .lload 1), (104, .lconst 0, 1, .ldc2_w 0), (105, .lcmp, 1, .lcmp), (106, .ifCond .ne (9), 3, .ifCond .ne 115), (109, .lload_n 3, 1, .lload 3), (110, .lconst 0, 1, .ldc2_w 0), (111, .lcmp, 1, .lcmp), (112, .ifCond .eq (42), 3, .ifCond .eq 154), (115, .nop, 0, .goto_w 115)]),
  (115, [(115, .aload_n 0, 1, .aload 0), (116, .getfield 18, 3, .getfield 102), (119, .bipush (48), 2, .iconst (48)), (121, .if_icmp .ge (33), 3, .if_icmp .ge 154), (124, .aload_n 0, 1, .aload 0), (125, .getfield 9, 3, .getfield 100), (128, .aload_n 0, 1, .aload 0), (129, .getfield 18, 3, .getfield 102), (132, .lload_n 1, 1, .lload 1), (133, .lastore, 1, .lastore), (134, .aload_n 0, 1, .aload 0), (135, .getfield 15, 3, .getfield 101), (138, .aload_n 0, 1, .aload 0), (139, .getfield 18, 3, .getfield 102), (142, .lload_n 3, 1, .lload 3), (143, .lastore, 1, .lastore), (144, .aload_n 0, 1, .aload 0), (145, .dup, 1, .dup), (146, .getfield 18, 3, .getfield 102), (149, .iconst (1), 1, .iconst (1)), (150, .iadd, 1, .iadd), (151, .putfield 18, 3, .putfield 102), (154, .nop, 0, .goto_w 154)]),
  (154, [(154, .return_, 1, .return_)])]
def ct_Basis_join : List (Nat × List Nat) := [(3, [0, 1, 3, 5]), (59, [0, 1, 3, 5, 6, 8])]
def bl_Given_reset : List (Nat × List am_I) := [(0, [(0, .aload_n 0, 1, .aload 0), (1, .iconst (0), 1, .iconst (0)), (2, .putfield 30, 3, .putfield 203), (5, .getstatic 19, 3, .getstatic 902), (8, .iconst (0), 1, .iconst (0)), (9, .aload_n 0, 1, .aload 0), (10, .getfield 27, 3, .getfield 202), (13, .iconst (0), 1, .iconst (0)), (14, .getstatic 19, 3, .getstatic 902), (17, .arraylength, 1, .arraylength), (18, .invokestatic 34, 3, .invokedynamic 0), (21, .aload_n 0, 1, .aload 0), (22, .dup, 1, .dup), (23, .getfield 40, 3, .getfield 204), (26, .iconst (1), 1, .iconst (1)), (27, .iadd, 1, .iadd), (28, .putfield 40, 3, .putfield 204), (31, .return_, 1, .return_)])]
def ct_Given_reset : List (Nat × List Nat) := []
def bl_Given_copy : List (Nat × List am_I) := [(0, [(0, .aload_n 1, 1, .aload 1), (1, .getfield 9, 3, .getfield 200), (4, .iconst (0), 1, .iconst (0)), (5, .aload_n 0, 1, .aload 0), (6, .getfield 9, 3, .getfield 200), (9, .iconst (0), 1, .iconst (0)), (10, .bipush (48), 2, .iconst (48)), (12, .invokestatic 34, 3, .invokedynamic 0), (15, .aload_n 1, 1, .aload 1), (16, .getfield 15, 3, .getfield 201), (19, .iconst (0), 1, .iconst (0)), (20, .aload_n 0, 1, .aload 0), (21, .getfield 15, 3, .getfield 201), (24, .iconst (0), 1, .iconst (0)), (25, .bipush (48), 2, .iconst (48)), (27, .invokestatic 34, 3, .invokedynamic 0), (30, .aload_n 1, 1, .aload 1), (31, .getfield 27, 3, .getfield 202), (34, .iconst (0), 1, .iconst (0)), (35, .aload_n 0, 1, .aload 0), (36, .getfield 27, 3, .getfield 202), (39, .iconst (0), 1, .iconst (0)), (40, .getstatic 19, 3, .getstatic 902), (43, .arraylength, 1, .arraylength), (44, .invokestatic 34, 3, .invokedynamic 0), (47, .aload_n 0, 1, .aload 0), (48, .aload_n 1, 1, .aload 1), (49, .getfield 30, 3, .getfield 203), (52, .putfield 30, 3, .putfield 203), (55, .aload_n 0, 1, .aload 0), (56, .dup, 1, .dup), (57, .getfield 40, 3, .getfield 204), (60, .iconst (1), 1, .iconst (1)), (61, .iadd, 1, .iadd), (62, .putfield 40, 3, .putfield 204), (65, .return_, 1, .return_)])]
def ct_Given_copy : List (Nat × List Nat) := []
def bl_Given_has : List (Nat × List am_I) := [(0, [(0, .iload_n 1, 1, .iload 1), (1, .ifCond .lt (15), 3, .ifCond .lt 16), (4, .iload_n 1, 1, .iload 1), (5, .aload_n 0, 1, .aload 0), (6, .getfield 30, 3, .getfield 203), (9, .if_icmp .ge (7), 3, .if_icmp .ge 16), (12, .iconst (1), 1, .iconst (1)), (13, .goto (4), 3, .goto 17)]),
  (16, [(16, .iconst (0), 1, .iconst (0)), (17, .nop, 0, .goto_w 17)]),
  (17, [(17, .ireturn, 1, .ireturn)])]
def ct_Given_has : List (Nat × List Nat) := []
def bl_Given_find : List (Nat × List am_I) := [(0, [(0, .iconst (0), 1, .iconst (0)), (1, .istore_n 3, 1, .istore 3), (2, .nop, 0, .goto_w 2)]),
  (2, [(2, .iload_n 3, 1, .iload 3), (3, .aload_n 0, 1, .aload 0), (4, .getfield 30, 3, .getfield 203), (7, .if_icmp .ge (22), 3, .if_icmp .ge 29), (10, .aload_n 0, 1, .aload 0), (11, .getfield 9, 3, .getfield 200), (14, .iload_n 3, 1, .iload 3), (15, .laload, 1, .laload), (16, .lload_n 1, 1, .lload 1), (17, .lcmp, 1, .lcmp), (18, .ifCond .ne (5), 3, .ifCond .ne 23), (21, .iload_n 3, 1, .iload 3), (22, .ireturn, 1, .ireturn)]),
  (23, [(23, .iinc 3 (1), 3, .iinc 3 (1)), (26, .goto (-24), 3, .goto 2)]),
  (29, [(29, .iconst (-1), 1, .iconst (-1)), (30, .ireturn, 1, .ireturn)])]
def ct_Given_find : List (Nat × List Nat) := [(2, [0, 1, 3])]
def bl_Given_insert : List (Nat × List am_I) := [(0, [(0, .iload_n 1, 1, .iload 1), (1, .ifCond .lt (20), 3, .ifCond .lt 21), (4, .iload_n 1, 1, .iload 1), (5, .aload_n 0, 1, .aload 0), (6, .getfield 30, 3, .getfield 203), (9, .if_icmp .gt (12), 3, .if_icmp .gt 21), (12, .aload_n 0, 1, .aload 0), (13, .getfield 30, 3, .getfield 203), (16, .bipush (48), 2, .iconst (48)), (18, .if_icmp .lt (4), 3, .if_icmp .lt 22), (21, .nop, 0, .goto_w 21)]),
  (21, [(21, .return_, 1, .return_)]),
  (22, [(22, .aload_n 0, 1, .aload 0), (23, .getfield 9, 3, .getfield 200), (26, .iload_n 1, 1, .iload 1), (27, .aload_n 0, 1, .aload 0), (28, .getfield 9, 3, .getfield 200), (31, .iload_n 1, 1, .iload 1), (32, .iconst (1), 1, .iconst (1)), (33, .iadd, 1, .iadd), (34, .aload_n 0, 1, .aload 0), (35, .getfield 30, 3, .getfield 203), (38, .iload_n 1, 1, .iload 1), (39, .isub, 1, .isub), (40, .invokestatic 34, 3, .invokedynamic 0), (43, .aload_n 0, 1, .aload 0), (44, .getfield 15, 3, .getfield 201), (47, .iload_n 1, 1, .iload 1), (48, .aload_n 0, 1, .aload 0), (49, .getfield 15, 3, .getfield 201), (52, .iload_n 1, 1, .iload 1), (53, .iconst (1), 1, .iconst (1)), (54, .iadd, 1, .iadd), (55, .aload_n 0, 1, .aload 0), (56, .getfield 30, 3, .getfield 203), (59, .iload_n 1, 1, .iload 1), (60, .isub, 1, .isub), (61, .invokestatic 34, 3, .invokedynamic 0), (64, .aload_n 0, 1, .aload 0), (65, .getfield 9, 3, .getfield 200), (68, .iload_n 1, 1, .iload 1), (69, .lload_n 2, 1, .lload 2), (70, .lastore, 1, .lastore), (71, .aload_n 0, 1, .aload 0), (72, .getfield 15, 3, .getfield 201), (75, .iload_n 1, 1, .iload 1), (76, .iload 4, 2, .iload 4), (78, .iastore, 1, .iastore), (79, .aload_n 0, 1, .aload 0), (80, .dup, 1, .dup), (81, .getfield 30, 3, .getfield 203), (84, .iconst (1), 1, .iconst (1)), (85, .iadd, 1, .iadd), (86, .putfield 30, 3, .putfield 203), (89, .aload_n 0, 1, .aload 0), (90, .dup, 1, .dup), (91, .getfield 40, 3, .getfield 204), (94, .iconst (1), 1, .iconst (1)), (95, .iadd, 1, .iadd), (96, .putfield 40, 3, .putfield 204), (99, .return_, 1, .return_)])]
def ct_Given_insert : List (Nat × List Nat) := []
def bl_Given_drop : List (Nat × List am_I) := [(0, [(0, .aload_n 0, 1, .aload 0), (1, .iload_n 1, 1, .iload 1), (2, .invokevirtual 43, 3, .invokeinterface 7 3021), (5, .ifCond .ne (4), 3, .ifCond .ne 9), (8, .return_, 1, .return_)]),
  (9, [(9, .aload_n 0, 1, .aload 0), (10, .dup, 1, .dup), (11, .getfield 30, 3, .getfield 203), (14, .iconst (1), 1, .iconst (1)), (15, .isub, 1, .isub), (16, .putfield 30, 3, .putfield 203), (19, .aload_n 0, 1, .aload 0), (20, .getfield 9, 3, .getfield 200), (23, .iload_n 1, 1, .iload 1), (24, .iconst (1), 1, .iconst (1)), (25, .iadd, 1, .iadd), (26, .aload_n 0, 1, .aload 0), (27, .getfield 9, 3, .getfield 200), (30, .iload_n 1, 1, .iload 1), (31, .aload_n 0, 1, .aload 0), (32, .getfield 30, 3, .getfield 203), (35, .iload_n 1, 1, .iload 1), (36, .isub, 1, .isub), (37, .invokestatic 34, 3, .invokedynamic 0), (40, .aload_n 0, 1, .aload 0), (41, .getfield 15, 3, .getfield 201), (44, .iload_n 1, 1, .iload 1), (45, .iconst (1), 1, .iconst (1)), (46, .iadd, 1, .iadd), (47, .aload_n 0, 1, .aload 0), (48, .getfield 15, 3, .getfield 201), (51, .iload_n 1, 1, .iload 1), (52, .aload_n 0, 1, .aload 0), (53, .getfield 30, 3, .getfield 203), (56, .iload_n 1, 1, .iload 1), (57, .isub, 1, .isub), (58, .invokestatic 34, 3, .invokedynamic 0), (61, .aload_n 0, 1, .aload 0), (62, .dup, 1, .dup), (63, .getfield 40, 3, .getfield 204), (66, .iconst (1), 1, .iconst (1)), (67, .iadd, 1, .iadd), (68, .putfield 40, 3, .putfield 204), (71, .return_, 1, .return_)])]
def ct_Given_drop : List (Nat × List Nat) := []
def bl_Given_revalue : List (Nat × List am_I) := [(0, [(0, .aload_n 0, 1, .aload 0), (1, .iload_n 1, 1, .iload 1), (2, .invokevirtual 43, 3, .invokeinterface 7 3021), (5, .ifCond .eq (20), 3, .ifCond .eq 25), (8, .aload_n 0, 1, .aload 0), (9, .getfield 15, 3, .getfield 201), (12, .iload_n 1, 1, .iload 1), (13, .iload_n 2, 1, .iload 2), (14, .iastore, 1, .iastore), (15, .aload_n 0, 1, .aload 0), (16, .dup, 1, .dup), (17, .getfield 40, 3, .getfield 204), (20, .iconst (1), 1, .iconst (1)), (21, .iadd, 1, .iadd), (22, .putfield 40, 3, .putfield 204), (25, .nop, 0, .goto_w 25)]),
  (25, [(25, .return_, 1, .return_)])]
def ct_Given_revalue : List (Nat × List Nat) := []
def bl_Given_resettle : List (Nat × List am_I) := [(0, [(0, .iload_n 1, 1, .iload 1), (1, .iload_n 2, 1, .iload 2), (2, .invokestatic 47, 3, .invokeinterface 15 21), (5, .ifCond .eq (20), 3, .ifCond .eq 25), (8, .aload_n 0, 1, .aload 0), (9, .getfield 27, 3, .getfield 202), (12, .iload_n 1, 1, .iload 1), (13, .iload_n 2, 1, .iload 2), (14, .iastore, 1, .iastore), (15, .aload_n 0, 1, .aload 0), (16, .dup, 1, .dup), (17, .getfield 40, 3, .getfield 204), (20, .iconst (1), 1, .iconst (1)), (21, .iadd, 1, .iadd), (22, .putfield 40, 3, .putfield 204), (25, .nop, 0, .goto_w 25)]),
  (25, [(25, .return_, 1, .return_)])]
def ct_Given_resettle : List (Nat × List Nat) := []
def bl_Given_canBeValue : List (Nat × List am_I) := [(0, [(0, .iload_n 1, 1, .iload 1), (1, .ifCond .lt (19), 3, .ifCond .lt 20), (4, .iload_n 1, 1, .iload 1), (5, .iconst (1), 1, .iconst (1)), (6, .aload_n 0, 1, .aload 0), (7, .getfield 27, 3, .getfield 202), (10, .iconst (3), 1, .iconst (3)), (11, .iaload, 1, .iaload), (12, .ishl, 1, .ishl), (13, .if_icmp .ge (7), 3, .if_icmp .ge 20), (16, .iconst (1), 1, .iconst (1)), (17, .goto (4), 3, .goto 21)]),
  (20, [(20, .iconst (0), 1, .iconst (0)), (21, .nop, 0, .goto_w 21)]),
  (21, [(21, .ireturn, 1, .ireturn)])]
def ct_Given_canBeValue : List (Nat × List Nat) := []
def bl_Given_fitsBits : List (Nat × List am_I) := [(0, [(0, .iconst (0), 1, .iconst (0)), (1, .istore_n 2, 1, .istore 2), (2, .nop, 0, .goto_w 2)]),
  (2, [(2, .iload_n 2, 1, .iload 2), (3, .aload_n 0, 1, .aload 0), (4, .getfield 30, 3, .getfield 203), (7, .if_icmp .ge (23), 3, .if_icmp .ge 30), (10, .aload_n 0, 1, .aload 0), (11, .getfield 15, 3, .getfield 201), (14, .iload_n 2, 1, .iload 2), (15, .iaload, 1, .iaload), (16, .iconst (1), 1, .iconst (1)), (17, .iload_n 1, 1, .iload 1), (18, .ishl, 1, .ishl), (19, .if_icmp .lt (5), 3, .if_icmp .lt 24), (22, .iconst (0), 1, .iconst (0)), (23, .ireturn, 1, .ireturn)]),
  (24, [(24, .iinc 2 (1), 3, .iinc 2 (1)), (27, .goto (-25), 3, .goto 2)]),
  (30, [(30, .iconst (1), 1, .iconst (1)), (31, .ireturn, 1, .ireturn)])]
def ct_Given_fitsBits : List (Nat × List Nat) := [(2, [0, 1, 2])]
def bl_Given_canBeSetting : List (Nat × List am_I) := [(0, [(0, .iload_n 0, 1, .iload 0), (1, .iconst (1), 1, .iconst (1)), (2, .if_icmp .lt (31), 3, .if_icmp .lt 33), (5, .iload_n 0, 1, .iload 0), (6, .bipush (6), 2, .iconst (6)), (8, .if_icmp .gt (25), 3, .if_icmp .gt 33), (11, .iload_n 1, 1, .iload 1), (12, .getstatic 51, 3, .getstatic 900), (15, .iload_n 0, 1, .iload 0), (16, .iaload, 1, .iaload), (17, .if_icmp .lt (16), 3, .if_icmp .lt 33), (20, .iload_n 1, 1, .iload 1), (21, .getstatic 54, 3, .getstatic 901), (24, .iload_n 0, 1, .iload 0), (25, .iaload, 1, .iaload), (26, .if_icmp .gt (7), 3, .if_icmp .gt 33), (29, .iconst (1), 1, .iconst (1)), (30, .goto (4), 3, .goto 34)]),
  (33, [(33, .iconst (0), 1, .iconst (0)), (34, .nop, 0, .goto_w 34)]),
  (34, [(34, .ireturn, 1, .ireturn)])]
def ct_Given_canBeSetting : List (Nat × List Nat) := []
def bl_Marks_mix : List (Nat × List am_I) := [(0, [(0, .lload_n 0, 1, .lload 0), (1, .lload_n 0, 1, .lload 0), (2, .bipush (30), 2, .iconst (30)), (4, .lushr, 1, .lushr), (5, .lxor, 1, .lxor), (6, .ldc2_w 18, 3, .ldc2_w 13787848793156543929), (9, .lmul, 1, .lmul), (10, .lstore_n 2, 1, .lstore 2), (11, .lload_n 2, 1, .lload 2), (12, .lload_n 2, 1, .lload 2), (13, .bipush (27), 2, .iconst (27)), (15, .lushr, 1, .lushr), (16, .lxor, 1, .lxor), (17, .ldc2_w 20, 3, .ldc2_w 10723151780598845931), (20, .lmul, 1, .lmul), (21, .lstore 4, 2, .lstore 4), (23, .lload 4, 2, .lload 4), (25, .lload 4, 2, .lload 4), (27, .bipush (31), 2, .iconst (31)), (29, .lushr, 1, .lushr), (30, .lxor, 1, .lxor), (31, .lreturn, 1, .lreturn)])]
def ct_Marks_mix : List (Nat × List Nat) := []
def bl_Marks_aim : List (Nat × List am_I) := [(0, [(0, .aload_n 0, 1, .aload 0), (1, .iload_n 1, 1, .iload 1), (2, .i2l, 1, .i2l), (3, .invokestatic 22, 3, .invokeinterface 16 12), (6, .putfield 26, 3, .putfield 304), (9, .aload_n 0, 1, .aload 0), (10, .iload_n 2, 1, .iload 2), (11, .putfield 30, 3, .putfield 305), (14, .aload_n 0, 1, .aload 0), (15, .iconst (1), 1, .iconst (1)), (16, .iload_n 3, 1, .iload 3), (17, .ishl, 1, .ishl), (18, .iconst (1), 1, .iconst (1)), (19, .isub, 1, .isub), (20, .putfield 34, 3, .putfield 306), (23, .aload_n 0, 1, .aload 0), (24, .iload 4, 2, .iload 4), (26, .putfield 37, 3, .putfield 307), (29, .return_, 1, .return_)])]
def ct_Marks_aim : List (Nat × List Nat) := []
def bl_Marks_look : List (Nat × List am_I) := [(0, [(0, .lload_n 1, 1, .lload 1), (1, .aload_n 0, 1, .aload 0), (2, .getfield 26, 3, .getfield 304), (5, .ladd, 1, .ladd), (6, .invokestatic 22, 3, .invokeinterface 16 12), (9, .lstore_n 3, 1, .lstore 3), (10, .aload_n 0, 1, .aload 0), (11, .lload_n 3, 1, .lload 3), (12, .lload_n 3, 1, .lload 3), (13, .bipush (32), 2, .iconst (32)), (15, .lushr, 1, .lushr), (16, .lxor, 1, .lxor), (17, .l2i, 1, .l2i), (18, .aload_n 0, 1, .aload 0), (19, .getfield 34, 3, .getfield 306), (22, .iand, 1, .iand), (23, .putfield 40, 3, .putfield 303), (26, .aload_n 0, 1, .aload 0), (27, .getfield 37, 3, .getfield 307), (30, .ifCond .ne (11), 3, .ifCond .ne 41), (33, .aload_n 0, 1, .aload 0), (34, .lload_n 3, 1, .lload 3), (35, .invokevirtual 43, 3, .invokeinterface 19 4020), (38, .goto (24), 3, .goto 62)]),
  (41, [(41, .aload_n 0, 1, .aload 0), (42, .getfield 37, 3, .getfield 307), (45, .iconst (1), 1, .iconst (1)), (46, .if_icmp .ne (11), 3, .if_icmp .ne 57), (49, .aload_n 0, 1, .aload 0), (50, .lload_n 3, 1, .lload 3), (51, .invokevirtual 47, 3, .invokeinterface 20 4020), (54, .goto (8), 3, .goto 62)]),
  (57, [(57, .aload_n 0, 1, .aload 0), (58, .lload_n 3, 1, .lload 3), (59, .invokevirtual 50, 3, .invokeinterface 21 4020), (62, .nop, 0, .goto_w 62)]),
  (62, [(62, .aload_n 0, 1, .aload 0), (63, .invokevirtual 53, 3, .invokeinterface 23 4010), (66, .return_, 1, .return_)])]
def ct_Marks_look : List (Nat × List Nat) := []
def bl_Marks_placeApart : List (Nat × List am_I) := [(0, [(0, .iconst (0), 1, .iconst (0)), (1, .istore_n 3, 1, .istore 3), (2, .nop, 0, .goto_w 2)]),
  (2, [(2, .iload_n 3, 1, .iload 3), (3, .iconst (3), 1, .iconst (3)), (4, .if_icmp .ge (31), 3, .if_icmp .ge 35), (7, .aload_n 0, 1, .aload 0), (8, .getfield 9, 3, .getfield 300), (11, .iload_n 3, 1, .iload 3), (12, .iload_n 3, 1, .iload 3), (13, .aload_n 0, 1, .aload 0), (14, .getfield 30, 3, .getfield 305), (17, .imul, 1, .imul), (18, .lload_n 1, 1, .lload 1), (19, .iload_n 3, 1, .iload 3), (20, .aload_n 0, 1, .aload 0), (21, .getfield 30, 3, .getfield 305), (24, .invokestatic 56, 3, .invokeinterface 22 31), (27, .iadd, 1, .iadd), (28, .iastore, 1, .iastore), (29, .iinc 3 (1), 3, .iinc 3 (1)), (32, .goto (-30), 3, .goto 2)]),
  (35, [(35, .return_, 1, .return_)])]
def ct_Marks_placeApart : List (Nat × List Nat) := [(2, [0, 1, 3])]
def bl_Marks_placeClose : List (Nat × List am_I) := [(0, [(0, .iconst (3), 1, .iconst (3)), (1, .aload_n 0, 1, .aload 0), (2, .getfield 30, 3, .getfield 305), (5, .imul, 1, .imul), (6, .istore_n 3, 1, .istore 3), (7, .aload_n 0, 1, .aload 0), (8, .getfield 9, 3, .getfield 300), (11, .iconst (0), 1, .iconst (0)), (12, .lload_n 1, 1, .lload 1), (13, .iconst (0), 1, .iconst (0)), (14, .iload_n 3, 1, .iload 3), (15, .invokestatic 56, 3, .invokeinterface 22 31), (18, .iastore, 1, .iastore), (19, .iconst (1), 1, .iconst (1)), (20, .istore 4, 2, .istore 4), (22, .nop, 0, .goto_w 22)]),
  (22, [(22, .iload 4, 2, .iload 4), (24, .iconst (3), 1, .iconst (3)), (25, .if_icmp .ge (55), 3, .if_icmp .ge 80), (28, .aload_n 0, 1, .aload 0), (29, .getfield 9, 3, .getfield 300), (32, .iload 4, 2, .iload 4), (34, .iconst (1), 1, .iconst (1)), (35, .isub, 1, .isub), (36, .iaload, 1, .iaload), (37, .iconst (1), 1, .iconst (1)), (38, .iadd, 1, .iadd), (39, .lload_n 1, 1, .lload 1), (40, .iload 4, 2, .iload 4), (42, .aload_n 0, 1, .aload 0), (43, .getfield 30, 3, .getfield 305), (46, .invokestatic 56, 3, .invokeinterface 22 31), (49, .iadd, 1, .iadd), (50, .istore 5, 2, .istore 5), (52, .aload_n 0, 1, .aload 0), (53, .getfield 9, 3, .getfield 300), (56, .iload 4, 2, .iload 4), (58, .iload 5, 2, .iload 5), (60, .iload_n 3, 1, .iload 3), (61, .if_icmp .ge (8), 3, .if_icmp .ge 69), (64, .iload 5, 2, .iload 5), (66, .goto (7), 3, .goto 73)]),
  (69, [(69, .iload 5, 2, .iload 5), (71, .iload_n 3, 1, .iload 3), (72, .isub, 1, .isub), (73, .nop, 0, .goto_w 73)]),
  (73, [(73, .iastore, 1, .iastore), (74, .iinc 4 (1), 3, .iinc 4 (1)), (77, .goto (-55), 3, .goto 22)]),
  (80, [(80, .return_, 1, .return_)])]
def ct_Marks_placeClose : List (Nat × List Nat) := [(22, [0, 1, 3, 4])]
def bl_Marks_placeFree : List (Nat × List am_I) := [(0, [(0, .iconst (0), 1, .iconst (0)), (1, .istore_n 3, 1, .istore 3), (2, .nop, 0, .goto_w 2)]),
  (2, [(2, .iload_n 3, 1, .iload 3), (3, .iconst (3), 1, .iconst (3)), (4, .if_icmp .ge (26), 3, .if_icmp .ge 30), (7, .aload_n 0, 1, .aload 0), (8, .getfield 9, 3, .getfield 300), (11, .iload_n 3, 1, .iload 3), (12, .lload_n 1, 1, .lload 1), (13, .iload_n 3, 1, .iload 3), (14, .iconst (3), 1, .iconst (3)), (15, .aload_n 0, 1, .aload 0), (16, .getfield 30, 3, .getfield 305), (19, .imul, 1, .imul), (20, .invokestatic 56, 3, .invokeinterface 22 31), (23, .iastore, 1, .iastore), (24, .iinc 3 (1), 3, .iinc 3 (1)), (27, .goto (-25), 3, .goto 2)]),
  (30, [(30, .return_, 1, .return_)])]
def ct_Marks_placeFree : List (Nat × List Nat) := [(2, [0, 1, 3])]
def bl_Marks_share : List (Nat × List am_I) := [(0, [(0, .lload_n 0, 1, .lload 0), (1, .bipush (16), 2, .iconst (16)), (3, .bipush (16), 2, .iconst (16)), (5, .iload_n 2, 1, .iload 2), (6, .imul, 1, .imul), (7, .iadd, 1, .iadd), (8, .lushr, 1, .lushr), (9, .l2i, 1, .l2i), (10, .ldc 60, 2, .iconst (65535)), (12, .iand, 1, .iand), (13, .istore 4, 2, .istore 4), (15, .iload 4, 2, .iload 4), (17, .iload_n 3, 1, .iload 3), (18, .imul, 1, .imul), (19, .bipush (16), 2, .iconst (16)), (21, .iushr, 1, .iushr), (22, .ireturn, 1, .ireturn)])]
def ct_Marks_share : List (Nat × List Nat) := []
def bl_Marks_gatherTouched : List (Nat × List am_I) := [(0, [(0, .aload_n 0, 1, .aload 0), (1, .getfield 9, 3, .getfield 300), (4, .iconst (0), 1, .iconst (0)), (5, .iaload, 1, .iaload), (6, .istore_n 1, 1, .istore 1), (7, .aload_n 0, 1, .aload 0), (8, .getfield 9, 3, .getfield 300), (11, .iconst (1), 1, .iconst (1)), (12, .iaload, 1, .iaload), (13, .istore_n 2, 1, .istore 2), (14, .aload_n 0, 1, .aload 0), (15, .getfield 9, 3, .getfield 300), (18, .iconst (2), 1, .iconst (2)), (19, .iaload, 1, .iaload), (20, .istore_n 3, 1, .istore 3), (21, .iload_n 1, 1, .iload 1), (22, .iload_n 2, 1, .iload 2), (23, .if_icmp .ne (11), 3, .if_icmp .ne 34), (26, .aload_n 0, 1, .aload 0), (27, .iload_n 3, 1, .iload 3), (28, .invokevirtual 61, 3, .invokeinterface 24 4020), (31, .goto (89), 3, .goto 120)]),
  (34, [(34, .iload_n 1, 1, .iload 1), (35, .iload_n 3, 1, .iload 3), (36, .if_icmp .ne (11), 3, .if_icmp .ne 47), (39, .aload_n 0, 1, .aload 0), (40, .iload_n 2, 1, .iload 2), (41, .invokevirtual 61, 3, .invokeinterface 24 4020), (44, .goto (76), 3, .goto 120)]),
  (47, [(47, .iload_n 2, 1, .iload 2), (48, .iload_n 3, 1, .iload 3), (49, .if_icmp .ne (11), 3, .if_icmp .ne 60), (52, .aload_n 0, 1, .aload 0), (53, .iload_n 1, 1, .iload 1), (54, .invokevirtual 61, 3, .invokeinterface 24 4020), (57, .goto (63), 3, .goto 120)]),
  (60, [(60, .aload_n 0, 1, .aload 0), (61, .getfield 15, 3, .getfield 301), (64, .iconst (0), 1, .iconst (0)), (65, .iload_n 1, 1, .iload 1), (66, .iload_n 2, 1, .iload 2), (67, .iload_n 3, 1, .iload 3), (68, .invokestatic 65, 3, .fsub), (71, .invokestatic 65, 3, .fsub), (74, .iastore, 1, .iastore), (75, .aload_n 0, 1, .aload 0), (76, .getfield 15, 3, .getfield 301), (79, .iconst (2), 1, .iconst (2)), (80, .iload_n 1, 1, .iload 1), (81, .iload_n 2, 1, .iload 2), (82, .iload_n 3, 1, .iload 3), (83, .invokestatic 71, 3, .fadd), (86, .invokestatic 71, 3, .fadd), (89, .iastore, 1, .iastore), (90, .aload_n 0, 1, .aload 0), (91, .getfield 15, 3, .getfield 301), (94, .iconst (1), 1, .iconst (1)), (95, .iload_n 1, 1, .iload 1), (96, .iload_n 2, 1, .iload 2), (97, .iadd, 1, .iadd), (98, .iload_n 3, 1, .iload 3), (99, .iadd, 1, .iadd), (100, .aload_n 0, 1, .aload 0), (101, .getfield 15, 3, .getfield 301), (104, .iconst (0), 1, .iconst (0)), (105, .iaload, 1, .iaload), (106, .isub, 1, .isub), (107, .aload_n 0, 1, .aload 0), (108, .getfield 15, 3, .getfield 301), (111, .iconst (2), 1, .iconst (2)), (112, .iaload, 1, .iaload), (113, .isub, 1, .isub), (114, .iastore, 1, .iastore), (115, .aload_n 0, 1, .aload 0), (116, .iconst (3), 1, .iconst (3)), (117, .putfield 74, 3, .putfield 302), (120, .nop, 0, .goto_w 120)]),
  (120, [(120, .return_, 1, .return_)])]
def ct_Marks_gatherTouched : List (Nat × List Nat) := []
def bl_Marks_touchOnly : List (Nat × List am_I) := [(0, [(0, .aload_n 0, 1, .aload 0), (1, .getfield 15, 3, .getfield 301), (4, .iconst (0), 1, .iconst (0)), (5, .iload_n 1, 1, .iload 1), (6, .iastore, 1, .iastore), (7, .aload_n 0, 1, .aload 0), (8, .iconst (1), 1, .iconst (1)), (9, .putfield 74, 3, .putfield 302), (12, .return_, 1, .return_)])]
def ct_Marks_touchOnly : List (Nat × List Nat) := []
def bl_Marks_sum : List (Nat × List am_I) := [(0, [(0, .iconst (0), 1, .iconst (0)), (1, .istore_n 2, 1, .istore 2), (2, .iconst (0), 1, .iconst (0)), (3, .istore_n 3, 1, .istore 3), (4, .nop, 0, .goto_w 4)]),
  (4, [(4, .iload_n 3, 1, .iload 3), (5, .aload_n 0, 1, .aload 0), (6, .getfield 74, 3, .getfield 302), (9, .if_icmp .ge (20), 3, .if_icmp .ge 29), (12, .iload_n 2, 1, .iload 2), (13, .aload_n 1, 1, .aload 1), (14, .aload_n 0, 1, .aload 0), (15, .getfield 15, 3, .getfield 301), (18, .iload_n 3, 1, .iload 3), (19, .iaload, 1, .iaload), (20, .iaload, 1, .iaload), (21, .ixor, 1, .ixor), (22, .istore_n 2, 1, .istore 2), (23, .iinc 3 (1), 3, .iinc 3 (1)), (26, .goto (-22), 3, .goto 4)]),
  (29, [(29, .iload_n 2, 1, .iload 2), (30, .ireturn, 1, .ireturn)])]
def ct_Marks_sum : List (Nat × List Nat) := [(4, [0, 1, 2, 3])]
def bl_Mender_search : List (Nat × List am_I) := [(0, [(0, .aload_n 0, 1, .aload 0), (1, .iconst (0), 1, .iconst (0)), (2, .putfield 25, 3, .putfield 404), (5, .aload_n 0, 1, .aload 0), (6, .aload_n 1, 1, .aload 1), (7, .getfield 28, 3, .getfield 807), (10, .ifCond .ne (7), 3, .ifCond .ne 17), (13, .iconst (0), 1, .iconst (0)), (14, .goto (5), 3, .goto 19)]),
  (17, [(17, .bipush (-2), 2, .iconst (-2)), (19, .nop, 0, .goto_w 19)]),
  (19, [(19, .putfield 33, 3, .putfield 401), (22, .iconst (1), 1, .iconst (1)), (23, .istore_n 2, 1, .istore 2), (24, .nop, 0, .goto_w 24)]),
  (24, [(24, .iload_n 2, 1, .iload 2), (25, .iconst (3), 1, .iconst (3)), (26, .if_icmp .gt (34), 3, .if_icmp .gt 60), (29, .aload_n 0, 1, .aload 0), (30, .getfield 33, 3, .getfield 401), (33, .bipush (-2), 2, .iconst (-2)), (35, .if_icmp .ne (25), 3, .if_icmp .ne 60), (38, .aload_n 0, 1, .aload 0), (39, .aload_n 1, 1, .aload 1), (40, .iconst (0), 1, .iconst (0)), (41, .iload_n 2, 1, .iload 2), (42, .iconst (0), 1, .iconst (0)), (43, .invokevirtual 36, 3, .invokeinterface 27 5051), (46, .ifCond .eq (8), 3, .ifCond .eq 54), (49, .aload_n 0, 1, .aload 0), (50, .iload_n 2, 1, .iload 2), (51, .putfield 33, 3, .putfield 401), (54, .nop, 0, .goto_w 54)]),
  (54, [(54, .iinc 2 (1), 3, .iinc 2 (1)), (57, .goto (-33), 3, .goto 24)]),
  (60, [(60, .return_, 1, .return_)])]
def ct_Mender_search : List (Nat × List Nat) := [(24, [0, 1, 2])]
def bl_Mender_choose : List (Nat × List am_I) := [(0, [(0, .iload_n 2, 1, .iload 2), (1, .iload_n 3, 1, .iload 3), (2, .if_icmp .ge (18), 3, .if_icmp .ge 20), (5, .aload_n 1, 1, .aload 1), (6, .getfield 28, 3, .getfield 807), (9, .aload_n 1, 1, .aload 1), (10, .invokevirtual 40, 3, .invokeinterface 56 9011), (13, .isub, 1, .isub), (14, .iload_n 3, 1, .iload 3), (15, .iload_n 2, 1, .iload 2), (16, .isub, 1, .isub), (17, .if_icmp .le (5), 3, .if_icmp .le 22), (20, .nop, 0, .goto_w 20)]),
  (20, [(20, .iconst (0), 1, .iconst (0)), (21, .ireturn, 1, .ireturn)]),
  (22, [(22, .iload 4, 2, .iload 4), (24, .istore 5, 2, .istore 5), (26, .nop, 0, .goto_w 26)]),
  (26, [(26, .iload 5, 2, .iload 5), (28, .aload_n 1, 1, .aload 1), (29, .getfield 44, 3, .getfield 806), (32, .if_icmp .ge (72), 3, .if_icmp .ge 104), (35, .aload_n 1, 1, .aload 1), (36, .getfield 47, 3, .getfield 803), (39, .iload 5, 2, .iload 5), (41, .baload, 1, .baload), (42, .ifCond .ne (56), 3, .ifCond .ne 98), (45, .aload_n 0, 1, .aload 0), (46, .getfield 25, 3, .getfield 404), (49, .istore 6, 2, .istore 6), (51, .aload_n 0, 1, .aload 0), (52, .aload_n 1, 1, .aload 1), (53, .iload 5, 2, .iload 5), (55, .invokevirtual 51, 3, .invokeinterface 28 5030), (58, .aload_n 0, 1, .aload 0), (59, .getfield 9, 3, .getfield 400), (62, .iload_n 2, 1, .iload 2), (63, .iload 5, 2, .iload 5), (65, .iastore, 1, .iastore), (66, .aload_n 1, 1, .aload 1), (67, .getfield 28, 3, .getfield 807), (70, .ifCond .eq (19), 3, .ifCond .eq 89), (73, .aload_n 0, 1, .aload 0), (74, .aload_n 1, 1, .aload 1), (75, .iload_n 2, 1, .iload 2), (76, .iconst (1), 1, .iconst (1)), (77, .iadd, 1, .iadd), (78, .iload_n 3, 1, .iload 3), (79, .iload 5, 2, .iload 5), (81, .iconst (1), 1, .iconst (1)), (82, .iadd, 1, .iadd), (83, .invokevirtual 36, 3, .invokeinterface 27 5051), (86, .ifCond .eq (5), 3, .ifCond .eq 91), (89, .nop, 0, .goto_w 89)]),
  (89, [(89, .iconst (1), 1, .iconst (1)), (90, .ireturn, 1, .ireturn)]),
  (91, [(91, .aload_n 0, 1, .aload 0), (92, .aload_n 1, 1, .aload 1), (93, .iload 6, 2, .iload 6), (95, .invokevirtual 55, 3, .invokeinterface 30 5030), (98, .nop, 0, .goto_w 98)]),
  (98, [(98, .iinc 5 (1), 3, .iinc 5 (1)), (101, .goto (-75), 3, .goto 26)]),
  (104, [(104, .iconst (0), 1, .iconst (0)), (105, .ireturn, 1, .ireturn)])]
def ct_Mender_choose : List (Nat × List Nat) := [(26, [0, 1, 2, 3, 5])]
def bl_Mender_leaveOut : List (Nat × List am_I) := [(0, [(0, .aload_n 0, 1, .aload 0), (1, .iconst (0), 1, .iconst (0)), (2, .putfield 58, 3, .putfield 406), (5, .aload_n 0, 1, .aload 0), (6, .aload_n 1, 1, .aload 1), (7, .iload_n 2, 1, .iload 2), (8, .invokevirtual 61, 3, .invokeinterface 29 5030), (11, .iconst (0), 1, .iconst (0)), (12, .istore_n 3, 1, .istore 3), (13, .nop, 0, .goto_w 13)]),
  (13, [(13, .iload_n 3, 1, .iload 3), (14, .bipush (96), 2, .iconst (96)), (16, .if_icmp .ge (58), 3, .if_icmp .ge 74), (19, .aload_n 0, 1, .aload 0), (20, .getfield 58, 3, .getfield 406), (23, .ifCond .le (51), 3, .ifCond .le 74), (26, .aload_n 0, 1, .aload 0), (27, .dup, 1, .dup), (28, .getfield 58, 3, .getfield 406), (31, .iconst (1), 1, .iconst (1)), (32, .isub, 1, .isub), (33, .putfield 58, 3, .putfield 406), (36, .aload_n 0, 1, .aload 0), (37, .getfield 22, 3, .getfield 405), (40, .aload_n 0, 1, .aload 0), (41, .getfield 58, 3, .getfield 406), (44, .iaload, 1, .iaload), (45, .istore 4, 2, .istore 4), (47, .aload_n 1, 1, .aload 1), (48, .iload 4, 2, .iload 4), (50, .invokevirtual 64, 3, .invokeinterface 55 9021), (53, .ifCond .eq (15), 3, .ifCond .eq 68), (56, .aload_n 0, 1, .aload 0), (57, .aload_n 1, 1, .aload 1), (58, .aload_n 1, 1, .aload 1), (59, .getfield 68, 3, .getfield 805), (62, .iload 4, 2, .iload 4), (64, .iaload, 1, .iaload), (65, .invokevirtual 61, 3, .invokeinterface 29 5030), (68, .nop, 0, .goto_w 68)]),
  (68, [(68, .iinc 3 (1), 3, .iinc 3 (1)), (71, .goto (-58), 3, .goto 13)]),
  (74, [(74, .return_, 1, .return_)])]
def ct_Mender_leaveOut : List (Nat × List Nat) := [(13, [0, 1, 3])]
def bl_Mender_take : List (Nat × List am_I) := [(0, [(0, .aload_n 1, 1, .aload 1), (1, .iload_n 2, 1, .iload 2), (2, .invokevirtual 71, 3, .invokeinterface 54 9020), (5, .aload_n 0, 1, .aload 0), (6, .getfield 19, 3, .getfield 403), (9, .aload_n 0, 1, .aload 0), (10, .getfield 25, 3, .getfield 404), (13, .iload_n 2, 1, .iload 2), (14, .iastore, 1, .iastore), (15, .aload_n 0, 1, .aload 0), (16, .dup, 1, .dup), (17, .getfield 25, 3, .getfield 404), (20, .iconst (1), 1, .iconst (1)), (21, .iadd, 1, .iadd), (22, .putfield 25, 3, .putfield 404), (25, .iconst (3), 1, .iconst (3)), (26, .iload_n 2, 1, .iload 2), (27, .imul, 1, .imul), (28, .istore_n 3, 1, .istore 3), (29, .nop, 0, .goto_w 29)]),
  (29, [(29, .iload_n 3, 1, .iload 3), (30, .iconst (3), 1, .iconst (3)), (31, .iload_n 2, 1, .iload 2), (32, .imul, 1, .imul), (33, .aload_n 1, 1, .aload 1), (34, .getfield 75, 3, .getfield 801), (37, .iload_n 2, 1, .iload 2), (38, .iaload, 1, .iaload), (39, .iadd, 1, .iadd), (40, .if_icmp .ge (56), 3, .if_icmp .ge 96), (43, .aload_n 1, 1, .aload 1), (44, .aload_n 1, 1, .aload 1), (45, .getfield 78, 3, .getfield 800), (48, .iload_n 3, 1, .iload 3), (49, .iaload, 1, .iaload), (50, .invokevirtual 64, 3, .invokeinterface 55 9021), (53, .ifCond .eq (37), 3, .ifCond .eq 90), (56, .aload_n 0, 1, .aload 0), (57, .getfield 58, 3, .getfield 406), (60, .bipush (96), 2, .iconst (96)), (62, .if_icmp .ge (28), 3, .if_icmp .ge 90), (65, .aload_n 0, 1, .aload 0), (66, .getfield 22, 3, .getfield 405), (69, .aload_n 0, 1, .aload 0), (70, .getfield 58, 3, .getfield 406), (73, .aload_n 1, 1, .aload 1), (74, .getfield 78, 3, .getfield 800), (77, .iload_n 3, 1, .iload 3), (78, .iaload, 1, .iaload), (79, .iastore, 1, .iastore), (80, .aload_n 0, 1, .aload 0), (81, .dup, 1, .dup), (82, .getfield 58, 3, .getfield 406), (85, .iconst (1), 1, .iconst (1)), (86, .iadd, 1, .iadd), (87, .putfield 58, 3, .putfield 406), (90, .nop, 0, .goto_w 90)]),
  (90, [(90, .iinc 3 (1), 3, .iinc 3 (1)), (93, .goto (-64), 3, .goto 29)]),
  (96, [(96, .return_, 1, .return_)])]
def ct_Mender_take : List (Nat × List Nat) := [(29, [0, 1, 2, 3])]
def bl_Mender_bringBack : List (Nat × List am_I) := [(0, [(0, .aload_n 0, 1, .aload 0), (1, .getfield 25, 3, .getfield 404), (4, .iload_n 2, 1, .iload 2), (5, .if_icmp .le (29), 3, .if_icmp .le 34), (8, .aload_n 0, 1, .aload 0), (9, .dup, 1, .dup), (10, .getfield 25, 3, .getfield 404), (13, .iconst (1), 1, .iconst (1)), (14, .isub, 1, .isub), (15, .putfield 25, 3, .putfield 404), (18, .aload_n 1, 1, .aload 1), (19, .aload_n 0, 1, .aload 0), (20, .getfield 19, 3, .getfield 403), (23, .aload_n 0, 1, .aload 0), (24, .getfield 25, 3, .getfield 404), (27, .iaload, 1, .iaload), (28, .invokevirtual 81, 3, .invokeinterface 53 9020), (31, .goto (-31), 3, .goto 0)]),
  (34, [(34, .return_, 1, .return_)])]
def ct_Mender_bringBack : List (Nat × List Nat) := [(0, [0, 1, 2])]
def bl_Peeling_run : List (Nat × List am_I) := [(0, [(0, .aload_n 0, 1, .aload 0), (1, .iconst (0), 1, .iconst (0)), (2, .putfield 27, 3, .putfield 502), (5, .iload_n 2, 1, .iload 2), (6, .iconst (2), 1, .iconst (2)), (7, .if_icmp .ne (11), 3, .if_icmp .ne 18), (10, .aload_n 0, 1, .aload 0), (11, .aload_n 1, 1, .aload 1), (12, .invokevirtual 31, 3, .invokeinterface 35 6020), (15, .goto (18), 3, .goto 33)]),
  (18, [(18, .aload_n 0, 1, .aload 0), (19, .aload_n 1, 1, .aload 1), (20, .iload_n 2, 1, .iload 2), (21, .iconst (1), 1, .iconst (1)), (22, .if_icmp .ne (7), 3, .if_icmp .ne 29), (25, .iconst (1), 1, .iconst (1)), (26, .goto (4), 3, .goto 30)]),
  (29, [(29, .iconst (0), 1, .iconst (0)), (30, .nop, 0, .goto_w 30)]),
  (30, [(30, .invokevirtual 35, 3, .invokeinterface 32 6030), (33, .nop, 0, .goto_w 33)]),
  (33, [(33, .return_, 1, .return_)])]
def ct_Peeling_run : List (Nat × List Nat) := []
def bl_Peeling_runLine : List (Nat × List am_I) := [(0, [(0, .aload_n 0, 1, .aload 0), (1, .iconst (0), 1, .iconst (0)), (2, .putfield 39, 3, .putfield 504), (5, .aload_n 0, 1, .aload 0), (6, .iconst (0), 1, .iconst (0)), (7, .putfield 42, 3, .putfield 505), (10, .iconst (0), 1, .iconst (0)), (11, .istore_n 3, 1, .istore 3), (12, .nop, 0, .goto_w 12)]),
  (12, [(12, .iload_n 3, 1, .iload 3), (13, .aload_n 1, 1, .aload 1), (14, .getfield 45, 3, .getfield 808), (17, .if_icmp .ge (15), 3, .if_icmp .ge 32), (20, .aload_n 0, 1, .aload 0), (21, .aload_n 1, 1, .aload 1), (22, .iload_n 3, 1, .iload 3), (23, .invokevirtual 50, 3, .invokeinterface 33 6030), (26, .iinc 3 (1), 3, .iinc 3 (1)), (29, .goto (-17), 3, .goto 12)]),
  (32, [(32, .iconst (0), 1, .iconst (0)), (33, .istore_n 3, 1, .istore 3), (34, .nop, 0, .goto_w 34)]),
  (34, [(34, .iload_n 3, 1, .iload 3), (35, .bipush (96), 2, .iconst (96)), (37, .if_icmp .ge (86), 3, .if_icmp .ge 123), (40, .aload_n 0, 1, .aload 0), (41, .getfield 39, 3, .getfield 504), (44, .aload_n 0, 1, .aload 0), (45, .getfield 42, 3, .getfield 505), (48, .if_icmp .ge (75), 3, .if_icmp .ge 123), (51, .aload_n 0, 1, .aload 0), (52, .iload_n 2, 1, .iload 2), (53, .invokevirtual 54, 3, .invokeinterface 34 6021), (56, .istore 4, 2, .istore 4), (58, .aload_n 1, 1, .aload 1), (59, .iload 4, 2, .iload 4), (61, .invokevirtual 58, 3, .invokeinterface 55 9021), (64, .ifCond .eq (53), 3, .ifCond .eq 117), (67, .aload_n 0, 1, .aload 0), (68, .aload_n 1, 1, .aload 1), (69, .iload 4, 2, .iload 4), (71, .invokevirtual 62, 3, .invokeinterface 36 6031), (74, .istore 5, 2, .istore 5), (76, .iconst (3), 1, .iconst (3)), (77, .iload 5, 2, .iload 5), (79, .imul, 1, .imul), (80, .istore 6, 2, .istore 6), (82, .nop, 0, .goto_w 82)]),
  (82, [(82, .iload 6, 2, .iload 6), (84, .iconst (3), 1, .iconst (3)), (85, .iload 5, 2, .iload 5), (87, .imul, 1, .imul), (88, .aload_n 1, 1, .aload 1), (89, .getfield 66, 3, .getfield 801), (92, .iload 5, 2, .iload 5), (94, .iaload, 1, .iaload), (95, .iadd, 1, .iadd), (96, .if_icmp .ge (21), 3, .if_icmp .ge 117), (99, .aload_n 0, 1, .aload 0), (100, .aload_n 1, 1, .aload 1), (101, .aload_n 1, 1, .aload 1), (102, .getfield 69, 3, .getfield 800), (105, .iload 6, 2, .iload 6), (107, .iaload, 1, .iaload), (108, .invokevirtual 50, 3, .invokeinterface 33 6030), (111, .iinc 6 (1), 3, .iinc 6 (1)), (114, .goto (-32), 3, .goto 82)]),
  (117, [(117, .iinc 3 (1), 3, .iinc 3 (1)), (120, .goto (-86), 3, .goto 34)]),
  (123, [(123, .return_, 1, .return_)])]
def ct_Peeling_runLine : List (Nat × List Nat) := [(12, [0, 1, 2, 3]), (34, [0, 1, 2, 3]), (82, [0, 1, 2, 3, 5, 6])]
def bl_Peeling_lineUp : List (Nat × List am_I) := [(0, [(0, .aload_n 1, 1, .aload 1), (1, .iload_n 2, 1, .iload 2), (2, .invokevirtual 58, 3, .invokeinterface 55 9021), (5, .ifCond .eq (32), 3, .ifCond .eq 37), (8, .aload_n 0, 1, .aload 0), (9, .getfield 42, 3, .getfield 505), (12, .bipush (96), 2, .iconst (96)), (14, .if_icmp .ge (23), 3, .if_icmp .ge 37), (17, .aload_n 0, 1, .aload 0), (18, .getfield 18, 3, .getfield 503), (21, .aload_n 0, 1, .aload 0), (22, .getfield 42, 3, .getfield 505), (25, .iload_n 2, 1, .iload 2), (26, .iastore, 1, .iastore), (27, .aload_n 0, 1, .aload 0), (28, .dup, 1, .dup), (29, .getfield 42, 3, .getfield 505), (32, .iconst (1), 1, .iconst (1)), (33, .iadd, 1, .iadd), (34, .putfield 42, 3, .putfield 505), (37, .nop, 0, .goto_w 37)]),
  (37, [(37, .return_, 1, .return_)])]
def ct_Peeling_lineUp : List (Nat × List Nat) := []
def bl_Peeling_leaveLine : List (Nat × List am_I) := [(0, [(0, .iload_n 1, 1, .iload 1), (1, .ifCond .eq (23), 3, .ifCond .eq 24), (4, .aload_n 0, 1, .aload 0), (5, .dup, 1, .dup), (6, .getfield 42, 3, .getfield 505), (9, .iconst (1), 1, .iconst (1)), (10, .isub, 1, .isub), (11, .putfield 42, 3, .putfield 505), (14, .aload_n 0, 1, .aload 0), (15, .getfield 18, 3, .getfield 503), (18, .aload_n 0, 1, .aload 0), (19, .getfield 42, 3, .getfield 505), (22, .iaload, 1, .iaload), (23, .ireturn, 1, .ireturn)]),
  (24, [(24, .aload_n 0, 1, .aload 0), (25, .dup, 1, .dup), (26, .getfield 39, 3, .getfield 504), (29, .iconst (1), 1, .iconst (1)), (30, .iadd, 1, .iadd), (31, .putfield 39, 3, .putfield 504), (34, .aload_n 0, 1, .aload 0), (35, .getfield 18, 3, .getfield 503), (38, .aload_n 0, 1, .aload 0), (39, .getfield 39, 3, .getfield 504), (42, .iconst (1), 1, .iconst (1)), (43, .isub, 1, .isub), (44, .iaload, 1, .iaload), (45, .ireturn, 1, .ireturn)])]
def ct_Peeling_leaveLine : List (Nat × List Nat) := []
def bl_Peeling_runLeast : List (Nat × List am_I) := [(0, [(0, .iconst (0), 1, .iconst (0)), (1, .istore_n 2, 1, .istore 2), (2, .iconst (0), 1, .iconst (0)), (3, .istore_n 3, 1, .istore 3), (4, .nop, 0, .goto_w 4)]),
  (4, [(4, .iload_n 3, 1, .iload 3), (5, .sipush (4704), 3, .iconst (4704)), (8, .if_icmp .ge (49), 3, .if_icmp .ge 57), (11, .iload_n 2, 1, .iload 2), (12, .aload_n 1, 1, .aload 1), (13, .getfield 45, 3, .getfield 808), (16, .if_icmp .ge (41), 3, .if_icmp .ge 57), (19, .aload_n 1, 1, .aload 1), (20, .iload_n 2, 1, .iload 2), (21, .invokevirtual 58, 3, .invokeinterface 55 9021), (24, .ifCond .eq (24), 3, .ifCond .eq 48), (27, .aload_n 0, 1, .aload 0), (28, .aload_n 1, 1, .aload 1), (29, .iload_n 2, 1, .iload 2), (30, .invokevirtual 62, 3, .invokeinterface 36 6031), (33, .istore 4, 2, .istore 4), (35, .aload_n 1, 1, .aload 1), (36, .getfield 69, 3, .getfield 800), (39, .iconst (3), 1, .iconst (3)), (40, .iload 4, 2, .iload 4), (42, .imul, 1, .imul), (43, .iaload, 1, .iaload), (44, .istore_n 2, 1, .istore 2), (45, .goto (6), 3, .goto 51)]),
  (48, [(48, .iinc 2 (1), 3, .iinc 2 (1)), (51, .nop, 0, .goto_w 51)]),
  (51, [(51, .iinc 3 (1), 3, .iinc 3 (1)), (54, .goto (-50), 3, .goto 4)]),
  (57, [(57, .return_, 1, .return_)])]
def ct_Peeling_runLeast : List (Nat × List Nat) := [(4, [0, 1, 2, 3])]
def bl_Peeling_goOut : List (Nat × List am_I) := [(0, [(0, .aload_n 1, 1, .aload 1), (1, .getfield 72, 3, .getfield 805), (4, .iload_n 2, 1, .iload 2), (5, .iaload, 1, .iaload), (6, .istore_n 3, 1, .istore 3), (7, .aload_n 1, 1, .aload 1), (8, .iload_n 3, 1, .iload 3), (9, .invokevirtual 75, 3, .invokeinterface 54 9020), (12, .aload_n 0, 1, .aload 0), (13, .getfield 9, 3, .getfield 500), (16, .aload_n 0, 1, .aload 0), (17, .getfield 27, 3, .getfield 502), (20, .iload_n 3, 1, .iload 3), (21, .iastore, 1, .iastore), (22, .aload_n 0, 1, .aload 0), (23, .getfield 15, 3, .getfield 501), (26, .aload_n 0, 1, .aload 0), (27, .getfield 27, 3, .getfield 502), (30, .iload_n 2, 1, .iload 2), (31, .iastore, 1, .iastore), (32, .aload_n 0, 1, .aload 0), (33, .dup, 1, .dup), (34, .getfield 27, 3, .getfield 502), (37, .iconst (1), 1, .iconst (1)), (38, .iadd, 1, .iadd), (39, .putfield 27, 3, .putfield 502), (42, .iload_n 3, 1, .iload 3), (43, .ireturn, 1, .ireturn)])]
def ct_Peeling_goOut : List (Nat × List Nat) := []
def bl_Peeling_fillBack : List (Nat × List am_I) := [(0, [(0, .aload_n 3, 1, .aload 3), (1, .iconst (0), 1, .iconst (0)), (2, .invokestatic 79, 3, .invokeinterface 194 20), (5, .aload_n 0, 1, .aload 0), (6, .getfield 27, 3, .getfield 502), (9, .iconst (1), 1, .iconst (1)), (10, .isub, 1, .isub), (11, .istore 4, 2, .istore 4), (13, .nop, 0, .goto_w 13)]),
  (13, [(13, .iload 4, 2, .iload 4), (15, .ifCond .lt (78), 3, .ifCond .lt 93), (18, .aload_n 0, 1, .aload 0), (19, .getfield 9, 3, .getfield 500), (22, .iload 4, 2, .iload 4), (24, .iaload, 1, .iaload), (25, .istore 5, 2, .istore 5), (27, .aload_n 2, 1, .aload 2), (28, .iload 5, 2, .iload 5), (30, .iaload, 1, .iaload), (31, .istore 6, 2, .istore 6), (33, .iconst (3), 1, .iconst (3)), (34, .iload 5, 2, .iload 5), (36, .imul, 1, .imul), (37, .istore 7, 2, .istore 7), (39, .nop, 0, .goto_w 39)]),
  (39, [(39, .iload 7, 2, .iload 7), (41, .iconst (3), 1, .iconst (3)), (42, .iload 5, 2, .iload 5), (44, .imul, 1, .imul), (45, .aload_n 1, 1, .aload 1), (46, .getfield 66, 3, .getfield 801), (49, .iload 5, 2, .iload 5), (51, .iaload, 1, .iaload), (52, .iadd, 1, .iadd), (53, .if_icmp .ge (23), 3, .if_icmp .ge 76), (56, .iload 6, 2, .iload 6), (58, .aload_n 3, 1, .aload 3), (59, .aload_n 1, 1, .aload 1), (60, .getfield 69, 3, .getfield 800), (63, .iload 7, 2, .iload 7), (65, .iaload, 1, .iaload), (66, .iaload, 1, .iaload), (67, .ixor, 1, .ixor), (68, .istore 6, 2, .istore 6), (70, .iinc 7 (1), 3, .iinc 7 (1)), (73, .goto (-34), 3, .goto 39)]),
  (76, [(76, .aload_n 3, 1, .aload 3), (77, .aload_n 0, 1, .aload 0), (78, .getfield 15, 3, .getfield 501), (81, .iload 4, 2, .iload 4), (83, .iaload, 1, .iaload), (84, .iload 6, 2, .iload 6), (86, .iastore, 1, .iastore), (87, .iinc 4 (-1), 3, .iinc 4 (-1)), (90, .goto (-77), 3, .goto 13)]),
  (93, [(93, .return_, 1, .return_)])]
def ct_Peeling_fillBack : List (Nat × List Nat) := [(13, [0, 1, 2, 3, 4]), (39, [0, 1, 2, 3, 4, 5, 6, 7])]
def bl_Peeling_countWoken : List (Nat × List am_I) := [(0, [(0, .aload_n 0, 1, .aload 0), (1, .getfield 21, 3, .getfield 506), (4, .iconst (0), 1, .iconst (0)), (5, .invokestatic 79, 3, .invokeinterface 194 20), (8, .aload_n 0, 1, .aload 0), (9, .getfield 21, 3, .getfield 506), (12, .iload_n 2, 1, .iload 2), (13, .iconst (1), 1, .iconst (1)), (14, .iastore, 1, .iastore), (15, .aload_n 0, 1, .aload 0), (16, .aload_n 1, 1, .aload 1), (17, .aload_n 0, 1, .aload 0), (18, .getfield 21, 3, .getfield 506), (21, .aload_n 0, 1, .aload 0), (22, .getfield 24, 3, .getfield 507), (25, .invokevirtual 85, 3, .invokeinterface 37 6040), (28, .iconst (0), 1, .iconst (0)), (29, .istore_n 3, 1, .istore 3), (30, .iconst (0), 1, .iconst (0)), (31, .istore 4, 2, .istore 4), (33, .nop, 0, .goto_w 33)]),
  (33, [(33, .iload 4, 2, .iload 4), (35, .aload_n 1, 1, .aload 1), (36, .getfield 45, 3, .getfield 808), (39, .if_icmp .ge (19), 3, .if_icmp .ge 58), (42, .iload_n 3, 1, .iload 3), (43, .aload_n 0, 1, .aload 0), (44, .getfield 24, 3, .getfield 507), (47, .iload 4, 2, .iload 4), (49, .iaload, 1, .iaload), (50, .iadd, 1, .iadd), (51, .istore_n 3, 1, .istore 3), (52, .iinc 4 (1), 3, .iinc 4 (1)), (55, .goto (-22), 3, .goto 33)]),
  (58, [(58, .iload_n 3, 1, .iload 3), (59, .ireturn, 1, .ireturn)])]
def ct_Peeling_countWoken : List (Nat × List Nat) := [(33, [0, 1, 3, 4])]
def bl_Reader_read : List (Nat × List am_I) := [(0, [(0, .aload_n 0, 1, .aload 0), (1, .iconst (0), 1, .iconst (0)), (2, .putfield 9, 3, .putfield 600), (5, .aload_n 2, 1, .aload 2), (6, .invokevirtual 15, 3, .invokeinterface 5 3010), (9, .aload_n 1, 1, .aload 1), (10, .invokevirtual 20, 3, .invokeinterface 67 11010), (13, .iconst (1), 1, .iconst (1)), (14, .istore_n 3, 1, .istore 3), (15, .nop, 0, .goto_w 15)]),
  (15, [(15, .iload_n 3, 1, .iload 3), (16, .bipush (6), 2, .iconst (6)), (18, .if_icmp .gt (23), 3, .if_icmp .gt 41), (21, .aload_n 0, 1, .aload 0), (22, .getfield 9, 3, .getfield 600), (25, .ifCond .ne (16), 3, .ifCond .ne 41), (28, .aload_n 0, 1, .aload 0), (29, .aload_n 1, 1, .aload 1), (30, .aload_n 2, 1, .aload 2), (31, .iload_n 3, 1, .iload 3), (32, .invokevirtual 25, 3, .invokeinterface 40 7040), (35, .iinc 3 (1), 3, .iinc 3 (1)), (38, .goto (-23), 3, .goto 15)]),
  (41, [(41, .iconst (0), 1, .iconst (0)), (42, .istore_n 3, 1, .istore 3), (43, .nop, 0, .goto_w 43)]),
  (43, [(43, .iload_n 3, 1, .iload 3), (44, .bipush (48), 2, .iconst (48)), (46, .if_icmp .gt (29), 3, .if_icmp .gt 75), (49, .aload_n 0, 1, .aload 0), (50, .getfield 9, 3, .getfield 600), (53, .ifCond .ne (22), 3, .ifCond .ne 75), (56, .aload_n 1, 1, .aload 1), (57, .getfield 29, 3, .getfield 1002), (60, .ifCond .eq (15), 3, .ifCond .eq 75), (63, .aload_n 0, 1, .aload 0), (64, .aload_n 1, 1, .aload 1), (65, .aload_n 2, 1, .aload 2), (66, .invokevirtual 32, 3, .invokeinterface 41 7030), (69, .iinc 3 (1), 3, .iinc 3 (1)), (72, .goto (-29), 3, .goto 43)]),
  (75, [(75, .aload_n 0, 1, .aload 0), (76, .getfield 9, 3, .getfield 600), (79, .ireturn, 1, .ireturn)])]
def ct_Reader_read : List (Nat × List Nat) := [(15, [0, 1, 2, 3]), (43, [0, 1, 2, 3])]
def bl_Reader_readSetting : List (Nat × List am_I) := [(0, [(0, .aload_n 1, 1, .aload 1), (1, .iload_n 3, 1, .iload 3), (2, .invokestatic 36, 3, .invokeinterface 47 13), (5, .invokevirtual 40, 3, .invokeinterface 71 11021), (8, .ifCond .ne (4), 3, .ifCond .ne 12), (11, .return_, 1, .return_)]),
  (12, [(12, .aload_n 1, 1, .aload 1), (13, .invokevirtual 44, 3, .invokeinterface 68 11010), (16, .iload_n 3, 1, .iload 3), (17, .iconst (5), 1, .iconst (5)), (18, .if_icmp .ge (21), 3, .if_icmp .ge 39), (21, .aload_n 0, 1, .aload 0), (22, .aload_n 1, 1, .aload 1), (23, .getstatic 47, 3, .getstatic 900), (26, .iload_n 3, 1, .iload 3), (27, .iaload, 1, .iaload), (28, .getstatic 51, 3, .getstatic 901), (31, .iload_n 3, 1, .iload 3), (32, .iaload, 1, .iaload), (33, .invokevirtual 54, 3, .invokeinterface 43 7041), (36, .goto (9), 3, .goto 45)]),
  (39, [(39, .aload_n 0, 1, .aload 0), (40, .aload_n 1, 1, .aload 1), (41, .iload_n 3, 1, .iload 3), (42, .invokevirtual 58, 3, .invokeinterface 44 7031), (45, .nop, 0, .goto_w 45)]),
  (45, [(45, .istore 4, 2, .istore 4), (47, .aload_n 0, 1, .aload 0), (48, .aload_n 1, 1, .aload 1), (49, .invokevirtual 62, 3, .invokeinterface 45 7020), (52, .aload_n 0, 1, .aload 0), (53, .getfield 9, 3, .getfield 600), (56, .ifCond .ne (10), 3, .ifCond .ne 66), (59, .aload_n 2, 1, .aload 2), (60, .iload_n 3, 1, .iload 3), (61, .iload 4, 2, .iload 4), (63, .invokevirtual 66, 3, .invokeinterface 12 3030), (66, .nop, 0, .goto_w 66)]),
  (66, [(66, .return_, 1, .return_)])]
def ct_Reader_readSetting : List (Nat × List Nat) := []
def bl_Reader_readKey : List (Nat × List am_I) := [(0, [(0, .aload_n 1, 1, .aload 1), (1, .ldc 70, 2, .ldc 1012), (3, .invokevirtual 40, 3, .invokeinterface 71 11021), (6, .ifCond .ne (10), 3, .ifCond .ne 16), (9, .aload_n 0, 1, .aload 0), (10, .aload_n 1, 1, .aload 1), (11, .iconst (1), 1, .iconst (1)), (12, .invokevirtual 72, 3, .invokeinterface 46 7030), (15, .return_, 1, .return_)]),
  (16, [(16, .aload_n 2, 1, .aload 2), (17, .getfield 76, 3, .getfield 203), (20, .bipush (48), 2, .iconst (48)), (22, .if_icmp .lt (10), 3, .if_icmp .lt 32), (25, .aload_n 0, 1, .aload 0), (26, .aload_n 1, 1, .aload 1), (27, .iconst (4), 1, .iconst (4)), (28, .invokevirtual 72, 3, .invokeinterface 46 7030), (31, .return_, 1, .return_)]),
  (32, [(32, .aload_n 1, 1, .aload 1), (33, .invokevirtual 44, 3, .invokeinterface 68 11010), (36, .aload_n 1, 1, .aload 1), (37, .getfield 29, 3, .getfield 1002), (40, .iconst (2), 1, .iconst (2)), (41, .if_icmp .ne (23), 3, .if_icmp .ne 64), (44, .aload_n 2, 1, .aload 2), (45, .aload_n 1, 1, .aload 1), (46, .getfield 79, 3, .getfield 1005), (49, .i2l, 1, .i2l), (50, .invokevirtual 82, 3, .invokeinterface 8 3021), (53, .iconst (-1), 1, .iconst (-1)), (54, .if_icmp .eq (10), 3, .if_icmp .eq 64), (57, .aload_n 0, 1, .aload 0), (58, .aload_n 1, 1, .aload 1), (59, .iconst (2), 1, .iconst (2)), (60, .invokevirtual 72, 3, .invokeinterface 46 7030), (63, .return_, 1, .return_)]),
  (64, [(64, .aload_n 0, 1, .aload 0), (65, .aload_n 1, 1, .aload 1), (66, .iconst (0), 1, .iconst (0)), (67, .ldc 86, 2, .iconst (999999999)), (69, .invokevirtual 54, 3, .invokeinterface 43 7041), (72, .istore_n 3, 1, .istore 3), (73, .aload_n 0, 1, .aload 0), (74, .aload_n 1, 1, .aload 1), (75, .aload_n 2, 1, .aload 2), (76, .invokevirtual 87, 3, .invokeinterface 42 7031), (79, .istore 4, 2, .istore 4), (81, .aload_n 0, 1, .aload 0), (82, .aload_n 1, 1, .aload 1), (83, .invokevirtual 62, 3, .invokeinterface 45 7020), (86, .aload_n 0, 1, .aload 0), (87, .getfield 9, 3, .getfield 600), (90, .ifCond .ne (15), 3, .ifCond .ne 105), (93, .aload_n 2, 1, .aload 2), (94, .aload_n 2, 1, .aload 2), (95, .getfield 76, 3, .getfield 203), (98, .iload_n 3, 1, .iload 3), (99, .i2l, 1, .i2l), (100, .iload 4, 2, .iload 4), (102, .invokevirtual 91, 3, .invokeinterface 9 3040), (105, .nop, 0, .goto_w 105)]),
  (105, [(105, .return_, 1, .return_)])]
def ct_Reader_readKey : List (Nat × List Nat) := []
def bl_Reader_takeValue : List (Nat × List am_I) := [(0, [(0, .aload_n 0, 1, .aload 0), (1, .getfield 9, 3, .getfield 600), (4, .ifCond .ne (12), 3, .ifCond .ne 16), (7, .aload_n 1, 1, .aload 1), (8, .ldc 95, 2, .ldc 1013), (10, .invokevirtual 40, 3, .invokeinterface 71 11021), (13, .ifCond .ne (5), 3, .ifCond .ne 18), (16, .nop, 0, .goto_w 16)]),
  (16, [(16, .iconst (0), 1, .iconst (0)), (17, .ireturn, 1, .ireturn)]),
  (18, [(18, .aload_n 1, 1, .aload 1), (19, .invokevirtual 44, 3, .invokeinterface 68 11010), (22, .aload_n 0, 1, .aload 0), (23, .aload_n 1, 1, .aload 1), (24, .iconst (0), 1, .iconst (0)), (25, .iconst (1), 1, .iconst (1)), (26, .aload_n 2, 1, .aload 2), (27, .getfield 97, 3, .getfield 202), (30, .iconst (3), 1, .iconst (3)), (31, .iaload, 1, .iaload), (32, .ishl, 1, .ishl), (33, .iconst (1), 1, .iconst (1)), (34, .isub, 1, .isub), (35, .invokevirtual 54, 3, .invokeinterface 43 7041), (38, .ireturn, 1, .ireturn)])]
def ct_Reader_takeValue : List (Nat × List Nat) := []
def bl_Reader_takeNumber : List (Nat × List am_I) := [(0, [(0, .aload_n 1, 1, .aload 1), (1, .getfield 29, 3, .getfield 1002), (4, .iconst (2), 1, .iconst (2)), (5, .if_icmp .eq (11), 3, .if_icmp .eq 16), (8, .aload_n 0, 1, .aload 0), (9, .aload_n 1, 1, .aload 1), (10, .iconst (1), 1, .iconst (1)), (11, .invokevirtual 72, 3, .invokeinterface 46 7030), (14, .iconst (0), 1, .iconst (0)), (15, .ireturn, 1, .ireturn)]),
  (16, [(16, .aload_n 1, 1, .aload 1), (17, .getfield 79, 3, .getfield 1005), (20, .istore 4, 2, .istore 4), (22, .iload 4, 2, .iload 4), (24, .iload_n 2, 1, .iload 2), (25, .if_icmp .lt (9), 3, .if_icmp .lt 34), (28, .iload 4, 2, .iload 4), (30, .iload_n 3, 1, .iload 3), (31, .if_icmp .le (11), 3, .if_icmp .le 42), (34, .nop, 0, .goto_w 34)]),
  (34, [(34, .aload_n 0, 1, .aload 0), (35, .aload_n 1, 1, .aload 1), (36, .iconst (3), 1, .iconst (3)), (37, .invokevirtual 72, 3, .invokeinterface 46 7030), (40, .iconst (0), 1, .iconst (0)), (41, .ireturn, 1, .ireturn)]),
  (42, [(42, .aload_n 1, 1, .aload 1), (43, .invokevirtual 44, 3, .invokeinterface 68 11010), (46, .iload 4, 2, .iload 4), (48, .ireturn, 1, .ireturn)])]
def ct_Reader_takeNumber : List (Nat × List Nat) := []
def bl_Reader_takeChoice : List (Nat × List am_I) := [(0, [(0, .getstatic 47, 3, .getstatic 900), (3, .iload_n 2, 1, .iload 2), (4, .iaload, 1, .iaload), (5, .istore_n 3, 1, .istore 3), (6, .nop, 0, .goto_w 6)]),
  (6, [(6, .iload_n 3, 1, .iload 3), (7, .getstatic 51, 3, .getstatic 901), (10, .iload_n 2, 1, .iload 2), (11, .iaload, 1, .iaload), (12, .if_icmp .gt (27), 3, .if_icmp .gt 39), (15, .aload_n 1, 1, .aload 1), (16, .iload_n 2, 1, .iload 2), (17, .iload_n 3, 1, .iload 3), (18, .invokestatic 100, 3, .invokeinterface 48 23), (21, .invokevirtual 40, 3, .invokeinterface 71 11021), (24, .ifCond .eq (9), 3, .ifCond .eq 33), (27, .aload_n 1, 1, .aload 1), (28, .invokevirtual 44, 3, .invokeinterface 68 11010), (31, .iload_n 3, 1, .iload 3), (32, .ireturn, 1, .ireturn)]),
  (33, [(33, .iinc 3 (1), 3, .iinc 3 (1)), (36, .goto (-30), 3, .goto 6)]),
  (39, [(39, .aload_n 0, 1, .aload 0), (40, .aload_n 1, 1, .aload 1), (41, .iconst (1), 1, .iconst (1)), (42, .invokevirtual 72, 3, .invokeinterface 46 7030), (45, .iconst (0), 1, .iconst (0)), (46, .ireturn, 1, .ireturn)])]
def ct_Reader_takeChoice : List (Nat × List Nat) := [(6, [0, 1, 2, 3])]
def bl_Reader_passStop : List (Nat × List am_I) := [(0, [(0, .aload_n 0, 1, .aload 0), (1, .getfield 9, 3, .getfield 600), (4, .ifCond .eq (4), 3, .ifCond .eq 8), (7, .return_, 1, .return_)]),
  (8, [(8, .aload_n 1, 1, .aload 1), (9, .getfield 29, 3, .getfield 1002), (12, .iconst (3), 1, .iconst (3)), (13, .if_icmp .ne (10), 3, .if_icmp .ne 23), (16, .aload_n 1, 1, .aload 1), (17, .invokevirtual 44, 3, .invokeinterface 68 11010), (20, .goto (9), 3, .goto 29)]),
  (23, [(23, .aload_n 0, 1, .aload 0), (24, .aload_n 1, 1, .aload 1), (25, .iconst (1), 1, .iconst (1)), (26, .invokevirtual 72, 3, .invokeinterface 46 7030), (29, .nop, 0, .goto_w 29)]),
  (29, [(29, .return_, 1, .return_)])]
def ct_Reader_passStop : List (Nat × List Nat) := []
def bl_Reader_fail : List (Nat × List am_I) := [(0, [(0, .aload_n 0, 1, .aload 0), (1, .bipush (8), 2, .iconst (8)), (3, .aload_n 1, 1, .aload 1), (4, .getfield 104, 3, .getfield 1003), (7, .imul, 1, .imul), (8, .iload_n 2, 1, .iload 2), (9, .iadd, 1, .iadd), (10, .putfield 9, 3, .putfield 600), (13, .return_, 1, .return_)])]
def ct_Reader_fail : List (Nat × List Nat) := []
def bl_Reader_nameOf : List (Nat × List am_I) := [(0, [(0, .iload_n 0, 1, .iload 0), (1, .tableswitch (50) (1) (5) #[35, 38, 41, 44, 47], 35, .lookupswitch 51 #[(1, 36), (2, 39), (3, 42), (4, 45), (5, 48)])]),
  (36, [(36, .ldc 107, 2, .ldc 1000), (38, .areturn, 1, .areturn)]),
  (39, [(39, .ldc 109, 2, .ldc 1001), (41, .areturn, 1, .areturn)]),
  (42, [(42, .ldc 111, 2, .ldc 1002), (44, .areturn, 1, .areturn)]),
  (45, [(45, .ldc 113, 2, .ldc 1003), (47, .areturn, 1, .areturn)]),
  (48, [(48, .ldc 115, 2, .ldc 1004), (50, .areturn, 1, .areturn)]),
  (51, [(51, .ldc 117, 2, .ldc 1005), (53, .areturn, 1, .areturn)])]
def ct_Reader_nameOf : List (Nat × List Nat) := []
def bl_Reader_choiceOf : List (Nat × List am_I) := [(0, [(0, .iload_n 1, 1, .iload 1), (1, .lookupswitch (53) #[(0, 27), (1, 40)], 27, .lookupswitch 54 #[(0, 28), (1, 41)])]),
  (28, [(28, .iload_n 0, 1, .iload 0), (29, .iconst (5), 1, .iconst (5)), (30, .if_icmp .ne (8), 3, .if_icmp .ne 38), (33, .ldc 119, 2, .ldc 1006), (35, .goto (5), 3, .goto 40)]),
  (38, [(38, .ldc 121, 2, .ldc 1007), (40, .nop, 0, .goto_w 40)]),
  (40, [(40, .areturn, 1, .areturn)]),
  (41, [(41, .iload_n 0, 1, .iload 0), (42, .iconst (5), 1, .iconst (5)), (43, .if_icmp .ne (8), 3, .if_icmp .ne 51), (46, .ldc 123, 2, .ldc 1008), (48, .goto (5), 3, .goto 53)]),
  (51, [(51, .ldc 125, 2, .ldc 1009), (53, .nop, 0, .goto_w 53)]),
  (53, [(53, .areturn, 1, .areturn)]),
  (54, [(54, .iload_n 0, 1, .iload 0), (55, .iconst (5), 1, .iconst (5)), (56, .if_icmp .ne (8), 3, .if_icmp .ne 64), (59, .ldc 127, 2, .ldc 1010), (61, .goto (5), 3, .goto 66)]),
  (64, [(64, .ldc 129, 2, .ldc 1011), (66, .nop, 0, .goto_w 66)]),
  (66, [(66, .areturn, 1, .areturn)])]
def ct_Reader_choiceOf : List (Nat × List Nat) := []
def bl_Rounds_run : List (Nat × List am_I) := [(0, [(0, .aload_n 0, 1, .aload 0), (1, .getfield 9, 3, .getfield 700), (4, .iconst (0), 1, .iconst (0)), (5, .invokestatic 15, 3, .invokeinterface 194 20), (8, .iconst (1), 1, .iconst (1)), (9, .istore_n 2, 1, .istore 2), (10, .nop, 0, .goto_w 10)]),
  (10, [(10, .iload_n 2, 1, .iload 2), (11, .bipush (48), 2, .iconst (48)), (13, .if_icmp .gt (28), 3, .if_icmp .gt 41), (16, .aload_n 0, 1, .aload 0), (17, .aload_n 1, 1, .aload 1), (18, .iload_n 2, 1, .iload 2), (19, .invokevirtual 21, 3, .invokeinterface 50 8031), (22, .ifCond .ne (7), 3, .ifCond .ne 29), (25, .iload_n 2, 1, .iload 2), (26, .iconst (1), 1, .iconst (1)), (27, .isub, 1, .isub), (28, .ireturn, 1, .ireturn)]),
  (29, [(29, .aload_n 0, 1, .aload 0), (30, .aload_n 1, 1, .aload 1), (31, .iload_n 2, 1, .iload 2), (32, .invokevirtual 25, 3, .invokeinterface 51 8030), (35, .iinc 2 (1), 3, .iinc 2 (1)), (38, .goto (-28), 3, .goto 10)]),
  (41, [(41, .bipush (48), 2, .iconst (48)), (43, .ireturn, 1, .ireturn)])]
def ct_Rounds_run : List (Nat × List Nat) := [(10, [0, 1, 2])]
def bl_Rounds_mark : List (Nat × List am_I) := [(0, [(0, .iconst (0), 1, .iconst (0)), (1, .istore_n 3, 1, .istore 3), (2, .iconst (0), 1, .iconst (0)), (3, .istore 4, 2, .istore 4), (5, .nop, 0, .goto_w 5)]),
  (5, [(5, .iload 4, 2, .iload 4), (7, .aload_n 1, 1, .aload 1), (8, .getfield 29, 3, .getfield 808), (11, .if_icmp .ge (33), 3, .if_icmp .ge 44), (14, .aload_n 1, 1, .aload 1), (15, .iload 4, 2, .iload 4), (17, .invokevirtual 35, 3, .invokeinterface 55 9021), (20, .ifCond .eq (18), 3, .ifCond .eq 38), (23, .aload_n 0, 1, .aload 0), (24, .getfield 9, 3, .getfield 700), (27, .aload_n 1, 1, .aload 1), (28, .getfield 39, 3, .getfield 805), (31, .iload 4, 2, .iload 4), (33, .iaload, 1, .iaload), (34, .iload_n 2, 1, .iload 2), (35, .iastore, 1, .iastore), (36, .iconst (1), 1, .iconst (1)), (37, .istore_n 3, 1, .istore 3), (38, .nop, 0, .goto_w 38)]),
  (38, [(38, .iinc 4 (1), 3, .iinc 4 (1)), (41, .goto (-36), 3, .goto 5)]),
  (44, [(44, .iload_n 3, 1, .iload 3), (45, .ireturn, 1, .ireturn)])]
def ct_Rounds_mark : List (Nat × List Nat) := [(5, [0, 1, 2, 3, 4])]
def bl_Rounds_takeMarked : List (Nat × List am_I) := [(0, [(0, .iconst (0), 1, .iconst (0)), (1, .istore_n 3, 1, .istore 3), (2, .nop, 0, .goto_w 2)]),
  (2, [(2, .iload_n 3, 1, .iload 3), (3, .aload_n 1, 1, .aload 1), (4, .getfield 42, 3, .getfield 806), (7, .if_icmp .ge (24), 3, .if_icmp .ge 31), (10, .aload_n 0, 1, .aload 0), (11, .getfield 9, 3, .getfield 700), (14, .iload_n 3, 1, .iload 3), (15, .iaload, 1, .iaload), (16, .iload_n 2, 1, .iload 2), (17, .if_icmp .ne (8), 3, .if_icmp .ne 25), (20, .aload_n 1, 1, .aload 1), (21, .iload_n 3, 1, .iload 3), (22, .invokevirtual 45, 3, .invokeinterface 54 9020), (25, .nop, 0, .goto_w 25)]),
  (25, [(25, .iinc 3 (1), 3, .iinc 3 (1)), (28, .goto (-26), 3, .goto 2)]),
  (31, [(31, .return_, 1, .return_)])]
def ct_Rounds_takeMarked : List (Nat × List Nat) := [(2, [0, 1, 2, 3])]
def bl_Row_lay : List (Nat × List am_I) := [(0, [(0, .aload_n 2, 1, .aload 2), (1, .iload_n 3, 1, .iload 3), (2, .iload 4, 2, .iload 4), (4, .aload_n 1, 1, .aload 1), (5, .getfield 31, 3, .getfield 202), (8, .iconst (2), 1, .iconst (2)), (9, .iaload, 1, .iaload), (10, .aload_n 1, 1, .aload 1), (11, .getfield 31, 3, .getfield 202), (14, .bipush (6), 2, .iconst (6)), (16, .iaload, 1, .iaload), (17, .invokevirtual 36, 3, .invokeinterface 17 4050), (20, .aload_n 0, 1, .aload 0), (21, .aload_n 1, 1, .aload 1), (22, .getfield 42, 3, .getfield 203), (25, .putfield 46, 3, .putfield 806), (28, .aload_n 0, 1, .aload 0), (29, .iconst (0), 1, .iconst (0)), (30, .putfield 49, 3, .putfield 807), (33, .aload_n 0, 1, .aload 0), (34, .iconst (3), 1, .iconst (3)), (35, .iload 4, 2, .iload 4), (37, .imul, 1, .imul), (38, .putfield 52, 3, .putfield 808), (41, .aload_n 0, 1, .aload 0), (42, .getfield 25, 3, .getfield 804), (45, .iconst (0), 1, .iconst (0)), (46, .invokestatic 55, 3, .invokeinterface 194 20), (49, .aload_n 0, 1, .aload 0), (50, .getfield 28, 3, .getfield 805), (53, .iconst (0), 1, .iconst (0)), (54, .invokestatic 55, 3, .invokeinterface 194 20), (57, .iconst (0), 1, .iconst (0)), (58, .istore 5, 2, .istore 5), (60, .nop, 0, .goto_w 60)]),
  (60, [(60, .iload 5, 2, .iload 5), (62, .aload_n 0, 1, .aload 0), (63, .getfield 46, 3, .getfield 806), (66, .if_icmp .ge (85), 3, .if_icmp .ge 151), (69, .aload_n 2, 1, .aload 2), (70, .aload_n 1, 1, .aload 1), (71, .getfield 61, 3, .getfield 200), (74, .iload 5, 2, .iload 5), (76, .laload, 1, .laload), (77, .invokevirtual 65, 3, .invokeinterface 18 4020), (80, .aload_n 0, 1, .aload 0), (81, .getfield 15, 3, .getfield 801), (84, .iload 5, 2, .iload 5), (86, .aload_n 2, 1, .aload 2), (87, .getfield 69, 3, .getfield 302), (90, .iastore, 1, .iastore), (91, .aload_n 0, 1, .aload 0), (92, .getfield 18, 3, .getfield 802), (95, .iload 5, 2, .iload 5), (97, .aload_n 2, 1, .aload 2), (98, .getfield 71, 3, .getfield 303), (101, .iastore, 1, .iastore), (102, .iconst (0), 1, .iconst (0)), (103, .istore 6, 2, .istore 6), (105, .nop, 0, .goto_w 105)]),
  (105, [(105, .iload 6, 2, .iload 6), (107, .aload_n 2, 1, .aload 2), (108, .getfield 69, 3, .getfield 302), (111, .if_icmp .ge (28), 3, .if_icmp .ge 139), (114, .aload_n 0, 1, .aload 0), (115, .getfield 9, 3, .getfield 800), (118, .iconst (3), 1, .iconst (3)), (119, .iload 5, 2, .iload 5), (121, .imul, 1, .imul), (122, .iload 6, 2, .iload 6), (124, .iadd, 1, .iadd), (125, .aload_n 2, 1, .aload 2), (126, .getfield 74, 3, .getfield 301), (129, .iload 6, 2, .iload 6), (131, .iaload, 1, .iaload), (132, .iastore, 1, .iastore), (133, .iinc 6 (1), 3, .iinc 6 (1)), (136, .goto (-31), 3, .goto 105)]),
  (139, [(139, .aload_n 0, 1, .aload 0), (140, .iload 5, 2, .iload 5), (142, .invokevirtual 75, 3, .invokeinterface 53 9020), (145, .iinc 5 (1), 3, .iinc 5 (1)), (148, .goto (-88), 3, .goto 60)]),
  (151, [(151, .return_, 1, .return_)])]
def ct_Row_lay : List (Nat × List Nat) := [(60, [0, 1, 2, 5]), (105, [0, 1, 2, 5, 6])]
def bl_Row_putBack : List (Nat × List am_I) := [(0, [(0, .aload_n 0, 1, .aload 0), (1, .getfield 21, 3, .getfield 803), (4, .iload_n 1, 1, .iload 1), (5, .iconst (0), 1, .iconst (0)), (6, .bastore, 1, .bastore), (7, .aload_n 0, 1, .aload 0), (8, .dup, 1, .dup), (9, .getfield 49, 3, .getfield 807), (12, .iconst (1), 1, .iconst (1)), (13, .iadd, 1, .iadd), (14, .putfield 49, 3, .putfield 807), (17, .iconst (3), 1, .iconst (3)), (18, .iload_n 1, 1, .iload 1), (19, .imul, 1, .imul), (20, .istore_n 2, 1, .istore 2), (21, .nop, 0, .goto_w 21)]),
  (21, [(21, .iload_n 2, 1, .iload 2), (22, .iconst (3), 1, .iconst (3)), (23, .iload_n 1, 1, .iload 1), (24, .imul, 1, .imul), (25, .aload_n 0, 1, .aload 0), (26, .getfield 15, 3, .getfield 801), (29, .iload_n 1, 1, .iload 1), (30, .iaload, 1, .iaload), (31, .iadd, 1, .iadd), (32, .if_icmp .ge (39), 3, .if_icmp .ge 71), (35, .aload_n 0, 1, .aload 0), (36, .getfield 25, 3, .getfield 804), (39, .aload_n 0, 1, .aload 0), (40, .getfield 9, 3, .getfield 800), (43, .iload_n 2, 1, .iload 2), (44, .iaload, 1, .iaload), (45, .dup2, 1, .dup2), (46, .iaload, 1, .iaload), (47, .iconst (1), 1, .iconst (1)), (48, .iadd, 1, .iadd), (49, .iastore, 1, .iastore), (50, .aload_n 0, 1, .aload 0), (51, .getfield 28, 3, .getfield 805), (54, .aload_n 0, 1, .aload 0), (55, .getfield 9, 3, .getfield 800), (58, .iload_n 2, 1, .iload 2), (59, .iaload, 1, .iaload), (60, .dup2, 1, .dup2), (61, .iaload, 1, .iaload), (62, .iload_n 1, 1, .iload 1), (63, .ixor, 1, .ixor), (64, .iastore, 1, .iastore), (65, .iinc 2 (1), 3, .iinc 2 (1)), (68, .goto (-47), 3, .goto 21)]),
  (71, [(71, .return_, 1, .return_)])]
def ct_Row_putBack : List (Nat × List Nat) := [(21, [0, 1, 2])]
def bl_Row_takeOff : List (Nat × List am_I) := [(0, [(0, .aload_n 0, 1, .aload 0), (1, .getfield 21, 3, .getfield 803), (4, .iload_n 1, 1, .iload 1), (5, .iconst (1), 1, .iconst (1)), (6, .bastore, 1, .bastore), (7, .aload_n 0, 1, .aload 0), (8, .dup, 1, .dup), (9, .getfield 49, 3, .getfield 807), (12, .iconst (1), 1, .iconst (1)), (13, .isub, 1, .isub), (14, .putfield 49, 3, .putfield 807), (17, .iconst (3), 1, .iconst (3)), (18, .iload_n 1, 1, .iload 1), (19, .imul, 1, .imul), (20, .istore_n 2, 1, .istore 2), (21, .nop, 0, .goto_w 21)]),
  (21, [(21, .iload_n 2, 1, .iload 2), (22, .iconst (3), 1, .iconst (3)), (23, .iload_n 1, 1, .iload 1), (24, .imul, 1, .imul), (25, .aload_n 0, 1, .aload 0), (26, .getfield 15, 3, .getfield 801), (29, .iload_n 1, 1, .iload 1), (30, .iaload, 1, .iaload), (31, .iadd, 1, .iadd), (32, .if_icmp .ge (39), 3, .if_icmp .ge 71), (35, .aload_n 0, 1, .aload 0), (36, .getfield 25, 3, .getfield 804), (39, .aload_n 0, 1, .aload 0), (40, .getfield 9, 3, .getfield 800), (43, .iload_n 2, 1, .iload 2), (44, .iaload, 1, .iaload), (45, .dup2, 1, .dup2), (46, .iaload, 1, .iaload), (47, .iconst (1), 1, .iconst (1)), (48, .isub, 1, .isub), (49, .iastore, 1, .iastore), (50, .aload_n 0, 1, .aload 0), (51, .getfield 28, 3, .getfield 805), (54, .aload_n 0, 1, .aload 0), (55, .getfield 9, 3, .getfield 800), (58, .iload_n 2, 1, .iload 2), (59, .iaload, 1, .iaload), (60, .dup2, 1, .dup2), (61, .iaload, 1, .iaload), (62, .iload_n 1, 1, .iload 1), (63, .ixor, 1, .ixor), (64, .iastore, 1, .iastore), (65, .iinc 2 (1), 3, .iinc 2 (1)), (68, .goto (-47), 3, .goto 21)]),
  (71, [(71, .return_, 1, .return_)])]
def ct_Row_takeOff : List (Nat × List Nat) := [(21, [0, 1, 2])]
def bl_Row_isAlone : List (Nat × List am_I) := [(0, [(0, .aload_n 0, 1, .aload 0), (1, .getfield 25, 3, .getfield 804), (4, .iload_n 1, 1, .iload 1), (5, .iaload, 1, .iaload), (6, .iconst (1), 1, .iconst (1)), (7, .if_icmp .ne (7), 3, .if_icmp .ne 14), (10, .iconst (1), 1, .iconst (1)), (11, .goto (4), 3, .goto 15)]),
  (14, [(14, .iconst (0), 1, .iconst (0)), (15, .nop, 0, .goto_w 15)]),
  (15, [(15, .ireturn, 1, .ireturn)])]
def ct_Row_isAlone : List (Nat × List Nat) := []
def bl_Row_countTouched : List (Nat × List am_I) := [(0, [(0, .iconst (0), 1, .iconst (0)), (1, .istore_n 1, 1, .istore 1), (2, .iconst (0), 1, .iconst (0)), (3, .istore_n 2, 1, .istore 2), (4, .nop, 0, .goto_w 4)]),
  (4, [(4, .iload_n 2, 1, .iload 2), (5, .aload_n 0, 1, .aload 0), (6, .getfield 52, 3, .getfield 808), (9, .if_icmp .ge (21), 3, .if_icmp .ge 30), (12, .aload_n 0, 1, .aload 0), (13, .getfield 25, 3, .getfield 804), (16, .iload_n 2, 1, .iload 2), (17, .iaload, 1, .iaload), (18, .ifCond .eq (6), 3, .ifCond .eq 24), (21, .iinc 1 (1), 3, .iinc 1 (1)), (24, .nop, 0, .goto_w 24)]),
  (24, [(24, .iinc 2 (1), 3, .iinc 2 (1)), (27, .goto (-23), 3, .goto 4)]),
  (30, [(30, .iload_n 1, 1, .iload 1), (31, .ireturn, 1, .ireturn)])]
def ct_Row_countTouched : List (Nat × List Nat) := [(4, [0, 1, 2])]
def bl_Row_leftAt : List (Nat × List am_I) := [(0, [(0, .iconst (0), 1, .iconst (0)), (1, .istore_n 2, 1, .istore 2), (2, .iconst (0), 1, .iconst (0)), (3, .istore_n 3, 1, .istore 3), (4, .nop, 0, .goto_w 4)]),
  (4, [(4, .iload_n 3, 1, .iload 3), (5, .aload_n 0, 1, .aload 0), (6, .getfield 46, 3, .getfield 806), (9, .if_icmp .ge (28), 3, .if_icmp .ge 37), (12, .aload_n 0, 1, .aload 0), (13, .getfield 21, 3, .getfield 803), (16, .iload_n 3, 1, .iload 3), (17, .baload, 1, .baload), (18, .ifCond .ne (13), 3, .ifCond .ne 31), (21, .iload_n 2, 1, .iload 2), (22, .iload_n 1, 1, .iload 1), (23, .if_icmp .ne (5), 3, .if_icmp .ne 28), (26, .iload_n 3, 1, .iload 3), (27, .ireturn, 1, .ireturn)]),
  (28, [(28, .iinc 2 (1), 3, .iinc 2 (1)), (31, .nop, 0, .goto_w 31)]),
  (31, [(31, .iinc 3 (1), 3, .iinc 3 (1)), (34, .goto (-30), 3, .goto 4)]),
  (37, [(37, .bipush (-2), 2, .iconst (-2)), (39, .ireturn, 1, .ireturn)])]
def ct_Row_leftAt : List (Nat × List Nat) := [(4, [0, 1, 2, 3])]
def bl_Row_touchSame : List (Nat × List am_I) := [(0, [(0, .aload_n 0, 1, .aload 0), (1, .getfield 15, 3, .getfield 801), (4, .iload_n 1, 1, .iload 1), (5, .iaload, 1, .iaload), (6, .aload_n 0, 1, .aload 0), (7, .getfield 15, 3, .getfield 801), (10, .iload_n 2, 1, .iload 2), (11, .iaload, 1, .iaload), (12, .if_icmp .eq (5), 3, .if_icmp .eq 17), (15, .iconst (0), 1, .iconst (0)), (16, .ireturn, 1, .ireturn)]),
  (17, [(17, .iconst (0), 1, .iconst (0)), (18, .istore_n 3, 1, .istore 3), (19, .nop, 0, .goto_w 19)]),
  (19, [(19, .iload_n 3, 1, .iload 3), (20, .aload_n 0, 1, .aload 0), (21, .getfield 15, 3, .getfield 801), (24, .iload_n 1, 1, .iload 1), (25, .iaload, 1, .iaload), (26, .if_icmp .ge (34), 3, .if_icmp .ge 60), (29, .aload_n 0, 1, .aload 0), (30, .getfield 9, 3, .getfield 800), (33, .iconst (3), 1, .iconst (3)), (34, .iload_n 1, 1, .iload 1), (35, .imul, 1, .imul), (36, .iload_n 3, 1, .iload 3), (37, .iadd, 1, .iadd), (38, .iaload, 1, .iaload), (39, .aload_n 0, 1, .aload 0), (40, .getfield 9, 3, .getfield 800), (43, .iconst (3), 1, .iconst (3)), (44, .iload_n 2, 1, .iload 2), (45, .imul, 1, .imul), (46, .iload_n 3, 1, .iload 3), (47, .iadd, 1, .iadd), (48, .iaload, 1, .iaload), (49, .if_icmp .eq (5), 3, .if_icmp .eq 54), (52, .iconst (0), 1, .iconst (0)), (53, .ireturn, 1, .ireturn)]),
  (54, [(54, .iinc 3 (1), 3, .iinc 3 (1)), (57, .goto (-38), 3, .goto 19)]),
  (60, [(60, .iconst (1), 1, .iconst (1)), (61, .ireturn, 1, .ireturn)])]
def ct_Row_touchSame : List (Nat × List Nat) := [(19, [0, 1, 2, 3])]
def bl_Sieve_describe : List (Nat × List am_I) := [(0, [(0, .aload_n 0, 1, .aload 0), (1, .getfield 11, 3, .getfield 900), (4, .iconst (0), 1, .iconst (0)), (5, .iload_n 2, 1, .iload 2), (6, .iastore, 1, .iastore), (7, .aload_n 0, 1, .aload 0), (8, .getfield 11, 3, .getfield 900), (11, .iconst (1), 1, .iconst (1)), (12, .aload_n 1, 1, .aload 1), (13, .getfield 21, 3, .getfield 202), (16, .iconst (1), 1, .iconst (1)), (17, .iaload, 1, .iaload), (18, .iastore, 1, .iastore), (19, .aload_n 0, 1, .aload 0), (20, .getfield 11, 3, .getfield 900), (23, .iconst (2), 1, .iconst (2)), (24, .aload_n 1, 1, .aload 1), (25, .getfield 21, 3, .getfield 202), (28, .iconst (2), 1, .iconst (2)), (29, .iaload, 1, .iaload), (30, .iastore, 1, .iastore), (31, .aload_n 0, 1, .aload 0), (32, .getfield 11, 3, .getfield 900), (35, .iconst (3), 1, .iconst (3)), (36, .aload_n 1, 1, .aload 1), (37, .getfield 21, 3, .getfield 202), (40, .iconst (3), 1, .iconst (3)), (41, .iaload, 1, .iaload), (42, .iastore, 1, .iastore), (43, .aload_n 0, 1, .aload 0), (44, .getfield 11, 3, .getfield 900), (47, .iconst (4), 1, .iconst (4)), (48, .aload_n 1, 1, .aload 1), (49, .getfield 21, 3, .getfield 202), (52, .bipush (6), 2, .iconst (6)), (54, .iaload, 1, .iaload), (55, .iastore, 1, .iastore), (56, .aload_n 0, 1, .aload 0), (57, .getfield 11, 3, .getfield 900), (60, .iconst (5), 1, .iconst (5)), (61, .aload_n 1, 1, .aload 1), (62, .getfield 26, 3, .getfield 203), (65, .iastore, 1, .iastore), (66, .aload_n 0, 1, .aload 0), (67, .getfield 11, 3, .getfield 900), (70, .bipush (6), 2, .iconst (6)), (72, .iload_n 3, 1, .iload 3), (73, .iastore, 1, .iastore), (74, .aload_n 0, 1, .aload 0), (75, .iconst (1), 1, .iconst (1)), (76, .putfield 30, 3, .putfield 903), (79, .return_, 1, .return_)])]
def ct_Sieve_describe : List (Nat × List Nat) := []
def bl_Sieve_copy : List (Nat × List am_I) := [(0, [(0, .aload_n 1, 1, .aload 1), (1, .getfield 11, 3, .getfield 900), (4, .iconst (0), 1, .iconst (0)), (5, .aload_n 0, 1, .aload 0), (6, .getfield 11, 3, .getfield 900), (9, .iconst (0), 1, .iconst (0)), (10, .bipush (7), 2, .iconst (7)), (12, .invokestatic 34, 3, .invokedynamic 0), (15, .aload_n 1, 1, .aload 1), (16, .getfield 15, 3, .getfield 901), (19, .iconst (0), 1, .iconst (0)), (20, .aload_n 0, 1, .aload 0), (21, .getfield 15, 3, .getfield 901), (24, .iconst (0), 1, .iconst (0)), (25, .bipush (96), 2, .iconst (96)), (27, .invokestatic 34, 3, .invokedynamic 0), (30, .aload_n 1, 1, .aload 1), (31, .getfield 18, 3, .getfield 902), (34, .iconst (0), 1, .iconst (0)), (35, .aload_n 0, 1, .aload 0), (36, .getfield 18, 3, .getfield 902), (39, .iconst (0), 1, .iconst (0)), (40, .bipush (96), 2, .iconst (96)), (42, .invokestatic 34, 3, .invokedynamic 0), (45, .aload_n 0, 1, .aload 0), (46, .aload_n 1, 1, .aload 1), (47, .getfield 30, 3, .getfield 903), (50, .putfield 30, 3, .putfield 903), (53, .return_, 1, .return_)])]
def ct_Sieve_copy : List (Nat × List Nat) := []
def bl_Sieve_length : List (Nat × List am_I) := [(0, [(0, .iconst (3), 1, .iconst (3)), (1, .aload_n 0, 1, .aload 0), (2, .getfield 11, 3, .getfield 900), (5, .iconst (1), 1, .iconst (1)), (6, .iaload, 1, .iaload), (7, .imul, 1, .imul), (8, .ireturn, 1, .ireturn)])]
def ct_Sieve_length : List (Nat × List Nat) := []
def bl_Sieve_countBits : List (Nat × List am_I) := [(0, [(0, .aload_n 0, 1, .aload 0), (1, .invokevirtual 40, 3, .invokeinterface 61 10011), (4, .aload_n 0, 1, .aload 0), (5, .getfield 11, 3, .getfield 900), (8, .iconst (2), 1, .iconst (2)), (9, .iaload, 1, .iaload), (10, .aload_n 0, 1, .aload 0), (11, .getfield 11, 3, .getfield 900), (14, .iconst (3), 1, .iconst (3)), (15, .iaload, 1, .iaload), (16, .iadd, 1, .iadd), (17, .imul, 1, .imul), (18, .ireturn, 1, .ireturn)])]
def ct_Sieve_countBits : List (Nat × List Nat) := []
def bl_Sieve_aim : List (Nat × List am_I) := [(0, [(0, .aload_n 1, 1, .aload 1), (1, .aload_n 0, 1, .aload 0), (2, .getfield 11, 3, .getfield 900), (5, .iconst (0), 1, .iconst (0)), (6, .iaload, 1, .iaload), (7, .aload_n 0, 1, .aload 0), (8, .getfield 11, 3, .getfield 900), (11, .iconst (1), 1, .iconst (1)), (12, .iaload, 1, .iaload), (13, .aload_n 0, 1, .aload 0), (14, .getfield 11, 3, .getfield 900), (17, .iconst (2), 1, .iconst (2)), (18, .iaload, 1, .iaload), (19, .aload_n 0, 1, .aload 0), (20, .getfield 11, 3, .getfield 900), (23, .iconst (4), 1, .iconst (4)), (24, .iaload, 1, .iaload), (25, .invokevirtual 44, 3, .invokeinterface 17 4050), (28, .return_, 1, .return_)])]
def ct_Sieve_aim : List (Nat × List Nat) := []
def bl_Sieve_letsThrough : List (Nat × List am_I) := [(0, [(0, .aload_n 1, 1, .aload 1), (1, .getfield 50, 3, .getfield 303), (4, .aload_n 1, 1, .aload 1), (5, .aload_n 0, 1, .aload 0), (6, .getfield 15, 3, .getfield 901), (9, .invokevirtual 53, 3, .invokeinterface 25 4021), (12, .if_icmp .ne (7), 3, .if_icmp .ne 19), (15, .iconst (1), 1, .iconst (1)), (16, .goto (4), 3, .goto 20)]),
  (19, [(19, .iconst (0), 1, .iconst (0)), (20, .nop, 0, .goto_w 20)]),
  (20, [(20, .ireturn, 1, .ireturn)])]
def ct_Sieve_letsThrough : List (Nat × List Nat) := []
def bl_Sieve_countUnlike : List (Nat × List am_I) := [(0, [(0, .iconst (0), 1, .iconst (0)), (1, .istore_n 2, 1, .istore 2), (2, .iconst (0), 1, .iconst (0)), (3, .istore_n 3, 1, .istore 3), (4, .nop, 0, .goto_w 4)]),
  (4, [(4, .iload_n 3, 1, .iload 3), (5, .aload_n 0, 1, .aload 0), (6, .invokevirtual 40, 3, .invokeinterface 61 10011), (9, .if_icmp .ge (42), 3, .if_icmp .ge 51), (12, .aload_n 0, 1, .aload 0), (13, .getfield 15, 3, .getfield 901), (16, .iload_n 3, 1, .iload 3), (17, .iaload, 1, .iaload), (18, .aload_n 1, 1, .aload 1), (19, .getfield 15, 3, .getfield 901), (22, .iload_n 3, 1, .iload 3), (23, .iaload, 1, .iaload), (24, .if_icmp .ne (18), 3, .if_icmp .ne 42), (27, .aload_n 0, 1, .aload 0), (28, .getfield 18, 3, .getfield 902), (31, .iload_n 3, 1, .iload 3), (32, .iaload, 1, .iaload), (33, .aload_n 1, 1, .aload 1), (34, .getfield 18, 3, .getfield 902), (37, .iload_n 3, 1, .iload 3), (38, .iaload, 1, .iaload), (39, .if_icmp .eq (6), 3, .if_icmp .eq 45), (42, .nop, 0, .goto_w 42)]),
  (42, [(42, .iinc 2 (1), 3, .iinc 2 (1)), (45, .nop, 0, .goto_w 45)]),
  (45, [(45, .iinc 3 (1), 3, .iinc 3 (1)), (48, .goto (-44), 3, .goto 4)]),
  (51, [(51, .iload_n 2, 1, .iload 2), (52, .ireturn, 1, .ireturn)])]
def ct_Sieve_countUnlike : List (Nat × List Nat) := [(4, [0, 1, 2, 3])]
def bl_Tape_append : List (Nat × List am_I) := [(0, [(0, .bipush (24), 2, .iconst (24)), (2, .istore_n 2, 1, .istore 2), (3, .nop, 0, .goto_w 3)]),
  (3, [(3, .iload_n 2, 1, .iload 2), (4, .ifCond .lt (42), 3, .ifCond .lt 46), (7, .aload_n 0, 1, .aload 0), (8, .getfield 15, 3, .getfield 1001), (11, .sipush (600), 3, .iconst (600)), (14, .if_icmp .ge (32), 3, .if_icmp .ge 46), (17, .aload_n 0, 1, .aload 0), (18, .getfield 9, 3, .getfield 1000), (21, .aload_n 0, 1, .aload 0), (22, .getfield 15, 3, .getfield 1001), (25, .iload_n 1, 1, .iload 1), (26, .iload_n 2, 1, .iload 2), (27, .ishr, 1, .ishr), (28, .i2b, 1, .i2b), (29, .bastore, 1, .bastore), (30, .aload_n 0, 1, .aload 0), (31, .dup, 1, .dup), (32, .getfield 15, 3, .getfield 1001), (35, .iconst (1), 1, .iconst (1)), (36, .iadd, 1, .iadd), (37, .putfield 15, 3, .putfield 1001), (40, .iinc 2 (-8), 3, .iinc 2 (-8)), (43, .goto (-40), 3, .goto 3)]),
  (46, [(46, .return_, 1, .return_)])]
def ct_Tape_append : List (Nat × List Nat) := [(3, [0, 1, 2])]
def bl_Tape_rewind : List (Nat × List am_I) := [(0, [(0, .aload_n 0, 1, .aload 0), (1, .iconst (0), 1, .iconst (0)), (2, .putfield 19, 3, .putfield 1004), (5, .aload_n 0, 1, .aload 0), (6, .invokevirtual 22, 3, .invokeinterface 68 11010), (9, .return_, 1, .return_)])]
def ct_Tape_rewind : List (Nat × List Nat) := []
def bl_Tape_step : List (Nat × List am_I) := [(0, [(0, .aload_n 0, 1, .aload 0), (1, .aload_n 0, 1, .aload 0), (2, .getfield 19, 3, .getfield 1004), (5, .putfield 25, 3, .putfield 1003), (8, .nop, 0, .goto_w 8)]),
  (8, [(8, .aload_n 0, 1, .aload 0), (9, .getfield 25, 3, .getfield 1003), (12, .aload_n 0, 1, .aload 0), (13, .getfield 15, 3, .getfield 1001), (16, .if_icmp .ge (44), 3, .if_icmp .ge 60), (19, .aload_n 0, 1, .aload 0), (20, .getfield 9, 3, .getfield 1000), (23, .aload_n 0, 1, .aload 0), (24, .getfield 25, 3, .getfield 1003), (27, .baload, 1, .baload), (28, .bipush (32), 2, .iconst (32)), (30, .if_icmp .eq (17), 3, .if_icmp .eq 47), (33, .aload_n 0, 1, .aload 0), (34, .getfield 9, 3, .getfield 1000), (37, .aload_n 0, 1, .aload 0), (38, .getfield 25, 3, .getfield 1003), (41, .baload, 1, .baload), (42, .bipush (10), 2, .iconst (10)), (44, .if_icmp .ne (16), 3, .if_icmp .ne 60), (47, .nop, 0, .goto_w 47)]),
  (47, [(47, .aload_n 0, 1, .aload 0), (48, .dup, 1, .dup), (49, .getfield 25, 3, .getfield 1003), (52, .iconst (1), 1, .iconst (1)), (53, .iadd, 1, .iadd), (54, .putfield 25, 3, .putfield 1003), (57, .goto (-49), 3, .goto 8)]),
  (60, [(60, .aload_n 0, 1, .aload 0), (61, .aload_n 0, 1, .aload 0), (62, .getfield 25, 3, .getfield 1003), (65, .putfield 19, 3, .putfield 1004), (68, .aload_n 0, 1, .aload 0), (69, .getfield 25, 3, .getfield 1003), (72, .aload_n 0, 1, .aload 0), (73, .getfield 15, 3, .getfield 1001), (76, .if_icmp .lt (11), 3, .if_icmp .lt 87), (79, .aload_n 0, 1, .aload 0), (80, .iconst (0), 1, .iconst (0)), (81, .putfield 28, 3, .putfield 1002), (84, .goto (80), 3, .goto 164)]),
  (87, [(87, .aload_n 0, 1, .aload 0), (88, .getfield 9, 3, .getfield 1000), (91, .aload_n 0, 1, .aload 0), (92, .getfield 25, 3, .getfield 1003), (95, .baload, 1, .baload), (96, .invokestatic 31, 3, .invokeinterface 72 11), (99, .ifCond .eq (10), 3, .ifCond .eq 109), (102, .aload_n 0, 1, .aload 0), (103, .invokevirtual 35, 3, .invokeinterface 69 11010), (106, .goto (58), 3, .goto 164)]),
  (109, [(109, .aload_n 0, 1, .aload 0), (110, .getfield 9, 3, .getfield 1000), (113, .aload_n 0, 1, .aload 0), (114, .getfield 25, 3, .getfield 1003), (117, .baload, 1, .baload), (118, .invokestatic 38, 3, .invokeinterface 73 11), (121, .ifCond .eq (10), 3, .ifCond .eq 131), (124, .aload_n 0, 1, .aload 0), (125, .invokevirtual 41, 3, .invokeinterface 70 11010), (128, .goto (36), 3, .goto 164)]),
  (131, [(131, .aload_n 0, 1, .aload 0), (132, .aload_n 0, 1, .aload 0), (133, .getfield 9, 3, .getfield 1000), (136, .aload_n 0, 1, .aload 0), (137, .getfield 25, 3, .getfield 1003), (140, .baload, 1, .baload), (141, .bipush (59), 2, .iconst (59)), (143, .if_icmp .ne (7), 3, .if_icmp .ne 150), (146, .iconst (3), 1, .iconst (3)), (147, .goto (4), 3, .goto 151)]),
  (150, [(150, .iconst (4), 1, .iconst (4)), (151, .nop, 0, .goto_w 151)]),
  (151, [(151, .putfield 28, 3, .putfield 1002), (154, .aload_n 0, 1, .aload 0), (155, .dup, 1, .dup), (156, .getfield 19, 3, .getfield 1004), (159, .iconst (1), 1, .iconst (1)), (160, .iadd, 1, .iadd), (161, .putfield 19, 3, .putfield 1004), (164, .nop, 0, .goto_w 164)]),
  (164, [(164, .return_, 1, .return_)])]
def ct_Tape_step : List (Nat × List Nat) := [(8, [0])]
def bl_Tape_takeWord : List (Nat × List am_I) := [(0, [(0, .aload_n 0, 1, .aload 0), (1, .getfield 19, 3, .getfield 1004), (4, .aload_n 0, 1, .aload 0), (5, .getfield 15, 3, .getfield 1001), (8, .if_icmp .ge (31), 3, .if_icmp .ge 39), (11, .aload_n 0, 1, .aload 0), (12, .getfield 9, 3, .getfield 1000), (15, .aload_n 0, 1, .aload 0), (16, .getfield 19, 3, .getfield 1004), (19, .baload, 1, .baload), (20, .invokestatic 31, 3, .invokeinterface 72 11), (23, .ifCond .eq (16), 3, .ifCond .eq 39), (26, .aload_n 0, 1, .aload 0), (27, .dup, 1, .dup), (28, .getfield 19, 3, .getfield 1004), (31, .iconst (1), 1, .iconst (1)), (32, .iadd, 1, .iadd), (33, .putfield 19, 3, .putfield 1004), (36, .goto (-36), 3, .goto 0)]),
  (39, [(39, .aload_n 0, 1, .aload 0), (40, .aload_n 0, 1, .aload 0), (41, .getfield 19, 3, .getfield 1004), (44, .aload_n 0, 1, .aload 0), (45, .getfield 25, 3, .getfield 1003), (48, .isub, 1, .isub), (49, .bipush (6), 2, .iconst (6)), (51, .if_icmp .gt (7), 3, .if_icmp .gt 58), (54, .iconst (1), 1, .iconst (1)), (55, .goto (4), 3, .goto 59)]),
  (58, [(58, .iconst (4), 1, .iconst (4)), (59, .nop, 0, .goto_w 59)]),
  (59, [(59, .putfield 28, 3, .putfield 1002), (62, .return_, 1, .return_)])]
def ct_Tape_takeWord : List (Nat × List Nat) := [(0, [0])]
def bl_Tape_takeNumber : List (Nat × List am_I) := [(0, [(0, .aload_n 0, 1, .aload 0), (1, .getfield 19, 3, .getfield 1004), (4, .aload_n 0, 1, .aload 0), (5, .getfield 15, 3, .getfield 1001), (8, .if_icmp .ge (31), 3, .if_icmp .ge 39), (11, .aload_n 0, 1, .aload 0), (12, .getfield 9, 3, .getfield 1000), (15, .aload_n 0, 1, .aload 0), (16, .getfield 19, 3, .getfield 1004), (19, .baload, 1, .baload), (20, .invokestatic 38, 3, .invokeinterface 73 11), (23, .ifCond .eq (16), 3, .ifCond .eq 39), (26, .aload_n 0, 1, .aload 0), (27, .dup, 1, .dup), (28, .getfield 19, 3, .getfield 1004), (31, .iconst (1), 1, .iconst (1)), (32, .iadd, 1, .iadd), (33, .putfield 19, 3, .putfield 1004), (36, .goto (-36), 3, .goto 0)]),
  (39, [(39, .aload_n 0, 1, .aload 0), (40, .aload_n 0, 1, .aload 0), (41, .getfield 19, 3, .getfield 1004), (44, .aload_n 0, 1, .aload 0), (45, .getfield 25, 3, .getfield 1003), (48, .isub, 1, .isub), (49, .bipush (9), 2, .iconst (9)), (51, .if_icmp .gt (7), 3, .if_icmp .gt 58), (54, .iconst (2), 1, .iconst (2)), (55, .goto (4), 3, .goto 59)]),
  (58, [(58, .iconst (4), 1, .iconst (4)), (59, .nop, 0, .goto_w 59)]),
  (59, [(59, .putfield 28, 3, .putfield 1002), (62, .aload_n 0, 1, .aload 0), (63, .iconst (0), 1, .iconst (0)), (64, .putfield 44, 3, .putfield 1005), (67, .aload_n 0, 1, .aload 0), (68, .getfield 28, 3, .getfield 1002), (71, .iconst (2), 1, .iconst (2)), (72, .if_icmp .ne (43), 3, .if_icmp .ne 115), (75, .aload_n 0, 1, .aload 0), (76, .getfield 25, 3, .getfield 1003), (79, .istore_n 1, 1, .istore 1), (80, .nop, 0, .goto_w 80)]),
  (80, [(80, .iload_n 1, 1, .iload 1), (81, .aload_n 0, 1, .aload 0), (82, .getfield 19, 3, .getfield 1004), (85, .if_icmp .ge (30), 3, .if_icmp .ge 115), (88, .aload_n 0, 1, .aload 0), (89, .bipush (10), 2, .iconst (10)), (91, .aload_n 0, 1, .aload 0), (92, .getfield 44, 3, .getfield 1005), (95, .imul, 1, .imul), (96, .aload_n 0, 1, .aload 0), (97, .getfield 9, 3, .getfield 1000), (100, .iload_n 1, 1, .iload 1), (101, .baload, 1, .baload), (102, .iadd, 1, .iadd), (103, .bipush (48), 2, .iconst (48)), (105, .isub, 1, .isub), (106, .putfield 44, 3, .putfield 1005), (109, .iinc 1 (1), 3, .iinc 1 (1)), (112, .goto (-32), 3, .goto 80)]),
  (115, [(115, .return_, 1, .return_)])]
def ct_Tape_takeNumber : List (Nat × List Nat) := [(0, [0]), (80, [0, 1])]
def bl_Tape_isWord : List (Nat × List am_I) := [(0, [(0, .aload_n 0, 1, .aload 0), (1, .getfield 28, 3, .getfield 1002), (4, .iconst (1), 1, .iconst (1)), (5, .if_icmp .ne (19), 3, .if_icmp .ne 24), (8, .aload_n 0, 1, .aload 0), (9, .getfield 19, 3, .getfield 1004), (12, .aload_n 0, 1, .aload 0), (13, .getfield 25, 3, .getfield 1003), (16, .isub, 1, .isub), (17, .aload_n 1, 1, .aload 1), (18, .invokevirtual 47, 3, .invokeinterface 197 17011), (21, .if_icmp .eq (5), 3, .if_icmp .eq 26), (24, .nop, 0, .goto_w 24)]),
  (24, [(24, .iconst (0), 1, .iconst (0)), (25, .ireturn, 1, .ireturn)]),
  (26, [(26, .iconst (0), 1, .iconst (0)), (27, .istore_n 2, 1, .istore 2), (28, .nop, 0, .goto_w 28)]),
  (28, [(28, .iload_n 2, 1, .iload 2), (29, .aload_n 1, 1, .aload 1), (30, .invokevirtual 47, 3, .invokeinterface 197 17011), (33, .if_icmp .ge (30), 3, .if_icmp .ge 63), (36, .aload_n 0, 1, .aload 0), (37, .getfield 9, 3, .getfield 1000), (40, .aload_n 0, 1, .aload 0), (41, .getfield 25, 3, .getfield 1003), (44, .iload_n 2, 1, .iload 2), (45, .iadd, 1, .iadd), (46, .baload, 1, .baload), (47, .aload_n 1, 1, .aload 1), (48, .iload_n 2, 1, .iload 2), (49, .invokevirtual 52, 3, .invokeinterface 198 17021), (52, .if_icmp .eq (5), 3, .if_icmp .eq 57), (55, .iconst (0), 1, .iconst (0)), (56, .ireturn, 1, .ireturn)]),
  (57, [(57, .iinc 2 (1), 3, .iinc 2 (1)), (60, .goto (-32), 3, .goto 28)]),
  (63, [(63, .iconst (1), 1, .iconst (1)), (64, .ireturn, 1, .ireturn)])]
def ct_Tape_isWord : List (Nat × List Nat) := [(28, [0, 1, 2])]
def bl_Tape_isLetter : List (Nat × List am_I) := [(0, [(0, .iload_n 0, 1, .iload 0), (1, .bipush (97), 2, .iconst (97)), (3, .if_icmp .lt (13), 3, .if_icmp .lt 16), (6, .iload_n 0, 1, .iload 0), (7, .bipush (122), 2, .iconst (122)), (9, .if_icmp .gt (7), 3, .if_icmp .gt 16), (12, .iconst (1), 1, .iconst (1)), (13, .goto (4), 3, .goto 17)]),
  (16, [(16, .iconst (0), 1, .iconst (0)), (17, .nop, 0, .goto_w 17)]),
  (17, [(17, .ireturn, 1, .ireturn)])]
def ct_Tape_isLetter : List (Nat × List Nat) := []
def bl_Tape_isDigit : List (Nat × List am_I) := [(0, [(0, .iload_n 0, 1, .iload 0), (1, .bipush (48), 2, .iconst (48)), (3, .if_icmp .lt (13), 3, .if_icmp .lt 16), (6, .iload_n 0, 1, .iload 0), (7, .bipush (57), 2, .iconst (57)), (9, .if_icmp .gt (7), 3, .if_icmp .gt 16), (12, .iconst (1), 1, .iconst (1)), (13, .goto (4), 3, .goto 17)]),
  (16, [(16, .iconst (0), 1, .iconst (0)), (17, .nop, 0, .goto_w 17)]),
  (17, [(17, .ireturn, 1, .ireturn)])]
def ct_Tape_isDigit : List (Nat × List Nat) := []
def bl_T_feed : List (Nat × List am_I) := [(0, [(0, .aload_n 0, 1, .aload 0), (1, .getfield 12, 3, .getfield 1100), (4, .getfield 93, 3, .getfield 1001), (7, .sipush (580), 3, .iconst (580)), (10, .if_icmp .le (5), 3, .if_icmp .le 15), (13, .iconst (-1), 1, .iconst (-1)), (14, .ireturn, 1, .ireturn)]),
  (15, [(15, .aload_n 0, 1, .aload 0), (16, .getfield 12, 3, .getfield 1100), (19, .iload_n 1, 1, .iload 1), (20, .invokevirtual 97, 3, .invokeinterface 66 11020), (23, .aload_n 0, 1, .aload 0), (24, .getfield 12, 3, .getfield 1100), (27, .iload_n 2, 1, .iload 2), (28, .invokevirtual 97, 3, .invokeinterface 66 11020), (31, .aload_n 0, 1, .aload 0), (32, .getfield 12, 3, .getfield 1100), (35, .iload_n 3, 1, .iload 3), (36, .invokevirtual 97, 3, .invokeinterface 66 11020), (39, .aload_n 0, 1, .aload 0), (40, .getfield 12, 3, .getfield 1100), (43, .iload 4, 2, .iload 4), (45, .invokevirtual 97, 3, .invokeinterface 66 11020), (48, .aload_n 0, 1, .aload 0), (49, .getfield 12, 3, .getfield 1100), (52, .iload 5, 2, .iload 5), (54, .invokevirtual 97, 3, .invokeinterface 66 11020), (57, .aload_n 0, 1, .aload 0), (58, .getfield 12, 3, .getfield 1100), (61, .getfield 93, 3, .getfield 1001), (64, .ireturn, 1, .ireturn)])]
def ct_T_feed : List (Nat × List Nat) := []
def bl_T_end : List (Nat × List am_I) := [(0, [(0, .iload_n 1, 1, .iload 1), (1, .ifCond .lt (14), 3, .ifCond .lt 15), (4, .iload_n 1, 1, .iload 1), (5, .aload_n 0, 1, .aload 0), (6, .getfield 12, 3, .getfield 1100), (9, .getfield 93, 3, .getfield 1001), (12, .if_icmp .le (5), 3, .if_icmp .le 17), (15, .nop, 0, .goto_w 15)]),
  (15, [(15, .iconst (0), 1, .iconst (0)), (16, .ireturn, 1, .ireturn)]),
  (17, [(17, .aload_n 0, 1, .aload 0), (18, .getfield 12, 3, .getfield 1100), (21, .iload_n 1, 1, .iload 1), (22, .putfield 93, 3, .putfield 1001), (25, .iconst (1), 1, .iconst (1)), (26, .ireturn, 1, .ireturn)])]
def ct_T_end : List (Nat × List Nat) := []
def bl_T_text : List (Nat × List am_I) := [(0, [(0, .aload_n 0, 1, .aload 0), (1, .getfield 19, 3, .getfield 1101), (4, .aload_n 0, 1, .aload 0), (5, .getfield 12, 3, .getfield 1100), (8, .aload_n 0, 1, .aload 0), (9, .getfield 30, 3, .getfield 1103), (12, .invokevirtual 101, 3, .invokeinterface 39 7031), (15, .istore_n 1, 1, .istore 1), (16, .aload_n 0, 1, .aload 0), (17, .getfield 12, 3, .getfield 1100), (20, .iconst (0), 1, .iconst (0)), (21, .putfield 93, 3, .putfield 1001), (24, .iload_n 1, 1, .iload 1), (25, .ifCond .eq (8), 3, .ifCond .eq 33), (28, .bipush (-2), 2, .iconst (-2)), (30, .iload_n 1, 1, .iload 1), (31, .isub, 1, .isub), (32, .ireturn, 1, .ireturn)]),
  (33, [(33, .aload_n 0, 1, .aload 0), (34, .getfield 26, 3, .getfield 1102), (37, .aload_n 0, 1, .aload 0), (38, .getfield 30, 3, .getfield 1103), (41, .invokevirtual 105, 3, .invokeinterface 6 3020), (44, .aload_n 0, 1, .aload 0), (45, .getfield 36, 3, .getfield 1104), (48, .invokevirtual 109, 3, .invokeinterface 0 1010), (51, .aload_n 0, 1, .aload 0), (52, .getfield 85, 3, .getfield 1111), (55, .iconst (0), 1, .iconst (0)), (56, .putfield 112, 3, .putfield 903), (59, .iconst (0), 1, .iconst (0)), (60, .istore_n 2, 1, .istore 2), (61, .nop, 0, .goto_w 61)]),
  (61, [(61, .iload_n 2, 1, .iload 2), (62, .iconst (2), 1, .iconst (2)), (63, .if_icmp .ge (19), 3, .if_icmp .ge 82), (66, .aload_n 0, 1, .aload 0), (67, .getfield 89, 3, .getfield 1112), (70, .iload_n 2, 1, .iload 2), (71, .aaload, 1, .aaload), (72, .iconst (0), 1, .iconst (0)), (73, .putfield 112, 3, .putfield 903), (76, .iinc 2 (1), 3, .iinc 2 (1)), (79, .goto (-18), 3, .goto 61)]),
  (82, [(82, .aload_n 0, 1, .aload 0), (83, .getfield 26, 3, .getfield 1102), (86, .getfield 116, 3, .getfield 203), (89, .ireturn, 1, .ireturn)])]
def ct_T_text : List (Nat × List Nat) := [(61, [0, 2])]
def bl_T_worth : List (Nat × List am_I) := [(0, [(0, .aload_n 0, 1, .aload 0), (1, .getfield 26, 3, .getfield 1102), (4, .iload_n 1, 1, .iload 1), (5, .invokevirtual 119, 3, .invokeinterface 7 3021), (8, .ifCond .eq (15), 3, .ifCond .eq 23), (11, .aload_n 0, 1, .aload 0), (12, .getfield 26, 3, .getfield 1102), (15, .getfield 130, 3, .getfield 201), (18, .iload_n 1, 1, .iload 1), (19, .iaload, 1, .iaload), (20, .goto (4), 3, .goto 24)]),
  (23, [(23, .iconst (-1), 1, .iconst (-1)), (24, .nop, 0, .goto_w 24)]),
  (24, [(24, .ireturn, 1, .ireturn)])]
def ct_T_worth : List (Nat × List Nat) := []
def bl_T_add : List (Nat × List am_I) := [(0, [(0, .aload_n 0, 1, .aload 0), (1, .getfield 26, 3, .getfield 1102), (4, .getfield 116, 3, .getfield 203), (7, .bipush (48), 2, .iconst (48)), (9, .if_icmp .ge (14), 3, .if_icmp .ge 23), (12, .aload_n 0, 1, .aload 0), (13, .getfield 26, 3, .getfield 1102), (16, .iload_n 3, 1, .iload 3), (17, .invokevirtual 134, 3, .invokeinterface 13 3021), (20, .ifCond .ne (5), 3, .ifCond .ne 25), (23, .nop, 0, .goto_w 23)]),
  (23, [(23, .iconst (-1), 1, .iconst (-1)), (24, .ireturn, 1, .ireturn)]),
  (25, [(25, .aload_n 0, 1, .aload 0), (26, .getfield 26, 3, .getfield 1102), (29, .lload_n 1, 1, .lload 1), (30, .invokevirtual 137, 3, .invokeinterface 8 3021), (33, .iconst (-1), 1, .iconst (-1)), (34, .if_icmp .eq (6), 3, .if_icmp .eq 40), (37, .bipush (-2), 2, .iconst (-2)), (39, .ireturn, 1, .ireturn)]),
  (40, [(40, .aload_n 0, 1, .aload 0), (41, .getfield 36, 3, .getfield 1104), (44, .iconst (0), 1, .iconst (0)), (45, .aload_n 0, 1, .aload 0), (46, .getfield 26, 3, .getfield 1102), (49, .getfield 116, 3, .getfield 203), (52, .lload_n 1, 1, .lload 1), (53, .iload_n 3, 1, .iload 3), (54, .invokevirtual 141, 3, .invokeinterface 1 1050), (57, .aload_n 0, 1, .aload 0), (58, .getfield 26, 3, .getfield 1102), (61, .aload_n 0, 1, .aload 0), (62, .getfield 26, 3, .getfield 1102), (65, .getfield 116, 3, .getfield 203), (68, .lload_n 1, 1, .lload 1), (69, .iload_n 3, 1, .iload 3), (70, .invokevirtual 145, 3, .invokeinterface 9 3040), (73, .aload_n 0, 1, .aload 0), (74, .getfield 26, 3, .getfield 1102), (77, .getfield 116, 3, .getfield 203), (80, .ireturn, 1, .ireturn)])]
def ct_T_add : List (Nat × List Nat) := []
def bl_T_gone : List (Nat × List am_I) := [(0, [(0, .aload_n 0, 1, .aload 0), (1, .getfield 26, 3, .getfield 1102), (4, .lload_n 1, 1, .lload 1), (5, .invokevirtual 137, 3, .invokeinterface 8 3021), (8, .istore_n 3, 1, .istore 3), (9, .iload_n 3, 1, .iload 3), (10, .iconst (-1), 1, .iconst (-1)), (11, .if_icmp .ne (5), 3, .if_icmp .ne 16), (14, .iconst (-1), 1, .iconst (-1)), (15, .ireturn, 1, .ireturn)]),
  (16, [(16, .aload_n 0, 1, .aload 0), (17, .getfield 36, 3, .getfield 1104), (20, .iconst (1), 1, .iconst (1)), (21, .iload_n 3, 1, .iload 3), (22, .lload_n 1, 1, .lload 1), (23, .aload_n 0, 1, .aload 0), (24, .getfield 26, 3, .getfield 1102), (27, .getfield 130, 3, .getfield 201), (30, .iload_n 3, 1, .iload 3), (31, .iaload, 1, .iaload), (32, .invokevirtual 141, 3, .invokeinterface 1 1050), (35, .aload_n 0, 1, .aload 0), (36, .getfield 26, 3, .getfield 1102), (39, .iload_n 3, 1, .iload 3), (40, .invokevirtual 149, 3, .invokeinterface 10 3020), (43, .iload_n 3, 1, .iload 3), (44, .ireturn, 1, .ireturn)])]
def ct_T_gone : List (Nat × List Nat) := []
def bl_T_turn : List (Nat × List am_I) := [(0, [(0, .aload_n 0, 1, .aload 0), (1, .getfield 26, 3, .getfield 1102), (4, .iload_n 1, 1, .iload 1), (5, .invokevirtual 119, 3, .invokeinterface 7 3021), (8, .ifCond .eq (14), 3, .ifCond .eq 22), (11, .aload_n 0, 1, .aload 0), (12, .getfield 26, 3, .getfield 1102), (15, .iload_n 2, 1, .iload 2), (16, .invokevirtual 134, 3, .invokeinterface 13 3021), (19, .ifCond .ne (5), 3, .ifCond .ne 24), (22, .nop, 0, .goto_w 22)]),
  (22, [(22, .iconst (-1), 1, .iconst (-1)), (23, .ireturn, 1, .ireturn)]),
  (24, [(24, .aload_n 0, 1, .aload 0), (25, .getfield 26, 3, .getfield 1102), (28, .getfield 130, 3, .getfield 201), (31, .iload_n 1, 1, .iload 1), (32, .iaload, 1, .iaload), (33, .istore_n 3, 1, .istore 3), (34, .aload_n 0, 1, .aload 0), (35, .getfield 36, 3, .getfield 1104), (38, .iconst (2), 1, .iconst (2)), (39, .iload_n 1, 1, .iload 1), (40, .aload_n 0, 1, .aload 0), (41, .getfield 26, 3, .getfield 1102), (44, .getfield 126, 3, .getfield 200), (47, .iload_n 1, 1, .iload 1), (48, .laload, 1, .laload), (49, .iload_n 3, 1, .iload 3), (50, .invokevirtual 141, 3, .invokeinterface 1 1050), (53, .aload_n 0, 1, .aload 0), (54, .getfield 26, 3, .getfield 1102), (57, .iload_n 1, 1, .iload 1), (58, .iload_n 2, 1, .iload 2), (59, .invokevirtual 152, 3, .invokeinterface 11 3030), (62, .iload_n 3, 1, .iload 3), (63, .ireturn, 1, .ireturn)])]
def ct_T_turn : List (Nat × List Nat) := []
def bl_T_set : List (Nat × List am_I) := [(0, [(0, .iload_n 1, 1, .iload 1), (1, .iload_n 2, 1, .iload 2), (2, .invokestatic 156, 3, .invokeinterface 15 21), (5, .ifCond .eq (19), 3, .ifCond .eq 24), (8, .iload_n 1, 1, .iload 1), (9, .iconst (3), 1, .iconst (3)), (10, .if_icmp .ne (16), 3, .if_icmp .ne 26), (13, .aload_n 0, 1, .aload 0), (14, .getfield 26, 3, .getfield 1102), (17, .iload_n 2, 1, .iload 2), (18, .invokevirtual 160, 3, .invokeinterface 14 3021), (21, .ifCond .ne (5), 3, .ifCond .ne 26), (24, .nop, 0, .goto_w 24)]),
  (24, [(24, .iconst (-1), 1, .iconst (-1)), (25, .ireturn, 1, .ireturn)]),
  (26, [(26, .aload_n 0, 1, .aload 0), (27, .getfield 26, 3, .getfield 1102), (30, .getfield 163, 3, .getfield 202), (33, .iload_n 1, 1, .iload 1), (34, .iaload, 1, .iaload), (35, .istore_n 3, 1, .istore 3), (36, .aload_n 0, 1, .aload 0), (37, .getfield 36, 3, .getfield 1104), (40, .iconst (3), 1, .iconst (3)), (41, .iload_n 1, 1, .iload 1), (42, .lconst 0, 1, .ldc2_w 0), (43, .iload_n 3, 1, .iload 3), (44, .invokevirtual 141, 3, .invokeinterface 1 1050), (47, .aload_n 0, 1, .aload 0), (48, .getfield 26, 3, .getfield 1102), (51, .iload_n 1, 1, .iload 1), (52, .iload_n 2, 1, .iload 2), (53, .invokevirtual 166, 3, .invokeinterface 12 3030), (56, .iload_n 3, 1, .iload 3), (57, .ireturn, 1, .ireturn)])]
def ct_T_set : List (Nat × List Nat) := []
def bl_T_hash : List (Nat × List am_I) := [(0, [(0, .lload_n 1, 1, .lload 1), (1, .iload_n 3, 1, .iload 3), (2, .i2l, 1, .i2l), (3, .invokestatic 169, 3, .invokeinterface 16 12), (6, .ladd, 1, .ladd), (7, .invokestatic 169, 3, .invokeinterface 16 12), (10, .lreturn, 1, .lreturn)])]
def ct_T_hash : List (Nat × List Nat) := []
def bl_T_cell : List (Nat × List am_I) := [(0, [(0, .iload_n 3, 1, .iload 3), (1, .ifCond .lt (8), 3, .ifCond .lt 9), (4, .iload_n 3, 1, .iload 3), (5, .iconst (2), 1, .iconst (2)), (6, .if_icmp .le (5), 3, .if_icmp .le 11), (9, .nop, 0, .goto_w 9)]),
  (9, [(9, .iconst (-1), 1, .iconst (-1)), (10, .ireturn, 1, .ireturn)]),
  (11, [(11, .aload_n 0, 1, .aload 0), (12, .lload_n 1, 1, .lload 1), (13, .invokevirtual 173, 3, .invokeinterface 107 12020), (16, .aload_n 0, 1, .aload 0), (17, .getfield 43, 3, .getfield 1105), (20, .getfield 177, 3, .getfield 300), (23, .iload_n 3, 1, .iload 3), (24, .iaload, 1, .iaload), (25, .ireturn, 1, .ireturn)])]
def ct_T_cell : List (Nat × List Nat) := []
def bl_T_print : List (Nat × List am_I) := [(0, [(0, .aload_n 0, 1, .aload 0), (1, .lload_n 1, 1, .lload 1), (2, .invokevirtual 173, 3, .invokeinterface 107 12020), (5, .aload_n 0, 1, .aload 0), (6, .getfield 43, 3, .getfield 1105), (9, .getfield 180, 3, .getfield 303), (12, .ireturn, 1, .ireturn)])]
def ct_T_print : List (Nat × List Nat) := []
def bl_T_load : List (Nat × List am_I) := [(0, [(0, .iload_n 1, 1, .iload 1), (1, .ifCond .lt (18), 3, .ifCond .lt 19), (4, .iload_n 1, 1, .iload 1), (5, .iconst (3), 1, .iconst (3)), (6, .aload_n 0, 1, .aload 0), (7, .getfield 26, 3, .getfield 1102), (10, .getfield 163, 3, .getfield 202), (13, .iconst (1), 1, .iconst (1)), (14, .iaload, 1, .iaload), (15, .imul, 1, .imul), (16, .if_icmp .lt (5), 3, .if_icmp .lt 21), (19, .nop, 0, .goto_w 19)]),
  (19, [(19, .iconst (-1), 1, .iconst (-1)), (20, .ireturn, 1, .ireturn)]),
  (21, [(21, .aload_n 0, 1, .aload 0), (22, .invokevirtual 183, 3, .invokeinterface 108 12010), (25, .aload_n 0, 1, .aload 0), (26, .getfield 50, 3, .getfield 1106), (29, .getfield 186, 3, .getfield 804), (32, .iload_n 1, 1, .iload 1), (33, .iaload, 1, .iaload), (34, .ireturn, 1, .ireturn)])]
def ct_T_load : List (Nat × List Nat) := []
def bl_T_twins : List (Nat × List am_I) := [(0, [(0, .aload_n 0, 1, .aload 0), (1, .invokevirtual 183, 3, .invokeinterface 108 12010), (4, .iconst (0), 1, .iconst (0)), (5, .istore_n 1, 1, .istore 1), (6, .iconst (1), 1, .iconst (1)), (7, .istore_n 2, 1, .istore 2), (8, .nop, 0, .goto_w 8)]),
  (8, [(8, .iload_n 2, 1, .iload 2), (9, .aload_n 0, 1, .aload 0), (10, .getfield 50, 3, .getfield 1106), (13, .getfield 189, 3, .getfield 806), (16, .if_icmp .ge (37), 3, .if_icmp .ge 53), (19, .iconst (0), 1, .iconst (0)), (20, .istore_n 3, 1, .istore 3), (21, .nop, 0, .goto_w 21)]),
  (21, [(21, .iload_n 3, 1, .iload 3), (22, .iload_n 2, 1, .iload 2), (23, .if_icmp .ge (24), 3, .if_icmp .ge 47), (26, .aload_n 0, 1, .aload 0), (27, .getfield 50, 3, .getfield 1106), (30, .iload_n 3, 1, .iload 3), (31, .iload_n 2, 1, .iload 2), (32, .invokevirtual 192, 3, .invokeinterface 58 9031), (35, .ifCond .eq (6), 3, .ifCond .eq 41), (38, .iinc 1 (1), 3, .iinc 1 (1)), (41, .nop, 0, .goto_w 41)]),
  (41, [(41, .iinc 3 (1), 3, .iinc 3 (1)), (44, .goto (-23), 3, .goto 21)]),
  (47, [(47, .iinc 2 (1), 3, .iinc 2 (1)), (50, .goto (-42), 3, .goto 8)]),
  (53, [(53, .iload_n 1, 1, .iload 1), (54, .ireturn, 1, .ireturn)])]
def ct_T_twins : List (Nat × List Nat) := [(8, [0, 1, 2]), (21, [0, 1, 2, 3])]
def bl_T_peel : List (Nat × List am_I) := [(0, [(0, .aload_n 0, 1, .aload 0), (1, .invokevirtual 195, 3, .invokeinterface 109 12010), (4, .iload_n 1, 1, .iload 1), (5, .iconst (-1), 1, .iconst (-1)), (6, .if_icmp .ne (15), 3, .if_icmp .ne 21), (9, .iload_n 2, 1, .iload 2), (10, .ifCond .ne (11), 3, .ifCond .ne 21), (13, .aload_n 0, 1, .aload 0), (14, .getfield 57, 3, .getfield 1107), (17, .getfield 198, 3, .getfield 502), (20, .ireturn, 1, .ireturn)]),
  (21, [(21, .iload_n 1, 1, .iload 1), (22, .ifCond .lt (23), 3, .ifCond .lt 45), (25, .iload_n 1, 1, .iload 1), (26, .aload_n 0, 1, .aload 0), (27, .getfield 57, 3, .getfield 1107), (30, .getfield 198, 3, .getfield 502), (33, .if_icmp .ge (12), 3, .if_icmp .ge 45), (36, .iload_n 2, 1, .iload 2), (37, .ifCond .lt (8), 3, .ifCond .lt 45), (40, .iload_n 2, 1, .iload 2), (41, .iconst (1), 1, .iconst (1)), (42, .if_icmp .le (5), 3, .if_icmp .le 47), (45, .nop, 0, .goto_w 45)]),
  (45, [(45, .iconst (-1), 1, .iconst (-1)), (46, .ireturn, 1, .ireturn)]),
  (47, [(47, .iload_n 2, 1, .iload 2), (48, .ifCond .ne (15), 3, .ifCond .ne 63), (51, .aload_n 0, 1, .aload 0), (52, .getfield 57, 3, .getfield 1107), (55, .getfield 201, 3, .getfield 500), (58, .iload_n 1, 1, .iload 1), (59, .iaload, 1, .iaload), (60, .goto (12), 3, .goto 72)]),
  (63, [(63, .aload_n 0, 1, .aload 0), (64, .getfield 57, 3, .getfield 1107), (67, .getfield 204, 3, .getfield 501), (70, .iload_n 1, 1, .iload 1), (71, .iaload, 1, .iaload), (72, .nop, 0, .goto_w 72)]),
  (72, [(72, .ireturn, 1, .ireturn)])]
def ct_T_peel : List (Nat × List Nat) := []
def bl_T_core : List (Nat × List am_I) := [(0, [(0, .aload_n 0, 1, .aload 0), (1, .invokevirtual 195, 3, .invokeinterface 109 12010), (4, .iload_n 1, 1, .iload 1), (5, .iconst (-1), 1, .iconst (-1)), (6, .if_icmp .ne (13), 3, .if_icmp .ne 19), (9, .aload_n 0, 1, .aload 0), (10, .getfield 50, 3, .getfield 1106), (13, .getfield 207, 3, .getfield 807), (16, .goto (11), 3, .goto 27)]),
  (19, [(19, .aload_n 0, 1, .aload 0), (20, .getfield 50, 3, .getfield 1106), (23, .iload_n 1, 1, .iload 1), (24, .invokevirtual 210, 3, .invokeinterface 57 9021), (27, .nop, 0, .goto_w 27)]),
  (27, [(27, .ireturn, 1, .ireturn)])]
def ct_T_core : List (Nat × List Nat) := []
def bl_T_level : List (Nat × List am_I) := [(0, [(0, .iload_n 1, 1, .iload 1), (1, .iconst (-1), 1, .iconst (-1)), (2, .if_icmp .eq (16), 3, .if_icmp .eq 18), (5, .aload_n 0, 1, .aload 0), (6, .getfield 26, 3, .getfield 1102), (9, .iload_n 1, 1, .iload 1), (10, .invokevirtual 119, 3, .invokeinterface 7 3021), (13, .ifCond .ne (5), 3, .ifCond .ne 18), (16, .iconst (-1), 1, .iconst (-1)), (17, .ireturn, 1, .ireturn)]),
  (18, [(18, .aload_n 0, 1, .aload 0), (19, .invokevirtual 183, 3, .invokeinterface 108 12010), (22, .aload_n 0, 1, .aload 0), (23, .getfield 64, 3, .getfield 1108), (26, .aload_n 0, 1, .aload 0), (27, .getfield 50, 3, .getfield 1106), (30, .invokevirtual 214, 3, .invokeinterface 49 8021), (33, .istore_n 2, 1, .istore 2), (34, .iload_n 1, 1, .iload 1), (35, .iconst (-1), 1, .iconst (-1)), (36, .if_icmp .ne (5), 3, .if_icmp .ne 41), (39, .iload_n 2, 1, .iload 2), (40, .ireturn, 1, .ireturn)]),
  (41, [(41, .aload_n 0, 1, .aload 0), (42, .getfield 64, 3, .getfield 1108), (45, .getfield 218, 3, .getfield 700), (48, .iload_n 1, 1, .iload 1), (49, .iaload, 1, .iaload), (50, .ifCond .ne (8), 3, .ifCond .ne 58), (53, .bipush (-2), 2, .iconst (-2)), (55, .goto (12), 3, .goto 67)]),
  (58, [(58, .aload_n 0, 1, .aload 0), (59, .getfield 64, 3, .getfield 1108), (62, .getfield 218, 3, .getfield 700), (65, .iload_n 1, 1, .iload 1), (66, .iaload, 1, .iaload), (67, .nop, 0, .goto_w 67)]),
  (67, [(67, .ireturn, 1, .ireturn)])]
def ct_T_level : List (Nat × List Nat) := []
def bl_T_rank : List (Nat × List am_I) := [(0, [(0, .aload_n 0, 1, .aload 0), (1, .invokevirtual 183, 3, .invokeinterface 108 12010), (4, .aload_n 0, 1, .aload 0), (5, .getfield 71, 3, .getfield 1109), (8, .aload_n 0, 1, .aload 0), (9, .getfield 50, 3, .getfield 1106), (12, .invokevirtual 221, 3, .invokeinterface 3 2021), (15, .ireturn, 1, .ireturn)])]
def ct_T_rank : List (Nat × List Nat) := []
def bl_T_mend : List (Nat × List am_I) := [(0, [(0, .aload_n 0, 1, .aload 0), (1, .getfield 78, 3, .getfield 1110), (4, .getfield 224, 3, .getfield 402), (7, .aload_n 0, 1, .aload 0), (8, .getfield 26, 3, .getfield 1102), (11, .getfield 227, 3, .getfield 204), (14, .if_icmp .eq (32), 3, .if_icmp .eq 46), (17, .aload_n 0, 1, .aload 0), (18, .invokevirtual 195, 3, .invokeinterface 109 12010), (21, .aload_n 0, 1, .aload 0), (22, .getfield 78, 3, .getfield 1110), (25, .aload_n 0, 1, .aload 0), (26, .getfield 50, 3, .getfield 1106), (29, .invokevirtual 228, 3, .invokeinterface 26 5020), (32, .aload_n 0, 1, .aload 0), (33, .getfield 78, 3, .getfield 1110), (36, .aload_n 0, 1, .aload 0), (37, .getfield 26, 3, .getfield 1102), (40, .getfield 227, 3, .getfield 204), (43, .putfield 224, 3, .putfield 402), (46, .nop, 0, .goto_w 46)]),
  (46, [(46, .iload_n 1, 1, .iload 1), (47, .iconst (-1), 1, .iconst (-1)), (48, .if_icmp .ne (11), 3, .if_icmp .ne 59), (51, .aload_n 0, 1, .aload 0), (52, .getfield 78, 3, .getfield 1110), (55, .getfield 232, 3, .getfield 401), (58, .ireturn, 1, .ireturn)]),
  (59, [(59, .iload_n 1, 1, .iload 1), (60, .ifCond .lt (14), 3, .ifCond .lt 74), (63, .iload_n 1, 1, .iload 1), (64, .aload_n 0, 1, .aload 0), (65, .getfield 78, 3, .getfield 1110), (68, .getfield 232, 3, .getfield 401), (71, .if_icmp .lt (8), 3, .if_icmp .lt 79), (74, .nop, 0, .goto_w 74)]),
  (74, [(74, .bipush (-2), 2, .iconst (-2)), (76, .goto (12), 3, .goto 88)]),
  (79, [(79, .aload_n 0, 1, .aload 0), (80, .getfield 78, 3, .getfield 1110), (83, .getfield 235, 3, .getfield 400), (86, .iload_n 1, 1, .iload 1), (87, .iaload, 1, .iaload), (88, .nop, 0, .goto_w 88)]),
  (88, [(88, .ireturn, 1, .ireturn)])]
def ct_T_mend : List (Nat × List Nat) := []
def bl_T_tight : List (Nat × List am_I) := [(0, [(0, .iconst (1), 1, .iconst (1)), (1, .istore_n 1, 1, .istore 1), (2, .nop, 0, .goto_w 2)]),
  (2, [(2, .iload_n 1, 1, .iload 1), (3, .bipush (32), 2, .iconst (32)), (5, .if_icmp .gt (28), 3, .if_icmp .gt 33), (8, .aload_n 0, 1, .aload 0), (9, .aload_n 0, 1, .aload 0), (10, .getfield 26, 3, .getfield 1102), (13, .getfield 163, 3, .getfield 202), (16, .iconst (4), 1, .iconst (4)), (17, .iaload, 1, .iaload), (18, .iload_n 1, 1, .iload 1), (19, .invokevirtual 238, 3, .invokeinterface 110 12031), (22, .ifCond .eq (5), 3, .ifCond .eq 27), (25, .iload_n 1, 1, .iload 1), (26, .ireturn, 1, .ireturn)]),
  (27, [(27, .iinc 1 (1), 3, .iinc 1 (1)), (30, .goto (-28), 3, .goto 2)]),
  (33, [(33, .bipush (-2), 2, .iconst (-2)), (35, .ireturn, 1, .ireturn)])]
def ct_T_tight : List (Nat × List Nat) := [(2, [0, 1])]
def bl_T_peels : List (Nat × List am_I) := [(0, [(0, .iload_n 1, 1, .iload 1), (1, .iconst (1), 1, .iconst (1)), (2, .if_icmp .lt (10), 3, .if_icmp .lt 12), (5, .iload_n 1, 1, .iload 1), (6, .sipush (200), 3, .iconst (200)), (9, .if_icmp .le (5), 3, .if_icmp .le 14), (12, .nop, 0, .goto_w 12)]),
  (12, [(12, .iconst (-1), 1, .iconst (-1)), (13, .ireturn, 1, .ireturn)]),
  (14, [(14, .iconst (0), 1, .iconst (0)), (15, .istore_n 2, 1, .istore 2), (16, .iconst (0), 1, .iconst (0)), (17, .istore_n 3, 1, .istore 3), (18, .nop, 0, .goto_w 18)]),
  (18, [(18, .iload_n 3, 1, .iload 3), (19, .iload_n 1, 1, .iload 1), (20, .if_icmp .ge (39), 3, .if_icmp .ge 59), (23, .aload_n 0, 1, .aload 0), (24, .aload_n 0, 1, .aload 0), (25, .getfield 26, 3, .getfield 1102), (28, .getfield 163, 3, .getfield 202), (31, .iconst (4), 1, .iconst (4)), (32, .iaload, 1, .iaload), (33, .iload_n 3, 1, .iload 3), (34, .iadd, 1, .iadd), (35, .aload_n 0, 1, .aload 0), (36, .getfield 26, 3, .getfield 1102), (39, .getfield 163, 3, .getfield 202), (42, .iconst (1), 1, .iconst (1)), (43, .iaload, 1, .iaload), (44, .invokevirtual 238, 3, .invokeinterface 110 12031), (47, .ifCond .eq (6), 3, .ifCond .eq 53), (50, .iinc 2 (1), 3, .iinc 2 (1)), (53, .nop, 0, .goto_w 53)]),
  (53, [(53, .iinc 3 (1), 3, .iinc 3 (1)), (56, .goto (-38), 3, .goto 18)]),
  (59, [(59, .iload_n 2, 1, .iload 2), (60, .ireturn, 1, .ireturn)])]
def ct_T_peels : List (Nat × List Nat) := [(18, [0, 1, 2, 3])]
def bl_T_wake : List (Nat × List am_I) := [(0, [(0, .aload_n 0, 1, .aload 0), (1, .getfield 26, 3, .getfield 1102), (4, .iload_n 1, 1, .iload 1), (5, .invokevirtual 119, 3, .invokeinterface 7 3021), (8, .ifCond .eq (14), 3, .ifCond .eq 22), (11, .aload_n 0, 1, .aload 0), (12, .getfield 26, 3, .getfield 1102), (15, .iload_n 2, 1, .iload 2), (16, .invokevirtual 134, 3, .invokeinterface 13 3021), (19, .ifCond .ne (5), 3, .ifCond .ne 24), (22, .nop, 0, .goto_w 22)]),
  (22, [(22, .iconst (-1), 1, .iconst (-1)), (23, .ireturn, 1, .ireturn)]),
  (24, [(24, .aload_n 0, 1, .aload 0), (25, .invokevirtual 195, 3, .invokeinterface 109 12010), (28, .aload_n 0, 1, .aload 0), (29, .getfield 50, 3, .getfield 1106), (32, .getfield 207, 3, .getfield 807), (35, .ifCond .eq (6), 3, .ifCond .eq 41), (38, .bipush (-2), 2, .iconst (-2)), (40, .ireturn, 1, .ireturn)]),
  (41, [(41, .aload_n 0, 1, .aload 0), (42, .getfield 26, 3, .getfield 1102), (45, .getfield 130, 3, .getfield 201), (48, .iload_n 1, 1, .iload 1), (49, .iaload, 1, .iaload), (50, .iload_n 2, 1, .iload 2), (51, .if_icmp .ne (7), 3, .if_icmp .ne 58), (54, .iconst (0), 1, .iconst (0)), (55, .goto (15), 3, .goto 70)]),
  (58, [(58, .aload_n 0, 1, .aload 0), (59, .getfield 57, 3, .getfield 1107), (62, .aload_n 0, 1, .aload 0), (63, .getfield 50, 3, .getfield 1106), (66, .iload_n 1, 1, .iload 1), (67, .invokevirtual 241, 3, .invokeinterface 38 6031), (70, .nop, 0, .goto_w 70)]),
  (70, [(70, .ireturn, 1, .ireturn)])]
def ct_T_wake : List (Nat × List Nat) := []
def bl_T_build : List (Nat × List am_I) := [(0, [(0, .iload_n 1, 1, .iload 1), (1, .iconst (1), 1, .iconst (1)), (2, .if_icmp .lt (9), 3, .if_icmp .lt 11), (5, .iload_n 1, 1, .iload 1), (6, .bipush (99), 2, .iconst (99)), (8, .if_icmp .le (5), 3, .if_icmp .le 13), (11, .nop, 0, .goto_w 11)]),
  (11, [(11, .iconst (-1), 1, .iconst (-1)), (12, .ireturn, 1, .ireturn)]),
  (13, [(13, .iconst (0), 1, .iconst (0)), (14, .istore_n 2, 1, .istore 2), (15, .nop, 0, .goto_w 15)]),
  (15, [(15, .iload_n 2, 1, .iload 2), (16, .iload_n 1, 1, .iload 1), (17, .if_icmp .ge (107), 3, .if_icmp .ge 124), (20, .aload_n 0, 1, .aload 0), (21, .getfield 26, 3, .getfield 1102), (24, .getfield 163, 3, .getfield 202), (27, .iconst (4), 1, .iconst (4)), (28, .iaload, 1, .iaload), (29, .iload_n 2, 1, .iload 2), (30, .iadd, 1, .iadd), (31, .istore_n 3, 1, .istore 3), (32, .aload_n 0, 1, .aload 0), (33, .iload_n 3, 1, .iload 3), (34, .aload_n 0, 1, .aload 0), (35, .getfield 26, 3, .getfield 1102), (38, .getfield 163, 3, .getfield 202), (41, .iconst (1), 1, .iconst (1)), (42, .iaload, 1, .iaload), (43, .invokevirtual 238, 3, .invokeinterface 110 12031), (46, .ifCond .eq (72), 3, .ifCond .eq 118), (49, .aload_n 0, 1, .aload 0), (50, .getfield 85, 3, .getfield 1111), (53, .aload_n 0, 1, .aload 0), (54, .getfield 26, 3, .getfield 1102), (57, .iload_n 3, 1, .iload 3), (58, .iload_n 2, 1, .iload 2), (59, .iconst (1), 1, .iconst (1)), (60, .iadd, 1, .iadd), (61, .invokevirtual 245, 3, .invokeinterface 59 10040), (64, .aload_n 0, 1, .aload 0), (65, .getfield 57, 3, .getfield 1107), (68, .aload_n 0, 1, .aload 0), (69, .getfield 50, 3, .getfield 1106), (72, .aload_n 0, 1, .aload 0), (73, .getfield 50, 3, .getfield 1106), (76, .getfield 249, 3, .getfield 802), (79, .aload_n 0, 1, .aload 0), (80, .getfield 85, 3, .getfield 1111), (83, .getfield 252, 3, .getfield 901), (86, .invokevirtual 253, 3, .invokeinterface 37 6040), (89, .aload_n 0, 1, .aload 0), (90, .getfield 57, 3, .getfield 1107), (93, .aload_n 0, 1, .aload 0), (94, .getfield 50, 3, .getfield 1106), (97, .aload_n 0, 1, .aload 0), (98, .getfield 26, 3, .getfield 1102), (101, .getfield 130, 3, .getfield 201), (104, .aload_n 0, 1, .aload 0), (105, .getfield 85, 3, .getfield 1111), (108, .getfield 257, 3, .getfield 902), (111, .invokevirtual 253, 3, .invokeinterface 37 6040), (114, .iload_n 2, 1, .iload 2), (115, .iconst (1), 1, .iconst (1)), (116, .iadd, 1, .iadd), (117, .ireturn, 1, .ireturn)]),
  (118, [(118, .iinc 2 (1), 3, .iinc 2 (1)), (121, .goto (-106), 3, .goto 15)]),
  (124, [(124, .bipush (-2), 2, .iconst (-2)), (126, .ireturn, 1, .ireturn)])]
def ct_T_build : List (Nat × List Nat) := [(15, [0, 1, 2])]
def bl_T_built : List (Nat × List am_I) := [(0, [(0, .aload_n 0, 1, .aload 0), (1, .getfield 85, 3, .getfield 1111), (4, .getfield 112, 3, .getfield 903), (7, .ifCond .eq (13), 3, .ifCond .eq 20), (10, .iload_n 1, 1, .iload 1), (11, .ifCond .lt (9), 3, .ifCond .lt 20), (14, .iload_n 1, 1, .iload 1), (15, .bipush (7), 2, .iconst (7)), (17, .if_icmp .le (5), 3, .if_icmp .le 22), (20, .nop, 0, .goto_w 20)]),
  (20, [(20, .iconst (-1), 1, .iconst (-1)), (21, .ireturn, 1, .ireturn)]),
  (22, [(22, .iload_n 1, 1, .iload 1), (23, .bipush (7), 2, .iconst (7)), (25, .if_icmp .ne (13), 3, .if_icmp .ne 38), (28, .aload_n 0, 1, .aload 0), (29, .getfield 85, 3, .getfield 1111), (32, .invokevirtual 258, 3, .invokeinterface 62 10011), (35, .goto (12), 3, .goto 47)]),
  (38, [(38, .aload_n 0, 1, .aload 0), (39, .getfield 85, 3, .getfield 1111), (42, .getfield 262, 3, .getfield 900), (45, .iload_n 1, 1, .iload 1), (46, .iaload, 1, .iaload), (47, .nop, 0, .goto_w 47)]),
  (47, [(47, .ireturn, 1, .ireturn)])]
def ct_T_built : List (Nat × List Nat) := []
def bl_T_filled : List (Nat × List am_I) := [(0, [(0, .aload_n 0, 1, .aload 0), (1, .getfield 85, 3, .getfield 1111), (4, .getfield 112, 3, .getfield 903), (7, .ifCond .eq (18), 3, .ifCond .eq 25), (10, .iload_n 1, 1, .iload 1), (11, .ifCond .lt (14), 3, .ifCond .lt 25), (14, .iload_n 1, 1, .iload 1), (15, .aload_n 0, 1, .aload 0), (16, .getfield 85, 3, .getfield 1111), (19, .invokevirtual 265, 3, .invokeinterface 61 10011), (22, .if_icmp .lt (5), 3, .if_icmp .lt 27), (25, .nop, 0, .goto_w 25)]),
  (25, [(25, .iconst (-1), 1, .iconst (-1)), (26, .ireturn, 1, .ireturn)]),
  (27, [(27, .iload_n 2, 1, .iload 2), (28, .ifCond .eq (15), 3, .ifCond .eq 43), (31, .aload_n 0, 1, .aload 0), (32, .getfield 85, 3, .getfield 1111), (35, .getfield 257, 3, .getfield 902), (38, .iload_n 1, 1, .iload 1), (39, .iaload, 1, .iaload), (40, .goto (12), 3, .goto 52)]),
  (43, [(43, .aload_n 0, 1, .aload 0), (44, .getfield 85, 3, .getfield 1111), (47, .getfield 252, 3, .getfield 901), (50, .iload_n 1, 1, .iload 1), (51, .iaload, 1, .iaload), (52, .nop, 0, .goto_w 52)]),
  (52, [(52, .ireturn, 1, .ireturn)])]
def ct_T_filled : List (Nat × List Nat) := []
def bl_T_passes : List (Nat × List am_I) := [(0, [(0, .aload_n 0, 1, .aload 0), (1, .getfield 85, 3, .getfield 1111), (4, .getfield 112, 3, .getfield 903), (7, .ifCond .ne (5), 3, .ifCond .ne 12), (10, .iconst (0), 1, .iconst (0)), (11, .ireturn, 1, .ireturn)]),
  (12, [(12, .aload_n 0, 1, .aload 0), (13, .getfield 85, 3, .getfield 1111), (16, .aload_n 0, 1, .aload 0), (17, .getfield 43, 3, .getfield 1105), (20, .invokevirtual 267, 3, .invokeinterface 63 10020), (23, .aload_n 0, 1, .aload 0), (24, .getfield 43, 3, .getfield 1105), (27, .lload_n 1, 1, .lload 1), (28, .invokevirtual 271, 3, .invokeinterface 18 4020), (31, .aload_n 0, 1, .aload 0), (32, .getfield 85, 3, .getfield 1111), (35, .aload_n 0, 1, .aload 0), (36, .getfield 43, 3, .getfield 1105), (39, .invokevirtual 274, 3, .invokeinterface 64 10021), (42, .ireturn, 1, .ireturn)])]
def ct_T_passes : List (Nat × List Nat) := []
def bl_T_told : List (Nat × List am_I) := [(0, [(0, .aload_n 0, 1, .aload 0), (1, .getfield 85, 3, .getfield 1111), (4, .getfield 112, 3, .getfield 903), (7, .ifCond .ne (5), 3, .ifCond .ne 12), (10, .iconst (-1), 1, .iconst (-1)), (11, .ireturn, 1, .ireturn)]),
  (12, [(12, .aload_n 0, 1, .aload 0), (13, .getfield 85, 3, .getfield 1111), (16, .aload_n 0, 1, .aload 0), (17, .getfield 43, 3, .getfield 1105), (20, .invokevirtual 267, 3, .invokeinterface 63 10020), (23, .aload_n 0, 1, .aload 0), (24, .getfield 43, 3, .getfield 1105), (27, .lload_n 1, 1, .lload 1), (28, .invokevirtual 271, 3, .invokeinterface 18 4020), (31, .aload_n 0, 1, .aload 0), (32, .getfield 43, 3, .getfield 1105), (35, .aload_n 0, 1, .aload 0), (36, .getfield 85, 3, .getfield 1111), (39, .getfield 257, 3, .getfield 902), (42, .invokevirtual 278, 3, .invokeinterface 25 4021), (45, .ireturn, 1, .ireturn)])]
def ct_T_told : List (Nat × List Nat) := []
def bl_T_right : List (Nat × List am_I) := [(0, [(0, .aload_n 0, 1, .aload 0), (1, .getfield 85, 3, .getfield 1111), (4, .getfield 112, 3, .getfield 903), (7, .ifCond .ne (5), 3, .ifCond .ne 12), (10, .iconst (-1), 1, .iconst (-1)), (11, .ireturn, 1, .ireturn)]),
  (12, [(12, .aload_n 0, 1, .aload 0), (13, .getfield 85, 3, .getfield 1111), (16, .aload_n 0, 1, .aload 0), (17, .getfield 43, 3, .getfield 1105), (20, .invokevirtual 267, 3, .invokeinterface 63 10020), (23, .iconst (0), 1, .iconst (0)), (24, .istore_n 1, 1, .istore 1), (25, .iconst (0), 1, .iconst (0)), (26, .istore_n 2, 1, .istore 2), (27, .nop, 0, .goto_w 27)]),
  (27, [(27, .iload_n 2, 1, .iload 2), (28, .aload_n 0, 1, .aload 0), (29, .getfield 26, 3, .getfield 1102), (32, .getfield 116, 3, .getfield 203), (35, .if_icmp .ge (68), 3, .if_icmp .ge 103), (38, .aload_n 0, 1, .aload 0), (39, .getfield 43, 3, .getfield 1105), (42, .aload_n 0, 1, .aload 0), (43, .getfield 26, 3, .getfield 1102), (46, .getfield 126, 3, .getfield 200), (49, .iload_n 2, 1, .iload 2), (50, .laload, 1, .laload), (51, .invokevirtual 271, 3, .invokeinterface 18 4020), (54, .aload_n 0, 1, .aload 0), (55, .getfield 85, 3, .getfield 1111), (58, .aload_n 0, 1, .aload 0), (59, .getfield 43, 3, .getfield 1105), (62, .invokevirtual 274, 3, .invokeinterface 64 10021), (65, .ifCond .eq (32), 3, .ifCond .eq 97), (68, .aload_n 0, 1, .aload 0), (69, .getfield 43, 3, .getfield 1105), (72, .aload_n 0, 1, .aload 0), (73, .getfield 85, 3, .getfield 1111), (76, .getfield 257, 3, .getfield 902), (79, .invokevirtual 278, 3, .invokeinterface 25 4021), (82, .aload_n 0, 1, .aload 0), (83, .getfield 26, 3, .getfield 1102), (86, .getfield 130, 3, .getfield 201), (89, .iload_n 2, 1, .iload 2), (90, .iaload, 1, .iaload), (91, .if_icmp .ne (6), 3, .if_icmp .ne 97), (94, .iinc 1 (1), 3, .iinc 1 (1)), (97, .nop, 0, .goto_w 97)]),
  (97, [(97, .iinc 2 (1), 3, .iinc 2 (1)), (100, .goto (-73), 3, .goto 27)]),
  (103, [(103, .iload_n 1, 1, .iload 1), (104, .ireturn, 1, .ireturn)])]
def ct_T_right : List (Nat × List Nat) := [(27, [0, 1, 2])]
def bl_T_strangers : List (Nat × List am_I) := [(0, [(0, .aload_n 0, 1, .aload 0), (1, .getfield 85, 3, .getfield 1111), (4, .getfield 112, 3, .getfield 903), (7, .ifCond .eq (15), 3, .ifCond .eq 22), (10, .iload_n 3, 1, .iload 3), (11, .iconst (1), 1, .iconst (1)), (12, .if_icmp .lt (10), 3, .if_icmp .lt 22), (15, .iload_n 3, 1, .iload 3), (16, .sipush (1000), 3, .iconst (1000)), (19, .if_icmp .le (5), 3, .if_icmp .le 24), (22, .nop, 0, .goto_w 22)]),
  (22, [(22, .iconst (-1), 1, .iconst (-1)), (23, .ireturn, 1, .ireturn)]),
  (24, [(24, .aload_n 0, 1, .aload 0), (25, .getfield 85, 3, .getfield 1111), (28, .aload_n 0, 1, .aload 0), (29, .getfield 43, 3, .getfield 1105), (32, .invokevirtual 267, 3, .invokeinterface 63 10020), (35, .iconst (0), 1, .iconst (0)), (36, .istore 5, 2, .istore 5), (38, .iconst (0), 1, .iconst (0)), (39, .istore 6, 2, .istore 6), (41, .nop, 0, .goto_w 41)]),
  (41, [(41, .iload 6, 2, .iload 6), (43, .iload_n 3, 1, .iload 3), (44, .if_icmp .ge (64), 3, .if_icmp .ge 108), (47, .aload_n 0, 1, .aload 0), (48, .getfield 43, 3, .getfield 1105), (51, .lload_n 1, 1, .lload 1), (52, .iload 6, 2, .iload 6), (54, .i2l, 1, .i2l), (55, .ladd, 1, .ladd), (56, .invokevirtual 271, 3, .invokeinterface 18 4020), (59, .aload_n 0, 1, .aload 0), (60, .getfield 85, 3, .getfield 1111), (63, .aload_n 0, 1, .aload 0), (64, .getfield 43, 3, .getfield 1105), (67, .invokevirtual 274, 3, .invokeinterface 64 10021), (70, .ifCond .eq (32), 3, .ifCond .eq 102), (73, .aload_n 0, 1, .aload 0), (74, .getfield 26, 3, .getfield 1102), (77, .lload_n 1, 1, .lload 1), (78, .iload 6, 2, .iload 6), (80, .i2l, 1, .i2l), (81, .ladd, 1, .ladd), (82, .invokevirtual 137, 3, .invokeinterface 8 3021), (85, .iconst (-1), 1, .iconst (-1)), (86, .if_icmp .ne (16), 3, .if_icmp .ne 102), (89, .iload 5, 2, .iload 5), (91, .iload 4, 2, .iload 4), (93, .if_icmp .ne (6), 3, .if_icmp .ne 99), (96, .iload 6, 2, .iload 6), (98, .ireturn, 1, .ireturn)]),
  (99, [(99, .iinc 5 (1), 3, .iinc 5 (1)), (102, .nop, 0, .goto_w 102)]),
  (102, [(102, .iinc 6 (1), 3, .iinc 6 (1)), (105, .goto (-64), 3, .goto 41)]),
  (108, [(108, .iload 4, 2, .iload 4), (110, .iconst (-1), 1, .iconst (-1)), (111, .if_icmp .ne (8), 3, .if_icmp .ne 119), (114, .iload 5, 2, .iload 5), (116, .goto (5), 3, .goto 121)]),
  (119, [(119, .bipush (-2), 2, .iconst (-2)), (121, .nop, 0, .goto_w 121)]),
  (121, [(121, .ireturn, 1, .ireturn)])]
def ct_T_strangers : List (Nat × List Nat) := [(41, [0, 1, 3, 4, 5, 6])]
def bl_T_shelf : List (Nat × List am_I) := [(0, [(0, .iload_n 1, 1, .iload 1), (1, .ifCond .lt (8), 3, .ifCond .lt 9), (4, .iload_n 1, 1, .iload 1), (5, .iconst (2), 1, .iconst (2)), (6, .if_icmp .lt (5), 3, .if_icmp .lt 11), (9, .nop, 0, .goto_w 9)]),
  (9, [(9, .iconst (0), 1, .iconst (0)), (10, .ireturn, 1, .ireturn)]),
  (11, [(11, .iload_n 2, 1, .iload 2), (12, .ifCond .eq (12), 3, .ifCond .eq 24), (15, .aload_n 0, 1, .aload 0), (16, .getfield 89, 3, .getfield 1112), (19, .iload_n 1, 1, .iload 1), (20, .aaload, 1, .aaload), (21, .goto (7), 3, .goto 28)]),
  (24, [(24, .aload_n 0, 1, .aload 0), (25, .getfield 85, 3, .getfield 1111), (28, .nop, 0, .goto_w 28)]),
  (28, [(28, .astore_n 3, 1, .astore 3), (29, .iload_n 2, 1, .iload 2), (30, .ifCond .eq (10), 3, .ifCond .eq 40), (33, .aload_n 0, 1, .aload 0), (34, .getfield 85, 3, .getfield 1111), (37, .goto (9), 3, .goto 46)]),
  (40, [(40, .aload_n 0, 1, .aload 0), (41, .getfield 89, 3, .getfield 1112), (44, .iload_n 1, 1, .iload 1), (45, .aaload, 1, .aaload), (46, .nop, 0, .goto_w 46)]),
  (46, [(46, .astore 4, 2, .astore 4), (48, .aload_n 3, 1, .aload 3), (49, .getfield 112, 3, .getfield 903), (52, .ifCond .ne (5), 3, .ifCond .ne 57), (55, .iconst (0), 1, .iconst (0)), (56, .ireturn, 1, .ireturn)]),
  (57, [(57, .aload 4, 2, .aload 4), (59, .aload_n 3, 1, .aload 3), (60, .invokevirtual 282, 3, .invokeinterface 60 10020), (63, .iconst (1), 1, .iconst (1)), (64, .ireturn, 1, .ireturn)])]
def ct_T_shelf : List (Nat × List Nat) := []
def bl_T_unlike : List (Nat × List am_I) := [(0, [(0, .iload_n 1, 1, .iload 1), (1, .ifCond .lt (30), 3, .ifCond .lt 31), (4, .iload_n 1, 1, .iload 1), (5, .iconst (2), 1, .iconst (2)), (6, .if_icmp .ge (25), 3, .if_icmp .ge 31), (9, .aload_n 0, 1, .aload 0), (10, .getfield 85, 3, .getfield 1111), (13, .getfield 112, 3, .getfield 903), (16, .ifCond .eq (15), 3, .ifCond .eq 31), (19, .aload_n 0, 1, .aload 0), (20, .getfield 89, 3, .getfield 1112), (23, .iload_n 1, 1, .iload 1), (24, .aaload, 1, .aaload), (25, .getfield 112, 3, .getfield 903), (28, .ifCond .ne (5), 3, .ifCond .ne 33), (31, .nop, 0, .goto_w 31)]),
  (31, [(31, .iconst (-1), 1, .iconst (-1)), (32, .ireturn, 1, .ireturn)]),
  (33, [(33, .aload_n 0, 1, .aload 0), (34, .getfield 85, 3, .getfield 1111), (37, .invokevirtual 265, 3, .invokeinterface 61 10011), (40, .aload_n 0, 1, .aload 0), (41, .getfield 89, 3, .getfield 1112), (44, .iload_n 1, 1, .iload 1), (45, .aaload, 1, .aaload), (46, .invokevirtual 265, 3, .invokeinterface 61 10011), (49, .if_icmp .ne (19), 3, .if_icmp .ne 68), (52, .aload_n 0, 1, .aload 0), (53, .getfield 85, 3, .getfield 1111), (56, .aload_n 0, 1, .aload 0), (57, .getfield 89, 3, .getfield 1112), (60, .iload_n 1, 1, .iload 1), (61, .aaload, 1, .aaload), (62, .invokevirtual 285, 3, .invokeinterface 65 10021), (65, .goto (5), 3, .goto 70)]),
  (68, [(68, .bipush (-2), 2, .iconst (-2)), (70, .nop, 0, .goto_w 70)]),
  (70, [(70, .ireturn, 1, .ireturn)])]
def ct_T_unlike : List (Nat × List Nat) := []
def bl_T_undo : List (Nat × List am_I) := [(0, [(0, .aload_n 0, 1, .aload 0), (1, .getfield 36, 3, .getfield 1104), (4, .getfield 289, 3, .getfield 5), (7, .ifCond .ne (5), 3, .ifCond .ne 12), (10, .iconst (-1), 1, .iconst (-1)), (11, .ireturn, 1, .ireturn)]),
  (12, [(12, .aload_n 0, 1, .aload 0), (13, .getfield 36, 3, .getfield 1104), (16, .aload_n 0, 1, .aload 0), (17, .getfield 26, 3, .getfield 1102), (20, .invokevirtual 290, 3, .invokeinterface 2 1020), (23, .aload_n 0, 1, .aload 0), (24, .getfield 36, 3, .getfield 1104), (27, .getfield 289, 3, .getfield 5), (30, .ireturn, 1, .ireturn)])]
def ct_T_undo : List (Nat × List Nat) := []
def bl_T_count : List (Nat × List am_I) := [(0, [(0, .iload_n 1, 1, .iload 1), (1, .iconst (1), 1, .iconst (1)), (2, .if_icmp .lt (19), 3, .if_icmp .lt 21), (5, .iload_n 1, 1, .iload 1), (6, .bipush (6), 2, .iconst (6)), (8, .if_icmp .gt (13), 3, .if_icmp .gt 21), (11, .aload_n 0, 1, .aload 0), (12, .getfield 26, 3, .getfield 1102), (15, .getfield 163, 3, .getfield 202), (18, .iload_n 1, 1, .iload 1), (19, .iaload, 1, .iaload), (20, .ireturn, 1, .ireturn)]),
  (21, [(21, .iload_n 1, 1, .iload 1), (22, .tableswitch (118) (0) (10) #[58, 118, 118, 118, 118, 118, 118, 66, 74, 82, 102], 58, .lookupswitch 140 #[(0, 80), (7, 88), (8, 96), (9, 104), (10, 124)])]),
  (80, [(80, .aload_n 0, 1, .aload 0), (81, .getfield 26, 3, .getfield 1102), (84, .getfield 116, 3, .getfield 203), (87, .ireturn, 1, .ireturn)]),
  (88, [(88, .aload_n 0, 1, .aload 0), (89, .getfield 36, 3, .getfield 1104), (92, .getfield 289, 3, .getfield 5), (95, .ireturn, 1, .ireturn)]),
  (96, [(96, .aload_n 0, 1, .aload 0), (97, .getfield 12, 3, .getfield 1100), (100, .getfield 93, 3, .getfield 1001), (103, .ireturn, 1, .ireturn)]),
  (104, [(104, .aload_n 0, 1, .aload 0), (105, .invokevirtual 183, 3, .invokeinterface 108 12010), (108, .aload_n 0, 1, .aload 0), (109, .getfield 50, 3, .getfield 1106), (112, .getfield 293, 3, .getfield 808), (115, .aload_n 0, 1, .aload 0), (116, .getfield 50, 3, .getfield 1106), (119, .invokevirtual 296, 3, .invokeinterface 56 9011), (122, .isub, 1, .isub), (123, .ireturn, 1, .ireturn)]),
  (124, [(124, .aload_n 0, 1, .aload 0), (125, .getfield 85, 3, .getfield 1111), (128, .getfield 112, 3, .getfield 903), (131, .ifCond .eq (7), 3, .ifCond .eq 138), (134, .iconst (1), 1, .iconst (1)), (135, .goto (4), 3, .goto 139)]),
  (138, [(138, .iconst (0), 1, .iconst (0)), (139, .nop, 0, .goto_w 139)]),
  (139, [(139, .ireturn, 1, .ireturn)]),
  (140, [(140, .iconst (-1), 1, .iconst (-1)), (141, .ireturn, 1, .ireturn)])]
def ct_T_count : List (Nat × List Nat) := []
def bl_T_lookNow : List (Nat × List am_I) := [(0, [(0, .aload_n 0, 1, .aload 0), (1, .getfield 43, 3, .getfield 1105), (4, .aload_n 0, 1, .aload 0), (5, .getfield 26, 3, .getfield 1102), (8, .getfield 163, 3, .getfield 202), (11, .iconst (4), 1, .iconst (4)), (12, .iaload, 1, .iaload), (13, .aload_n 0, 1, .aload 0), (14, .getfield 26, 3, .getfield 1102), (17, .getfield 163, 3, .getfield 202), (20, .iconst (1), 1, .iconst (1)), (21, .iaload, 1, .iaload), (22, .aload_n 0, 1, .aload 0), (23, .getfield 26, 3, .getfield 1102), (26, .getfield 163, 3, .getfield 202), (29, .iconst (2), 1, .iconst (2)), (30, .iaload, 1, .iaload), (31, .aload_n 0, 1, .aload 0), (32, .getfield 26, 3, .getfield 1102), (35, .getfield 163, 3, .getfield 202), (38, .bipush (6), 2, .iconst (6)), (40, .iaload, 1, .iaload), (41, .invokevirtual 299, 3, .invokeinterface 17 4050), (44, .aload_n 0, 1, .aload 0), (45, .getfield 43, 3, .getfield 1105), (48, .lload_n 1, 1, .lload 1), (49, .invokevirtual 271, 3, .invokeinterface 18 4020), (52, .return_, 1, .return_)])]
def ct_T_lookNow : List (Nat × List Nat) := []
def bl_T_layNow : List (Nat × List am_I) := [(0, [(0, .aload_n 0, 1, .aload 0), (1, .getfield 50, 3, .getfield 1106), (4, .aload_n 0, 1, .aload 0), (5, .getfield 26, 3, .getfield 1102), (8, .aload_n 0, 1, .aload 0), (9, .getfield 43, 3, .getfield 1105), (12, .aload_n 0, 1, .aload 0), (13, .getfield 26, 3, .getfield 1102), (16, .getfield 163, 3, .getfield 202), (19, .iconst (4), 1, .iconst (4)), (20, .iaload, 1, .iaload), (21, .aload_n 0, 1, .aload 0), (22, .getfield 26, 3, .getfield 1102), (25, .getfield 163, 3, .getfield 202), (28, .iconst (1), 1, .iconst (1)), (29, .iaload, 1, .iaload), (30, .invokevirtual 302, 3, .invokeinterface 52 9050), (33, .return_, 1, .return_)])]
def ct_T_layNow : List (Nat × List Nat) := []
def bl_T_peelNow : List (Nat × List am_I) := [(0, [(0, .aload_n 0, 1, .aload 0), (1, .invokevirtual 183, 3, .invokeinterface 108 12010), (4, .aload_n 0, 1, .aload 0), (5, .getfield 57, 3, .getfield 1107), (8, .aload_n 0, 1, .aload 0), (9, .getfield 50, 3, .getfield 1106), (12, .aload_n 0, 1, .aload 0), (13, .getfield 26, 3, .getfield 1102), (16, .getfield 163, 3, .getfield 202), (19, .iconst (5), 1, .iconst (5)), (20, .iaload, 1, .iaload), (21, .invokevirtual 306, 3, .invokeinterface 31 6030), (24, .return_, 1, .return_)])]
def ct_T_peelNow : List (Nat × List Nat) := []
def bl_T_allPeel : List (Nat × List am_I) := [(0, [(0, .aload_n 0, 1, .aload 0), (1, .getfield 50, 3, .getfield 1106), (4, .aload_n 0, 1, .aload 0), (5, .getfield 26, 3, .getfield 1102), (8, .aload_n 0, 1, .aload 0), (9, .getfield 43, 3, .getfield 1105), (12, .iload_n 1, 1, .iload 1), (13, .iload_n 2, 1, .iload 2), (14, .invokevirtual 302, 3, .invokeinterface 52 9050), (17, .aload_n 0, 1, .aload 0), (18, .getfield 57, 3, .getfield 1107), (21, .aload_n 0, 1, .aload 0), (22, .getfield 50, 3, .getfield 1106), (25, .aload_n 0, 1, .aload 0), (26, .getfield 26, 3, .getfield 1102), (29, .getfield 163, 3, .getfield 202), (32, .iconst (5), 1, .iconst (5)), (33, .iaload, 1, .iaload), (34, .invokevirtual 306, 3, .invokeinterface 31 6030), (37, .aload_n 0, 1, .aload 0), (38, .getfield 50, 3, .getfield 1106), (41, .getfield 207, 3, .getfield 807), (44, .ifCond .ne (7), 3, .ifCond .ne 51), (47, .iconst (1), 1, .iconst (1)), (48, .goto (4), 3, .goto 52)]),
  (51, [(51, .iconst (0), 1, .iconst (0)), (52, .nop, 0, .goto_w 52)]),
  (52, [(52, .ireturn, 1, .ireturn)])]
def ct_T_allPeel : List (Nat × List Nat) := []
def bl_M_thrown : List (Nat × List am_I) := [(0, [(0, .aload_n 0, 1, .aload 0), (1, .getfield 1, 3, .getfield 1200), (4, .ireturn, 1, .ireturn)])]
def ct_M_thrown : List (Nat × List Nat) := []
def bl_M_refuse : List (Nat × List am_I) := [(0, [(0, .aload_n 0, 1, .aload 0), (1, .iconst (1), 1, .iconst (1)), (2, .putfield 1, 3, .putfield 1200), (5, .lconst 0, 1, .ldc2_w 0), (6, .lreturn, 1, .lreturn)])]
def ct_M_refuse : List (Nat × List Nat) := []
def bl_M_isIn : List (Nat × List am_I) := [(0, [(0, .iload_n 0, 1, .iload 0), (1, .iload_n 1, 1, .iload 1), (2, .if_icmp .lt (12), 3, .if_icmp .lt 14), (5, .iload_n 0, 1, .iload 0), (6, .iload_n 2, 1, .iload 2), (7, .if_icmp .gt (7), 3, .if_icmp .gt 14), (10, .iconst (1), 1, .iconst (1)), (11, .goto (4), 3, .goto 15)]),
  (14, [(14, .iconst (0), 1, .iconst (0)), (15, .nop, 0, .goto_w 15)]),
  (15, [(15, .ireturn, 1, .ireturn)])]
def ct_M_isIn : List (Nat × List Nat) := []
def bl_M_lays : List (Nat × List am_I) := [(0, [(0, .bipush (24), 2, .iconst (24)), (2, .istore_n 2, 1, .istore 2), (3, .nop, 0, .goto_w 3)]),
  (3, [(3, .iload_n 2, 1, .iload 2), (4, .ifCond .lt (35), 3, .ifCond .lt 39), (7, .aload_n 0, 1, .aload 0), (8, .getfield 7, 3, .getfield 1201), (11, .aload_n 0, 1, .aload 0), (12, .getfield 11, 3, .getfield 1202), (15, .iload_n 1, 1, .iload 1), (16, .iload_n 2, 1, .iload 2), (17, .iushr, 1, .iushr), (18, .sipush (255), 3, .iconst (255)), (21, .iand, 1, .iand), (22, .iastore, 1, .iastore), (23, .aload_n 0, 1, .aload 0), (24, .dup, 1, .dup), (25, .getfield 11, 3, .getfield 1202), (28, .iconst (1), 1, .iconst (1)), (29, .iadd, 1, .iadd), (30, .putfield 11, 3, .putfield 1202), (33, .iinc 2 (-8), 3, .iinc 2 (-8)), (36, .goto (-33), 3, .goto 3)]),
  (39, [(39, .return_, 1, .return_)])]
def ct_M_lays : List (Nat × List Nat) := [(3, [0, 1, 2])]
def bl_M_feed : List (Nat × List am_I) := [(0, [(0, .aload_n 0, 1, .aload 0), (1, .iconst (0), 1, .iconst (0)), (2, .putfield 1, 3, .putfield 1200), (5, .aload_n 0, 1, .aload 0), (6, .getfield 11, 3, .getfield 1202), (9, .bipush (20), 2, .iconst (20)), (11, .iadd, 1, .iadd), (12, .sipush (600), 3, .iconst (600)), (15, .if_icmp .le (5), 3, .if_icmp .le 20), (18, .iconst (-1), 1, .iconst (-1)), (19, .ireturn, 1, .ireturn)]),
  (20, [(20, .aload_n 0, 1, .aload 0), (21, .iload_n 1, 1, .iload 1), (22, .invokevirtual 14, 3, .invokeinterface 114 13020), (25, .aload_n 0, 1, .aload 0), (26, .iload_n 2, 1, .iload 2), (27, .invokevirtual 14, 3, .invokeinterface 114 13020), (30, .aload_n 0, 1, .aload 0), (31, .iload_n 3, 1, .iload 3), (32, .invokevirtual 14, 3, .invokeinterface 114 13020), (35, .aload_n 0, 1, .aload 0), (36, .iload 4, 2, .iload 4), (38, .invokevirtual 14, 3, .invokeinterface 114 13020), (41, .aload_n 0, 1, .aload 0), (42, .iload 5, 2, .iload 5), (44, .invokevirtual 14, 3, .invokeinterface 114 13020), (47, .aload_n 0, 1, .aload 0), (48, .getfield 11, 3, .getfield 1202), (51, .ireturn, 1, .ireturn)])]
def ct_M_feed : List (Nat × List Nat) := []
def bl_M_end : List (Nat × List am_I) := [(0, [(0, .aload_n 0, 1, .aload 0), (1, .iconst (0), 1, .iconst (0)), (2, .putfield 1, 3, .putfield 1200), (5, .iload_n 1, 1, .iload 1), (6, .ifCond .lt (11), 3, .ifCond .lt 17), (9, .iload_n 1, 1, .iload 1), (10, .aload_n 0, 1, .aload 0), (11, .getfield 11, 3, .getfield 1202), (14, .if_icmp .le (5), 3, .if_icmp .le 19), (17, .nop, 0, .goto_w 17)]),
  (17, [(17, .iconst (0), 1, .iconst (0)), (18, .ireturn, 1, .ireturn)]),
  (19, [(19, .aload_n 0, 1, .aload 0), (20, .iload_n 1, 1, .iload 1), (21, .putfield 11, 3, .putfield 1202), (24, .iconst (1), 1, .iconst (1)), (25, .ireturn, 1, .ireturn)])]
def ct_M_end : List (Nat × List Nat) := []
def bl_M_tapeAt : List (Nat × List am_I) := [(0, [(0, .iload_n 1, 1, .iload 1), (1, .aload_n 0, 1, .aload 0), (2, .getfield 18, 3, .getfield 1203), (5, .if_icmp .ge (12), 3, .if_icmp .ge 17), (8, .aload_n 0, 1, .aload 0), (9, .getfield 7, 3, .getfield 1201), (12, .iload_n 1, 1, .iload 1), (13, .iaload, 1, .iaload), (14, .goto (4), 3, .goto 18)]),
  (17, [(17, .iconst (0), 1, .iconst (0)), (18, .nop, 0, .goto_w 18)]),
  (18, [(18, .ireturn, 1, .ireturn)])]
def ct_M_tapeAt : List (Nat × List Nat) := []
def bl_M_isDigit : List (Nat × List am_I) := [(0, [(0, .iload_n 0, 1, .iload 0), (1, .bipush (48), 2, .iconst (48)), (3, .if_icmp .lt (13), 3, .if_icmp .lt 16), (6, .iload_n 0, 1, .iload 0), (7, .bipush (57), 2, .iconst (57)), (9, .if_icmp .gt (7), 3, .if_icmp .gt 16), (12, .iconst (1), 1, .iconst (1)), (13, .goto (4), 3, .goto 17)]),
  (16, [(16, .iconst (0), 1, .iconst (0)), (17, .nop, 0, .goto_w 17)]),
  (17, [(17, .ireturn, 1, .ireturn)])]
def ct_M_isDigit : List (Nat × List Nat) := []
def bl_M_isLetter : List (Nat × List am_I) := [(0, [(0, .iload_n 0, 1, .iload 0), (1, .bipush (97), 2, .iconst (97)), (3, .if_icmp .lt (13), 3, .if_icmp .lt 16), (6, .iload_n 0, 1, .iload 0), (7, .bipush (122), 2, .iconst (122)), (9, .if_icmp .gt (7), 3, .if_icmp .gt 16), (12, .iconst (1), 1, .iconst (1)), (13, .goto (4), 3, .goto 17)]),
  (16, [(16, .iconst (0), 1, .iconst (0)), (17, .nop, 0, .goto_w 17)]),
  (17, [(17, .ireturn, 1, .ireturn)])]
def ct_M_isLetter : List (Nat × List Nat) := []
def bl_M_go : List (Nat × List am_I) := [(0, [(0, .aload_n 0, 1, .aload 0), (1, .getfield 21, 3, .getfield 1204), (4, .aload_n 0, 1, .aload 0), (5, .getfield 18, 3, .getfield 1203), (8, .if_icmp .ge (44), 3, .if_icmp .ge 52), (11, .aload_n 0, 1, .aload 0), (12, .getfield 7, 3, .getfield 1201), (15, .aload_n 0, 1, .aload 0), (16, .getfield 21, 3, .getfield 1204), (19, .iaload, 1, .iaload), (20, .bipush (32), 2, .iconst (32)), (22, .if_icmp .eq (17), 3, .if_icmp .eq 39), (25, .aload_n 0, 1, .aload 0), (26, .getfield 7, 3, .getfield 1201), (29, .aload_n 0, 1, .aload 0), (30, .getfield 21, 3, .getfield 1204), (33, .iaload, 1, .iaload), (34, .bipush (10), 2, .iconst (10)), (36, .if_icmp .ne (16), 3, .if_icmp .ne 52), (39, .nop, 0, .goto_w 39)]),
  (39, [(39, .aload_n 0, 1, .aload 0), (40, .dup, 1, .dup), (41, .getfield 21, 3, .getfield 1204), (44, .iconst (1), 1, .iconst (1)), (45, .iadd, 1, .iadd), (46, .putfield 21, 3, .putfield 1204), (49, .goto (-49), 3, .goto 0)]),
  (52, [(52, .aload_n 0, 1, .aload 0), (53, .aload_n 0, 1, .aload 0), (54, .getfield 21, 3, .getfield 1204), (57, .putfield 24, 3, .putfield 1205), (60, .aload_n 0, 1, .aload 0), (61, .getfield 21, 3, .getfield 1204), (64, .aload_n 0, 1, .aload 0), (65, .getfield 18, 3, .getfield 1203), (68, .if_icmp .lt (9), 3, .if_icmp .lt 77), (71, .aload_n 0, 1, .aload 0), (72, .iconst (0), 1, .iconst (0)), (73, .putfield 27, 3, .putfield 1206), (76, .return_, 1, .return_)]),
  (77, [(77, .aload_n 0, 1, .aload 0), (78, .getfield 7, 3, .getfield 1201), (81, .aload_n 0, 1, .aload 0), (82, .getfield 21, 3, .getfield 1204), (85, .iaload, 1, .iaload), (86, .istore_n 1, 1, .istore 1), (87, .aload_n 0, 1, .aload 0), (88, .lconst 0, 1, .ldc2_w 0), (89, .putfield 30, 3, .putfield 1210), (92, .aload_n 0, 1, .aload 0), (93, .iconst (0), 1, .iconst (0)), (94, .putfield 34, 3, .putfield 1207), (97, .iload_n 1, 1, .iload 1), (98, .invokestatic 37, 3, .invokeinterface 119 11), (101, .ifCond .eq (97), 3, .ifCond .eq 198), (104, .nop, 0, .goto_w 104)]),
  (104, [(104, .aload_n 0, 1, .aload 0), (105, .aload_n 0, 1, .aload 0), (106, .getfield 21, 3, .getfield 1204), (109, .invokevirtual 41, 3, .invokeinterface 117 13021), (112, .invokestatic 37, 3, .invokeinterface 119 11), (115, .ifCond .eq (57), 3, .ifCond .eq 172), (118, .aload_n 0, 1, .aload 0), (119, .getfield 21, 3, .getfield 1204), (122, .aload_n 0, 1, .aload 0), (123, .getfield 24, 3, .getfield 1205), (126, .isub, 1, .isub), (127, .bipush (6), 2, .iconst (6)), (129, .if_icmp .ge (30), 3, .if_icmp .ge 159), (132, .aload_n 0, 1, .aload 0), (133, .ldc2_w 45, 3, .ldc2_w 27), (136, .aload_n 0, 1, .aload 0), (137, .getfield 30, 3, .getfield 1210), (140, .lmul, 1, .lmul), (141, .aload_n 0, 1, .aload 0), (142, .getfield 7, 3, .getfield 1201), (145, .aload_n 0, 1, .aload 0), (146, .getfield 21, 3, .getfield 1204), (149, .iaload, 1, .iaload), (150, .i2l, 1, .i2l), (151, .ladd, 1, .ladd), (152, .ldc2_w 47, 3, .ldc2_w 96), (155, .lsub, 1, .lsub), (156, .putfield 30, 3, .putfield 1210), (159, .nop, 0, .goto_w 159)]),
  (159, [(159, .aload_n 0, 1, .aload 0), (160, .dup, 1, .dup), (161, .getfield 21, 3, .getfield 1204), (164, .iconst (1), 1, .iconst (1)), (165, .iadd, 1, .iadd), (166, .putfield 21, 3, .putfield 1204), (169, .goto (-65), 3, .goto 104)]),
  (172, [(172, .aload_n 0, 1, .aload 0), (173, .aload_n 0, 1, .aload 0), (174, .getfield 21, 3, .getfield 1204), (177, .aload_n 0, 1, .aload 0), (178, .getfield 24, 3, .getfield 1205), (181, .isub, 1, .isub), (182, .bipush (6), 2, .iconst (6)), (184, .if_icmp .le (7), 3, .if_icmp .le 191), (187, .iconst (1), 1, .iconst (1)), (188, .goto (4), 3, .goto 192)]),
  (191, [(191, .iconst (2), 1, .iconst (2)), (192, .nop, 0, .goto_w 192)]),
  (192, [(192, .putfield 27, 3, .putfield 1206), (195, .goto (126), 3, .goto 321)]),
  (198, [(198, .iload_n 1, 1, .iload 1), (199, .invokestatic 49, 3, .invokeinterface 118 11), (202, .ifCond .eq (94), 3, .ifCond .eq 296), (205, .nop, 0, .goto_w 205)]),
  (205, [(205, .aload_n 0, 1, .aload 0), (206, .aload_n 0, 1, .aload 0), (207, .getfield 21, 3, .getfield 1204), (210, .invokevirtual 41, 3, .invokeinterface 117 13021), (213, .invokestatic 49, 3, .invokeinterface 118 11), (216, .ifCond .eq (54), 3, .ifCond .eq 270), (219, .aload_n 0, 1, .aload 0), (220, .getfield 21, 3, .getfield 1204), (223, .aload_n 0, 1, .aload 0), (224, .getfield 24, 3, .getfield 1205), (227, .isub, 1, .isub), (228, .bipush (9), 2, .iconst (9)), (230, .if_icmp .ge (27), 3, .if_icmp .ge 257), (233, .aload_n 0, 1, .aload 0), (234, .bipush (10), 2, .iconst (10)), (236, .aload_n 0, 1, .aload 0), (237, .getfield 34, 3, .getfield 1207), (240, .imul, 1, .imul), (241, .aload_n 0, 1, .aload 0), (242, .getfield 7, 3, .getfield 1201), (245, .aload_n 0, 1, .aload 0), (246, .getfield 21, 3, .getfield 1204), (249, .iaload, 1, .iaload), (250, .iadd, 1, .iadd), (251, .bipush (48), 2, .iconst (48)), (253, .isub, 1, .isub), (254, .putfield 34, 3, .putfield 1207), (257, .nop, 0, .goto_w 257)]),
  (257, [(257, .aload_n 0, 1, .aload 0), (258, .dup, 1, .dup), (259, .getfield 21, 3, .getfield 1204), (262, .iconst (1), 1, .iconst (1)), (263, .iadd, 1, .iadd), (264, .putfield 21, 3, .putfield 1204), (267, .goto (-62), 3, .goto 205)]),
  (270, [(270, .aload_n 0, 1, .aload 0), (271, .aload_n 0, 1, .aload 0), (272, .getfield 21, 3, .getfield 1204), (275, .aload_n 0, 1, .aload 0), (276, .getfield 24, 3, .getfield 1205), (279, .isub, 1, .isub), (280, .bipush (9), 2, .iconst (9)), (282, .if_icmp .le (7), 3, .if_icmp .le 289), (285, .iconst (1), 1, .iconst (1)), (286, .goto (4), 3, .goto 290)]),
  (289, [(289, .iconst (3), 1, .iconst (3)), (290, .nop, 0, .goto_w 290)]),
  (290, [(290, .putfield 27, 3, .putfield 1206), (293, .goto (28), 3, .goto 321)]),
  (296, [(296, .aload_n 0, 1, .aload 0), (297, .dup, 1, .dup), (298, .getfield 21, 3, .getfield 1204), (301, .iconst (1), 1, .iconst (1)), (302, .iadd, 1, .iadd), (303, .putfield 21, 3, .putfield 1204), (306, .aload_n 0, 1, .aload 0), (307, .iload_n 1, 1, .iload 1), (308, .bipush (59), 2, .iconst (59)), (310, .if_icmp .ne (7), 3, .if_icmp .ne 317), (313, .iconst (4), 1, .iconst (4)), (314, .goto (4), 3, .goto 318)]),
  (317, [(317, .iconst (1), 1, .iconst (1)), (318, .nop, 0, .goto_w 318)]),
  (318, [(318, .putfield 27, 3, .putfield 1206), (321, .nop, 0, .goto_w 321)]),
  (321, [(321, .return_, 1, .return_)])]
def ct_M_go : List (Nat × List Nat) := [(0, [0]), (104, [0]), (205, [0])]
def bl_M_three : List (Nat × List am_I) := [(0, [(0, .ldc2_w 45, 3, .ldc2_w 27), (3, .ldc2_w 45, 3, .ldc2_w 27), (6, .iload_n 0, 1, .iload 0), (7, .i2l, 1, .i2l), (8, .ldc2_w 47, 3, .ldc2_w 96), (11, .lsub, 1, .lsub), (12, .lmul, 1, .lmul), (13, .iload_n 1, 1, .iload 1), (14, .i2l, 1, .i2l), (15, .ladd, 1, .ladd), (16, .ldc2_w 47, 3, .ldc2_w 96), (19, .lsub, 1, .lsub), (20, .lmul, 1, .lmul), (21, .iload_n 2, 1, .iload 2), (22, .i2l, 1, .i2l), (23, .ladd, 1, .ladd), (24, .ldc2_w 47, 3, .ldc2_w 96), (27, .lsub, 1, .lsub), (28, .lreturn, 1, .lreturn)])]
def ct_M_three : List (Nat × List Nat) := []
def bl_M_five : List (Nat × List am_I) := [(0, [(0, .ldc2_w 52, 3, .ldc2_w 729), (3, .iload_n 0, 1, .iload 0), (4, .iload_n 1, 1, .iload 1), (5, .iload_n 2, 1, .iload 2), (6, .invokestatic 54, 3, .invokeinterface 121 32), (9, .lmul, 1, .lmul), (10, .ldc2_w 45, 3, .ldc2_w 27), (13, .iload_n 3, 1, .iload 3), (14, .i2l, 1, .i2l), (15, .ldc2_w 47, 3, .ldc2_w 96), (18, .lsub, 1, .lsub), (19, .lmul, 1, .lmul), (20, .ladd, 1, .ladd), (21, .iload 4, 2, .iload 4), (23, .i2l, 1, .i2l), (24, .ladd, 1, .ladd), (25, .ldc2_w 47, 3, .ldc2_w 96), (28, .lsub, 1, .lsub), (29, .lreturn, 1, .lreturn)])]
def ct_M_five : List (Nat × List Nat) := []
def bl_M_six : List (Nat × List am_I) := [(0, [(0, .ldc2_w 45, 3, .ldc2_w 27), (3, .iload_n 0, 1, .iload 0), (4, .iload_n 1, 1, .iload 1), (5, .iload_n 2, 1, .iload 2), (6, .iload_n 3, 1, .iload 3), (7, .iload 4, 2, .iload 4), (9, .invokestatic 58, 3, .invokeinterface 122 52), (12, .lmul, 1, .lmul), (13, .iload 5, 2, .iload 5), (15, .i2l, 1, .i2l), (16, .ladd, 1, .ladd), (17, .ldc2_w 47, 3, .ldc2_w 96), (20, .lsub, 1, .lsub), (21, .lreturn, 1, .lreturn)])]
def ct_M_six : List (Nat × List Nat) := []
def bl_M_isWord : List (Nat × List am_I) := [(0, [(0, .aload_n 0, 1, .aload 0), (1, .getfield 27, 3, .getfield 1206), (4, .iconst (2), 1, .iconst (2)), (5, .if_icmp .ne (16), 3, .if_icmp .ne 21), (8, .aload_n 0, 1, .aload 0), (9, .getfield 30, 3, .getfield 1210), (12, .lload_n 1, 1, .lload 1), (13, .lcmp, 1, .lcmp), (14, .ifCond .ne (7), 3, .ifCond .ne 21), (17, .iconst (1), 1, .iconst (1)), (18, .goto (4), 3, .goto 22)]),
  (21, [(21, .iconst (0), 1, .iconst (0)), (22, .nop, 0, .goto_w 22)]),
  (22, [(22, .ireturn, 1, .ireturn)])]
def ct_M_isWord : List (Nat × List Nat) := []
def bl_M_bad : List (Nat × List am_I) := [(0, [(0, .aload_n 0, 1, .aload 0), (1, .aload_n 0, 1, .aload 0), (2, .getfield 27, 3, .getfield 1206), (5, .iconst (1), 1, .iconst (1)), (6, .if_icmp .ne (7), 3, .if_icmp .ne 13), (9, .iconst (1), 1, .iconst (1)), (10, .goto (4), 3, .goto 14)]),
  (13, [(13, .iload_n 1, 1, .iload 1), (14, .nop, 0, .goto_w 14)]),
  (14, [(14, .putfield 62, 3, .putfield 1208), (17, .aload_n 0, 1, .aload 0), (18, .aload_n 0, 1, .aload 0), (19, .getfield 24, 3, .getfield 1205), (22, .putfield 65, 3, .putfield 1209), (25, .iconst (0), 1, .iconst (0)), (26, .ireturn, 1, .ireturn)])]
def ct_M_bad : List (Nat × List Nat) := []
def bl_M_begins : List (Nat × List am_I) := [(0, [(0, .aload_n 0, 1, .aload 0), (1, .iconst (1), 1, .iconst (1)), (2, .bipush (16), 2, .iconst (16)), (4, .iastore, 1, .iastore), (5, .aload_n 0, 1, .aload 0), (6, .iconst (2), 1, .iconst (2)), (7, .bipush (8), 2, .iconst (8)), (9, .iastore, 1, .iastore), (10, .aload_n 0, 1, .aload 0), (11, .iconst (3), 1, .iconst (3)), (12, .iconst (4), 1, .iconst (4)), (13, .iastore, 1, .iastore), (14, .aload_n 0, 1, .aload 0), (15, .iconst (4), 1, .iconst (4)), (16, .iconst (1), 1, .iconst (1)), (17, .iastore, 1, .iastore), (18, .aload_n 0, 1, .aload 0), (19, .iconst (5), 1, .iconst (5)), (20, .iconst (0), 1, .iconst (0)), (21, .iastore, 1, .iastore), (22, .aload_n 0, 1, .aload 0), (23, .bipush (6), 2, .iconst (6)), (25, .iconst (0), 1, .iconst (0)), (26, .iastore, 1, .iastore), (27, .return_, 1, .return_)])]
def ct_M_begins : List (Nat × List Nat) := []
def bl_M_lowOf : List (Nat × List am_I) := [(0, [(0, .iload_n 0, 1, .iload 0), (1, .iconst (1), 1, .iconst (1)), (2, .if_icmp .eq (8), 3, .if_icmp .eq 10), (5, .iload_n 0, 1, .iload 0), (6, .iconst (2), 1, .iconst (2)), (7, .if_icmp .ne (7), 3, .if_icmp .ne 14), (10, .nop, 0, .goto_w 10)]),
  (10, [(10, .iconst (1), 1, .iconst (1)), (11, .goto (4), 3, .goto 15)]),
  (14, [(14, .iconst (0), 1, .iconst (0)), (15, .nop, 0, .goto_w 15)]),
  (15, [(15, .ireturn, 1, .ireturn)])]
def ct_M_lowOf : List (Nat × List Nat) := []
def bl_M_highOf : List (Nat × List am_I) := [(0, [(0, .iload_n 0, 1, .iload 0), (1, .iconst (1), 1, .iconst (1)), (2, .if_icmp .ne (8), 3, .if_icmp .ne 10), (5, .bipush (32), 2, .iconst (32)), (7, .goto (34), 3, .goto 41)]),
  (10, [(10, .iload_n 0, 1, .iload 0), (11, .iconst (2), 1, .iconst (2)), (12, .if_icmp .ne (8), 3, .if_icmp .ne 20), (15, .bipush (16), 2, .iconst (16)), (17, .goto (24), 3, .goto 41)]),
  (20, [(20, .iload_n 0, 1, .iload 0), (21, .iconst (3), 1, .iconst (3)), (22, .if_icmp .ne (8), 3, .if_icmp .ne 30), (25, .bipush (8), 2, .iconst (8)), (27, .goto (14), 3, .goto 41)]),
  (30, [(30, .iload_n 0, 1, .iload 0), (31, .iconst (4), 1, .iconst (4)), (32, .if_icmp .ne (8), 3, .if_icmp .ne 40), (35, .ldc 170, 2, .iconst (999999999)), (37, .goto (4), 3, .goto 41)]),
  (40, [(40, .iconst (2), 1, .iconst (2)), (41, .nop, 0, .goto_w 41)]),
  (41, [(41, .ireturn, 1, .ireturn)])]
def ct_M_highOf : List (Nat × List Nat) := []
def bl_M_nameOf : List (Nat × List am_I) := [(0, [(0, .iload_n 0, 1, .iload 0), (1, .tableswitch (111) (1) (5) #[35, 49, 65, 83, 101], 35, .lookupswitch 112 #[(1, 36), (2, 50), (3, 66), (4, 84), (5, 102)])]),
  (36, [(36, .bipush (99), 2, .iconst (99)), (38, .bipush (101), 2, .iconst (101)), (40, .bipush (108), 2, .iconst (108)), (42, .bipush (108), 2, .iconst (108)), (44, .bipush (115), 2, .iconst (115)), (46, .invokestatic 58, 3, .invokeinterface 122 52), (49, .lreturn, 1, .lreturn)]),
  (50, [(50, .bipush (112), 2, .iconst (112)), (52, .bipush (114), 2, .iconst (114)), (54, .bipush (105), 2, .iconst (105)), (56, .bipush (110), 2, .iconst (110)), (58, .bipush (116), 2, .iconst (116)), (60, .bipush (115), 2, .iconst (115)), (62, .invokestatic 171, 3, .invokeinterface 123 62), (65, .lreturn, 1, .lreturn)]),
  (66, [(66, .ldc2_w 45, 3, .ldc2_w 27), (69, .bipush (98), 2, .iconst (98)), (71, .bipush (105), 2, .iconst (105)), (73, .bipush (116), 2, .iconst (116)), (75, .invokestatic 54, 3, .invokeinterface 121 32), (78, .lmul, 1, .lmul), (79, .ldc2_w 175, 3, .ldc2_w 19), (82, .ladd, 1, .ladd), (83, .lreturn, 1, .lreturn)]),
  (84, [(84, .ldc2_w 45, 3, .ldc2_w 27), (87, .bipush (115), 2, .iconst (115)), (89, .bipush (101), 2, .iconst (101)), (91, .bipush (101), 2, .iconst (101)), (93, .invokestatic 54, 3, .invokeinterface 121 32), (96, .lmul, 1, .lmul), (97, .ldc2_w 177, 3, .ldc2_w 4), (100, .ladd, 1, .ladd), (101, .lreturn, 1, .lreturn)]),
  (102, [(102, .bipush (119), 2, .iconst (119)), (104, .bipush (97), 2, .iconst (97)), (106, .bipush (121), 2, .iconst (121)), (108, .invokestatic 54, 3, .invokeinterface 121 32), (111, .lreturn, 1, .lreturn)]),
  (112, [(112, .bipush (115), 2, .iconst (115)), (114, .bipush (112), 2, .iconst (112)), (116, .bipush (114), 2, .iconst (114)), (118, .bipush (101), 2, .iconst (101)), (120, .bipush (97), 2, .iconst (97)), (122, .bipush (100), 2, .iconst (100)), (124, .invokestatic 171, 3, .invokeinterface 123 62), (127, .lreturn, 1, .lreturn)])]
def ct_M_nameOf : List (Nat × List Nat) := []
def bl_M_wayHere : List (Nat × List am_I) := [(0, [(0, .aload_n 0, 1, .aload 0), (1, .bipush (113), 2, .iconst (113)), (3, .bipush (117), 2, .iconst (117)), (5, .bipush (101), 2, .iconst (101)), (7, .bipush (117), 2, .iconst (117)), (9, .bipush (101), 2, .iconst (101)), (11, .invokestatic 58, 3, .invokeinterface 122 52), (14, .invokevirtual 179, 3, .invokeinterface 124 13021), (17, .ifCond .eq (7), 3, .ifCond .eq 24), (20, .iconst (0), 1, .iconst (0)), (21, .goto (52), 3, .goto 73)]),
  (24, [(24, .aload_n 0, 1, .aload 0), (25, .bipush (115), 2, .iconst (115)), (27, .bipush (116), 2, .iconst (116)), (29, .bipush (97), 2, .iconst (97)), (31, .bipush (99), 2, .iconst (99)), (33, .bipush (107), 2, .iconst (107)), (35, .invokestatic 58, 3, .invokeinterface 122 52), (38, .invokevirtual 179, 3, .invokeinterface 124 13021), (41, .ifCond .eq (7), 3, .ifCond .eq 48), (44, .iconst (1), 1, .iconst (1)), (45, .goto (28), 3, .goto 73)]),
  (48, [(48, .aload_n 0, 1, .aload 0), (49, .bipush (108), 2, .iconst (108)), (51, .bipush (101), 2, .iconst (101)), (53, .bipush (97), 2, .iconst (97)), (55, .bipush (115), 2, .iconst (115)), (57, .bipush (116), 2, .iconst (116)), (59, .invokestatic 58, 3, .invokeinterface 122 52), (62, .invokevirtual 179, 3, .invokeinterface 124 13021), (65, .ifCond .eq (7), 3, .ifCond .eq 72), (68, .iconst (2), 1, .iconst (2)), (69, .goto (4), 3, .goto 73)]),
  (72, [(72, .iconst (-1), 1, .iconst (-1)), (73, .nop, 0, .goto_w 73)]),
  (73, [(73, .ireturn, 1, .ireturn)])]
def ct_M_wayHere : List (Nat × List Nat) := []
def bl_M_spreadHere : List (Nat × List am_I) := [(0, [(0, .aload_n 0, 1, .aload 0), (1, .bipush (97), 2, .iconst (97)), (3, .bipush (112), 2, .iconst (112)), (5, .bipush (97), 2, .iconst (97)), (7, .bipush (114), 2, .iconst (114)), (9, .bipush (116), 2, .iconst (116)), (11, .invokestatic 58, 3, .invokeinterface 122 52), (14, .invokevirtual 179, 3, .invokeinterface 124 13021), (17, .ifCond .eq (7), 3, .ifCond .eq 24), (20, .iconst (0), 1, .iconst (0)), (21, .goto (56), 3, .goto 77)]),
  (24, [(24, .aload_n 0, 1, .aload 0), (25, .bipush (99), 2, .iconst (99)), (27, .bipush (108), 2, .iconst (108)), (29, .bipush (111), 2, .iconst (111)), (31, .bipush (115), 2, .iconst (115)), (33, .bipush (101), 2, .iconst (101)), (35, .invokestatic 58, 3, .invokeinterface 122 52), (38, .invokevirtual 179, 3, .invokeinterface 124 13021), (41, .ifCond .eq (7), 3, .ifCond .eq 48), (44, .iconst (1), 1, .iconst (1)), (45, .goto (32), 3, .goto 77)]),
  (48, [(48, .aload_n 0, 1, .aload 0), (49, .ldc2_w 45, 3, .ldc2_w 27), (52, .bipush (102), 2, .iconst (102)), (54, .bipush (114), 2, .iconst (114)), (56, .bipush (101), 2, .iconst (101)), (58, .invokestatic 54, 3, .invokeinterface 121 32), (61, .lmul, 1, .lmul), (62, .ldc2_w 183, 3, .ldc2_w 5), (65, .ladd, 1, .ladd), (66, .invokevirtual 179, 3, .invokeinterface 124 13021), (69, .ifCond .eq (7), 3, .ifCond .eq 76), (72, .iconst (2), 1, .iconst (2)), (73, .goto (4), 3, .goto 77)]),
  (76, [(76, .iconst (-1), 1, .iconst (-1)), (77, .nop, 0, .goto_w 77)]),
  (77, [(77, .ireturn, 1, .ireturn)])]
def ct_M_spreadHere : List (Nat × List Nat) := []
def bl_M_readSetting : List (Nat × List am_I) := [(0, [(0, .aload_n 0, 1, .aload 0), (1, .invokevirtual 185, 3, .invokeinterface 120 13010), (4, .iload_n 1, 1, .iload 1), (5, .iconst (5), 1, .iconst (5)), (6, .if_icmp .eq (9), 3, .if_icmp .eq 15), (9, .iload_n 1, 1, .iload 1), (10, .bipush (6), 2, .iconst (6)), (12, .if_icmp .ne (41), 3, .if_icmp .ne 53), (15, .nop, 0, .goto_w 15)]),
  (15, [(15, .iload_n 1, 1, .iload 1), (16, .iconst (5), 1, .iconst (5)), (17, .if_icmp .ne (10), 3, .if_icmp .ne 27), (20, .aload_n 0, 1, .aload 0), (21, .invokevirtual 188, 3, .invokeinterface 130 13011), (24, .goto (7), 3, .goto 31)]),
  (27, [(27, .aload_n 0, 1, .aload 0), (28, .invokevirtual 192, 3, .invokeinterface 131 13011), (31, .nop, 0, .goto_w 31)]),
  (31, [(31, .istore_n 2, 1, .istore 2), (32, .iload_n 2, 1, .iload 2), (33, .iconst (-1), 1, .iconst (-1)), (34, .if_icmp .ne (9), 3, .if_icmp .ne 43), (37, .aload_n 0, 1, .aload 0), (38, .iconst (1), 1, .iconst (1)), (39, .invokevirtual 195, 3, .invokeinterface 125 13021), (42, .ireturn, 1, .ireturn)]),
  (43, [(43, .aload_n 0, 1, .aload 0), (44, .getfield 96, 3, .getfield 1218), (47, .iload_n 1, 1, .iload 1), (48, .iload_n 2, 1, .iload 2), (49, .iastore, 1, .iastore), (50, .goto (51), 3, .goto 101)]),
  (53, [(53, .aload_n 0, 1, .aload 0), (54, .getfield 27, 3, .getfield 1206), (57, .iconst (3), 1, .iconst (3)), (58, .if_icmp .eq (9), 3, .if_icmp .eq 67), (61, .aload_n 0, 1, .aload 0), (62, .iconst (1), 1, .iconst (1)), (63, .invokevirtual 195, 3, .invokeinterface 125 13021), (66, .ireturn, 1, .ireturn)]),
  (67, [(67, .aload_n 0, 1, .aload 0), (68, .getfield 34, 3, .getfield 1207), (71, .iload_n 1, 1, .iload 1), (72, .invokestatic 198, 3, .invokeinterface 127 11), (75, .iload_n 1, 1, .iload 1), (76, .invokestatic 201, 3, .invokeinterface 128 11), (79, .invokestatic 204, 3, .invokeinterface 113 31), (82, .ifCond .ne (9), 3, .ifCond .ne 91), (85, .aload_n 0, 1, .aload 0), (86, .iconst (3), 1, .iconst (3)), (87, .invokevirtual 195, 3, .invokeinterface 125 13021), (90, .ireturn, 1, .ireturn)]),
  (91, [(91, .aload_n 0, 1, .aload 0), (92, .getfield 96, 3, .getfield 1218), (95, .iload_n 1, 1, .iload 1), (96, .aload_n 0, 1, .aload 0), (97, .getfield 34, 3, .getfield 1207), (100, .iastore, 1, .iastore), (101, .nop, 0, .goto_w 101)]),
  (101, [(101, .aload_n 0, 1, .aload 0), (102, .invokevirtual 185, 3, .invokeinterface 120 13010), (105, .aload_n 0, 1, .aload 0), (106, .invokevirtual 208, 3, .invokeinterface 133 13011), (109, .ireturn, 1, .ireturn)])]
def ct_M_readSetting : List (Nat × List Nat) := []
def bl_M_readEnd : List (Nat × List am_I) := [(0, [(0, .aload_n 0, 1, .aload 0), (1, .getfield 27, 3, .getfield 1206), (4, .iconst (4), 1, .iconst (4)), (5, .if_icmp .eq (9), 3, .if_icmp .eq 14), (8, .aload_n 0, 1, .aload 0), (9, .iconst (1), 1, .iconst (1)), (10, .invokevirtual 195, 3, .invokeinterface 125 13021), (13, .ireturn, 1, .ireturn)]),
  (14, [(14, .aload_n 0, 1, .aload 0), (15, .invokevirtual 185, 3, .invokeinterface 120 13010), (18, .iconst (1), 1, .iconst (1)), (19, .ireturn, 1, .ireturn)])]
def ct_M_readEnd : List (Nat × List Nat) := []
def bl_M_readKey : List (Nat × List am_I) := [(0, [(0, .aload_n 0, 1, .aload 0), (1, .getfield 212, 3, .getfield 1222), (4, .bipush (48), 2, .iconst (48)), (6, .if_icmp .ne (9), 3, .if_icmp .ne 15), (9, .aload_n 0, 1, .aload 0), (10, .iconst (4), 1, .iconst (4)), (11, .invokevirtual 195, 3, .invokeinterface 125 13021), (14, .ireturn, 1, .ireturn)]),
  (15, [(15, .aload_n 0, 1, .aload 0), (16, .invokevirtual 185, 3, .invokeinterface 120 13010), (19, .aload_n 0, 1, .aload 0), (20, .getfield 27, 3, .getfield 1206), (23, .iconst (3), 1, .iconst (3)), (24, .if_icmp .eq (9), 3, .if_icmp .eq 33), (27, .aload_n 0, 1, .aload 0), (28, .iconst (1), 1, .iconst (1)), (29, .invokevirtual 195, 3, .invokeinterface 125 13021), (32, .ireturn, 1, .ireturn)]),
  (33, [(33, .iconst (0), 1, .iconst (0)), (34, .istore_n 1, 1, .istore 1), (35, .nop, 0, .goto_w 35)]),
  (35, [(35, .iload_n 1, 1, .iload 1), (36, .aload_n 0, 1, .aload 0), (37, .getfield 212, 3, .getfield 1222), (40, .if_icmp .ge (30), 3, .if_icmp .ge 70), (43, .aload_n 0, 1, .aload 0), (44, .getfield 78, 3, .getfield 1212), (47, .iload_n 1, 1, .iload 1), (48, .laload, 1, .laload), (49, .aload_n 0, 1, .aload 0), (50, .getfield 34, 3, .getfield 1207), (53, .i2l, 1, .i2l), (54, .lcmp, 1, .lcmp), (55, .ifCond .ne (9), 3, .ifCond .ne 64), (58, .aload_n 0, 1, .aload 0), (59, .iconst (2), 1, .iconst (2)), (60, .invokevirtual 195, 3, .invokeinterface 125 13021), (63, .ireturn, 1, .ireturn)]),
  (64, [(64, .iinc 1 (1), 3, .iinc 1 (1)), (67, .goto (-32), 3, .goto 35)]),
  (70, [(70, .aload_n 0, 1, .aload 0), (71, .getfield 78, 3, .getfield 1212), (74, .aload_n 0, 1, .aload 0), (75, .getfield 212, 3, .getfield 1222), (78, .aload_n 0, 1, .aload 0), (79, .getfield 34, 3, .getfield 1207), (82, .i2l, 1, .i2l), (83, .lastore, 1, .lastore), (84, .aload_n 0, 1, .aload 0), (85, .getfield 87, 3, .getfield 1215), (88, .aload_n 0, 1, .aload 0), (89, .getfield 212, 3, .getfield 1222), (92, .iconst (0), 1, .iconst (0)), (93, .iastore, 1, .iastore), (94, .aload_n 0, 1, .aload 0), (95, .invokevirtual 185, 3, .invokeinterface 120 13010), (98, .aload_n 0, 1, .aload 0), (99, .ldc2_w 215, 3, .ldc2_w 262), (102, .invokevirtual 179, 3, .invokeinterface 124 13021), (105, .ifCond .eq (59), 3, .ifCond .eq 164), (108, .aload_n 0, 1, .aload 0), (109, .invokevirtual 185, 3, .invokeinterface 120 13010), (112, .aload_n 0, 1, .aload 0), (113, .getfield 27, 3, .getfield 1206), (116, .iconst (3), 1, .iconst (3)), (117, .if_icmp .eq (9), 3, .if_icmp .eq 126), (120, .aload_n 0, 1, .aload 0), (121, .iconst (1), 1, .iconst (1)), (122, .invokevirtual 195, 3, .invokeinterface 125 13021), (125, .ireturn, 1, .ireturn)]),
  (126, [(126, .aload_n 0, 1, .aload 0), (127, .getfield 34, 3, .getfield 1207), (130, .iconst (1), 1, .iconst (1)), (131, .aload_n 0, 1, .aload 0), (132, .getfield 96, 3, .getfield 1218), (135, .iconst (3), 1, .iconst (3)), (136, .iaload, 1, .iaload), (137, .ishl, 1, .ishl), (138, .if_icmp .lt (9), 3, .if_icmp .lt 147), (141, .aload_n 0, 1, .aload 0), (142, .iconst (3), 1, .iconst (3)), (143, .invokevirtual 195, 3, .invokeinterface 125 13021), (146, .ireturn, 1, .ireturn)]),
  (147, [(147, .aload_n 0, 1, .aload 0), (148, .getfield 87, 3, .getfield 1215), (151, .aload_n 0, 1, .aload 0), (152, .getfield 212, 3, .getfield 1222), (155, .aload_n 0, 1, .aload 0), (156, .getfield 34, 3, .getfield 1207), (159, .iastore, 1, .iastore), (160, .aload_n 0, 1, .aload 0), (161, .invokevirtual 185, 3, .invokeinterface 120 13010), (164, .nop, 0, .goto_w 164)]),
  (164, [(164, .aload_n 0, 1, .aload 0), (165, .dup, 1, .dup), (166, .getfield 212, 3, .getfield 1222), (169, .iconst (1), 1, .iconst (1)), (170, .iadd, 1, .iadd), (171, .putfield 212, 3, .putfield 1222), (174, .aload_n 0, 1, .aload 0), (175, .invokevirtual 208, 3, .invokeinterface 133 13011), (178, .ireturn, 1, .ireturn)])]
def ct_M_readKey : List (Nat × List Nat) := [(35, [0, 1])]
def bl_M_readWhole : List (Nat × List am_I) := [(0, [(0, .iconst (1), 1, .iconst (1)), (1, .istore_n 1, 1, .istore 1), (2, .nop, 0, .goto_w 2)]),
  (2, [(2, .iload_n 1, 1, .iload 1), (3, .bipush (6), 2, .iconst (6)), (5, .if_icmp .gt (30), 3, .if_icmp .gt 35), (8, .aload_n 0, 1, .aload 0), (9, .iload_n 1, 1, .iload 1), (10, .invokestatic 217, 3, .invokeinterface 129 12), (13, .invokevirtual 179, 3, .invokeinterface 124 13021), (16, .ifCond .eq (13), 3, .ifCond .eq 29), (19, .aload_n 0, 1, .aload 0), (20, .iload_n 1, 1, .iload 1), (21, .invokevirtual 221, 3, .invokeinterface 132 13021), (24, .ifCond .ne (5), 3, .ifCond .ne 29), (27, .iconst (0), 1, .iconst (0)), (28, .ireturn, 1, .ireturn)]),
  (29, [(29, .iinc 1 (1), 3, .iinc 1 (1)), (32, .goto (-30), 3, .goto 2)]),
  (35, [(35, .aload_n 0, 1, .aload 0), (36, .bipush (107), 2, .iconst (107)), (38, .bipush (101), 2, .iconst (101)), (40, .bipush (121), 2, .iconst (121)), (42, .invokestatic 54, 3, .invokeinterface 121 32), (45, .invokevirtual 179, 3, .invokeinterface 124 13021), (48, .ifCond .eq (12), 3, .ifCond .eq 60), (51, .aload_n 0, 1, .aload 0), (52, .invokevirtual 224, 3, .invokeinterface 134 13011), (55, .ifCond .ne (-20), 3, .ifCond .ne 35), (58, .iconst (0), 1, .iconst (0)), (59, .ireturn, 1, .ireturn)]),
  (60, [(60, .aload_n 0, 1, .aload 0), (61, .getfield 27, 3, .getfield 1206), (64, .ifCond .eq (11), 3, .ifCond .eq 75), (67, .aload_n 0, 1, .aload 0), (68, .iconst (1), 1, .iconst (1)), (69, .invokevirtual 195, 3, .invokeinterface 125 13021), (72, .ifCond .eq (7), 3, .ifCond .eq 79), (75, .nop, 0, .goto_w 75)]),
  (75, [(75, .iconst (1), 1, .iconst (1)), (76, .goto (4), 3, .goto 80)]),
  (79, [(79, .iconst (0), 1, .iconst (0)), (80, .nop, 0, .goto_w 80)]),
  (80, [(80, .ireturn, 1, .ireturn)])]
def ct_M_readWhole : List (Nat × List Nat) := [(2, [0, 1]), (35, [0])]
def bl_M_text : List (Nat × List am_I) := [(0, [(0, .aload_n 0, 1, .aload 0), (1, .iconst (0), 1, .iconst (0)), (2, .putfield 1, 3, .putfield 1200), (5, .aload_n 0, 1, .aload 0), (6, .aload_n 0, 1, .aload 0), (7, .getfield 11, 3, .getfield 1202), (10, .putfield 18, 3, .putfield 1203), (13, .aload_n 0, 1, .aload 0), (14, .iconst (0), 1, .iconst (0)), (15, .putfield 11, 3, .putfield 1202), (18, .aload_n 0, 1, .aload 0), (19, .iconst (0), 1, .iconst (0)), (20, .putfield 21, 3, .putfield 1204), (23, .aload_n 0, 1, .aload 0), (24, .iconst (0), 1, .iconst (0)), (25, .putfield 212, 3, .putfield 1222), (28, .aload_n 0, 1, .aload 0), (29, .getfield 96, 3, .getfield 1218), (32, .invokestatic 166, 3, .invokeinterface 126 10), (35, .aload_n 0, 1, .aload 0), (36, .invokevirtual 185, 3, .invokeinterface 120 13010), (39, .aload_n 0, 1, .aload 0), (40, .invokevirtual 227, 3, .invokeinterface 135 13011), (43, .ifCond .ne (19), 3, .ifCond .ne 62), (46, .bipush (-2), 2, .iconst (-2)), (48, .bipush (8), 2, .iconst (8)), (50, .aload_n 0, 1, .aload 0), (51, .getfield 65, 3, .getfield 1209), (54, .imul, 1, .imul), (55, .aload_n 0, 1, .aload 0), (56, .getfield 62, 3, .getfield 1208), (59, .iadd, 1, .iadd), (60, .isub, 1, .isub), (61, .ireturn, 1, .ireturn)]),
  (62, [(62, .aload_n 0, 1, .aload 0), (63, .aload_n 0, 1, .aload 0), (64, .getfield 212, 3, .getfield 1222), (67, .putfield 230, 3, .putfield 1221), (70, .iconst (0), 1, .iconst (0)), (71, .istore_n 1, 1, .istore 1), (72, .nop, 0, .goto_w 72)]),
  (72, [(72, .iload_n 1, 1, .iload 1), (73, .bipush (7), 2, .iconst (7)), (75, .if_icmp .ge (21), 3, .if_icmp .ge 96), (78, .aload_n 0, 1, .aload 0), (79, .getfield 93, 3, .getfield 1217), (82, .iload_n 1, 1, .iload 1), (83, .aload_n 0, 1, .aload 0), (84, .getfield 96, 3, .getfield 1218), (87, .iload_n 1, 1, .iload 1), (88, .iaload, 1, .iaload), (89, .iastore, 1, .iastore), (90, .iinc 1 (1), 3, .iinc 1 (1)), (93, .goto (-21), 3, .goto 72)]),
  (96, [(96, .iconst (0), 1, .iconst (0)), (97, .istore_n 1, 1, .istore 1), (98, .nop, 0, .goto_w 98)]),
  (98, [(98, .iload_n 1, 1, .iload 1), (99, .bipush (48), 2, .iconst (48)), (101, .if_icmp .ge (33), 3, .if_icmp .ge 134), (104, .aload_n 0, 1, .aload 0), (105, .getfield 74, 3, .getfield 1211), (108, .iload_n 1, 1, .iload 1), (109, .aload_n 0, 1, .aload 0), (110, .getfield 78, 3, .getfield 1212), (113, .iload_n 1, 1, .iload 1), (114, .laload, 1, .laload), (115, .lastore, 1, .lastore), (116, .aload_n 0, 1, .aload 0), (117, .getfield 84, 3, .getfield 1214), (120, .iload_n 1, 1, .iload 1), (121, .aload_n 0, 1, .aload 0), (122, .getfield 87, 3, .getfield 1215), (125, .iload_n 1, 1, .iload 1), (126, .iaload, 1, .iaload), (127, .iastore, 1, .iastore), (128, .iinc 1 (1), 3, .iinc 1 (1)), (131, .goto (-33), 3, .goto 98)]),
  (134, [(134, .aload_n 0, 1, .aload 0), (135, .iconst (0), 1, .iconst (0)), (136, .putfield 233, 3, .putfield 1223), (139, .iconst (0), 1, .iconst (0)), (140, .istore_n 1, 1, .istore 1), (141, .nop, 0, .goto_w 141)]),
  (141, [(141, .iload_n 1, 1, .iload 1), (142, .iconst (2), 1, .iconst (2)), (143, .if_icmp .gt (16), 3, .if_icmp .gt 159), (146, .aload_n 0, 1, .aload 0), (147, .getfield 163, 3, .getfield 1247), (150, .iload_n 1, 1, .iload 1), (151, .iconst (0), 1, .iconst (0)), (152, .bastore, 1, .bastore), (153, .iinc 1 (1), 3, .iinc 1 (1)), (156, .goto (-15), 3, .goto 141)]),
  (159, [(159, .aload_n 0, 1, .aload 0), (160, .getfield 230, 3, .getfield 1221), (163, .ireturn, 1, .ireturn)])]
def ct_M_text : List (Nat × List Nat) := [(72, [0, 1]), (98, [0, 1]), (141, [0, 1])]
def bl_M_isKey : List (Nat × List am_I) := [(0, [(0, .iload_n 1, 1, .iload 1), (1, .iconst (0), 1, .iconst (0)), (2, .aload_n 0, 1, .aload 0), (3, .getfield 230, 3, .getfield 1221), (6, .iconst (1), 1, .iconst (1)), (7, .isub, 1, .isub), (8, .invokestatic 204, 3, .invokeinterface 113 31), (11, .ireturn, 1, .ireturn)])]
def ct_M_isKey : List (Nat × List Nat) := []
def bl_M_isValue : List (Nat × List am_I) := [(0, [(0, .iload_n 1, 1, .iload 1), (1, .iconst (0), 1, .iconst (0)), (2, .iconst (1), 1, .iconst (1)), (3, .aload_n 0, 1, .aload 0), (4, .getfield 93, 3, .getfield 1217), (7, .iconst (3), 1, .iconst (3)), (8, .iaload, 1, .iaload), (9, .ishl, 1, .ishl), (10, .iconst (1), 1, .iconst (1)), (11, .isub, 1, .isub), (12, .invokestatic 204, 3, .invokeinterface 113 31), (15, .ireturn, 1, .ireturn)])]
def ct_M_isValue : List (Nat × List Nat) := []
def bl_M_indexOf : List (Nat × List am_I) := [(0, [(0, .iconst (0), 1, .iconst (0)), (1, .istore_n 3, 1, .istore 3), (2, .nop, 0, .goto_w 2)]),
  (2, [(2, .iload_n 3, 1, .iload 3), (3, .aload_n 0, 1, .aload 0), (4, .getfield 230, 3, .getfield 1221), (7, .if_icmp .ge (22), 3, .if_icmp .ge 29), (10, .aload_n 0, 1, .aload 0), (11, .getfield 74, 3, .getfield 1211), (14, .iload_n 3, 1, .iload 3), (15, .laload, 1, .laload), (16, .lload_n 1, 1, .lload 1), (17, .lcmp, 1, .lcmp), (18, .ifCond .ne (5), 3, .ifCond .ne 23), (21, .iload_n 3, 1, .iload 3), (22, .ireturn, 1, .ireturn)]),
  (23, [(23, .iinc 3 (1), 3, .iinc 3 (1)), (26, .goto (-24), 3, .goto 2)]),
  (29, [(29, .iconst (-1), 1, .iconst (-1)), (30, .ireturn, 1, .ireturn)])]
def ct_M_indexOf : List (Nat × List Nat) := [(2, [0, 1, 3])]
def bl_M_snap : List (Nat × List am_I) := [(0, [(0, .aload_n 0, 1, .aload 0), (1, .getfield 233, 3, .getfield 1223), (4, .bipush (12), 2, .iconst (12)), (6, .if_icmp .ne (126), 3, .if_icmp .ne 132), (9, .aload_n 0, 1, .aload 0), (10, .dup, 1, .dup), (11, .getfield 233, 3, .getfield 1223), (14, .iconst (1), 1, .iconst (1)), (15, .isub, 1, .isub), (16, .putfield 233, 3, .putfield 1223), (19, .iconst (0), 1, .iconst (0)), (20, .istore_n 1, 1, .istore 1), (21, .nop, 0, .goto_w 21)]),
  (21, [(21, .iload_n 1, 1, .iload 1), (22, .bipush (48), 2, .iconst (48)), (24, .aload_n 0, 1, .aload 0), (25, .getfield 233, 3, .getfield 1223), (28, .imul, 1, .imul), (29, .if_icmp .ge (39), 3, .if_icmp .ge 68), (32, .aload_n 0, 1, .aload 0), (33, .getfield 81, 3, .getfield 1213), (36, .iload_n 1, 1, .iload 1), (37, .aload_n 0, 1, .aload 0), (38, .getfield 81, 3, .getfield 1213), (41, .iload_n 1, 1, .iload 1), (42, .bipush (48), 2, .iconst (48)), (44, .iadd, 1, .iadd), (45, .laload, 1, .laload), (46, .lastore, 1, .lastore), (47, .aload_n 0, 1, .aload 0), (48, .getfield 90, 3, .getfield 1216), (51, .iload_n 1, 1, .iload 1), (52, .aload_n 0, 1, .aload 0), (53, .getfield 90, 3, .getfield 1216), (56, .iload_n 1, 1, .iload 1), (57, .bipush (48), 2, .iconst (48)), (59, .iadd, 1, .iadd), (60, .iaload, 1, .iaload), (61, .iastore, 1, .iastore), (62, .iinc 1 (1), 3, .iinc 1 (1)), (65, .goto (-44), 3, .goto 21)]),
  (68, [(68, .iconst (0), 1, .iconst (0)), (69, .istore_n 1, 1, .istore 1), (70, .nop, 0, .goto_w 70)]),
  (70, [(70, .iload_n 1, 1, .iload 1), (71, .bipush (7), 2, .iconst (7)), (73, .aload_n 0, 1, .aload 0), (74, .getfield 233, 3, .getfield 1223), (77, .imul, 1, .imul), (78, .if_icmp .ge (24), 3, .if_icmp .ge 102), (81, .aload_n 0, 1, .aload 0), (82, .getfield 99, 3, .getfield 1219), (85, .iload_n 1, 1, .iload 1), (86, .aload_n 0, 1, .aload 0), (87, .getfield 99, 3, .getfield 1219), (90, .iload_n 1, 1, .iload 1), (91, .bipush (7), 2, .iconst (7)), (93, .iadd, 1, .iadd), (94, .iaload, 1, .iaload), (95, .iastore, 1, .iastore), (96, .iinc 1 (1), 3, .iinc 1 (1)), (99, .goto (-29), 3, .goto 70)]),
  (102, [(102, .iconst (0), 1, .iconst (0)), (103, .istore_n 1, 1, .istore 1), (104, .nop, 0, .goto_w 104)]),
  (104, [(104, .iload_n 1, 1, .iload 1), (105, .aload_n 0, 1, .aload 0), (106, .getfield 233, 3, .getfield 1223), (109, .if_icmp .ge (23), 3, .if_icmp .ge 132), (112, .aload_n 0, 1, .aload 0), (113, .getfield 102, 3, .getfield 1220), (116, .iload_n 1, 1, .iload 1), (117, .aload_n 0, 1, .aload 0), (118, .getfield 102, 3, .getfield 1220), (121, .iload_n 1, 1, .iload 1), (122, .iconst (1), 1, .iconst (1)), (123, .iadd, 1, .iadd), (124, .iaload, 1, .iaload), (125, .iastore, 1, .iastore), (126, .iinc 1 (1), 3, .iinc 1 (1)), (129, .goto (-25), 3, .goto 104)]),
  (132, [(132, .iconst (0), 1, .iconst (0)), (133, .istore_n 1, 1, .istore 1), (134, .nop, 0, .goto_w 134)]),
  (134, [(134, .iload_n 1, 1, .iload 1), (135, .bipush (48), 2, .iconst (48)), (137, .if_icmp .ge (49), 3, .if_icmp .ge 186), (140, .aload_n 0, 1, .aload 0), (141, .getfield 81, 3, .getfield 1213), (144, .bipush (48), 2, .iconst (48)), (146, .aload_n 0, 1, .aload 0), (147, .getfield 233, 3, .getfield 1223), (150, .imul, 1, .imul), (151, .iload_n 1, 1, .iload 1), (152, .iadd, 1, .iadd), (153, .aload_n 0, 1, .aload 0), (154, .getfield 74, 3, .getfield 1211), (157, .iload_n 1, 1, .iload 1), (158, .laload, 1, .laload), (159, .lastore, 1, .lastore), (160, .aload_n 0, 1, .aload 0), (161, .getfield 90, 3, .getfield 1216), (164, .bipush (48), 2, .iconst (48)), (166, .aload_n 0, 1, .aload 0), (167, .getfield 233, 3, .getfield 1223), (170, .imul, 1, .imul), (171, .iload_n 1, 1, .iload 1), (172, .iadd, 1, .iadd), (173, .aload_n 0, 1, .aload 0), (174, .getfield 84, 3, .getfield 1214), (177, .iload_n 1, 1, .iload 1), (178, .iaload, 1, .iaload), (179, .iastore, 1, .iastore), (180, .iinc 1 (1), 3, .iinc 1 (1)), (183, .goto (-49), 3, .goto 134)]),
  (186, [(186, .iconst (0), 1, .iconst (0)), (187, .istore_n 1, 1, .istore 1), (188, .nop, 0, .goto_w 188)]),
  (188, [(188, .iload_n 1, 1, .iload 1), (189, .bipush (7), 2, .iconst (7)), (191, .if_icmp .ge (29), 3, .if_icmp .ge 220), (194, .aload_n 0, 1, .aload 0), (195, .getfield 99, 3, .getfield 1219), (198, .bipush (7), 2, .iconst (7)), (200, .aload_n 0, 1, .aload 0), (201, .getfield 233, 3, .getfield 1223), (204, .imul, 1, .imul), (205, .iload_n 1, 1, .iload 1), (206, .iadd, 1, .iadd), (207, .aload_n 0, 1, .aload 0), (208, .getfield 93, 3, .getfield 1217), (211, .iload_n 1, 1, .iload 1), (212, .iaload, 1, .iaload), (213, .iastore, 1, .iastore), (214, .iinc 1 (1), 3, .iinc 1 (1)), (217, .goto (-29), 3, .goto 188)]),
  (220, [(220, .aload_n 0, 1, .aload 0), (221, .getfield 102, 3, .getfield 1220), (224, .aload_n 0, 1, .aload 0), (225, .getfield 233, 3, .getfield 1223), (228, .aload_n 0, 1, .aload 0), (229, .getfield 230, 3, .getfield 1221), (232, .iastore, 1, .iastore), (233, .aload_n 0, 1, .aload 0), (234, .dup, 1, .dup), (235, .getfield 233, 3, .getfield 1223), (238, .iconst (1), 1, .iconst (1)), (239, .iadd, 1, .iadd), (240, .putfield 233, 3, .putfield 1223), (243, .return_, 1, .return_)])]
def ct_M_snap : List (Nat × List Nat) := [(21, [0, 1]), (70, [0, 1]), (104, [0, 1]), (134, [0, 1]), (188, [0, 1])]
def bl_M_undo : List (Nat × List am_I) := [(0, [(0, .aload_n 0, 1, .aload 0), (1, .iconst (0), 1, .iconst (0)), (2, .putfield 1, 3, .putfield 1200), (5, .aload_n 0, 1, .aload 0), (6, .getfield 233, 3, .getfield 1223), (9, .ifCond .ne (5), 3, .ifCond .ne 14), (12, .iconst (-1), 1, .iconst (-1)), (13, .ireturn, 1, .ireturn)]),
  (14, [(14, .aload_n 0, 1, .aload 0), (15, .dup, 1, .dup), (16, .getfield 233, 3, .getfield 1223), (19, .iconst (1), 1, .iconst (1)), (20, .isub, 1, .isub), (21, .putfield 233, 3, .putfield 1223), (24, .iconst (0), 1, .iconst (0)), (25, .istore_n 1, 1, .istore 1), (26, .nop, 0, .goto_w 26)]),
  (26, [(26, .iload_n 1, 1, .iload 1), (27, .bipush (48), 2, .iconst (48)), (29, .if_icmp .ge (49), 3, .if_icmp .ge 78), (32, .aload_n 0, 1, .aload 0), (33, .getfield 74, 3, .getfield 1211), (36, .iload_n 1, 1, .iload 1), (37, .aload_n 0, 1, .aload 0), (38, .getfield 81, 3, .getfield 1213), (41, .bipush (48), 2, .iconst (48)), (43, .aload_n 0, 1, .aload 0), (44, .getfield 233, 3, .getfield 1223), (47, .imul, 1, .imul), (48, .iload_n 1, 1, .iload 1), (49, .iadd, 1, .iadd), (50, .laload, 1, .laload), (51, .lastore, 1, .lastore), (52, .aload_n 0, 1, .aload 0), (53, .getfield 84, 3, .getfield 1214), (56, .iload_n 1, 1, .iload 1), (57, .aload_n 0, 1, .aload 0), (58, .getfield 90, 3, .getfield 1216), (61, .bipush (48), 2, .iconst (48)), (63, .aload_n 0, 1, .aload 0), (64, .getfield 233, 3, .getfield 1223), (67, .imul, 1, .imul), (68, .iload_n 1, 1, .iload 1), (69, .iadd, 1, .iadd), (70, .iaload, 1, .iaload), (71, .iastore, 1, .iastore), (72, .iinc 1 (1), 3, .iinc 1 (1)), (75, .goto (-49), 3, .goto 26)]),
  (78, [(78, .iconst (0), 1, .iconst (0)), (79, .istore_n 1, 1, .istore 1), (80, .nop, 0, .goto_w 80)]),
  (80, [(80, .iload_n 1, 1, .iload 1), (81, .bipush (7), 2, .iconst (7)), (83, .if_icmp .ge (29), 3, .if_icmp .ge 112), (86, .aload_n 0, 1, .aload 0), (87, .getfield 93, 3, .getfield 1217), (90, .iload_n 1, 1, .iload 1), (91, .aload_n 0, 1, .aload 0), (92, .getfield 99, 3, .getfield 1219), (95, .bipush (7), 2, .iconst (7)), (97, .aload_n 0, 1, .aload 0), (98, .getfield 233, 3, .getfield 1223), (101, .imul, 1, .imul), (102, .iload_n 1, 1, .iload 1), (103, .iadd, 1, .iadd), (104, .iaload, 1, .iaload), (105, .iastore, 1, .iastore), (106, .iinc 1 (1), 3, .iinc 1 (1)), (109, .goto (-29), 3, .goto 80)]),
  (112, [(112, .aload_n 0, 1, .aload 0), (113, .aload_n 0, 1, .aload 0), (114, .getfield 102, 3, .getfield 1220), (117, .aload_n 0, 1, .aload 0), (118, .getfield 233, 3, .getfield 1223), (121, .iaload, 1, .iaload), (122, .putfield 230, 3, .putfield 1221), (125, .aload_n 0, 1, .aload 0), (126, .getfield 233, 3, .getfield 1223), (129, .ireturn, 1, .ireturn)])]
def ct_M_undo : List (Nat × List Nat) := [(26, [0, 1]), (80, [0, 1])]
def bl_M_key : List (Nat × List am_I) := [(0, [(0, .aload_n 0, 1, .aload 0), (1, .iconst (0), 1, .iconst (0)), (2, .putfield 1, 3, .putfield 1200), (5, .aload_n 0, 1, .aload 0), (6, .iload_n 1, 1, .iload 1), (7, .invokevirtual 236, 3, .invokeinterface 137 13021), (10, .ifCond .eq (12), 3, .ifCond .eq 22), (13, .aload_n 0, 1, .aload 0), (14, .getfield 74, 3, .getfield 1211), (17, .iload_n 1, 1, .iload 1), (18, .laload, 1, .laload), (19, .goto (7), 3, .goto 26)]),
  (22, [(22, .aload_n 0, 1, .aload 0), (23, .invokevirtual 239, 3, .invokeinterface 112 13012), (26, .nop, 0, .goto_w 26)]),
  (26, [(26, .lreturn, 1, .lreturn)])]
def ct_M_key : List (Nat × List Nat) := []
def bl_M_worth : List (Nat × List am_I) := [(0, [(0, .aload_n 0, 1, .aload 0), (1, .iconst (0), 1, .iconst (0)), (2, .putfield 1, 3, .putfield 1200), (5, .aload_n 0, 1, .aload 0), (6, .iload_n 1, 1, .iload 1), (7, .invokevirtual 236, 3, .invokeinterface 137 13021), (10, .ifCond .eq (12), 3, .ifCond .eq 22), (13, .aload_n 0, 1, .aload 0), (14, .getfield 84, 3, .getfield 1214), (17, .iload_n 1, 1, .iload 1), (18, .iaload, 1, .iaload), (19, .goto (4), 3, .goto 23)]),
  (22, [(22, .iconst (-1), 1, .iconst (-1)), (23, .nop, 0, .goto_w 23)]),
  (23, [(23, .ireturn, 1, .ireturn)])]
def ct_M_worth : List (Nat × List Nat) := []
def bl_M_add : List (Nat × List am_I) := [(0, [(0, .aload_n 0, 1, .aload 0), (1, .iconst (0), 1, .iconst (0)), (2, .putfield 1, 3, .putfield 1200), (5, .aload_n 0, 1, .aload 0), (6, .getfield 230, 3, .getfield 1221), (9, .bipush (48), 2, .iconst (48)), (11, .if_icmp .eq (11), 3, .if_icmp .eq 22), (14, .aload_n 0, 1, .aload 0), (15, .iload_n 3, 1, .iload 3), (16, .invokevirtual 243, 3, .invokeinterface 138 13021), (19, .ifCond .ne (5), 3, .ifCond .ne 24), (22, .nop, 0, .goto_w 22)]),
  (22, [(22, .iconst (-1), 1, .iconst (-1)), (23, .ireturn, 1, .ireturn)]),
  (24, [(24, .aload_n 0, 1, .aload 0), (25, .lload_n 1, 1, .lload 1), (26, .invokevirtual 246, 3, .invokeinterface 139 13021), (29, .iconst (-1), 1, .iconst (-1)), (30, .if_icmp .eq (6), 3, .if_icmp .eq 36), (33, .bipush (-2), 2, .iconst (-2)), (35, .ireturn, 1, .ireturn)]),
  (36, [(36, .aload_n 0, 1, .aload 0), (37, .invokevirtual 250, 3, .invokeinterface 140 13010), (40, .aload_n 0, 1, .aload 0), (41, .getfield 74, 3, .getfield 1211), (44, .aload_n 0, 1, .aload 0), (45, .getfield 230, 3, .getfield 1221), (48, .lload_n 1, 1, .lload 1), (49, .lastore, 1, .lastore), (50, .aload_n 0, 1, .aload 0), (51, .getfield 84, 3, .getfield 1214), (54, .aload_n 0, 1, .aload 0), (55, .getfield 230, 3, .getfield 1221), (58, .iload_n 3, 1, .iload 3), (59, .iastore, 1, .iastore), (60, .aload_n 0, 1, .aload 0), (61, .dup, 1, .dup), (62, .getfield 230, 3, .getfield 1221), (65, .iconst (1), 1, .iconst (1)), (66, .iadd, 1, .iadd), (67, .putfield 230, 3, .putfield 1221), (70, .aload_n 0, 1, .aload 0), (71, .getfield 230, 3, .getfield 1221), (74, .ireturn, 1, .ireturn)])]
def ct_M_add : List (Nat × List Nat) := []
def bl_M_gone : List (Nat × List am_I) := [(0, [(0, .aload_n 0, 1, .aload 0), (1, .iconst (0), 1, .iconst (0)), (2, .putfield 1, 3, .putfield 1200), (5, .aload_n 0, 1, .aload 0), (6, .lload_n 1, 1, .lload 1), (7, .invokevirtual 246, 3, .invokeinterface 139 13021), (10, .istore_n 3, 1, .istore 3), (11, .iload_n 3, 1, .iload 3), (12, .iconst (-1), 1, .iconst (-1)), (13, .if_icmp .ne (5), 3, .if_icmp .ne 18), (16, .iconst (-1), 1, .iconst (-1)), (17, .ireturn, 1, .ireturn)]),
  (18, [(18, .aload_n 0, 1, .aload 0), (19, .invokevirtual 250, 3, .invokeinterface 140 13010), (22, .aload_n 0, 1, .aload 0), (23, .dup, 1, .dup), (24, .getfield 230, 3, .getfield 1221), (27, .iconst (1), 1, .iconst (1)), (28, .isub, 1, .isub), (29, .putfield 230, 3, .putfield 1221), (32, .iload_n 3, 1, .iload 3), (33, .istore 4, 2, .istore 4), (35, .nop, 0, .goto_w 35)]),
  (35, [(35, .iload 4, 2, .iload 4), (37, .aload_n 0, 1, .aload 0), (38, .getfield 230, 3, .getfield 1221), (41, .if_icmp .ge (41), 3, .if_icmp .ge 82), (44, .aload_n 0, 1, .aload 0), (45, .getfield 74, 3, .getfield 1211), (48, .iload 4, 2, .iload 4), (50, .aload_n 0, 1, .aload 0), (51, .getfield 74, 3, .getfield 1211), (54, .iload 4, 2, .iload 4), (56, .iconst (1), 1, .iconst (1)), (57, .iadd, 1, .iadd), (58, .laload, 1, .laload), (59, .lastore, 1, .lastore), (60, .aload_n 0, 1, .aload 0), (61, .getfield 84, 3, .getfield 1214), (64, .iload 4, 2, .iload 4), (66, .aload_n 0, 1, .aload 0), (67, .getfield 84, 3, .getfield 1214), (70, .iload 4, 2, .iload 4), (72, .iconst (1), 1, .iconst (1)), (73, .iadd, 1, .iadd), (74, .iaload, 1, .iaload), (75, .iastore, 1, .iastore), (76, .iinc 4 (1), 3, .iinc 4 (1)), (79, .goto (-44), 3, .goto 35)]),
  (82, [(82, .iload_n 3, 1, .iload 3), (83, .ireturn, 1, .ireturn)])]
def ct_M_gone : List (Nat × List Nat) := [(35, [0, 3, 4])]
def bl_M_turn : List (Nat × List am_I) := [(0, [(0, .aload_n 0, 1, .aload 0), (1, .iconst (0), 1, .iconst (0)), (2, .putfield 1, 3, .putfield 1200), (5, .aload_n 0, 1, .aload 0), (6, .iload_n 1, 1, .iload 1), (7, .invokevirtual 236, 3, .invokeinterface 137 13021), (10, .ifCond .eq (11), 3, .ifCond .eq 21), (13, .aload_n 0, 1, .aload 0), (14, .iload_n 2, 1, .iload 2), (15, .invokevirtual 243, 3, .invokeinterface 138 13021), (18, .ifCond .ne (5), 3, .ifCond .ne 23), (21, .nop, 0, .goto_w 21)]),
  (21, [(21, .iconst (-1), 1, .iconst (-1)), (22, .ireturn, 1, .ireturn)]),
  (23, [(23, .aload_n 0, 1, .aload 0), (24, .invokevirtual 250, 3, .invokeinterface 140 13010), (27, .aload_n 0, 1, .aload 0), (28, .getfield 84, 3, .getfield 1214), (31, .iload_n 1, 1, .iload 1), (32, .iaload, 1, .iaload), (33, .istore_n 3, 1, .istore 3), (34, .aload_n 0, 1, .aload 0), (35, .getfield 84, 3, .getfield 1214), (38, .iload_n 1, 1, .iload 1), (39, .iload_n 2, 1, .iload 2), (40, .iastore, 1, .iastore), (41, .iload_n 3, 1, .iload 3), (42, .ireturn, 1, .ireturn)])]
def ct_M_turn : List (Nat × List Nat) := []
def bl_M_set : List (Nat × List am_I) := [(0, [(0, .aload_n 0, 1, .aload 0), (1, .iconst (0), 1, .iconst (0)), (2, .putfield 1, 3, .putfield 1200), (5, .iload_n 1, 1, .iload 1), (6, .iconst (1), 1, .iconst (1)), (7, .bipush (6), 2, .iconst (6)), (9, .invokestatic 204, 3, .invokeinterface 113 31), (12, .ifCond .eq (18), 3, .ifCond .eq 30), (15, .iload_n 2, 1, .iload 2), (16, .iload_n 1, 1, .iload 1), (17, .invokestatic 198, 3, .invokeinterface 127 11), (20, .iload_n 1, 1, .iload 1), (21, .invokestatic 201, 3, .invokeinterface 128 11), (24, .invokestatic 204, 3, .invokeinterface 113 31), (27, .ifCond .ne (5), 3, .ifCond .ne 32), (30, .nop, 0, .goto_w 30)]),
  (30, [(30, .iconst (-1), 1, .iconst (-1)), (31, .ireturn, 1, .ireturn)]),
  (32, [(32, .iconst (0), 1, .iconst (0)), (33, .istore_n 3, 1, .istore 3), (34, .nop, 0, .goto_w 34)]),
  (34, [(34, .iload_n 3, 1, .iload 3), (35, .aload_n 0, 1, .aload 0), (36, .getfield 230, 3, .getfield 1221), (39, .if_icmp .ge (28), 3, .if_icmp .ge 67), (42, .iload_n 1, 1, .iload 1), (43, .iconst (3), 1, .iconst (3)), (44, .if_icmp .ne (23), 3, .if_icmp .ne 67), (47, .aload_n 0, 1, .aload 0), (48, .getfield 84, 3, .getfield 1214), (51, .iload_n 3, 1, .iload 3), (52, .iaload, 1, .iaload), (53, .iconst (1), 1, .iconst (1)), (54, .iload_n 2, 1, .iload 2), (55, .ishl, 1, .ishl), (56, .if_icmp .lt (5), 3, .if_icmp .lt 61), (59, .iconst (-1), 1, .iconst (-1)), (60, .ireturn, 1, .ireturn)]),
  (61, [(61, .iinc 3 (1), 3, .iinc 3 (1)), (64, .goto (-30), 3, .goto 34)]),
  (67, [(67, .aload_n 0, 1, .aload 0), (68, .invokevirtual 250, 3, .invokeinterface 140 13010), (71, .aload_n 0, 1, .aload 0), (72, .getfield 93, 3, .getfield 1217), (75, .iload_n 1, 1, .iload 1), (76, .iaload, 1, .iaload), (77, .istore_n 3, 1, .istore 3), (78, .aload_n 0, 1, .aload 0), (79, .getfield 93, 3, .getfield 1217), (82, .iload_n 1, 1, .iload 1), (83, .iload_n 2, 1, .iload 2), (84, .iastore, 1, .iastore), (85, .iload_n 3, 1, .iload 3), (86, .ireturn, 1, .ireturn)])]
def ct_M_set : List (Nat × List Nat) := [(34, [0, 1, 2, 3])]
def bl_M_mix : List (Nat × List am_I) := [(0, [(0, .lload_n 0, 1, .lload 0), (1, .lload_n 0, 1, .lload 0), (2, .bipush (30), 2, .iconst (30)), (4, .lushr, 1, .lushr), (5, .lxor, 1, .lxor), (6, .ldc2_w 253, 3, .ldc2_w 13787848793156543929), (9, .lmul, 1, .lmul), (10, .lstore_n 2, 1, .lstore 2), (11, .lload_n 2, 1, .lload 2), (12, .lload_n 2, 1, .lload 2), (13, .bipush (27), 2, .iconst (27)), (15, .lushr, 1, .lushr), (16, .lxor, 1, .lxor), (17, .ldc2_w 255, 3, .ldc2_w 10723151780598845931), (20, .lmul, 1, .lmul), (21, .lstore 4, 2, .lstore 4), (23, .lload 4, 2, .lload 4), (25, .lload 4, 2, .lload 4), (27, .bipush (31), 2, .iconst (31)), (29, .lushr, 1, .lushr), (30, .lxor, 1, .lxor), (31, .lreturn, 1, .lreturn)])]
def ct_M_mix : List (Nat × List Nat) := []
def bl_M_hashOf : List (Nat × List am_I) := [(0, [(0, .lload_n 0, 1, .lload 0), (1, .lload_n 2, 1, .lload 2), (2, .invokestatic 257, 3, .invokeinterface 148 12), (5, .ladd, 1, .ladd), (6, .invokestatic 257, 3, .invokeinterface 148 12), (9, .lreturn, 1, .lreturn)])]
def ct_M_hashOf : List (Nat × List Nat) := []
def bl_M_printOf : List (Nat × List am_I) := [(0, [(0, .lload_n 0, 1, .lload 0), (1, .lload_n 0, 1, .lload 0), (2, .bipush (32), 2, .iconst (32)), (4, .lushr, 1, .lushr), (5, .lxor, 1, .lxor), (6, .l2i, 1, .l2i), (7, .iconst (1), 1, .iconst (1)), (8, .iload_n 2, 1, .iload 2), (9, .ishl, 1, .ishl), (10, .iconst (1), 1, .iconst (1)), (11, .isub, 1, .isub), (12, .iand, 1, .iand), (13, .ireturn, 1, .ireturn)])]
def ct_M_printOf : List (Nat × List Nat) := []
def bl_M_part : List (Nat × List am_I) := [(0, [(0, .lload_n 0, 1, .lload 0), (1, .bipush (16), 2, .iconst (16)), (3, .bipush (16), 2, .iconst (16)), (5, .iload_n 2, 1, .iload 2), (6, .imul, 1, .imul), (7, .iadd, 1, .iadd), (8, .lushr, 1, .lushr), (9, .l2i, 1, .l2i), (10, .ldc_w 261, 3, .iconst (65535)), (13, .iand, 1, .iand), (14, .ireturn, 1, .ireturn)])]
def ct_M_part : List (Nat × List Nat) := []
def bl_M_lays3 : List (Nat × List am_I) := [(0, [(0, .iconst (0), 1, .iconst (0)), (1, .istore 5, 2, .istore 5), (3, .nop, 0, .goto_w 3)]),
  (3, [(3, .iload 5, 2, .iload 5), (5, .iconst (3), 1, .iconst (3)), (6, .if_icmp .ge (107), 3, .if_icmp .ge 113), (9, .lload_n 1, 1, .lload 1), (10, .iload 5, 2, .iload 5), (12, .invokestatic 262, 3, .invokeinterface 151 21), (15, .istore 6, 2, .istore 6), (17, .iload 4, 2, .iload 4), (19, .ifCond .ne (26), 3, .ifCond .ne 45), (22, .aload_n 0, 1, .aload 0), (23, .getfield 105, 3, .getfield 1224), (26, .iload 5, 2, .iload 5), (28, .iload 5, 2, .iload 5), (30, .iload_n 3, 1, .iload 3), (31, .imul, 1, .imul), (32, .iload 6, 2, .iload 6), (34, .iload_n 3, 1, .iload 3), (35, .imul, 1, .imul), (36, .ldc_w 266, 3, .iconst (65536)), (39, .idiv, 1, .idiv), (40, .iadd, 1, .iadd), (41, .iastore, 1, .iastore), (42, .goto (65), 3, .goto 107)]),
  (45, [(45, .iload 4, 2, .iload 4), (47, .iconst (1), 1, .iconst (1)), (48, .if_icmp .ne (42), 3, .if_icmp .ne 90), (51, .iload 5, 2, .iload 5), (53, .ifCond .le (37), 3, .ifCond .le 90), (56, .aload_n 0, 1, .aload 0), (57, .getfield 105, 3, .getfield 1224), (60, .iload 5, 2, .iload 5), (62, .aload_n 0, 1, .aload 0), (63, .getfield 105, 3, .getfield 1224), (66, .iload 5, 2, .iload 5), (68, .iconst (1), 1, .iconst (1)), (69, .isub, 1, .isub), (70, .iaload, 1, .iaload), (71, .iconst (1), 1, .iconst (1)), (72, .iadd, 1, .iadd), (73, .iload 6, 2, .iload 6), (75, .iload_n 3, 1, .iload 3), (76, .imul, 1, .imul), (77, .ldc_w 266, 3, .iconst (65536)), (80, .idiv, 1, .idiv), (81, .iadd, 1, .iadd), (82, .iconst (3), 1, .iconst (3)), (83, .iload_n 3, 1, .iload 3), (84, .imul, 1, .imul), (85, .irem, 1, .irem), (86, .iastore, 1, .iastore), (87, .goto (20), 3, .goto 107)]),
  (90, [(90, .aload_n 0, 1, .aload 0), (91, .getfield 105, 3, .getfield 1224), (94, .iload 5, 2, .iload 5), (96, .iload 6, 2, .iload 6), (98, .iconst (3), 1, .iconst (3)), (99, .imul, 1, .imul), (100, .iload_n 3, 1, .iload 3), (101, .imul, 1, .imul), (102, .ldc_w 266, 3, .iconst (65536)), (105, .idiv, 1, .idiv), (106, .iastore, 1, .iastore), (107, .nop, 0, .goto_w 107)]),
  (107, [(107, .iinc 5 (1), 3, .iinc 5 (1)), (110, .goto (-107), 3, .goto 3)]),
  (113, [(113, .return_, 1, .return_)])]
def ct_M_lays3 : List (Nat × List Nat) := [(3, [0, 1, 3, 4, 5])]
def bl_M_touchesBy : List (Nat × List am_I) := [(0, [(0, .iconst (0), 1, .iconst (0)), (1, .istore_n 2, 1, .istore 2), (2, .iconst (0), 1, .iconst (0)), (3, .istore_n 3, 1, .istore 3), (4, .nop, 0, .goto_w 4)]),
  (4, [(4, .iload_n 3, 1, .iload 3), (5, .iconst (3), 1, .iconst (3)), (6, .if_icmp .ge (37), 3, .if_icmp .ge 43), (9, .aload_n 0, 1, .aload 0), (10, .getfield 105, 3, .getfield 1224), (13, .iload_n 3, 1, .iload 3), (14, .iaload, 1, .iaload), (15, .aload_n 0, 1, .aload 0), (16, .getfield 105, 3, .getfield 1224), (19, .iload_n 1, 1, .iload 1), (20, .iaload, 1, .iaload), (21, .if_icmp .eq (6), 3, .if_icmp .eq 27), (24, .goto (13), 3, .goto 37)]),
  (27, [(27, .iload_n 3, 1, .iload 3), (28, .iload_n 1, 1, .iload 1), (29, .if_icmp .ge (5), 3, .if_icmp .ge 34), (32, .iconst (0), 1, .iconst (0)), (33, .ireturn, 1, .ireturn)]),
  (34, [(34, .iinc 2 (1), 3, .iinc 2 (1)), (37, .nop, 0, .goto_w 37)]),
  (37, [(37, .iinc 3 (1), 3, .iinc 3 (1)), (40, .goto (-36), 3, .goto 4)]),
  (43, [(43, .iload_n 2, 1, .iload 2), (44, .iconst (2), 1, .iconst (2)), (45, .if_icmp .eq (7), 3, .if_icmp .eq 52), (48, .iconst (1), 1, .iconst (1)), (49, .goto (4), 3, .goto 53)]),
  (52, [(52, .iconst (0), 1, .iconst (0)), (53, .nop, 0, .goto_w 53)]),
  (53, [(53, .ireturn, 1, .ireturn)])]
def ct_M_touchesBy : List (Nat × List Nat) := [(4, [0, 1, 2, 3])]
def bl_M_hash : List (Nat × List am_I) := [(0, [(0, .aload_n 0, 1, .aload 0), (1, .iconst (0), 1, .iconst (0)), (2, .putfield 1, 3, .putfield 1200), (5, .lload_n 1, 1, .lload 1), (6, .iload_n 3, 1, .iload 3), (7, .i2l, 1, .i2l), (8, .invokestatic 267, 3, .invokeinterface 149 22), (11, .lreturn, 1, .lreturn)])]
def ct_M_hash : List (Nat × List Nat) := []
def bl_M_cell : List (Nat × List am_I) := [(0, [(0, .aload_n 0, 1, .aload 0), (1, .iconst (0), 1, .iconst (0)), (2, .putfield 1, 3, .putfield 1200), (5, .iload_n 3, 1, .iload 3), (6, .iconst (0), 1, .iconst (0)), (7, .iconst (2), 1, .iconst (2)), (8, .invokestatic 204, 3, .invokeinterface 113 31), (11, .ifCond .ne (5), 3, .ifCond .ne 16), (14, .iconst (-1), 1, .iconst (-1)), (15, .ireturn, 1, .ireturn)]),
  (16, [(16, .aload_n 0, 1, .aload 0), (17, .lload_n 1, 1, .lload 1), (18, .aload_n 0, 1, .aload 0), (19, .getfield 93, 3, .getfield 1217), (22, .iconst (4), 1, .iconst (4)), (23, .iaload, 1, .iaload), (24, .i2l, 1, .i2l), (25, .invokestatic 267, 3, .invokeinterface 149 22), (28, .aload_n 0, 1, .aload 0), (29, .getfield 93, 3, .getfield 1217), (32, .iconst (1), 1, .iconst (1)), (33, .iaload, 1, .iaload), (34, .aload_n 0, 1, .aload 0), (35, .getfield 93, 3, .getfield 1217), (38, .bipush (6), 2, .iconst (6)), (40, .iaload, 1, .iaload), (41, .invokevirtual 271, 3, .invokeinterface 152 13040), (44, .aload_n 0, 1, .aload 0), (45, .getfield 105, 3, .getfield 1224), (48, .iload_n 3, 1, .iload 3), (49, .iaload, 1, .iaload), (50, .ireturn, 1, .ireturn)])]
def ct_M_cell : List (Nat × List Nat) := []
def bl_M_print : List (Nat × List am_I) := [(0, [(0, .aload_n 0, 1, .aload 0), (1, .iconst (0), 1, .iconst (0)), (2, .putfield 1, 3, .putfield 1200), (5, .lload_n 1, 1, .lload 1), (6, .aload_n 0, 1, .aload 0), (7, .getfield 93, 3, .getfield 1217), (10, .iconst (4), 1, .iconst (4)), (11, .iaload, 1, .iaload), (12, .i2l, 1, .i2l), (13, .invokestatic 267, 3, .invokeinterface 149 22), (16, .aload_n 0, 1, .aload 0), (17, .getfield 93, 3, .getfield 1217), (20, .iconst (2), 1, .iconst (2)), (21, .iaload, 1, .iaload), (22, .invokestatic 275, 3, .invokeinterface 150 21), (25, .ireturn, 1, .ireturn)])]
def ct_M_print : List (Nat × List Nat) := []
def bl_M_nets : List (Nat × List am_I) := [(0, [(0, .iconst (0), 1, .iconst (0)), (1, .istore 5, 2, .istore 5), (3, .nop, 0, .goto_w 3)]),
  (3, [(3, .iload 5, 2, .iload 5), (5, .bipush (96), 2, .iconst (96)), (7, .if_icmp .ge (25), 3, .if_icmp .ge 32), (10, .aload_n 0, 1, .aload 0), (11, .getfield 114, 3, .getfield 1227), (14, .iload 5, 2, .iload 5), (16, .iconst (0), 1, .iconst (0)), (17, .iastore, 1, .iastore), (18, .aload_n 0, 1, .aload 0), (19, .getfield 117, 3, .getfield 1228), (22, .iload 5, 2, .iload 5), (24, .iconst (0), 1, .iconst (0)), (25, .iastore, 1, .iastore), (26, .iinc 5 (1), 3, .iinc 5 (1)), (29, .goto (-26), 3, .goto 3)]),
  (32, [(32, .aload_n 0, 1, .aload 0), (33, .iconst (0), 1, .iconst (0)), (34, .putfield 278, 3, .putfield 1230), (37, .iconst (0), 1, .iconst (0)), (38, .istore 5, 2, .istore 5), (40, .nop, 0, .goto_w 40)]),
  (40, [(40, .iload 5, 2, .iload 5), (42, .aload_n 0, 1, .aload 0), (43, .getfield 230, 3, .getfield 1221), (46, .if_icmp .ge (233), 3, .if_icmp .ge 279), (49, .aload_n 0, 1, .aload 0), (50, .aload_n 0, 1, .aload 0), (51, .getfield 74, 3, .getfield 1211), (54, .iload 5, 2, .iload 5), (56, .laload, 1, .laload), (57, .lload_n 2, 1, .lload 2), (58, .invokestatic 267, 3, .invokeinterface 149 22), (61, .iload_n 1, 1, .iload 1), (62, .aload_n 0, 1, .aload 0), (63, .getfield 93, 3, .getfield 1217), (66, .bipush (6), 2, .iconst (6)), (68, .iaload, 1, .iaload), (69, .invokevirtual 271, 3, .invokeinterface 152 13040), (72, .aload_n 0, 1, .aload 0), (73, .getfield 111, 3, .getfield 1226), (76, .iload 5, 2, .iload 5), (78, .iconst (0), 1, .iconst (0)), (79, .iastore, 1, .iastore), (80, .iconst (0), 1, .iconst (0)), (81, .istore 6, 2, .istore 6), (83, .nop, 0, .goto_w 83)]),
  (83, [(83, .iload 6, 2, .iload 6), (85, .iconst (3), 1, .iconst (3)), (86, .if_icmp .ge (56), 3, .if_icmp .ge 142), (89, .aload_n 0, 1, .aload 0), (90, .iload 6, 2, .iload 6), (92, .invokevirtual 281, 3, .invokeinterface 153 13021), (95, .ifCond .ne (6), 3, .ifCond .ne 101), (98, .goto (38), 3, .goto 136)]),
  (101, [(101, .aload_n 0, 1, .aload 0), (102, .getfield 108, 3, .getfield 1225), (105, .iconst (3), 1, .iconst (3)), (106, .iload 5, 2, .iload 5), (108, .imul, 1, .imul), (109, .aload_n 0, 1, .aload 0), (110, .getfield 111, 3, .getfield 1226), (113, .iload 5, 2, .iload 5), (115, .iaload, 1, .iaload), (116, .iadd, 1, .iadd), (117, .aload_n 0, 1, .aload 0), (118, .getfield 105, 3, .getfield 1224), (121, .iload 6, 2, .iload 6), (123, .iaload, 1, .iaload), (124, .iastore, 1, .iastore), (125, .aload_n 0, 1, .aload 0), (126, .getfield 111, 3, .getfield 1226), (129, .iload 5, 2, .iload 5), (131, .dup2, 1, .dup2), (132, .iaload, 1, .iaload), (133, .iconst (1), 1, .iconst (1)), (134, .iadd, 1, .iadd), (135, .iastore, 1, .iastore), (136, .nop, 0, .goto_w 136)]),
  (136, [(136, .iinc 6 (1), 3, .iinc 6 (1)), (139, .goto (-56), 3, .goto 83)]),
  (142, [(142, .aload_n 0, 1, .aload 0), (143, .getfield 120, 3, .getfield 1229), (146, .iload 5, 2, .iload 5), (148, .iconst (1), 1, .iconst (1)), (149, .bastore, 1, .bastore), (150, .iconst (0), 1, .iconst (0)), (151, .istore 6, 2, .istore 6), (153, .nop, 0, .goto_w 153)]),
  (153, [(153, .iload 6, 2, .iload 6), (155, .iload 4, 2, .iload 4), (157, .if_icmp .ge (29), 3, .if_icmp .ge 186), (160, .aload_n 0, 1, .aload 0), (161, .getfield 124, 3, .getfield 1231), (164, .iload 6, 2, .iload 6), (166, .iaload, 1, .iaload), (167, .iload 5, 2, .iload 5), (169, .if_icmp .ne (11), 3, .if_icmp .ne 180), (172, .aload_n 0, 1, .aload 0), (173, .getfield 120, 3, .getfield 1229), (176, .iload 5, 2, .iload 5), (178, .iconst (0), 1, .iconst (0)), (179, .bastore, 1, .bastore), (180, .nop, 0, .goto_w 180)]),
  (180, [(180, .iinc 6 (1), 3, .iinc 6 (1)), (183, .goto (-30), 3, .goto 153)]),
  (186, [(186, .aload_n 0, 1, .aload 0), (187, .getfield 120, 3, .getfield 1229), (190, .iload 5, 2, .iload 5), (192, .baload, 1, .baload), (193, .ifCond .ne (6), 3, .ifCond .ne 199), (196, .goto (77), 3, .goto 273)]),
  (199, [(199, .aload_n 0, 1, .aload 0), (200, .dup, 1, .dup), (201, .getfield 278, 3, .getfield 1230), (204, .iconst (1), 1, .iconst (1)), (205, .iadd, 1, .iadd), (206, .putfield 278, 3, .putfield 1230), (209, .iconst (0), 1, .iconst (0)), (210, .istore 6, 2, .istore 6), (212, .nop, 0, .goto_w 212)]),
  (212, [(212, .iload 6, 2, .iload 6), (214, .aload_n 0, 1, .aload 0), (215, .getfield 111, 3, .getfield 1226), (218, .iload 5, 2, .iload 5), (220, .iaload, 1, .iaload), (221, .if_icmp .ge (52), 3, .if_icmp .ge 273), (224, .aload_n 0, 1, .aload 0), (225, .getfield 114, 3, .getfield 1227), (228, .aload_n 0, 1, .aload 0), (229, .getfield 108, 3, .getfield 1225), (232, .iconst (3), 1, .iconst (3)), (233, .iload 5, 2, .iload 5), (235, .imul, 1, .imul), (236, .iload 6, 2, .iload 6), (238, .iadd, 1, .iadd), (239, .iaload, 1, .iaload), (240, .dup2, 1, .dup2), (241, .iaload, 1, .iaload), (242, .iconst (1), 1, .iconst (1)), (243, .iadd, 1, .iadd), (244, .iastore, 1, .iastore), (245, .aload_n 0, 1, .aload 0), (246, .getfield 117, 3, .getfield 1228), (249, .aload_n 0, 1, .aload 0), (250, .getfield 108, 3, .getfield 1225), (253, .iconst (3), 1, .iconst (3)), (254, .iload 5, 2, .iload 5), (256, .imul, 1, .imul), (257, .iload 6, 2, .iload 6), (259, .iadd, 1, .iadd), (260, .iaload, 1, .iaload), (261, .dup2, 1, .dup2), (262, .iaload, 1, .iaload), (263, .iload 5, 2, .iload 5), (265, .iadd, 1, .iadd), (266, .iastore, 1, .iastore), (267, .iinc 6 (1), 3, .iinc 6 (1)), (270, .goto (-58), 3, .goto 212)]),
  (273, [(273, .iinc 5 (1), 3, .iinc 5 (1)), (276, .goto (-236), 3, .goto 40)]),
  (279, [(279, .return_, 1, .return_)])]
def ct_M_nets : List (Nat × List Nat) := [(3, [0, 1, 2, 4, 5]), (40, [0, 1, 2, 4, 5]), (83, [0, 1, 2, 4, 5, 6]), (153, [0, 1, 2, 4, 5, 6]), (212, [0, 1, 2, 4, 5, 6])]
def bl_M_netNow : List (Nat × List am_I) := [(0, [(0, .aload_n 0, 1, .aload 0), (1, .aload_n 0, 1, .aload 0), (2, .getfield 93, 3, .getfield 1217), (5, .iconst (1), 1, .iconst (1)), (6, .iaload, 1, .iaload), (7, .aload_n 0, 1, .aload 0), (8, .getfield 93, 3, .getfield 1217), (11, .iconst (4), 1, .iconst (4)), (12, .iaload, 1, .iaload), (13, .i2l, 1, .i2l), (14, .iconst (0), 1, .iconst (0)), (15, .invokevirtual 284, 3, .invokeinterface 157 13040), (18, .return_, 1, .return_)])]
def ct_M_netNow : List (Nat × List Nat) := []
def bl_M_takesOut : List (Nat × List am_I) := [(0, [(0, .aload_n 0, 1, .aload 0), (1, .getfield 120, 3, .getfield 1229), (4, .iload_n 1, 1, .iload 1), (5, .iconst (0), 1, .iconst (0)), (6, .bastore, 1, .bastore), (7, .aload_n 0, 1, .aload 0), (8, .dup, 1, .dup), (9, .getfield 278, 3, .getfield 1230), (12, .iconst (1), 1, .iconst (1)), (13, .isub, 1, .isub), (14, .putfield 278, 3, .putfield 1230), (17, .iconst (0), 1, .iconst (0)), (18, .istore_n 2, 1, .istore 2), (19, .nop, 0, .goto_w 19)]),
  (19, [(19, .iload_n 2, 1, .iload 2), (20, .aload_n 0, 1, .aload 0), (21, .getfield 111, 3, .getfield 1226), (24, .iload_n 1, 1, .iload 1), (25, .iaload, 1, .iaload), (26, .if_icmp .ge (47), 3, .if_icmp .ge 73), (29, .aload_n 0, 1, .aload 0), (30, .getfield 114, 3, .getfield 1227), (33, .aload_n 0, 1, .aload 0), (34, .getfield 108, 3, .getfield 1225), (37, .iconst (3), 1, .iconst (3)), (38, .iload_n 1, 1, .iload 1), (39, .imul, 1, .imul), (40, .iload_n 2, 1, .iload 2), (41, .iadd, 1, .iadd), (42, .iaload, 1, .iaload), (43, .dup2, 1, .dup2), (44, .iaload, 1, .iaload), (45, .iconst (1), 1, .iconst (1)), (46, .isub, 1, .isub), (47, .iastore, 1, .iastore), (48, .aload_n 0, 1, .aload 0), (49, .getfield 117, 3, .getfield 1228), (52, .aload_n 0, 1, .aload 0), (53, .getfield 108, 3, .getfield 1225), (56, .iconst (3), 1, .iconst (3)), (57, .iload_n 1, 1, .iload 1), (58, .imul, 1, .imul), (59, .iload_n 2, 1, .iload 2), (60, .iadd, 1, .iadd), (61, .iaload, 1, .iaload), (62, .dup2, 1, .dup2), (63, .iaload, 1, .iaload), (64, .iload_n 1, 1, .iload 1), (65, .isub, 1, .isub), (66, .iastore, 1, .iastore), (67, .iinc 2 (1), 3, .iinc 2 (1)), (70, .goto (-51), 3, .goto 19)]),
  (73, [(73, .return_, 1, .return_)])]
def ct_M_takesOut : List (Nat × List Nat) := [(19, [0, 1, 2])]
def bl_M_nextCell : List (Nat × List am_I) := [(0, [(0, .iload_n 2, 1, .iload 2), (1, .iconst (1), 1, .iconst (1)), (2, .if_icmp .le (32), 3, .if_icmp .le 34), (5, .iconst (0), 1, .iconst (0)), (6, .istore_n 3, 1, .istore 3), (7, .nop, 0, .goto_w 7)]),
  (7, [(7, .iload_n 3, 1, .iload 3), (8, .iconst (3), 1, .iconst (3)), (9, .iload_n 1, 1, .iload 1), (10, .imul, 1, .imul), (11, .if_icmp .ge (21), 3, .if_icmp .ge 32), (14, .aload_n 0, 1, .aload 0), (15, .getfield 114, 3, .getfield 1227), (18, .iload_n 3, 1, .iload 3), (19, .iaload, 1, .iaload), (20, .iconst (1), 1, .iconst (1)), (21, .if_icmp .ne (5), 3, .if_icmp .ne 26), (24, .iload_n 3, 1, .iload 3), (25, .ireturn, 1, .ireturn)]),
  (26, [(26, .iinc 3 (1), 3, .iinc 3 (1)), (29, .goto (-22), 3, .goto 7)]),
  (32, [(32, .iconst (-1), 1, .iconst (-1)), (33, .ireturn, 1, .ireturn)]),
  (34, [(34, .aload_n 0, 1, .aload 0), (35, .getfield 288, 3, .getfield 1235), (38, .aload_n 0, 1, .aload 0), (39, .getfield 291, 3, .getfield 1236), (42, .if_icmp .ge (65), 3, .if_icmp .ge 107), (45, .iload_n 2, 1, .iload 2), (46, .ifCond .ne (26), 3, .ifCond .ne 72), (49, .aload_n 0, 1, .aload 0), (50, .getfield 127, 3, .getfield 1232), (53, .aload_n 0, 1, .aload 0), (54, .getfield 288, 3, .getfield 1235), (57, .iaload, 1, .iaload), (58, .istore_n 3, 1, .istore 3), (59, .aload_n 0, 1, .aload 0), (60, .dup, 1, .dup), (61, .getfield 288, 3, .getfield 1235), (64, .iconst (1), 1, .iconst (1)), (65, .iadd, 1, .iadd), (66, .putfield 288, 3, .putfield 1235), (69, .goto (23), 3, .goto 92)]),
  (72, [(72, .aload_n 0, 1, .aload 0), (73, .dup, 1, .dup), (74, .getfield 291, 3, .getfield 1236), (77, .iconst (1), 1, .iconst (1)), (78, .isub, 1, .isub), (79, .putfield 291, 3, .putfield 1236), (82, .aload_n 0, 1, .aload 0), (83, .getfield 127, 3, .getfield 1232), (86, .aload_n 0, 1, .aload 0), (87, .getfield 291, 3, .getfield 1236), (90, .iaload, 1, .iaload), (91, .istore_n 3, 1, .istore 3), (92, .nop, 0, .goto_w 92)]),
  (92, [(92, .aload_n 0, 1, .aload 0), (93, .getfield 114, 3, .getfield 1227), (96, .iload_n 3, 1, .iload 3), (97, .iaload, 1, .iaload), (98, .iconst (1), 1, .iconst (1)), (99, .if_icmp .ne (5), 3, .if_icmp .ne 104), (102, .iload_n 3, 1, .iload 3), (103, .ireturn, 1, .ireturn)]),
  (104, [(104, .goto (-70), 3, .goto 34)]),
  (107, [(107, .iconst (-1), 1, .iconst (-1)), (108, .ireturn, 1, .ireturn)])]
def ct_M_nextCell : List (Nat × List Nat) := [(7, [0, 1, 3]), (34, [0, 2])]
def bl_M_comesBehind : List (Nat × List am_I) := [(0, [(0, .aload_n 0, 1, .aload 0), (1, .getfield 127, 3, .getfield 1232), (4, .aload_n 0, 1, .aload 0), (5, .getfield 291, 3, .getfield 1236), (8, .iload_n 1, 1, .iload 1), (9, .iastore, 1, .iastore), (10, .aload_n 0, 1, .aload 0), (11, .dup, 1, .dup), (12, .getfield 291, 3, .getfield 1236), (15, .iconst (1), 1, .iconst (1)), (16, .iadd, 1, .iadd), (17, .putfield 291, 3, .putfield 1236), (20, .return_, 1, .return_)])]
def ct_M_comesBehind : List (Nat × List Nat) := []
def bl_M_peelsBy : List (Nat × List am_I) := [(0, [(0, .aload_n 0, 1, .aload 0), (1, .iconst (0), 1, .iconst (0)), (2, .putfield 288, 3, .putfield 1235), (5, .aload_n 0, 1, .aload 0), (6, .iconst (0), 1, .iconst (0)), (7, .putfield 291, 3, .putfield 1236), (10, .aload_n 0, 1, .aload 0), (11, .iconst (0), 1, .iconst (0)), (12, .putfield 294, 3, .putfield 1237), (15, .iconst (0), 1, .iconst (0)), (16, .istore_n 3, 1, .istore 3), (17, .nop, 0, .goto_w 17)]),
  (17, [(17, .iload_n 3, 1, .iload 3), (18, .iconst (3), 1, .iconst (3)), (19, .iload_n 1, 1, .iload 1), (20, .imul, 1, .imul), (21, .if_icmp .ge (24), 3, .if_icmp .ge 45), (24, .aload_n 0, 1, .aload 0), (25, .getfield 114, 3, .getfield 1227), (28, .iload_n 3, 1, .iload 3), (29, .iaload, 1, .iaload), (30, .iconst (1), 1, .iconst (1)), (31, .if_icmp .ne (8), 3, .if_icmp .ne 39), (34, .aload_n 0, 1, .aload 0), (35, .iload_n 3, 1, .iload 3), (36, .invokevirtual 297, 3, .invokeinterface 161 13020), (39, .nop, 0, .goto_w 39)]),
  (39, [(39, .iinc 3 (1), 3, .iinc 3 (1)), (42, .goto (-25), 3, .goto 17)]),
  (45, [(45, .aload_n 0, 1, .aload 0), (46, .iload_n 1, 1, .iload 1), (47, .iload_n 2, 1, .iload 2), (48, .invokevirtual 300, 3, .invokeinterface 160 13031), (51, .istore_n 3, 1, .istore 3), (52, .nop, 0, .goto_w 52)]),
  (52, [(52, .iload_n 3, 1, .iload 3), (53, .iconst (-1), 1, .iconst (-1)), (54, .if_icmp .eq (103), 3, .if_icmp .eq 157), (57, .aload_n 0, 1, .aload 0), (58, .getfield 117, 3, .getfield 1228), (61, .iload_n 3, 1, .iload 3), (62, .iaload, 1, .iaload), (63, .istore 4, 2, .istore 4), (65, .aload_n 0, 1, .aload 0), (66, .getfield 130, 3, .getfield 1233), (69, .aload_n 0, 1, .aload 0), (70, .getfield 294, 3, .getfield 1237), (73, .iload 4, 2, .iload 4), (75, .iastore, 1, .iastore), (76, .aload_n 0, 1, .aload 0), (77, .getfield 133, 3, .getfield 1234), (80, .aload_n 0, 1, .aload 0), (81, .getfield 294, 3, .getfield 1237), (84, .iload_n 3, 1, .iload 3), (85, .iastore, 1, .iastore), (86, .aload_n 0, 1, .aload 0), (87, .dup, 1, .dup), (88, .getfield 294, 3, .getfield 1237), (91, .iconst (1), 1, .iconst (1)), (92, .iadd, 1, .iadd), (93, .putfield 294, 3, .putfield 1237), (96, .aload_n 0, 1, .aload 0), (97, .iload 4, 2, .iload 4), (99, .invokevirtual 304, 3, .invokeinterface 159 13020), (102, .iconst (0), 1, .iconst (0)), (103, .istore 5, 2, .istore 5), (105, .nop, 0, .goto_w 105)]),
  (105, [(105, .iload 5, 2, .iload 5), (107, .iconst (3), 1, .iconst (3)), (108, .iload_n 1, 1, .iload 1), (109, .imul, 1, .imul), (110, .if_icmp .ge (37), 3, .if_icmp .ge 147), (113, .aload_n 0, 1, .aload 0), (114, .getfield 114, 3, .getfield 1227), (117, .iload 5, 2, .iload 5), (119, .iaload, 1, .iaload), (120, .iconst (1), 1, .iconst (1)), (121, .if_icmp .ne (20), 3, .if_icmp .ne 141), (124, .aload_n 0, 1, .aload 0), (125, .iload 4, 2, .iload 4), (127, .iload 5, 2, .iload 5), (129, .invokevirtual 307, 3, .invokeinterface 163 13031), (132, .ifCond .eq (9), 3, .ifCond .eq 141), (135, .aload_n 0, 1, .aload 0), (136, .iload 5, 2, .iload 5), (138, .invokevirtual 297, 3, .invokeinterface 161 13020), (141, .nop, 0, .goto_w 141)]),
  (141, [(141, .iinc 5 (1), 3, .iinc 5 (1)), (144, .goto (-39), 3, .goto 105)]),
  (147, [(147, .aload_n 0, 1, .aload 0), (148, .iload_n 1, 1, .iload 1), (149, .iload_n 2, 1, .iload 2), (150, .invokevirtual 300, 3, .invokeinterface 160 13031), (153, .istore_n 3, 1, .istore 3), (154, .goto (-102), 3, .goto 52)]),
  (157, [(157, .return_, 1, .return_)])]
def ct_M_peelsBy : List (Nat × List Nat) := [(17, [0, 1, 2, 3]), (52, [0, 1, 2, 3]), (105, [0, 1, 2, 4, 5])]
def bl_M_isOf : List (Nat × List am_I) := [(0, [(0, .iconst (0), 1, .iconst (0)), (1, .istore_n 3, 1, .istore 3), (2, .nop, 0, .goto_w 2)]),
  (2, [(2, .iload_n 3, 1, .iload 3), (3, .aload_n 0, 1, .aload 0), (4, .getfield 111, 3, .getfield 1226), (7, .iload_n 1, 1, .iload 1), (8, .iaload, 1, .iaload), (9, .if_icmp .ge (25), 3, .if_icmp .ge 34), (12, .aload_n 0, 1, .aload 0), (13, .getfield 108, 3, .getfield 1225), (16, .iconst (3), 1, .iconst (3)), (17, .iload_n 1, 1, .iload 1), (18, .imul, 1, .imul), (19, .iload_n 3, 1, .iload 3), (20, .iadd, 1, .iadd), (21, .iaload, 1, .iaload), (22, .iload_n 2, 1, .iload 2), (23, .if_icmp .ne (5), 3, .if_icmp .ne 28), (26, .iconst (1), 1, .iconst (1)), (27, .ireturn, 1, .ireturn)]),
  (28, [(28, .iinc 3 (1), 3, .iinc 3 (1)), (31, .goto (-29), 3, .goto 2)]),
  (34, [(34, .iconst (0), 1, .iconst (0)), (35, .ireturn, 1, .ireturn)])]
def ct_M_isOf : List (Nat × List Nat) := [(2, [0, 1, 2, 3])]
def bl_M_peelNow : List (Nat × List am_I) := [(0, [(0, .aload_n 0, 1, .aload 0), (1, .invokevirtual 311, 3, .invokeinterface 158 13010), (4, .aload_n 0, 1, .aload 0), (5, .aload_n 0, 1, .aload 0), (6, .getfield 93, 3, .getfield 1217), (9, .iconst (1), 1, .iconst (1)), (10, .iaload, 1, .iaload), (11, .aload_n 0, 1, .aload 0), (12, .getfield 93, 3, .getfield 1217), (15, .iconst (5), 1, .iconst (5)), (16, .iaload, 1, .iaload), (17, .invokevirtual 314, 3, .invokeinterface 162 13030), (20, .return_, 1, .return_)])]
def ct_M_peelNow : List (Nat × List Nat) := []
def bl_M_peelsAll : List (Nat × List am_I) := [(0, [(0, .aload_n 0, 1, .aload 0), (1, .iload_n 1, 1, .iload 1), (2, .lload_n 2, 1, .lload 2), (3, .iload 4, 2, .iload 4), (5, .invokevirtual 284, 3, .invokeinterface 157 13040), (8, .aload_n 0, 1, .aload 0), (9, .iload_n 1, 1, .iload 1), (10, .iconst (0), 1, .iconst (0)), (11, .invokevirtual 314, 3, .invokeinterface 162 13030), (14, .aload_n 0, 1, .aload 0), (15, .getfield 278, 3, .getfield 1230), (18, .ifCond .ne (7), 3, .ifCond .ne 25), (21, .iconst (1), 1, .iconst (1)), (22, .goto (4), 3, .goto 26)]),
  (25, [(25, .iconst (0), 1, .iconst (0)), (26, .nop, 0, .goto_w 26)]),
  (26, [(26, .ireturn, 1, .ireturn)])]
def ct_M_peelsAll : List (Nat × List Nat) := []
def bl_M_load : List (Nat × List am_I) := [(0, [(0, .aload_n 0, 1, .aload 0), (1, .iconst (0), 1, .iconst (0)), (2, .putfield 1, 3, .putfield 1200), (5, .iload_n 1, 1, .iload 1), (6, .iconst (0), 1, .iconst (0)), (7, .iconst (3), 1, .iconst (3)), (8, .aload_n 0, 1, .aload 0), (9, .getfield 93, 3, .getfield 1217), (12, .iconst (1), 1, .iconst (1)), (13, .iaload, 1, .iaload), (14, .imul, 1, .imul), (15, .iconst (1), 1, .iconst (1)), (16, .isub, 1, .isub), (17, .invokestatic 204, 3, .invokeinterface 113 31), (20, .ifCond .ne (5), 3, .ifCond .ne 25), (23, .iconst (-1), 1, .iconst (-1)), (24, .ireturn, 1, .ireturn)]),
  (25, [(25, .aload_n 0, 1, .aload 0), (26, .invokevirtual 311, 3, .invokeinterface 158 13010), (29, .aload_n 0, 1, .aload 0), (30, .getfield 114, 3, .getfield 1227), (33, .iload_n 1, 1, .iload 1), (34, .iaload, 1, .iaload), (35, .ireturn, 1, .ireturn)])]
def ct_M_load : List (Nat × List Nat) := []
def bl_M_twins : List (Nat × List am_I) := [(0, [(0, .aload_n 0, 1, .aload 0), (1, .iconst (0), 1, .iconst (0)), (2, .putfield 1, 3, .putfield 1200), (5, .aload_n 0, 1, .aload 0), (6, .invokevirtual 311, 3, .invokeinterface 158 13010), (9, .iconst (0), 1, .iconst (0)), (10, .istore_n 1, 1, .istore 1), (11, .iconst (0), 1, .iconst (0)), (12, .istore_n 2, 1, .istore 2), (13, .nop, 0, .goto_w 13)]),
  (13, [(13, .iload_n 2, 1, .iload 2), (14, .aload_n 0, 1, .aload 0), (15, .getfield 230, 3, .getfield 1221), (18, .if_icmp .ge (34), 3, .if_icmp .ge 52), (21, .iconst (0), 1, .iconst (0)), (22, .istore_n 3, 1, .istore 3), (23, .nop, 0, .goto_w 23)]),
  (23, [(23, .iload_n 3, 1, .iload 3), (24, .iload_n 2, 1, .iload 2), (25, .if_icmp .ge (21), 3, .if_icmp .ge 46), (28, .aload_n 0, 1, .aload 0), (29, .iload_n 2, 1, .iload 2), (30, .iload_n 3, 1, .iload 3), (31, .invokevirtual 318, 3, .invokeinterface 168 13031), (34, .ifCond .eq (6), 3, .ifCond .eq 40), (37, .iinc 1 (1), 3, .iinc 1 (1)), (40, .nop, 0, .goto_w 40)]),
  (40, [(40, .iinc 3 (1), 3, .iinc 3 (1)), (43, .goto (-20), 3, .goto 23)]),
  (46, [(46, .iinc 2 (1), 3, .iinc 2 (1)), (49, .goto (-36), 3, .goto 13)]),
  (52, [(52, .iload_n 1, 1, .iload 1), (53, .ireturn, 1, .ireturn)])]
def ct_M_twins : List (Nat × List Nat) := [(13, [0, 1, 2]), (23, [0, 1, 2, 3])]
def bl_M_areTwins : List (Nat × List am_I) := [(0, [(0, .aload_n 0, 1, .aload 0), (1, .getfield 111, 3, .getfield 1226), (4, .iload_n 1, 1, .iload 1), (5, .iaload, 1, .iaload), (6, .aload_n 0, 1, .aload 0), (7, .getfield 111, 3, .getfield 1226), (10, .iload_n 2, 1, .iload 2), (11, .iaload, 1, .iaload), (12, .if_icmp .eq (5), 3, .if_icmp .eq 17), (15, .iconst (0), 1, .iconst (0)), (16, .ireturn, 1, .ireturn)]),
  (17, [(17, .iconst (0), 1, .iconst (0)), (18, .istore_n 3, 1, .istore 3), (19, .nop, 0, .goto_w 19)]),
  (19, [(19, .iload_n 3, 1, .iload 3), (20, .aload_n 0, 1, .aload 0), (21, .getfield 111, 3, .getfield 1226), (24, .iload_n 1, 1, .iload 1), (25, .iaload, 1, .iaload), (26, .if_icmp .ge (29), 3, .if_icmp .ge 55), (29, .aload_n 0, 1, .aload 0), (30, .iload_n 2, 1, .iload 2), (31, .aload_n 0, 1, .aload 0), (32, .getfield 108, 3, .getfield 1225), (35, .iconst (3), 1, .iconst (3)), (36, .iload_n 1, 1, .iload 1), (37, .imul, 1, .imul), (38, .iload_n 3, 1, .iload 3), (39, .iadd, 1, .iadd), (40, .iaload, 1, .iaload), (41, .invokevirtual 307, 3, .invokeinterface 163 13031), (44, .ifCond .ne (5), 3, .ifCond .ne 49), (47, .iconst (0), 1, .iconst (0)), (48, .ireturn, 1, .ireturn)]),
  (49, [(49, .iinc 3 (1), 3, .iinc 3 (1)), (52, .goto (-33), 3, .goto 19)]),
  (55, [(55, .iconst (1), 1, .iconst (1)), (56, .ireturn, 1, .ireturn)])]
def ct_M_areTwins : List (Nat × List Nat) := [(19, [0, 1, 2, 3])]
def bl_M_peel : List (Nat × List am_I) := [(0, [(0, .aload_n 0, 1, .aload 0), (1, .iconst (0), 1, .iconst (0)), (2, .putfield 1, 3, .putfield 1200), (5, .aload_n 0, 1, .aload 0), (6, .invokevirtual 321, 3, .invokeinterface 164 13010), (9, .iload_n 1, 1, .iload 1), (10, .iconst (-1), 1, .iconst (-1)), (11, .if_icmp .ne (16), 3, .if_icmp .ne 27), (14, .iload_n 2, 1, .iload 2), (15, .ifCond .ne (10), 3, .ifCond .ne 25), (18, .aload_n 0, 1, .aload 0), (19, .getfield 294, 3, .getfield 1237), (22, .goto (4), 3, .goto 26)]),
  (25, [(25, .iconst (-1), 1, .iconst (-1)), (26, .nop, 0, .goto_w 26)]),
  (26, [(26, .ireturn, 1, .ireturn)]),
  (27, [(27, .iload_n 1, 1, .iload 1), (28, .iconst (0), 1, .iconst (0)), (29, .aload_n 0, 1, .aload 0), (30, .getfield 294, 3, .getfield 1237), (33, .iconst (1), 1, .iconst (1)), (34, .isub, 1, .isub), (35, .invokestatic 204, 3, .invokeinterface 113 31), (38, .ifCond .eq (12), 3, .ifCond .eq 50), (41, .iload_n 2, 1, .iload 2), (42, .iconst (0), 1, .iconst (0)), (43, .iconst (1), 1, .iconst (1)), (44, .invokestatic 204, 3, .invokeinterface 113 31), (47, .ifCond .ne (5), 3, .ifCond .ne 52), (50, .nop, 0, .goto_w 50)]),
  (50, [(50, .iconst (-1), 1, .iconst (-1)), (51, .ireturn, 1, .ireturn)]),
  (52, [(52, .iload_n 2, 1, .iload 2), (53, .ifCond .ne (12), 3, .ifCond .ne 65), (56, .aload_n 0, 1, .aload 0), (57, .getfield 130, 3, .getfield 1233), (60, .iload_n 1, 1, .iload 1), (61, .iaload, 1, .iaload), (62, .goto (9), 3, .goto 71)]),
  (65, [(65, .aload_n 0, 1, .aload 0), (66, .getfield 133, 3, .getfield 1234), (69, .iload_n 1, 1, .iload 1), (70, .iaload, 1, .iaload), (71, .nop, 0, .goto_w 71)]),
  (71, [(71, .ireturn, 1, .ireturn)])]
def ct_M_peel : List (Nat × List Nat) := []
def bl_M_core : List (Nat × List am_I) := [(0, [(0, .aload_n 0, 1, .aload 0), (1, .iconst (0), 1, .iconst (0)), (2, .putfield 1, 3, .putfield 1200), (5, .aload_n 0, 1, .aload 0), (6, .invokevirtual 321, 3, .invokeinterface 164 13010), (9, .iload_n 1, 1, .iload 1), (10, .iconst (-1), 1, .iconst (-1)), (11, .if_icmp .ne (8), 3, .if_icmp .ne 19), (14, .aload_n 0, 1, .aload 0), (15, .getfield 278, 3, .getfield 1230), (18, .ireturn, 1, .ireturn)]),
  (19, [(19, .iload_n 1, 1, .iload 1), (20, .istore_n 2, 1, .istore 2), (21, .iconst (0), 1, .iconst (0)), (22, .istore_n 3, 1, .istore 3), (23, .nop, 0, .goto_w 23)]),
  (23, [(23, .iload_n 3, 1, .iload 3), (24, .aload_n 0, 1, .aload 0), (25, .getfield 230, 3, .getfield 1221), (28, .if_icmp .ge (34), 3, .if_icmp .ge 62), (31, .iload_n 1, 1, .iload 1), (32, .ifCond .lt (30), 3, .ifCond .lt 62), (35, .aload_n 0, 1, .aload 0), (36, .getfield 120, 3, .getfield 1229), (39, .iload_n 3, 1, .iload 3), (40, .baload, 1, .baload), (41, .ifCond .ne (6), 3, .ifCond .ne 47), (44, .goto (12), 3, .goto 56)]),
  (47, [(47, .iload_n 2, 1, .iload 2), (48, .ifCond .ne (5), 3, .ifCond .ne 53), (51, .iload_n 3, 1, .iload 3), (52, .ireturn, 1, .ireturn)]),
  (53, [(53, .iinc 2 (-1), 3, .iinc 2 (-1)), (56, .nop, 0, .goto_w 56)]),
  (56, [(56, .iinc 3 (1), 3, .iinc 3 (1)), (59, .goto (-36), 3, .goto 23)]),
  (62, [(62, .bipush (-2), 2, .iconst (-2)), (64, .ireturn, 1, .ireturn)])]
def ct_M_core : List (Nat × List Nat) := [(23, [0, 1, 2, 3])]
def bl_M_laysLevels : List (Nat × List am_I) := [(0, [(0, .aload_n 0, 1, .aload 0), (1, .invokevirtual 311, 3, .invokeinterface 158 13010), (4, .iconst (0), 1, .iconst (0)), (5, .istore_n 1, 1, .istore 1), (6, .nop, 0, .goto_w 6)]),
  (6, [(6, .iload_n 1, 1, .iload 1), (7, .bipush (48), 2, .iconst (48)), (9, .if_icmp .ge (16), 3, .if_icmp .ge 25), (12, .aload_n 0, 1, .aload 0), (13, .getfield 136, 3, .getfield 1238), (16, .iload_n 1, 1, .iload 1), (17, .iconst (0), 1, .iconst (0)), (18, .iastore, 1, .iastore), (19, .iinc 1 (1), 3, .iinc 1 (1)), (22, .goto (-16), 3, .goto 6)]),
  (25, [(25, .iconst (0), 1, .iconst (0)), (26, .istore_n 1, 1, .istore 1), (27, .iconst (1), 1, .iconst (1)), (28, .istore_n 2, 1, .istore 2), (29, .nop, 0, .goto_w 29)]),
  (29, [(29, .iload_n 2, 1, .iload 2), (30, .ifCond .eq (133), 3, .ifCond .eq 163), (33, .iconst (0), 1, .iconst (0)), (34, .istore_n 2, 1, .istore 2), (35, .iconst (0), 1, .iconst (0)), (36, .istore_n 3, 1, .istore 3), (37, .nop, 0, .goto_w 37)]),
  (37, [(37, .iload_n 3, 1, .iload 3), (38, .aload_n 0, 1, .aload 0), (39, .getfield 230, 3, .getfield 1221), (42, .if_icmp .ge (67), 3, .if_icmp .ge 109), (45, .iconst (0), 1, .iconst (0)), (46, .istore 4, 2, .istore 4), (48, .nop, 0, .goto_w 48)]),
  (48, [(48, .iload 4, 2, .iload 4), (50, .aload_n 0, 1, .aload 0), (51, .getfield 111, 3, .getfield 1226), (54, .iload_n 3, 1, .iload 3), (55, .iaload, 1, .iaload), (56, .if_icmp .ge (47), 3, .if_icmp .ge 103), (59, .aload_n 0, 1, .aload 0), (60, .getfield 120, 3, .getfield 1229), (63, .iload_n 3, 1, .iload 3), (64, .baload, 1, .baload), (65, .ifCond .eq (38), 3, .ifCond .eq 103), (68, .aload_n 0, 1, .aload 0), (69, .getfield 114, 3, .getfield 1227), (72, .aload_n 0, 1, .aload 0), (73, .getfield 108, 3, .getfield 1225), (76, .iconst (3), 1, .iconst (3)), (77, .iload_n 3, 1, .iload 3), (78, .imul, 1, .imul), (79, .iload 4, 2, .iload 4), (81, .iadd, 1, .iadd), (82, .iaload, 1, .iaload), (83, .iaload, 1, .iaload), (84, .iconst (1), 1, .iconst (1)), (85, .if_icmp .ne (12), 3, .if_icmp .ne 97), (88, .aload_n 0, 1, .aload 0), (89, .getfield 136, 3, .getfield 1238), (92, .iload_n 3, 1, .iload 3), (93, .iload_n 1, 1, .iload 1), (94, .iconst (1), 1, .iconst (1)), (95, .iadd, 1, .iadd), (96, .iastore, 1, .iastore), (97, .nop, 0, .goto_w 97)]),
  (97, [(97, .iinc 4 (1), 3, .iinc 4 (1)), (100, .goto (-52), 3, .goto 48)]),
  (103, [(103, .iinc 3 (1), 3, .iinc 3 (1)), (106, .goto (-69), 3, .goto 37)]),
  (109, [(109, .iconst (0), 1, .iconst (0)), (110, .istore_n 3, 1, .istore 3), (111, .nop, 0, .goto_w 111)]),
  (111, [(111, .iload_n 3, 1, .iload 3), (112, .aload_n 0, 1, .aload 0), (113, .getfield 230, 3, .getfield 1221), (116, .if_icmp .ge (37), 3, .if_icmp .ge 153), (119, .aload_n 0, 1, .aload 0), (120, .getfield 120, 3, .getfield 1229), (123, .iload_n 3, 1, .iload 3), (124, .baload, 1, .baload), (125, .ifCond .eq (22), 3, .ifCond .eq 147), (128, .aload_n 0, 1, .aload 0), (129, .getfield 136, 3, .getfield 1238), (132, .iload_n 3, 1, .iload 3), (133, .iaload, 1, .iaload), (134, .ifCond .ne (6), 3, .ifCond .ne 140), (137, .goto (10), 3, .goto 147)]),
  (140, [(140, .aload_n 0, 1, .aload 0), (141, .iload_n 3, 1, .iload 3), (142, .invokevirtual 304, 3, .invokeinterface 159 13020), (145, .iconst (1), 1, .iconst (1)), (146, .istore_n 2, 1, .istore 2), (147, .nop, 0, .goto_w 147)]),
  (147, [(147, .iinc 3 (1), 3, .iinc 3 (1)), (150, .goto (-39), 3, .goto 111)]),
  (153, [(153, .iload_n 2, 1, .iload 2), (154, .ifCond .eq (-125), 3, .ifCond .eq 29), (157, .iinc 1 (1), 3, .iinc 1 (1)), (160, .goto (-131), 3, .goto 29)]),
  (163, [(163, .iload_n 1, 1, .iload 1), (164, .ireturn, 1, .ireturn)])]
def ct_M_laysLevels : List (Nat × List Nat) := [(6, [0, 1]), (29, [0, 1, 2]), (37, [0, 1, 2, 3]), (48, [0, 1, 2, 3, 4]), (111, [0, 1, 2, 3])]
def bl_M_level : List (Nat × List am_I) := [(0, [(0, .aload_n 0, 1, .aload 0), (1, .iconst (0), 1, .iconst (0)), (2, .putfield 1, 3, .putfield 1200), (5, .aload_n 0, 1, .aload 0), (6, .invokevirtual 324, 3, .invokeinterface 171 13011), (9, .istore_n 2, 1, .istore 2), (10, .iload_n 1, 1, .iload 1), (11, .iconst (-1), 1, .iconst (-1)), (12, .if_icmp .ne (5), 3, .if_icmp .ne 17), (15, .iload_n 2, 1, .iload 2), (16, .ireturn, 1, .ireturn)]),
  (17, [(17, .aload_n 0, 1, .aload 0), (18, .iload_n 1, 1, .iload 1), (19, .invokevirtual 236, 3, .invokeinterface 137 13021), (22, .ifCond .ne (7), 3, .ifCond .ne 29), (25, .iconst (-1), 1, .iconst (-1)), (26, .goto (23), 3, .goto 49)]),
  (29, [(29, .aload_n 0, 1, .aload 0), (30, .getfield 136, 3, .getfield 1238), (33, .iload_n 1, 1, .iload 1), (34, .iaload, 1, .iaload), (35, .ifCond .ne (8), 3, .ifCond .ne 43), (38, .bipush (-2), 2, .iconst (-2)), (40, .goto (9), 3, .goto 49)]),
  (43, [(43, .aload_n 0, 1, .aload 0), (44, .getfield 136, 3, .getfield 1238), (47, .iload_n 1, 1, .iload 1), (48, .iaload, 1, .iaload), (49, .nop, 0, .goto_w 49)]),
  (49, [(49, .ireturn, 1, .ireturn)])]
def ct_M_level : List (Nat × List Nat) := []
def bl_M_rank : List (Nat × List am_I) := [(0, [(0, .aload_n 0, 1, .aload 0), (1, .iconst (0), 1, .iconst (0)), (2, .putfield 1, 3, .putfield 1200), (5, .aload_n 0, 1, .aload 0), (6, .invokevirtual 311, 3, .invokeinterface 158 13010), (9, .iconst (0), 1, .iconst (0)), (10, .istore_n 1, 1, .istore 1), (11, .nop, 0, .goto_w 11)]),
  (11, [(11, .iload_n 1, 1, .iload 1), (12, .bipush (96), 2, .iconst (96)), (14, .if_icmp .ge (23), 3, .if_icmp .ge 37), (17, .aload_n 0, 1, .aload 0), (18, .getfield 139, 3, .getfield 1239), (21, .iload_n 1, 1, .iload 1), (22, .lconst 0, 1, .ldc2_w 0), (23, .lastore, 1, .lastore), (24, .aload_n 0, 1, .aload 0), (25, .getfield 142, 3, .getfield 1240), (28, .iload_n 1, 1, .iload 1), (29, .lconst 0, 1, .ldc2_w 0), (30, .lastore, 1, .lastore), (31, .iinc 1 (1), 3, .iinc 1 (1)), (34, .goto (-23), 3, .goto 11)]),
  (37, [(37, .iconst (0), 1, .iconst (0)), (38, .istore_n 1, 1, .istore 1), (39, .iconst (0), 1, .iconst (0)), (40, .istore_n 2, 1, .istore 2), (41, .nop, 0, .goto_w 41)]),
  (41, [(41, .iload_n 2, 1, .iload 2), (42, .aload_n 0, 1, .aload 0), (43, .getfield 230, 3, .getfield 1221), (46, .if_icmp .ge (197), 3, .if_icmp .ge 243), (49, .lconst 0, 1, .ldc2_w 0), (50, .lstore_n 3, 1, .lstore 3), (51, .lconst 0, 1, .ldc2_w 0), (52, .lstore 5, 2, .lstore 5), (54, .iconst (0), 1, .iconst (0)), (55, .istore 7, 2, .istore 7), (57, .nop, 0, .goto_w 57)]),
  (57, [(57, .iload 7, 2, .iload 7), (59, .aload_n 0, 1, .aload 0), (60, .getfield 111, 3, .getfield 1226), (63, .iload_n 2, 1, .iload 2), (64, .iaload, 1, .iaload), (65, .if_icmp .ge (51), 3, .if_icmp .ge 116), (68, .aload_n 0, 1, .aload 0), (69, .getfield 108, 3, .getfield 1225), (72, .iconst (3), 1, .iconst (3)), (73, .iload_n 2, 1, .iload 2), (74, .imul, 1, .imul), (75, .iload 7, 2, .iload 7), (77, .iadd, 1, .iadd), (78, .iaload, 1, .iaload), (79, .istore 8, 2, .istore 8), (81, .iload 8, 2, .iload 8), (83, .bipush (48), 2, .iconst (48)), (85, .if_icmp .ge (13), 3, .if_icmp .ge 98), (88, .lload_n 3, 1, .lload 3), (89, .lconst 1, 1, .ldc2_w 1), (90, .iload 8, 2, .iload 8), (92, .lshl, 1, .lshl), (93, .lor, 1, .lor), (94, .lstore_n 3, 1, .lstore 3), (95, .goto (15), 3, .goto 110)]),
  (98, [(98, .lload 5, 2, .lload 5), (100, .lconst 1, 1, .ldc2_w 1), (101, .iload 8, 2, .iload 8), (103, .bipush (48), 2, .iconst (48)), (105, .isub, 1, .isub), (106, .lshl, 1, .lshl), (107, .lor, 1, .lor), (108, .lstore 5, 2, .lstore 5), (110, .nop, 0, .goto_w 110)]),
  (110, [(110, .iinc 7 (1), 3, .iinc 7 (1)), (113, .goto (-56), 3, .goto 57)]),
  (116, [(116, .bipush (95), 2, .iconst (95)), (118, .istore 7, 2, .istore 7), (120, .nop, 0, .goto_w 120)]),
  (120, [(120, .iload 7, 2, .iload 7), (122, .ifCond .lt (115), 3, .ifCond .lt 237), (125, .iload 7, 2, .iload 7), (127, .bipush (48), 2, .iconst (48)), (129, .if_icmp .ge (10), 3, .if_icmp .ge 139), (132, .lload_n 3, 1, .lload 3), (133, .iload 7, 2, .iload 7), (135, .lshr, 1, .lshr), (136, .goto (11), 3, .goto 147)]),
  (139, [(139, .lload 5, 2, .lload 5), (141, .iload 7, 2, .iload 7), (143, .bipush (48), 2, .iconst (48)), (145, .isub, 1, .isub), (146, .lshr, 1, .lshr), (147, .nop, 0, .goto_w 147)]),
  (147, [(147, .lconst 1, 1, .ldc2_w 1), (148, .land, 1, .land), (149, .lconst 0, 1, .ldc2_w 0), (150, .lcmp, 1, .lcmp), (151, .ifCond .ne (6), 3, .ifCond .ne 157), (154, .goto (77), 3, .goto 231)]),
  (157, [(157, .aload_n 0, 1, .aload 0), (158, .getfield 139, 3, .getfield 1239), (161, .iload 7, 2, .iload 7), (163, .laload, 1, .laload), (164, .lconst 0, 1, .ldc2_w 0), (165, .lcmp, 1, .lcmp), (166, .ifCond .ne (43), 3, .ifCond .ne 209), (169, .aload_n 0, 1, .aload 0), (170, .getfield 142, 3, .getfield 1240), (173, .iload 7, 2, .iload 7), (175, .laload, 1, .laload), (176, .lconst 0, 1, .ldc2_w 0), (177, .lcmp, 1, .lcmp), (178, .ifCond .ne (31), 3, .ifCond .ne 209), (181, .aload_n 0, 1, .aload 0), (182, .getfield 139, 3, .getfield 1239), (185, .iload 7, 2, .iload 7), (187, .lload_n 3, 1, .lload 3), (188, .lastore, 1, .lastore), (189, .aload_n 0, 1, .aload 0), (190, .getfield 142, 3, .getfield 1240), (193, .iload 7, 2, .iload 7), (195, .lload 5, 2, .lload 5), (197, .lastore, 1, .lastore), (198, .iinc 1 (1), 3, .iinc 1 (1)), (201, .lconst 0, 1, .ldc2_w 0), (202, .lstore_n 3, 1, .lstore 3), (203, .lconst 0, 1, .ldc2_w 0), (204, .lstore 5, 2, .lstore 5), (206, .goto (25), 3, .goto 231)]),
  (209, [(209, .lload_n 3, 1, .lload 3), (210, .aload_n 0, 1, .aload 0), (211, .getfield 139, 3, .getfield 1239), (214, .iload 7, 2, .iload 7), (216, .laload, 1, .laload), (217, .lxor, 1, .lxor), (218, .lstore_n 3, 1, .lstore 3), (219, .lload 5, 2, .lload 5), (221, .aload_n 0, 1, .aload 0), (222, .getfield 142, 3, .getfield 1240), (225, .iload 7, 2, .iload 7), (227, .laload, 1, .laload), (228, .lxor, 1, .lxor), (229, .lstore 5, 2, .lstore 5), (231, .nop, 0, .goto_w 231)]),
  (231, [(231, .iinc 7 (-1), 3, .iinc 7 (-1)), (234, .goto (-114), 3, .goto 120)]),
  (237, [(237, .iinc 2 (1), 3, .iinc 2 (1)), (240, .goto (-199), 3, .goto 41)]),
  (243, [(243, .iload_n 1, 1, .iload 1), (244, .ireturn, 1, .ireturn)])]
def ct_M_rank : List (Nat × List Nat) := [(11, [0, 1]), (41, [0, 1, 2]), (57, [0, 1, 2, 3, 5, 7]), (120, [0, 1, 2, 3, 5, 7])]
def bl_M_findsOut : List (Nat × List am_I) := [(0, [(0, .iload_n 1, 1, .iload 1), (1, .iload_n 2, 1, .iload 2), (2, .if_icmp .ne (22), 3, .if_icmp .ne 24), (5, .aload_n 0, 1, .aload 0), (6, .aload_n 0, 1, .aload 0), (7, .getfield 93, 3, .getfield 1217), (10, .iconst (1), 1, .iconst (1)), (11, .iaload, 1, .iaload), (12, .aload_n 0, 1, .aload 0), (13, .getfield 93, 3, .getfield 1217), (16, .iconst (4), 1, .iconst (4)), (17, .iaload, 1, .iaload), (18, .i2l, 1, .i2l), (19, .iload_n 2, 1, .iload 2), (20, .invokevirtual 327, 3, .invokeinterface 165 13041), (23, .ireturn, 1, .ireturn)]),
  (24, [(24, .iload_n 3, 1, .iload 3), (25, .istore 4, 2, .istore 4), (27, .nop, 0, .goto_w 27)]),
  (27, [(27, .iload 4, 2, .iload 4), (29, .aload_n 0, 1, .aload 0), (30, .getfield 230, 3, .getfield 1221), (33, .if_icmp .ge (34), 3, .if_icmp .ge 67), (36, .aload_n 0, 1, .aload 0), (37, .getfield 124, 3, .getfield 1231), (40, .iload_n 1, 1, .iload 1), (41, .iload 4, 2, .iload 4), (43, .iastore, 1, .iastore), (44, .aload_n 0, 1, .aload 0), (45, .iload_n 1, 1, .iload 1), (46, .iconst (1), 1, .iconst (1)), (47, .iadd, 1, .iadd), (48, .iload_n 2, 1, .iload 2), (49, .iload 4, 2, .iload 4), (51, .iconst (1), 1, .iconst (1)), (52, .iadd, 1, .iadd), (53, .invokevirtual 331, 3, .invokeinterface 174 13041), (56, .ifCond .eq (5), 3, .ifCond .eq 61), (59, .iconst (1), 1, .iconst (1)), (60, .ireturn, 1, .ireturn)]),
  (61, [(61, .iinc 4 (1), 3, .iinc 4 (1)), (64, .goto (-37), 3, .goto 27)]),
  (67, [(67, .iconst (0), 1, .iconst (0)), (68, .ireturn, 1, .ireturn)])]
def ct_M_findsOut : List (Nat × List Nat) := [(27, [0, 1, 2, 4])]
def bl_M_mend : List (Nat × List am_I) := [(0, [(0, .aload_n 0, 1, .aload 0), (1, .iconst (0), 1, .iconst (0)), (2, .putfield 1, 3, .putfield 1200), (5, .iconst (0), 1, .iconst (0)), (6, .istore_n 2, 1, .istore 2), (7, .nop, 0, .goto_w 7)]),
  (7, [(7, .iload_n 2, 1, .iload 2), (8, .iconst (3), 1, .iconst (3)), (9, .if_icmp .gt (54), 3, .if_icmp .gt 63), (12, .aload_n 0, 1, .aload 0), (13, .iconst (0), 1, .iconst (0)), (14, .iload_n 2, 1, .iload 2), (15, .iconst (0), 1, .iconst (0)), (16, .invokevirtual 331, 3, .invokeinterface 174 13041), (19, .ifCond .ne (6), 3, .ifCond .ne 25), (22, .goto (35), 3, .goto 57)]),
  (25, [(25, .iload_n 1, 1, .iload 1), (26, .iconst (-1), 1, .iconst (-1)), (27, .if_icmp .ne (7), 3, .if_icmp .ne 34), (30, .iload_n 2, 1, .iload 2), (31, .goto (25), 3, .goto 56)]),
  (34, [(34, .iload_n 1, 1, .iload 1), (35, .iconst (0), 1, .iconst (0)), (36, .iload_n 2, 1, .iload 2), (37, .iconst (1), 1, .iconst (1)), (38, .isub, 1, .isub), (39, .invokestatic 204, 3, .invokeinterface 113 31), (42, .ifCond .eq (12), 3, .ifCond .eq 54), (45, .aload_n 0, 1, .aload 0), (46, .getfield 124, 3, .getfield 1231), (49, .iload_n 1, 1, .iload 1), (50, .iaload, 1, .iaload), (51, .goto (5), 3, .goto 56)]),
  (54, [(54, .bipush (-2), 2, .iconst (-2)), (56, .nop, 0, .goto_w 56)]),
  (56, [(56, .ireturn, 1, .ireturn)]),
  (57, [(57, .iinc 2 (1), 3, .iinc 2 (1)), (60, .goto (-53), 3, .goto 7)]),
  (63, [(63, .bipush (-2), 2, .iconst (-2)), (65, .ireturn, 1, .ireturn)])]
def ct_M_mend : List (Nat × List Nat) := [(7, [0, 1, 2])]
def bl_M_tight : List (Nat × List am_I) := [(0, [(0, .aload_n 0, 1, .aload 0), (1, .iconst (0), 1, .iconst (0)), (2, .putfield 1, 3, .putfield 1200), (5, .iconst (1), 1, .iconst (1)), (6, .istore_n 1, 1, .istore 1), (7, .nop, 0, .goto_w 7)]),
  (7, [(7, .iload_n 1, 1, .iload 1), (8, .bipush (32), 2, .iconst (32)), (10, .if_icmp .gt (27), 3, .if_icmp .gt 37), (13, .aload_n 0, 1, .aload 0), (14, .iload_n 1, 1, .iload 1), (15, .aload_n 0, 1, .aload 0), (16, .getfield 93, 3, .getfield 1217), (19, .iconst (4), 1, .iconst (4)), (20, .iaload, 1, .iaload), (21, .i2l, 1, .i2l), (22, .iconst (0), 1, .iconst (0)), (23, .invokevirtual 327, 3, .invokeinterface 165 13041), (26, .ifCond .eq (5), 3, .ifCond .eq 31), (29, .iload_n 1, 1, .iload 1), (30, .ireturn, 1, .ireturn)]),
  (31, [(31, .iinc 1 (1), 3, .iinc 1 (1)), (34, .goto (-27), 3, .goto 7)]),
  (37, [(37, .bipush (-2), 2, .iconst (-2)), (39, .ireturn, 1, .ireturn)])]
def ct_M_tight : List (Nat × List Nat) := [(7, [0, 1])]
def bl_M_peels : List (Nat × List am_I) := [(0, [(0, .aload_n 0, 1, .aload 0), (1, .iconst (0), 1, .iconst (0)), (2, .putfield 1, 3, .putfield 1200), (5, .iload_n 1, 1, .iload 1), (6, .iconst (1), 1, .iconst (1)), (7, .sipush (200), 3, .iconst (200)), (10, .invokestatic 204, 3, .invokeinterface 113 31), (13, .ifCond .ne (5), 3, .ifCond .ne 18), (16, .iconst (-1), 1, .iconst (-1)), (17, .ireturn, 1, .ireturn)]),
  (18, [(18, .iconst (0), 1, .iconst (0)), (19, .istore_n 2, 1, .istore 2), (20, .iconst (0), 1, .iconst (0)), (21, .istore_n 3, 1, .istore 3), (22, .nop, 0, .goto_w 22)]),
  (22, [(22, .iload_n 3, 1, .iload 3), (23, .iload_n 1, 1, .iload 1), (24, .if_icmp .ge (35), 3, .if_icmp .ge 59), (27, .aload_n 0, 1, .aload 0), (28, .aload_n 0, 1, .aload 0), (29, .getfield 93, 3, .getfield 1217), (32, .iconst (1), 1, .iconst (1)), (33, .iaload, 1, .iaload), (34, .aload_n 0, 1, .aload 0), (35, .getfield 93, 3, .getfield 1217), (38, .iconst (4), 1, .iconst (4)), (39, .iaload, 1, .iaload), (40, .iload_n 3, 1, .iload 3), (41, .iadd, 1, .iadd), (42, .i2l, 1, .i2l), (43, .iconst (0), 1, .iconst (0)), (44, .invokevirtual 327, 3, .invokeinterface 165 13041), (47, .ifCond .eq (6), 3, .ifCond .eq 53), (50, .iinc 2 (1), 3, .iinc 2 (1)), (53, .nop, 0, .goto_w 53)]),
  (53, [(53, .iinc 3 (1), 3, .iinc 3 (1)), (56, .goto (-34), 3, .goto 22)]),
  (59, [(59, .iload_n 2, 1, .iload 2), (60, .ireturn, 1, .ireturn)])]
def ct_M_peels : List (Nat × List Nat) := [(22, [0, 1, 2, 3])]
def bl_M_fills : List (Nat × List am_I) := [(0, [(0, .iconst (0), 1, .iconst (0)), (1, .istore_n 3, 1, .istore 3), (2, .nop, 0, .goto_w 2)]),
  (2, [(2, .iload_n 3, 1, .iload 3), (3, .bipush (96), 2, .iconst (96)), (5, .if_icmp .ge (23), 3, .if_icmp .ge 28), (8, .aload_n 0, 1, .aload 0), (9, .getfield 145, 3, .getfield 1241), (12, .iload_n 3, 1, .iload 3), (13, .iconst (0), 1, .iconst (0)), (14, .iastore, 1, .iastore), (15, .aload_n 0, 1, .aload 0), (16, .getfield 148, 3, .getfield 1242), (19, .iload_n 3, 1, .iload 3), (20, .iconst (0), 1, .iconst (0)), (21, .iastore, 1, .iastore), (22, .iinc 3 (1), 3, .iinc 3 (1)), (25, .goto (-23), 3, .goto 2)]),
  (28, [(28, .aload_n 0, 1, .aload 0), (29, .getfield 294, 3, .getfield 1237), (32, .iconst (1), 1, .iconst (1)), (33, .isub, 1, .isub), (34, .istore_n 3, 1, .istore 3), (35, .nop, 0, .goto_w 35)]),
  (35, [(35, .iload_n 3, 1, .iload 3), (36, .ifCond .lt (143), 3, .ifCond .lt 179), (39, .aload_n 0, 1, .aload 0), (40, .getfield 130, 3, .getfield 1233), (43, .iload_n 3, 1, .iload 3), (44, .iaload, 1, .iaload), (45, .istore 4, 2, .istore 4), (47, .aload_n 0, 1, .aload 0), (48, .getfield 133, 3, .getfield 1234), (51, .iload_n 3, 1, .iload 3), (52, .iaload, 1, .iaload), (53, .istore 5, 2, .istore 5), (55, .aload_n 0, 1, .aload 0), (56, .getfield 74, 3, .getfield 1211), (59, .iload 4, 2, .iload 4), (61, .laload, 1, .laload), (62, .lload_n 1, 1, .lload 1), (63, .invokestatic 267, 3, .invokeinterface 149 22), (66, .aload_n 0, 1, .aload 0), (67, .getfield 93, 3, .getfield 1217), (70, .iconst (2), 1, .iconst (2)), (71, .iaload, 1, .iaload), (72, .invokestatic 275, 3, .invokeinterface 150 21), (75, .istore 6, 2, .istore 6), (77, .aload_n 0, 1, .aload 0), (78, .getfield 84, 3, .getfield 1214), (81, .iload 4, 2, .iload 4), (83, .iaload, 1, .iaload), (84, .istore 7, 2, .istore 7), (86, .iconst (0), 1, .iconst (0)), (87, .istore 8, 2, .istore 8), (89, .nop, 0, .goto_w 89)]),
  (89, [(89, .iload 8, 2, .iload 8), (91, .aload_n 0, 1, .aload 0), (92, .getfield 111, 3, .getfield 1226), (95, .iload 4, 2, .iload 4), (97, .iaload, 1, .iaload), (98, .if_icmp .ge (57), 3, .if_icmp .ge 155), (101, .aload_n 0, 1, .aload 0), (102, .getfield 108, 3, .getfield 1225), (105, .iconst (3), 1, .iconst (3)), (106, .iload 4, 2, .iload 4), (108, .imul, 1, .imul), (109, .iload 8, 2, .iload 8), (111, .iadd, 1, .iadd), (112, .iaload, 1, .iaload), (113, .istore 9, 2, .istore 9), (115, .iload 9, 2, .iload 9), (117, .iload 5, 2, .iload 5), (119, .if_icmp .ne (6), 3, .if_icmp .ne 125), (122, .goto (27), 3, .goto 149)]),
  (125, [(125, .iload 6, 2, .iload 6), (127, .aload_n 0, 1, .aload 0), (128, .getfield 145, 3, .getfield 1241), (131, .iload 9, 2, .iload 9), (133, .iaload, 1, .iaload), (134, .ixor, 1, .ixor), (135, .istore 6, 2, .istore 6), (137, .iload 7, 2, .iload 7), (139, .aload_n 0, 1, .aload 0), (140, .getfield 148, 3, .getfield 1242), (143, .iload 9, 2, .iload 9), (145, .iaload, 1, .iaload), (146, .ixor, 1, .ixor), (147, .istore 7, 2, .istore 7), (149, .nop, 0, .goto_w 149)]),
  (149, [(149, .iinc 8 (1), 3, .iinc 8 (1)), (152, .goto (-63), 3, .goto 89)]),
  (155, [(155, .aload_n 0, 1, .aload 0), (156, .getfield 145, 3, .getfield 1241), (159, .iload 5, 2, .iload 5), (161, .iload 6, 2, .iload 6), (163, .iastore, 1, .iastore), (164, .aload_n 0, 1, .aload 0), (165, .getfield 148, 3, .getfield 1242), (168, .iload 5, 2, .iload 5), (170, .iload 7, 2, .iload 7), (172, .iastore, 1, .iastore), (173, .iinc 3 (-1), 3, .iinc 3 (-1)), (176, .goto (-141), 3, .goto 35)]),
  (179, [(179, .return_, 1, .return_)])]
def ct_M_fills : List (Nat × List Nat) := [(2, [0, 1, 3]), (35, [0, 1, 3]), (89, [0, 1, 3, 4, 5, 6, 7, 8])]
def bl_M_wake : List (Nat × List am_I) := [(0, [(0, .aload_n 0, 1, .aload 0), (1, .iconst (0), 1, .iconst (0)), (2, .putfield 1, 3, .putfield 1200), (5, .aload_n 0, 1, .aload 0), (6, .iload_n 1, 1, .iload 1), (7, .invokevirtual 236, 3, .invokeinterface 137 13021), (10, .ifCond .eq (11), 3, .ifCond .eq 21), (13, .aload_n 0, 1, .aload 0), (14, .iload_n 2, 1, .iload 2), (15, .invokevirtual 243, 3, .invokeinterface 138 13021), (18, .ifCond .ne (5), 3, .ifCond .ne 23), (21, .nop, 0, .goto_w 21)]),
  (21, [(21, .iconst (-1), 1, .iconst (-1)), (22, .ireturn, 1, .ireturn)]),
  (23, [(23, .aload_n 0, 1, .aload 0), (24, .invokevirtual 321, 3, .invokeinterface 164 13010), (27, .aload_n 0, 1, .aload 0), (28, .getfield 278, 3, .getfield 1230), (31, .ifCond .le (6), 3, .ifCond .le 37), (34, .bipush (-2), 2, .iconst (-2)), (36, .ireturn, 1, .ireturn)]),
  (37, [(37, .aload_n 0, 1, .aload 0), (38, .aload_n 0, 1, .aload 0), (39, .getfield 93, 3, .getfield 1217), (42, .iconst (4), 1, .iconst (4)), (43, .iaload, 1, .iaload), (44, .i2l, 1, .i2l), (45, .invokevirtual 334, 3, .invokeinterface 178 13020), (48, .iconst (0), 1, .iconst (0)), (49, .istore_n 3, 1, .istore 3), (50, .nop, 0, .goto_w 50)]),
  (50, [(50, .iload_n 3, 1, .iload 3), (51, .bipush (96), 2, .iconst (96)), (53, .if_icmp .ge (21), 3, .if_icmp .ge 74), (56, .aload_n 0, 1, .aload 0), (57, .getfield 151, 3, .getfield 1243), (60, .iload_n 3, 1, .iload 3), (61, .aload_n 0, 1, .aload 0), (62, .getfield 148, 3, .getfield 1242), (65, .iload_n 3, 1, .iload 3), (66, .iaload, 1, .iaload), (67, .iastore, 1, .iastore), (68, .iinc 3 (1), 3, .iinc 3 (1)), (71, .goto (-21), 3, .goto 50)]),
  (74, [(74, .aload_n 0, 1, .aload 0), (75, .getfield 84, 3, .getfield 1214), (78, .iload_n 1, 1, .iload 1), (79, .iaload, 1, .iaload), (80, .istore_n 3, 1, .istore 3), (81, .aload_n 0, 1, .aload 0), (82, .getfield 84, 3, .getfield 1214), (85, .iload_n 1, 1, .iload 1), (86, .iload_n 2, 1, .iload 2), (87, .iastore, 1, .iastore), (88, .aload_n 0, 1, .aload 0), (89, .aload_n 0, 1, .aload 0), (90, .getfield 93, 3, .getfield 1217), (93, .iconst (4), 1, .iconst (4)), (94, .iaload, 1, .iaload), (95, .i2l, 1, .i2l), (96, .invokevirtual 334, 3, .invokeinterface 178 13020), (99, .aload_n 0, 1, .aload 0), (100, .getfield 84, 3, .getfield 1214), (103, .iload_n 1, 1, .iload 1), (104, .iload_n 3, 1, .iload 3), (105, .iastore, 1, .iastore), (106, .iconst (0), 1, .iconst (0)), (107, .istore 4, 2, .istore 4), (109, .iconst (0), 1, .iconst (0)), (110, .istore 5, 2, .istore 5), (112, .nop, 0, .goto_w 112)]),
  (112, [(112, .iload 5, 2, .iload 5), (114, .bipush (96), 2, .iconst (96)), (116, .if_icmp .ge (29), 3, .if_icmp .ge 145), (119, .aload_n 0, 1, .aload 0), (120, .getfield 151, 3, .getfield 1243), (123, .iload 5, 2, .iload 5), (125, .iaload, 1, .iaload), (126, .aload_n 0, 1, .aload 0), (127, .getfield 148, 3, .getfield 1242), (130, .iload 5, 2, .iload 5), (132, .iaload, 1, .iaload), (133, .if_icmp .eq (6), 3, .if_icmp .eq 139), (136, .iinc 4 (1), 3, .iinc 4 (1)), (139, .nop, 0, .goto_w 139)]),
  (139, [(139, .iinc 5 (1), 3, .iinc 5 (1)), (142, .goto (-30), 3, .goto 112)]),
  (145, [(145, .iload 4, 2, .iload 4), (147, .ireturn, 1, .ireturn)])]
def ct_M_wake : List (Nat × List Nat) := [(50, [0, 1, 2, 3]), (112, [0, 4, 5])]
def bl_M_build : List (Nat × List am_I) := [(0, [(0, .aload_n 0, 1, .aload 0), (1, .iconst (0), 1, .iconst (0)), (2, .putfield 1, 3, .putfield 1200), (5, .iload_n 1, 1, .iload 1), (6, .iconst (1), 1, .iconst (1)), (7, .bipush (99), 2, .iconst (99)), (9, .invokestatic 204, 3, .invokeinterface 113 31), (12, .ifCond .ne (5), 3, .ifCond .ne 17), (15, .iconst (-1), 1, .iconst (-1)), (16, .ireturn, 1, .ireturn)]),
  (17, [(17, .iconst (0), 1, .iconst (0)), (18, .istore_n 2, 1, .istore 2), (19, .nop, 0, .goto_w 19)]),
  (19, [(19, .iload_n 2, 1, .iload 2), (20, .iload_n 1, 1, .iload 1), (21, .if_icmp .ge (194), 3, .if_icmp .ge 215), (24, .aload_n 0, 1, .aload 0), (25, .getfield 93, 3, .getfield 1217), (28, .iconst (4), 1, .iconst (4)), (29, .iaload, 1, .iaload), (30, .iload_n 2, 1, .iload 2), (31, .iadd, 1, .iadd), (32, .istore_n 3, 1, .istore 3), (33, .aload_n 0, 1, .aload 0), (34, .aload_n 0, 1, .aload 0), (35, .getfield 93, 3, .getfield 1217), (38, .iconst (1), 1, .iconst (1)), (39, .iaload, 1, .iaload), (40, .iload_n 3, 1, .iload 3), (41, .i2l, 1, .i2l), (42, .iconst (0), 1, .iconst (0)), (43, .invokevirtual 284, 3, .invokeinterface 157 13040), (46, .aload_n 0, 1, .aload 0), (47, .aload_n 0, 1, .aload 0), (48, .getfield 93, 3, .getfield 1217), (51, .iconst (1), 1, .iconst (1)), (52, .iaload, 1, .iaload), (53, .aload_n 0, 1, .aload 0), (54, .getfield 93, 3, .getfield 1217), (57, .iconst (5), 1, .iconst (5)), (58, .iaload, 1, .iaload), (59, .invokevirtual 314, 3, .invokeinterface 162 13030), (62, .aload_n 0, 1, .aload 0), (63, .getfield 278, 3, .getfield 1230), (66, .ifCond .le (6), 3, .ifCond .le 72), (69, .goto (140), 3, .goto 209)]),
  (72, [(72, .aload_n 0, 1, .aload 0), (73, .iload_n 3, 1, .iload 3), (74, .i2l, 1, .i2l), (75, .invokevirtual 334, 3, .invokeinterface 178 13020), (78, .aload_n 0, 1, .aload 0), (79, .getfield 154, 3, .getfield 1244), (82, .iconst (0), 1, .iconst (0)), (83, .iload_n 3, 1, .iload 3), (84, .iastore, 1, .iastore), (85, .aload_n 0, 1, .aload 0), (86, .getfield 154, 3, .getfield 1244), (89, .iconst (1), 1, .iconst (1)), (90, .aload_n 0, 1, .aload 0), (91, .getfield 93, 3, .getfield 1217), (94, .iconst (1), 1, .iconst (1)), (95, .iaload, 1, .iaload), (96, .iastore, 1, .iastore), (97, .aload_n 0, 1, .aload 0), (98, .getfield 154, 3, .getfield 1244), (101, .iconst (2), 1, .iconst (2)), (102, .aload_n 0, 1, .aload 0), (103, .getfield 93, 3, .getfield 1217), (106, .iconst (2), 1, .iconst (2)), (107, .iaload, 1, .iaload), (108, .iastore, 1, .iastore), (109, .aload_n 0, 1, .aload 0), (110, .getfield 154, 3, .getfield 1244), (113, .iconst (3), 1, .iconst (3)), (114, .aload_n 0, 1, .aload 0), (115, .getfield 93, 3, .getfield 1217), (118, .iconst (3), 1, .iconst (3)), (119, .iaload, 1, .iaload), (120, .iastore, 1, .iastore), (121, .aload_n 0, 1, .aload 0), (122, .getfield 154, 3, .getfield 1244), (125, .iconst (4), 1, .iconst (4)), (126, .aload_n 0, 1, .aload 0), (127, .getfield 93, 3, .getfield 1217), (130, .bipush (6), 2, .iconst (6)), (132, .iaload, 1, .iaload), (133, .iastore, 1, .iastore), (134, .aload_n 0, 1, .aload 0), (135, .getfield 154, 3, .getfield 1244), (138, .iconst (5), 1, .iconst (5)), (139, .aload_n 0, 1, .aload 0), (140, .getfield 230, 3, .getfield 1221), (143, .iastore, 1, .iastore), (144, .aload_n 0, 1, .aload 0), (145, .getfield 154, 3, .getfield 1244), (148, .bipush (6), 2, .iconst (6)), (150, .iload_n 2, 1, .iload 2), (151, .iconst (1), 1, .iconst (1)), (152, .iadd, 1, .iadd), (153, .iastore, 1, .iastore), (154, .iconst (0), 1, .iconst (0)), (155, .istore 4, 2, .istore 4), (157, .nop, 0, .goto_w 157)]),
  (157, [(157, .iload 4, 2, .iload 4), (159, .bipush (96), 2, .iconst (96)), (161, .if_icmp .ge (37), 3, .if_icmp .ge 198), (164, .aload_n 0, 1, .aload 0), (165, .getfield 157, 3, .getfield 1245), (168, .iload 4, 2, .iload 4), (170, .aload_n 0, 1, .aload 0), (171, .getfield 145, 3, .getfield 1241), (174, .iload 4, 2, .iload 4), (176, .iaload, 1, .iaload), (177, .iastore, 1, .iastore), (178, .aload_n 0, 1, .aload 0), (179, .getfield 160, 3, .getfield 1246), (182, .iload 4, 2, .iload 4), (184, .aload_n 0, 1, .aload 0), (185, .getfield 148, 3, .getfield 1242), (188, .iload 4, 2, .iload 4), (190, .iaload, 1, .iaload), (191, .iastore, 1, .iastore), (192, .iinc 4 (1), 3, .iinc 4 (1)), (195, .goto (-38), 3, .goto 157)]),
  (198, [(198, .aload_n 0, 1, .aload 0), (199, .getfield 163, 3, .getfield 1247), (202, .iconst (0), 1, .iconst (0)), (203, .iconst (1), 1, .iconst (1)), (204, .bastore, 1, .bastore), (205, .iload_n 2, 1, .iload 2), (206, .iconst (1), 1, .iconst (1)), (207, .iadd, 1, .iadd), (208, .ireturn, 1, .ireturn)]),
  (209, [(209, .iinc 2 (1), 3, .iinc 2 (1)), (212, .goto (-193), 3, .goto 19)]),
  (215, [(215, .bipush (-2), 2, .iconst (-2)), (217, .ireturn, 1, .ireturn)])]
def ct_M_build : List (Nat × List Nat) := [(19, [0, 1, 2]), (157, [0, 2, 4])]
def bl_M_built : List (Nat × List am_I) := [(0, [(0, .aload_n 0, 1, .aload 0), (1, .iconst (0), 1, .iconst (0)), (2, .putfield 1, 3, .putfield 1200), (5, .aload_n 0, 1, .aload 0), (6, .getfield 163, 3, .getfield 1247), (9, .iconst (0), 1, .iconst (0)), (10, .baload, 1, .baload), (11, .ifCond .eq (13), 3, .ifCond .eq 24), (14, .iload_n 1, 1, .iload 1), (15, .iconst (0), 1, .iconst (0)), (16, .bipush (7), 2, .iconst (7)), (18, .invokestatic 204, 3, .invokeinterface 113 31), (21, .ifCond .ne (5), 3, .ifCond .ne 26), (24, .nop, 0, .goto_w 24)]),
  (24, [(24, .iconst (-1), 1, .iconst (-1)), (25, .ireturn, 1, .ireturn)]),
  (26, [(26, .iload_n 1, 1, .iload 1), (27, .bipush (7), 2, .iconst (7)), (29, .if_icmp .ge (12), 3, .if_icmp .ge 41), (32, .aload_n 0, 1, .aload 0), (33, .getfield 154, 3, .getfield 1244), (36, .iload_n 1, 1, .iload 1), (37, .iaload, 1, .iaload), (38, .goto (25), 3, .goto 63)]),
  (41, [(41, .iconst (3), 1, .iconst (3)), (42, .aload_n 0, 1, .aload 0), (43, .getfield 154, 3, .getfield 1244), (46, .iconst (1), 1, .iconst (1)), (47, .iaload, 1, .iaload), (48, .imul, 1, .imul), (49, .aload_n 0, 1, .aload 0), (50, .getfield 154, 3, .getfield 1244), (53, .iconst (2), 1, .iconst (2)), (54, .iaload, 1, .iaload), (55, .aload_n 0, 1, .aload 0), (56, .getfield 154, 3, .getfield 1244), (59, .iconst (3), 1, .iconst (3)), (60, .iaload, 1, .iaload), (61, .iadd, 1, .iadd), (62, .imul, 1, .imul), (63, .nop, 0, .goto_w 63)]),
  (63, [(63, .ireturn, 1, .ireturn)])]
def ct_M_built : List (Nat × List Nat) := []
def bl_M_filled : List (Nat × List am_I) := [(0, [(0, .aload_n 0, 1, .aload 0), (1, .iconst (0), 1, .iconst (0)), (2, .putfield 1, 3, .putfield 1200), (5, .aload_n 0, 1, .aload 0), (6, .getfield 163, 3, .getfield 1247), (9, .iconst (0), 1, .iconst (0)), (10, .baload, 1, .baload), (11, .ifCond .eq (21), 3, .ifCond .eq 32), (14, .iload_n 1, 1, .iload 1), (15, .iconst (0), 1, .iconst (0)), (16, .iconst (3), 1, .iconst (3)), (17, .aload_n 0, 1, .aload 0), (18, .getfield 154, 3, .getfield 1244), (21, .iconst (1), 1, .iconst (1)), (22, .iaload, 1, .iaload), (23, .imul, 1, .imul), (24, .iconst (1), 1, .iconst (1)), (25, .isub, 1, .isub), (26, .invokestatic 204, 3, .invokeinterface 113 31), (29, .ifCond .ne (5), 3, .ifCond .ne 34), (32, .nop, 0, .goto_w 32)]),
  (32, [(32, .iconst (-1), 1, .iconst (-1)), (33, .ireturn, 1, .ireturn)]),
  (34, [(34, .iload_n 2, 1, .iload 2), (35, .ifCond .eq (12), 3, .ifCond .eq 47), (38, .aload_n 0, 1, .aload 0), (39, .getfield 160, 3, .getfield 1246), (42, .iload_n 1, 1, .iload 1), (43, .iaload, 1, .iaload), (44, .goto (9), 3, .goto 53)]),
  (47, [(47, .aload_n 0, 1, .aload 0), (48, .getfield 157, 3, .getfield 1245), (51, .iload_n 1, 1, .iload 1), (52, .iaload, 1, .iaload), (53, .nop, 0, .goto_w 53)]),
  (53, [(53, .ireturn, 1, .ireturn)])]
def ct_M_filled : List (Nat × List Nat) := []
def bl_M_asks : List (Nat × List am_I) := [(0, [(0, .lload_n 1, 1, .lload 1), (1, .aload_n 0, 1, .aload 0), (2, .getfield 154, 3, .getfield 1244), (5, .iconst (0), 1, .iconst (0)), (6, .iaload, 1, .iaload), (7, .i2l, 1, .i2l), (8, .invokestatic 267, 3, .invokeinterface 149 22), (11, .lstore_n 3, 1, .lstore 3), (12, .aload_n 0, 1, .aload 0), (13, .lload_n 3, 1, .lload 3), (14, .aload_n 0, 1, .aload 0), (15, .getfield 154, 3, .getfield 1244), (18, .iconst (1), 1, .iconst (1)), (19, .iaload, 1, .iaload), (20, .aload_n 0, 1, .aload 0), (21, .getfield 154, 3, .getfield 1244), (24, .iconst (4), 1, .iconst (4)), (25, .iaload, 1, .iaload), (26, .invokevirtual 271, 3, .invokeinterface 152 13040), (29, .iconst (0), 1, .iconst (0)), (30, .istore 5, 2, .istore 5), (32, .aload_n 0, 1, .aload 0), (33, .iconst (0), 1, .iconst (0)), (34, .putfield 338, 3, .putfield 1248), (37, .iconst (0), 1, .iconst (0)), (38, .istore 6, 2, .istore 6), (40, .nop, 0, .goto_w 40)]),
  (40, [(40, .iload 6, 2, .iload 6), (42, .iconst (3), 1, .iconst (3)), (43, .if_icmp .ge (59), 3, .if_icmp .ge 102), (46, .aload_n 0, 1, .aload 0), (47, .iload 6, 2, .iload 6), (49, .invokevirtual 281, 3, .invokeinterface 153 13021), (52, .ifCond .ne (6), 3, .ifCond .ne 58), (55, .goto (41), 3, .goto 96)]),
  (58, [(58, .iload 5, 2, .iload 5), (60, .aload_n 0, 1, .aload 0), (61, .getfield 157, 3, .getfield 1245), (64, .aload_n 0, 1, .aload 0), (65, .getfield 105, 3, .getfield 1224), (68, .iload 6, 2, .iload 6), (70, .iaload, 1, .iaload), (71, .iaload, 1, .iaload), (72, .ixor, 1, .ixor), (73, .istore 5, 2, .istore 5), (75, .aload_n 0, 1, .aload 0), (76, .dup, 1, .dup), (77, .getfield 338, 3, .getfield 1248), (80, .aload_n 0, 1, .aload 0), (81, .getfield 160, 3, .getfield 1246), (84, .aload_n 0, 1, .aload 0), (85, .getfield 105, 3, .getfield 1224), (88, .iload 6, 2, .iload 6), (90, .iaload, 1, .iaload), (91, .iaload, 1, .iaload), (92, .ixor, 1, .ixor), (93, .putfield 338, 3, .putfield 1248), (96, .nop, 0, .goto_w 96)]),
  (96, [(96, .iinc 6 (1), 3, .iinc 6 (1)), (99, .goto (-59), 3, .goto 40)]),
  (102, [(102, .iload 5, 2, .iload 5), (104, .lload_n 3, 1, .lload 3), (105, .aload_n 0, 1, .aload 0), (106, .getfield 154, 3, .getfield 1244), (109, .iconst (2), 1, .iconst (2)), (110, .iaload, 1, .iaload), (111, .invokestatic 275, 3, .invokeinterface 150 21), (114, .if_icmp .ne (7), 3, .if_icmp .ne 121), (117, .iconst (1), 1, .iconst (1)), (118, .goto (4), 3, .goto 122)]),
  (121, [(121, .iconst (0), 1, .iconst (0)), (122, .nop, 0, .goto_w 122)]),
  (122, [(122, .ireturn, 1, .ireturn)])]
def ct_M_asks : List (Nat × List Nat) := [(40, [0, 3, 5, 6])]
def bl_M_passes : List (Nat × List am_I) := [(0, [(0, .aload_n 0, 1, .aload 0), (1, .iconst (0), 1, .iconst (0)), (2, .putfield 1, 3, .putfield 1200), (5, .aload_n 0, 1, .aload 0), (6, .getfield 163, 3, .getfield 1247), (9, .iconst (0), 1, .iconst (0)), (10, .baload, 1, .baload), (11, .ifCond .eq (15), 3, .ifCond .eq 26), (14, .aload_n 0, 1, .aload 0), (15, .lload_n 1, 1, .lload 1), (16, .invokevirtual 341, 3, .invokeinterface 183 13021), (19, .ifCond .eq (7), 3, .ifCond .eq 26), (22, .iconst (1), 1, .iconst (1)), (23, .goto (4), 3, .goto 27)]),
  (26, [(26, .iconst (0), 1, .iconst (0)), (27, .nop, 0, .goto_w 27)]),
  (27, [(27, .ireturn, 1, .ireturn)])]
def ct_M_passes : List (Nat × List Nat) := []
def bl_M_told : List (Nat × List am_I) := [(0, [(0, .aload_n 0, 1, .aload 0), (1, .iconst (0), 1, .iconst (0)), (2, .putfield 1, 3, .putfield 1200), (5, .aload_n 0, 1, .aload 0), (6, .getfield 163, 3, .getfield 1247), (9, .iconst (0), 1, .iconst (0)), (10, .baload, 1, .baload), (11, .ifCond .ne (5), 3, .ifCond .ne 16), (14, .iconst (-1), 1, .iconst (-1)), (15, .ireturn, 1, .ireturn)]),
  (16, [(16, .aload_n 0, 1, .aload 0), (17, .lload_n 1, 1, .lload 1), (18, .invokevirtual 341, 3, .invokeinterface 183 13021), (21, .pop, 1, .pop), (22, .aload_n 0, 1, .aload 0), (23, .getfield 338, 3, .getfield 1248), (26, .ireturn, 1, .ireturn)])]
def ct_M_told : List (Nat × List Nat) := []
def bl_M_right : List (Nat × List am_I) := [(0, [(0, .aload_n 0, 1, .aload 0), (1, .iconst (0), 1, .iconst (0)), (2, .putfield 1, 3, .putfield 1200), (5, .aload_n 0, 1, .aload 0), (6, .getfield 163, 3, .getfield 1247), (9, .iconst (0), 1, .iconst (0)), (10, .baload, 1, .baload), (11, .ifCond .ne (5), 3, .ifCond .ne 16), (14, .iconst (-1), 1, .iconst (-1)), (15, .ireturn, 1, .ireturn)]),
  (16, [(16, .iconst (0), 1, .iconst (0)), (17, .istore_n 1, 1, .istore 1), (18, .iconst (0), 1, .iconst (0)), (19, .istore_n 2, 1, .istore 2), (20, .nop, 0, .goto_w 20)]),
  (20, [(20, .iload_n 2, 1, .iload 2), (21, .aload_n 0, 1, .aload 0), (22, .getfield 230, 3, .getfield 1221), (25, .if_icmp .ge (38), 3, .if_icmp .ge 63), (28, .aload_n 0, 1, .aload 0), (29, .aload_n 0, 1, .aload 0), (30, .getfield 74, 3, .getfield 1211), (33, .iload_n 2, 1, .iload 2), (34, .laload, 1, .laload), (35, .invokevirtual 341, 3, .invokeinterface 183 13021), (38, .ifCond .eq (19), 3, .ifCond .eq 57), (41, .aload_n 0, 1, .aload 0), (42, .getfield 338, 3, .getfield 1248), (45, .aload_n 0, 1, .aload 0), (46, .getfield 84, 3, .getfield 1214), (49, .iload_n 2, 1, .iload 2), (50, .iaload, 1, .iaload), (51, .if_icmp .ne (6), 3, .if_icmp .ne 57), (54, .iinc 1 (1), 3, .iinc 1 (1)), (57, .nop, 0, .goto_w 57)]),
  (57, [(57, .iinc 2 (1), 3, .iinc 2 (1)), (60, .goto (-40), 3, .goto 20)]),
  (63, [(63, .iload_n 1, 1, .iload 1), (64, .ireturn, 1, .ireturn)])]
def ct_M_right : List (Nat × List Nat) := [(20, [0, 1, 2])]
def bl_M_strangers : List (Nat × List am_I) := [(0, [(0, .aload_n 0, 1, .aload 0), (1, .iconst (0), 1, .iconst (0)), (2, .putfield 1, 3, .putfield 1200), (5, .aload_n 0, 1, .aload 0), (6, .getfield 163, 3, .getfield 1247), (9, .iconst (0), 1, .iconst (0)), (10, .baload, 1, .baload), (11, .ifCond .eq (14), 3, .ifCond .eq 25), (14, .iload_n 3, 1, .iload 3), (15, .iconst (1), 1, .iconst (1)), (16, .sipush (1000), 3, .iconst (1000)), (19, .invokestatic 204, 3, .invokeinterface 113 31), (22, .ifCond .ne (5), 3, .ifCond .ne 27), (25, .nop, 0, .goto_w 25)]),
  (25, [(25, .iconst (-1), 1, .iconst (-1)), (26, .ireturn, 1, .ireturn)]),
  (27, [(27, .iconst (0), 1, .iconst (0)), (28, .istore 5, 2, .istore 5), (30, .iconst (0), 1, .iconst (0)), (31, .istore 6, 2, .istore 6), (33, .nop, 0, .goto_w 33)]),
  (33, [(33, .iload 6, 2, .iload 6), (35, .iload_n 3, 1, .iload 3), (36, .if_icmp .ge (50), 3, .if_icmp .ge 86), (39, .aload_n 0, 1, .aload 0), (40, .lload_n 1, 1, .lload 1), (41, .iload 6, 2, .iload 6), (43, .i2l, 1, .i2l), (44, .ladd, 1, .ladd), (45, .invokevirtual 341, 3, .invokeinterface 183 13021), (48, .ifCond .eq (32), 3, .ifCond .eq 80), (51, .aload_n 0, 1, .aload 0), (52, .lload_n 1, 1, .lload 1), (53, .iload 6, 2, .iload 6), (55, .i2l, 1, .i2l), (56, .ladd, 1, .ladd), (57, .invokevirtual 246, 3, .invokeinterface 139 13021), (60, .iconst (-1), 1, .iconst (-1)), (61, .if_icmp .eq (6), 3, .if_icmp .eq 67), (64, .goto (16), 3, .goto 80)]),
  (67, [(67, .iload 5, 2, .iload 5), (69, .iload 4, 2, .iload 4), (71, .if_icmp .ne (6), 3, .if_icmp .ne 77), (74, .iload 6, 2, .iload 6), (76, .ireturn, 1, .ireturn)]),
  (77, [(77, .iinc 5 (1), 3, .iinc 5 (1)), (80, .nop, 0, .goto_w 80)]),
  (80, [(80, .iinc 6 (1), 3, .iinc 6 (1)), (83, .goto (-50), 3, .goto 33)]),
  (86, [(86, .iload 4, 2, .iload 4), (88, .iconst (-1), 1, .iconst (-1)), (89, .if_icmp .ne (8), 3, .if_icmp .ne 97), (92, .iload 5, 2, .iload 5), (94, .goto (5), 3, .goto 99)]),
  (97, [(97, .bipush (-2), 2, .iconst (-2)), (99, .nop, 0, .goto_w 99)]),
  (99, [(99, .ireturn, 1, .ireturn)])]
def ct_M_strangers : List (Nat × List Nat) := [(33, [0, 1, 3, 4, 5, 6])]
def bl_M_copies : List (Nat × List am_I) := [(0, [(0, .iconst (0), 1, .iconst (0)), (1, .istore_n 3, 1, .istore 3), (2, .nop, 0, .goto_w 2)]),
  (2, [(2, .iload_n 3, 1, .iload 3), (3, .bipush (7), 2, .iconst (7)), (5, .if_icmp .ge (31), 3, .if_icmp .ge 36), (8, .aload_n 0, 1, .aload 0), (9, .getfield 154, 3, .getfield 1244), (12, .bipush (7), 2, .iconst (7)), (14, .iload_n 2, 1, .iload 2), (15, .imul, 1, .imul), (16, .iload_n 3, 1, .iload 3), (17, .iadd, 1, .iadd), (18, .aload_n 0, 1, .aload 0), (19, .getfield 154, 3, .getfield 1244), (22, .bipush (7), 2, .iconst (7)), (24, .iload_n 1, 1, .iload 1), (25, .imul, 1, .imul), (26, .iload_n 3, 1, .iload 3), (27, .iadd, 1, .iadd), (28, .iaload, 1, .iaload), (29, .iastore, 1, .iastore), (30, .iinc 3 (1), 3, .iinc 3 (1)), (33, .goto (-31), 3, .goto 2)]),
  (36, [(36, .iconst (0), 1, .iconst (0)), (37, .istore_n 3, 1, .istore 3), (38, .nop, 0, .goto_w 38)]),
  (38, [(38, .iload_n 3, 1, .iload 3), (39, .bipush (96), 2, .iconst (96)), (41, .if_icmp .ge (53), 3, .if_icmp .ge 94), (44, .aload_n 0, 1, .aload 0), (45, .getfield 157, 3, .getfield 1245), (48, .bipush (96), 2, .iconst (96)), (50, .iload_n 2, 1, .iload 2), (51, .imul, 1, .imul), (52, .iload_n 3, 1, .iload 3), (53, .iadd, 1, .iadd), (54, .aload_n 0, 1, .aload 0), (55, .getfield 157, 3, .getfield 1245), (58, .bipush (96), 2, .iconst (96)), (60, .iload_n 1, 1, .iload 1), (61, .imul, 1, .imul), (62, .iload_n 3, 1, .iload 3), (63, .iadd, 1, .iadd), (64, .iaload, 1, .iaload), (65, .iastore, 1, .iastore), (66, .aload_n 0, 1, .aload 0), (67, .getfield 160, 3, .getfield 1246), (70, .bipush (96), 2, .iconst (96)), (72, .iload_n 2, 1, .iload 2), (73, .imul, 1, .imul), (74, .iload_n 3, 1, .iload 3), (75, .iadd, 1, .iadd), (76, .aload_n 0, 1, .aload 0), (77, .getfield 160, 3, .getfield 1246), (80, .bipush (96), 2, .iconst (96)), (82, .iload_n 1, 1, .iload 1), (83, .imul, 1, .imul), (84, .iload_n 3, 1, .iload 3), (85, .iadd, 1, .iadd), (86, .iaload, 1, .iaload), (87, .iastore, 1, .iastore), (88, .iinc 3 (1), 3, .iinc 3 (1)), (91, .goto (-53), 3, .goto 38)]),
  (94, [(94, .aload_n 0, 1, .aload 0), (95, .getfield 163, 3, .getfield 1247), (98, .iload_n 2, 1, .iload 2), (99, .iconst (1), 1, .iconst (1)), (100, .bastore, 1, .bastore), (101, .return_, 1, .return_)])]
def ct_M_copies : List (Nat × List Nat) := [(2, [0, 1, 2, 3]), (38, [0, 1, 2, 3])]
def bl_M_shelf : List (Nat × List am_I) := [(0, [(0, .aload_n 0, 1, .aload 0), (1, .iconst (0), 1, .iconst (0)), (2, .putfield 1, 3, .putfield 1200), (5, .iload_n 1, 1, .iload 1), (6, .iconst (0), 1, .iconst (0)), (7, .iconst (1), 1, .iconst (1)), (8, .invokestatic 204, 3, .invokeinterface 113 31), (11, .ifCond .eq (22), 3, .ifCond .eq 33), (14, .aload_n 0, 1, .aload 0), (15, .getfield 163, 3, .getfield 1247), (18, .iload_n 2, 1, .iload 2), (19, .ifCond .eq (9), 3, .ifCond .eq 28), (22, .iload_n 1, 1, .iload 1), (23, .iconst (1), 1, .iconst (1)), (24, .iadd, 1, .iadd), (25, .goto (4), 3, .goto 29)]),
  (28, [(28, .iconst (0), 1, .iconst (0)), (29, .nop, 0, .goto_w 29)]),
  (29, [(29, .baload, 1, .baload), (30, .ifCond .ne (5), 3, .ifCond .ne 35), (33, .nop, 0, .goto_w 33)]),
  (33, [(33, .iconst (0), 1, .iconst (0)), (34, .ireturn, 1, .ireturn)]),
  (35, [(35, .aload_n 0, 1, .aload 0), (36, .iload_n 2, 1, .iload 2), (37, .ifCond .eq (9), 3, .ifCond .eq 46), (40, .iload_n 1, 1, .iload 1), (41, .iconst (1), 1, .iconst (1)), (42, .iadd, 1, .iadd), (43, .goto (4), 3, .goto 47)]),
  (46, [(46, .iconst (0), 1, .iconst (0)), (47, .nop, 0, .goto_w 47)]),
  (47, [(47, .iload_n 2, 1, .iload 2), (48, .ifCond .eq (7), 3, .ifCond .eq 55), (51, .iconst (0), 1, .iconst (0)), (52, .goto (6), 3, .goto 58)]),
  (55, [(55, .iload_n 1, 1, .iload 1), (56, .iconst (1), 1, .iconst (1)), (57, .iadd, 1, .iadd), (58, .nop, 0, .goto_w 58)]),
  (58, [(58, .invokevirtual 344, 3, .invokeinterface 188 13030), (61, .iconst (1), 1, .iconst (1)), (62, .ireturn, 1, .ireturn)])]
def ct_M_shelf : List (Nat × List Nat) := []
def bl_M_unlike : List (Nat × List am_I) := [(0, [(0, .aload_n 0, 1, .aload 0), (1, .iconst (0), 1, .iconst (0)), (2, .putfield 1, 3, .putfield 1200), (5, .iload_n 1, 1, .iload 1), (6, .iconst (0), 1, .iconst (0)), (7, .iconst (1), 1, .iconst (1)), (8, .invokestatic 204, 3, .invokeinterface 113 31), (11, .ifCond .eq (23), 3, .ifCond .eq 34), (14, .aload_n 0, 1, .aload 0), (15, .getfield 163, 3, .getfield 1247), (18, .iconst (0), 1, .iconst (0)), (19, .baload, 1, .baload), (20, .ifCond .eq (14), 3, .ifCond .eq 34), (23, .aload_n 0, 1, .aload 0), (24, .getfield 163, 3, .getfield 1247), (27, .iload_n 1, 1, .iload 1), (28, .iconst (1), 1, .iconst (1)), (29, .iadd, 1, .iadd), (30, .baload, 1, .baload), (31, .ifCond .ne (5), 3, .ifCond .ne 36), (34, .nop, 0, .goto_w 34)]),
  (34, [(34, .iconst (-1), 1, .iconst (-1)), (35, .ireturn, 1, .ireturn)]),
  (36, [(36, .aload_n 0, 1, .aload 0), (37, .getfield 154, 3, .getfield 1244), (40, .iconst (1), 1, .iconst (1)), (41, .iaload, 1, .iaload), (42, .aload_n 0, 1, .aload 0), (43, .getfield 154, 3, .getfield 1244), (46, .bipush (7), 2, .iconst (7)), (48, .iload_n 1, 1, .iload 1), (49, .iconst (1), 1, .iconst (1)), (50, .iadd, 1, .iadd), (51, .imul, 1, .imul), (52, .iconst (1), 1, .iconst (1)), (53, .iadd, 1, .iadd), (54, .iaload, 1, .iaload), (55, .if_icmp .eq (6), 3, .if_icmp .eq 61), (58, .bipush (-2), 2, .iconst (-2)), (60, .ireturn, 1, .ireturn)]),
  (61, [(61, .iconst (0), 1, .iconst (0)), (62, .istore_n 2, 1, .istore 2), (63, .iconst (0), 1, .iconst (0)), (64, .istore_n 3, 1, .istore 3), (65, .nop, 0, .goto_w 65)]),
  (65, [(65, .iload_n 3, 1, .iload 3), (66, .bipush (96), 2, .iconst (96)), (68, .if_icmp .ge (56), 3, .if_icmp .ge 124), (71, .aload_n 0, 1, .aload 0), (72, .getfield 157, 3, .getfield 1245), (75, .iload_n 3, 1, .iload 3), (76, .iaload, 1, .iaload), (77, .aload_n 0, 1, .aload 0), (78, .getfield 157, 3, .getfield 1245), (81, .bipush (96), 2, .iconst (96)), (83, .iload_n 1, 1, .iload 1), (84, .iconst (1), 1, .iconst (1)), (85, .iadd, 1, .iadd), (86, .imul, 1, .imul), (87, .iload_n 3, 1, .iload 3), (88, .iadd, 1, .iadd), (89, .iaload, 1, .iaload), (90, .if_icmp .ne (25), 3, .if_icmp .ne 115), (93, .aload_n 0, 1, .aload 0), (94, .getfield 160, 3, .getfield 1246), (97, .iload_n 3, 1, .iload 3), (98, .iaload, 1, .iaload), (99, .aload_n 0, 1, .aload 0), (100, .getfield 160, 3, .getfield 1246), (103, .bipush (96), 2, .iconst (96)), (105, .iload_n 1, 1, .iload 1), (106, .iconst (1), 1, .iconst (1)), (107, .iadd, 1, .iadd), (108, .imul, 1, .imul), (109, .iload_n 3, 1, .iload 3), (110, .iadd, 1, .iadd), (111, .iaload, 1, .iaload), (112, .if_icmp .eq (6), 3, .if_icmp .eq 118), (115, .nop, 0, .goto_w 115)]),
  (115, [(115, .iinc 2 (1), 3, .iinc 2 (1)), (118, .nop, 0, .goto_w 118)]),
  (118, [(118, .iinc 3 (1), 3, .iinc 3 (1)), (121, .goto (-56), 3, .goto 65)]),
  (124, [(124, .iload_n 2, 1, .iload 2), (125, .ireturn, 1, .ireturn)])]
def ct_M_unlike : List (Nat × List Nat) := [(65, [0, 1, 2, 3])]
def bl_M_emptyCells : List (Nat × List am_I) := [(0, [(0, .aload_n 0, 1, .aload 0), (1, .invokevirtual 311, 3, .invokeinterface 158 13010), (4, .iconst (0), 1, .iconst (0)), (5, .istore_n 1, 1, .istore 1), (6, .iconst (0), 1, .iconst (0)), (7, .istore_n 2, 1, .istore 2), (8, .nop, 0, .goto_w 8)]),
  (8, [(8, .iload_n 2, 1, .iload 2), (9, .iconst (3), 1, .iconst (3)), (10, .aload_n 0, 1, .aload 0), (11, .getfield 93, 3, .getfield 1217), (14, .iconst (1), 1, .iconst (1)), (15, .iaload, 1, .iaload), (16, .imul, 1, .imul), (17, .if_icmp .ge (21), 3, .if_icmp .ge 38), (20, .aload_n 0, 1, .aload 0), (21, .getfield 114, 3, .getfield 1227), (24, .iload_n 2, 1, .iload 2), (25, .iaload, 1, .iaload), (26, .ifCond .ne (6), 3, .ifCond .ne 32), (29, .iinc 1 (1), 3, .iinc 1 (1)), (32, .nop, 0, .goto_w 32)]),
  (32, [(32, .iinc 2 (1), 3, .iinc 2 (1)), (35, .goto (-27), 3, .goto 8)]),
  (38, [(38, .iload_n 1, 1, .iload 1), (39, .ireturn, 1, .ireturn)])]
def ct_M_emptyCells : List (Nat × List Nat) := [(8, [0, 1, 2])]
def bl_M_count : List (Nat × List am_I) := [(0, [(0, .aload_n 0, 1, .aload 0), (1, .iconst (0), 1, .iconst (0)), (2, .putfield 1, 3, .putfield 1200), (5, .iload_n 1, 1, .iload 1), (6, .iconst (1), 1, .iconst (1)), (7, .bipush (6), 2, .iconst (6)), (9, .invokestatic 204, 3, .invokeinterface 113 31), (12, .ifCond .eq (10), 3, .ifCond .eq 22), (15, .aload_n 0, 1, .aload 0), (16, .getfield 93, 3, .getfield 1217), (19, .iload_n 1, 1, .iload 1), (20, .iaload, 1, .iaload), (21, .ireturn, 1, .ireturn)]),
  (22, [(22, .iload_n 1, 1, .iload 1), (23, .tableswitch (92) (0) (10) #[57, 92, 92, 92, 92, 92, 92, 62, 67, 72, 77], 57, .lookupswitch 115 #[(0, 80), (7, 85), (8, 90), (9, 95), (10, 100)])]),
  (80, [(80, .aload_n 0, 1, .aload 0), (81, .getfield 230, 3, .getfield 1221), (84, .ireturn, 1, .ireturn)]),
  (85, [(85, .aload_n 0, 1, .aload 0), (86, .getfield 233, 3, .getfield 1223), (89, .ireturn, 1, .ireturn)]),
  (90, [(90, .aload_n 0, 1, .aload 0), (91, .getfield 11, 3, .getfield 1202), (94, .ireturn, 1, .ireturn)]),
  (95, [(95, .aload_n 0, 1, .aload 0), (96, .invokevirtual 347, 3, .invokeinterface 191 13011), (99, .ireturn, 1, .ireturn)]),
  (100, [(100, .aload_n 0, 1, .aload 0), (101, .getfield 163, 3, .getfield 1247), (104, .iconst (0), 1, .iconst (0)), (105, .baload, 1, .baload), (106, .ifCond .eq (7), 3, .ifCond .eq 113), (109, .iconst (1), 1, .iconst (1)), (110, .goto (4), 3, .goto 114)]),
  (113, [(113, .iconst (0), 1, .iconst (0)), (114, .nop, 0, .goto_w 114)]),
  (114, [(114, .ireturn, 1, .ireturn)]),
  (115, [(115, .iconst (-1), 1, .iconst (-1)), (116, .ireturn, 1, .ireturn)])]
def ct_M_count : List (Nat × List Nat) := []
end
section
theorem chk_Acts_forget : am_chk 0 bl_Acts_forget ct_Acts_forget false = true := by decide +kernel
theorem chk_Acts_note : am_chk 1 bl_Acts_note ct_Acts_note false = true := by decide +kernel
theorem chk_Acts_undoLatest : am_chk 2 bl_Acts_undoLatest ct_Acts_undoLatest false = true := by decide +kernel
theorem chk_Basis_independent : am_chk 3 bl_Basis_independent ct_Basis_independent false = true := by decide +kernel
theorem chk_Basis_join : am_chk 4 bl_Basis_join ct_Basis_join false = true := by decide +kernel
theorem chk_Given_reset : am_chk 5 bl_Given_reset ct_Given_reset false = true := by decide +kernel
theorem chk_Given_copy : am_chk 6 bl_Given_copy ct_Given_copy false = true := by decide +kernel
theorem chk_Given_has : am_chk 7 bl_Given_has ct_Given_has true = true := by decide +kernel
theorem chk_Given_find : am_chk 8 bl_Given_find ct_Given_find false = true := by decide +kernel
theorem chk_Given_insert : am_chk 9 bl_Given_insert ct_Given_insert false = true := by decide +kernel
theorem chk_Given_drop : am_chk 10 bl_Given_drop ct_Given_drop false = true := by decide +kernel
theorem chk_Given_revalue : am_chk 11 bl_Given_revalue ct_Given_revalue false = true := by decide +kernel
theorem chk_Given_resettle : am_chk 12 bl_Given_resettle ct_Given_resettle false = true := by decide +kernel
theorem chk_Given_canBeValue : am_chk 13 bl_Given_canBeValue ct_Given_canBeValue true = true := by decide +kernel
theorem chk_Given_fitsBits : am_chk 14 bl_Given_fitsBits ct_Given_fitsBits true = true := by decide +kernel
theorem chk_Given_canBeSetting : am_chk 15 bl_Given_canBeSetting ct_Given_canBeSetting true = true := by decide +kernel
theorem chk_Marks_mix : am_chk 16 bl_Marks_mix ct_Marks_mix false = true := by decide +kernel
theorem chk_Marks_aim : am_chk 17 bl_Marks_aim ct_Marks_aim false = true := by decide +kernel
theorem chk_Marks_look : am_chk 18 bl_Marks_look ct_Marks_look false = true := by decide +kernel
theorem chk_Marks_placeApart : am_chk 19 bl_Marks_placeApart ct_Marks_placeApart false = true := by decide +kernel
theorem chk_Marks_placeClose : am_chk 20 bl_Marks_placeClose ct_Marks_placeClose false = true := by decide +kernel
theorem chk_Marks_placeFree : am_chk 21 bl_Marks_placeFree ct_Marks_placeFree false = true := by decide +kernel
theorem chk_Marks_share : am_chk 22 bl_Marks_share ct_Marks_share false = true := by decide +kernel
theorem chk_Marks_gatherTouched : am_chk 23 bl_Marks_gatherTouched ct_Marks_gatherTouched false = true := by decide +kernel
theorem chk_Marks_touchOnly : am_chk 24 bl_Marks_touchOnly ct_Marks_touchOnly false = true := by decide +kernel
theorem chk_Marks_sum : am_chk 25 bl_Marks_sum ct_Marks_sum false = true := by decide +kernel
theorem chk_Mender_search : am_chk 26 bl_Mender_search ct_Mender_search false = true := by decide +kernel
theorem chk_Mender_choose : am_chk 27 bl_Mender_choose ct_Mender_choose true = true := by decide +kernel
theorem chk_Mender_leaveOut : am_chk 28 bl_Mender_leaveOut ct_Mender_leaveOut false = true := by decide +kernel
theorem chk_Mender_take : am_chk 29 bl_Mender_take ct_Mender_take false = true := by decide +kernel
theorem chk_Mender_bringBack : am_chk 30 bl_Mender_bringBack ct_Mender_bringBack false = true := by decide +kernel
theorem chk_Peeling_run : am_chk 31 bl_Peeling_run ct_Peeling_run false = true := by decide +kernel
theorem chk_Peeling_runLine : am_chk 32 bl_Peeling_runLine ct_Peeling_runLine false = true := by decide +kernel
theorem chk_Peeling_lineUp : am_chk 33 bl_Peeling_lineUp ct_Peeling_lineUp false = true := by decide +kernel
theorem chk_Peeling_leaveLine : am_chk 34 bl_Peeling_leaveLine ct_Peeling_leaveLine false = true := by decide +kernel
theorem chk_Peeling_runLeast : am_chk 35 bl_Peeling_runLeast ct_Peeling_runLeast false = true := by decide +kernel
theorem chk_Peeling_goOut : am_chk 36 bl_Peeling_goOut ct_Peeling_goOut false = true := by decide +kernel
theorem chk_Peeling_fillBack : am_chk 37 bl_Peeling_fillBack ct_Peeling_fillBack false = true := by decide +kernel
theorem chk_Peeling_countWoken : am_chk 38 bl_Peeling_countWoken ct_Peeling_countWoken false = true := by decide +kernel
theorem chk_Reader_read : am_chk 39 bl_Reader_read ct_Reader_read false = true := by decide +kernel
theorem chk_Reader_readSetting : am_chk 40 bl_Reader_readSetting ct_Reader_readSetting false = true := by decide +kernel
theorem chk_Reader_readKey : am_chk 41 bl_Reader_readKey ct_Reader_readKey false = true := by decide +kernel
theorem chk_Reader_takeValue : am_chk 42 bl_Reader_takeValue ct_Reader_takeValue false = true := by decide +kernel
theorem chk_Reader_takeNumber : am_chk 43 bl_Reader_takeNumber ct_Reader_takeNumber false = true := by decide +kernel
theorem chk_Reader_takeChoice : am_chk 44 bl_Reader_takeChoice ct_Reader_takeChoice false = true := by decide +kernel
theorem chk_Reader_passStop : am_chk 45 bl_Reader_passStop ct_Reader_passStop false = true := by decide +kernel
theorem chk_Reader_fail : am_chk 46 bl_Reader_fail ct_Reader_fail false = true := by decide +kernel
theorem chk_Reader_nameOf : am_chk 47 bl_Reader_nameOf ct_Reader_nameOf false = true := by decide +kernel
theorem chk_Reader_choiceOf : am_chk 48 bl_Reader_choiceOf ct_Reader_choiceOf false = true := by decide +kernel
theorem chk_Rounds_run : am_chk 49 bl_Rounds_run ct_Rounds_run false = true := by decide +kernel
theorem chk_Rounds_mark : am_chk 50 bl_Rounds_mark ct_Rounds_mark true = true := by decide +kernel
theorem chk_Rounds_takeMarked : am_chk 51 bl_Rounds_takeMarked ct_Rounds_takeMarked false = true := by decide +kernel
theorem chk_Row_lay : am_chk 52 bl_Row_lay ct_Row_lay false = true := by decide +kernel
theorem chk_Row_putBack : am_chk 53 bl_Row_putBack ct_Row_putBack false = true := by decide +kernel
theorem chk_Row_takeOff : am_chk 54 bl_Row_takeOff ct_Row_takeOff false = true := by decide +kernel
theorem chk_Row_isAlone : am_chk 55 bl_Row_isAlone ct_Row_isAlone true = true := by decide +kernel
theorem chk_Row_countTouched : am_chk 56 bl_Row_countTouched ct_Row_countTouched false = true := by decide +kernel
theorem chk_Row_leftAt : am_chk 57 bl_Row_leftAt ct_Row_leftAt false = true := by decide +kernel
theorem chk_Row_touchSame : am_chk 58 bl_Row_touchSame ct_Row_touchSame true = true := by decide +kernel
theorem chk_Sieve_describe : am_chk 59 bl_Sieve_describe ct_Sieve_describe false = true := by decide +kernel
theorem chk_Sieve_copy : am_chk 60 bl_Sieve_copy ct_Sieve_copy false = true := by decide +kernel
theorem chk_Sieve_length : am_chk 61 bl_Sieve_length ct_Sieve_length false = true := by decide +kernel
theorem chk_Sieve_countBits : am_chk 62 bl_Sieve_countBits ct_Sieve_countBits false = true := by decide +kernel
theorem chk_Sieve_aim : am_chk 63 bl_Sieve_aim ct_Sieve_aim false = true := by decide +kernel
theorem chk_Sieve_letsThrough : am_chk 64 bl_Sieve_letsThrough ct_Sieve_letsThrough true = true := by decide +kernel
theorem chk_Sieve_countUnlike : am_chk 65 bl_Sieve_countUnlike ct_Sieve_countUnlike false = true := by decide +kernel
theorem chk_Tape_append : am_chk 66 bl_Tape_append ct_Tape_append false = true := by decide +kernel
theorem chk_Tape_rewind : am_chk 67 bl_Tape_rewind ct_Tape_rewind false = true := by decide +kernel
theorem chk_Tape_step : am_chk 68 bl_Tape_step ct_Tape_step false = true := by decide +kernel
theorem chk_Tape_takeWord : am_chk 69 bl_Tape_takeWord ct_Tape_takeWord false = true := by decide +kernel
theorem chk_Tape_takeNumber : am_chk 70 bl_Tape_takeNumber ct_Tape_takeNumber false = true := by decide +kernel
theorem chk_Tape_isWord : am_chk 71 bl_Tape_isWord ct_Tape_isWord true = true := by decide +kernel
theorem chk_Tape_isLetter : am_chk 72 bl_Tape_isLetter ct_Tape_isLetter true = true := by decide +kernel
theorem chk_Tape_isDigit : am_chk 73 bl_Tape_isDigit ct_Tape_isDigit true = true := by decide +kernel
theorem chk_T_feed : am_chk 74 bl_T_feed ct_T_feed false = true := by decide +kernel
theorem chk_T_end : am_chk 75 bl_T_end ct_T_end true = true := by decide +kernel
theorem chk_T_text : am_chk 76 bl_T_text ct_T_text false = true := by decide +kernel
theorem chk_T_worth : am_chk 78 bl_T_worth ct_T_worth false = true := by decide +kernel
theorem chk_T_add : am_chk 79 bl_T_add ct_T_add false = true := by decide +kernel
theorem chk_T_gone : am_chk 80 bl_T_gone ct_T_gone false = true := by decide +kernel
theorem chk_T_turn : am_chk 81 bl_T_turn ct_T_turn false = true := by decide +kernel
theorem chk_T_set : am_chk 82 bl_T_set ct_T_set false = true := by decide +kernel
theorem chk_T_hash : am_chk 83 bl_T_hash ct_T_hash false = true := by decide +kernel
theorem chk_T_cell : am_chk 84 bl_T_cell ct_T_cell false = true := by decide +kernel
theorem chk_T_print : am_chk 85 bl_T_print ct_T_print false = true := by decide +kernel
theorem chk_T_load : am_chk 86 bl_T_load ct_T_load false = true := by decide +kernel
theorem chk_T_twins : am_chk 87 bl_T_twins ct_T_twins false = true := by decide +kernel
theorem chk_T_peel : am_chk 88 bl_T_peel ct_T_peel false = true := by decide +kernel
theorem chk_T_core : am_chk 89 bl_T_core ct_T_core false = true := by decide +kernel
theorem chk_T_level : am_chk 90 bl_T_level ct_T_level false = true := by decide +kernel
theorem chk_T_rank : am_chk 91 bl_T_rank ct_T_rank false = true := by decide +kernel
theorem chk_T_mend : am_chk 92 bl_T_mend ct_T_mend false = true := by decide +kernel
theorem chk_T_tight : am_chk 93 bl_T_tight ct_T_tight false = true := by decide +kernel
theorem chk_T_peels : am_chk 94 bl_T_peels ct_T_peels false = true := by decide +kernel
theorem chk_T_wake : am_chk 95 bl_T_wake ct_T_wake false = true := by decide +kernel
theorem chk_T_build : am_chk 96 bl_T_build ct_T_build false = true := by decide +kernel
theorem chk_T_built : am_chk 97 bl_T_built ct_T_built false = true := by decide +kernel
theorem chk_T_filled : am_chk 98 bl_T_filled ct_T_filled false = true := by decide +kernel
theorem chk_T_passes : am_chk 99 bl_T_passes ct_T_passes true = true := by decide +kernel
theorem chk_T_told : am_chk 100 bl_T_told ct_T_told false = true := by decide +kernel
theorem chk_T_right : am_chk 101 bl_T_right ct_T_right false = true := by decide +kernel
theorem chk_T_strangers : am_chk 102 bl_T_strangers ct_T_strangers false = true := by decide +kernel
theorem chk_T_shelf : am_chk 103 bl_T_shelf ct_T_shelf true = true := by decide +kernel
theorem chk_T_unlike : am_chk 104 bl_T_unlike ct_T_unlike false = true := by decide +kernel
theorem chk_T_undo : am_chk 105 bl_T_undo ct_T_undo false = true := by decide +kernel
theorem chk_T_count : am_chk 106 bl_T_count ct_T_count false = true := by decide +kernel
theorem chk_T_lookNow : am_chk 107 bl_T_lookNow ct_T_lookNow false = true := by decide +kernel
theorem chk_T_layNow : am_chk 108 bl_T_layNow ct_T_layNow false = true := by decide +kernel
theorem chk_T_peelNow : am_chk 109 bl_T_peelNow ct_T_peelNow false = true := by decide +kernel
theorem chk_T_allPeel : am_chk 110 bl_T_allPeel ct_T_allPeel true = true := by decide +kernel
theorem chk_M_thrown : am_chk 111 bl_M_thrown ct_M_thrown false = true := by decide +kernel
theorem chk_M_refuse : am_chk 112 bl_M_refuse ct_M_refuse false = true := by decide +kernel
theorem chk_M_isIn : am_chk 113 bl_M_isIn ct_M_isIn true = true := by decide +kernel
theorem chk_M_lays : am_chk 114 bl_M_lays ct_M_lays false = true := by decide +kernel
theorem chk_M_feed : am_chk 115 bl_M_feed ct_M_feed false = true := by decide +kernel
theorem chk_M_end : am_chk 116 bl_M_end ct_M_end true = true := by decide +kernel
theorem chk_M_tapeAt : am_chk 117 bl_M_tapeAt ct_M_tapeAt false = true := by decide +kernel
theorem chk_M_isDigit : am_chk 118 bl_M_isDigit ct_M_isDigit true = true := by decide +kernel
theorem chk_M_isLetter : am_chk 119 bl_M_isLetter ct_M_isLetter true = true := by decide +kernel
theorem chk_M_go : am_chk 120 bl_M_go ct_M_go false = true := by decide +kernel
theorem chk_M_three : am_chk 121 bl_M_three ct_M_three false = true := by decide +kernel
theorem chk_M_five : am_chk 122 bl_M_five ct_M_five false = true := by decide +kernel
theorem chk_M_six : am_chk 123 bl_M_six ct_M_six false = true := by decide +kernel
theorem chk_M_isWord : am_chk 124 bl_M_isWord ct_M_isWord true = true := by decide +kernel
theorem chk_M_bad : am_chk 125 bl_M_bad ct_M_bad true = true := by decide +kernel
theorem chk_M_begins : am_chk 126 bl_M_begins ct_M_begins false = true := by decide +kernel
theorem chk_M_lowOf : am_chk 127 bl_M_lowOf ct_M_lowOf false = true := by decide +kernel
theorem chk_M_highOf : am_chk 128 bl_M_highOf ct_M_highOf false = true := by decide +kernel
theorem chk_M_nameOf : am_chk 129 bl_M_nameOf ct_M_nameOf false = true := by decide +kernel
theorem chk_M_wayHere : am_chk 130 bl_M_wayHere ct_M_wayHere false = true := by decide +kernel
theorem chk_M_spreadHere : am_chk 131 bl_M_spreadHere ct_M_spreadHere false = true := by decide +kernel
theorem chk_M_readSetting : am_chk 132 bl_M_readSetting ct_M_readSetting true = true := by decide +kernel
theorem chk_M_readEnd : am_chk 133 bl_M_readEnd ct_M_readEnd true = true := by decide +kernel
theorem chk_M_readKey : am_chk 134 bl_M_readKey ct_M_readKey true = true := by decide +kernel
theorem chk_M_readWhole : am_chk 135 bl_M_readWhole ct_M_readWhole true = true := by decide +kernel
theorem chk_M_text : am_chk 136 bl_M_text ct_M_text false = true := by decide +kernel
theorem chk_M_isKey : am_chk 137 bl_M_isKey ct_M_isKey true = true := by decide +kernel
theorem chk_M_isValue : am_chk 138 bl_M_isValue ct_M_isValue true = true := by decide +kernel
theorem chk_M_indexOf : am_chk 139 bl_M_indexOf ct_M_indexOf false = true := by decide +kernel
theorem chk_M_snap : am_chk 140 bl_M_snap ct_M_snap false = true := by decide +kernel
theorem chk_M_undo : am_chk 141 bl_M_undo ct_M_undo false = true := by decide +kernel
theorem chk_M_key : am_chk 142 bl_M_key ct_M_key false = true := by decide +kernel
theorem chk_M_worth : am_chk 143 bl_M_worth ct_M_worth false = true := by decide +kernel
theorem chk_M_add : am_chk 144 bl_M_add ct_M_add false = true := by decide +kernel
theorem chk_M_gone : am_chk 145 bl_M_gone ct_M_gone false = true := by decide +kernel
theorem chk_M_turn : am_chk 146 bl_M_turn ct_M_turn false = true := by decide +kernel
theorem chk_M_set : am_chk 147 bl_M_set ct_M_set false = true := by decide +kernel
theorem chk_M_mix : am_chk 148 bl_M_mix ct_M_mix false = true := by decide +kernel
theorem chk_M_hashOf : am_chk 149 bl_M_hashOf ct_M_hashOf false = true := by decide +kernel
theorem chk_M_printOf : am_chk 150 bl_M_printOf ct_M_printOf false = true := by decide +kernel
theorem chk_M_part : am_chk 151 bl_M_part ct_M_part false = true := by decide +kernel
theorem chk_M_lays3 : am_chk 152 bl_M_lays3 ct_M_lays3 false = true := by decide +kernel
theorem chk_M_touchesBy : am_chk 153 bl_M_touchesBy ct_M_touchesBy true = true := by decide +kernel
theorem chk_M_hash : am_chk 154 bl_M_hash ct_M_hash false = true := by decide +kernel
theorem chk_M_cell : am_chk 155 bl_M_cell ct_M_cell false = true := by decide +kernel
theorem chk_M_print : am_chk 156 bl_M_print ct_M_print false = true := by decide +kernel
theorem chk_M_nets : am_chk 157 bl_M_nets ct_M_nets false = true := by decide +kernel
theorem chk_M_netNow : am_chk 158 bl_M_netNow ct_M_netNow false = true := by decide +kernel
theorem chk_M_takesOut : am_chk 159 bl_M_takesOut ct_M_takesOut false = true := by decide +kernel
theorem chk_M_nextCell : am_chk 160 bl_M_nextCell ct_M_nextCell false = true := by decide +kernel
theorem chk_M_comesBehind : am_chk 161 bl_M_comesBehind ct_M_comesBehind false = true := by decide +kernel
theorem chk_M_peelsBy : am_chk 162 bl_M_peelsBy ct_M_peelsBy false = true := by decide +kernel
theorem chk_M_isOf : am_chk 163 bl_M_isOf ct_M_isOf true = true := by decide +kernel
theorem chk_M_peelNow : am_chk 164 bl_M_peelNow ct_M_peelNow false = true := by decide +kernel
theorem chk_M_peelsAll : am_chk 165 bl_M_peelsAll ct_M_peelsAll true = true := by decide +kernel
theorem chk_M_load : am_chk 166 bl_M_load ct_M_load false = true := by decide +kernel
theorem chk_M_twins : am_chk 167 bl_M_twins ct_M_twins false = true := by decide +kernel
theorem chk_M_areTwins : am_chk 168 bl_M_areTwins ct_M_areTwins true = true := by decide +kernel
theorem chk_M_peel : am_chk 169 bl_M_peel ct_M_peel false = true := by decide +kernel
theorem chk_M_core : am_chk 170 bl_M_core ct_M_core false = true := by decide +kernel
theorem chk_M_laysLevels : am_chk 171 bl_M_laysLevels ct_M_laysLevels false = true := by decide +kernel
theorem chk_M_level : am_chk 172 bl_M_level ct_M_level false = true := by decide +kernel
theorem chk_M_rank : am_chk 173 bl_M_rank ct_M_rank false = true := by decide +kernel
theorem chk_M_findsOut : am_chk 174 bl_M_findsOut ct_M_findsOut true = true := by decide +kernel
theorem chk_M_mend : am_chk 175 bl_M_mend ct_M_mend false = true := by decide +kernel
theorem chk_M_tight : am_chk 176 bl_M_tight ct_M_tight false = true := by decide +kernel
theorem chk_M_peels : am_chk 177 bl_M_peels ct_M_peels false = true := by decide +kernel
theorem chk_M_fills : am_chk 178 bl_M_fills ct_M_fills false = true := by decide +kernel
theorem chk_M_wake : am_chk 179 bl_M_wake ct_M_wake false = true := by decide +kernel
theorem chk_M_build : am_chk 180 bl_M_build ct_M_build false = true := by decide +kernel
theorem chk_M_built : am_chk 181 bl_M_built ct_M_built false = true := by decide +kernel
theorem chk_M_filled : am_chk 182 bl_M_filled ct_M_filled false = true := by decide +kernel
theorem chk_M_asks : am_chk 183 bl_M_asks ct_M_asks true = true := by decide +kernel
theorem chk_M_passes : am_chk 184 bl_M_passes ct_M_passes true = true := by decide +kernel
theorem chk_M_told : am_chk 185 bl_M_told ct_M_told false = true := by decide +kernel
theorem chk_M_right : am_chk 186 bl_M_right ct_M_right false = true := by decide +kernel
theorem chk_M_strangers : am_chk 187 bl_M_strangers ct_M_strangers false = true := by decide +kernel
theorem chk_M_copies : am_chk 188 bl_M_copies ct_M_copies false = true := by decide +kernel
theorem chk_M_shelf : am_chk 189 bl_M_shelf ct_M_shelf true = true := by decide +kernel
theorem chk_M_unlike : am_chk 190 bl_M_unlike ct_M_unlike false = true := by decide +kernel
theorem chk_M_emptyCells : am_chk 191 bl_M_emptyCells ct_M_emptyCells false = true := by decide +kernel
theorem chk_M_count : am_chk 192 bl_M_count ct_M_count false = true := by decide +kernel
end
section
theorem f_Acts_forget {d : Nat} {P : am_M → Prop}  {m : am_M}
    (h : P (am_wr m 2205 (0 : Int) (0 : Int))) :
    am_OkV (d + 1) 0 [.inr (.inr 12)] m P := am_e0 chk_Acts_forget rfl (fun S => h)
theorem f_Acts_note {d : Nat} {P : am_M → Prop} {x1 : Int} {x2 : Int} {x3 : Int64} {x5 : Int} {m : am_M}
    (h : 0 ≤ (m.1 2204 (0 : Int)) ∧ (m.1 2204 (0 : Int)) < 12 ∧ (0 ≤ (m.1 2204 (0 : Int)) ∧ (m.1 2204 (0 : Int)) < 12 ∧ (0 ≤ (m.1 2204 (0 : Int)) ∧ (m.1 2204 (0 : Int)) < 12 ∧ (0 ≤ (m.1 2204 (0 : Int)) ∧ (m.1 2204 (0 : Int)) < 12 ∧ (am_R ((m.1 2204 (0 : Int)) + (1 : Int)) ∧ (((12 : Int) ≤ ((m.1 2204 (0 : Int)) + (1 : Int)) → (am_R ((m.1 2205 (0 : Int)) + (1 : Int)) ∧ (P (am_wr (am_wr (am_wr (am_wl (am_wr (am_wr m 13 (m.1 2204 (0 : Int)) x1) 14 (m.1 2204 (0 : Int)) x2) 15 (m.1 2204 (0 : Int)) x3) 16 (m.1 2204 (0 : Int)) x5) 2204 (0 : Int) (0 : Int)) 2205 (0 : Int) (if (12 : Int) < ((m.1 2205 (0 : Int)) + (1 : Int)) then (12 : Int) else ((m.1 2205 (0 : Int)) + (1 : Int))))))) ∧ (¬ ((12 : Int) ≤ ((m.1 2204 (0 : Int)) + (1 : Int))) → (am_R ((m.1 2204 (0 : Int)) + (1 : Int)) ∧ (am_R ((m.1 2205 (0 : Int)) + (1 : Int)) ∧ (P (am_wr (am_wr (am_wr (am_wl (am_wr (am_wr m 13 (m.1 2204 (0 : Int)) x1) 14 (m.1 2204 (0 : Int)) x2) 15 (m.1 2204 (0 : Int)) x3) 16 (m.1 2204 (0 : Int)) x5) 2204 (0 : Int) ((m.1 2204 (0 : Int)) + (1 : Int))) 2205 (0 : Int) (if (12 : Int) < ((m.1 2205 (0 : Int)) + (1 : Int)) then (12 : Int) else ((m.1 2205 (0 : Int)) + (1 : Int)))))))))))))) :
    am_OkV (d + 1) 1 [.inr (.inr 12), .inl x1, .inl x2, .inr (.inl x3), .inl x5] m P := am_e0 chk_Acts_note rfl (fun S => h)
theorem f_Acts_undoLatest {d : Nat} {P : am_M → Prop}  {m : am_M}
    (h : ((m.1 2205 (0 : Int)) ≠ (0 : Int) → (((m.1 2204 (0 : Int)) ≤ (0 : Int) → (am_R ((m.1 2205 (0 : Int)) - (1 : Int)) ∧ (0 ≤ (11 : Int) ∧ (11 : Int) < 12 ∧ (((m.1 13 (11 : Int)) = 0 → (0 ≤ (11 : Int) ∧ (11 : Int) < 12 ∧ (am_OkV d 10 [.inr (.inr 4), .inl (m.1 14 (11 : Int))] (am_wr (am_wr m 2204 (0 : Int) (11 : Int)) 2205 (0 : Int) ((m.1 2205 (0 : Int)) - (1 : Int))) (fun m2 => P m2)))) ∧ ((m.1 13 (11 : Int)) = 1 → (0 ≤ (11 : Int) ∧ (11 : Int) < 12 ∧ (0 ≤ (11 : Int) ∧ (11 : Int) < 12 ∧ (0 ≤ (11 : Int) ∧ (11 : Int) < 12 ∧ (am_OkV d 9 [.inr (.inr 4), .inl (m.1 14 (11 : Int)), .inr (.inl (m.2 15 (11 : Int))), .inl (m.1 16 (11 : Int))] (am_wr (am_wr m 2204 (0 : Int) (11 : Int)) 2205 (0 : Int) ((m.1 2205 (0 : Int)) - (1 : Int))) (fun m3 => P m3)))))) ∧ ((m.1 13 (11 : Int)) = 2 → (0 ≤ (11 : Int) ∧ (11 : Int) < 12 ∧ (0 ≤ (11 : Int) ∧ (11 : Int) < 12 ∧ (am_OkV d 11 [.inr (.inr 4), .inl (m.1 14 (11 : Int)), .inl (m.1 16 (11 : Int))] (am_wr (am_wr m 2204 (0 : Int) (11 : Int)) 2205 (0 : Int) ((m.1 2205 (0 : Int)) - (1 : Int))) (fun m4 => P m4))))) ∧ ((m.1 13 (11 : Int)) ≠ 2 → (m.1 13 (11 : Int)) ≠ 1 → (m.1 13 (11 : Int)) ≠ 0 → (0 ≤ (11 : Int) ∧ (11 : Int) < 12 ∧ (0 ≤ (11 : Int) ∧ (11 : Int) < 12 ∧ (am_OkV d 12 [.inr (.inr 4), .inl (m.1 14 (11 : Int)), .inl (m.1 16 (11 : Int))] (am_wr (am_wr m 2204 (0 : Int) (11 : Int)) 2205 (0 : Int) ((m.1 2205 (0 : Int)) - (1 : Int))) (fun m1 => P m1))))))))) ∧ (¬ ((m.1 2204 (0 : Int)) ≤ (0 : Int)) → (am_R ((m.1 2204 (0 : Int)) - (1 : Int)) ∧ (am_R ((m.1 2205 (0 : Int)) - (1 : Int)) ∧ (0 ≤ ((m.1 2204 (0 : Int)) - (1 : Int)) ∧ ((m.1 2204 (0 : Int)) - (1 : Int)) < 12 ∧ (((m.1 13 ((m.1 2204 (0 : Int)) - (1 : Int))) = 0 → (0 ≤ ((m.1 2204 (0 : Int)) - (1 : Int)) ∧ ((m.1 2204 (0 : Int)) - (1 : Int)) < 12 ∧ (am_OkV d 10 [.inr (.inr 4), .inl (m.1 14 ((m.1 2204 (0 : Int)) - (1 : Int)))] (am_wr (am_wr m 2204 (0 : Int) ((m.1 2204 (0 : Int)) - (1 : Int))) 2205 (0 : Int) ((m.1 2205 (0 : Int)) - (1 : Int))) (fun m6 => P m6)))) ∧ ((m.1 13 ((m.1 2204 (0 : Int)) - (1 : Int))) = 1 → (0 ≤ ((m.1 2204 (0 : Int)) - (1 : Int)) ∧ ((m.1 2204 (0 : Int)) - (1 : Int)) < 12 ∧ (0 ≤ ((m.1 2204 (0 : Int)) - (1 : Int)) ∧ ((m.1 2204 (0 : Int)) - (1 : Int)) < 12 ∧ (0 ≤ ((m.1 2204 (0 : Int)) - (1 : Int)) ∧ ((m.1 2204 (0 : Int)) - (1 : Int)) < 12 ∧ (am_OkV d 9 [.inr (.inr 4), .inl (m.1 14 ((m.1 2204 (0 : Int)) - (1 : Int))), .inr (.inl (m.2 15 ((m.1 2204 (0 : Int)) - (1 : Int)))), .inl (m.1 16 ((m.1 2204 (0 : Int)) - (1 : Int)))] (am_wr (am_wr m 2204 (0 : Int) ((m.1 2204 (0 : Int)) - (1 : Int))) 2205 (0 : Int) ((m.1 2205 (0 : Int)) - (1 : Int))) (fun m7 => P m7)))))) ∧ ((m.1 13 ((m.1 2204 (0 : Int)) - (1 : Int))) = 2 → (0 ≤ ((m.1 2204 (0 : Int)) - (1 : Int)) ∧ ((m.1 2204 (0 : Int)) - (1 : Int)) < 12 ∧ (0 ≤ ((m.1 2204 (0 : Int)) - (1 : Int)) ∧ ((m.1 2204 (0 : Int)) - (1 : Int)) < 12 ∧ (am_OkV d 11 [.inr (.inr 4), .inl (m.1 14 ((m.1 2204 (0 : Int)) - (1 : Int))), .inl (m.1 16 ((m.1 2204 (0 : Int)) - (1 : Int)))] (am_wr (am_wr m 2204 (0 : Int) ((m.1 2204 (0 : Int)) - (1 : Int))) 2205 (0 : Int) ((m.1 2205 (0 : Int)) - (1 : Int))) (fun m8 => P m8))))) ∧ ((m.1 13 ((m.1 2204 (0 : Int)) - (1 : Int))) ≠ 2 → (m.1 13 ((m.1 2204 (0 : Int)) - (1 : Int))) ≠ 1 → (m.1 13 ((m.1 2204 (0 : Int)) - (1 : Int))) ≠ 0 → (0 ≤ ((m.1 2204 (0 : Int)) - (1 : Int)) ∧ ((m.1 2204 (0 : Int)) - (1 : Int)) < 12 ∧ (0 ≤ ((m.1 2204 (0 : Int)) - (1 : Int)) ∧ ((m.1 2204 (0 : Int)) - (1 : Int)) < 12 ∧ (am_OkV d 12 [.inr (.inr 4), .inl (m.1 14 ((m.1 2204 (0 : Int)) - (1 : Int))), .inl (m.1 16 ((m.1 2204 (0 : Int)) - (1 : Int)))] (am_wr (am_wr m 2204 (0 : Int) ((m.1 2204 (0 : Int)) - (1 : Int))) 2205 (0 : Int) ((m.1 2205 (0 : Int)) - (1 : Int))) (fun m5 => P m5)))))))))))) ∧ (¬ ((m.1 2205 (0 : Int)) ≠ (0 : Int)) → (P m))) :
    am_OkV (d + 1) 2 [.inr (.inr 12), .inr (.inr 4)] m P := am_e0 chk_Acts_undoLatest rfl (fun S => h)
theorem f_Basis_independent_7 {d : Nat} {P : Int → am_M → Prop} {x2 : Int} {m : am_M}
    (h : ((m.1 3006 (0 : Int)) ≤ x2 → (P (m.1 4502 (0 : Int)) m)) ∧ (¬ ((m.1 3006 (0 : Int)) ≤ x2) → (am_R ((3 : Int) * x2) ∧ (am_GI (d + 1) 3 P 25 [(0, .inr (.inr 35)), (1, .inr (.inr 20)), (2, .inl x2), (3, .inr (.inl (Int64.ofNat 0))), (5, .inr (.inl (Int64.ofNat 0))), (7, .inl ((3 : Int) * x2))] [] m)))) :
    am_GI (d + 1) 3 P 7 [(0, .inr (.inr 35)), (1, .inr (.inr 20)), (2, .inl x2)] [] m := am_c1 chk_Basis_independent rfl (fun S => h)
theorem f_Basis_independent_25 {d : Nat} {P : Int → am_M → Prop} {x2 : Int} {x3 : Int64} {x5 : Int64} {x7 : Int} {m : am_M}
    (h : am_R ((3 : Int) * x2) ∧ (0 ≤ x2 ∧ x2 < 48 ∧ (am_R (((3 : Int) * x2) + (m.1 22 x2)) ∧ (((((3 : Int) * x2) + (m.1 22 x2)) ≤ x7 → (am_OkV d 4 [.inr (.inr 35), .inr (.inl x3), .inr (.inl x5)] m (fun m1 => am_R (x2 + (1 : Int)) ∧ (am_GI (d + 1) 3 P 7 [(0, .inr (.inr 35)), (1, .inr (.inr 20)), (2, .inl (x2 + (1 : Int)))] [] m1)))) ∧ (¬ ((((3 : Int) * x2) + (m.1 22 x2)) ≤ x7) → (0 ≤ x7 ∧ x7 < 144 ∧ (((64 : Int) ≤ (m.1 21 x7) → (((64 : Int) ≤ (m.1 21 x7) → (am_R ((m.1 21 x7) - (64 : Int)) ∧ (am_R (x7 + (1 : Int)) ∧ (am_GI (d + 1) 3 P 25 [(0, .inr (.inr 35)), (1, .inr (.inr 20)), (2, .inl x2), (3, .inr (.inl (x3 ^^^ (Int64.ofNat 0)))), (5, .inr (.inl (x5 ^^^ (am_lshl (Int64.ofNat 1) ((m.1 21 x7) - (64 : Int)))))), (7, .inl (x7 + (1 : Int)))] [] m)))) ∧ (¬ ((64 : Int) ≤ (m.1 21 x7)) → (am_R (x7 + (1 : Int)) ∧ (am_GI (d + 1) 3 P 25 [(0, .inr (.inr 35)), (1, .inr (.inr 20)), (2, .inl x2), (3, .inr (.inl (x3 ^^^ (Int64.ofNat 0)))), (5, .inr (.inl (x5 ^^^ (Int64.ofNat 0)))), (7, .inl (x7 + (1 : Int)))] [] m))))) ∧ (¬ ((64 : Int) ≤ (m.1 21 x7)) → (((64 : Int) ≤ (m.1 21 x7) → (am_R ((m.1 21 x7) - (64 : Int)) ∧ (am_R (x7 + (1 : Int)) ∧ (am_GI (d + 1) 3 P 25 [(0, .inr (.inr 35)), (1, .inr (.inr 20)), (2, .inl x2), (3, .inr (.inl (x3 ^^^ (am_lshl (Int64.ofNat 1) (m.1 21 x7))))), (5, .inr (.inl (x5 ^^^ (am_lshl (Int64.ofNat 1) ((m.1 21 x7) - (64 : Int)))))), (7, .inl (x7 + (1 : Int)))] [] m)))) ∧ (¬ ((64 : Int) ≤ (m.1 21 x7)) → (am_R (x7 + (1 : Int)) ∧ (am_GI (d + 1) 3 P 25 [(0, .inr (.inr 35)), (1, .inr (.inr 20)), (2, .inl x2), (3, .inr (.inl (x3 ^^^ (am_lshl (Int64.ofNat 1) (m.1 21 x7))))), (5, .inr (.inl (x5 ^^^ (Int64.ofNat 0)))), (7, .inl (x7 + (1 : Int)))] [] m)))))))))))) :
    am_GI (d + 1) 3 P 25 [(0, .inr (.inr 35)), (1, .inr (.inr 20)), (2, .inl x2), (3, .inr (.inl x3)), (5, .inr (.inl x5)), (7, .inl x7)] [] m := am_c1 chk_Basis_independent rfl (fun S => h)
theorem f_Basis_independent {d : Nat} {P : Int → am_M → Prop}  {m : am_M}
    (h : am_GI (d + 1) 3 P 7 [(0, .inr (.inr 35)), (1, .inr (.inr 20)), (2, .inl (0 : Int))] [] (am_wr m 4502 (0 : Int) (0 : Int))) :
    am_OkI (d + 1) 3 [.inr (.inr 35), .inr (.inr 20)] m P := am_e1 chk_Basis_independent rfl (fun S => h)
theorem f_Basis_join_3 {d : Nat} {P : am_M → Prop} {x1 : Int64} {x3 : Int64} {x5 : Int} {m : am_M}
    (h : ((m.1 4502 (0 : Int)) ≤ x5 → (((am_lcmp x1 (Int64.ofNat 0)) ≠ (0 : Int) → (((48 : Int) ≤ (m.1 4502 (0 : Int)) → (P m)) ∧ (¬ ((48 : Int) ≤ (m.1 4502 (0 : Int))) → (0 ≤ (m.1 4502 (0 : Int)) ∧ (m.1 4502 (0 : Int)) < 48 ∧ (0 ≤ (m.1 4502 (0 : Int)) ∧ (m.1 4502 (0 : Int)) < 48 ∧ (am_R ((m.1 4502 (0 : Int)) + (1 : Int)) ∧ (P (am_wr (am_wl (am_wl m 36 (m.1 4502 (0 : Int)) x1) 37 (m.1 4502 (0 : Int)) x3) 4502 (0 : Int) ((m.1 4502 (0 : Int)) + (1 : Int)))))))))) ∧ (¬ ((am_lcmp x1 (Int64.ofNat 0)) ≠ (0 : Int)) → (((am_lcmp x3 (Int64.ofNat 0)) = (0 : Int) → (P m)) ∧ (¬ ((am_lcmp x3 (Int64.ofNat 0)) = (0 : Int)) → (((48 : Int) ≤ (m.1 4502 (0 : Int)) → (P m)) ∧ (¬ ((48 : Int) ≤ (m.1 4502 (0 : Int))) → (0 ≤ (m.1 4502 (0 : Int)) ∧ (m.1 4502 (0 : Int)) < 48 ∧ (0 ≤ (m.1 4502 (0 : Int)) ∧ (m.1 4502 (0 : Int)) < 48 ∧ (am_R ((m.1 4502 (0 : Int)) + (1 : Int)) ∧ (P (am_wr (am_wl (am_wl m 36 (m.1 4502 (0 : Int)) x1) 37 (m.1 4502 (0 : Int)) x3) 4502 (0 : Int) ((m.1 4502 (0 : Int)) + (1 : Int)))))))))))))) ∧ (¬ ((m.1 4502 (0 : Int)) ≤ x5) → (0 ≤ x5 ∧ x5 < 48 ∧ (0 ≤ x5 ∧ x5 < 48 ∧ (((am_lcmp ((m.2 36 x5) &&& (-(m.2 36 x5))) (Int64.ofNat 0)) ≠ (0 : Int) → (am_GV (d + 1) 4 P 59 [(0, .inr (.inr 35)), (1, .inr (.inl x1)), (3, .inr (.inl x3)), (5, .inl x5), (6, .inr (.inl ((m.2 36 x5) &&& (-(m.2 36 x5))))), (8, .inr (.inl (Int64.ofNat 0)))] [] m)) ∧ (¬ ((am_lcmp ((m.2 36 x5) &&& (-(m.2 36 x5))) (Int64.ofNat 0)) ≠ (0 : Int)) → (0 ≤ x5 ∧ x5 < 48 ∧ (0 ≤ x5 ∧ x5 < 48 ∧ (am_GV (d + 1) 4 P 59 [(0, .inr (.inr 35)), (1, .inr (.inl x1)), (3, .inr (.inl x3)), (5, .inl x5), (6, .inr (.inl ((m.2 36 x5) &&& (-(m.2 36 x5))))), (8, .inr (.inl ((m.2 37 x5) &&& (-(m.2 37 x5)))))] [] m))))))))) :
    am_GV (d + 1) 4 P 3 [(0, .inr (.inr 35)), (1, .inr (.inl x1)), (3, .inr (.inl x3)), (5, .inl x5)] [] m := am_c0 chk_Basis_join rfl (fun S => h)
theorem f_Basis_join_59 {d : Nat} {P : am_M → Prop} {x1 : Int64} {x3 : Int64} {x5 : Int} {x6 : Int64} {x8 : Int64} {m : am_M}
    (h : ((am_lcmp (x1 &&& x6) (Int64.ofNat 0)) ≠ (0 : Int) → (0 ≤ x5 ∧ x5 < 48 ∧ (0 ≤ x5 ∧ x5 < 48 ∧ (am_R (x5 + (1 : Int)) ∧ (am_GV (d + 1) 4 P 3 [(0, .inr (.inr 35)), (1, .inr (.inl (x1 ^^^ (m.2 36 x5)))), (3, .inr (.inl (x3 ^^^ (m.2 37 x5)))), (5, .inl (x5 + (1 : Int)))] [] m))))) ∧ (¬ ((am_lcmp (x1 &&& x6) (Int64.ofNat 0)) ≠ (0 : Int)) → (((am_lcmp (x3 &&& x8) (Int64.ofNat 0)) = (0 : Int) → (am_R (x5 + (1 : Int)) ∧ (am_GV (d + 1) 4 P 3 [(0, .inr (.inr 35)), (1, .inr (.inl x1)), (3, .inr (.inl x3)), (5, .inl (x5 + (1 : Int)))] [] m))) ∧ (¬ ((am_lcmp (x3 &&& x8) (Int64.ofNat 0)) = (0 : Int)) → (0 ≤ x5 ∧ x5 < 48 ∧ (0 ≤ x5 ∧ x5 < 48 ∧ (am_R (x5 + (1 : Int)) ∧ (am_GV (d + 1) 4 P 3 [(0, .inr (.inr 35)), (1, .inr (.inl (x1 ^^^ (m.2 36 x5)))), (3, .inr (.inl (x3 ^^^ (m.2 37 x5)))), (5, .inl (x5 + (1 : Int)))] [] m)))))))) :
    am_GV (d + 1) 4 P 59 [(0, .inr (.inr 35)), (1, .inr (.inl x1)), (3, .inr (.inl x3)), (5, .inl x5), (6, .inr (.inl x6)), (8, .inr (.inl x8))] [] m := am_c0 chk_Basis_join rfl (fun S => h)
theorem f_Basis_join {d : Nat} {P : am_M → Prop} {x1 : Int64} {x3 : Int64} {m : am_M}
    (h : am_GV (d + 1) 4 P 3 [(0, .inr (.inr 35)), (1, .inr (.inl x1)), (3, .inr (.inl x3)), (5, .inl (0 : Int))] [] m) :
    am_OkV (d + 1) 4 [.inr (.inr 35), .inr (.inl x1), .inr (.inl x3)] m P := am_e0 chk_Basis_join rfl (fun S => h)
theorem f_Given_reset_4 {d : Nat} {P : am_M → Prop}  {m : am_M}
    (h : 0 ≤ (0 : Int) ∧ 0 ≤ (0 : Int) ∧ 0 ≤ (7 : Int) ∧ (0 : Int) + (7 : Int) ≤ 7 ∧ (0 : Int) + (7 : Int) ≤ 7 ∧ (am_R ((m.1 1404 (0 : Int)) + (1 : Int)) ∧ (P (am_wr (am_ws1 (am_wr m 1403 (0 : Int) (0 : Int)) 7 (am_cpy (am_tab 902) ((am_wr m 1403 (0 : Int) (0 : Int)).1 7) (0 : Int) (0 : Int) (7 : Int))) 1404 (0 : Int) ((m.1 1404 (0 : Int)) + (1 : Int)))))) :
    am_OkV (d + 1) 5 [.inr (.inr 4)] m P := am_e0 chk_Given_reset rfl (fun S => h)
theorem f_Given_reset_8 {d : Nat} {P : am_M → Prop}  {m : am_M}
    (h : 0 ≤ (0 : Int) ∧ 0 ≤ (0 : Int) ∧ 0 ≤ (7 : Int) ∧ (0 : Int) + (7 : Int) ≤ 7 ∧ (0 : Int) + (7 : Int) ≤ 7 ∧ (am_R ((m.1 1804 (0 : Int)) + (1 : Int)) ∧ (P (am_wr (am_ws1 (am_wr m 1803 (0 : Int) (0 : Int)) 11 (am_cpy (am_tab 902) ((am_wr m 1803 (0 : Int) (0 : Int)).1 11) (0 : Int) (0 : Int) (7 : Int))) 1804 (0 : Int) ((m.1 1804 (0 : Int)) + (1 : Int)))))) :
    am_OkV (d + 1) 5 [.inr (.inr 8)] m P := am_e0 chk_Given_reset rfl (fun S => h)
theorem f_Given_copy {d : Nat} {P : am_M → Prop}  {m : am_M}
    (h : 0 ≤ (0 : Int) ∧ 0 ≤ (0 : Int) ∧ 0 ≤ (48 : Int) ∧ (0 : Int) + (48 : Int) ≤ 48 ∧ (0 : Int) + (48 : Int) ≤ 48 ∧ (0 ≤ (0 : Int) ∧ 0 ≤ (0 : Int) ∧ 0 ≤ (48 : Int) ∧ (0 : Int) + (48 : Int) ≤ 48 ∧ (0 : Int) + (48 : Int) ≤ 48 ∧ (0 ≤ (0 : Int) ∧ 0 ≤ (0 : Int) ∧ 0 ≤ (7 : Int) ∧ (0 : Int) + (7 : Int) ≤ 7 ∧ (0 : Int) + (7 : Int) ≤ 7 ∧ (am_R ((m.1 1404 (0 : Int)) + (1 : Int)) ∧ (P (am_wr (am_wr (am_ws1 (am_ws1 (am_ws2 m 5 (am_cpy (m.2 9) (m.2 5) (0 : Int) (0 : Int) (48 : Int))) 6 (am_cpy ((am_ws2 m 5 (am_cpy (m.2 9) (m.2 5) (0 : Int) (0 : Int) (48 : Int))).1 10) ((am_ws2 m 5 (am_cpy (m.2 9) (m.2 5) (0 : Int) (0 : Int) (48 : Int))).1 6) (0 : Int) (0 : Int) (48 : Int))) 7 (am_cpy ((am_ws1 (am_ws2 m 5 (am_cpy (m.2 9) (m.2 5) (0 : Int) (0 : Int) (48 : Int))) 6 (am_cpy ((am_ws2 m 5 (am_cpy (m.2 9) (m.2 5) (0 : Int) (0 : Int) (48 : Int))).1 10) ((am_ws2 m 5 (am_cpy (m.2 9) (m.2 5) (0 : Int) (0 : Int) (48 : Int))).1 6) (0 : Int) (0 : Int) (48 : Int))).1 11) ((am_ws1 (am_ws2 m 5 (am_cpy (m.2 9) (m.2 5) (0 : Int) (0 : Int) (48 : Int))) 6 (am_cpy ((am_ws2 m 5 (am_cpy (m.2 9) (m.2 5) (0 : Int) (0 : Int) (48 : Int))).1 10) ((am_ws2 m 5 (am_cpy (m.2 9) (m.2 5) (0 : Int) (0 : Int) (48 : Int))).1 6) (0 : Int) (0 : Int) (48 : Int))).1 7) (0 : Int) (0 : Int) (7 : Int))) 1403 (0 : Int) (m.1 1803 (0 : Int))) 1404 (0 : Int) ((m.1 1404 (0 : Int)) + (1 : Int)))))))) :
    am_OkV (d + 1) 6 [.inr (.inr 4), .inr (.inr 8)] m P := am_e0 chk_Given_copy rfl (fun S => h)
theorem f_Given_has_4 {d : Nat} {P : Int → am_M → Prop} {x1 : Int} {m : am_M}
    (h : (x1 < (0 : Int) → (((0 : Int) = 0 ∨ (0 : Int) = 1) ∧ P (0 : Int) m)) ∧ (¬ (x1 < (0 : Int)) → (((m.1 1403 (0 : Int)) ≤ x1 → (((0 : Int) = 0 ∨ (0 : Int) = 1) ∧ P (0 : Int) m)) ∧ (¬ ((m.1 1403 (0 : Int)) ≤ x1) → (((1 : Int) = 0 ∨ (1 : Int) = 1) ∧ P (1 : Int) m))))) :
    am_OkI (d + 1) 7 [.inr (.inr 4), .inl x1] m P := am_e1 chk_Given_has rfl (fun S => h)
theorem f_Given_has_8 {d : Nat} {P : Int → am_M → Prop} {x1 : Int} {m : am_M}
    (h : (x1 < (0 : Int) → (((0 : Int) = 0 ∨ (0 : Int) = 1) ∧ P (0 : Int) m)) ∧ (¬ (x1 < (0 : Int)) → (((m.1 1803 (0 : Int)) ≤ x1 → (((0 : Int) = 0 ∨ (0 : Int) = 1) ∧ P (0 : Int) m)) ∧ (¬ ((m.1 1803 (0 : Int)) ≤ x1) → (((1 : Int) = 0 ∨ (1 : Int) = 1) ∧ P (1 : Int) m))))) :
    am_OkI (d + 1) 7 [.inr (.inr 8), .inl x1] m P := am_e1 chk_Given_has rfl (fun S => h)
theorem f_Given_find_4_2 {d : Nat} {P : Int → am_M → Prop} {x1 : Int64} {x3 : Int} {m : am_M}
    (h : ((m.1 1403 (0 : Int)) ≤ x3 → (P (-1 : Int) m)) ∧ (¬ ((m.1 1403 (0 : Int)) ≤ x3) → (0 ≤ x3 ∧ x3 < 48 ∧ (((am_lcmp (m.2 5 x3) x1) ≠ (0 : Int) → (am_R (x3 + (1 : Int)) ∧ (am_GI (d + 1) 8 P 2 [(0, .inr (.inr 4)), (1, .inr (.inl x1)), (3, .inl (x3 + (1 : Int)))] [] m))) ∧ (¬ ((am_lcmp (m.2 5 x3) x1) ≠ (0 : Int)) → (P x3 m)))))) :
    am_GI (d + 1) 8 P 2 [(0, .inr (.inr 4)), (1, .inr (.inl x1)), (3, .inl x3)] [] m := am_c1 chk_Given_find rfl (fun S => h)
theorem f_Given_find_4 {d : Nat} {P : Int → am_M → Prop} {x1 : Int64} {m : am_M}
    (h : am_GI (d + 1) 8 P 2 [(0, .inr (.inr 4)), (1, .inr (.inl x1)), (3, .inl (0 : Int))] [] m) :
    am_OkI (d + 1) 8 [.inr (.inr 4), .inr (.inl x1)] m P := am_e1 chk_Given_find rfl (fun S => h)
theorem f_Given_find_8_2 {d : Nat} {P : Int → am_M → Prop} {x1 : Int64} {x3 : Int} {m : am_M}
    (h : ((m.1 1803 (0 : Int)) ≤ x3 → (P (-1 : Int) m)) ∧ (¬ ((m.1 1803 (0 : Int)) ≤ x3) → (0 ≤ x3 ∧ x3 < 48 ∧ (((am_lcmp (m.2 9 x3) x1) ≠ (0 : Int) → (am_R (x3 + (1 : Int)) ∧ (am_GI (d + 1) 8 P 2 [(0, .inr (.inr 8)), (1, .inr (.inl x1)), (3, .inl (x3 + (1 : Int)))] [] m))) ∧ (¬ ((am_lcmp (m.2 9 x3) x1) ≠ (0 : Int)) → (P x3 m)))))) :
    am_GI (d + 1) 8 P 2 [(0, .inr (.inr 8)), (1, .inr (.inl x1)), (3, .inl x3)] [] m := am_c1 chk_Given_find rfl (fun S => h)
theorem f_Given_find_8 {d : Nat} {P : Int → am_M → Prop} {x1 : Int64} {m : am_M}
    (h : am_GI (d + 1) 8 P 2 [(0, .inr (.inr 8)), (1, .inr (.inl x1)), (3, .inl (0 : Int))] [] m) :
    am_OkI (d + 1) 8 [.inr (.inr 8), .inr (.inl x1)] m P := am_e1 chk_Given_find rfl (fun S => h)
theorem f_Given_insert_4 {d : Nat} {P : am_M → Prop} {x1 : Int} {x2 : Int64} {x4 : Int} {m : am_M}
    (h : (x1 < (0 : Int) → (P m)) ∧ (¬ (x1 < (0 : Int)) → (((m.1 1403 (0 : Int)) < x1 → (P m)) ∧ (¬ ((m.1 1403 (0 : Int)) < x1) → (((m.1 1403 (0 : Int)) < (48 : Int) → (am_R (x1 + (1 : Int)) ∧ (am_R ((m.1 1403 (0 : Int)) - x1) ∧ (0 ≤ x1 ∧ 0 ≤ (x1 + (1 : Int)) ∧ 0 ≤ ((m.1 1403 (0 : Int)) - x1) ∧ x1 + ((m.1 1403 (0 : Int)) - x1) ≤ 48 ∧ (x1 + (1 : Int)) + ((m.1 1403 (0 : Int)) - x1) ≤ 48 ∧ (am_R (x1 + (1 : Int)) ∧ (am_R ((m.1 1403 (0 : Int)) - x1) ∧ (0 ≤ x1 ∧ 0 ≤ (x1 + (1 : Int)) ∧ 0 ≤ ((m.1 1403 (0 : Int)) - x1) ∧ x1 + ((m.1 1403 (0 : Int)) - x1) ≤ 48 ∧ (x1 + (1 : Int)) + ((m.1 1403 (0 : Int)) - x1) ≤ 48 ∧ (0 ≤ x1 ∧ x1 < 48 ∧ (0 ≤ x1 ∧ x1 < 48 ∧ (am_R ((m.1 1403 (0 : Int)) + (1 : Int)) ∧ (am_R ((m.1 1404 (0 : Int)) + (1 : Int)) ∧ (P (am_wr (am_wr (am_wr (am_wl (am_ws1 (am_ws2 m 5 (am_cpy (m.2 5) (m.2 5) x1 (x1 + (1 : Int)) ((m.1 1403 (0 : Int)) - x1))) 6 (am_cpy ((am_ws2 m 5 (am_cpy (m.2 5) (m.2 5) x1 (x1 + (1 : Int)) ((m.1 1403 (0 : Int)) - x1))).1 6) ((am_ws2 m 5 (am_cpy (m.2 5) (m.2 5) x1 (x1 + (1 : Int)) ((m.1 1403 (0 : Int)) - x1))).1 6) x1 (x1 + (1 : Int)) ((m.1 1403 (0 : Int)) - x1))) 5 x1 x2) 6 x1 x4) 1403 (0 : Int) ((m.1 1403 (0 : Int)) + (1 : Int))) 1404 (0 : Int) ((m.1 1404 (0 : Int)) + (1 : Int))))))))))))))) ∧ (¬ ((m.1 1403 (0 : Int)) < (48 : Int)) → (P m))))))) :
    am_OkV (d + 1) 9 [.inr (.inr 4), .inl x1, .inr (.inl x2), .inl x4] m P := am_e0 chk_Given_insert rfl (fun S => h)
theorem f_Given_insert_8 {d : Nat} {P : am_M → Prop} {x1 : Int} {x2 : Int64} {x4 : Int} {m : am_M}
    (h : (x1 < (0 : Int) → (P m)) ∧ (¬ (x1 < (0 : Int)) → (((m.1 1803 (0 : Int)) < x1 → (P m)) ∧ (¬ ((m.1 1803 (0 : Int)) < x1) → (((m.1 1803 (0 : Int)) < (48 : Int) → (am_R (x1 + (1 : Int)) ∧ (am_R ((m.1 1803 (0 : Int)) - x1) ∧ (0 ≤ x1 ∧ 0 ≤ (x1 + (1 : Int)) ∧ 0 ≤ ((m.1 1803 (0 : Int)) - x1) ∧ x1 + ((m.1 1803 (0 : Int)) - x1) ≤ 48 ∧ (x1 + (1 : Int)) + ((m.1 1803 (0 : Int)) - x1) ≤ 48 ∧ (am_R (x1 + (1 : Int)) ∧ (am_R ((m.1 1803 (0 : Int)) - x1) ∧ (0 ≤ x1 ∧ 0 ≤ (x1 + (1 : Int)) ∧ 0 ≤ ((m.1 1803 (0 : Int)) - x1) ∧ x1 + ((m.1 1803 (0 : Int)) - x1) ≤ 48 ∧ (x1 + (1 : Int)) + ((m.1 1803 (0 : Int)) - x1) ≤ 48 ∧ (0 ≤ x1 ∧ x1 < 48 ∧ (0 ≤ x1 ∧ x1 < 48 ∧ (am_R ((m.1 1803 (0 : Int)) + (1 : Int)) ∧ (am_R ((m.1 1804 (0 : Int)) + (1 : Int)) ∧ (P (am_wr (am_wr (am_wr (am_wl (am_ws1 (am_ws2 m 9 (am_cpy (m.2 9) (m.2 9) x1 (x1 + (1 : Int)) ((m.1 1803 (0 : Int)) - x1))) 10 (am_cpy ((am_ws2 m 9 (am_cpy (m.2 9) (m.2 9) x1 (x1 + (1 : Int)) ((m.1 1803 (0 : Int)) - x1))).1 10) ((am_ws2 m 9 (am_cpy (m.2 9) (m.2 9) x1 (x1 + (1 : Int)) ((m.1 1803 (0 : Int)) - x1))).1 10) x1 (x1 + (1 : Int)) ((m.1 1803 (0 : Int)) - x1))) 9 x1 x2) 10 x1 x4) 1803 (0 : Int) ((m.1 1803 (0 : Int)) + (1 : Int))) 1804 (0 : Int) ((m.1 1804 (0 : Int)) + (1 : Int))))))))))))))) ∧ (¬ ((m.1 1803 (0 : Int)) < (48 : Int)) → (P m))))))) :
    am_OkV (d + 1) 9 [.inr (.inr 8), .inl x1, .inr (.inl x2), .inl x4] m P := am_e0 chk_Given_insert rfl (fun S => h)
theorem f_Given_drop_4 {d : Nat} {P : am_M → Prop} {x1 : Int} {m : am_M}
    (h : am_OkI d 7 [.inr (.inr 4), .inl x1] m (fun z2 m1 => (z2 ≠ (0 : Int) → (am_R ((m1.1 1403 (0 : Int)) - (1 : Int)) ∧ (am_R (x1 + (1 : Int)) ∧ (am_R (((m1.1 1403 (0 : Int)) - (1 : Int)) - x1) ∧ (0 ≤ (x1 + (1 : Int)) ∧ 0 ≤ x1 ∧ 0 ≤ (((m1.1 1403 (0 : Int)) - (1 : Int)) - x1) ∧ (x1 + (1 : Int)) + (((m1.1 1403 (0 : Int)) - (1 : Int)) - x1) ≤ 48 ∧ x1 + (((m1.1 1403 (0 : Int)) - (1 : Int)) - x1) ≤ 48 ∧ (am_R (x1 + (1 : Int)) ∧ (am_R (((m1.1 1403 (0 : Int)) - (1 : Int)) - x1) ∧ (0 ≤ (x1 + (1 : Int)) ∧ 0 ≤ x1 ∧ 0 ≤ (((m1.1 1403 (0 : Int)) - (1 : Int)) - x1) ∧ (x1 + (1 : Int)) + (((m1.1 1403 (0 : Int)) - (1 : Int)) - x1) ≤ 48 ∧ x1 + (((m1.1 1403 (0 : Int)) - (1 : Int)) - x1) ≤ 48 ∧ (am_R ((m1.1 1404 (0 : Int)) + (1 : Int)) ∧ (P (am_wr (am_ws1 (am_ws2 (am_wr m1 1403 (0 : Int) ((m1.1 1403 (0 : Int)) - (1 : Int))) 5 (am_cpy ((am_wr m1 1403 (0 : Int) ((m1.1 1403 (0 : Int)) - (1 : Int))).2 5) ((am_wr m1 1403 (0 : Int) ((m1.1 1403 (0 : Int)) - (1 : Int))).2 5) (x1 + (1 : Int)) x1 (((m1.1 1403 (0 : Int)) - (1 : Int)) - x1))) 6 (am_cpy ((am_ws2 (am_wr m1 1403 (0 : Int) ((m1.1 1403 (0 : Int)) - (1 : Int))) 5 (am_cpy ((am_wr m1 1403 (0 : Int) ((m1.1 1403 (0 : Int)) - (1 : Int))).2 5) ((am_wr m1 1403 (0 : Int) ((m1.1 1403 (0 : Int)) - (1 : Int))).2 5) (x1 + (1 : Int)) x1 (((m1.1 1403 (0 : Int)) - (1 : Int)) - x1))).1 6) ((am_ws2 (am_wr m1 1403 (0 : Int) ((m1.1 1403 (0 : Int)) - (1 : Int))) 5 (am_cpy ((am_wr m1 1403 (0 : Int) ((m1.1 1403 (0 : Int)) - (1 : Int))).2 5) ((am_wr m1 1403 (0 : Int) ((m1.1 1403 (0 : Int)) - (1 : Int))).2 5) (x1 + (1 : Int)) x1 (((m1.1 1403 (0 : Int)) - (1 : Int)) - x1))).1 6) (x1 + (1 : Int)) x1 (((m1.1 1403 (0 : Int)) - (1 : Int)) - x1))) 1404 (0 : Int) ((m1.1 1404 (0 : Int)) + (1 : Int))))))))))))) ∧ (¬ (z2 ≠ (0 : Int)) → (P m1)))) :
    am_OkV (d + 1) 10 [.inr (.inr 4), .inl x1] m P := am_e0 chk_Given_drop rfl (fun S => h)
theorem f_Given_drop_8 {d : Nat} {P : am_M → Prop} {x1 : Int} {m : am_M}
    (h : am_OkI d 7 [.inr (.inr 8), .inl x1] m (fun z2 m1 => (z2 ≠ (0 : Int) → (am_R ((m1.1 1803 (0 : Int)) - (1 : Int)) ∧ (am_R (x1 + (1 : Int)) ∧ (am_R (((m1.1 1803 (0 : Int)) - (1 : Int)) - x1) ∧ (0 ≤ (x1 + (1 : Int)) ∧ 0 ≤ x1 ∧ 0 ≤ (((m1.1 1803 (0 : Int)) - (1 : Int)) - x1) ∧ (x1 + (1 : Int)) + (((m1.1 1803 (0 : Int)) - (1 : Int)) - x1) ≤ 48 ∧ x1 + (((m1.1 1803 (0 : Int)) - (1 : Int)) - x1) ≤ 48 ∧ (am_R (x1 + (1 : Int)) ∧ (am_R (((m1.1 1803 (0 : Int)) - (1 : Int)) - x1) ∧ (0 ≤ (x1 + (1 : Int)) ∧ 0 ≤ x1 ∧ 0 ≤ (((m1.1 1803 (0 : Int)) - (1 : Int)) - x1) ∧ (x1 + (1 : Int)) + (((m1.1 1803 (0 : Int)) - (1 : Int)) - x1) ≤ 48 ∧ x1 + (((m1.1 1803 (0 : Int)) - (1 : Int)) - x1) ≤ 48 ∧ (am_R ((m1.1 1804 (0 : Int)) + (1 : Int)) ∧ (P (am_wr (am_ws1 (am_ws2 (am_wr m1 1803 (0 : Int) ((m1.1 1803 (0 : Int)) - (1 : Int))) 9 (am_cpy ((am_wr m1 1803 (0 : Int) ((m1.1 1803 (0 : Int)) - (1 : Int))).2 9) ((am_wr m1 1803 (0 : Int) ((m1.1 1803 (0 : Int)) - (1 : Int))).2 9) (x1 + (1 : Int)) x1 (((m1.1 1803 (0 : Int)) - (1 : Int)) - x1))) 10 (am_cpy ((am_ws2 (am_wr m1 1803 (0 : Int) ((m1.1 1803 (0 : Int)) - (1 : Int))) 9 (am_cpy ((am_wr m1 1803 (0 : Int) ((m1.1 1803 (0 : Int)) - (1 : Int))).2 9) ((am_wr m1 1803 (0 : Int) ((m1.1 1803 (0 : Int)) - (1 : Int))).2 9) (x1 + (1 : Int)) x1 (((m1.1 1803 (0 : Int)) - (1 : Int)) - x1))).1 10) ((am_ws2 (am_wr m1 1803 (0 : Int) ((m1.1 1803 (0 : Int)) - (1 : Int))) 9 (am_cpy ((am_wr m1 1803 (0 : Int) ((m1.1 1803 (0 : Int)) - (1 : Int))).2 9) ((am_wr m1 1803 (0 : Int) ((m1.1 1803 (0 : Int)) - (1 : Int))).2 9) (x1 + (1 : Int)) x1 (((m1.1 1803 (0 : Int)) - (1 : Int)) - x1))).1 10) (x1 + (1 : Int)) x1 (((m1.1 1803 (0 : Int)) - (1 : Int)) - x1))) 1804 (0 : Int) ((m1.1 1804 (0 : Int)) + (1 : Int))))))))))))) ∧ (¬ (z2 ≠ (0 : Int)) → (P m1)))) :
    am_OkV (d + 1) 10 [.inr (.inr 8), .inl x1] m P := am_e0 chk_Given_drop rfl (fun S => h)
theorem f_Given_revalue_4 {d : Nat} {P : am_M → Prop} {x1 : Int} {x2 : Int} {m : am_M}
    (h : am_OkI d 7 [.inr (.inr 4), .inl x1] m (fun z2 m1 => (z2 = (0 : Int) → (P m1)) ∧ (¬ (z2 = (0 : Int)) → (0 ≤ x1 ∧ x1 < 48 ∧ (am_R ((m1.1 1404 (0 : Int)) + (1 : Int)) ∧ (P (am_wr (am_wr m1 6 x1 x2) 1404 (0 : Int) ((m1.1 1404 (0 : Int)) + (1 : Int))))))))) :
    am_OkV (d + 1) 11 [.inr (.inr 4), .inl x1, .inl x2] m P := am_e0 chk_Given_revalue rfl (fun S => h)
theorem f_Given_revalue_8 {d : Nat} {P : am_M → Prop} {x1 : Int} {x2 : Int} {m : am_M}
    (h : am_OkI d 7 [.inr (.inr 8), .inl x1] m (fun z2 m1 => (z2 = (0 : Int) → (P m1)) ∧ (¬ (z2 = (0 : Int)) → (0 ≤ x1 ∧ x1 < 48 ∧ (am_R ((m1.1 1804 (0 : Int)) + (1 : Int)) ∧ (P (am_wr (am_wr m1 10 x1 x2) 1804 (0 : Int) ((m1.1 1804 (0 : Int)) + (1 : Int))))))))) :
    am_OkV (d + 1) 11 [.inr (.inr 8), .inl x1, .inl x2] m P := am_e0 chk_Given_revalue rfl (fun S => h)
theorem f_Given_resettle_4 {d : Nat} {P : am_M → Prop} {x1 : Int} {x2 : Int} {m : am_M}
    (h : am_OkI d 15 [.inl x1, .inl x2] m (fun z2 m1 => (z2 = (0 : Int) → (P m1)) ∧ (¬ (z2 = (0 : Int)) → (0 ≤ x1 ∧ x1 < 7 ∧ (am_R ((m1.1 1404 (0 : Int)) + (1 : Int)) ∧ (P (am_wr (am_wr m1 7 x1 x2) 1404 (0 : Int) ((m1.1 1404 (0 : Int)) + (1 : Int))))))))) :
    am_OkV (d + 1) 12 [.inr (.inr 4), .inl x1, .inl x2] m P := am_e0 chk_Given_resettle rfl (fun S => h)
theorem f_Given_resettle_8 {d : Nat} {P : am_M → Prop} {x1 : Int} {x2 : Int} {m : am_M}
    (h : am_OkI d 15 [.inl x1, .inl x2] m (fun z2 m1 => (z2 = (0 : Int) → (P m1)) ∧ (¬ (z2 = (0 : Int)) → (0 ≤ x1 ∧ x1 < 7 ∧ (am_R ((m1.1 1804 (0 : Int)) + (1 : Int)) ∧ (P (am_wr (am_wr m1 11 x1 x2) 1804 (0 : Int) ((m1.1 1804 (0 : Int)) + (1 : Int))))))))) :
    am_OkV (d + 1) 12 [.inr (.inr 8), .inl x1, .inl x2] m P := am_e0 chk_Given_resettle rfl (fun S => h)
theorem f_Given_canBeValue_4 {d : Nat} {P : Int → am_M → Prop} {x1 : Int} {m : am_M}
    (h : (x1 < (0 : Int) → (((0 : Int) = 0 ∨ (0 : Int) = 1) ∧ P (0 : Int) m)) ∧ (¬ (x1 < (0 : Int)) → (0 ≤ (3 : Int) ∧ (3 : Int) < 7 ∧ (((am_shl (1 : Int) (m.1 7 (3 : Int))) ≤ x1 → (((0 : Int) = 0 ∨ (0 : Int) = 1) ∧ P (0 : Int) m)) ∧ (¬ ((am_shl (1 : Int) (m.1 7 (3 : Int))) ≤ x1) → (((1 : Int) = 0 ∨ (1 : Int) = 1) ∧ P (1 : Int) m)))))) :
    am_OkI (d + 1) 13 [.inr (.inr 4), .inl x1] m P := am_e1 chk_Given_canBeValue rfl (fun S => h)
theorem f_Given_canBeValue_8 {d : Nat} {P : Int → am_M → Prop} {x1 : Int} {m : am_M}
    (h : (x1 < (0 : Int) → (((0 : Int) = 0 ∨ (0 : Int) = 1) ∧ P (0 : Int) m)) ∧ (¬ (x1 < (0 : Int)) → (0 ≤ (3 : Int) ∧ (3 : Int) < 7 ∧ (((am_shl (1 : Int) (m.1 11 (3 : Int))) ≤ x1 → (((0 : Int) = 0 ∨ (0 : Int) = 1) ∧ P (0 : Int) m)) ∧ (¬ ((am_shl (1 : Int) (m.1 11 (3 : Int))) ≤ x1) → (((1 : Int) = 0 ∨ (1 : Int) = 1) ∧ P (1 : Int) m)))))) :
    am_OkI (d + 1) 13 [.inr (.inr 8), .inl x1] m P := am_e1 chk_Given_canBeValue rfl (fun S => h)
theorem f_Given_fitsBits_4_2 {d : Nat} {P : Int → am_M → Prop} {x1 : Int} {x2 : Int} {m : am_M}
    (h : ((m.1 1403 (0 : Int)) ≤ x2 → (((1 : Int) = 0 ∨ (1 : Int) = 1) ∧ P (1 : Int) m)) ∧ (¬ ((m.1 1403 (0 : Int)) ≤ x2) → (0 ≤ x2 ∧ x2 < 48 ∧ (((m.1 6 x2) < (am_shl (1 : Int) x1) → (am_R (x2 + (1 : Int)) ∧ (am_GI (d + 1) 14 P 2 [(0, .inr (.inr 4)), (1, .inl x1), (2, .inl (x2 + (1 : Int)))] [] m))) ∧ (¬ ((m.1 6 x2) < (am_shl (1 : Int) x1)) → (((0 : Int) = 0 ∨ (0 : Int) = 1) ∧ P (0 : Int) m)))))) :
    am_GI (d + 1) 14 P 2 [(0, .inr (.inr 4)), (1, .inl x1), (2, .inl x2)] [] m := am_c1 chk_Given_fitsBits rfl (fun S => h)
theorem f_Given_fitsBits_4 {d : Nat} {P : Int → am_M → Prop} {x1 : Int} {m : am_M}
    (h : am_GI (d + 1) 14 P 2 [(0, .inr (.inr 4)), (1, .inl x1), (2, .inl (0 : Int))] [] m) :
    am_OkI (d + 1) 14 [.inr (.inr 4), .inl x1] m P := am_e1 chk_Given_fitsBits rfl (fun S => h)
theorem f_Given_fitsBits_8_2 {d : Nat} {P : Int → am_M → Prop} {x1 : Int} {x2 : Int} {m : am_M}
    (h : ((m.1 1803 (0 : Int)) ≤ x2 → (((1 : Int) = 0 ∨ (1 : Int) = 1) ∧ P (1 : Int) m)) ∧ (¬ ((m.1 1803 (0 : Int)) ≤ x2) → (0 ≤ x2 ∧ x2 < 48 ∧ (((m.1 10 x2) < (am_shl (1 : Int) x1) → (am_R (x2 + (1 : Int)) ∧ (am_GI (d + 1) 14 P 2 [(0, .inr (.inr 8)), (1, .inl x1), (2, .inl (x2 + (1 : Int)))] [] m))) ∧ (¬ ((m.1 10 x2) < (am_shl (1 : Int) x1)) → (((0 : Int) = 0 ∨ (0 : Int) = 1) ∧ P (0 : Int) m)))))) :
    am_GI (d + 1) 14 P 2 [(0, .inr (.inr 8)), (1, .inl x1), (2, .inl x2)] [] m := am_c1 chk_Given_fitsBits rfl (fun S => h)
theorem f_Given_fitsBits_8 {d : Nat} {P : Int → am_M → Prop} {x1 : Int} {m : am_M}
    (h : am_GI (d + 1) 14 P 2 [(0, .inr (.inr 8)), (1, .inl x1), (2, .inl (0 : Int))] [] m) :
    am_OkI (d + 1) 14 [.inr (.inr 8), .inl x1] m P := am_e1 chk_Given_fitsBits rfl (fun S => h)
theorem f_Given_canBeSetting {d : Nat} {P : Int → am_M → Prop} {x0 : Int} {x1 : Int} {m : am_M}
    (h : (x0 < (1 : Int) → (((0 : Int) = 0 ∨ (0 : Int) = 1) ∧ P (0 : Int) m)) ∧ (¬ (x0 < (1 : Int)) → (((6 : Int) < x0 → (((0 : Int) = 0 ∨ (0 : Int) = 1) ∧ P (0 : Int) m)) ∧ (¬ ((6 : Int) < x0) → (0 ≤ x0 ∧ x0 < 7 ∧ ((x1 < (am_tab 900 x0) → (((0 : Int) = 0 ∨ (0 : Int) = 1) ∧ P (0 : Int) m)) ∧ (¬ (x1 < (am_tab 900 x0)) → (0 ≤ x0 ∧ x0 < 7 ∧ (((am_tab 901 x0) < x1 → (((0 : Int) = 0 ∨ (0 : Int) = 1) ∧ P (0 : Int) m)) ∧ (¬ ((am_tab 901 x0) < x1) → (((1 : Int) = 0 ∨ (1 : Int) = 1) ∧ P (1 : Int) m))))))))))) :
    am_OkI (d + 1) 15 [.inl x0, .inl x1] m P := am_e1 chk_Given_canBeSetting rfl (fun S => h)
theorem f_Marks_mix {d : Nat} {P : Int64 → am_M → Prop} {x0 : Int64} {m : am_M}
    (h : P (((((x0 ^^^ (am_lushr x0 (30 : Int))) * (Int64.ofNat 13787848793156543929)) ^^^ (am_lushr ((x0 ^^^ (am_lushr x0 (30 : Int))) * (Int64.ofNat 13787848793156543929)) (27 : Int))) * (Int64.ofNat 10723151780598845931)) ^^^ (am_lushr ((((x0 ^^^ (am_lushr x0 (30 : Int))) * (Int64.ofNat 13787848793156543929)) ^^^ (am_lushr ((x0 ^^^ (am_lushr x0 (30 : Int))) * (Int64.ofNat 13787848793156543929)) (27 : Int))) * (Int64.ofNat 10723151780598845931)) (31 : Int))) m) :
    am_OkL (d + 1) 16 [.inr (.inl x0)] m P := am_e2 chk_Marks_mix rfl (fun S => h)
theorem f_Marks_aim {d : Nat} {P : am_M → Prop} {x1 : Int} {x2 : Int} {x3 : Int} {x4 : Int} {m : am_M}
    (h : am_OkL d 16 [.inr (.inl (am_i2l x1))] m (fun w2 m1 => am_R ((am_shl (1 : Int) x3) - (1 : Int)) ∧ (P (am_wr (am_wr (am_wr (am_wl m1 2704 (0 : Int) w2) 2705 (0 : Int) x2) 2706 (0 : Int) ((am_shl (1 : Int) x3) - (1 : Int))) 2707 (0 : Int) x4)))) :
    am_OkV (d + 1) 17 [.inr (.inr 17), .inl x1, .inl x2, .inl x3, .inl x4] m P := am_e0 chk_Marks_aim rfl (fun S => h)
theorem f_Marks_look {d : Nat} {P : am_M → Prop} {x1 : Int64} {m : am_M}
    (h : am_OkL d 16 [.inr (.inl (x1 + (m.2 2704 (0 : Int))))] m (fun w2 m1 => ((m1.1 2707 (0 : Int)) ≠ (0 : Int) → (((m1.1 2707 (0 : Int)) ≠ (1 : Int) → (am_OkV d 21 [.inr (.inr 17), .inr (.inl w2)] (am_wr m1 2703 (0 : Int) (am_and (am_l2i (w2 ^^^ (am_lushr w2 (32 : Int)))) (m1.1 2706 (0 : Int)))) (fun m3 => am_OkV d 23 [.inr (.inr 17)] m3 (fun m4 => P m4)))) ∧ (¬ ((m1.1 2707 (0 : Int)) ≠ (1 : Int)) → (am_OkV d 20 [.inr (.inr 17), .inr (.inl w2)] (am_wr m1 2703 (0 : Int) (am_and (am_l2i (w2 ^^^ (am_lushr w2 (32 : Int)))) (m1.1 2706 (0 : Int)))) (fun m5 => am_OkV d 23 [.inr (.inr 17)] m5 (fun m6 => P m6)))))) ∧ (¬ ((m1.1 2707 (0 : Int)) ≠ (0 : Int)) → (am_OkV d 19 [.inr (.inr 17), .inr (.inl w2)] (am_wr m1 2703 (0 : Int) (am_and (am_l2i (w2 ^^^ (am_lushr w2 (32 : Int)))) (m1.1 2706 (0 : Int)))) (fun m7 => am_OkV d 23 [.inr (.inr 17)] m7 (fun m8 => P m8)))))) :
    am_OkV (d + 1) 18 [.inr (.inr 17), .inr (.inl x1)] m P := am_e0 chk_Marks_look rfl (fun S => h)
theorem f_Marks_placeApart_2 {d : Nat} {P : am_M → Prop} {x1 : Int64} {x3 : Int} {m : am_M}
    (h : ((3 : Int) ≤ x3 → (P m)) ∧ (¬ ((3 : Int) ≤ x3) → (am_R (x3 * (m.1 2705 (0 : Int))) ∧ (am_OkI d 22 [.inr (.inl x1), .inl x3, .inl (m.1 2705 (0 : Int))] m (fun z2 m1 => am_R ((x3 * (m.1 2705 (0 : Int))) + z2) ∧ (0 ≤ x3 ∧ x3 < 3 ∧ (am_R (x3 + (1 : Int)) ∧ (am_GV (d + 1) 19 P 2 [(0, .inr (.inr 17)), (1, .inr (.inl x1)), (3, .inl (x3 + (1 : Int)))] [] (am_wr m1 18 x3 ((x3 * (m.1 2705 (0 : Int))) + z2)))))))))) :
    am_GV (d + 1) 19 P 2 [(0, .inr (.inr 17)), (1, .inr (.inl x1)), (3, .inl x3)] [] m := am_c0 chk_Marks_placeApart rfl (fun S => h)
theorem f_Marks_placeApart {d : Nat} {P : am_M → Prop} {x1 : Int64} {m : am_M}
    (h : am_GV (d + 1) 19 P 2 [(0, .inr (.inr 17)), (1, .inr (.inl x1)), (3, .inl (0 : Int))] [] m) :
    am_OkV (d + 1) 19 [.inr (.inr 17), .inr (.inl x1)] m P := am_e0 chk_Marks_placeApart rfl (fun S => h)
theorem f_Marks_placeClose_22 {d : Nat} {P : am_M → Prop} {x1 : Int64} {x3 : Int} {x4 : Int} {m : am_M}
    (h : ((3 : Int) ≤ x4 → (P m)) ∧ (¬ ((3 : Int) ≤ x4) → (am_R (x4 - (1 : Int)) ∧ (0 ≤ (x4 - (1 : Int)) ∧ (x4 - (1 : Int)) < 3 ∧ (am_R ((m.1 18 (x4 - (1 : Int))) + (1 : Int)) ∧ (am_OkI d 22 [.inr (.inl x1), .inl x4, .inl (m.1 2705 (0 : Int))] m (fun z2 m1 => am_R (((m.1 18 (x4 - (1 : Int))) + (1 : Int)) + z2) ∧ ((x3 ≤ (((m.1 18 (x4 - (1 : Int))) + (1 : Int)) + z2) → (am_R ((((m.1 18 (x4 - (1 : Int))) + (1 : Int)) + z2) - x3) ∧ (0 ≤ x4 ∧ x4 < 3 ∧ (am_R (x4 + (1 : Int)) ∧ (am_GV (d + 1) 20 P 22 [(0, .inr (.inr 17)), (1, .inr (.inl x1)), (3, .inl x3), (4, .inl (x4 + (1 : Int)))] [] (am_wr m1 18 x4 ((((m.1 18 (x4 - (1 : Int))) + (1 : Int)) + z2) - x3))))))) ∧ (¬ (x3 ≤ (((m.1 18 (x4 - (1 : Int))) + (1 : Int)) + z2)) → (0 ≤ x4 ∧ x4 < 3 ∧ (am_R (x4 + (1 : Int)) ∧ (am_GV (d + 1) 20 P 22 [(0, .inr (.inr 17)), (1, .inr (.inl x1)), (3, .inl x3), (4, .inl (x4 + (1 : Int)))] [] (am_wr m1 18 x4 (((m.1 18 (x4 - (1 : Int))) + (1 : Int)) + z2)))))))))))))) :
    am_GV (d + 1) 20 P 22 [(0, .inr (.inr 17)), (1, .inr (.inl x1)), (3, .inl x3), (4, .inl x4)] [] m := am_c0 chk_Marks_placeClose rfl (fun S => h)
theorem f_Marks_placeClose {d : Nat} {P : am_M → Prop} {x1 : Int64} {m : am_M}
    (h : am_R ((3 : Int) * (m.1 2705 (0 : Int))) ∧ (am_OkI d 22 [.inr (.inl x1), .inl (0 : Int), .inl ((3 : Int) * (m.1 2705 (0 : Int)))] m (fun z2 m1 => 0 ≤ (0 : Int) ∧ (0 : Int) < 3 ∧ (am_GV (d + 1) 20 P 22 [(0, .inr (.inr 17)), (1, .inr (.inl x1)), (3, .inl ((3 : Int) * (m.1 2705 (0 : Int)))), (4, .inl (1 : Int))] [] (am_wr m1 18 (0 : Int) z2))))) :
    am_OkV (d + 1) 20 [.inr (.inr 17), .inr (.inl x1)] m P := am_e0 chk_Marks_placeClose rfl (fun S => h)
theorem f_Marks_placeFree_2 {d : Nat} {P : am_M → Prop} {x1 : Int64} {x3 : Int} {m : am_M}
    (h : ((3 : Int) ≤ x3 → (P m)) ∧ (¬ ((3 : Int) ≤ x3) → (am_R ((3 : Int) * (m.1 2705 (0 : Int))) ∧ (am_OkI d 22 [.inr (.inl x1), .inl x3, .inl ((3 : Int) * (m.1 2705 (0 : Int)))] m (fun z2 m1 => 0 ≤ x3 ∧ x3 < 3 ∧ (am_R (x3 + (1 : Int)) ∧ (am_GV (d + 1) 21 P 2 [(0, .inr (.inr 17)), (1, .inr (.inl x1)), (3, .inl (x3 + (1 : Int)))] [] (am_wr m1 18 x3 z2)))))))) :
    am_GV (d + 1) 21 P 2 [(0, .inr (.inr 17)), (1, .inr (.inl x1)), (3, .inl x3)] [] m := am_c0 chk_Marks_placeFree rfl (fun S => h)
theorem f_Marks_placeFree {d : Nat} {P : am_M → Prop} {x1 : Int64} {m : am_M}
    (h : am_GV (d + 1) 21 P 2 [(0, .inr (.inr 17)), (1, .inr (.inl x1)), (3, .inl (0 : Int))] [] m) :
    am_OkV (d + 1) 21 [.inr (.inr 17), .inr (.inl x1)] m P := am_e0 chk_Marks_placeFree rfl (fun S => h)
theorem f_Marks_share {d : Nat} {P : Int → am_M → Prop} {x0 : Int64} {x2 : Int} {x3 : Int} {m : am_M}
    (h : am_R ((16 : Int) * x2) ∧ (am_R ((16 : Int) + ((16 : Int) * x2)) ∧ (am_R ((am_and (am_l2i (am_lushr x0 ((16 : Int) + ((16 : Int) * x2)))) (65535 : Int)) * x3) ∧ (P (am_ushr ((am_and (am_l2i (am_lushr x0 ((16 : Int) + ((16 : Int) * x2)))) (65535 : Int)) * x3) (16 : Int)) m)))) :
    am_OkI (d + 1) 22 [.inr (.inl x0), .inl x2, .inl x3] m P := am_e1 chk_Marks_share rfl (fun S => h)
theorem f_Marks_gatherTouched {d : Nat} {P : am_M → Prop}  {m : am_M}
    (h : 0 ≤ (0 : Int) ∧ (0 : Int) < 3 ∧ (0 ≤ (1 : Int) ∧ (1 : Int) < 3 ∧ (0 ≤ (2 : Int) ∧ (2 : Int) < 3 ∧ (((m.1 18 (0 : Int)) ≠ (m.1 18 (1 : Int)) → (((m.1 18 (0 : Int)) ≠ (m.1 18 (2 : Int)) → (((m.1 18 (1 : Int)) ≠ (m.1 18 (2 : Int)) → (0 ≤ (0 : Int) ∧ (0 : Int) < 3 ∧ (0 ≤ (2 : Int) ∧ (2 : Int) < 3 ∧ (am_R ((m.1 18 (0 : Int)) + (m.1 18 (1 : Int))) ∧ (am_R (((m.1 18 (0 : Int)) + (m.1 18 (1 : Int))) + (m.1 18 (2 : Int))) ∧ (0 ≤ (0 : Int) ∧ (0 : Int) < 3 ∧ (am_R ((((m.1 18 (0 : Int)) + (m.1 18 (1 : Int))) + (m.1 18 (2 : Int))) - (if (if (m.1 18 (2 : Int)) < (m.1 18 (1 : Int)) then (m.1 18 (2 : Int)) else (m.1 18 (1 : Int))) < (m.1 18 (0 : Int)) then (if (m.1 18 (2 : Int)) < (m.1 18 (1 : Int)) then (m.1 18 (2 : Int)) else (m.1 18 (1 : Int))) else (m.1 18 (0 : Int)))) ∧ (0 ≤ (2 : Int) ∧ (2 : Int) < 3 ∧ (am_R (((((m.1 18 (0 : Int)) + (m.1 18 (1 : Int))) + (m.1 18 (2 : Int))) - (if (if (m.1 18 (2 : Int)) < (m.1 18 (1 : Int)) then (m.1 18 (2 : Int)) else (m.1 18 (1 : Int))) < (m.1 18 (0 : Int)) then (if (m.1 18 (2 : Int)) < (m.1 18 (1 : Int)) then (m.1 18 (2 : Int)) else (m.1 18 (1 : Int))) else (m.1 18 (0 : Int)))) - (if (m.1 18 (0 : Int)) < (if (m.1 18 (1 : Int)) < (m.1 18 (2 : Int)) then (m.1 18 (2 : Int)) else (m.1 18 (1 : Int))) then (if (m.1 18 (1 : Int)) < (m.1 18 (2 : Int)) then (m.1 18 (2 : Int)) else (m.1 18 (1 : Int))) else (m.1 18 (0 : Int)))) ∧ (0 ≤ (1 : Int) ∧ (1 : Int) < 3 ∧ (P (am_wr (am_wr (am_wr (am_wr m 19 (0 : Int) (if (if (m.1 18 (2 : Int)) < (m.1 18 (1 : Int)) then (m.1 18 (2 : Int)) else (m.1 18 (1 : Int))) < (m.1 18 (0 : Int)) then (if (m.1 18 (2 : Int)) < (m.1 18 (1 : Int)) then (m.1 18 (2 : Int)) else (m.1 18 (1 : Int))) else (m.1 18 (0 : Int)))) 19 (2 : Int) (if (m.1 18 (0 : Int)) < (if (m.1 18 (1 : Int)) < (m.1 18 (2 : Int)) then (m.1 18 (2 : Int)) else (m.1 18 (1 : Int))) then (if (m.1 18 (1 : Int)) < (m.1 18 (2 : Int)) then (m.1 18 (2 : Int)) else (m.1 18 (1 : Int))) else (m.1 18 (0 : Int)))) 19 (1 : Int) (((((m.1 18 (0 : Int)) + (m.1 18 (1 : Int))) + (m.1 18 (2 : Int))) - (if (if (m.1 18 (2 : Int)) < (m.1 18 (1 : Int)) then (m.1 18 (2 : Int)) else (m.1 18 (1 : Int))) < (m.1 18 (0 : Int)) then (if (m.1 18 (2 : Int)) < (m.1 18 (1 : Int)) then (m.1 18 (2 : Int)) else (m.1 18 (1 : Int))) else (m.1 18 (0 : Int)))) - (if (m.1 18 (0 : Int)) < (if (m.1 18 (1 : Int)) < (m.1 18 (2 : Int)) then (m.1 18 (2 : Int)) else (m.1 18 (1 : Int))) then (if (m.1 18 (1 : Int)) < (m.1 18 (2 : Int)) then (m.1 18 (2 : Int)) else (m.1 18 (1 : Int))) else (m.1 18 (0 : Int))))) 2702 (0 : Int) (3 : Int))))))))))))) ∧ (¬ ((m.1 18 (1 : Int)) ≠ (m.1 18 (2 : Int))) → (am_OkV d 24 [.inr (.inr 17), .inl (m.1 18 (0 : Int))] m (fun m1 => P m1))))) ∧ (¬ ((m.1 18 (0 : Int)) ≠ (m.1 18 (2 : Int))) → (am_OkV d 24 [.inr (.inr 17), .inl (m.1 18 (1 : Int))] m (fun m2 => P m2))))) ∧ (¬ ((m.1 18 (0 : Int)) ≠ (m.1 18 (1 : Int))) → (am_OkV d 24 [.inr (.inr 17), .inl (m.1 18 (2 : Int))] m (fun m3 => P m3))))))) :
    am_OkV (d + 1) 23 [.inr (.inr 17)] m P := am_e0 chk_Marks_gatherTouched rfl (fun S => h)
theorem f_Marks_touchOnly {d : Nat} {P : am_M → Prop} {x1 : Int} {m : am_M}
    (h : 0 ≤ (0 : Int) ∧ (0 : Int) < 3 ∧ (P (am_wr (am_wr m 19 (0 : Int) x1) 2702 (0 : Int) (1 : Int)))) :
    am_OkV (d + 1) 24 [.inr (.inr 17), .inl x1] m P := am_e0 chk_Marks_touchOnly rfl (fun S => h)
theorem f_Marks_sum_44_4 {d : Nat} {P : Int → am_M → Prop} {x2 : Int} {x3 : Int} {m : am_M}
    (h : ((m.1 2702 (0 : Int)) ≤ x3 → (P x2 m)) ∧ (¬ ((m.1 2702 (0 : Int)) ≤ x3) → (0 ≤ x3 ∧ x3 < 3 ∧ (0 ≤ (m.1 19 x3) ∧ (m.1 19 x3) < 96 ∧ (am_R (x3 + (1 : Int)) ∧ (am_GI (d + 1) 25 P 4 [(0, .inr (.inr 17)), (1, .inr (.inr 44)), (2, .inl (am_xor x2 (m.1 44 (m.1 19 x3)))), (3, .inl (x3 + (1 : Int)))] [] m)))))) :
    am_GI (d + 1) 25 P 4 [(0, .inr (.inr 17)), (1, .inr (.inr 44)), (2, .inl x2), (3, .inl x3)] [] m := am_c1 chk_Marks_sum rfl (fun S => h)
theorem f_Marks_sum_44 {d : Nat} {P : Int → am_M → Prop}  {m : am_M}
    (h : am_GI (d + 1) 25 P 4 [(0, .inr (.inr 17)), (1, .inr (.inr 44)), (2, .inl (0 : Int)), (3, .inl (0 : Int))] [] m) :
    am_OkI (d + 1) 25 [.inr (.inr 17), .inr (.inr 44)] m P := am_e1 chk_Marks_sum rfl (fun S => h)
theorem f_Marks_sum_45_4 {d : Nat} {P : Int → am_M → Prop} {x2 : Int} {x3 : Int} {m : am_M}
    (h : ((m.1 2702 (0 : Int)) ≤ x3 → (P x2 m)) ∧ (¬ ((m.1 2702 (0 : Int)) ≤ x3) → (0 ≤ x3 ∧ x3 < 3 ∧ (0 ≤ (m.1 19 x3) ∧ (m.1 19 x3) < 96 ∧ (am_R (x3 + (1 : Int)) ∧ (am_GI (d + 1) 25 P 4 [(0, .inr (.inr 17)), (1, .inr (.inr 45)), (2, .inl (am_xor x2 (m.1 45 (m.1 19 x3)))), (3, .inl (x3 + (1 : Int)))] [] m)))))) :
    am_GI (d + 1) 25 P 4 [(0, .inr (.inr 17)), (1, .inr (.inr 45)), (2, .inl x2), (3, .inl x3)] [] m := am_c1 chk_Marks_sum rfl (fun S => h)
theorem f_Marks_sum_45 {d : Nat} {P : Int → am_M → Prop}  {m : am_M}
    (h : am_GI (d + 1) 25 P 4 [(0, .inr (.inr 17)), (1, .inr (.inr 45)), (2, .inl (0 : Int)), (3, .inl (0 : Int))] [] m) :
    am_OkI (d + 1) 25 [.inr (.inr 17), .inr (.inr 45)] m P := am_e1 chk_Marks_sum rfl (fun S => h)
theorem f_Mender_search_24 {d : Nat} {P : am_M → Prop} {x2 : Int} {m : am_M}
    (h : ((3 : Int) < x2 → (P m)) ∧ (¬ ((3 : Int) < x2) → (((m.1 4801 (0 : Int)) ≠ (-2 : Int) → (P m)) ∧ (¬ ((m.1 4801 (0 : Int)) ≠ (-2 : Int)) → (am_OkI d 27 [.inr (.inr 38), .inr (.inr 20), .inl (0 : Int), .inl x2, .inl (0 : Int)] m (fun z2 m1 => (z2 = (0 : Int) → (am_R (x2 + (1 : Int)) ∧ (am_GV (d + 1) 26 P 24 [(0, .inr (.inr 38)), (1, .inr (.inr 20)), (2, .inl (x2 + (1 : Int)))] [] m1))) ∧ (¬ (z2 = (0 : Int)) → (am_R (x2 + (1 : Int)) ∧ (am_GV (d + 1) 26 P 24 [(0, .inr (.inr 38)), (1, .inr (.inr 20)), (2, .inl (x2 + (1 : Int)))] [] (am_wr m1 4801 (0 : Int) x2)))))))))) :
    am_GV (d + 1) 26 P 24 [(0, .inr (.inr 38)), (1, .inr (.inr 20)), (2, .inl x2)] [] m := am_c0 chk_Mender_search rfl (fun S => h)
theorem f_Mender_search {d : Nat} {P : am_M → Prop}  {m : am_M}
    (h : ((m.1 3007 (0 : Int)) ≠ (0 : Int) → (am_GV (d + 1) 26 P 24 [(0, .inr (.inr 38)), (1, .inr (.inr 20)), (2, .inl (1 : Int))] [] (am_wr (am_wr m 4804 (0 : Int) (0 : Int)) 4801 (0 : Int) (-2 : Int)))) ∧ (¬ ((m.1 3007 (0 : Int)) ≠ (0 : Int)) → (am_GV (d + 1) 26 P 24 [(0, .inr (.inr 38)), (1, .inr (.inr 20)), (2, .inl (1 : Int))] [] (am_wr (am_wr m 4804 (0 : Int) (0 : Int)) 4801 (0 : Int) (0 : Int))))) :
    am_OkV (d + 1) 26 [.inr (.inr 38), .inr (.inr 20)] m P := am_e0 chk_Mender_search rfl (fun S => h)
theorem f_Mender_choose_26 {d : Nat} {P : Int → am_M → Prop} {x2 : Int} {x3 : Int} {x5 : Int} {m : am_M}
    (h : ((m.1 3006 (0 : Int)) ≤ x5 → (((0 : Int) = 0 ∨ (0 : Int) = 1) ∧ P (0 : Int) m)) ∧ (¬ ((m.1 3006 (0 : Int)) ≤ x5) → (0 ≤ x5 ∧ x5 < 48 ∧ (((m.1 24 x5) ≠ (0 : Int) → (am_R (x5 + (1 : Int)) ∧ (am_GI (d + 1) 27 P 26 [(0, .inr (.inr 38)), (1, .inr (.inr 20)), (2, .inl x2), (3, .inl x3), (5, .inl (x5 + (1 : Int)))] [] m))) ∧ (¬ ((m.1 24 x5) ≠ (0 : Int)) → (am_OkV d 28 [.inr (.inr 38), .inr (.inr 20), .inl x5] m (fun m1 => 0 ≤ x2 ∧ x2 < 3 ∧ (((m1.1 3007 (0 : Int)) = (0 : Int) → (((1 : Int) = 0 ∨ (1 : Int) = 1) ∧ P (1 : Int) (am_wr m1 39 x2 x5))) ∧ (¬ ((m1.1 3007 (0 : Int)) = (0 : Int)) → (am_R (x2 + (1 : Int)) ∧ (am_R (x5 + (1 : Int)) ∧ (am_OkI d 27 [.inr (.inr 38), .inr (.inr 20), .inl (x2 + (1 : Int)), .inl x3, .inl (x5 + (1 : Int))] (am_wr m1 39 x2 x5) (fun z3 m2 => (z3 = (0 : Int) → (am_OkV d 30 [.inr (.inr 38), .inr (.inr 20), .inl (m.1 4804 (0 : Int))] m2 (fun m4 => am_R (x5 + (1 : Int)) ∧ (am_GI (d + 1) 27 P 26 [(0, .inr (.inr 38)), (1, .inr (.inr 20)), (2, .inl x2), (3, .inl x3), (5, .inl (x5 + (1 : Int)))] [] m4)))) ∧ (¬ (z3 = (0 : Int)) → (((1 : Int) = 0 ∨ (1 : Int) = 1) ∧ P (1 : Int) m2))))))))))))))) :
    am_GI (d + 1) 27 P 26 [(0, .inr (.inr 38)), (1, .inr (.inr 20)), (2, .inl x2), (3, .inl x3), (5, .inl x5)] [] m := am_c1 chk_Mender_choose rfl (fun S => h)
theorem f_Mender_choose {d : Nat} {P : Int → am_M → Prop} {x2 : Int} {x3 : Int} {x4 : Int} {m : am_M}
    (h : (x3 ≤ x2 → (((0 : Int) = 0 ∨ (0 : Int) = 1) ∧ P (0 : Int) m)) ∧ (¬ (x3 ≤ x2) → (am_OkI d 56 [.inr (.inr 20)] m (fun z2 m1 => am_R ((m.1 3007 (0 : Int)) - z2) ∧ (am_R (x3 - x2) ∧ ((((m.1 3007 (0 : Int)) - z2) ≤ (x3 - x2) → (am_GI (d + 1) 27 P 26 [(0, .inr (.inr 38)), (1, .inr (.inr 20)), (2, .inl x2), (3, .inl x3), (5, .inl x4)] [] m1)) ∧ (¬ (((m.1 3007 (0 : Int)) - z2) ≤ (x3 - x2)) → (((0 : Int) = 0 ∨ (0 : Int) = 1) ∧ P (0 : Int) m1)))))))) :
    am_OkI (d + 1) 27 [.inr (.inr 38), .inr (.inr 20), .inl x2, .inl x3, .inl x4] m P := am_e1 chk_Mender_choose rfl (fun S => h)
theorem f_Mender_leaveOut_13 {d : Nat} {P : am_M → Prop} {x3 : Int} {m : am_M}
    (h : ((96 : Int) ≤ x3 → (P m)) ∧ (¬ ((96 : Int) ≤ x3) → (((m.1 4806 (0 : Int)) ≤ (0 : Int) → (P m)) ∧ (¬ ((m.1 4806 (0 : Int)) ≤ (0 : Int)) → (am_R ((m.1 4806 (0 : Int)) - (1 : Int)) ∧ (0 ≤ ((m.1 4806 (0 : Int)) - (1 : Int)) ∧ ((m.1 4806 (0 : Int)) - (1 : Int)) < 96 ∧ (am_OkI d 55 [.inr (.inr 20), .inl (m.1 41 ((m.1 4806 (0 : Int)) - (1 : Int)))] (am_wr m 4806 (0 : Int) ((m.1 4806 (0 : Int)) - (1 : Int))) (fun z2 m1 => (z2 = (0 : Int) → (am_R (x3 + (1 : Int)) ∧ (am_GV (d + 1) 28 P 13 [(0, .inr (.inr 38)), (1, .inr (.inr 20)), (3, .inl (x3 + (1 : Int)))] [] m1))) ∧ (¬ (z2 = (0 : Int)) → (0 ≤ (m.1 41 ((m.1 4806 (0 : Int)) - (1 : Int))) ∧ (m.1 41 ((m.1 4806 (0 : Int)) - (1 : Int))) < 96 ∧ (am_OkV d 29 [.inr (.inr 38), .inr (.inr 20), .inl (m1.1 26 (m.1 41 ((m.1 4806 (0 : Int)) - (1 : Int))))] m1 (fun m3 => am_R (x3 + (1 : Int)) ∧ (am_GV (d + 1) 28 P 13 [(0, .inr (.inr 38)), (1, .inr (.inr 20)), (3, .inl (x3 + (1 : Int)))] [] m3))))))))))))) :
    am_GV (d + 1) 28 P 13 [(0, .inr (.inr 38)), (1, .inr (.inr 20)), (3, .inl x3)] [] m := am_c0 chk_Mender_leaveOut rfl (fun S => h)
theorem f_Mender_leaveOut {d : Nat} {P : am_M → Prop} {x2 : Int} {m : am_M}
    (h : am_OkV d 29 [.inr (.inr 38), .inr (.inr 20), .inl x2] (am_wr m 4806 (0 : Int) (0 : Int)) (fun m1 => am_GV (d + 1) 28 P 13 [(0, .inr (.inr 38)), (1, .inr (.inr 20)), (3, .inl (0 : Int))] [] m1)) :
    am_OkV (d + 1) 28 [.inr (.inr 38), .inr (.inr 20), .inl x2] m P := am_e0 chk_Mender_leaveOut rfl (fun S => h)
theorem f_Mender_take_29 {d : Nat} {P : am_M → Prop} {x2 : Int} {x3 : Int} {m : am_M}
    (h : am_R ((3 : Int) * x2) ∧ (0 ≤ x2 ∧ x2 < 48 ∧ (am_R (((3 : Int) * x2) + (m.1 22 x2)) ∧ (((((3 : Int) * x2) + (m.1 22 x2)) ≤ x3 → (P m)) ∧ (¬ ((((3 : Int) * x2) + (m.1 22 x2)) ≤ x3) → (0 ≤ x3 ∧ x3 < 144 ∧ (am_OkI d 55 [.inr (.inr 20), .inl (m.1 21 x3)] m (fun z2 m1 => (z2 = (0 : Int) → (am_R (x3 + (1 : Int)) ∧ (am_GV (d + 1) 29 P 29 [(0, .inr (.inr 38)), (1, .inr (.inr 20)), (2, .inl x2), (3, .inl (x3 + (1 : Int)))] [] m1))) ∧ (¬ (z2 = (0 : Int)) → (((96 : Int) ≤ (m1.1 4806 (0 : Int)) → (am_R (x3 + (1 : Int)) ∧ (am_GV (d + 1) 29 P 29 [(0, .inr (.inr 38)), (1, .inr (.inr 20)), (2, .inl x2), (3, .inl (x3 + (1 : Int)))] [] m1))) ∧ (¬ ((96 : Int) ≤ (m1.1 4806 (0 : Int))) → (0 ≤ x3 ∧ x3 < 144 ∧ (0 ≤ (m1.1 4806 (0 : Int)) ∧ (m1.1 4806 (0 : Int)) < 96 ∧ (am_R ((m1.1 4806 (0 : Int)) + (1 : Int)) ∧ (am_R (x3 + (1 : Int)) ∧ (am_GV (d + 1) 29 P 29 [(0, .inr (.inr 38)), (1, .inr (.inr 20)), (2, .inl x2), (3, .inl (x3 + (1 : Int)))] [] (am_wr (am_wr m1 41 (m1.1 4806 (0 : Int)) (m1.1 21 x3)) 4806 (0 : Int) ((m1.1 4806 (0 : Int)) + (1 : Int))))))))))))))))))) :
    am_GV (d + 1) 29 P 29 [(0, .inr (.inr 38)), (1, .inr (.inr 20)), (2, .inl x2), (3, .inl x3)] [] m := am_c0 chk_Mender_take rfl (fun S => h)
theorem f_Mender_take {d : Nat} {P : am_M → Prop} {x2 : Int} {m : am_M}
    (h : am_OkV d 54 [.inr (.inr 20), .inl x2] m (fun m1 => 0 ≤ (m1.1 4804 (0 : Int)) ∧ (m1.1 4804 (0 : Int)) < 48 ∧ (am_R ((m1.1 4804 (0 : Int)) + (1 : Int)) ∧ (am_R ((3 : Int) * x2) ∧ (am_GV (d + 1) 29 P 29 [(0, .inr (.inr 38)), (1, .inr (.inr 20)), (2, .inl x2), (3, .inl ((3 : Int) * x2))] [] (am_wr (am_wr m1 40 (m1.1 4804 (0 : Int)) x2) 4804 (0 : Int) ((m1.1 4804 (0 : Int)) + (1 : Int)))))))) :
    am_OkV (d + 1) 29 [.inr (.inr 38), .inr (.inr 20), .inl x2] m P := am_e0 chk_Mender_take rfl (fun S => h)
theorem f_Mender_bringBack_0 {d : Nat} {P : am_M → Prop} {x2 : Int} {m : am_M}
    (h : ((m.1 4804 (0 : Int)) ≤ x2 → (P m)) ∧ (¬ ((m.1 4804 (0 : Int)) ≤ x2) → (am_R ((m.1 4804 (0 : Int)) - (1 : Int)) ∧ (0 ≤ ((m.1 4804 (0 : Int)) - (1 : Int)) ∧ ((m.1 4804 (0 : Int)) - (1 : Int)) < 48 ∧ (am_OkV d 53 [.inr (.inr 20), .inl (m.1 40 ((m.1 4804 (0 : Int)) - (1 : Int)))] (am_wr m 4804 (0 : Int) ((m.1 4804 (0 : Int)) - (1 : Int))) (fun m1 => am_GV (d + 1) 30 P 0 [(0, .inr (.inr 38)), (1, .inr (.inr 20)), (2, .inl x2)] [] m1)))))) :
    am_GV (d + 1) 30 P 0 [(0, .inr (.inr 38)), (1, .inr (.inr 20)), (2, .inl x2)] [] m := am_c0 chk_Mender_bringBack rfl (fun S => h)
theorem f_Mender_bringBack {d : Nat} {P : am_M → Prop} {x2 : Int} {m : am_M}
    (h : am_GV (d + 1) 30 P 0 [(0, .inr (.inr 38)), (1, .inr (.inr 20)), (2, .inl x2)] [] m) :
    am_OkV (d + 1) 30 [.inr (.inr 38), .inr (.inr 20), .inl x2] m P := am_e0 chk_Mender_bringBack rfl (fun S => h)
theorem f_Peeling_run {d : Nat} {P : am_M → Prop} {x2 : Int} {m : am_M}
    (h : (x2 ≠ (2 : Int) → ((x2 ≠ (1 : Int) → (am_OkV d 32 [.inr (.inr 27), .inr (.inr 20), .inl (0 : Int)] (am_wr m 3702 (0 : Int) (0 : Int)) (fun m1 => P m1))) ∧ (¬ (x2 ≠ (1 : Int)) → (am_OkV d 32 [.inr (.inr 27), .inr (.inr 20), .inl (1 : Int)] (am_wr m 3702 (0 : Int) (0 : Int)) (fun m2 => P m2))))) ∧ (¬ (x2 ≠ (2 : Int)) → (am_OkV d 35 [.inr (.inr 27), .inr (.inr 20)] (am_wr m 3702 (0 : Int) (0 : Int)) (fun m3 => P m3)))) :
    am_OkV (d + 1) 31 [.inr (.inr 27), .inr (.inr 20), .inl x2] m P := am_e0 chk_Peeling_run rfl (fun S => h)
theorem f_Peeling_runLine_12 {d : Nat} {P : am_M → Prop} {x2 : Int} {x3 : Int} {m : am_M}
    (h : ((m.1 3008 (0 : Int)) ≤ x3 → (am_GV (d + 1) 32 P 34 [(0, .inr (.inr 27)), (1, .inr (.inr 20)), (2, .inl x2), (3, .inl (0 : Int))] [] m)) ∧ (¬ ((m.1 3008 (0 : Int)) ≤ x3) → (am_OkV d 33 [.inr (.inr 27), .inr (.inr 20), .inl x3] m (fun m1 => am_R (x3 + (1 : Int)) ∧ (am_GV (d + 1) 32 P 12 [(0, .inr (.inr 27)), (1, .inr (.inr 20)), (2, .inl x2), (3, .inl (x3 + (1 : Int)))] [] m1))))) :
    am_GV (d + 1) 32 P 12 [(0, .inr (.inr 27)), (1, .inr (.inr 20)), (2, .inl x2), (3, .inl x3)] [] m := am_c0 chk_Peeling_runLine rfl (fun S => h)
theorem f_Peeling_runLine_34 {d : Nat} {P : am_M → Prop} {x2 : Int} {x3 : Int} {m : am_M}
    (h : ((96 : Int) ≤ x3 → (P m)) ∧ (¬ ((96 : Int) ≤ x3) → (((m.1 3705 (0 : Int)) ≤ (m.1 3704 (0 : Int)) → (P m)) ∧ (¬ ((m.1 3705 (0 : Int)) ≤ (m.1 3704 (0 : Int))) → (am_OkI d 34 [.inr (.inr 27), .inl x2] m (fun z2 m1 => am_OkI d 55 [.inr (.inr 20), .inl z2] m1 (fun z4 m3 => (z4 = (0 : Int) → (am_R (x3 + (1 : Int)) ∧ (am_GV (d + 1) 32 P 34 [(0, .inr (.inr 27)), (1, .inr (.inr 20)), (2, .inl x2), (3, .inl (x3 + (1 : Int)))] [] m3))) ∧ (¬ (z4 = (0 : Int)) → (am_OkI d 36 [.inr (.inr 27), .inr (.inr 20), .inl z2] m3 (fun z6 m5 => am_R ((3 : Int) * z6) ∧ (am_GV (d + 1) 32 P 82 [(0, .inr (.inr 27)), (1, .inr (.inr 20)), (2, .inl x2), (3, .inl x3), (5, .inl z6), (6, .inl ((3 : Int) * z6))] [] m5))))))))))) :
    am_GV (d + 1) 32 P 34 [(0, .inr (.inr 27)), (1, .inr (.inr 20)), (2, .inl x2), (3, .inl x3)] [] m := am_c0 chk_Peeling_runLine rfl (fun S => h)
theorem f_Peeling_runLine_82 {d : Nat} {P : am_M → Prop} {x2 : Int} {x3 : Int} {x5 : Int} {x6 : Int} {m : am_M}
    (h : am_R ((3 : Int) * x5) ∧ (0 ≤ x5 ∧ x5 < 48 ∧ (am_R (((3 : Int) * x5) + (m.1 22 x5)) ∧ (((((3 : Int) * x5) + (m.1 22 x5)) ≤ x6 → (am_R (x3 + (1 : Int)) ∧ (am_GV (d + 1) 32 P 34 [(0, .inr (.inr 27)), (1, .inr (.inr 20)), (2, .inl x2), (3, .inl (x3 + (1 : Int)))] [] m))) ∧ (¬ ((((3 : Int) * x5) + (m.1 22 x5)) ≤ x6) → (0 ≤ x6 ∧ x6 < 144 ∧ (am_OkV d 33 [.inr (.inr 27), .inr (.inr 20), .inl (m.1 21 x6)] m (fun m1 => am_R (x6 + (1 : Int)) ∧ (am_GV (d + 1) 32 P 82 [(0, .inr (.inr 27)), (1, .inr (.inr 20)), (2, .inl x2), (3, .inl x3), (5, .inl x5), (6, .inl (x6 + (1 : Int)))] [] m1))))))))) :
    am_GV (d + 1) 32 P 82 [(0, .inr (.inr 27)), (1, .inr (.inr 20)), (2, .inl x2), (3, .inl x3), (5, .inl x5), (6, .inl x6)] [] m := am_c0 chk_Peeling_runLine rfl (fun S => h)
theorem f_Peeling_runLine {d : Nat} {P : am_M → Prop} {x2 : Int} {m : am_M}
    (h : am_GV (d + 1) 32 P 12 [(0, .inr (.inr 27)), (1, .inr (.inr 20)), (2, .inl x2), (3, .inl (0 : Int))] [] (am_wr (am_wr m 3704 (0 : Int) (0 : Int)) 3705 (0 : Int) (0 : Int))) :
    am_OkV (d + 1) 32 [.inr (.inr 27), .inr (.inr 20), .inl x2] m P := am_e0 chk_Peeling_runLine rfl (fun S => h)
theorem f_Peeling_lineUp {d : Nat} {P : am_M → Prop} {x2 : Int} {m : am_M}
    (h : am_OkI d 55 [.inr (.inr 20), .inl x2] m (fun z2 m1 => (z2 = (0 : Int) → (P m1)) ∧ (¬ (z2 = (0 : Int)) → (((96 : Int) ≤ (m1.1 3705 (0 : Int)) → (P m1)) ∧ (¬ ((96 : Int) ≤ (m1.1 3705 (0 : Int))) → (0 ≤ (m1.1 3705 (0 : Int)) ∧ (m1.1 3705 (0 : Int)) < 96 ∧ (am_R ((m1.1 3705 (0 : Int)) + (1 : Int)) ∧ (P (am_wr (am_wr m1 30 (m1.1 3705 (0 : Int)) x2) 3705 (0 : Int) ((m1.1 3705 (0 : Int)) + (1 : Int))))))))))) :
    am_OkV (d + 1) 33 [.inr (.inr 27), .inr (.inr 20), .inl x2] m P := am_e0 chk_Peeling_lineUp rfl (fun S => h)
theorem f_Peeling_leaveLine {d : Nat} {P : Int → am_M → Prop} {x1 : Int} {m : am_M}
    (h : (x1 = (0 : Int) → (am_R ((m.1 3704 (0 : Int)) + (1 : Int)) ∧ (am_R (((m.1 3704 (0 : Int)) + (1 : Int)) - (1 : Int)) ∧ (0 ≤ (((m.1 3704 (0 : Int)) + (1 : Int)) - (1 : Int)) ∧ (((m.1 3704 (0 : Int)) + (1 : Int)) - (1 : Int)) < 96 ∧ (P (m.1 30 (((m.1 3704 (0 : Int)) + (1 : Int)) - (1 : Int))) (am_wr m 3704 (0 : Int) ((m.1 3704 (0 : Int)) + (1 : Int)))))))) ∧ (¬ (x1 = (0 : Int)) → (am_R ((m.1 3705 (0 : Int)) - (1 : Int)) ∧ (0 ≤ ((m.1 3705 (0 : Int)) - (1 : Int)) ∧ ((m.1 3705 (0 : Int)) - (1 : Int)) < 96 ∧ (P (m.1 30 ((m.1 3705 (0 : Int)) - (1 : Int))) (am_wr m 3705 (0 : Int) ((m.1 3705 (0 : Int)) - (1 : Int)))))))) :
    am_OkI (d + 1) 34 [.inr (.inr 27), .inl x1] m P := am_e1 chk_Peeling_leaveLine rfl (fun S => h)
theorem f_Peeling_runLeast_4 {d : Nat} {P : am_M → Prop} {x2 : Int} {x3 : Int} {m : am_M}
    (h : ((4704 : Int) ≤ x3 → (P m)) ∧ (¬ ((4704 : Int) ≤ x3) → (((m.1 3008 (0 : Int)) ≤ x2 → (P m)) ∧ (¬ ((m.1 3008 (0 : Int)) ≤ x2) → (am_OkI d 55 [.inr (.inr 20), .inl x2] m (fun z2 m1 => (z2 = (0 : Int) → (am_R (x2 + (1 : Int)) ∧ (am_R (x3 + (1 : Int)) ∧ (am_GV (d + 1) 35 P 4 [(0, .inr (.inr 27)), (1, .inr (.inr 20)), (2, .inl (x2 + (1 : Int))), (3, .inl (x3 + (1 : Int)))] [] m1)))) ∧ (¬ (z2 = (0 : Int)) → (am_OkI d 36 [.inr (.inr 27), .inr (.inr 20), .inl x2] m1 (fun z4 m3 => am_R ((3 : Int) * z4) ∧ (0 ≤ ((3 : Int) * z4) ∧ ((3 : Int) * z4) < 144 ∧ (am_R (x3 + (1 : Int)) ∧ (am_GV (d + 1) 35 P 4 [(0, .inr (.inr 27)), (1, .inr (.inr 20)), (2, .inl (m3.1 21 ((3 : Int) * z4))), (3, .inl (x3 + (1 : Int)))] [] m3)))))))))))) :
    am_GV (d + 1) 35 P 4 [(0, .inr (.inr 27)), (1, .inr (.inr 20)), (2, .inl x2), (3, .inl x3)] [] m := am_c0 chk_Peeling_runLeast rfl (fun S => h)
theorem f_Peeling_runLeast {d : Nat} {P : am_M → Prop}  {m : am_M}
    (h : am_GV (d + 1) 35 P 4 [(0, .inr (.inr 27)), (1, .inr (.inr 20)), (2, .inl (0 : Int)), (3, .inl (0 : Int))] [] m) :
    am_OkV (d + 1) 35 [.inr (.inr 27), .inr (.inr 20)] m P := am_e0 chk_Peeling_runLeast rfl (fun S => h)
theorem f_Peeling_goOut {d : Nat} {P : Int → am_M → Prop} {x2 : Int} {m : am_M}
    (h : 0 ≤ x2 ∧ x2 < 96 ∧ (am_OkV d 54 [.inr (.inr 20), .inl (m.1 26 x2)] m (fun m1 => 0 ≤ (m1.1 3702 (0 : Int)) ∧ (m1.1 3702 (0 : Int)) < 48 ∧ (0 ≤ (m1.1 3702 (0 : Int)) ∧ (m1.1 3702 (0 : Int)) < 48 ∧ (am_R ((m1.1 3702 (0 : Int)) + (1 : Int)) ∧ (P (m.1 26 x2) (am_wr (am_wr (am_wr m1 28 (m1.1 3702 (0 : Int)) (m.1 26 x2)) 29 (m1.1 3702 (0 : Int)) x2) 3702 (0 : Int) ((m1.1 3702 (0 : Int)) + (1 : Int))))))))) :
    am_OkI (d + 1) 36 [.inr (.inr 27), .inr (.inr 20), .inl x2] m P := am_e1 chk_Peeling_goOut rfl (fun S => h)
theorem f_Peeling_fillBack_23_44_13 {d : Nat} {P : am_M → Prop} {x4 : Int} {m : am_M}
    (h : (x4 < (0 : Int) → (P m)) ∧ (¬ (x4 < (0 : Int)) → (0 ≤ x4 ∧ x4 < 48 ∧ (0 ≤ (m.1 28 x4) ∧ (m.1 28 x4) < 48 ∧ (am_R ((3 : Int) * (m.1 28 x4)) ∧ (am_GV (d + 1) 37 P 39 [(0, .inr (.inr 27)), (1, .inr (.inr 20)), (2, .inr (.inr 23)), (3, .inr (.inr 44)), (4, .inl x4), (5, .inl (m.1 28 x4)), (6, .inl (m.1 23 (m.1 28 x4))), (7, .inl ((3 : Int) * (m.1 28 x4)))] [] m)))))) :
    am_GV (d + 1) 37 P 13 [(0, .inr (.inr 27)), (1, .inr (.inr 20)), (2, .inr (.inr 23)), (3, .inr (.inr 44)), (4, .inl x4)] [] m := am_c0 chk_Peeling_fillBack rfl (fun S => h)
theorem f_Peeling_fillBack_23_44_39 {d : Nat} {P : am_M → Prop} {x4 : Int} {x5 : Int} {x6 : Int} {x7 : Int} {m : am_M}
    (h : am_R ((3 : Int) * x5) ∧ (0 ≤ x5 ∧ x5 < 48 ∧ (am_R (((3 : Int) * x5) + (m.1 22 x5)) ∧ (((((3 : Int) * x5) + (m.1 22 x5)) ≤ x7 → (0 ≤ x4 ∧ x4 < 48 ∧ (0 ≤ (m.1 29 x4) ∧ (m.1 29 x4) < 96 ∧ (am_R (x4 + (-1 : Int)) ∧ (am_GV (d + 1) 37 P 13 [(0, .inr (.inr 27)), (1, .inr (.inr 20)), (2, .inr (.inr 23)), (3, .inr (.inr 44)), (4, .inl (x4 + (-1 : Int)))] [] (am_wr m 44 (m.1 29 x4) x6)))))) ∧ (¬ ((((3 : Int) * x5) + (m.1 22 x5)) ≤ x7) → (0 ≤ x7 ∧ x7 < 144 ∧ (0 ≤ (m.1 21 x7) ∧ (m.1 21 x7) < 96 ∧ (am_R (x7 + (1 : Int)) ∧ (am_GV (d + 1) 37 P 39 [(0, .inr (.inr 27)), (1, .inr (.inr 20)), (2, .inr (.inr 23)), (3, .inr (.inr 44)), (4, .inl x4), (5, .inl x5), (6, .inl (am_xor x6 (m.1 44 (m.1 21 x7)))), (7, .inl (x7 + (1 : Int)))] [] m))))))))) :
    am_GV (d + 1) 37 P 39 [(0, .inr (.inr 27)), (1, .inr (.inr 20)), (2, .inr (.inr 23)), (3, .inr (.inr 44)), (4, .inl x4), (5, .inl x5), (6, .inl x6), (7, .inl x7)] [] m := am_c0 chk_Peeling_fillBack rfl (fun S => h)
theorem f_Peeling_fillBack_23_44 {d : Nat} {P : am_M → Prop}  {m : am_M}
    (h : am_OkV d 194 [.inr (.inr 44), .inl (0 : Int)] m (fun m1 => am_R ((m1.1 3702 (0 : Int)) - (1 : Int)) ∧ (am_GV (d + 1) 37 P 13 [(0, .inr (.inr 27)), (1, .inr (.inr 20)), (2, .inr (.inr 23)), (3, .inr (.inr 44)), (4, .inl ((m1.1 3702 (0 : Int)) - (1 : Int)))] [] m1))) :
    am_OkV (d + 1) 37 [.inr (.inr 27), .inr (.inr 20), .inr (.inr 23), .inr (.inr 44)] m P := am_e0 chk_Peeling_fillBack rfl (fun S => h)
theorem f_Peeling_fillBack_6_45_13 {d : Nat} {P : am_M → Prop} {x4 : Int} {m : am_M}
    (h : (x4 < (0 : Int) → (P m)) ∧ (¬ (x4 < (0 : Int)) → (0 ≤ x4 ∧ x4 < 48 ∧ (0 ≤ (m.1 28 x4) ∧ (m.1 28 x4) < 48 ∧ (am_R ((3 : Int) * (m.1 28 x4)) ∧ (am_GV (d + 1) 37 P 39 [(0, .inr (.inr 27)), (1, .inr (.inr 20)), (2, .inr (.inr 6)), (3, .inr (.inr 45)), (4, .inl x4), (5, .inl (m.1 28 x4)), (6, .inl (m.1 6 (m.1 28 x4))), (7, .inl ((3 : Int) * (m.1 28 x4)))] [] m)))))) :
    am_GV (d + 1) 37 P 13 [(0, .inr (.inr 27)), (1, .inr (.inr 20)), (2, .inr (.inr 6)), (3, .inr (.inr 45)), (4, .inl x4)] [] m := am_c0 chk_Peeling_fillBack rfl (fun S => h)
theorem f_Peeling_fillBack_6_45_39 {d : Nat} {P : am_M → Prop} {x4 : Int} {x5 : Int} {x6 : Int} {x7 : Int} {m : am_M}
    (h : am_R ((3 : Int) * x5) ∧ (0 ≤ x5 ∧ x5 < 48 ∧ (am_R (((3 : Int) * x5) + (m.1 22 x5)) ∧ (((((3 : Int) * x5) + (m.1 22 x5)) ≤ x7 → (0 ≤ x4 ∧ x4 < 48 ∧ (0 ≤ (m.1 29 x4) ∧ (m.1 29 x4) < 96 ∧ (am_R (x4 + (-1 : Int)) ∧ (am_GV (d + 1) 37 P 13 [(0, .inr (.inr 27)), (1, .inr (.inr 20)), (2, .inr (.inr 6)), (3, .inr (.inr 45)), (4, .inl (x4 + (-1 : Int)))] [] (am_wr m 45 (m.1 29 x4) x6)))))) ∧ (¬ ((((3 : Int) * x5) + (m.1 22 x5)) ≤ x7) → (0 ≤ x7 ∧ x7 < 144 ∧ (0 ≤ (m.1 21 x7) ∧ (m.1 21 x7) < 96 ∧ (am_R (x7 + (1 : Int)) ∧ (am_GV (d + 1) 37 P 39 [(0, .inr (.inr 27)), (1, .inr (.inr 20)), (2, .inr (.inr 6)), (3, .inr (.inr 45)), (4, .inl x4), (5, .inl x5), (6, .inl (am_xor x6 (m.1 45 (m.1 21 x7)))), (7, .inl (x7 + (1 : Int)))] [] m))))))))) :
    am_GV (d + 1) 37 P 39 [(0, .inr (.inr 27)), (1, .inr (.inr 20)), (2, .inr (.inr 6)), (3, .inr (.inr 45)), (4, .inl x4), (5, .inl x5), (6, .inl x6), (7, .inl x7)] [] m := am_c0 chk_Peeling_fillBack rfl (fun S => h)
theorem f_Peeling_fillBack_6_45 {d : Nat} {P : am_M → Prop}  {m : am_M}
    (h : am_OkV d 194 [.inr (.inr 45), .inl (0 : Int)] m (fun m1 => am_R ((m1.1 3702 (0 : Int)) - (1 : Int)) ∧ (am_GV (d + 1) 37 P 13 [(0, .inr (.inr 27)), (1, .inr (.inr 20)), (2, .inr (.inr 6)), (3, .inr (.inr 45)), (4, .inl ((m1.1 3702 (0 : Int)) - (1 : Int)))] [] m1))) :
    am_OkV (d + 1) 37 [.inr (.inr 27), .inr (.inr 20), .inr (.inr 6), .inr (.inr 45)] m P := am_e0 chk_Peeling_fillBack rfl (fun S => h)
theorem f_Peeling_fillBack_31_32_13 {d : Nat} {P : am_M → Prop} {x4 : Int} {m : am_M}
    (h : (x4 < (0 : Int) → (P m)) ∧ (¬ (x4 < (0 : Int)) → (0 ≤ x4 ∧ x4 < 48 ∧ (0 ≤ (m.1 28 x4) ∧ (m.1 28 x4) < 48 ∧ (am_R ((3 : Int) * (m.1 28 x4)) ∧ (am_GV (d + 1) 37 P 39 [(0, .inr (.inr 27)), (1, .inr (.inr 20)), (2, .inr (.inr 31)), (3, .inr (.inr 32)), (4, .inl x4), (5, .inl (m.1 28 x4)), (6, .inl (m.1 31 (m.1 28 x4))), (7, .inl ((3 : Int) * (m.1 28 x4)))] [] m)))))) :
    am_GV (d + 1) 37 P 13 [(0, .inr (.inr 27)), (1, .inr (.inr 20)), (2, .inr (.inr 31)), (3, .inr (.inr 32)), (4, .inl x4)] [] m := am_c0 chk_Peeling_fillBack rfl (fun S => h)
theorem f_Peeling_fillBack_31_32_39 {d : Nat} {P : am_M → Prop} {x4 : Int} {x5 : Int} {x6 : Int} {x7 : Int} {m : am_M}
    (h : am_R ((3 : Int) * x5) ∧ (0 ≤ x5 ∧ x5 < 48 ∧ (am_R (((3 : Int) * x5) + (m.1 22 x5)) ∧ (((((3 : Int) * x5) + (m.1 22 x5)) ≤ x7 → (0 ≤ x4 ∧ x4 < 48 ∧ (0 ≤ (m.1 29 x4) ∧ (m.1 29 x4) < 96 ∧ (am_R (x4 + (-1 : Int)) ∧ (am_GV (d + 1) 37 P 13 [(0, .inr (.inr 27)), (1, .inr (.inr 20)), (2, .inr (.inr 31)), (3, .inr (.inr 32)), (4, .inl (x4 + (-1 : Int)))] [] (am_wr m 32 (m.1 29 x4) x6)))))) ∧ (¬ ((((3 : Int) * x5) + (m.1 22 x5)) ≤ x7) → (0 ≤ x7 ∧ x7 < 144 ∧ (0 ≤ (m.1 21 x7) ∧ (m.1 21 x7) < 96 ∧ (am_R (x7 + (1 : Int)) ∧ (am_GV (d + 1) 37 P 39 [(0, .inr (.inr 27)), (1, .inr (.inr 20)), (2, .inr (.inr 31)), (3, .inr (.inr 32)), (4, .inl x4), (5, .inl x5), (6, .inl (am_xor x6 (m.1 32 (m.1 21 x7)))), (7, .inl (x7 + (1 : Int)))] [] m))))))))) :
    am_GV (d + 1) 37 P 39 [(0, .inr (.inr 27)), (1, .inr (.inr 20)), (2, .inr (.inr 31)), (3, .inr (.inr 32)), (4, .inl x4), (5, .inl x5), (6, .inl x6), (7, .inl x7)] [] m := am_c0 chk_Peeling_fillBack rfl (fun S => h)
theorem f_Peeling_fillBack_31_32 {d : Nat} {P : am_M → Prop}  {m : am_M}
    (h : am_OkV d 194 [.inr (.inr 32), .inl (0 : Int)] m (fun m1 => am_R ((m1.1 3702 (0 : Int)) - (1 : Int)) ∧ (am_GV (d + 1) 37 P 13 [(0, .inr (.inr 27)), (1, .inr (.inr 20)), (2, .inr (.inr 31)), (3, .inr (.inr 32)), (4, .inl ((m1.1 3702 (0 : Int)) - (1 : Int)))] [] m1))) :
    am_OkV (d + 1) 37 [.inr (.inr 27), .inr (.inr 20), .inr (.inr 31), .inr (.inr 32)] m P := am_e0 chk_Peeling_fillBack rfl (fun S => h)
theorem f_Peeling_countWoken_33 {d : Nat} {P : Int → am_M → Prop} {x3 : Int} {x4 : Int} {m : am_M}
    (h : ((m.1 3008 (0 : Int)) ≤ x4 → (P x3 m)) ∧ (¬ ((m.1 3008 (0 : Int)) ≤ x4) → (0 ≤ x4 ∧ x4 < 96 ∧ (am_R (x3 + (m.1 32 x4)) ∧ (am_R (x4 + (1 : Int)) ∧ (am_GI (d + 1) 38 P 33 [(0, .inr (.inr 27)), (1, .inr (.inr 20)), (3, .inl (x3 + (m.1 32 x4))), (4, .inl (x4 + (1 : Int)))] [] m)))))) :
    am_GI (d + 1) 38 P 33 [(0, .inr (.inr 27)), (1, .inr (.inr 20)), (3, .inl x3), (4, .inl x4)] [] m := am_c1 chk_Peeling_countWoken rfl (fun S => h)
theorem f_Peeling_countWoken {d : Nat} {P : Int → am_M → Prop} {x2 : Int} {m : am_M}
    (h : am_OkV d 194 [.inr (.inr 31), .inl (0 : Int)] m (fun m1 => 0 ≤ x2 ∧ x2 < 48 ∧ (am_OkV d 37 [.inr (.inr 27), .inr (.inr 20), .inr (.inr 31), .inr (.inr 32)] (am_wr m1 31 x2 (1 : Int)) (fun m2 => am_GI (d + 1) 38 P 33 [(0, .inr (.inr 27)), (1, .inr (.inr 20)), (3, .inl (0 : Int)), (4, .inl (0 : Int))] [] m2)))) :
    am_OkI (d + 1) 38 [.inr (.inr 27), .inr (.inr 20), .inl x2] m P := am_e1 chk_Peeling_countWoken rfl (fun S => h)
theorem f_Reader_read_15 {d : Nat} {P : Int → am_M → Prop} {x3 : Int} {m : am_M}
    (h : ((6 : Int) < x3 → (am_GI (d + 1) 39 P 43 [(0, .inr (.inr 3)), (1, .inr (.inr 1)), (2, .inr (.inr 8)), (3, .inl (0 : Int))] [] m)) ∧ (¬ ((6 : Int) < x3) → (((m.1 1300 (0 : Int)) ≠ (0 : Int) → (am_GI (d + 1) 39 P 43 [(0, .inr (.inr 3)), (1, .inr (.inr 1)), (2, .inr (.inr 8)), (3, .inl (0 : Int))] [] m)) ∧ (¬ ((m.1 1300 (0 : Int)) ≠ (0 : Int)) → (am_OkV d 40 [.inr (.inr 3), .inr (.inr 1), .inr (.inr 8), .inl x3] m (fun m1 => am_R (x3 + (1 : Int)) ∧ (am_GI (d + 1) 39 P 15 [(0, .inr (.inr 3)), (1, .inr (.inr 1)), (2, .inr (.inr 8)), (3, .inl (x3 + (1 : Int)))] [] m1))))))) :
    am_GI (d + 1) 39 P 15 [(0, .inr (.inr 3)), (1, .inr (.inr 1)), (2, .inr (.inr 8)), (3, .inl x3)] [] m := am_c1 chk_Reader_read rfl (fun S => h)
theorem f_Reader_read_43 {d : Nat} {P : Int → am_M → Prop} {x3 : Int} {m : am_M}
    (h : ((48 : Int) < x3 → (P (m.1 1300 (0 : Int)) m)) ∧ (¬ ((48 : Int) < x3) → (((m.1 1300 (0 : Int)) ≠ (0 : Int) → (P (m.1 1300 (0 : Int)) m)) ∧ (¬ ((m.1 1300 (0 : Int)) ≠ (0 : Int)) → (((m.1 1102 (0 : Int)) = (0 : Int) → (P (m.1 1300 (0 : Int)) m)) ∧ (¬ ((m.1 1102 (0 : Int)) = (0 : Int)) → (am_OkV d 41 [.inr (.inr 3), .inr (.inr 1), .inr (.inr 8)] m (fun m1 => am_R (x3 + (1 : Int)) ∧ (am_GI (d + 1) 39 P 43 [(0, .inr (.inr 3)), (1, .inr (.inr 1)), (2, .inr (.inr 8)), (3, .inl (x3 + (1 : Int)))] [] m1))))))))) :
    am_GI (d + 1) 39 P 43 [(0, .inr (.inr 3)), (1, .inr (.inr 1)), (2, .inr (.inr 8)), (3, .inl x3)] [] m := am_c1 chk_Reader_read rfl (fun S => h)
theorem f_Reader_read {d : Nat} {P : Int → am_M → Prop}  {m : am_M}
    (h : am_OkV d 5 [.inr (.inr 8)] (am_wr m 1300 (0 : Int) (0 : Int)) (fun m1 => am_OkV d 67 [.inr (.inr 1)] m1 (fun m2 => am_GI (d + 1) 39 P 15 [(0, .inr (.inr 3)), (1, .inr (.inr 1)), (2, .inr (.inr 8)), (3, .inl (1 : Int))] [] m2))) :
    am_OkI (d + 1) 39 [.inr (.inr 3), .inr (.inr 1), .inr (.inr 8)] m P := am_e1 chk_Reader_read rfl (fun S => h)
theorem f_Reader_readSetting {d : Nat} {P : am_M → Prop} {x3 : Int} {m : am_M}
    (h : am_OkR d 47 [.inl x3] m (fun q2 m1 => am_OkI d 71 [.inr (.inr 1), .inr (.inr q2)] m1 (fun z4 m3 => (z4 ≠ (0 : Int) → (am_OkV d 68 [.inr (.inr 1)] m3 (fun m5 => ((5 : Int) ≤ x3 → (am_OkI d 44 [.inr (.inr 3), .inr (.inr 1), .inl x3] m5 (fun z7 m6 => am_OkV d 45 [.inr (.inr 3), .inr (.inr 1)] m6 (fun m8 => ((m8.1 1300 (0 : Int)) ≠ (0 : Int) → (P m8)) ∧ (¬ ((m8.1 1300 (0 : Int)) ≠ (0 : Int)) → (am_OkV d 12 [.inr (.inr 8), .inl x3, .inl z7] m8 (fun m9 => P m9))))))) ∧ (¬ ((5 : Int) ≤ x3) → (0 ≤ x3 ∧ x3 < 7 ∧ (0 ≤ x3 ∧ x3 < 7 ∧ (am_OkI d 43 [.inr (.inr 3), .inr (.inr 1), .inl (am_tab 900 x3), .inl (am_tab 901 x3)] m5 (fun z11 m10 => am_OkV d 45 [.inr (.inr 3), .inr (.inr 1)] m10 (fun m12 => ((m12.1 1300 (0 : Int)) ≠ (0 : Int) → (P m12)) ∧ (¬ ((m12.1 1300 (0 : Int)) ≠ (0 : Int)) → (am_OkV d 12 [.inr (.inr 8), .inl x3, .inl z11] m12 (fun m13 => P m13)))))))))))) ∧ (¬ (z4 ≠ (0 : Int)) → (P m3))))) :
    am_OkV (d + 1) 40 [.inr (.inr 3), .inr (.inr 1), .inr (.inr 8), .inl x3] m P := am_e0 chk_Reader_readSetting rfl (fun S => h)
theorem f_Reader_readKey {d : Nat} {P : am_M → Prop}  {m : am_M}
    (h : am_OkI d 71 [.inr (.inr 1), .inr (.inr 1012)] m (fun z2 m1 => (z2 ≠ (0 : Int) → (((m1.1 1803 (0 : Int)) < (48 : Int) → (am_OkV d 68 [.inr (.inr 1)] m1 (fun m3 => ((m3.1 1102 (0 : Int)) ≠ (2 : Int) → (am_OkI d 43 [.inr (.inr 3), .inr (.inr 1), .inl (0 : Int), .inl (999999999 : Int)] m3 (fun z5 m4 => am_OkI d 42 [.inr (.inr 3), .inr (.inr 1), .inr (.inr 8)] m4 (fun z7 m6 => am_OkV d 45 [.inr (.inr 3), .inr (.inr 1)] m6 (fun m8 => ((m8.1 1300 (0 : Int)) ≠ (0 : Int) → (P m8)) ∧ (¬ ((m8.1 1300 (0 : Int)) ≠ (0 : Int)) → (am_OkV d 9 [.inr (.inr 8), .inl (m8.1 1803 (0 : Int)), .inr (.inl (am_i2l z5)), .inl z7] m8 (fun m9 => P m9)))))))) ∧ (¬ ((m3.1 1102 (0 : Int)) ≠ (2 : Int)) → (am_OkI d 8 [.inr (.inr 8), .inr (.inl (am_i2l (m3.1 1105 (0 : Int))))] m3 (fun z11 m10 => (z11 = (-1 : Int) → (am_OkI d 43 [.inr (.inr 3), .inr (.inr 1), .inl (0 : Int), .inl (999999999 : Int)] m10 (fun z13 m12 => am_OkI d 42 [.inr (.inr 3), .inr (.inr 1), .inr (.inr 8)] m12 (fun z15 m14 => am_OkV d 45 [.inr (.inr 3), .inr (.inr 1)] m14 (fun m16 => ((m16.1 1300 (0 : Int)) ≠ (0 : Int) → (P m16)) ∧ (¬ ((m16.1 1300 (0 : Int)) ≠ (0 : Int)) → (am_OkV d 9 [.inr (.inr 8), .inl (m16.1 1803 (0 : Int)), .inr (.inl (am_i2l z13)), .inl z15] m16 (fun m17 => P m17)))))))) ∧ (¬ (z11 = (-1 : Int)) → (am_OkV d 46 [.inr (.inr 3), .inr (.inr 1), .inl (2 : Int)] m10 (fun m18 => P m18))))))))) ∧ (¬ ((m1.1 1803 (0 : Int)) < (48 : Int)) → (am_OkV d 46 [.inr (.inr 3), .inr (.inr 1), .inl (4 : Int)] m1 (fun m19 => P m19))))) ∧ (¬ (z2 ≠ (0 : Int)) → (am_OkV d 46 [.inr (.inr 3), .inr (.inr 1), .inl (1 : Int)] m1 (fun m20 => P m20))))) :
    am_OkV (d + 1) 41 [.inr (.inr 3), .inr (.inr 1), .inr (.inr 8)] m P := am_e0 chk_Reader_readKey rfl (fun S => h)
theorem f_Reader_takeValue {d : Nat} {P : Int → am_M → Prop}  {m : am_M}
    (h : ((m.1 1300 (0 : Int)) ≠ (0 : Int) → (P (0 : Int) m)) ∧ (¬ ((m.1 1300 (0 : Int)) ≠ (0 : Int)) → (am_OkI d 71 [.inr (.inr 1), .inr (.inr 1013)] m (fun z2 m1 => (z2 ≠ (0 : Int) → (am_OkV d 68 [.inr (.inr 1)] m1 (fun m3 => 0 ≤ (3 : Int) ∧ (3 : Int) < 7 ∧ (am_R ((am_shl (1 : Int) (m3.1 11 (3 : Int))) - (1 : Int)) ∧ (am_OkI d 43 [.inr (.inr 3), .inr (.inr 1), .inl (0 : Int), .inl ((am_shl (1 : Int) (m3.1 11 (3 : Int))) - (1 : Int))] m3 (fun z5 m4 => P z5 m4)))))) ∧ (¬ (z2 ≠ (0 : Int)) → (P (0 : Int) m1)))))) :
    am_OkI (d + 1) 42 [.inr (.inr 3), .inr (.inr 1), .inr (.inr 8)] m P := am_e1 chk_Reader_takeValue rfl (fun S => h)
theorem f_Reader_takeNumber {d : Nat} {P : Int → am_M → Prop} {x2 : Int} {x3 : Int} {m : am_M}
    (h : ((m.1 1102 (0 : Int)) = (2 : Int) → (((m.1 1105 (0 : Int)) < x2 → (am_OkV d 46 [.inr (.inr 3), .inr (.inr 1), .inl (3 : Int)] m (fun m1 => P (0 : Int) m1))) ∧ (¬ ((m.1 1105 (0 : Int)) < x2) → (((m.1 1105 (0 : Int)) ≤ x3 → (am_OkV d 68 [.inr (.inr 1)] m (fun m2 => P (m.1 1105 (0 : Int)) m2))) ∧ (¬ ((m.1 1105 (0 : Int)) ≤ x3) → (am_OkV d 46 [.inr (.inr 3), .inr (.inr 1), .inl (3 : Int)] m (fun m3 => P (0 : Int) m3))))))) ∧ (¬ ((m.1 1102 (0 : Int)) = (2 : Int)) → (am_OkV d 46 [.inr (.inr 3), .inr (.inr 1), .inl (1 : Int)] m (fun m4 => P (0 : Int) m4)))) :
    am_OkI (d + 1) 43 [.inr (.inr 3), .inr (.inr 1), .inl x2, .inl x3] m P := am_e1 chk_Reader_takeNumber rfl (fun S => h)
theorem f_Reader_takeChoice_6 {d : Nat} {P : Int → am_M → Prop} {x2 : Int} {x3 : Int} {m : am_M}
    (h : 0 ≤ x2 ∧ x2 < 7 ∧ (((am_tab 901 x2) < x3 → (am_OkV d 46 [.inr (.inr 3), .inr (.inr 1), .inl (1 : Int)] m (fun m1 => P (0 : Int) m1))) ∧ (¬ ((am_tab 901 x2) < x3) → (am_OkR d 48 [.inl x2, .inl x3] m (fun q3 m2 => am_OkI d 71 [.inr (.inr 1), .inr (.inr q3)] m2 (fun z5 m4 => (z5 = (0 : Int) → (am_R (x3 + (1 : Int)) ∧ (am_GI (d + 1) 44 P 6 [(0, .inr (.inr 3)), (1, .inr (.inr 1)), (2, .inl x2), (3, .inl (x3 + (1 : Int)))] [] m4))) ∧ (¬ (z5 = (0 : Int)) → (am_OkV d 68 [.inr (.inr 1)] m4 (fun m6 => P x3 m6))))))))) :
    am_GI (d + 1) 44 P 6 [(0, .inr (.inr 3)), (1, .inr (.inr 1)), (2, .inl x2), (3, .inl x3)] [] m := am_c1 chk_Reader_takeChoice rfl (fun S => h)
theorem f_Reader_takeChoice {d : Nat} {P : Int → am_M → Prop} {x2 : Int} {m : am_M}
    (h : 0 ≤ x2 ∧ x2 < 7 ∧ (am_GI (d + 1) 44 P 6 [(0, .inr (.inr 3)), (1, .inr (.inr 1)), (2, .inl x2), (3, .inl (am_tab 900 x2))] [] m)) :
    am_OkI (d + 1) 44 [.inr (.inr 3), .inr (.inr 1), .inl x2] m P := am_e1 chk_Reader_takeChoice rfl (fun S => h)
theorem f_Reader_passStop {d : Nat} {P : am_M → Prop}  {m : am_M}
    (h : ((m.1 1300 (0 : Int)) = (0 : Int) → (((m.1 1102 (0 : Int)) ≠ (3 : Int) → (am_OkV d 46 [.inr (.inr 3), .inr (.inr 1), .inl (1 : Int)] m (fun m1 => P m1))) ∧ (¬ ((m.1 1102 (0 : Int)) ≠ (3 : Int)) → (am_OkV d 68 [.inr (.inr 1)] m (fun m2 => P m2))))) ∧ (¬ ((m.1 1300 (0 : Int)) = (0 : Int)) → (P m))) :
    am_OkV (d + 1) 45 [.inr (.inr 3), .inr (.inr 1)] m P := am_e0 chk_Reader_passStop rfl (fun S => h)
theorem f_Reader_fail {d : Nat} {P : am_M → Prop} {x2 : Int} {m : am_M}
    (h : am_R ((8 : Int) * (m.1 1103 (0 : Int))) ∧ (am_R (((8 : Int) * (m.1 1103 (0 : Int))) + x2) ∧ (P (am_wr m 1300 (0 : Int) (((8 : Int) * (m.1 1103 (0 : Int))) + x2))))) :
    am_OkV (d + 1) 46 [.inr (.inr 3), .inr (.inr 1), .inl x2] m P := am_e0 chk_Reader_fail rfl (fun S => h)
theorem f_Reader_nameOf {d : Nat} {P : Nat → am_M → Prop} {x0 : Int} {m : am_M}
    (h : (x0 = 1 → (P 1000 m)) ∧ (x0 = 2 → (P 1001 m)) ∧ (x0 = 3 → (P 1002 m)) ∧ (x0 = 4 → (P 1003 m)) ∧ (x0 = 5 → (P 1004 m)) ∧ (x0 ≠ 5 → x0 ≠ 4 → x0 ≠ 3 → x0 ≠ 2 → x0 ≠ 1 → (P 1005 m))) :
    am_OkR (d + 1) 47 [.inl x0] m P := am_e3 chk_Reader_nameOf rfl (fun S => h)
theorem f_Reader_choiceOf {d : Nat} {P : Nat → am_M → Prop} {x0 : Int} {x1 : Int} {m : am_M}
    (h : (x1 = 0 → ((x0 ≠ (5 : Int) → (P 1007 m)) ∧ (¬ (x0 ≠ (5 : Int)) → (P 1006 m)))) ∧ (x1 = 1 → ((x0 ≠ (5 : Int) → (P 1009 m)) ∧ (¬ (x0 ≠ (5 : Int)) → (P 1008 m)))) ∧ (x1 ≠ 1 → x1 ≠ 0 → ((x0 ≠ (5 : Int) → (P 1011 m)) ∧ (¬ (x0 ≠ (5 : Int)) → (P 1010 m))))) :
    am_OkR (d + 1) 48 [.inl x0, .inl x1] m P := am_e3 chk_Reader_choiceOf rfl (fun S => h)
theorem f_Rounds_run_10 {d : Nat} {P : Int → am_M → Prop} {x2 : Int} {m : am_M}
    (h : ((48 : Int) < x2 → (P (48 : Int) m)) ∧ (¬ ((48 : Int) < x2) → (am_OkI d 50 [.inr (.inr 33), .inr (.inr 20), .inl x2] m (fun z2 m1 => (z2 ≠ (0 : Int) → (am_OkV d 51 [.inr (.inr 33), .inr (.inr 20), .inl x2] m1 (fun m3 => am_R (x2 + (1 : Int)) ∧ (am_GI (d + 1) 49 P 10 [(0, .inr (.inr 33)), (1, .inr (.inr 20)), (2, .inl (x2 + (1 : Int)))] [] m3)))) ∧ (¬ (z2 ≠ (0 : Int)) → (am_R (x2 - (1 : Int)) ∧ (P (x2 - (1 : Int)) m1))))))) :
    am_GI (d + 1) 49 P 10 [(0, .inr (.inr 33)), (1, .inr (.inr 20)), (2, .inl x2)] [] m := am_c1 chk_Rounds_run rfl (fun S => h)
theorem f_Rounds_run {d : Nat} {P : Int → am_M → Prop}  {m : am_M}
    (h : am_OkV d 194 [.inr (.inr 34), .inl (0 : Int)] m (fun m1 => am_GI (d + 1) 49 P 10 [(0, .inr (.inr 33)), (1, .inr (.inr 20)), (2, .inl (1 : Int))] [] m1)) :
    am_OkI (d + 1) 49 [.inr (.inr 33), .inr (.inr 20)] m P := am_e1 chk_Rounds_run rfl (fun S => h)
theorem f_Rounds_mark_5 {d : Nat} {P : Int → am_M → Prop} {x2 : Int} {x3 : Int} {x4 : Int} {m : am_M}
    (h : ((m.1 3008 (0 : Int)) ≤ x4 → ((x3 = 0 ∨ x3 = 1) ∧ P x3 m)) ∧ (¬ ((m.1 3008 (0 : Int)) ≤ x4) → (am_OkI d 55 [.inr (.inr 20), .inl x4] m (fun z2 m1 => (z2 = (0 : Int) → (am_R (x4 + (1 : Int)) ∧ (am_GI (d + 1) 50 P 5 [(0, .inr (.inr 33)), (1, .inr (.inr 20)), (2, .inl x2), (3, .inl x3), (4, .inl (x4 + (1 : Int)))] [] m1))) ∧ (¬ (z2 = (0 : Int)) → (0 ≤ x4 ∧ x4 < 96 ∧ (0 ≤ (m1.1 26 x4) ∧ (m1.1 26 x4) < 48 ∧ (am_R (x4 + (1 : Int)) ∧ (am_GI (d + 1) 50 P 5 [(0, .inr (.inr 33)), (1, .inr (.inr 20)), (2, .inl x2), (3, .inl (1 : Int)), (4, .inl (x4 + (1 : Int)))] [] (am_wr m1 34 (m1.1 26 x4) x2)))))))))) :
    am_GI (d + 1) 50 P 5 [(0, .inr (.inr 33)), (1, .inr (.inr 20)), (2, .inl x2), (3, .inl x3), (4, .inl x4)] [] m := am_c1 chk_Rounds_mark rfl (fun S => h)
theorem f_Rounds_mark {d : Nat} {P : Int → am_M → Prop} {x2 : Int} {m : am_M}
    (h : am_GI (d + 1) 50 P 5 [(0, .inr (.inr 33)), (1, .inr (.inr 20)), (2, .inl x2), (3, .inl (0 : Int)), (4, .inl (0 : Int))] [] m) :
    am_OkI (d + 1) 50 [.inr (.inr 33), .inr (.inr 20), .inl x2] m P := am_e1 chk_Rounds_mark rfl (fun S => h)
theorem f_Rounds_takeMarked_2 {d : Nat} {P : am_M → Prop} {x2 : Int} {x3 : Int} {m : am_M}
    (h : ((m.1 3006 (0 : Int)) ≤ x3 → (P m)) ∧ (¬ ((m.1 3006 (0 : Int)) ≤ x3) → (0 ≤ x3 ∧ x3 < 48 ∧ (((m.1 34 x3) ≠ x2 → (am_R (x3 + (1 : Int)) ∧ (am_GV (d + 1) 51 P 2 [(0, .inr (.inr 33)), (1, .inr (.inr 20)), (2, .inl x2), (3, .inl (x3 + (1 : Int)))] [] m))) ∧ (¬ ((m.1 34 x3) ≠ x2) → (am_OkV d 54 [.inr (.inr 20), .inl x3] m (fun m1 => am_R (x3 + (1 : Int)) ∧ (am_GV (d + 1) 51 P 2 [(0, .inr (.inr 33)), (1, .inr (.inr 20)), (2, .inl x2), (3, .inl (x3 + (1 : Int)))] [] m1)))))))) :
    am_GV (d + 1) 51 P 2 [(0, .inr (.inr 33)), (1, .inr (.inr 20)), (2, .inl x2), (3, .inl x3)] [] m := am_c0 chk_Rounds_takeMarked rfl (fun S => h)
theorem f_Rounds_takeMarked {d : Nat} {P : am_M → Prop} {x2 : Int} {m : am_M}
    (h : am_GV (d + 1) 51 P 2 [(0, .inr (.inr 33)), (1, .inr (.inr 20)), (2, .inl x2), (3, .inl (0 : Int))] [] m) :
    am_OkV (d + 1) 51 [.inr (.inr 33), .inr (.inr 20), .inl x2] m P := am_e0 chk_Rounds_takeMarked rfl (fun S => h)
theorem f_Row_lay_60 {d : Nat} {P : am_M → Prop} {x5 : Int} {m : am_M}
    (h : ((m.1 3006 (0 : Int)) ≤ x5 → (P m)) ∧ (¬ ((m.1 3006 (0 : Int)) ≤ x5) → (0 ≤ x5 ∧ x5 < 48 ∧ (am_OkV d 18 [.inr (.inr 17), .inr (.inl (m.2 5 x5))] m (fun m1 => 0 ≤ x5 ∧ x5 < 48 ∧ (0 ≤ x5 ∧ x5 < 48 ∧ (am_GV (d + 1) 52 P 105 [(0, .inr (.inr 20)), (1, .inr (.inr 4)), (2, .inr (.inr 17)), (5, .inl x5), (6, .inl (0 : Int))] [] (am_wr (am_wr m1 22 x5 (m1.1 2702 (0 : Int))) 23 x5 (m1.1 2703 (0 : Int)))))))))) :
    am_GV (d + 1) 52 P 60 [(0, .inr (.inr 20)), (1, .inr (.inr 4)), (2, .inr (.inr 17)), (5, .inl x5)] [] m := am_c0 chk_Row_lay rfl (fun S => h)
theorem f_Row_lay_105 {d : Nat} {P : am_M → Prop} {x5 : Int} {x6 : Int} {m : am_M}
    (h : ((m.1 2702 (0 : Int)) ≤ x6 → (am_OkV d 53 [.inr (.inr 20), .inl x5] m (fun m1 => am_R (x5 + (1 : Int)) ∧ (am_GV (d + 1) 52 P 60 [(0, .inr (.inr 20)), (1, .inr (.inr 4)), (2, .inr (.inr 17)), (5, .inl (x5 + (1 : Int)))] [] m1)))) ∧ (¬ ((m.1 2702 (0 : Int)) ≤ x6) → (am_R ((3 : Int) * x5) ∧ (am_R (((3 : Int) * x5) + x6) ∧ (0 ≤ x6 ∧ x6 < 3 ∧ (0 ≤ (((3 : Int) * x5) + x6) ∧ (((3 : Int) * x5) + x6) < 144 ∧ (am_R (x6 + (1 : Int)) ∧ (am_GV (d + 1) 52 P 105 [(0, .inr (.inr 20)), (1, .inr (.inr 4)), (2, .inr (.inr 17)), (5, .inl x5), (6, .inl (x6 + (1 : Int)))] [] (am_wr m 21 (((3 : Int) * x5) + x6) (m.1 19 x6)))))))))) :
    am_GV (d + 1) 52 P 105 [(0, .inr (.inr 20)), (1, .inr (.inr 4)), (2, .inr (.inr 17)), (5, .inl x5), (6, .inl x6)] [] m := am_c0 chk_Row_lay rfl (fun S => h)
theorem f_Row_lay {d : Nat} {P : am_M → Prop} {x3 : Int} {x4 : Int} {m : am_M}
    (h : 0 ≤ (2 : Int) ∧ (2 : Int) < 7 ∧ (0 ≤ (6 : Int) ∧ (6 : Int) < 7 ∧ (am_OkV d 17 [.inr (.inr 17), .inl x3, .inl x4, .inl (m.1 7 (2 : Int)), .inl (m.1 7 (6 : Int))] m (fun m1 => am_R ((3 : Int) * x4) ∧ (am_OkV d 194 [.inr (.inr 25), .inl (0 : Int)] (am_wr (am_wr (am_wr m1 3006 (0 : Int) (m1.1 1403 (0 : Int))) 3007 (0 : Int) (0 : Int)) 3008 (0 : Int) ((3 : Int) * x4)) (fun m2 => am_OkV d 194 [.inr (.inr 26), .inl (0 : Int)] m2 (fun m3 => am_GV (d + 1) 52 P 60 [(0, .inr (.inr 20)), (1, .inr (.inr 4)), (2, .inr (.inr 17)), (5, .inl (0 : Int))] [] m3))))))) :
    am_OkV (d + 1) 52 [.inr (.inr 20), .inr (.inr 4), .inr (.inr 17), .inl x3, .inl x4] m P := am_e0 chk_Row_lay rfl (fun S => h)
end
section
theorem f_Row_putBack_21 {d : Nat} {P : am_M → Prop} {x1 : Int} {x2 : Int} {m : am_M}
    (h : am_R ((3 : Int) * x1) ∧ (0 ≤ x1 ∧ x1 < 48 ∧ (am_R (((3 : Int) * x1) + (m.1 22 x1)) ∧ (((((3 : Int) * x1) + (m.1 22 x1)) ≤ x2 → (P m)) ∧ (¬ ((((3 : Int) * x1) + (m.1 22 x1)) ≤ x2) → (0 ≤ x2 ∧ x2 < 144 ∧ (0 ≤ (m.1 21 x2) ∧ (m.1 21 x2) < 96 ∧ (am_R ((m.1 25 (m.1 21 x2)) + (1 : Int)) ∧ (0 ≤ (m.1 21 x2) ∧ (m.1 21 x2) < 96 ∧ (0 ≤ x2 ∧ x2 < 144 ∧ (0 ≤ (m.1 21 x2) ∧ (m.1 21 x2) < 96 ∧ (0 ≤ (m.1 21 x2) ∧ (m.1 21 x2) < 96 ∧ (am_R (x2 + (1 : Int)) ∧ (am_GV (d + 1) 53 P 21 [(0, .inr (.inr 20)), (1, .inl x1), (2, .inl (x2 + (1 : Int)))] [] (am_wr (am_wr m 25 (m.1 21 x2) ((m.1 25 (m.1 21 x2)) + (1 : Int))) 26 (m.1 21 x2) (am_xor (m.1 26 (m.1 21 x2)) x1)))))))))))))))) :
    am_GV (d + 1) 53 P 21 [(0, .inr (.inr 20)), (1, .inl x1), (2, .inl x2)] [] m := am_c0 chk_Row_putBack rfl (fun S => h)
theorem f_Row_putBack {d : Nat} {P : am_M → Prop} {x1 : Int} {m : am_M}
    (h : 0 ≤ x1 ∧ x1 < 48 ∧ ((0 : Int) = 0 ∨ (0 : Int) = 1) ∧ (am_R ((m.1 3007 (0 : Int)) + (1 : Int)) ∧ (am_R ((3 : Int) * x1) ∧ (am_GV (d + 1) 53 P 21 [(0, .inr (.inr 20)), (1, .inl x1), (2, .inl ((3 : Int) * x1))] [] (am_wr (am_wr m 24 x1 (0 : Int)) 3007 (0 : Int) ((m.1 3007 (0 : Int)) + (1 : Int))))))) :
    am_OkV (d + 1) 53 [.inr (.inr 20), .inl x1] m P := am_e0 chk_Row_putBack rfl (fun S => h)
theorem f_Row_takeOff_21 {d : Nat} {P : am_M → Prop} {x1 : Int} {x2 : Int} {m : am_M}
    (h : am_R ((3 : Int) * x1) ∧ (0 ≤ x1 ∧ x1 < 48 ∧ (am_R (((3 : Int) * x1) + (m.1 22 x1)) ∧ (((((3 : Int) * x1) + (m.1 22 x1)) ≤ x2 → (P m)) ∧ (¬ ((((3 : Int) * x1) + (m.1 22 x1)) ≤ x2) → (0 ≤ x2 ∧ x2 < 144 ∧ (0 ≤ (m.1 21 x2) ∧ (m.1 21 x2) < 96 ∧ (am_R ((m.1 25 (m.1 21 x2)) - (1 : Int)) ∧ (0 ≤ (m.1 21 x2) ∧ (m.1 21 x2) < 96 ∧ (0 ≤ x2 ∧ x2 < 144 ∧ (0 ≤ (m.1 21 x2) ∧ (m.1 21 x2) < 96 ∧ (0 ≤ (m.1 21 x2) ∧ (m.1 21 x2) < 96 ∧ (am_R (x2 + (1 : Int)) ∧ (am_GV (d + 1) 54 P 21 [(0, .inr (.inr 20)), (1, .inl x1), (2, .inl (x2 + (1 : Int)))] [] (am_wr (am_wr m 25 (m.1 21 x2) ((m.1 25 (m.1 21 x2)) - (1 : Int))) 26 (m.1 21 x2) (am_xor (m.1 26 (m.1 21 x2)) x1)))))))))))))))) :
    am_GV (d + 1) 54 P 21 [(0, .inr (.inr 20)), (1, .inl x1), (2, .inl x2)] [] m := am_c0 chk_Row_takeOff rfl (fun S => h)
theorem f_Row_takeOff {d : Nat} {P : am_M → Prop} {x1 : Int} {m : am_M}
    (h : 0 ≤ x1 ∧ x1 < 48 ∧ ((1 : Int) = 0 ∨ (1 : Int) = 1) ∧ (am_R ((m.1 3007 (0 : Int)) - (1 : Int)) ∧ (am_R ((3 : Int) * x1) ∧ (am_GV (d + 1) 54 P 21 [(0, .inr (.inr 20)), (1, .inl x1), (2, .inl ((3 : Int) * x1))] [] (am_wr (am_wr m 24 x1 (1 : Int)) 3007 (0 : Int) ((m.1 3007 (0 : Int)) - (1 : Int))))))) :
    am_OkV (d + 1) 54 [.inr (.inr 20), .inl x1] m P := am_e0 chk_Row_takeOff rfl (fun S => h)
theorem f_Row_isAlone {d : Nat} {P : Int → am_M → Prop} {x1 : Int} {m : am_M}
    (h : 0 ≤ x1 ∧ x1 < 96 ∧ (((m.1 25 x1) ≠ (1 : Int) → (((0 : Int) = 0 ∨ (0 : Int) = 1) ∧ P (0 : Int) m)) ∧ (¬ ((m.1 25 x1) ≠ (1 : Int)) → (((1 : Int) = 0 ∨ (1 : Int) = 1) ∧ P (1 : Int) m)))) :
    am_OkI (d + 1) 55 [.inr (.inr 20), .inl x1] m P := am_e1 chk_Row_isAlone rfl (fun S => h)
theorem f_Row_countTouched_4 {d : Nat} {P : Int → am_M → Prop} {x1 : Int} {x2 : Int} {m : am_M}
    (h : ((m.1 3008 (0 : Int)) ≤ x2 → (P x1 m)) ∧ (¬ ((m.1 3008 (0 : Int)) ≤ x2) → (0 ≤ x2 ∧ x2 < 96 ∧ (((m.1 25 x2) = (0 : Int) → (am_R (x2 + (1 : Int)) ∧ (am_GI (d + 1) 56 P 4 [(0, .inr (.inr 20)), (1, .inl x1), (2, .inl (x2 + (1 : Int)))] [] m))) ∧ (¬ ((m.1 25 x2) = (0 : Int)) → (am_R (x1 + (1 : Int)) ∧ (am_R (x2 + (1 : Int)) ∧ (am_GI (d + 1) 56 P 4 [(0, .inr (.inr 20)), (1, .inl (x1 + (1 : Int))), (2, .inl (x2 + (1 : Int)))] [] m)))))))) :
    am_GI (d + 1) 56 P 4 [(0, .inr (.inr 20)), (1, .inl x1), (2, .inl x2)] [] m := am_c1 chk_Row_countTouched rfl (fun S => h)
theorem f_Row_countTouched {d : Nat} {P : Int → am_M → Prop}  {m : am_M}
    (h : am_GI (d + 1) 56 P 4 [(0, .inr (.inr 20)), (1, .inl (0 : Int)), (2, .inl (0 : Int))] [] m) :
    am_OkI (d + 1) 56 [.inr (.inr 20)] m P := am_e1 chk_Row_countTouched rfl (fun S => h)
theorem f_Row_leftAt_4 {d : Nat} {P : Int → am_M → Prop} {x1 : Int} {x2 : Int} {x3 : Int} {m : am_M}
    (h : ((m.1 3006 (0 : Int)) ≤ x3 → (P (-2 : Int) m)) ∧ (¬ ((m.1 3006 (0 : Int)) ≤ x3) → (0 ≤ x3 ∧ x3 < 48 ∧ (((m.1 24 x3) ≠ (0 : Int) → (am_R (x3 + (1 : Int)) ∧ (am_GI (d + 1) 57 P 4 [(0, .inr (.inr 20)), (1, .inl x1), (2, .inl x2), (3, .inl (x3 + (1 : Int)))] [] m))) ∧ (¬ ((m.1 24 x3) ≠ (0 : Int)) → ((x2 ≠ x1 → (am_R (x2 + (1 : Int)) ∧ (am_R (x3 + (1 : Int)) ∧ (am_GI (d + 1) 57 P 4 [(0, .inr (.inr 20)), (1, .inl x1), (2, .inl (x2 + (1 : Int))), (3, .inl (x3 + (1 : Int)))] [] m)))) ∧ (¬ (x2 ≠ x1) → (P x3 m)))))))) :
    am_GI (d + 1) 57 P 4 [(0, .inr (.inr 20)), (1, .inl x1), (2, .inl x2), (3, .inl x3)] [] m := am_c1 chk_Row_leftAt rfl (fun S => h)
theorem f_Row_leftAt {d : Nat} {P : Int → am_M → Prop} {x1 : Int} {m : am_M}
    (h : am_GI (d + 1) 57 P 4 [(0, .inr (.inr 20)), (1, .inl x1), (2, .inl (0 : Int)), (3, .inl (0 : Int))] [] m) :
    am_OkI (d + 1) 57 [.inr (.inr 20), .inl x1] m P := am_e1 chk_Row_leftAt rfl (fun S => h)
theorem f_Row_touchSame_19 {d : Nat} {P : Int → am_M → Prop} {x1 : Int} {x2 : Int} {x3 : Int} {m : am_M}
    (h : 0 ≤ x1 ∧ x1 < 48 ∧ (((m.1 22 x1) ≤ x3 → (((1 : Int) = 0 ∨ (1 : Int) = 1) ∧ P (1 : Int) m)) ∧ (¬ ((m.1 22 x1) ≤ x3) → (am_R ((3 : Int) * x1) ∧ (am_R (((3 : Int) * x1) + x3) ∧ (0 ≤ (((3 : Int) * x1) + x3) ∧ (((3 : Int) * x1) + x3) < 144 ∧ (am_R ((3 : Int) * x2) ∧ (am_R (((3 : Int) * x2) + x3) ∧ (0 ≤ (((3 : Int) * x2) + x3) ∧ (((3 : Int) * x2) + x3) < 144 ∧ (((m.1 21 (((3 : Int) * x1) + x3)) = (m.1 21 (((3 : Int) * x2) + x3)) → (am_R (x3 + (1 : Int)) ∧ (am_GI (d + 1) 58 P 19 [(0, .inr (.inr 20)), (1, .inl x1), (2, .inl x2), (3, .inl (x3 + (1 : Int)))] [] m))) ∧ (¬ ((m.1 21 (((3 : Int) * x1) + x3)) = (m.1 21 (((3 : Int) * x2) + x3))) → (((0 : Int) = 0 ∨ (0 : Int) = 1) ∧ P (0 : Int) m)))))))))))) :
    am_GI (d + 1) 58 P 19 [(0, .inr (.inr 20)), (1, .inl x1), (2, .inl x2), (3, .inl x3)] [] m := am_c1 chk_Row_touchSame rfl (fun S => h)
theorem f_Row_touchSame {d : Nat} {P : Int → am_M → Prop} {x1 : Int} {x2 : Int} {m : am_M}
    (h : 0 ≤ x1 ∧ x1 < 48 ∧ (0 ≤ x2 ∧ x2 < 48 ∧ (((m.1 22 x1) = (m.1 22 x2) → (am_GI (d + 1) 58 P 19 [(0, .inr (.inr 20)), (1, .inl x1), (2, .inl x2), (3, .inl (0 : Int))] [] m)) ∧ (¬ ((m.1 22 x1) = (m.1 22 x2)) → (((0 : Int) = 0 ∨ (0 : Int) = 1) ∧ P (0 : Int) m))))) :
    am_OkI (d + 1) 58 [.inr (.inr 20), .inl x1, .inl x2] m P := am_e1 chk_Row_touchSame rfl (fun S => h)
theorem f_Sieve_describe {d : Nat} {P : am_M → Prop} {x2 : Int} {x3 : Int} {m : am_M}
    (h : 0 ≤ (0 : Int) ∧ (0 : Int) < 7 ∧ (0 ≤ (1 : Int) ∧ (1 : Int) < 7 ∧ (0 ≤ (1 : Int) ∧ (1 : Int) < 7 ∧ (0 ≤ (2 : Int) ∧ (2 : Int) < 7 ∧ (0 ≤ (2 : Int) ∧ (2 : Int) < 7 ∧ (0 ≤ (3 : Int) ∧ (3 : Int) < 7 ∧ (0 ≤ (3 : Int) ∧ (3 : Int) < 7 ∧ (0 ≤ (6 : Int) ∧ (6 : Int) < 7 ∧ (0 ≤ (4 : Int) ∧ (4 : Int) < 7 ∧ (0 ≤ (5 : Int) ∧ (5 : Int) < 7 ∧ (0 ≤ (6 : Int) ∧ (6 : Int) < 7 ∧ (((1 : Int) = 0 ∨ (1 : Int) = 1) ∧ (P (am_wr (am_wr (am_wr (am_wr (am_wr (am_wr (am_wr (am_wr m 43 (0 : Int) x2) 43 (1 : Int) (m.1 7 (1 : Int))) 43 (2 : Int) (m.1 7 (2 : Int))) 43 (3 : Int) (m.1 7 (3 : Int))) 43 (4 : Int) (m.1 7 (6 : Int))) 43 (5 : Int) (m.1 1403 (0 : Int))) 43 (6 : Int) x3) 5203 (0 : Int) (1 : Int))))))))))))))) :
    am_OkV (d + 1) 59 [.inr (.inr 42), .inr (.inr 4), .inl x2, .inl x3] m P := am_e0 chk_Sieve_describe rfl (fun S => h)
theorem f_Sieve_copy_46_42 {d : Nat} {P : am_M → Prop}  {m : am_M}
    (h : 0 ≤ (0 : Int) ∧ 0 ≤ (0 : Int) ∧ 0 ≤ (7 : Int) ∧ (0 : Int) + (7 : Int) ≤ 7 ∧ (0 : Int) + (7 : Int) ≤ 7 ∧ (0 ≤ (0 : Int) ∧ 0 ≤ (0 : Int) ∧ 0 ≤ (96 : Int) ∧ (0 : Int) + (96 : Int) ≤ 96 ∧ (0 : Int) + (96 : Int) ≤ 96 ∧ (0 ≤ (0 : Int) ∧ 0 ≤ (0 : Int) ∧ 0 ≤ (96 : Int) ∧ (0 : Int) + (96 : Int) ≤ 96 ∧ (0 : Int) + (96 : Int) ≤ 96 ∧ (((m.1 5203 (0 : Int)) = 0 ∨ (m.1 5203 (0 : Int)) = 1) ∧ (P (am_wr (am_ws1 (am_ws1 (am_ws1 m 47 (am_cpy (m.1 43) (m.1 47) (0 : Int) (0 : Int) (7 : Int))) 48 (am_cpy ((am_ws1 m 47 (am_cpy (m.1 43) (m.1 47) (0 : Int) (0 : Int) (7 : Int))).1 44) ((am_ws1 m 47 (am_cpy (m.1 43) (m.1 47) (0 : Int) (0 : Int) (7 : Int))).1 48) (0 : Int) (0 : Int) (96 : Int))) 49 (am_cpy ((am_ws1 (am_ws1 m 47 (am_cpy (m.1 43) (m.1 47) (0 : Int) (0 : Int) (7 : Int))) 48 (am_cpy ((am_ws1 m 47 (am_cpy (m.1 43) (m.1 47) (0 : Int) (0 : Int) (7 : Int))).1 44) ((am_ws1 m 47 (am_cpy (m.1 43) (m.1 47) (0 : Int) (0 : Int) (7 : Int))).1 48) (0 : Int) (0 : Int) (96 : Int))).1 45) ((am_ws1 (am_ws1 m 47 (am_cpy (m.1 43) (m.1 47) (0 : Int) (0 : Int) (7 : Int))) 48 (am_cpy ((am_ws1 m 47 (am_cpy (m.1 43) (m.1 47) (0 : Int) (0 : Int) (7 : Int))).1 44) ((am_ws1 m 47 (am_cpy (m.1 43) (m.1 47) (0 : Int) (0 : Int) (7 : Int))).1 48) (0 : Int) (0 : Int) (96 : Int))).1 49) (0 : Int) (0 : Int) (96 : Int))) 5603 (0 : Int) (m.1 5203 (0 : Int)))))))) :
    am_OkV (d + 1) 60 [.inr (.inr 46), .inr (.inr 42)] m P := am_e0 chk_Sieve_copy rfl (fun S => h)
theorem f_Sieve_copy_50_42 {d : Nat} {P : am_M → Prop}  {m : am_M}
    (h : 0 ≤ (0 : Int) ∧ 0 ≤ (0 : Int) ∧ 0 ≤ (7 : Int) ∧ (0 : Int) + (7 : Int) ≤ 7 ∧ (0 : Int) + (7 : Int) ≤ 7 ∧ (0 ≤ (0 : Int) ∧ 0 ≤ (0 : Int) ∧ 0 ≤ (96 : Int) ∧ (0 : Int) + (96 : Int) ≤ 96 ∧ (0 : Int) + (96 : Int) ≤ 96 ∧ (0 ≤ (0 : Int) ∧ 0 ≤ (0 : Int) ∧ 0 ≤ (96 : Int) ∧ (0 : Int) + (96 : Int) ≤ 96 ∧ (0 : Int) + (96 : Int) ≤ 96 ∧ (((m.1 5203 (0 : Int)) = 0 ∨ (m.1 5203 (0 : Int)) = 1) ∧ (P (am_wr (am_ws1 (am_ws1 (am_ws1 m 51 (am_cpy (m.1 43) (m.1 51) (0 : Int) (0 : Int) (7 : Int))) 52 (am_cpy ((am_ws1 m 51 (am_cpy (m.1 43) (m.1 51) (0 : Int) (0 : Int) (7 : Int))).1 44) ((am_ws1 m 51 (am_cpy (m.1 43) (m.1 51) (0 : Int) (0 : Int) (7 : Int))).1 52) (0 : Int) (0 : Int) (96 : Int))) 53 (am_cpy ((am_ws1 (am_ws1 m 51 (am_cpy (m.1 43) (m.1 51) (0 : Int) (0 : Int) (7 : Int))) 52 (am_cpy ((am_ws1 m 51 (am_cpy (m.1 43) (m.1 51) (0 : Int) (0 : Int) (7 : Int))).1 44) ((am_ws1 m 51 (am_cpy (m.1 43) (m.1 51) (0 : Int) (0 : Int) (7 : Int))).1 52) (0 : Int) (0 : Int) (96 : Int))).1 45) ((am_ws1 (am_ws1 m 51 (am_cpy (m.1 43) (m.1 51) (0 : Int) (0 : Int) (7 : Int))) 52 (am_cpy ((am_ws1 m 51 (am_cpy (m.1 43) (m.1 51) (0 : Int) (0 : Int) (7 : Int))).1 44) ((am_ws1 m 51 (am_cpy (m.1 43) (m.1 51) (0 : Int) (0 : Int) (7 : Int))).1 52) (0 : Int) (0 : Int) (96 : Int))).1 53) (0 : Int) (0 : Int) (96 : Int))) 6003 (0 : Int) (m.1 5203 (0 : Int)))))))) :
    am_OkV (d + 1) 60 [.inr (.inr 50), .inr (.inr 42)] m P := am_e0 chk_Sieve_copy rfl (fun S => h)
theorem f_Sieve_copy_42_46 {d : Nat} {P : am_M → Prop}  {m : am_M}
    (h : 0 ≤ (0 : Int) ∧ 0 ≤ (0 : Int) ∧ 0 ≤ (7 : Int) ∧ (0 : Int) + (7 : Int) ≤ 7 ∧ (0 : Int) + (7 : Int) ≤ 7 ∧ (0 ≤ (0 : Int) ∧ 0 ≤ (0 : Int) ∧ 0 ≤ (96 : Int) ∧ (0 : Int) + (96 : Int) ≤ 96 ∧ (0 : Int) + (96 : Int) ≤ 96 ∧ (0 ≤ (0 : Int) ∧ 0 ≤ (0 : Int) ∧ 0 ≤ (96 : Int) ∧ (0 : Int) + (96 : Int) ≤ 96 ∧ (0 : Int) + (96 : Int) ≤ 96 ∧ (((m.1 5603 (0 : Int)) = 0 ∨ (m.1 5603 (0 : Int)) = 1) ∧ (P (am_wr (am_ws1 (am_ws1 (am_ws1 m 43 (am_cpy (m.1 47) (m.1 43) (0 : Int) (0 : Int) (7 : Int))) 44 (am_cpy ((am_ws1 m 43 (am_cpy (m.1 47) (m.1 43) (0 : Int) (0 : Int) (7 : Int))).1 48) ((am_ws1 m 43 (am_cpy (m.1 47) (m.1 43) (0 : Int) (0 : Int) (7 : Int))).1 44) (0 : Int) (0 : Int) (96 : Int))) 45 (am_cpy ((am_ws1 (am_ws1 m 43 (am_cpy (m.1 47) (m.1 43) (0 : Int) (0 : Int) (7 : Int))) 44 (am_cpy ((am_ws1 m 43 (am_cpy (m.1 47) (m.1 43) (0 : Int) (0 : Int) (7 : Int))).1 48) ((am_ws1 m 43 (am_cpy (m.1 47) (m.1 43) (0 : Int) (0 : Int) (7 : Int))).1 44) (0 : Int) (0 : Int) (96 : Int))).1 49) ((am_ws1 (am_ws1 m 43 (am_cpy (m.1 47) (m.1 43) (0 : Int) (0 : Int) (7 : Int))) 44 (am_cpy ((am_ws1 m 43 (am_cpy (m.1 47) (m.1 43) (0 : Int) (0 : Int) (7 : Int))).1 48) ((am_ws1 m 43 (am_cpy (m.1 47) (m.1 43) (0 : Int) (0 : Int) (7 : Int))).1 44) (0 : Int) (0 : Int) (96 : Int))).1 45) (0 : Int) (0 : Int) (96 : Int))) 5203 (0 : Int) (m.1 5603 (0 : Int)))))))) :
    am_OkV (d + 1) 60 [.inr (.inr 42), .inr (.inr 46)] m P := am_e0 chk_Sieve_copy rfl (fun S => h)
theorem f_Sieve_copy_42_50 {d : Nat} {P : am_M → Prop}  {m : am_M}
    (h : 0 ≤ (0 : Int) ∧ 0 ≤ (0 : Int) ∧ 0 ≤ (7 : Int) ∧ (0 : Int) + (7 : Int) ≤ 7 ∧ (0 : Int) + (7 : Int) ≤ 7 ∧ (0 ≤ (0 : Int) ∧ 0 ≤ (0 : Int) ∧ 0 ≤ (96 : Int) ∧ (0 : Int) + (96 : Int) ≤ 96 ∧ (0 : Int) + (96 : Int) ≤ 96 ∧ (0 ≤ (0 : Int) ∧ 0 ≤ (0 : Int) ∧ 0 ≤ (96 : Int) ∧ (0 : Int) + (96 : Int) ≤ 96 ∧ (0 : Int) + (96 : Int) ≤ 96 ∧ (((m.1 6003 (0 : Int)) = 0 ∨ (m.1 6003 (0 : Int)) = 1) ∧ (P (am_wr (am_ws1 (am_ws1 (am_ws1 m 43 (am_cpy (m.1 51) (m.1 43) (0 : Int) (0 : Int) (7 : Int))) 44 (am_cpy ((am_ws1 m 43 (am_cpy (m.1 51) (m.1 43) (0 : Int) (0 : Int) (7 : Int))).1 52) ((am_ws1 m 43 (am_cpy (m.1 51) (m.1 43) (0 : Int) (0 : Int) (7 : Int))).1 44) (0 : Int) (0 : Int) (96 : Int))) 45 (am_cpy ((am_ws1 (am_ws1 m 43 (am_cpy (m.1 51) (m.1 43) (0 : Int) (0 : Int) (7 : Int))) 44 (am_cpy ((am_ws1 m 43 (am_cpy (m.1 51) (m.1 43) (0 : Int) (0 : Int) (7 : Int))).1 52) ((am_ws1 m 43 (am_cpy (m.1 51) (m.1 43) (0 : Int) (0 : Int) (7 : Int))).1 44) (0 : Int) (0 : Int) (96 : Int))).1 53) ((am_ws1 (am_ws1 m 43 (am_cpy (m.1 51) (m.1 43) (0 : Int) (0 : Int) (7 : Int))) 44 (am_cpy ((am_ws1 m 43 (am_cpy (m.1 51) (m.1 43) (0 : Int) (0 : Int) (7 : Int))).1 52) ((am_ws1 m 43 (am_cpy (m.1 51) (m.1 43) (0 : Int) (0 : Int) (7 : Int))).1 44) (0 : Int) (0 : Int) (96 : Int))).1 45) (0 : Int) (0 : Int) (96 : Int))) 5203 (0 : Int) (m.1 6003 (0 : Int)))))))) :
    am_OkV (d + 1) 60 [.inr (.inr 42), .inr (.inr 50)] m P := am_e0 chk_Sieve_copy rfl (fun S => h)
theorem f_Sieve_length_42 {d : Nat} {P : Int → am_M → Prop}  {m : am_M}
    (h : 0 ≤ (1 : Int) ∧ (1 : Int) < 7 ∧ (am_R ((3 : Int) * (m.1 43 (1 : Int))) ∧ (P ((3 : Int) * (m.1 43 (1 : Int))) m))) :
    am_OkI (d + 1) 61 [.inr (.inr 42)] m P := am_e1 chk_Sieve_length rfl (fun S => h)
theorem f_Sieve_length_46 {d : Nat} {P : Int → am_M → Prop}  {m : am_M}
    (h : 0 ≤ (1 : Int) ∧ (1 : Int) < 7 ∧ (am_R ((3 : Int) * (m.1 47 (1 : Int))) ∧ (P ((3 : Int) * (m.1 47 (1 : Int))) m))) :
    am_OkI (d + 1) 61 [.inr (.inr 46)] m P := am_e1 chk_Sieve_length rfl (fun S => h)
theorem f_Sieve_length_50 {d : Nat} {P : Int → am_M → Prop}  {m : am_M}
    (h : 0 ≤ (1 : Int) ∧ (1 : Int) < 7 ∧ (am_R ((3 : Int) * (m.1 51 (1 : Int))) ∧ (P ((3 : Int) * (m.1 51 (1 : Int))) m))) :
    am_OkI (d + 1) 61 [.inr (.inr 50)] m P := am_e1 chk_Sieve_length rfl (fun S => h)
theorem f_Sieve_countBits {d : Nat} {P : Int → am_M → Prop}  {m : am_M}
    (h : am_OkI d 61 [.inr (.inr 42)] m (fun z2 m1 => 0 ≤ (2 : Int) ∧ (2 : Int) < 7 ∧ (0 ≤ (3 : Int) ∧ (3 : Int) < 7 ∧ (am_R ((m1.1 43 (2 : Int)) + (m1.1 43 (3 : Int))) ∧ (am_R (z2 * ((m1.1 43 (2 : Int)) + (m1.1 43 (3 : Int)))) ∧ (P (z2 * ((m1.1 43 (2 : Int)) + (m1.1 43 (3 : Int)))) m1)))))) :
    am_OkI (d + 1) 62 [.inr (.inr 42)] m P := am_e1 chk_Sieve_countBits rfl (fun S => h)
theorem f_Sieve_aim {d : Nat} {P : am_M → Prop}  {m : am_M}
    (h : 0 ≤ (0 : Int) ∧ (0 : Int) < 7 ∧ (0 ≤ (1 : Int) ∧ (1 : Int) < 7 ∧ (0 ≤ (2 : Int) ∧ (2 : Int) < 7 ∧ (0 ≤ (4 : Int) ∧ (4 : Int) < 7 ∧ (am_OkV d 17 [.inr (.inr 17), .inl (m.1 43 (0 : Int)), .inl (m.1 43 (1 : Int)), .inl (m.1 43 (2 : Int)), .inl (m.1 43 (4 : Int))] m (fun m1 => P m1)))))) :
    am_OkV (d + 1) 63 [.inr (.inr 42), .inr (.inr 17)] m P := am_e0 chk_Sieve_aim rfl (fun S => h)
theorem f_Sieve_letsThrough {d : Nat} {P : Int → am_M → Prop}  {m : am_M}
    (h : am_OkI d 25 [.inr (.inr 17), .inr (.inr 44)] m (fun z2 m1 => ((m.1 2703 (0 : Int)) ≠ z2 → (((0 : Int) = 0 ∨ (0 : Int) = 1) ∧ P (0 : Int) m1)) ∧ (¬ ((m.1 2703 (0 : Int)) ≠ z2) → (((1 : Int) = 0 ∨ (1 : Int) = 1) ∧ P (1 : Int) m1)))) :
    am_OkI (d + 1) 64 [.inr (.inr 42), .inr (.inr 17)] m P := am_e1 chk_Sieve_letsThrough rfl (fun S => h)
theorem f_Sieve_countUnlike_46_4 {d : Nat} {P : Int → am_M → Prop} {x2 : Int} {x3 : Int} {m : am_M}
    (h : am_OkI d 61 [.inr (.inr 42)] m (fun z2 m1 => (z2 ≤ x3 → (P x2 m1)) ∧ (¬ (z2 ≤ x3) → (0 ≤ x3 ∧ x3 < 96 ∧ (0 ≤ x3 ∧ x3 < 96 ∧ (((m1.1 44 x3) ≠ (m1.1 48 x3) → (am_R (x2 + (1 : Int)) ∧ (am_R (x3 + (1 : Int)) ∧ (am_GI (d + 1) 65 P 4 [(0, .inr (.inr 42)), (1, .inr (.inr 46)), (2, .inl (x2 + (1 : Int))), (3, .inl (x3 + (1 : Int)))] [] m1)))) ∧ (¬ ((m1.1 44 x3) ≠ (m1.1 48 x3)) → (0 ≤ x3 ∧ x3 < 96 ∧ (0 ≤ x3 ∧ x3 < 96 ∧ (((m1.1 45 x3) = (m1.1 49 x3) → (am_R (x3 + (1 : Int)) ∧ (am_GI (d + 1) 65 P 4 [(0, .inr (.inr 42)), (1, .inr (.inr 46)), (2, .inl x2), (3, .inl (x3 + (1 : Int)))] [] m1))) ∧ (¬ ((m1.1 45 x3) = (m1.1 49 x3)) → (am_R (x2 + (1 : Int)) ∧ (am_R (x3 + (1 : Int)) ∧ (am_GI (d + 1) 65 P 4 [(0, .inr (.inr 42)), (1, .inr (.inr 46)), (2, .inl (x2 + (1 : Int))), (3, .inl (x3 + (1 : Int)))] [] m1)))))))))))))) :
    am_GI (d + 1) 65 P 4 [(0, .inr (.inr 42)), (1, .inr (.inr 46)), (2, .inl x2), (3, .inl x3)] [] m := am_c1 chk_Sieve_countUnlike rfl (fun S => h)
theorem f_Sieve_countUnlike_46 {d : Nat} {P : Int → am_M → Prop}  {m : am_M}
    (h : am_GI (d + 1) 65 P 4 [(0, .inr (.inr 42)), (1, .inr (.inr 46)), (2, .inl (0 : Int)), (3, .inl (0 : Int))] [] m) :
    am_OkI (d + 1) 65 [.inr (.inr 42), .inr (.inr 46)] m P := am_e1 chk_Sieve_countUnlike rfl (fun S => h)
theorem f_Sieve_countUnlike_50_4 {d : Nat} {P : Int → am_M → Prop} {x2 : Int} {x3 : Int} {m : am_M}
    (h : am_OkI d 61 [.inr (.inr 42)] m (fun z2 m1 => (z2 ≤ x3 → (P x2 m1)) ∧ (¬ (z2 ≤ x3) → (0 ≤ x3 ∧ x3 < 96 ∧ (0 ≤ x3 ∧ x3 < 96 ∧ (((m1.1 44 x3) ≠ (m1.1 52 x3) → (am_R (x2 + (1 : Int)) ∧ (am_R (x3 + (1 : Int)) ∧ (am_GI (d + 1) 65 P 4 [(0, .inr (.inr 42)), (1, .inr (.inr 50)), (2, .inl (x2 + (1 : Int))), (3, .inl (x3 + (1 : Int)))] [] m1)))) ∧ (¬ ((m1.1 44 x3) ≠ (m1.1 52 x3)) → (0 ≤ x3 ∧ x3 < 96 ∧ (0 ≤ x3 ∧ x3 < 96 ∧ (((m1.1 45 x3) = (m1.1 53 x3) → (am_R (x3 + (1 : Int)) ∧ (am_GI (d + 1) 65 P 4 [(0, .inr (.inr 42)), (1, .inr (.inr 50)), (2, .inl x2), (3, .inl (x3 + (1 : Int)))] [] m1))) ∧ (¬ ((m1.1 45 x3) = (m1.1 53 x3)) → (am_R (x2 + (1 : Int)) ∧ (am_R (x3 + (1 : Int)) ∧ (am_GI (d + 1) 65 P 4 [(0, .inr (.inr 42)), (1, .inr (.inr 50)), (2, .inl (x2 + (1 : Int))), (3, .inl (x3 + (1 : Int)))] [] m1)))))))))))))) :
    am_GI (d + 1) 65 P 4 [(0, .inr (.inr 42)), (1, .inr (.inr 50)), (2, .inl x2), (3, .inl x3)] [] m := am_c1 chk_Sieve_countUnlike rfl (fun S => h)
theorem f_Sieve_countUnlike_50 {d : Nat} {P : Int → am_M → Prop}  {m : am_M}
    (h : am_GI (d + 1) 65 P 4 [(0, .inr (.inr 42)), (1, .inr (.inr 50)), (2, .inl (0 : Int)), (3, .inl (0 : Int))] [] m) :
    am_OkI (d + 1) 65 [.inr (.inr 42), .inr (.inr 50)] m P := am_e1 chk_Sieve_countUnlike rfl (fun S => h)
theorem f_Tape_append_3 {d : Nat} {P : am_M → Prop} {x1 : Int} {x2 : Int} {m : am_M}
    (h : (x2 < (0 : Int) → (P m)) ∧ (¬ (x2 < (0 : Int)) → (((600 : Int) ≤ (m.1 1101 (0 : Int)) → (P m)) ∧ (¬ ((600 : Int) ≤ (m.1 1101 (0 : Int))) → (0 ≤ (m.1 1101 (0 : Int)) ∧ (m.1 1101 (0 : Int)) < 600 ∧ (-128 ≤ (am_i2b (am_shr x1 x2)) ∧ (am_i2b (am_shr x1 x2)) ≤ 127) ∧ (am_R ((m.1 1101 (0 : Int)) + (1 : Int)) ∧ (am_R (x2 + (-8 : Int)) ∧ (am_GV (d + 1) 66 P 3 [(0, .inr (.inr 1)), (1, .inl x1), (2, .inl (x2 + (-8 : Int)))] [] (am_wr (am_wr m 2 (m.1 1101 (0 : Int)) (am_i2b (am_shr x1 x2))) 1101 (0 : Int) ((m.1 1101 (0 : Int)) + (1 : Int))))))))))) :
    am_GV (d + 1) 66 P 3 [(0, .inr (.inr 1)), (1, .inl x1), (2, .inl x2)] [] m := am_c0 chk_Tape_append rfl (fun S => h)
theorem f_Tape_append {d : Nat} {P : am_M → Prop} {x1 : Int} {m : am_M}
    (h : am_GV (d + 1) 66 P 3 [(0, .inr (.inr 1)), (1, .inl x1), (2, .inl (24 : Int))] [] m) :
    am_OkV (d + 1) 66 [.inr (.inr 1), .inl x1] m P := am_e0 chk_Tape_append rfl (fun S => h)
theorem f_Tape_rewind {d : Nat} {P : am_M → Prop}  {m : am_M}
    (h : am_OkV d 68 [.inr (.inr 1)] (am_wr m 1104 (0 : Int) (0 : Int)) (fun m1 => P m1)) :
    am_OkV (d + 1) 67 [.inr (.inr 1)] m P := am_e0 chk_Tape_rewind rfl (fun S => h)
theorem f_Tape_step_8 {d : Nat} {P : am_M → Prop}  {m : am_M}
    (h : ((m.1 1101 (0 : Int)) ≤ (m.1 1103 (0 : Int)) → (((m.1 1103 (0 : Int)) < (m.1 1101 (0 : Int)) → (0 ≤ (m.1 1103 (0 : Int)) ∧ (m.1 1103 (0 : Int)) < 600 ∧ (am_OkI d 72 [.inl (m.1 2 (m.1 1103 (0 : Int)))] (am_wr m 1104 (0 : Int) (m.1 1103 (0 : Int))) (fun z2 m1 => (z2 = (0 : Int) → (0 ≤ (m1.1 1103 (0 : Int)) ∧ (m1.1 1103 (0 : Int)) < 600 ∧ (am_OkI d 73 [.inl (m1.1 2 (m1.1 1103 (0 : Int)))] m1 (fun z4 m3 => (z4 = (0 : Int) → (0 ≤ (m3.1 1103 (0 : Int)) ∧ (m3.1 1103 (0 : Int)) < 600 ∧ (((m3.1 2 (m3.1 1103 (0 : Int))) ≠ (59 : Int) → (am_R ((m3.1 1104 (0 : Int)) + (1 : Int)) ∧ (P (am_wr (am_wr m3 1102 (0 : Int) (4 : Int)) 1104 (0 : Int) ((m3.1 1104 (0 : Int)) + (1 : Int)))))) ∧ (¬ ((m3.1 2 (m3.1 1103 (0 : Int))) ≠ (59 : Int)) → (am_R ((m3.1 1104 (0 : Int)) + (1 : Int)) ∧ (P (am_wr (am_wr m3 1102 (0 : Int) (3 : Int)) 1104 (0 : Int) ((m3.1 1104 (0 : Int)) + (1 : Int))))))))) ∧ (¬ (z4 = (0 : Int)) → (am_OkV d 70 [.inr (.inr 1)] m3 (fun m5 => P m5))))))) ∧ (¬ (z2 = (0 : Int)) → (am_OkV d 69 [.inr (.inr 1)] m1 (fun m6 => P m6))))))) ∧ (¬ ((m.1 1103 (0 : Int)) < (m.1 1101 (0 : Int))) → (P (am_wr (am_wr m 1104 (0 : Int) (m.1 1103 (0 : Int))) 1102 (0 : Int) (0 : Int)))))) ∧ (¬ ((m.1 1101 (0 : Int)) ≤ (m.1 1103 (0 : Int))) → (0 ≤ (m.1 1103 (0 : Int)) ∧ (m.1 1103 (0 : Int)) < 600 ∧ (((m.1 2 (m.1 1103 (0 : Int))) = (32 : Int) → (am_R ((m.1 1103 (0 : Int)) + (1 : Int)) ∧ (am_GV (d + 1) 68 P 8 [(0, .inr (.inr 1))] [] (am_wr m 1103 (0 : Int) ((m.1 1103 (0 : Int)) + (1 : Int)))))) ∧ (¬ ((m.1 2 (m.1 1103 (0 : Int))) = (32 : Int)) → (0 ≤ (m.1 1103 (0 : Int)) ∧ (m.1 1103 (0 : Int)) < 600 ∧ (((m.1 2 (m.1 1103 (0 : Int))) ≠ (10 : Int) → (((m.1 1103 (0 : Int)) < (m.1 1101 (0 : Int)) → (0 ≤ (m.1 1103 (0 : Int)) ∧ (m.1 1103 (0 : Int)) < 600 ∧ (am_OkI d 72 [.inl (m.1 2 (m.1 1103 (0 : Int)))] (am_wr m 1104 (0 : Int) (m.1 1103 (0 : Int))) (fun z8 m7 => (z8 = (0 : Int) → (0 ≤ (m7.1 1103 (0 : Int)) ∧ (m7.1 1103 (0 : Int)) < 600 ∧ (am_OkI d 73 [.inl (m7.1 2 (m7.1 1103 (0 : Int)))] m7 (fun z10 m9 => (z10 = (0 : Int) → (0 ≤ (m9.1 1103 (0 : Int)) ∧ (m9.1 1103 (0 : Int)) < 600 ∧ (((m9.1 2 (m9.1 1103 (0 : Int))) ≠ (59 : Int) → (am_R ((m9.1 1104 (0 : Int)) + (1 : Int)) ∧ (P (am_wr (am_wr m9 1102 (0 : Int) (4 : Int)) 1104 (0 : Int) ((m9.1 1104 (0 : Int)) + (1 : Int)))))) ∧ (¬ ((m9.1 2 (m9.1 1103 (0 : Int))) ≠ (59 : Int)) → (am_R ((m9.1 1104 (0 : Int)) + (1 : Int)) ∧ (P (am_wr (am_wr m9 1102 (0 : Int) (3 : Int)) 1104 (0 : Int) ((m9.1 1104 (0 : Int)) + (1 : Int))))))))) ∧ (¬ (z10 = (0 : Int)) → (am_OkV d 70 [.inr (.inr 1)] m9 (fun m11 => P m11))))))) ∧ (¬ (z8 = (0 : Int)) → (am_OkV d 69 [.inr (.inr 1)] m7 (fun m12 => P m12))))))) ∧ (¬ ((m.1 1103 (0 : Int)) < (m.1 1101 (0 : Int))) → (P (am_wr (am_wr m 1104 (0 : Int) (m.1 1103 (0 : Int))) 1102 (0 : Int) (0 : Int)))))) ∧ (¬ ((m.1 2 (m.1 1103 (0 : Int))) ≠ (10 : Int)) → (am_R ((m.1 1103 (0 : Int)) + (1 : Int)) ∧ (am_GV (d + 1) 68 P 8 [(0, .inr (.inr 1))] [] (am_wr m 1103 (0 : Int) ((m.1 1103 (0 : Int)) + (1 : Int))))))))))))) :
    am_GV (d + 1) 68 P 8 [(0, .inr (.inr 1))] [] m := am_c0 chk_Tape_step rfl (fun S => h)
theorem f_Tape_step {d : Nat} {P : am_M → Prop}  {m : am_M}
    (h : am_GV (d + 1) 68 P 8 [(0, .inr (.inr 1))] [] (am_wr m 1103 (0 : Int) (m.1 1104 (0 : Int)))) :
    am_OkV (d + 1) 68 [.inr (.inr 1)] m P := am_e0 chk_Tape_step rfl (fun S => h)
theorem f_Tape_takeWord_0 {d : Nat} {P : am_M → Prop}  {m : am_M}
    (h : ((m.1 1101 (0 : Int)) ≤ (m.1 1104 (0 : Int)) → (am_R ((m.1 1104 (0 : Int)) - (m.1 1103 (0 : Int))) ∧ (((6 : Int) < ((m.1 1104 (0 : Int)) - (m.1 1103 (0 : Int))) → (P (am_wr m 1102 (0 : Int) (4 : Int)))) ∧ (¬ ((6 : Int) < ((m.1 1104 (0 : Int)) - (m.1 1103 (0 : Int)))) → (P (am_wr m 1102 (0 : Int) (1 : Int))))))) ∧ (¬ ((m.1 1101 (0 : Int)) ≤ (m.1 1104 (0 : Int))) → (0 ≤ (m.1 1104 (0 : Int)) ∧ (m.1 1104 (0 : Int)) < 600 ∧ (am_OkI d 72 [.inl (m.1 2 (m.1 1104 (0 : Int)))] m (fun z2 m1 => (z2 = (0 : Int) → (am_R ((m1.1 1104 (0 : Int)) - (m1.1 1103 (0 : Int))) ∧ (((6 : Int) < ((m1.1 1104 (0 : Int)) - (m1.1 1103 (0 : Int))) → (P (am_wr m1 1102 (0 : Int) (4 : Int)))) ∧ (¬ ((6 : Int) < ((m1.1 1104 (0 : Int)) - (m1.1 1103 (0 : Int)))) → (P (am_wr m1 1102 (0 : Int) (1 : Int))))))) ∧ (¬ (z2 = (0 : Int)) → (am_R ((m1.1 1104 (0 : Int)) + (1 : Int)) ∧ (am_GV (d + 1) 69 P 0 [(0, .inr (.inr 1))] [] (am_wr m1 1104 (0 : Int) ((m1.1 1104 (0 : Int)) + (1 : Int))))))))))) :
    am_GV (d + 1) 69 P 0 [(0, .inr (.inr 1))] [] m := am_c0 chk_Tape_takeWord rfl (fun S => h)
theorem f_Tape_takeWord {d : Nat} {P : am_M → Prop}  {m : am_M}
    (h : am_GV (d + 1) 69 P 0 [(0, .inr (.inr 1))] [] m) :
    am_OkV (d + 1) 69 [.inr (.inr 1)] m P := am_e0 chk_Tape_takeWord rfl (fun S => h)
theorem f_Tape_takeNumber_0 {d : Nat} {P : am_M → Prop}  {m : am_M}
    (h : ((m.1 1101 (0 : Int)) ≤ (m.1 1104 (0 : Int)) → (am_R ((m.1 1104 (0 : Int)) - (m.1 1103 (0 : Int))) ∧ (((9 : Int) < ((m.1 1104 (0 : Int)) - (m.1 1103 (0 : Int))) → (((4 : Int) ≠ (2 : Int) → (P (am_wr (am_wr m 1102 (0 : Int) (4 : Int)) 1105 (0 : Int) (0 : Int)))) ∧ (¬ ((4 : Int) ≠ (2 : Int)) → (am_GV (d + 1) 70 P 80 [(0, .inr (.inr 1)), (1, .inl (m.1 1103 (0 : Int)))] [] (am_wr (am_wr m 1102 (0 : Int) (4 : Int)) 1105 (0 : Int) (0 : Int)))))) ∧ (¬ ((9 : Int) < ((m.1 1104 (0 : Int)) - (m.1 1103 (0 : Int)))) → (((2 : Int) ≠ (2 : Int) → (P (am_wr (am_wr m 1102 (0 : Int) (2 : Int)) 1105 (0 : Int) (0 : Int)))) ∧ (¬ ((2 : Int) ≠ (2 : Int)) → (am_GV (d + 1) 70 P 80 [(0, .inr (.inr 1)), (1, .inl (m.1 1103 (0 : Int)))] [] (am_wr (am_wr m 1102 (0 : Int) (2 : Int)) 1105 (0 : Int) (0 : Int))))))))) ∧ (¬ ((m.1 1101 (0 : Int)) ≤ (m.1 1104 (0 : Int))) → (0 ≤ (m.1 1104 (0 : Int)) ∧ (m.1 1104 (0 : Int)) < 600 ∧ (am_OkI d 73 [.inl (m.1 2 (m.1 1104 (0 : Int)))] m (fun z2 m1 => (z2 = (0 : Int) → (am_R ((m1.1 1104 (0 : Int)) - (m1.1 1103 (0 : Int))) ∧ (((9 : Int) < ((m1.1 1104 (0 : Int)) - (m1.1 1103 (0 : Int))) → (((4 : Int) ≠ (2 : Int) → (P (am_wr (am_wr m1 1102 (0 : Int) (4 : Int)) 1105 (0 : Int) (0 : Int)))) ∧ (¬ ((4 : Int) ≠ (2 : Int)) → (am_GV (d + 1) 70 P 80 [(0, .inr (.inr 1)), (1, .inl (m1.1 1103 (0 : Int)))] [] (am_wr (am_wr m1 1102 (0 : Int) (4 : Int)) 1105 (0 : Int) (0 : Int)))))) ∧ (¬ ((9 : Int) < ((m1.1 1104 (0 : Int)) - (m1.1 1103 (0 : Int)))) → (((2 : Int) ≠ (2 : Int) → (P (am_wr (am_wr m1 1102 (0 : Int) (2 : Int)) 1105 (0 : Int) (0 : Int)))) ∧ (¬ ((2 : Int) ≠ (2 : Int)) → (am_GV (d + 1) 70 P 80 [(0, .inr (.inr 1)), (1, .inl (m1.1 1103 (0 : Int)))] [] (am_wr (am_wr m1 1102 (0 : Int) (2 : Int)) 1105 (0 : Int) (0 : Int))))))))) ∧ (¬ (z2 = (0 : Int)) → (am_R ((m1.1 1104 (0 : Int)) + (1 : Int)) ∧ (am_GV (d + 1) 70 P 0 [(0, .inr (.inr 1))] [] (am_wr m1 1104 (0 : Int) ((m1.1 1104 (0 : Int)) + (1 : Int))))))))))) :
    am_GV (d + 1) 70 P 0 [(0, .inr (.inr 1))] [] m := am_c0 chk_Tape_takeNumber rfl (fun S => h)
theorem f_Tape_takeNumber_80 {d : Nat} {P : am_M → Prop} {x1 : Int} {m : am_M}
    (h : ((m.1 1104 (0 : Int)) ≤ x1 → (P m)) ∧ (¬ ((m.1 1104 (0 : Int)) ≤ x1) → (am_R ((10 : Int) * (m.1 1105 (0 : Int))) ∧ (0 ≤ x1 ∧ x1 < 600 ∧ (am_R (((10 : Int) * (m.1 1105 (0 : Int))) + (m.1 2 x1)) ∧ (am_R ((((10 : Int) * (m.1 1105 (0 : Int))) + (m.1 2 x1)) - (48 : Int)) ∧ (am_R (x1 + (1 : Int)) ∧ (am_GV (d + 1) 70 P 80 [(0, .inr (.inr 1)), (1, .inl (x1 + (1 : Int)))] [] (am_wr m 1105 (0 : Int) ((((10 : Int) * (m.1 1105 (0 : Int))) + (m.1 2 x1)) - (48 : Int))))))))))) :
    am_GV (d + 1) 70 P 80 [(0, .inr (.inr 1)), (1, .inl x1)] [] m := am_c0 chk_Tape_takeNumber rfl (fun S => h)
theorem f_Tape_takeNumber {d : Nat} {P : am_M → Prop}  {m : am_M}
    (h : am_GV (d + 1) 70 P 0 [(0, .inr (.inr 1))] [] m) :
    am_OkV (d + 1) 70 [.inr (.inr 1)] m P := am_e0 chk_Tape_takeNumber rfl (fun S => h)
theorem f_Tape_isWord_28 {d : Nat} {P : Int → am_M → Prop} {q : Nat} {x2 : Int} {m : am_M}
    (h : (1000 ≤ q ∧ q < 1014) ∧ am_OkI d 197 [.inr (.inr q)] m (fun z2 m1 => (z2 ≤ x2 → (((1 : Int) = 0 ∨ (1 : Int) = 1) ∧ P (1 : Int) m1)) ∧ (¬ (z2 ≤ x2) → (am_R ((m1.1 1103 (0 : Int)) + x2) ∧ (0 ≤ ((m1.1 1103 (0 : Int)) + x2) ∧ ((m1.1 1103 (0 : Int)) + x2) < 600 ∧ ((1000 ≤ q ∧ q < 1014) ∧ am_OkI d 198 [.inr (.inr q), .inl x2] m1 (fun z4 m3 => ((m1.1 2 ((m1.1 1103 (0 : Int)) + x2)) = z4 → (am_R (x2 + (1 : Int)) ∧ (am_GI (d + 1) 71 P 28 [(0, .inr (.inr 1)), (1, .inr (.inr q)), (2, .inl (x2 + (1 : Int)))] [] m3))) ∧ (¬ ((m1.1 2 ((m1.1 1103 (0 : Int)) + x2)) = z4) → (((0 : Int) = 0 ∨ (0 : Int) = 1) ∧ P (0 : Int) m3))))))))) :
    am_GI (d + 1) 71 P 28 [(0, .inr (.inr 1)), (1, .inr (.inr q)), (2, .inl x2)] [] m := am_c1 chk_Tape_isWord rfl (fun S => h)
theorem f_Tape_isWord {d : Nat} {P : Int → am_M → Prop} {q : Nat} {m : am_M}
    (h : ((m.1 1102 (0 : Int)) ≠ (1 : Int) → (((0 : Int) = 0 ∨ (0 : Int) = 1) ∧ P (0 : Int) m)) ∧ (¬ ((m.1 1102 (0 : Int)) ≠ (1 : Int)) → (am_R ((m.1 1104 (0 : Int)) - (m.1 1103 (0 : Int))) ∧ ((1000 ≤ q ∧ q < 1014) ∧ am_OkI d 197 [.inr (.inr q)] m (fun z2 m1 => (((m.1 1104 (0 : Int)) - (m.1 1103 (0 : Int))) = z2 → (am_GI (d + 1) 71 P 28 [(0, .inr (.inr 1)), (1, .inr (.inr q)), (2, .inl (0 : Int))] [] m1)) ∧ (¬ (((m.1 1104 (0 : Int)) - (m.1 1103 (0 : Int))) = z2) → (((0 : Int) = 0 ∨ (0 : Int) = 1) ∧ P (0 : Int) m1))))))) :
    am_OkI (d + 1) 71 [.inr (.inr 1), .inr (.inr q)] m P := am_e1 chk_Tape_isWord rfl (fun S => h)
theorem f_Tape_isLetter {d : Nat} {P : Int → am_M → Prop} {x0 : Int} {m : am_M}
    (h : (x0 < (97 : Int) → (((0 : Int) = 0 ∨ (0 : Int) = 1) ∧ P (0 : Int) m)) ∧ (¬ (x0 < (97 : Int)) → (((122 : Int) < x0 → (((0 : Int) = 0 ∨ (0 : Int) = 1) ∧ P (0 : Int) m)) ∧ (¬ ((122 : Int) < x0) → (((1 : Int) = 0 ∨ (1 : Int) = 1) ∧ P (1 : Int) m))))) :
    am_OkI (d + 1) 72 [.inl x0] m P := am_e1 chk_Tape_isLetter rfl (fun S => h)
theorem f_Tape_isDigit {d : Nat} {P : Int → am_M → Prop} {x0 : Int} {m : am_M}
    (h : (x0 < (48 : Int) → (((0 : Int) = 0 ∨ (0 : Int) = 1) ∧ P (0 : Int) m)) ∧ (¬ (x0 < (48 : Int)) → (((57 : Int) < x0 → (((0 : Int) = 0 ∨ (0 : Int) = 1) ∧ P (0 : Int) m)) ∧ (¬ ((57 : Int) < x0) → (((1 : Int) = 0 ∨ (1 : Int) = 1) ∧ P (1 : Int) m))))) :
    am_OkI (d + 1) 73 [.inl x0] m P := am_e1 chk_Tape_isDigit rfl (fun S => h)
theorem f_T_feed {d : Nat} {P : Int → am_M → Prop} {x1 : Int} {x2 : Int} {x3 : Int} {x4 : Int} {x5 : Int} {m : am_M}
    (h : ((m.1 1101 (0 : Int)) ≤ (580 : Int) → (am_OkV d 66 [.inr (.inr 1), .inl x1] m (fun m1 => am_OkV d 66 [.inr (.inr 1), .inl x2] m1 (fun m2 => am_OkV d 66 [.inr (.inr 1), .inl x3] m2 (fun m3 => am_OkV d 66 [.inr (.inr 1), .inl x4] m3 (fun m4 => am_OkV d 66 [.inr (.inr 1), .inl x5] m4 (fun m5 => P (m5.1 1101 (0 : Int)) m5))))))) ∧ (¬ ((m.1 1101 (0 : Int)) ≤ (580 : Int)) → (P (-1 : Int) m))) :
    am_OkI (d + 1) 74 [.inr (.inr 0), .inl x1, .inl x2, .inl x3, .inl x4, .inl x5] m P := am_e1 chk_T_feed rfl (fun S => h)
theorem f_T_end {d : Nat} {P : Int → am_M → Prop} {x1 : Int} {m : am_M}
    (h : (x1 < (0 : Int) → (((0 : Int) = 0 ∨ (0 : Int) = 1) ∧ P (0 : Int) m)) ∧ (¬ (x1 < (0 : Int)) → ((x1 ≤ (m.1 1101 (0 : Int)) → (((1 : Int) = 0 ∨ (1 : Int) = 1) ∧ P (1 : Int) (am_wr m 1101 (0 : Int) x1))) ∧ (¬ (x1 ≤ (m.1 1101 (0 : Int))) → (((0 : Int) = 0 ∨ (0 : Int) = 1) ∧ P (0 : Int) m))))) :
    am_OkI (d + 1) 75 [.inr (.inr 0), .inl x1] m P := am_e1 chk_T_end rfl (fun S => h)
theorem f_T_text_61 {d : Nat} {P : Int → am_M → Prop} {x2 : Int} {m : am_M}
    (h : ((2 : Int) ≤ x2 → (P (m.1 1403 (0 : Int)) m)) ∧ (¬ ((2 : Int) ≤ x2) → (0 ≤ x2 ∧ x2 < 2 ∧ (x2 = 0 → (((0 : Int) = 0 ∨ (0 : Int) = 1) ∧ (am_R (x2 + (1 : Int)) ∧ (am_GI (d + 1) 76 P 61 [(0, .inr (.inr 0)), (2, .inl (x2 + (1 : Int)))] [] (am_wr m 5603 (0 : Int) (0 : Int)))))) ∧ (x2 = 1 → (((0 : Int) = 0 ∨ (0 : Int) = 1) ∧ (am_R (x2 + (1 : Int)) ∧ (am_GI (d + 1) 76 P 61 [(0, .inr (.inr 0)), (2, .inl (x2 + (1 : Int)))] [] (am_wr m 6003 (0 : Int) (0 : Int)))))) ∧ True))) :
    am_GI (d + 1) 76 P 61 [(0, .inr (.inr 0)), (2, .inl x2)] [] m := am_c1 chk_T_text rfl (fun S => h)
theorem f_T_text {d : Nat} {P : Int → am_M → Prop}  {m : am_M}
    (h : am_OkI d 39 [.inr (.inr 3), .inr (.inr 1), .inr (.inr 8)] m (fun z2 m1 => (z2 = (0 : Int) → (am_OkV d 6 [.inr (.inr 4), .inr (.inr 8)] (am_wr m1 1101 (0 : Int) (0 : Int)) (fun m3 => am_OkV d 0 [.inr (.inr 12)] m3 (fun m4 => ((0 : Int) = 0 ∨ (0 : Int) = 1) ∧ (am_GI (d + 1) 76 P 61 [(0, .inr (.inr 0)), (2, .inl (0 : Int))] [] (am_wr m4 5203 (0 : Int) (0 : Int))))))) ∧ (¬ (z2 = (0 : Int)) → (am_R ((-2 : Int) - z2) ∧ (P ((-2 : Int) - z2) (am_wr m1 1101 (0 : Int) (0 : Int))))))) :
    am_OkI (d + 1) 76 [.inr (.inr 0)] m P := am_e1 chk_T_text rfl (fun S => h)
theorem f_T_worth {d : Nat} {P : Int → am_M → Prop} {x1 : Int} {m : am_M}
    (h : am_OkI d 7 [.inr (.inr 4), .inl x1] m (fun z2 m1 => (z2 = (0 : Int) → (P (-1 : Int) m1)) ∧ (¬ (z2 = (0 : Int)) → (0 ≤ x1 ∧ x1 < 48 ∧ (P (m1.1 6 x1) m1))))) :
    am_OkI (d + 1) 78 [.inr (.inr 0), .inl x1] m P := am_e1 chk_T_worth rfl (fun S => h)
theorem f_T_add {d : Nat} {P : Int → am_M → Prop} {x1 : Int64} {x3 : Int} {m : am_M}
    (h : ((48 : Int) ≤ (m.1 1403 (0 : Int)) → (P (-1 : Int) m)) ∧ (¬ ((48 : Int) ≤ (m.1 1403 (0 : Int))) → (am_OkI d 13 [.inr (.inr 4), .inl x3] m (fun z2 m1 => (z2 ≠ (0 : Int) → (am_OkI d 8 [.inr (.inr 4), .inr (.inl x1)] m1 (fun z4 m3 => (z4 = (-1 : Int) → (am_OkV d 1 [.inr (.inr 12), .inl (0 : Int), .inl (m3.1 1403 (0 : Int)), .inr (.inl x1), .inl x3] m3 (fun m5 => am_OkV d 9 [.inr (.inr 4), .inl (m5.1 1403 (0 : Int)), .inr (.inl x1), .inl x3] m5 (fun m6 => P (m6.1 1403 (0 : Int)) m6)))) ∧ (¬ (z4 = (-1 : Int)) → (P (-2 : Int) m3))))) ∧ (¬ (z2 ≠ (0 : Int)) → (P (-1 : Int) m1)))))) :
    am_OkI (d + 1) 79 [.inr (.inr 0), .inr (.inl x1), .inl x3] m P := am_e1 chk_T_add rfl (fun S => h)
theorem f_T_gone {d : Nat} {P : Int → am_M → Prop} {x1 : Int64} {m : am_M}
    (h : am_OkI d 8 [.inr (.inr 4), .inr (.inl x1)] m (fun z2 m1 => (z2 ≠ (-1 : Int) → (0 ≤ z2 ∧ z2 < 48 ∧ (am_OkV d 1 [.inr (.inr 12), .inl (1 : Int), .inl z2, .inr (.inl x1), .inl (m1.1 6 z2)] m1 (fun m3 => am_OkV d 10 [.inr (.inr 4), .inl z2] m3 (fun m4 => P z2 m4))))) ∧ (¬ (z2 ≠ (-1 : Int)) → (P (-1 : Int) m1)))) :
    am_OkI (d + 1) 80 [.inr (.inr 0), .inr (.inl x1)] m P := am_e1 chk_T_gone rfl (fun S => h)
theorem f_T_turn {d : Nat} {P : Int → am_M → Prop} {x1 : Int} {x2 : Int} {m : am_M}
    (h : am_OkI d 7 [.inr (.inr 4), .inl x1] m (fun z2 m1 => (z2 = (0 : Int) → (P (-1 : Int) m1)) ∧ (¬ (z2 = (0 : Int)) → (am_OkI d 13 [.inr (.inr 4), .inl x2] m1 (fun z4 m3 => (z4 ≠ (0 : Int) → (0 ≤ x1 ∧ x1 < 48 ∧ (0 ≤ x1 ∧ x1 < 48 ∧ (am_OkV d 1 [.inr (.inr 12), .inl (2 : Int), .inl x1, .inr (.inl (m3.2 5 x1)), .inl (m3.1 6 x1)] m3 (fun m5 => am_OkV d 11 [.inr (.inr 4), .inl x1, .inl x2] m5 (fun m6 => P (m3.1 6 x1) m6)))))) ∧ (¬ (z4 ≠ (0 : Int)) → (P (-1 : Int) m3))))))) :
    am_OkI (d + 1) 81 [.inr (.inr 0), .inl x1, .inl x2] m P := am_e1 chk_T_turn rfl (fun S => h)
theorem f_T_set {d : Nat} {P : Int → am_M → Prop} {x1 : Int} {x2 : Int} {m : am_M}
    (h : am_OkI d 15 [.inl x1, .inl x2] m (fun z2 m1 => (z2 = (0 : Int) → (P (-1 : Int) m1)) ∧ (¬ (z2 = (0 : Int)) → ((x1 ≠ (3 : Int) → (0 ≤ x1 ∧ x1 < 7 ∧ (am_OkV d 1 [.inr (.inr 12), .inl (3 : Int), .inl x1, .inr (.inl (Int64.ofNat 0)), .inl (m1.1 7 x1)] m1 (fun m3 => am_OkV d 12 [.inr (.inr 4), .inl x1, .inl x2] m3 (fun m4 => P (m1.1 7 x1) m4))))) ∧ (¬ (x1 ≠ (3 : Int)) → (am_OkI d 14 [.inr (.inr 4), .inl x2] m1 (fun z6 m5 => (z6 ≠ (0 : Int) → (0 ≤ x1 ∧ x1 < 7 ∧ (am_OkV d 1 [.inr (.inr 12), .inl (3 : Int), .inl x1, .inr (.inl (Int64.ofNat 0)), .inl (m5.1 7 x1)] m5 (fun m7 => am_OkV d 12 [.inr (.inr 4), .inl x1, .inl x2] m7 (fun m8 => P (m5.1 7 x1) m8))))) ∧ (¬ (z6 ≠ (0 : Int)) → (P (-1 : Int) m5))))))))) :
    am_OkI (d + 1) 82 [.inr (.inr 0), .inl x1, .inl x2] m P := am_e1 chk_T_set rfl (fun S => h)
theorem f_T_hash {d : Nat} {P : Int64 → am_M → Prop} {x1 : Int64} {x3 : Int} {m : am_M}
    (h : am_OkL d 16 [.inr (.inl (am_i2l x3))] m (fun w2 m1 => am_OkL d 16 [.inr (.inl (x1 + w2))] m1 (fun w4 m3 => P w4 m3))) :
    am_OkL (d + 1) 83 [.inr (.inr 0), .inr (.inl x1), .inl x3] m P := am_e2 chk_T_hash rfl (fun S => h)
theorem f_T_cell {d : Nat} {P : Int → am_M → Prop} {x1 : Int64} {x3 : Int} {m : am_M}
    (h : (x3 < (0 : Int) → (P (-1 : Int) m)) ∧ (¬ (x3 < (0 : Int)) → ((x3 ≤ (2 : Int) → (am_OkV d 107 [.inr (.inr 0), .inr (.inl x1)] m (fun m1 => 0 ≤ x3 ∧ x3 < 3 ∧ (P (m1.1 18 x3) m1)))) ∧ (¬ (x3 ≤ (2 : Int)) → (P (-1 : Int) m))))) :
    am_OkI (d + 1) 84 [.inr (.inr 0), .inr (.inl x1), .inl x3] m P := am_e1 chk_T_cell rfl (fun S => h)
theorem f_T_print {d : Nat} {P : Int → am_M → Prop} {x1 : Int64} {m : am_M}
    (h : am_OkV d 107 [.inr (.inr 0), .inr (.inl x1)] m (fun m1 => P (m1.1 2703 (0 : Int)) m1)) :
    am_OkI (d + 1) 85 [.inr (.inr 0), .inr (.inl x1)] m P := am_e1 chk_T_print rfl (fun S => h)
theorem f_T_load {d : Nat} {P : Int → am_M → Prop} {x1 : Int} {m : am_M}
    (h : (x1 < (0 : Int) → (P (-1 : Int) m)) ∧ (¬ (x1 < (0 : Int)) → (0 ≤ (1 : Int) ∧ (1 : Int) < 7 ∧ (am_R ((3 : Int) * (m.1 7 (1 : Int))) ∧ ((x1 < ((3 : Int) * (m.1 7 (1 : Int))) → (am_OkV d 108 [.inr (.inr 0)] m (fun m1 => 0 ≤ x1 ∧ x1 < 96 ∧ (P (m1.1 25 x1) m1)))) ∧ (¬ (x1 < ((3 : Int) * (m.1 7 (1 : Int)))) → (P (-1 : Int) m))))))) :
    am_OkI (d + 1) 86 [.inr (.inr 0), .inl x1] m P := am_e1 chk_T_load rfl (fun S => h)
theorem f_T_twins_8 {d : Nat} {P : Int → am_M → Prop} {x1 : Int} {x2 : Int} {m : am_M}
    (h : ((m.1 3006 (0 : Int)) ≤ x2 → (P x1 m)) ∧ (¬ ((m.1 3006 (0 : Int)) ≤ x2) → (am_GI (d + 1) 87 P 21 [(0, .inr (.inr 0)), (1, .inl x1), (2, .inl x2), (3, .inl (0 : Int))] [] m))) :
    am_GI (d + 1) 87 P 8 [(0, .inr (.inr 0)), (1, .inl x1), (2, .inl x2)] [] m := am_c1 chk_T_twins rfl (fun S => h)
theorem f_T_twins_21 {d : Nat} {P : Int → am_M → Prop} {x1 : Int} {x2 : Int} {x3 : Int} {m : am_M}
    (h : (x2 ≤ x3 → (am_R (x2 + (1 : Int)) ∧ (am_GI (d + 1) 87 P 8 [(0, .inr (.inr 0)), (1, .inl x1), (2, .inl (x2 + (1 : Int)))] [] m))) ∧ (¬ (x2 ≤ x3) → (am_OkI d 58 [.inr (.inr 20), .inl x3, .inl x2] m (fun z2 m1 => (z2 = (0 : Int) → (am_R (x3 + (1 : Int)) ∧ (am_GI (d + 1) 87 P 21 [(0, .inr (.inr 0)), (1, .inl x1), (2, .inl x2), (3, .inl (x3 + (1 : Int)))] [] m1))) ∧ (¬ (z2 = (0 : Int)) → (am_R (x1 + (1 : Int)) ∧ (am_R (x3 + (1 : Int)) ∧ (am_GI (d + 1) 87 P 21 [(0, .inr (.inr 0)), (1, .inl (x1 + (1 : Int))), (2, .inl x2), (3, .inl (x3 + (1 : Int)))] [] m1)))))))) :
    am_GI (d + 1) 87 P 21 [(0, .inr (.inr 0)), (1, .inl x1), (2, .inl x2), (3, .inl x3)] [] m := am_c1 chk_T_twins rfl (fun S => h)
theorem f_T_twins {d : Nat} {P : Int → am_M → Prop}  {m : am_M}
    (h : am_OkV d 108 [.inr (.inr 0)] m (fun m1 => am_GI (d + 1) 87 P 8 [(0, .inr (.inr 0)), (1, .inl (0 : Int)), (2, .inl (1 : Int))] [] m1)) :
    am_OkI (d + 1) 87 [.inr (.inr 0)] m P := am_e1 chk_T_twins rfl (fun S => h)
theorem f_T_peel {d : Nat} {P : Int → am_M → Prop} {x1 : Int} {x2 : Int} {m : am_M}
    (h : am_OkV d 109 [.inr (.inr 0)] m (fun m1 => (x1 ≠ (-1 : Int) → ((x1 < (0 : Int) → (P (-1 : Int) m1)) ∧ (¬ (x1 < (0 : Int)) → (((m1.1 3702 (0 : Int)) ≤ x1 → (P (-1 : Int) m1)) ∧ (¬ ((m1.1 3702 (0 : Int)) ≤ x1) → ((x2 < (0 : Int) → (P (-1 : Int) m1)) ∧ (¬ (x2 < (0 : Int)) → ((x2 ≤ (1 : Int) → ((x2 ≠ (0 : Int) → (0 ≤ x1 ∧ x1 < 48 ∧ (P (m1.1 29 x1) m1))) ∧ (¬ (x2 ≠ (0 : Int)) → (0 ≤ x1 ∧ x1 < 48 ∧ (P (m1.1 28 x1) m1))))) ∧ (¬ (x2 ≤ (1 : Int)) → (P (-1 : Int) m1)))))))))) ∧ (¬ (x1 ≠ (-1 : Int)) → ((x2 ≠ (0 : Int) → ((x1 < (0 : Int) → (P (-1 : Int) m1)) ∧ (¬ (x1 < (0 : Int)) → (((m1.1 3702 (0 : Int)) ≤ x1 → (P (-1 : Int) m1)) ∧ (¬ ((m1.1 3702 (0 : Int)) ≤ x1) → ((x2 < (0 : Int) → (P (-1 : Int) m1)) ∧ (¬ (x2 < (0 : Int)) → ((x2 ≤ (1 : Int) → ((x2 ≠ (0 : Int) → (0 ≤ x1 ∧ x1 < 48 ∧ (P (m1.1 29 x1) m1))) ∧ (¬ (x2 ≠ (0 : Int)) → (0 ≤ x1 ∧ x1 < 48 ∧ (P (m1.1 28 x1) m1))))) ∧ (¬ (x2 ≤ (1 : Int)) → (P (-1 : Int) m1)))))))))) ∧ (¬ (x2 ≠ (0 : Int)) → (P (m1.1 3702 (0 : Int)) m1)))))) :
    am_OkI (d + 1) 88 [.inr (.inr 0), .inl x1, .inl x2] m P := am_e1 chk_T_peel rfl (fun S => h)
theorem f_T_core {d : Nat} {P : Int → am_M → Prop} {x1 : Int} {m : am_M}
    (h : am_OkV d 109 [.inr (.inr 0)] m (fun m1 => (x1 ≠ (-1 : Int) → (am_OkI d 57 [.inr (.inr 20), .inl x1] m1 (fun z3 m2 => P z3 m2))) ∧ (¬ (x1 ≠ (-1 : Int)) → (P (m1.1 3007 (0 : Int)) m1)))) :
    am_OkI (d + 1) 89 [.inr (.inr 0), .inl x1] m P := am_e1 chk_T_core rfl (fun S => h)
theorem f_T_level {d : Nat} {P : Int → am_M → Prop} {x1 : Int} {m : am_M}
    (h : (x1 = (-1 : Int) → (am_OkV d 108 [.inr (.inr 0)] m (fun m1 => am_OkI d 49 [.inr (.inr 33), .inr (.inr 20)] m1 (fun z3 m2 => (x1 ≠ (-1 : Int) → (0 ≤ x1 ∧ x1 < 48 ∧ (((m2.1 34 x1) ≠ (0 : Int) → (0 ≤ x1 ∧ x1 < 48 ∧ (P (m2.1 34 x1) m2))) ∧ (¬ ((m2.1 34 x1) ≠ (0 : Int)) → (P (-2 : Int) m2))))) ∧ (¬ (x1 ≠ (-1 : Int)) → (P z3 m2)))))) ∧ (¬ (x1 = (-1 : Int)) → (am_OkI d 7 [.inr (.inr 4), .inl x1] m (fun z5 m4 => (z5 ≠ (0 : Int) → (am_OkV d 108 [.inr (.inr 0)] m4 (fun m6 => am_OkI d 49 [.inr (.inr 33), .inr (.inr 20)] m6 (fun z8 m7 => (x1 ≠ (-1 : Int) → (0 ≤ x1 ∧ x1 < 48 ∧ (((m7.1 34 x1) ≠ (0 : Int) → (0 ≤ x1 ∧ x1 < 48 ∧ (P (m7.1 34 x1) m7))) ∧ (¬ ((m7.1 34 x1) ≠ (0 : Int)) → (P (-2 : Int) m7))))) ∧ (¬ (x1 ≠ (-1 : Int)) → (P z8 m7)))))) ∧ (¬ (z5 ≠ (0 : Int)) → (P (-1 : Int) m4)))))) :
    am_OkI (d + 1) 90 [.inr (.inr 0), .inl x1] m P := am_e1 chk_T_level rfl (fun S => h)
theorem f_T_rank {d : Nat} {P : Int → am_M → Prop}  {m : am_M}
    (h : am_OkV d 108 [.inr (.inr 0)] m (fun m1 => am_OkI d 3 [.inr (.inr 35), .inr (.inr 20)] m1 (fun z3 m2 => P z3 m2))) :
    am_OkI (d + 1) 91 [.inr (.inr 0)] m P := am_e1 chk_T_rank rfl (fun S => h)
theorem f_T_mend {d : Nat} {P : Int → am_M → Prop} {x1 : Int} {m : am_M}
    (h : ((m.1 4802 (0 : Int)) = (m.1 1404 (0 : Int)) → ((x1 ≠ (-1 : Int) → ((x1 < (0 : Int) → (P (-2 : Int) m)) ∧ (¬ (x1 < (0 : Int)) → ((x1 < (m.1 4801 (0 : Int)) → (0 ≤ x1 ∧ x1 < 3 ∧ (P (m.1 39 x1) m))) ∧ (¬ (x1 < (m.1 4801 (0 : Int))) → (P (-2 : Int) m)))))) ∧ (¬ (x1 ≠ (-1 : Int)) → (P (m.1 4801 (0 : Int)) m)))) ∧ (¬ ((m.1 4802 (0 : Int)) = (m.1 1404 (0 : Int))) → (am_OkV d 109 [.inr (.inr 0)] m (fun m1 => am_OkV d 26 [.inr (.inr 38), .inr (.inr 20)] m1 (fun m2 => (x1 ≠ (-1 : Int) → ((x1 < (0 : Int) → (P (-2 : Int) (am_wr m2 4802 (0 : Int) (m2.1 1404 (0 : Int))))) ∧ (¬ (x1 < (0 : Int)) → ((x1 < (m2.1 4801 (0 : Int)) → (0 ≤ x1 ∧ x1 < 3 ∧ (P (m2.1 39 x1) (am_wr m2 4802 (0 : Int) (m2.1 1404 (0 : Int)))))) ∧ (¬ (x1 < (m2.1 4801 (0 : Int))) → (P (-2 : Int) (am_wr m2 4802 (0 : Int) (m2.1 1404 (0 : Int))))))))) ∧ (¬ (x1 ≠ (-1 : Int)) → (P (m2.1 4801 (0 : Int)) (am_wr m2 4802 (0 : Int) (m2.1 1404 (0 : Int)))))))))) :
    am_OkI (d + 1) 92 [.inr (.inr 0), .inl x1] m P := am_e1 chk_T_mend rfl (fun S => h)
theorem f_T_tight_2 {d : Nat} {P : Int → am_M → Prop} {x1 : Int} {m : am_M}
    (h : ((32 : Int) < x1 → (P (-2 : Int) m)) ∧ (¬ ((32 : Int) < x1) → (0 ≤ (4 : Int) ∧ (4 : Int) < 7 ∧ (am_OkI d 110 [.inr (.inr 0), .inl (m.1 7 (4 : Int)), .inl x1] m (fun z2 m1 => (z2 = (0 : Int) → (am_R (x1 + (1 : Int)) ∧ (am_GI (d + 1) 93 P 2 [(0, .inr (.inr 0)), (1, .inl (x1 + (1 : Int)))] [] m1))) ∧ (¬ (z2 = (0 : Int)) → (P x1 m1))))))) :
    am_GI (d + 1) 93 P 2 [(0, .inr (.inr 0)), (1, .inl x1)] [] m := am_c1 chk_T_tight rfl (fun S => h)
theorem f_T_tight {d : Nat} {P : Int → am_M → Prop}  {m : am_M}
    (h : am_GI (d + 1) 93 P 2 [(0, .inr (.inr 0)), (1, .inl (1 : Int))] [] m) :
    am_OkI (d + 1) 93 [.inr (.inr 0)] m P := am_e1 chk_T_tight rfl (fun S => h)
theorem f_T_peels_18 {d : Nat} {P : Int → am_M → Prop} {x1 : Int} {x2 : Int} {x3 : Int} {m : am_M}
    (h : (x1 ≤ x3 → (P x2 m)) ∧ (¬ (x1 ≤ x3) → (0 ≤ (4 : Int) ∧ (4 : Int) < 7 ∧ (am_R ((m.1 7 (4 : Int)) + x3) ∧ (0 ≤ (1 : Int) ∧ (1 : Int) < 7 ∧ (am_OkI d 110 [.inr (.inr 0), .inl ((m.1 7 (4 : Int)) + x3), .inl (m.1 7 (1 : Int))] m (fun z2 m1 => (z2 = (0 : Int) → (am_R (x3 + (1 : Int)) ∧ (am_GI (d + 1) 94 P 18 [(0, .inr (.inr 0)), (1, .inl x1), (2, .inl x2), (3, .inl (x3 + (1 : Int)))] [] m1))) ∧ (¬ (z2 = (0 : Int)) → (am_R (x2 + (1 : Int)) ∧ (am_R (x3 + (1 : Int)) ∧ (am_GI (d + 1) 94 P 18 [(0, .inr (.inr 0)), (1, .inl x1), (2, .inl (x2 + (1 : Int))), (3, .inl (x3 + (1 : Int)))] [] m1))))))))))) :
    am_GI (d + 1) 94 P 18 [(0, .inr (.inr 0)), (1, .inl x1), (2, .inl x2), (3, .inl x3)] [] m := am_c1 chk_T_peels rfl (fun S => h)
theorem f_T_peels {d : Nat} {P : Int → am_M → Prop} {x1 : Int} {m : am_M}
    (h : (x1 < (1 : Int) → (P (-1 : Int) m)) ∧ (¬ (x1 < (1 : Int)) → ((x1 ≤ (200 : Int) → (am_GI (d + 1) 94 P 18 [(0, .inr (.inr 0)), (1, .inl x1), (2, .inl (0 : Int)), (3, .inl (0 : Int))] [] m)) ∧ (¬ (x1 ≤ (200 : Int)) → (P (-1 : Int) m))))) :
    am_OkI (d + 1) 94 [.inr (.inr 0), .inl x1] m P := am_e1 chk_T_peels rfl (fun S => h)
theorem f_T_wake {d : Nat} {P : Int → am_M → Prop} {x1 : Int} {x2 : Int} {m : am_M}
    (h : am_OkI d 7 [.inr (.inr 4), .inl x1] m (fun z2 m1 => (z2 = (0 : Int) → (P (-1 : Int) m1)) ∧ (¬ (z2 = (0 : Int)) → (am_OkI d 13 [.inr (.inr 4), .inl x2] m1 (fun z4 m3 => (z4 ≠ (0 : Int) → (am_OkV d 109 [.inr (.inr 0)] m3 (fun m5 => ((m5.1 3007 (0 : Int)) = (0 : Int) → (0 ≤ x1 ∧ x1 < 48 ∧ (((m5.1 6 x1) ≠ x2 → (am_OkI d 38 [.inr (.inr 27), .inr (.inr 20), .inl x1] m5 (fun z7 m6 => P z7 m6))) ∧ (¬ ((m5.1 6 x1) ≠ x2) → (P (0 : Int) m5))))) ∧ (¬ ((m5.1 3007 (0 : Int)) = (0 : Int)) → (P (-2 : Int) m5))))) ∧ (¬ (z4 ≠ (0 : Int)) → (P (-1 : Int) m3))))))) :
    am_OkI (d + 1) 95 [.inr (.inr 0), .inl x1, .inl x2] m P := am_e1 chk_T_wake rfl (fun S => h)
theorem f_T_build_15 {d : Nat} {P : Int → am_M → Prop} {x1 : Int} {x2 : Int} {m : am_M}
    (h : (x1 ≤ x2 → (P (-2 : Int) m)) ∧ (¬ (x1 ≤ x2) → (0 ≤ (4 : Int) ∧ (4 : Int) < 7 ∧ (am_R ((m.1 7 (4 : Int)) + x2) ∧ (0 ≤ (1 : Int) ∧ (1 : Int) < 7 ∧ (am_OkI d 110 [.inr (.inr 0), .inl ((m.1 7 (4 : Int)) + x2), .inl (m.1 7 (1 : Int))] m (fun z2 m1 => (z2 = (0 : Int) → (am_R (x2 + (1 : Int)) ∧ (am_GI (d + 1) 96 P 15 [(0, .inr (.inr 0)), (1, .inl x1), (2, .inl (x2 + (1 : Int)))] [] m1))) ∧ (¬ (z2 = (0 : Int)) → (am_R (x2 + (1 : Int)) ∧ (am_OkV d 59 [.inr (.inr 42), .inr (.inr 4), .inl ((m.1 7 (4 : Int)) + x2), .inl (x2 + (1 : Int))] m1 (fun m3 => am_OkV d 37 [.inr (.inr 27), .inr (.inr 20), .inr (.inr 23), .inr (.inr 44)] m3 (fun m4 => am_OkV d 37 [.inr (.inr 27), .inr (.inr 20), .inr (.inr 6), .inr (.inr 45)] m4 (fun m5 => am_R (x2 + (1 : Int)) ∧ (P (x2 + (1 : Int)) m5)))))))))))))) :
    am_GI (d + 1) 96 P 15 [(0, .inr (.inr 0)), (1, .inl x1), (2, .inl x2)] [] m := am_c1 chk_T_build rfl (fun S => h)
theorem f_T_build {d : Nat} {P : Int → am_M → Prop} {x1 : Int} {m : am_M}
    (h : (x1 < (1 : Int) → (P (-1 : Int) m)) ∧ (¬ (x1 < (1 : Int)) → ((x1 ≤ (99 : Int) → (am_GI (d + 1) 96 P 15 [(0, .inr (.inr 0)), (1, .inl x1), (2, .inl (0 : Int))] [] m)) ∧ (¬ (x1 ≤ (99 : Int)) → (P (-1 : Int) m))))) :
    am_OkI (d + 1) 96 [.inr (.inr 0), .inl x1] m P := am_e1 chk_T_build rfl (fun S => h)
theorem f_T_built {d : Nat} {P : Int → am_M → Prop} {x1 : Int} {m : am_M}
    (h : ((m.1 5203 (0 : Int)) = (0 : Int) → (P (-1 : Int) m)) ∧ (¬ ((m.1 5203 (0 : Int)) = (0 : Int)) → ((x1 < (0 : Int) → (P (-1 : Int) m)) ∧ (¬ (x1 < (0 : Int)) → ((x1 ≤ (7 : Int) → ((x1 ≠ (7 : Int) → (0 ≤ x1 ∧ x1 < 7 ∧ (P (m.1 43 x1) m))) ∧ (¬ (x1 ≠ (7 : Int)) → (am_OkI d 62 [.inr (.inr 42)] m (fun z2 m1 => P z2 m1))))) ∧ (¬ (x1 ≤ (7 : Int)) → (P (-1 : Int) m))))))) :
    am_OkI (d + 1) 97 [.inr (.inr 0), .inl x1] m P := am_e1 chk_T_built rfl (fun S => h)
theorem f_T_filled {d : Nat} {P : Int → am_M → Prop} {x1 : Int} {x2 : Int} {m : am_M}
    (h : ((m.1 5203 (0 : Int)) = (0 : Int) → (P (-1 : Int) m)) ∧ (¬ ((m.1 5203 (0 : Int)) = (0 : Int)) → ((x1 < (0 : Int) → (P (-1 : Int) m)) ∧ (¬ (x1 < (0 : Int)) → (am_OkI d 61 [.inr (.inr 42)] m (fun z2 m1 => (x1 < z2 → ((x2 = (0 : Int) → (0 ≤ x1 ∧ x1 < 96 ∧ (P (m1.1 44 x1) m1))) ∧ (¬ (x2 = (0 : Int)) → (0 ≤ x1 ∧ x1 < 96 ∧ (P (m1.1 45 x1) m1))))) ∧ (¬ (x1 < z2) → (P (-1 : Int) m1)))))))) :
    am_OkI (d + 1) 98 [.inr (.inr 0), .inl x1, .inl x2] m P := am_e1 chk_T_filled rfl (fun S => h)
theorem f_T_passes {d : Nat} {P : Int → am_M → Prop} {x1 : Int64} {m : am_M}
    (h : ((m.1 5203 (0 : Int)) ≠ (0 : Int) → (am_OkV d 63 [.inr (.inr 42), .inr (.inr 17)] m (fun m1 => am_OkV d 18 [.inr (.inr 17), .inr (.inl x1)] m1 (fun m2 => am_OkI d 64 [.inr (.inr 42), .inr (.inr 17)] m2 (fun z4 m3 => (z4 = 0 ∨ z4 = 1) ∧ P z4 m3))))) ∧ (¬ ((m.1 5203 (0 : Int)) ≠ (0 : Int)) → (((0 : Int) = 0 ∨ (0 : Int) = 1) ∧ P (0 : Int) m))) :
    am_OkI (d + 1) 99 [.inr (.inr 0), .inr (.inl x1)] m P := am_e1 chk_T_passes rfl (fun S => h)
theorem f_T_told {d : Nat} {P : Int → am_M → Prop} {x1 : Int64} {m : am_M}
    (h : ((m.1 5203 (0 : Int)) ≠ (0 : Int) → (am_OkV d 63 [.inr (.inr 42), .inr (.inr 17)] m (fun m1 => am_OkV d 18 [.inr (.inr 17), .inr (.inl x1)] m1 (fun m2 => am_OkI d 25 [.inr (.inr 17), .inr (.inr 45)] m2 (fun z4 m3 => P z4 m3))))) ∧ (¬ ((m.1 5203 (0 : Int)) ≠ (0 : Int)) → (P (-1 : Int) m))) :
    am_OkI (d + 1) 100 [.inr (.inr 0), .inr (.inl x1)] m P := am_e1 chk_T_told rfl (fun S => h)
theorem f_T_right_27 {d : Nat} {P : Int → am_M → Prop} {x1 : Int} {x2 : Int} {m : am_M}
    (h : ((m.1 1403 (0 : Int)) ≤ x2 → (P x1 m)) ∧ (¬ ((m.1 1403 (0 : Int)) ≤ x2) → (0 ≤ x2 ∧ x2 < 48 ∧ (am_OkV d 18 [.inr (.inr 17), .inr (.inl (m.2 5 x2))] m (fun m1 => am_OkI d 64 [.inr (.inr 42), .inr (.inr 17)] m1 (fun z3 m2 => (z3 = (0 : Int) → (am_R (x2 + (1 : Int)) ∧ (am_GI (d + 1) 101 P 27 [(0, .inr (.inr 0)), (1, .inl x1), (2, .inl (x2 + (1 : Int)))] [] m2))) ∧ (¬ (z3 = (0 : Int)) → (am_OkI d 25 [.inr (.inr 17), .inr (.inr 45)] m2 (fun z5 m4 => 0 ≤ x2 ∧ x2 < 48 ∧ ((z5 ≠ (m4.1 6 x2) → (am_R (x2 + (1 : Int)) ∧ (am_GI (d + 1) 101 P 27 [(0, .inr (.inr 0)), (1, .inl x1), (2, .inl (x2 + (1 : Int)))] [] m4))) ∧ (¬ (z5 ≠ (m4.1 6 x2)) → (am_R (x1 + (1 : Int)) ∧ (am_R (x2 + (1 : Int)) ∧ (am_GI (d + 1) 101 P 27 [(0, .inr (.inr 0)), (1, .inl (x1 + (1 : Int))), (2, .inl (x2 + (1 : Int)))] [] m4)))))))))))))) :
    am_GI (d + 1) 101 P 27 [(0, .inr (.inr 0)), (1, .inl x1), (2, .inl x2)] [] m := am_c1 chk_T_right rfl (fun S => h)
theorem f_T_right {d : Nat} {P : Int → am_M → Prop}  {m : am_M}
    (h : ((m.1 5203 (0 : Int)) ≠ (0 : Int) → (am_OkV d 63 [.inr (.inr 42), .inr (.inr 17)] m (fun m1 => am_GI (d + 1) 101 P 27 [(0, .inr (.inr 0)), (1, .inl (0 : Int)), (2, .inl (0 : Int))] [] m1))) ∧ (¬ ((m.1 5203 (0 : Int)) ≠ (0 : Int)) → (P (-1 : Int) m))) :
    am_OkI (d + 1) 101 [.inr (.inr 0)] m P := am_e1 chk_T_right rfl (fun S => h)
theorem f_T_strangers_41 {d : Nat} {P : Int → am_M → Prop} {x1 : Int64} {x3 : Int} {x4 : Int} {x5 : Int} {x6 : Int} {m : am_M}
    (h : (x3 ≤ x6 → ((x4 ≠ (-1 : Int) → (P (-2 : Int) m)) ∧ (¬ (x4 ≠ (-1 : Int)) → (P x5 m)))) ∧ (¬ (x3 ≤ x6) → (am_OkV d 18 [.inr (.inr 17), .inr (.inl (x1 + (am_i2l x6)))] m (fun m1 => am_OkI d 64 [.inr (.inr 42), .inr (.inr 17)] m1 (fun z3 m2 => (z3 = (0 : Int) → (am_R (x6 + (1 : Int)) ∧ (am_GI (d + 1) 102 P 41 [(0, .inr (.inr 0)), (1, .inr (.inl x1)), (3, .inl x3), (4, .inl x4), (5, .inl x5), (6, .inl (x6 + (1 : Int)))] [] m2))) ∧ (¬ (z3 = (0 : Int)) → (am_OkI d 8 [.inr (.inr 4), .inr (.inl (x1 + (am_i2l x6)))] m2 (fun z5 m4 => (z5 ≠ (-1 : Int) → (am_R (x6 + (1 : Int)) ∧ (am_GI (d + 1) 102 P 41 [(0, .inr (.inr 0)), (1, .inr (.inl x1)), (3, .inl x3), (4, .inl x4), (5, .inl x5), (6, .inl (x6 + (1 : Int)))] [] m4))) ∧ (¬ (z5 ≠ (-1 : Int)) → ((x5 ≠ x4 → (am_R (x5 + (1 : Int)) ∧ (am_R (x6 + (1 : Int)) ∧ (am_GI (d + 1) 102 P 41 [(0, .inr (.inr 0)), (1, .inr (.inl x1)), (3, .inl x3), (4, .inl x4), (5, .inl (x5 + (1 : Int))), (6, .inl (x6 + (1 : Int)))] [] m4)))) ∧ (¬ (x5 ≠ x4) → (P x6 m4)))))))))))) :
    am_GI (d + 1) 102 P 41 [(0, .inr (.inr 0)), (1, .inr (.inl x1)), (3, .inl x3), (4, .inl x4), (5, .inl x5), (6, .inl x6)] [] m := am_c1 chk_T_strangers rfl (fun S => h)
theorem f_T_strangers {d : Nat} {P : Int → am_M → Prop} {x1 : Int64} {x3 : Int} {x4 : Int} {m : am_M}
    (h : ((m.1 5203 (0 : Int)) = (0 : Int) → (P (-1 : Int) m)) ∧ (¬ ((m.1 5203 (0 : Int)) = (0 : Int)) → ((x3 < (1 : Int) → (P (-1 : Int) m)) ∧ (¬ (x3 < (1 : Int)) → ((x3 ≤ (1000 : Int) → (am_OkV d 63 [.inr (.inr 42), .inr (.inr 17)] m (fun m1 => am_GI (d + 1) 102 P 41 [(0, .inr (.inr 0)), (1, .inr (.inl x1)), (3, .inl x3), (4, .inl x4), (5, .inl (0 : Int)), (6, .inl (0 : Int))] [] m1))) ∧ (¬ (x3 ≤ (1000 : Int)) → (P (-1 : Int) m))))))) :
    am_OkI (d + 1) 102 [.inr (.inr 0), .inr (.inl x1), .inl x3, .inl x4] m P := am_e1 chk_T_strangers rfl (fun S => h)
theorem f_T_shelf {d : Nat} {P : Int → am_M → Prop} {x1 : Int} {x2 : Int} {m : am_M}
    (h : (x1 < (0 : Int) → (((0 : Int) = 0 ∨ (0 : Int) = 1) ∧ P (0 : Int) m)) ∧ (¬ (x1 < (0 : Int)) → ((x1 < (2 : Int) → ((x2 = (0 : Int) → ((x2 = (0 : Int) → (0 ≤ x1 ∧ x1 < 2 ∧ (x1 = 0 → (((m.1 5203 (0 : Int)) ≠ (0 : Int) → (am_OkV d 60 [.inr (.inr 46), .inr (.inr 42)] m (fun m1 => ((1 : Int) = 0 ∨ (1 : Int) = 1) ∧ P (1 : Int) m1))) ∧ (¬ ((m.1 5203 (0 : Int)) ≠ (0 : Int)) → (((0 : Int) = 0 ∨ (0 : Int) = 1) ∧ P (0 : Int) m)))) ∧ (x1 = 1 → (((m.1 5203 (0 : Int)) ≠ (0 : Int) → (am_OkV d 60 [.inr (.inr 50), .inr (.inr 42)] m (fun m2 => ((1 : Int) = 0 ∨ (1 : Int) = 1) ∧ P (1 : Int) m2))) ∧ (¬ ((m.1 5203 (0 : Int)) ≠ (0 : Int)) → (((0 : Int) = 0 ∨ (0 : Int) = 1) ∧ P (0 : Int) m)))) ∧ True)) ∧ (¬ (x2 = (0 : Int)) → (((m.1 5203 (0 : Int)) ≠ (0 : Int) → (am_OkV d 60 [.inr (.inr 42), .inr (.inr 42)] m (fun m3 => ((1 : Int) = 0 ∨ (1 : Int) = 1) ∧ P (1 : Int) m3))) ∧ (¬ ((m.1 5203 (0 : Int)) ≠ (0 : Int)) → (((0 : Int) = 0 ∨ (0 : Int) = 1) ∧ P (0 : Int) m)))))) ∧ (¬ (x2 = (0 : Int)) → (0 ≤ x1 ∧ x1 < 2 ∧ (x1 = 0 → ((x2 = (0 : Int) → (0 ≤ x1 ∧ x1 < 2 ∧ (x1 = 0 → (((m.1 5603 (0 : Int)) ≠ (0 : Int) → (am_OkV d 60 [.inr (.inr 46), .inr (.inr 46)] m (fun m4 => ((1 : Int) = 0 ∨ (1 : Int) = 1) ∧ P (1 : Int) m4))) ∧ (¬ ((m.1 5603 (0 : Int)) ≠ (0 : Int)) → (((0 : Int) = 0 ∨ (0 : Int) = 1) ∧ P (0 : Int) m)))) ∧ (x1 = 1 → (((m.1 5603 (0 : Int)) ≠ (0 : Int) → (am_OkV d 60 [.inr (.inr 50), .inr (.inr 46)] m (fun m5 => ((1 : Int) = 0 ∨ (1 : Int) = 1) ∧ P (1 : Int) m5))) ∧ (¬ ((m.1 5603 (0 : Int)) ≠ (0 : Int)) → (((0 : Int) = 0 ∨ (0 : Int) = 1) ∧ P (0 : Int) m)))) ∧ True)) ∧ (¬ (x2 = (0 : Int)) → (((m.1 5603 (0 : Int)) ≠ (0 : Int) → (am_OkV d 60 [.inr (.inr 42), .inr (.inr 46)] m (fun m6 => ((1 : Int) = 0 ∨ (1 : Int) = 1) ∧ P (1 : Int) m6))) ∧ (¬ ((m.1 5603 (0 : Int)) ≠ (0 : Int)) → (((0 : Int) = 0 ∨ (0 : Int) = 1) ∧ P (0 : Int) m)))))) ∧ (x1 = 1 → ((x2 = (0 : Int) → (0 ≤ x1 ∧ x1 < 2 ∧ (x1 = 0 → (((m.1 6003 (0 : Int)) ≠ (0 : Int) → (am_OkV d 60 [.inr (.inr 46), .inr (.inr 50)] m (fun m7 => ((1 : Int) = 0 ∨ (1 : Int) = 1) ∧ P (1 : Int) m7))) ∧ (¬ ((m.1 6003 (0 : Int)) ≠ (0 : Int)) → (((0 : Int) = 0 ∨ (0 : Int) = 1) ∧ P (0 : Int) m)))) ∧ (x1 = 1 → (((m.1 6003 (0 : Int)) ≠ (0 : Int) → (am_OkV d 60 [.inr (.inr 50), .inr (.inr 50)] m (fun m8 => ((1 : Int) = 0 ∨ (1 : Int) = 1) ∧ P (1 : Int) m8))) ∧ (¬ ((m.1 6003 (0 : Int)) ≠ (0 : Int)) → (((0 : Int) = 0 ∨ (0 : Int) = 1) ∧ P (0 : Int) m)))) ∧ True)) ∧ (¬ (x2 = (0 : Int)) → (((m.1 6003 (0 : Int)) ≠ (0 : Int) → (am_OkV d 60 [.inr (.inr 42), .inr (.inr 50)] m (fun m9 => ((1 : Int) = 0 ∨ (1 : Int) = 1) ∧ P (1 : Int) m9))) ∧ (¬ ((m.1 6003 (0 : Int)) ≠ (0 : Int)) → (((0 : Int) = 0 ∨ (0 : Int) = 1) ∧ P (0 : Int) m)))))) ∧ True)))) ∧ (¬ (x1 < (2 : Int)) → (((0 : Int) = 0 ∨ (0 : Int) = 1) ∧ P (0 : Int) m))))) :
    am_OkI (d + 1) 103 [.inr (.inr 0), .inl x1, .inl x2] m P := am_e1 chk_T_shelf rfl (fun S => h)
theorem f_T_unlike {d : Nat} {P : Int → am_M → Prop} {x1 : Int} {m : am_M}
    (h : (x1 < (0 : Int) → (P (-1 : Int) m)) ∧ (¬ (x1 < (0 : Int)) → (((2 : Int) ≤ x1 → (P (-1 : Int) m)) ∧ (¬ ((2 : Int) ≤ x1) → (((m.1 5203 (0 : Int)) = (0 : Int) → (P (-1 : Int) m)) ∧ (¬ ((m.1 5203 (0 : Int)) = (0 : Int)) → (0 ≤ x1 ∧ x1 < 2 ∧ (x1 = 0 → (((m.1 5603 (0 : Int)) ≠ (0 : Int) → (am_OkI d 61 [.inr (.inr 42)] m (fun z2 m1 => 0 ≤ x1 ∧ x1 < 2 ∧ (x1 = 0 → (am_OkI d 61 [.inr (.inr 46)] m1 (fun z4 m3 => (z2 ≠ z4 → (P (-2 : Int) m3)) ∧ (¬ (z2 ≠ z4) → (0 ≤ x1 ∧ x1 < 2 ∧ (x1 = 0 → (am_OkI d 65 [.inr (.inr 42), .inr (.inr 46)] m3 (fun z6 m5 => P z6 m5))) ∧ (x1 = 1 → (am_OkI d 65 [.inr (.inr 42), .inr (.inr 50)] m3 (fun z8 m7 => P z8 m7))) ∧ True))))) ∧ (x1 = 1 → (am_OkI d 61 [.inr (.inr 50)] m1 (fun z10 m9 => (z2 ≠ z10 → (P (-2 : Int) m9)) ∧ (¬ (z2 ≠ z10) → (0 ≤ x1 ∧ x1 < 2 ∧ (x1 = 0 → (am_OkI d 65 [.inr (.inr 42), .inr (.inr 46)] m9 (fun z12 m11 => P z12 m11))) ∧ (x1 = 1 → (am_OkI d 65 [.inr (.inr 42), .inr (.inr 50)] m9 (fun z14 m13 => P z14 m13))) ∧ True))))) ∧ True))) ∧ (¬ ((m.1 5603 (0 : Int)) ≠ (0 : Int)) → (P (-1 : Int) m)))) ∧ (x1 = 1 → (((m.1 6003 (0 : Int)) ≠ (0 : Int) → (am_OkI d 61 [.inr (.inr 42)] m (fun z16 m15 => 0 ≤ x1 ∧ x1 < 2 ∧ (x1 = 0 → (am_OkI d 61 [.inr (.inr 46)] m15 (fun z18 m17 => (z16 ≠ z18 → (P (-2 : Int) m17)) ∧ (¬ (z16 ≠ z18) → (0 ≤ x1 ∧ x1 < 2 ∧ (x1 = 0 → (am_OkI d 65 [.inr (.inr 42), .inr (.inr 46)] m17 (fun z20 m19 => P z20 m19))) ∧ (x1 = 1 → (am_OkI d 65 [.inr (.inr 42), .inr (.inr 50)] m17 (fun z22 m21 => P z22 m21))) ∧ True))))) ∧ (x1 = 1 → (am_OkI d 61 [.inr (.inr 50)] m15 (fun z24 m23 => (z16 ≠ z24 → (P (-2 : Int) m23)) ∧ (¬ (z16 ≠ z24) → (0 ≤ x1 ∧ x1 < 2 ∧ (x1 = 0 → (am_OkI d 65 [.inr (.inr 42), .inr (.inr 46)] m23 (fun z26 m25 => P z26 m25))) ∧ (x1 = 1 → (am_OkI d 65 [.inr (.inr 42), .inr (.inr 50)] m23 (fun z28 m27 => P z28 m27))) ∧ True))))) ∧ True))) ∧ (¬ ((m.1 6003 (0 : Int)) ≠ (0 : Int)) → (P (-1 : Int) m)))) ∧ True))))))) :
    am_OkI (d + 1) 104 [.inr (.inr 0), .inl x1] m P := am_e1 chk_T_unlike rfl (fun S => h)
theorem f_T_undo {d : Nat} {P : Int → am_M → Prop}  {m : am_M}
    (h : ((m.1 2205 (0 : Int)) ≠ (0 : Int) → (am_OkV d 2 [.inr (.inr 12), .inr (.inr 4)] m (fun m1 => P (m1.1 2205 (0 : Int)) m1))) ∧ (¬ ((m.1 2205 (0 : Int)) ≠ (0 : Int)) → (P (-1 : Int) m))) :
    am_OkI (d + 1) 105 [.inr (.inr 0)] m P := am_e1 chk_T_undo rfl (fun S => h)
theorem f_T_count {d : Nat} {P : Int → am_M → Prop} {x1 : Int} {m : am_M}
    (h : (x1 < (1 : Int) → ((x1 = 0 → (P (m.1 1403 (0 : Int)) m)) ∧ (x1 = 7 → (P (m.1 2205 (0 : Int)) m)) ∧ (x1 = 8 → (P (m.1 1101 (0 : Int)) m)) ∧ (x1 = 9 → (am_OkV d 108 [.inr (.inr 0)] m (fun m1 => am_OkI d 56 [.inr (.inr 20)] m1 (fun z3 m2 => am_R ((m1.1 3008 (0 : Int)) - z3) ∧ (P ((m1.1 3008 (0 : Int)) - z3) m2))))) ∧ (x1 = 10 → (((m.1 5203 (0 : Int)) = (0 : Int) → (P (0 : Int) m)) ∧ (¬ ((m.1 5203 (0 : Int)) = (0 : Int)) → (P (1 : Int) m)))) ∧ (x1 ≠ 10 → x1 ≠ 9 → x1 ≠ 8 → x1 ≠ 7 → x1 ≠ 0 → (P (-1 : Int) m)))) ∧ (¬ (x1 < (1 : Int)) → (((6 : Int) < x1 → ((x1 = 0 → (P (m.1 1403 (0 : Int)) m)) ∧ (x1 = 7 → (P (m.1 2205 (0 : Int)) m)) ∧ (x1 = 8 → (P (m.1 1101 (0 : Int)) m)) ∧ (x1 = 9 → (am_OkV d 108 [.inr (.inr 0)] m (fun m4 => am_OkI d 56 [.inr (.inr 20)] m4 (fun z6 m5 => am_R ((m4.1 3008 (0 : Int)) - z6) ∧ (P ((m4.1 3008 (0 : Int)) - z6) m5))))) ∧ (x1 = 10 → (((m.1 5203 (0 : Int)) = (0 : Int) → (P (0 : Int) m)) ∧ (¬ ((m.1 5203 (0 : Int)) = (0 : Int)) → (P (1 : Int) m)))) ∧ (x1 ≠ 10 → x1 ≠ 9 → x1 ≠ 8 → x1 ≠ 7 → x1 ≠ 0 → (P (-1 : Int) m)))) ∧ (¬ ((6 : Int) < x1) → (0 ≤ x1 ∧ x1 < 7 ∧ (P (m.1 7 x1) m)))))) :
    am_OkI (d + 1) 106 [.inr (.inr 0), .inl x1] m P := am_e1 chk_T_count rfl (fun S => h)
theorem f_T_lookNow {d : Nat} {P : am_M → Prop} {x1 : Int64} {m : am_M}
    (h : 0 ≤ (4 : Int) ∧ (4 : Int) < 7 ∧ (0 ≤ (1 : Int) ∧ (1 : Int) < 7 ∧ (0 ≤ (2 : Int) ∧ (2 : Int) < 7 ∧ (0 ≤ (6 : Int) ∧ (6 : Int) < 7 ∧ (am_OkV d 17 [.inr (.inr 17), .inl (m.1 7 (4 : Int)), .inl (m.1 7 (1 : Int)), .inl (m.1 7 (2 : Int)), .inl (m.1 7 (6 : Int))] m (fun m1 => am_OkV d 18 [.inr (.inr 17), .inr (.inl x1)] m1 (fun m2 => P m2))))))) :
    am_OkV (d + 1) 107 [.inr (.inr 0), .inr (.inl x1)] m P := am_e0 chk_T_lookNow rfl (fun S => h)
theorem f_T_layNow {d : Nat} {P : am_M → Prop}  {m : am_M}
    (h : 0 ≤ (4 : Int) ∧ (4 : Int) < 7 ∧ (0 ≤ (1 : Int) ∧ (1 : Int) < 7 ∧ (am_OkV d 52 [.inr (.inr 20), .inr (.inr 4), .inr (.inr 17), .inl (m.1 7 (4 : Int)), .inl (m.1 7 (1 : Int))] m (fun m1 => P m1)))) :
    am_OkV (d + 1) 108 [.inr (.inr 0)] m P := am_e0 chk_T_layNow rfl (fun S => h)
theorem f_T_peelNow {d : Nat} {P : am_M → Prop}  {m : am_M}
    (h : am_OkV d 108 [.inr (.inr 0)] m (fun m1 => 0 ≤ (5 : Int) ∧ (5 : Int) < 7 ∧ (am_OkV d 31 [.inr (.inr 27), .inr (.inr 20), .inl (m1.1 7 (5 : Int))] m1 (fun m2 => P m2)))) :
    am_OkV (d + 1) 109 [.inr (.inr 0)] m P := am_e0 chk_T_peelNow rfl (fun S => h)
end
section
theorem f_T_allPeel {d : Nat} {P : Int → am_M → Prop} {x1 : Int} {x2 : Int} {m : am_M}
    (h : am_OkV d 52 [.inr (.inr 20), .inr (.inr 4), .inr (.inr 17), .inl x1, .inl x2] m (fun m1 => 0 ≤ (5 : Int) ∧ (5 : Int) < 7 ∧ (am_OkV d 31 [.inr (.inr 27), .inr (.inr 20), .inl (m1.1 7 (5 : Int))] m1 (fun m2 => ((m2.1 3007 (0 : Int)) ≠ (0 : Int) → (((0 : Int) = 0 ∨ (0 : Int) = 1) ∧ P (0 : Int) m2)) ∧ (¬ ((m2.1 3007 (0 : Int)) ≠ (0 : Int)) → (((1 : Int) = 0 ∨ (1 : Int) = 1) ∧ P (1 : Int) m2)))))) :
    am_OkI (d + 1) 110 [.inr (.inr 0), .inl x1, .inl x2] m P := am_e1 chk_T_allPeel rfl (fun S => h)
theorem f_M_thrown {d : Nat} {P : Int → am_M → Prop}  {m : am_M}
    (h : P (m.1 6500 (0 : Int)) m) :
    am_OkI (d + 1) 111 [.inr (.inr 55)] m P := am_e1 chk_M_thrown rfl (fun S => h)
theorem f_M_refuse {d : Nat} {P : Int64 → am_M → Prop}  {m : am_M}
    (h : P (Int64.ofNat 0) (am_wr m 6500 (0 : Int) (1 : Int))) :
    am_OkL (d + 1) 112 [.inr (.inr 55)] m P := am_e2 chk_M_refuse rfl (fun S => h)
theorem f_M_isIn {d : Nat} {P : Int → am_M → Prop} {x0 : Int} {x1 : Int} {x2 : Int} {m : am_M}
    (h : (x0 < x1 → (((0 : Int) = 0 ∨ (0 : Int) = 1) ∧ P (0 : Int) m)) ∧ (¬ (x0 < x1) → ((x2 < x0 → (((0 : Int) = 0 ∨ (0 : Int) = 1) ∧ P (0 : Int) m)) ∧ (¬ (x2 < x0) → (((1 : Int) = 0 ∨ (1 : Int) = 1) ∧ P (1 : Int) m))))) :
    am_OkI (d + 1) 113 [.inl x0, .inl x1, .inl x2] m P := am_e1 chk_M_isIn rfl (fun S => h)
theorem f_M_lays_3 {d : Nat} {P : am_M → Prop} {x1 : Int} {x2 : Int} {m : am_M}
    (h : (x2 < (0 : Int) → (P m)) ∧ (¬ (x2 < (0 : Int)) → (0 ≤ (m.1 6502 (0 : Int)) ∧ (m.1 6502 (0 : Int)) < 600 ∧ (am_R ((m.1 6502 (0 : Int)) + (1 : Int)) ∧ (am_R (x2 + (-8 : Int)) ∧ (am_GV (d + 1) 114 P 3 [(0, .inr (.inr 55)), (1, .inl x1), (2, .inl (x2 + (-8 : Int)))] [] (am_wr (am_wr m 56 (m.1 6502 (0 : Int)) (am_and (am_ushr x1 x2) (255 : Int))) 6502 (0 : Int) ((m.1 6502 (0 : Int)) + (1 : Int))))))))) :
    am_GV (d + 1) 114 P 3 [(0, .inr (.inr 55)), (1, .inl x1), (2, .inl x2)] [] m := am_c0 chk_M_lays rfl (fun S => h)
theorem f_M_lays {d : Nat} {P : am_M → Prop} {x1 : Int} {m : am_M}
    (h : am_GV (d + 1) 114 P 3 [(0, .inr (.inr 55)), (1, .inl x1), (2, .inl (24 : Int))] [] m) :
    am_OkV (d + 1) 114 [.inr (.inr 55), .inl x1] m P := am_e0 chk_M_lays rfl (fun S => h)
theorem f_M_feed {d : Nat} {P : Int → am_M → Prop} {x1 : Int} {x2 : Int} {x3 : Int} {x4 : Int} {x5 : Int} {m : am_M}
    (h : am_R ((m.1 6502 (0 : Int)) + (20 : Int)) ∧ ((((m.1 6502 (0 : Int)) + (20 : Int)) ≤ (600 : Int) → (am_OkV d 114 [.inr (.inr 55), .inl x1] (am_wr m 6500 (0 : Int) (0 : Int)) (fun m1 => am_OkV d 114 [.inr (.inr 55), .inl x2] m1 (fun m2 => am_OkV d 114 [.inr (.inr 55), .inl x3] m2 (fun m3 => am_OkV d 114 [.inr (.inr 55), .inl x4] m3 (fun m4 => am_OkV d 114 [.inr (.inr 55), .inl x5] m4 (fun m5 => P (m5.1 6502 (0 : Int)) m5))))))) ∧ (¬ (((m.1 6502 (0 : Int)) + (20 : Int)) ≤ (600 : Int)) → (P (-1 : Int) (am_wr m 6500 (0 : Int) (0 : Int)))))) :
    am_OkI (d + 1) 115 [.inr (.inr 55), .inl x1, .inl x2, .inl x3, .inl x4, .inl x5] m P := am_e1 chk_M_feed rfl (fun S => h)
theorem f_M_end {d : Nat} {P : Int → am_M → Prop} {x1 : Int} {m : am_M}
    (h : (x1 < (0 : Int) → (((0 : Int) = 0 ∨ (0 : Int) = 1) ∧ P (0 : Int) (am_wr m 6500 (0 : Int) (0 : Int)))) ∧ (¬ (x1 < (0 : Int)) → ((x1 ≤ (m.1 6502 (0 : Int)) → (((1 : Int) = 0 ∨ (1 : Int) = 1) ∧ P (1 : Int) (am_wr (am_wr m 6500 (0 : Int) (0 : Int)) 6502 (0 : Int) x1))) ∧ (¬ (x1 ≤ (m.1 6502 (0 : Int))) → (((0 : Int) = 0 ∨ (0 : Int) = 1) ∧ P (0 : Int) (am_wr m 6500 (0 : Int) (0 : Int))))))) :
    am_OkI (d + 1) 116 [.inr (.inr 55), .inl x1] m P := am_e1 chk_M_end rfl (fun S => h)
theorem f_M_tapeAt {d : Nat} {P : Int → am_M → Prop} {x1 : Int} {m : am_M}
    (h : ((m.1 6503 (0 : Int)) ≤ x1 → (P (0 : Int) m)) ∧ (¬ ((m.1 6503 (0 : Int)) ≤ x1) → (0 ≤ x1 ∧ x1 < 600 ∧ (P (m.1 56 x1) m)))) :
    am_OkI (d + 1) 117 [.inr (.inr 55), .inl x1] m P := am_e1 chk_M_tapeAt rfl (fun S => h)
theorem f_M_isDigit {d : Nat} {P : Int → am_M → Prop} {x0 : Int} {m : am_M}
    (h : (x0 < (48 : Int) → (((0 : Int) = 0 ∨ (0 : Int) = 1) ∧ P (0 : Int) m)) ∧ (¬ (x0 < (48 : Int)) → (((57 : Int) < x0 → (((0 : Int) = 0 ∨ (0 : Int) = 1) ∧ P (0 : Int) m)) ∧ (¬ ((57 : Int) < x0) → (((1 : Int) = 0 ∨ (1 : Int) = 1) ∧ P (1 : Int) m))))) :
    am_OkI (d + 1) 118 [.inl x0] m P := am_e1 chk_M_isDigit rfl (fun S => h)
theorem f_M_isLetter {d : Nat} {P : Int → am_M → Prop} {x0 : Int} {m : am_M}
    (h : (x0 < (97 : Int) → (((0 : Int) = 0 ∨ (0 : Int) = 1) ∧ P (0 : Int) m)) ∧ (¬ (x0 < (97 : Int)) → (((122 : Int) < x0 → (((0 : Int) = 0 ∨ (0 : Int) = 1) ∧ P (0 : Int) m)) ∧ (¬ ((122 : Int) < x0) → (((1 : Int) = 0 ∨ (1 : Int) = 1) ∧ P (1 : Int) m))))) :
    am_OkI (d + 1) 119 [.inl x0] m P := am_e1 chk_M_isLetter rfl (fun S => h)
theorem f_M_go_0 {d : Nat} {P : am_M → Prop}  {m : am_M}
    (h : ((m.1 6503 (0 : Int)) ≤ (m.1 6504 (0 : Int)) → (((m.1 6504 (0 : Int)) < (m.1 6503 (0 : Int)) → (0 ≤ (m.1 6504 (0 : Int)) ∧ (m.1 6504 (0 : Int)) < 600 ∧ (am_OkI d 119 [.inl (m.1 56 (m.1 6504 (0 : Int)))] (am_wr (am_wl (am_wr m 6505 (0 : Int) (m.1 6504 (0 : Int))) 6510 (0 : Int) (Int64.ofNat 0)) 6507 (0 : Int) (0 : Int)) (fun z2 m1 => (z2 = (0 : Int) → (am_OkI d 118 [.inl (m.1 56 (m.1 6504 (0 : Int)))] m1 (fun z4 m3 => (z4 = (0 : Int) → (am_R ((m3.1 6504 (0 : Int)) + (1 : Int)) ∧ (((m.1 56 (m.1 6504 (0 : Int))) ≠ (59 : Int) → (P (am_wr (am_wr m3 6504 (0 : Int) ((m3.1 6504 (0 : Int)) + (1 : Int))) 6506 (0 : Int) (1 : Int)))) ∧ (¬ ((m.1 56 (m.1 6504 (0 : Int))) ≠ (59 : Int)) → (P (am_wr (am_wr m3 6504 (0 : Int) ((m3.1 6504 (0 : Int)) + (1 : Int))) 6506 (0 : Int) (4 : Int))))))) ∧ (¬ (z4 = (0 : Int)) → (am_GV (d + 1) 120 P 205 [(0, .inr (.inr 55))] [] m3))))) ∧ (¬ (z2 = (0 : Int)) → (am_GV (d + 1) 120 P 104 [(0, .inr (.inr 55))] [] m1)))))) ∧ (¬ ((m.1 6504 (0 : Int)) < (m.1 6503 (0 : Int))) → (P (am_wr (am_wr m 6505 (0 : Int) (m.1 6504 (0 : Int))) 6506 (0 : Int) (0 : Int)))))) ∧ (¬ ((m.1 6503 (0 : Int)) ≤ (m.1 6504 (0 : Int))) → (0 ≤ (m.1 6504 (0 : Int)) ∧ (m.1 6504 (0 : Int)) < 600 ∧ (((m.1 56 (m.1 6504 (0 : Int))) = (32 : Int) → (am_R ((m.1 6504 (0 : Int)) + (1 : Int)) ∧ (am_GV (d + 1) 120 P 0 [(0, .inr (.inr 55))] [] (am_wr m 6504 (0 : Int) ((m.1 6504 (0 : Int)) + (1 : Int)))))) ∧ (¬ ((m.1 56 (m.1 6504 (0 : Int))) = (32 : Int)) → (0 ≤ (m.1 6504 (0 : Int)) ∧ (m.1 6504 (0 : Int)) < 600 ∧ (((m.1 56 (m.1 6504 (0 : Int))) ≠ (10 : Int) → (((m.1 6504 (0 : Int)) < (m.1 6503 (0 : Int)) → (0 ≤ (m.1 6504 (0 : Int)) ∧ (m.1 6504 (0 : Int)) < 600 ∧ (am_OkI d 119 [.inl (m.1 56 (m.1 6504 (0 : Int)))] (am_wr (am_wl (am_wr m 6505 (0 : Int) (m.1 6504 (0 : Int))) 6510 (0 : Int) (Int64.ofNat 0)) 6507 (0 : Int) (0 : Int)) (fun z6 m5 => (z6 = (0 : Int) → (am_OkI d 118 [.inl (m.1 56 (m.1 6504 (0 : Int)))] m5 (fun z8 m7 => (z8 = (0 : Int) → (am_R ((m7.1 6504 (0 : Int)) + (1 : Int)) ∧ (((m.1 56 (m.1 6504 (0 : Int))) ≠ (59 : Int) → (P (am_wr (am_wr m7 6504 (0 : Int) ((m7.1 6504 (0 : Int)) + (1 : Int))) 6506 (0 : Int) (1 : Int)))) ∧ (¬ ((m.1 56 (m.1 6504 (0 : Int))) ≠ (59 : Int)) → (P (am_wr (am_wr m7 6504 (0 : Int) ((m7.1 6504 (0 : Int)) + (1 : Int))) 6506 (0 : Int) (4 : Int))))))) ∧ (¬ (z8 = (0 : Int)) → (am_GV (d + 1) 120 P 205 [(0, .inr (.inr 55))] [] m7))))) ∧ (¬ (z6 = (0 : Int)) → (am_GV (d + 1) 120 P 104 [(0, .inr (.inr 55))] [] m5)))))) ∧ (¬ ((m.1 6504 (0 : Int)) < (m.1 6503 (0 : Int))) → (P (am_wr (am_wr m 6505 (0 : Int) (m.1 6504 (0 : Int))) 6506 (0 : Int) (0 : Int)))))) ∧ (¬ ((m.1 56 (m.1 6504 (0 : Int))) ≠ (10 : Int)) → (am_R ((m.1 6504 (0 : Int)) + (1 : Int)) ∧ (am_GV (d + 1) 120 P 0 [(0, .inr (.inr 55))] [] (am_wr m 6504 (0 : Int) ((m.1 6504 (0 : Int)) + (1 : Int))))))))))))) :
    am_GV (d + 1) 120 P 0 [(0, .inr (.inr 55))] [] m := am_c0 chk_M_go rfl (fun S => h)
theorem f_M_go_104 {d : Nat} {P : am_M → Prop}  {m : am_M}
    (h : am_OkI d 117 [.inr (.inr 55), .inl (m.1 6504 (0 : Int))] m (fun z2 m1 => am_OkI d 119 [.inl z2] m1 (fun z4 m3 => (z4 = (0 : Int) → (am_R ((m3.1 6504 (0 : Int)) - (m3.1 6505 (0 : Int))) ∧ ((((m3.1 6504 (0 : Int)) - (m3.1 6505 (0 : Int))) ≤ (6 : Int) → (P (am_wr m3 6506 (0 : Int) (2 : Int)))) ∧ (¬ (((m3.1 6504 (0 : Int)) - (m3.1 6505 (0 : Int))) ≤ (6 : Int)) → (P (am_wr m3 6506 (0 : Int) (1 : Int))))))) ∧ (¬ (z4 = (0 : Int)) → (am_R ((m3.1 6504 (0 : Int)) - (m3.1 6505 (0 : Int))) ∧ (((6 : Int) ≤ ((m3.1 6504 (0 : Int)) - (m3.1 6505 (0 : Int))) → (am_R ((m3.1 6504 (0 : Int)) + (1 : Int)) ∧ (am_GV (d + 1) 120 P 104 [(0, .inr (.inr 55))] [] (am_wr m3 6504 (0 : Int) ((m3.1 6504 (0 : Int)) + (1 : Int)))))) ∧ (¬ ((6 : Int) ≤ ((m3.1 6504 (0 : Int)) - (m3.1 6505 (0 : Int)))) → (0 ≤ (m3.1 6504 (0 : Int)) ∧ (m3.1 6504 (0 : Int)) < 600 ∧ (am_R ((m3.1 6504 (0 : Int)) + (1 : Int)) ∧ (am_GV (d + 1) 120 P 104 [(0, .inr (.inr 55))] [] (am_wr (am_wl m3 6510 (0 : Int) ((((Int64.ofNat 27) * (m3.2 6510 (0 : Int))) + (am_i2l (m3.1 56 (m3.1 6504 (0 : Int))))) - (Int64.ofNat 96))) 6504 (0 : Int) ((m3.1 6504 (0 : Int)) + (1 : Int))))))))))))) :
    am_GV (d + 1) 120 P 104 [(0, .inr (.inr 55))] [] m := am_c0 chk_M_go rfl (fun S => h)
theorem f_M_go_205 {d : Nat} {P : am_M → Prop}  {m : am_M}
    (h : am_OkI d 117 [.inr (.inr 55), .inl (m.1 6504 (0 : Int))] m (fun z2 m1 => am_OkI d 118 [.inl z2] m1 (fun z4 m3 => (z4 = (0 : Int) → (am_R ((m3.1 6504 (0 : Int)) - (m3.1 6505 (0 : Int))) ∧ ((((m3.1 6504 (0 : Int)) - (m3.1 6505 (0 : Int))) ≤ (9 : Int) → (P (am_wr m3 6506 (0 : Int) (3 : Int)))) ∧ (¬ (((m3.1 6504 (0 : Int)) - (m3.1 6505 (0 : Int))) ≤ (9 : Int)) → (P (am_wr m3 6506 (0 : Int) (1 : Int))))))) ∧ (¬ (z4 = (0 : Int)) → (am_R ((m3.1 6504 (0 : Int)) - (m3.1 6505 (0 : Int))) ∧ (((9 : Int) ≤ ((m3.1 6504 (0 : Int)) - (m3.1 6505 (0 : Int))) → (am_R ((m3.1 6504 (0 : Int)) + (1 : Int)) ∧ (am_GV (d + 1) 120 P 205 [(0, .inr (.inr 55))] [] (am_wr m3 6504 (0 : Int) ((m3.1 6504 (0 : Int)) + (1 : Int)))))) ∧ (¬ ((9 : Int) ≤ ((m3.1 6504 (0 : Int)) - (m3.1 6505 (0 : Int)))) → (am_R ((10 : Int) * (m3.1 6507 (0 : Int))) ∧ (0 ≤ (m3.1 6504 (0 : Int)) ∧ (m3.1 6504 (0 : Int)) < 600 ∧ (am_R (((10 : Int) * (m3.1 6507 (0 : Int))) + (m3.1 56 (m3.1 6504 (0 : Int)))) ∧ (am_R ((((10 : Int) * (m3.1 6507 (0 : Int))) + (m3.1 56 (m3.1 6504 (0 : Int)))) - (48 : Int)) ∧ (am_R ((m3.1 6504 (0 : Int)) + (1 : Int)) ∧ (am_GV (d + 1) 120 P 205 [(0, .inr (.inr 55))] [] (am_wr (am_wr m3 6507 (0 : Int) ((((10 : Int) * (m3.1 6507 (0 : Int))) + (m3.1 56 (m3.1 6504 (0 : Int)))) - (48 : Int))) 6504 (0 : Int) ((m3.1 6504 (0 : Int)) + (1 : Int)))))))))))))))) :
    am_GV (d + 1) 120 P 205 [(0, .inr (.inr 55))] [] m := am_c0 chk_M_go rfl (fun S => h)
theorem f_M_go {d : Nat} {P : am_M → Prop}  {m : am_M}
    (h : am_GV (d + 1) 120 P 0 [(0, .inr (.inr 55))] [] m) :
    am_OkV (d + 1) 120 [.inr (.inr 55)] m P := am_e0 chk_M_go rfl (fun S => h)
theorem f_M_three {d : Nat} {P : Int64 → am_M → Prop} {x0 : Int} {x1 : Int} {x2 : Int} {m : am_M}
    (h : P ((((Int64.ofNat 27) * ((((Int64.ofNat 27) * ((am_i2l x0) - (Int64.ofNat 96))) + (am_i2l x1)) - (Int64.ofNat 96))) + (am_i2l x2)) - (Int64.ofNat 96)) m) :
    am_OkL (d + 1) 121 [.inl x0, .inl x1, .inl x2] m P := am_e2 chk_M_three rfl (fun S => h)
theorem f_M_five {d : Nat} {P : Int64 → am_M → Prop} {x0 : Int} {x1 : Int} {x2 : Int} {x3 : Int} {x4 : Int} {m : am_M}
    (h : am_OkL d 121 [.inl x0, .inl x1, .inl x2] m (fun w2 m1 => P (((((Int64.ofNat 729) * w2) + ((Int64.ofNat 27) * ((am_i2l x3) - (Int64.ofNat 96)))) + (am_i2l x4)) - (Int64.ofNat 96)) m1)) :
    am_OkL (d + 1) 122 [.inl x0, .inl x1, .inl x2, .inl x3, .inl x4] m P := am_e2 chk_M_five rfl (fun S => h)
theorem f_M_six {d : Nat} {P : Int64 → am_M → Prop} {x0 : Int} {x1 : Int} {x2 : Int} {x3 : Int} {x4 : Int} {x5 : Int} {m : am_M}
    (h : am_OkL d 122 [.inl x0, .inl x1, .inl x2, .inl x3, .inl x4] m (fun w2 m1 => P ((((Int64.ofNat 27) * w2) + (am_i2l x5)) - (Int64.ofNat 96)) m1)) :
    am_OkL (d + 1) 123 [.inl x0, .inl x1, .inl x2, .inl x3, .inl x4, .inl x5] m P := am_e2 chk_M_six rfl (fun S => h)
theorem f_M_isWord {d : Nat} {P : Int → am_M → Prop} {x1 : Int64} {m : am_M}
    (h : ((m.1 6506 (0 : Int)) ≠ (2 : Int) → (((0 : Int) = 0 ∨ (0 : Int) = 1) ∧ P (0 : Int) m)) ∧ (¬ ((m.1 6506 (0 : Int)) ≠ (2 : Int)) → (((am_lcmp (m.2 6510 (0 : Int)) x1) ≠ (0 : Int) → (((0 : Int) = 0 ∨ (0 : Int) = 1) ∧ P (0 : Int) m)) ∧ (¬ ((am_lcmp (m.2 6510 (0 : Int)) x1) ≠ (0 : Int)) → (((1 : Int) = 0 ∨ (1 : Int) = 1) ∧ P (1 : Int) m))))) :
    am_OkI (d + 1) 124 [.inr (.inr 55), .inr (.inl x1)] m P := am_e1 chk_M_isWord rfl (fun S => h)
theorem f_M_bad {d : Nat} {P : Int → am_M → Prop} {x1 : Int} {m : am_M}
    (h : ((m.1 6506 (0 : Int)) ≠ (1 : Int) → (((0 : Int) = 0 ∨ (0 : Int) = 1) ∧ P (0 : Int) (am_wr (am_wr m 6508 (0 : Int) x1) 6509 (0 : Int) (m.1 6505 (0 : Int))))) ∧ (¬ ((m.1 6506 (0 : Int)) ≠ (1 : Int)) → (((0 : Int) = 0 ∨ (0 : Int) = 1) ∧ P (0 : Int) (am_wr (am_wr m 6508 (0 : Int) (1 : Int)) 6509 (0 : Int) (m.1 6505 (0 : Int)))))) :
    am_OkI (d + 1) 125 [.inr (.inr 55), .inl x1] m P := am_e1 chk_M_bad rfl (fun S => h)
theorem f_M_begins_63 {d : Nat} {P : am_M → Prop}  {m : am_M}
    (h : 0 ≤ (1 : Int) ∧ (1 : Int) < 7 ∧ (0 ≤ (2 : Int) ∧ (2 : Int) < 7 ∧ (0 ≤ (3 : Int) ∧ (3 : Int) < 7 ∧ (0 ≤ (4 : Int) ∧ (4 : Int) < 7 ∧ (0 ≤ (5 : Int) ∧ (5 : Int) < 7 ∧ (0 ≤ (6 : Int) ∧ (6 : Int) < 7 ∧ (P (am_wr (am_wr (am_wr (am_wr (am_wr (am_wr m 63 (1 : Int) (16 : Int)) 63 (2 : Int) (8 : Int)) 63 (3 : Int) (4 : Int)) 63 (4 : Int) (1 : Int)) 63 (5 : Int) (0 : Int)) 63 (6 : Int) (0 : Int))))))))) :
    am_OkV (d + 1) 126 [.inr (.inr 63)] m P := am_e0 chk_M_begins rfl (fun S => h)
theorem f_M_begins_64 {d : Nat} {P : am_M → Prop}  {m : am_M}
    (h : 0 ≤ (1 : Int) ∧ (1 : Int) < 7 ∧ (0 ≤ (2 : Int) ∧ (2 : Int) < 7 ∧ (0 ≤ (3 : Int) ∧ (3 : Int) < 7 ∧ (0 ≤ (4 : Int) ∧ (4 : Int) < 7 ∧ (0 ≤ (5 : Int) ∧ (5 : Int) < 7 ∧ (0 ≤ (6 : Int) ∧ (6 : Int) < 7 ∧ (P (am_wr (am_wr (am_wr (am_wr (am_wr (am_wr m 64 (1 : Int) (16 : Int)) 64 (2 : Int) (8 : Int)) 64 (3 : Int) (4 : Int)) 64 (4 : Int) (1 : Int)) 64 (5 : Int) (0 : Int)) 64 (6 : Int) (0 : Int))))))))) :
    am_OkV (d + 1) 126 [.inr (.inr 64)] m P := am_e0 chk_M_begins rfl (fun S => h)
theorem f_M_lowOf {d : Nat} {P : Int → am_M → Prop} {x0 : Int} {m : am_M}
    (h : (x0 = (1 : Int) → (P (1 : Int) m)) ∧ (¬ (x0 = (1 : Int)) → ((x0 ≠ (2 : Int) → (P (0 : Int) m)) ∧ (¬ (x0 ≠ (2 : Int)) → (P (1 : Int) m))))) :
    am_OkI (d + 1) 127 [.inl x0] m P := am_e1 chk_M_lowOf rfl (fun S => h)
theorem f_M_highOf {d : Nat} {P : Int → am_M → Prop} {x0 : Int} {m : am_M}
    (h : (x0 ≠ (1 : Int) → ((x0 ≠ (2 : Int) → ((x0 ≠ (3 : Int) → ((x0 ≠ (4 : Int) → (P (2 : Int) m)) ∧ (¬ (x0 ≠ (4 : Int)) → (P (999999999 : Int) m)))) ∧ (¬ (x0 ≠ (3 : Int)) → (P (8 : Int) m)))) ∧ (¬ (x0 ≠ (2 : Int)) → (P (16 : Int) m)))) ∧ (¬ (x0 ≠ (1 : Int)) → (P (32 : Int) m))) :
    am_OkI (d + 1) 128 [.inl x0] m P := am_e1 chk_M_highOf rfl (fun S => h)
theorem f_M_nameOf {d : Nat} {P : Int64 → am_M → Prop} {x0 : Int} {m : am_M}
    (h : (x0 = 1 → (am_OkL d 122 [.inl (99 : Int), .inl (101 : Int), .inl (108 : Int), .inl (108 : Int), .inl (115 : Int)] m (fun w4 m3 => P w4 m3))) ∧ (x0 = 2 → (am_OkL d 123 [.inl (112 : Int), .inl (114 : Int), .inl (105 : Int), .inl (110 : Int), .inl (116 : Int), .inl (115 : Int)] m (fun w6 m5 => P w6 m5))) ∧ (x0 = 3 → (am_OkL d 121 [.inl (98 : Int), .inl (105 : Int), .inl (116 : Int)] m (fun w8 m7 => P (((Int64.ofNat 27) * w8) + (Int64.ofNat 19)) m7))) ∧ (x0 = 4 → (am_OkL d 121 [.inl (115 : Int), .inl (101 : Int), .inl (101 : Int)] m (fun w10 m9 => P (((Int64.ofNat 27) * w10) + (Int64.ofNat 4)) m9))) ∧ (x0 = 5 → (am_OkL d 121 [.inl (119 : Int), .inl (97 : Int), .inl (121 : Int)] m (fun w12 m11 => P w12 m11))) ∧ (x0 ≠ 5 → x0 ≠ 4 → x0 ≠ 3 → x0 ≠ 2 → x0 ≠ 1 → (am_OkL d 123 [.inl (115 : Int), .inl (112 : Int), .inl (114 : Int), .inl (101 : Int), .inl (97 : Int), .inl (100 : Int)] m (fun w2 m1 => P w2 m1)))) :
    am_OkL (d + 1) 129 [.inl x0] m P := am_e2 chk_M_nameOf rfl (fun S => h)
theorem f_M_wayHere {d : Nat} {P : Int → am_M → Prop}  {m : am_M}
    (h : am_OkL d 122 [.inl (113 : Int), .inl (117 : Int), .inl (101 : Int), .inl (117 : Int), .inl (101 : Int)] m (fun w2 m1 => am_OkI d 124 [.inr (.inr 55), .inr (.inl w2)] m1 (fun z4 m3 => (z4 = (0 : Int) → (am_OkL d 122 [.inl (115 : Int), .inl (116 : Int), .inl (97 : Int), .inl (99 : Int), .inl (107 : Int)] m3 (fun w6 m5 => am_OkI d 124 [.inr (.inr 55), .inr (.inl w6)] m5 (fun z8 m7 => (z8 = (0 : Int) → (am_OkL d 122 [.inl (108 : Int), .inl (101 : Int), .inl (97 : Int), .inl (115 : Int), .inl (116 : Int)] m7 (fun w10 m9 => am_OkI d 124 [.inr (.inr 55), .inr (.inl w10)] m9 (fun z12 m11 => (z12 = (0 : Int) → (P (-1 : Int) m11)) ∧ (¬ (z12 = (0 : Int)) → (P (2 : Int) m11)))))) ∧ (¬ (z8 = (0 : Int)) → (P (1 : Int) m7)))))) ∧ (¬ (z4 = (0 : Int)) → (P (0 : Int) m3))))) :
    am_OkI (d + 1) 130 [.inr (.inr 55)] m P := am_e1 chk_M_wayHere rfl (fun S => h)
theorem f_M_spreadHere {d : Nat} {P : Int → am_M → Prop}  {m : am_M}
    (h : am_OkL d 122 [.inl (97 : Int), .inl (112 : Int), .inl (97 : Int), .inl (114 : Int), .inl (116 : Int)] m (fun w2 m1 => am_OkI d 124 [.inr (.inr 55), .inr (.inl w2)] m1 (fun z4 m3 => (z4 = (0 : Int) → (am_OkL d 122 [.inl (99 : Int), .inl (108 : Int), .inl (111 : Int), .inl (115 : Int), .inl (101 : Int)] m3 (fun w6 m5 => am_OkI d 124 [.inr (.inr 55), .inr (.inl w6)] m5 (fun z8 m7 => (z8 = (0 : Int) → (am_OkL d 121 [.inl (102 : Int), .inl (114 : Int), .inl (101 : Int)] m7 (fun w10 m9 => am_OkI d 124 [.inr (.inr 55), .inr (.inl (((Int64.ofNat 27) * w10) + (Int64.ofNat 5)))] m9 (fun z12 m11 => (z12 = (0 : Int) → (P (-1 : Int) m11)) ∧ (¬ (z12 = (0 : Int)) → (P (2 : Int) m11)))))) ∧ (¬ (z8 = (0 : Int)) → (P (1 : Int) m7)))))) ∧ (¬ (z4 = (0 : Int)) → (P (0 : Int) m3))))) :
    am_OkI (d + 1) 131 [.inr (.inr 55)] m P := am_e1 chk_M_spreadHere rfl (fun S => h)
theorem f_M_readSetting {d : Nat} {P : Int → am_M → Prop} {x1 : Int} {m : am_M}
    (h : am_OkV d 120 [.inr (.inr 55)] m (fun m1 => (x1 = (5 : Int) → ((x1 ≠ (5 : Int) → (am_OkI d 131 [.inr (.inr 55)] m1 (fun z3 m2 => (z3 ≠ (-1 : Int) → (0 ≤ x1 ∧ x1 < 7 ∧ (am_OkV d 120 [.inr (.inr 55)] (am_wr m2 64 x1 z3) (fun m4 => am_OkI d 133 [.inr (.inr 55)] m4 (fun z6 m5 => (z6 = 0 ∨ z6 = 1) ∧ P z6 m5))))) ∧ (¬ (z3 ≠ (-1 : Int)) → (am_OkI d 125 [.inr (.inr 55), .inl (1 : Int)] m2 (fun z8 m7 => (z8 = 0 ∨ z8 = 1) ∧ P z8 m7)))))) ∧ (¬ (x1 ≠ (5 : Int)) → (am_OkI d 130 [.inr (.inr 55)] m1 (fun z10 m9 => (z10 ≠ (-1 : Int) → (0 ≤ x1 ∧ x1 < 7 ∧ (am_OkV d 120 [.inr (.inr 55)] (am_wr m9 64 x1 z10) (fun m11 => am_OkI d 133 [.inr (.inr 55)] m11 (fun z13 m12 => (z13 = 0 ∨ z13 = 1) ∧ P z13 m12))))) ∧ (¬ (z10 ≠ (-1 : Int)) → (am_OkI d 125 [.inr (.inr 55), .inl (1 : Int)] m9 (fun z15 m14 => (z15 = 0 ∨ z15 = 1) ∧ P z15 m14)))))))) ∧ (¬ (x1 = (5 : Int)) → ((x1 ≠ (6 : Int) → (((m1.1 6506 (0 : Int)) = (3 : Int) → (am_OkI d 127 [.inl x1] m1 (fun z17 m16 => am_OkI d 128 [.inl x1] m16 (fun z19 m18 => am_OkI d 113 [.inl (m1.1 6507 (0 : Int)), .inl z17, .inl z19] m18 (fun z21 m20 => (z21 ≠ (0 : Int) → (0 ≤ x1 ∧ x1 < 7 ∧ (am_OkV d 120 [.inr (.inr 55)] (am_wr m20 64 x1 (m20.1 6507 (0 : Int))) (fun m22 => am_OkI d 133 [.inr (.inr 55)] m22 (fun z24 m23 => (z24 = 0 ∨ z24 = 1) ∧ P z24 m23))))) ∧ (¬ (z21 ≠ (0 : Int)) → (am_OkI d 125 [.inr (.inr 55), .inl (3 : Int)] m20 (fun z26 m25 => (z26 = 0 ∨ z26 = 1) ∧ P z26 m25)))))))) ∧ (¬ ((m1.1 6506 (0 : Int)) = (3 : Int)) → (am_OkI d 125 [.inr (.inr 55), .inl (1 : Int)] m1 (fun z28 m27 => (z28 = 0 ∨ z28 = 1) ∧ P z28 m27))))) ∧ (¬ (x1 ≠ (6 : Int)) → ((x1 ≠ (5 : Int) → (am_OkI d 131 [.inr (.inr 55)] m1 (fun z30 m29 => (z30 ≠ (-1 : Int) → (0 ≤ x1 ∧ x1 < 7 ∧ (am_OkV d 120 [.inr (.inr 55)] (am_wr m29 64 x1 z30) (fun m31 => am_OkI d 133 [.inr (.inr 55)] m31 (fun z33 m32 => (z33 = 0 ∨ z33 = 1) ∧ P z33 m32))))) ∧ (¬ (z30 ≠ (-1 : Int)) → (am_OkI d 125 [.inr (.inr 55), .inl (1 : Int)] m29 (fun z35 m34 => (z35 = 0 ∨ z35 = 1) ∧ P z35 m34)))))) ∧ (¬ (x1 ≠ (5 : Int)) → (am_OkI d 130 [.inr (.inr 55)] m1 (fun z37 m36 => (z37 ≠ (-1 : Int) → (0 ≤ x1 ∧ x1 < 7 ∧ (am_OkV d 120 [.inr (.inr 55)] (am_wr m36 64 x1 z37) (fun m38 => am_OkI d 133 [.inr (.inr 55)] m38 (fun z40 m39 => (z40 = 0 ∨ z40 = 1) ∧ P z40 m39))))) ∧ (¬ (z37 ≠ (-1 : Int)) → (am_OkI d 125 [.inr (.inr 55), .inl (1 : Int)] m36 (fun z42 m41 => (z42 = 0 ∨ z42 = 1) ∧ P z42 m41)))))))))))) :
    am_OkI (d + 1) 132 [.inr (.inr 55), .inl x1] m P := am_e1 chk_M_readSetting rfl (fun S => h)
theorem f_M_readEnd {d : Nat} {P : Int → am_M → Prop}  {m : am_M}
    (h : ((m.1 6506 (0 : Int)) = (4 : Int) → (am_OkV d 120 [.inr (.inr 55)] m (fun m1 => ((1 : Int) = 0 ∨ (1 : Int) = 1) ∧ P (1 : Int) m1))) ∧ (¬ ((m.1 6506 (0 : Int)) = (4 : Int)) → (am_OkI d 125 [.inr (.inr 55), .inl (1 : Int)] m (fun z3 m2 => (z3 = 0 ∨ z3 = 1) ∧ P z3 m2)))) :
    am_OkI (d + 1) 133 [.inr (.inr 55)] m P := am_e1 chk_M_readEnd rfl (fun S => h)
theorem f_M_readKey_35 {d : Nat} {P : Int → am_M → Prop} {x1 : Int} {m : am_M}
    (h : ((m.1 6522 (0 : Int)) ≤ x1 → (0 ≤ (m.1 6522 (0 : Int)) ∧ (m.1 6522 (0 : Int)) < 48 ∧ (0 ≤ (m.1 6522 (0 : Int)) ∧ (m.1 6522 (0 : Int)) < 48 ∧ (am_OkV d 120 [.inr (.inr 55)] (am_wr (am_wl m 58 (m.1 6522 (0 : Int)) (am_i2l (m.1 6507 (0 : Int)))) 61 (m.1 6522 (0 : Int)) (0 : Int)) (fun m1 => am_OkI d 124 [.inr (.inr 55), .inr (.inl (Int64.ofNat 262))] m1 (fun z3 m2 => (z3 = (0 : Int) → (am_R ((m2.1 6522 (0 : Int)) + (1 : Int)) ∧ (am_OkI d 133 [.inr (.inr 55)] (am_wr m2 6522 (0 : Int) ((m2.1 6522 (0 : Int)) + (1 : Int))) (fun z5 m4 => (z5 = 0 ∨ z5 = 1) ∧ P z5 m4)))) ∧ (¬ (z3 = (0 : Int)) → (am_OkV d 120 [.inr (.inr 55)] m2 (fun m6 => ((m6.1 6506 (0 : Int)) = (3 : Int) → (0 ≤ (3 : Int) ∧ (3 : Int) < 7 ∧ (((m6.1 6507 (0 : Int)) < (am_shl (1 : Int) (m6.1 64 (3 : Int))) → (0 ≤ (m6.1 6522 (0 : Int)) ∧ (m6.1 6522 (0 : Int)) < 48 ∧ (am_OkV d 120 [.inr (.inr 55)] (am_wr m6 61 (m6.1 6522 (0 : Int)) (m6.1 6507 (0 : Int))) (fun m7 => am_R ((m7.1 6522 (0 : Int)) + (1 : Int)) ∧ (am_OkI d 133 [.inr (.inr 55)] (am_wr m7 6522 (0 : Int) ((m7.1 6522 (0 : Int)) + (1 : Int))) (fun z9 m8 => (z9 = 0 ∨ z9 = 1) ∧ P z9 m8)))))) ∧ (¬ ((m6.1 6507 (0 : Int)) < (am_shl (1 : Int) (m6.1 64 (3 : Int)))) → (am_OkI d 125 [.inr (.inr 55), .inl (3 : Int)] m6 (fun z11 m10 => (z11 = 0 ∨ z11 = 1) ∧ P z11 m10)))))) ∧ (¬ ((m6.1 6506 (0 : Int)) = (3 : Int)) → (am_OkI d 125 [.inr (.inr 55), .inl (1 : Int)] m6 (fun z13 m12 => (z13 = 0 ∨ z13 = 1) ∧ P z13 m12)))))))))))) ∧ (¬ ((m.1 6522 (0 : Int)) ≤ x1) → (0 ≤ x1 ∧ x1 < 48 ∧ (((am_lcmp (m.2 58 x1) (am_i2l (m.1 6507 (0 : Int)))) ≠ (0 : Int) → (am_R (x1 + (1 : Int)) ∧ (am_GI (d + 1) 134 P 35 [(0, .inr (.inr 55)), (1, .inl (x1 + (1 : Int)))] [] m))) ∧ (¬ ((am_lcmp (m.2 58 x1) (am_i2l (m.1 6507 (0 : Int)))) ≠ (0 : Int)) → (am_OkI d 125 [.inr (.inr 55), .inl (2 : Int)] m (fun z15 m14 => (z15 = 0 ∨ z15 = 1) ∧ P z15 m14))))))) :
    am_GI (d + 1) 134 P 35 [(0, .inr (.inr 55)), (1, .inl x1)] [] m := am_c1 chk_M_readKey rfl (fun S => h)
theorem f_M_readKey {d : Nat} {P : Int → am_M → Prop}  {m : am_M}
    (h : ((m.1 6522 (0 : Int)) ≠ (48 : Int) → (am_OkV d 120 [.inr (.inr 55)] m (fun m1 => ((m1.1 6506 (0 : Int)) = (3 : Int) → (am_GI (d + 1) 134 P 35 [(0, .inr (.inr 55)), (1, .inl (0 : Int))] [] m1)) ∧ (¬ ((m1.1 6506 (0 : Int)) = (3 : Int)) → (am_OkI d 125 [.inr (.inr 55), .inl (1 : Int)] m1 (fun z3 m2 => (z3 = 0 ∨ z3 = 1) ∧ P z3 m2)))))) ∧ (¬ ((m.1 6522 (0 : Int)) ≠ (48 : Int)) → (am_OkI d 125 [.inr (.inr 55), .inl (4 : Int)] m (fun z5 m4 => (z5 = 0 ∨ z5 = 1) ∧ P z5 m4)))) :
    am_OkI (d + 1) 134 [.inr (.inr 55)] m P := am_e1 chk_M_readKey rfl (fun S => h)
theorem f_M_readWhole_2 {d : Nat} {P : Int → am_M → Prop} {x1 : Int} {m : am_M}
    (h : ((6 : Int) < x1 → (am_GI (d + 1) 135 P 35 [(0, .inr (.inr 55))] [] m)) ∧ (¬ ((6 : Int) < x1) → (am_OkL d 129 [.inl x1] m (fun w2 m1 => am_OkI d 124 [.inr (.inr 55), .inr (.inl w2)] m1 (fun z4 m3 => (z4 = (0 : Int) → (am_R (x1 + (1 : Int)) ∧ (am_GI (d + 1) 135 P 2 [(0, .inr (.inr 55)), (1, .inl (x1 + (1 : Int)))] [] m3))) ∧ (¬ (z4 = (0 : Int)) → (am_OkI d 132 [.inr (.inr 55), .inl x1] m3 (fun z6 m5 => (z6 ≠ (0 : Int) → (am_R (x1 + (1 : Int)) ∧ (am_GI (d + 1) 135 P 2 [(0, .inr (.inr 55)), (1, .inl (x1 + (1 : Int)))] [] m5))) ∧ (¬ (z6 ≠ (0 : Int)) → (((0 : Int) = 0 ∨ (0 : Int) = 1) ∧ P (0 : Int) m5)))))))))) :
    am_GI (d + 1) 135 P 2 [(0, .inr (.inr 55)), (1, .inl x1)] [] m := am_c1 chk_M_readWhole rfl (fun S => h)
theorem f_M_readWhole_35 {d : Nat} {P : Int → am_M → Prop}  {m : am_M}
    (h : am_OkL d 121 [.inl (107 : Int), .inl (101 : Int), .inl (121 : Int)] m (fun w2 m1 => am_OkI d 124 [.inr (.inr 55), .inr (.inl w2)] m1 (fun z4 m3 => (z4 = (0 : Int) → (((m3.1 6506 (0 : Int)) = (0 : Int) → (((1 : Int) = 0 ∨ (1 : Int) = 1) ∧ P (1 : Int) m3)) ∧ (¬ ((m3.1 6506 (0 : Int)) = (0 : Int)) → (am_OkI d 125 [.inr (.inr 55), .inl (1 : Int)] m3 (fun z6 m5 => (z6 = (0 : Int) → (((0 : Int) = 0 ∨ (0 : Int) = 1) ∧ P (0 : Int) m5)) ∧ (¬ (z6 = (0 : Int)) → (((1 : Int) = 0 ∨ (1 : Int) = 1) ∧ P (1 : Int) m5))))))) ∧ (¬ (z4 = (0 : Int)) → (am_OkI d 134 [.inr (.inr 55)] m3 (fun z8 m7 => (z8 ≠ (0 : Int) → (am_GI (d + 1) 135 P 35 [(0, .inr (.inr 55))] [] m7)) ∧ (¬ (z8 ≠ (0 : Int)) → (((0 : Int) = 0 ∨ (0 : Int) = 1) ∧ P (0 : Int) m7)))))))) :
    am_GI (d + 1) 135 P 35 [(0, .inr (.inr 55))] [] m := am_c1 chk_M_readWhole rfl (fun S => h)
theorem f_M_readWhole {d : Nat} {P : Int → am_M → Prop}  {m : am_M}
    (h : am_GI (d + 1) 135 P 2 [(0, .inr (.inr 55)), (1, .inl (1 : Int))] [] m) :
    am_OkI (d + 1) 135 [.inr (.inr 55)] m P := am_e1 chk_M_readWhole rfl (fun S => h)
theorem f_M_text_72 {d : Nat} {P : Int → am_M → Prop} {x1 : Int} {m : am_M}
    (h : ((7 : Int) ≤ x1 → (am_GI (d + 1) 136 P 98 [(0, .inr (.inr 55)), (1, .inl (0 : Int))] [] m)) ∧ (¬ ((7 : Int) ≤ x1) → (0 ≤ x1 ∧ x1 < 7 ∧ (0 ≤ x1 ∧ x1 < 7 ∧ (am_R (x1 + (1 : Int)) ∧ (am_GI (d + 1) 136 P 72 [(0, .inr (.inr 55)), (1, .inl (x1 + (1 : Int)))] [] (am_wr m 63 x1 (m.1 64 x1)))))))) :
    am_GI (d + 1) 136 P 72 [(0, .inr (.inr 55)), (1, .inl x1)] [] m := am_c1 chk_M_text rfl (fun S => h)
theorem f_M_text_98 {d : Nat} {P : Int → am_M → Prop} {x1 : Int} {m : am_M}
    (h : ((48 : Int) ≤ x1 → (am_GI (d + 1) 136 P 141 [(0, .inr (.inr 55)), (1, .inl (0 : Int))] [] (am_wr m 6523 (0 : Int) (0 : Int)))) ∧ (¬ ((48 : Int) ≤ x1) → (0 ≤ x1 ∧ x1 < 48 ∧ (0 ≤ x1 ∧ x1 < 48 ∧ (0 ≤ x1 ∧ x1 < 48 ∧ (0 ≤ x1 ∧ x1 < 48 ∧ (am_R (x1 + (1 : Int)) ∧ (am_GI (d + 1) 136 P 98 [(0, .inr (.inr 55)), (1, .inl (x1 + (1 : Int)))] [] (am_wr (am_wl m 57 x1 (m.2 58 x1)) 60 x1 (m.1 61 x1)))))))))) :
    am_GI (d + 1) 136 P 98 [(0, .inr (.inr 55)), (1, .inl x1)] [] m := am_c1 chk_M_text rfl (fun S => h)
theorem f_M_text_141 {d : Nat} {P : Int → am_M → Prop} {x1 : Int} {m : am_M}
    (h : ((2 : Int) < x1 → (P (m.1 6521 (0 : Int)) m)) ∧ (¬ ((2 : Int) < x1) → (0 ≤ x1 ∧ x1 < 3 ∧ ((0 : Int) = 0 ∨ (0 : Int) = 1) ∧ (am_R (x1 + (1 : Int)) ∧ (am_GI (d + 1) 136 P 141 [(0, .inr (.inr 55)), (1, .inl (x1 + (1 : Int)))] [] (am_wr m 86 x1 (0 : Int))))))) :
    am_GI (d + 1) 136 P 141 [(0, .inr (.inr 55)), (1, .inl x1)] [] m := am_c1 chk_M_text rfl (fun S => h)
theorem f_M_text {d : Nat} {P : Int → am_M → Prop}  {m : am_M}
    (h : am_OkV d 126 [.inr (.inr 64)] (am_wr (am_wr (am_wr (am_wr (am_wr m 6500 (0 : Int) (0 : Int)) 6503 (0 : Int) (m.1 6502 (0 : Int))) 6502 (0 : Int) (0 : Int)) 6504 (0 : Int) (0 : Int)) 6522 (0 : Int) (0 : Int)) (fun m1 => am_OkV d 120 [.inr (.inr 55)] m1 (fun m2 => am_OkI d 135 [.inr (.inr 55)] m2 (fun z4 m3 => (z4 ≠ (0 : Int) → (am_GI (d + 1) 136 P 72 [(0, .inr (.inr 55)), (1, .inl (0 : Int))] [] (am_wr m3 6521 (0 : Int) (m3.1 6522 (0 : Int))))) ∧ (¬ (z4 ≠ (0 : Int)) → (am_R ((8 : Int) * (m3.1 6509 (0 : Int))) ∧ (am_R (((8 : Int) * (m3.1 6509 (0 : Int))) + (m3.1 6508 (0 : Int))) ∧ (am_R ((-2 : Int) - (((8 : Int) * (m3.1 6509 (0 : Int))) + (m3.1 6508 (0 : Int)))) ∧ (P ((-2 : Int) - (((8 : Int) * (m3.1 6509 (0 : Int))) + (m3.1 6508 (0 : Int)))) m3))))))))) :
    am_OkI (d + 1) 136 [.inr (.inr 55)] m P := am_e1 chk_M_text rfl (fun S => h)
theorem f_M_isKey {d : Nat} {P : Int → am_M → Prop} {x1 : Int} {m : am_M}
    (h : am_R ((m.1 6521 (0 : Int)) - (1 : Int)) ∧ (am_OkI d 113 [.inl x1, .inl (0 : Int), .inl ((m.1 6521 (0 : Int)) - (1 : Int))] m (fun z2 m1 => (z2 = 0 ∨ z2 = 1) ∧ P z2 m1))) :
    am_OkI (d + 1) 137 [.inr (.inr 55), .inl x1] m P := am_e1 chk_M_isKey rfl (fun S => h)
theorem f_M_isValue {d : Nat} {P : Int → am_M → Prop} {x1 : Int} {m : am_M}
    (h : 0 ≤ (3 : Int) ∧ (3 : Int) < 7 ∧ (am_R ((am_shl (1 : Int) (m.1 63 (3 : Int))) - (1 : Int)) ∧ (am_OkI d 113 [.inl x1, .inl (0 : Int), .inl ((am_shl (1 : Int) (m.1 63 (3 : Int))) - (1 : Int))] m (fun z2 m1 => (z2 = 0 ∨ z2 = 1) ∧ P z2 m1)))) :
    am_OkI (d + 1) 138 [.inr (.inr 55), .inl x1] m P := am_e1 chk_M_isValue rfl (fun S => h)
theorem f_M_indexOf_2 {d : Nat} {P : Int → am_M → Prop} {x1 : Int64} {x3 : Int} {m : am_M}
    (h : ((m.1 6521 (0 : Int)) ≤ x3 → (P (-1 : Int) m)) ∧ (¬ ((m.1 6521 (0 : Int)) ≤ x3) → (0 ≤ x3 ∧ x3 < 48 ∧ (((am_lcmp (m.2 57 x3) x1) ≠ (0 : Int) → (am_R (x3 + (1 : Int)) ∧ (am_GI (d + 1) 139 P 2 [(0, .inr (.inr 55)), (1, .inr (.inl x1)), (3, .inl (x3 + (1 : Int)))] [] m))) ∧ (¬ ((am_lcmp (m.2 57 x3) x1) ≠ (0 : Int)) → (P x3 m)))))) :
    am_GI (d + 1) 139 P 2 [(0, .inr (.inr 55)), (1, .inr (.inl x1)), (3, .inl x3)] [] m := am_c1 chk_M_indexOf rfl (fun S => h)
theorem f_M_indexOf {d : Nat} {P : Int → am_M → Prop} {x1 : Int64} {m : am_M}
    (h : am_GI (d + 1) 139 P 2 [(0, .inr (.inr 55)), (1, .inr (.inl x1)), (3, .inl (0 : Int))] [] m) :
    am_OkI (d + 1) 139 [.inr (.inr 55), .inr (.inl x1)] m P := am_e1 chk_M_indexOf rfl (fun S => h)
theorem f_M_snap_21 {d : Nat} {P : am_M → Prop} {x1 : Int} {m : am_M}
    (h : am_R ((48 : Int) * (m.1 6523 (0 : Int))) ∧ ((((48 : Int) * (m.1 6523 (0 : Int))) ≤ x1 → (am_GV (d + 1) 140 P 70 [(0, .inr (.inr 55)), (1, .inl (0 : Int))] [] m)) ∧ (¬ (((48 : Int) * (m.1 6523 (0 : Int))) ≤ x1) → (am_R (x1 + (48 : Int)) ∧ (0 ≤ (x1 + (48 : Int)) ∧ (x1 + (48 : Int)) < 576 ∧ (0 ≤ x1 ∧ x1 < 576 ∧ (am_R (x1 + (48 : Int)) ∧ (0 ≤ (x1 + (48 : Int)) ∧ (x1 + (48 : Int)) < 576 ∧ (0 ≤ x1 ∧ x1 < 576 ∧ (am_R (x1 + (1 : Int)) ∧ (am_GV (d + 1) 140 P 21 [(0, .inr (.inr 55)), (1, .inl (x1 + (1 : Int)))] [] (am_wr (am_wl m 59 x1 (m.2 59 (x1 + (48 : Int)))) 62 x1 (m.1 62 (x1 + (48 : Int))))))))))))))) :
    am_GV (d + 1) 140 P 21 [(0, .inr (.inr 55)), (1, .inl x1)] [] m := am_c0 chk_M_snap rfl (fun S => h)
theorem f_M_snap_70 {d : Nat} {P : am_M → Prop} {x1 : Int} {m : am_M}
    (h : am_R ((7 : Int) * (m.1 6523 (0 : Int))) ∧ ((((7 : Int) * (m.1 6523 (0 : Int))) ≤ x1 → (am_GV (d + 1) 140 P 104 [(0, .inr (.inr 55)), (1, .inl (0 : Int))] [] m)) ∧ (¬ (((7 : Int) * (m.1 6523 (0 : Int))) ≤ x1) → (am_R (x1 + (7 : Int)) ∧ (0 ≤ (x1 + (7 : Int)) ∧ (x1 + (7 : Int)) < 84 ∧ (0 ≤ x1 ∧ x1 < 84 ∧ (am_R (x1 + (1 : Int)) ∧ (am_GV (d + 1) 140 P 70 [(0, .inr (.inr 55)), (1, .inl (x1 + (1 : Int)))] [] (am_wr m 65 x1 (m.1 65 (x1 + (7 : Int)))))))))))) :
    am_GV (d + 1) 140 P 70 [(0, .inr (.inr 55)), (1, .inl x1)] [] m := am_c0 chk_M_snap rfl (fun S => h)
theorem f_M_snap_104 {d : Nat} {P : am_M → Prop} {x1 : Int} {m : am_M}
    (h : ((m.1 6523 (0 : Int)) ≤ x1 → (am_GV (d + 1) 140 P 134 [(0, .inr (.inr 55)), (1, .inl (0 : Int))] [] m)) ∧ (¬ ((m.1 6523 (0 : Int)) ≤ x1) → (am_R (x1 + (1 : Int)) ∧ (0 ≤ (x1 + (1 : Int)) ∧ (x1 + (1 : Int)) < 12 ∧ (0 ≤ x1 ∧ x1 < 12 ∧ (am_R (x1 + (1 : Int)) ∧ (am_GV (d + 1) 140 P 104 [(0, .inr (.inr 55)), (1, .inl (x1 + (1 : Int)))] [] (am_wr m 66 x1 (m.1 66 (x1 + (1 : Int))))))))))) :
    am_GV (d + 1) 140 P 104 [(0, .inr (.inr 55)), (1, .inl x1)] [] m := am_c0 chk_M_snap rfl (fun S => h)
theorem f_M_snap_134 {d : Nat} {P : am_M → Prop} {x1 : Int} {m : am_M}
    (h : ((48 : Int) ≤ x1 → (am_GV (d + 1) 140 P 188 [(0, .inr (.inr 55)), (1, .inl (0 : Int))] [] m)) ∧ (¬ ((48 : Int) ≤ x1) → (am_R ((48 : Int) * (m.1 6523 (0 : Int))) ∧ (am_R (((48 : Int) * (m.1 6523 (0 : Int))) + x1) ∧ (0 ≤ x1 ∧ x1 < 48 ∧ (0 ≤ (((48 : Int) * (m.1 6523 (0 : Int))) + x1) ∧ (((48 : Int) * (m.1 6523 (0 : Int))) + x1) < 576 ∧ (am_R ((48 : Int) * (m.1 6523 (0 : Int))) ∧ (am_R (((48 : Int) * (m.1 6523 (0 : Int))) + x1) ∧ (0 ≤ x1 ∧ x1 < 48 ∧ (0 ≤ (((48 : Int) * (m.1 6523 (0 : Int))) + x1) ∧ (((48 : Int) * (m.1 6523 (0 : Int))) + x1) < 576 ∧ (am_R (x1 + (1 : Int)) ∧ (am_GV (d + 1) 140 P 134 [(0, .inr (.inr 55)), (1, .inl (x1 + (1 : Int)))] [] (am_wr (am_wl m 59 (((48 : Int) * (m.1 6523 (0 : Int))) + x1) (m.2 57 x1)) 62 (((48 : Int) * (m.1 6523 (0 : Int))) + x1) (m.1 60 x1)))))))))))))) :
    am_GV (d + 1) 140 P 134 [(0, .inr (.inr 55)), (1, .inl x1)] [] m := am_c0 chk_M_snap rfl (fun S => h)
theorem f_M_snap_188 {d : Nat} {P : am_M → Prop} {x1 : Int} {m : am_M}
    (h : ((7 : Int) ≤ x1 → (0 ≤ (m.1 6523 (0 : Int)) ∧ (m.1 6523 (0 : Int)) < 12 ∧ (am_R ((m.1 6523 (0 : Int)) + (1 : Int)) ∧ (P (am_wr (am_wr m 66 (m.1 6523 (0 : Int)) (m.1 6521 (0 : Int))) 6523 (0 : Int) ((m.1 6523 (0 : Int)) + (1 : Int))))))) ∧ (¬ ((7 : Int) ≤ x1) → (am_R ((7 : Int) * (m.1 6523 (0 : Int))) ∧ (am_R (((7 : Int) * (m.1 6523 (0 : Int))) + x1) ∧ (0 ≤ x1 ∧ x1 < 7 ∧ (0 ≤ (((7 : Int) * (m.1 6523 (0 : Int))) + x1) ∧ (((7 : Int) * (m.1 6523 (0 : Int))) + x1) < 84 ∧ (am_R (x1 + (1 : Int)) ∧ (am_GV (d + 1) 140 P 188 [(0, .inr (.inr 55)), (1, .inl (x1 + (1 : Int)))] [] (am_wr m 65 (((7 : Int) * (m.1 6523 (0 : Int))) + x1) (m.1 63 x1)))))))))) :
    am_GV (d + 1) 140 P 188 [(0, .inr (.inr 55)), (1, .inl x1)] [] m := am_c0 chk_M_snap rfl (fun S => h)
theorem f_M_snap {d : Nat} {P : am_M → Prop}  {m : am_M}
    (h : ((m.1 6523 (0 : Int)) ≠ (12 : Int) → (am_GV (d + 1) 140 P 134 [(0, .inr (.inr 55)), (1, .inl (0 : Int))] [] m)) ∧ (¬ ((m.1 6523 (0 : Int)) ≠ (12 : Int)) → (am_R ((m.1 6523 (0 : Int)) - (1 : Int)) ∧ (am_GV (d + 1) 140 P 21 [(0, .inr (.inr 55)), (1, .inl (0 : Int))] [] (am_wr m 6523 (0 : Int) ((m.1 6523 (0 : Int)) - (1 : Int))))))) :
    am_OkV (d + 1) 140 [.inr (.inr 55)] m P := am_e0 chk_M_snap rfl (fun S => h)
theorem f_M_undo_26 {d : Nat} {P : Int → am_M → Prop} {x1 : Int} {m : am_M}
    (h : ((48 : Int) ≤ x1 → (am_GI (d + 1) 141 P 80 [(0, .inr (.inr 55)), (1, .inl (0 : Int))] [] m)) ∧ (¬ ((48 : Int) ≤ x1) → (am_R ((48 : Int) * (m.1 6523 (0 : Int))) ∧ (am_R (((48 : Int) * (m.1 6523 (0 : Int))) + x1) ∧ (0 ≤ (((48 : Int) * (m.1 6523 (0 : Int))) + x1) ∧ (((48 : Int) * (m.1 6523 (0 : Int))) + x1) < 576 ∧ (0 ≤ x1 ∧ x1 < 48 ∧ (am_R ((48 : Int) * (m.1 6523 (0 : Int))) ∧ (am_R (((48 : Int) * (m.1 6523 (0 : Int))) + x1) ∧ (0 ≤ (((48 : Int) * (m.1 6523 (0 : Int))) + x1) ∧ (((48 : Int) * (m.1 6523 (0 : Int))) + x1) < 576 ∧ (0 ≤ x1 ∧ x1 < 48 ∧ (am_R (x1 + (1 : Int)) ∧ (am_GI (d + 1) 141 P 26 [(0, .inr (.inr 55)), (1, .inl (x1 + (1 : Int)))] [] (am_wr (am_wl m 57 x1 (m.2 59 (((48 : Int) * (m.1 6523 (0 : Int))) + x1))) 60 x1 (m.1 62 (((48 : Int) * (m.1 6523 (0 : Int))) + x1))))))))))))))) :
    am_GI (d + 1) 141 P 26 [(0, .inr (.inr 55)), (1, .inl x1)] [] m := am_c1 chk_M_undo rfl (fun S => h)
theorem f_M_undo_80 {d : Nat} {P : Int → am_M → Prop} {x1 : Int} {m : am_M}
    (h : ((7 : Int) ≤ x1 → (0 ≤ (m.1 6523 (0 : Int)) ∧ (m.1 6523 (0 : Int)) < 12 ∧ (P (m.1 6523 (0 : Int)) (am_wr m 6521 (0 : Int) (m.1 66 (m.1 6523 (0 : Int))))))) ∧ (¬ ((7 : Int) ≤ x1) → (am_R ((7 : Int) * (m.1 6523 (0 : Int))) ∧ (am_R (((7 : Int) * (m.1 6523 (0 : Int))) + x1) ∧ (0 ≤ (((7 : Int) * (m.1 6523 (0 : Int))) + x1) ∧ (((7 : Int) * (m.1 6523 (0 : Int))) + x1) < 84 ∧ (0 ≤ x1 ∧ x1 < 7 ∧ (am_R (x1 + (1 : Int)) ∧ (am_GI (d + 1) 141 P 80 [(0, .inr (.inr 55)), (1, .inl (x1 + (1 : Int)))] [] (am_wr m 63 x1 (m.1 65 (((7 : Int) * (m.1 6523 (0 : Int))) + x1))))))))))) :
    am_GI (d + 1) 141 P 80 [(0, .inr (.inr 55)), (1, .inl x1)] [] m := am_c1 chk_M_undo rfl (fun S => h)
theorem f_M_undo {d : Nat} {P : Int → am_M → Prop}  {m : am_M}
    (h : ((m.1 6523 (0 : Int)) ≠ (0 : Int) → (am_R ((m.1 6523 (0 : Int)) - (1 : Int)) ∧ (am_GI (d + 1) 141 P 26 [(0, .inr (.inr 55)), (1, .inl (0 : Int))] [] (am_wr (am_wr m 6500 (0 : Int) (0 : Int)) 6523 (0 : Int) ((m.1 6523 (0 : Int)) - (1 : Int)))))) ∧ (¬ ((m.1 6523 (0 : Int)) ≠ (0 : Int)) → (P (-1 : Int) (am_wr m 6500 (0 : Int) (0 : Int))))) :
    am_OkI (d + 1) 141 [.inr (.inr 55)] m P := am_e1 chk_M_undo rfl (fun S => h)
theorem f_M_key {d : Nat} {P : Int64 → am_M → Prop} {x1 : Int} {m : am_M}
    (h : am_OkI d 137 [.inr (.inr 55), .inl x1] (am_wr m 6500 (0 : Int) (0 : Int)) (fun z2 m1 => (z2 = (0 : Int) → (am_OkL d 112 [.inr (.inr 55)] m1 (fun w4 m3 => P w4 m3))) ∧ (¬ (z2 = (0 : Int)) → (0 ≤ x1 ∧ x1 < 48 ∧ (P (m1.2 57 x1) m1))))) :
    am_OkL (d + 1) 142 [.inr (.inr 55), .inl x1] m P := am_e2 chk_M_key rfl (fun S => h)
theorem f_M_worth {d : Nat} {P : Int → am_M → Prop} {x1 : Int} {m : am_M}
    (h : am_OkI d 137 [.inr (.inr 55), .inl x1] (am_wr m 6500 (0 : Int) (0 : Int)) (fun z2 m1 => (z2 = (0 : Int) → (P (-1 : Int) m1)) ∧ (¬ (z2 = (0 : Int)) → (0 ≤ x1 ∧ x1 < 48 ∧ (P (m1.1 60 x1) m1))))) :
    am_OkI (d + 1) 143 [.inr (.inr 55), .inl x1] m P := am_e1 chk_M_worth rfl (fun S => h)
theorem f_M_add {d : Nat} {P : Int → am_M → Prop} {x1 : Int64} {x3 : Int} {m : am_M}
    (h : ((m.1 6521 (0 : Int)) = (48 : Int) → (P (-1 : Int) (am_wr m 6500 (0 : Int) (0 : Int)))) ∧ (¬ ((m.1 6521 (0 : Int)) = (48 : Int)) → (am_OkI d 138 [.inr (.inr 55), .inl x3] (am_wr m 6500 (0 : Int) (0 : Int)) (fun z2 m1 => (z2 ≠ (0 : Int) → (am_OkI d 139 [.inr (.inr 55), .inr (.inl x1)] m1 (fun z4 m3 => (z4 = (-1 : Int) → (am_OkV d 140 [.inr (.inr 55)] m3 (fun m5 => 0 ≤ (m5.1 6521 (0 : Int)) ∧ (m5.1 6521 (0 : Int)) < 48 ∧ (0 ≤ (m5.1 6521 (0 : Int)) ∧ (m5.1 6521 (0 : Int)) < 48 ∧ (am_R ((m5.1 6521 (0 : Int)) + (1 : Int)) ∧ (P ((m5.1 6521 (0 : Int)) + (1 : Int)) (am_wr (am_wr (am_wl m5 57 (m5.1 6521 (0 : Int)) x1) 60 (m5.1 6521 (0 : Int)) x3) 6521 (0 : Int) ((m5.1 6521 (0 : Int)) + (1 : Int))))))))) ∧ (¬ (z4 = (-1 : Int)) → (P (-2 : Int) m3))))) ∧ (¬ (z2 ≠ (0 : Int)) → (P (-1 : Int) m1)))))) :
    am_OkI (d + 1) 144 [.inr (.inr 55), .inr (.inl x1), .inl x3] m P := am_e1 chk_M_add rfl (fun S => h)
theorem f_M_gone_35 {d : Nat} {P : Int → am_M → Prop} {x3 : Int} {x4 : Int} {m : am_M}
    (h : ((m.1 6521 (0 : Int)) ≤ x4 → (P x3 m)) ∧ (¬ ((m.1 6521 (0 : Int)) ≤ x4) → (am_R (x4 + (1 : Int)) ∧ (0 ≤ (x4 + (1 : Int)) ∧ (x4 + (1 : Int)) < 48 ∧ (0 ≤ x4 ∧ x4 < 48 ∧ (am_R (x4 + (1 : Int)) ∧ (0 ≤ (x4 + (1 : Int)) ∧ (x4 + (1 : Int)) < 48 ∧ (0 ≤ x4 ∧ x4 < 48 ∧ (am_R (x4 + (1 : Int)) ∧ (am_GI (d + 1) 145 P 35 [(0, .inr (.inr 55)), (3, .inl x3), (4, .inl (x4 + (1 : Int)))] [] (am_wr (am_wl m 57 x4 (m.2 57 (x4 + (1 : Int)))) 60 x4 (m.1 60 (x4 + (1 : Int)))))))))))))) :
    am_GI (d + 1) 145 P 35 [(0, .inr (.inr 55)), (3, .inl x3), (4, .inl x4)] [] m := am_c1 chk_M_gone rfl (fun S => h)
theorem f_M_gone {d : Nat} {P : Int → am_M → Prop} {x1 : Int64} {m : am_M}
    (h : am_OkI d 139 [.inr (.inr 55), .inr (.inl x1)] (am_wr m 6500 (0 : Int) (0 : Int)) (fun z2 m1 => (z2 ≠ (-1 : Int) → (am_OkV d 140 [.inr (.inr 55)] m1 (fun m3 => am_R ((m3.1 6521 (0 : Int)) - (1 : Int)) ∧ (am_GI (d + 1) 145 P 35 [(0, .inr (.inr 55)), (3, .inl z2), (4, .inl z2)] [] (am_wr m3 6521 (0 : Int) ((m3.1 6521 (0 : Int)) - (1 : Int))))))) ∧ (¬ (z2 ≠ (-1 : Int)) → (P (-1 : Int) m1)))) :
    am_OkI (d + 1) 145 [.inr (.inr 55), .inr (.inl x1)] m P := am_e1 chk_M_gone rfl (fun S => h)
theorem f_M_turn {d : Nat} {P : Int → am_M → Prop} {x1 : Int} {x2 : Int} {m : am_M}
    (h : am_OkI d 137 [.inr (.inr 55), .inl x1] (am_wr m 6500 (0 : Int) (0 : Int)) (fun z2 m1 => (z2 = (0 : Int) → (P (-1 : Int) m1)) ∧ (¬ (z2 = (0 : Int)) → (am_OkI d 138 [.inr (.inr 55), .inl x2] m1 (fun z4 m3 => (z4 ≠ (0 : Int) → (am_OkV d 140 [.inr (.inr 55)] m3 (fun m5 => 0 ≤ x1 ∧ x1 < 48 ∧ (0 ≤ x1 ∧ x1 < 48 ∧ (P (m5.1 60 x1) (am_wr m5 60 x1 x2)))))) ∧ (¬ (z4 ≠ (0 : Int)) → (P (-1 : Int) m3))))))) :
    am_OkI (d + 1) 146 [.inr (.inr 55), .inl x1, .inl x2] m P := am_e1 chk_M_turn rfl (fun S => h)
theorem f_M_set_34 {d : Nat} {P : Int → am_M → Prop} {x1 : Int} {x2 : Int} {x3 : Int} {m : am_M}
    (h : ((m.1 6521 (0 : Int)) ≤ x3 → (am_OkV d 140 [.inr (.inr 55)] m (fun m1 => 0 ≤ x1 ∧ x1 < 7 ∧ (0 ≤ x1 ∧ x1 < 7 ∧ (P (m1.1 63 x1) (am_wr m1 63 x1 x2)))))) ∧ (¬ ((m.1 6521 (0 : Int)) ≤ x3) → ((x1 ≠ (3 : Int) → (am_OkV d 140 [.inr (.inr 55)] m (fun m2 => 0 ≤ x1 ∧ x1 < 7 ∧ (0 ≤ x1 ∧ x1 < 7 ∧ (P (m2.1 63 x1) (am_wr m2 63 x1 x2)))))) ∧ (¬ (x1 ≠ (3 : Int)) → (0 ≤ x3 ∧ x3 < 48 ∧ (((m.1 60 x3) < (am_shl (1 : Int) x2) → (am_R (x3 + (1 : Int)) ∧ (am_GI (d + 1) 147 P 34 [(0, .inr (.inr 55)), (1, .inl x1), (2, .inl x2), (3, .inl (x3 + (1 : Int)))] [] m))) ∧ (¬ ((m.1 60 x3) < (am_shl (1 : Int) x2)) → (P (-1 : Int) m)))))))) :
    am_GI (d + 1) 147 P 34 [(0, .inr (.inr 55)), (1, .inl x1), (2, .inl x2), (3, .inl x3)] [] m := am_c1 chk_M_set rfl (fun S => h)
theorem f_M_set {d : Nat} {P : Int → am_M → Prop} {x1 : Int} {x2 : Int} {m : am_M}
    (h : am_OkI d 113 [.inl x1, .inl (1 : Int), .inl (6 : Int)] (am_wr m 6500 (0 : Int) (0 : Int)) (fun z2 m1 => (z2 = (0 : Int) → (P (-1 : Int) m1)) ∧ (¬ (z2 = (0 : Int)) → (am_OkI d 127 [.inl x1] m1 (fun z4 m3 => am_OkI d 128 [.inl x1] m3 (fun z6 m5 => am_OkI d 113 [.inl x2, .inl z4, .inl z6] m5 (fun z8 m7 => (z8 ≠ (0 : Int) → (am_GI (d + 1) 147 P 34 [(0, .inr (.inr 55)), (1, .inl x1), (2, .inl x2), (3, .inl (0 : Int))] [] m7)) ∧ (¬ (z8 ≠ (0 : Int)) → (P (-1 : Int) m7))))))))) :
    am_OkI (d + 1) 147 [.inr (.inr 55), .inl x1, .inl x2] m P := am_e1 chk_M_set rfl (fun S => h)
theorem f_M_mix {d : Nat} {P : Int64 → am_M → Prop} {x0 : Int64} {m : am_M}
    (h : P (((((x0 ^^^ (am_lushr x0 (30 : Int))) * (Int64.ofNat 13787848793156543929)) ^^^ (am_lushr ((x0 ^^^ (am_lushr x0 (30 : Int))) * (Int64.ofNat 13787848793156543929)) (27 : Int))) * (Int64.ofNat 10723151780598845931)) ^^^ (am_lushr ((((x0 ^^^ (am_lushr x0 (30 : Int))) * (Int64.ofNat 13787848793156543929)) ^^^ (am_lushr ((x0 ^^^ (am_lushr x0 (30 : Int))) * (Int64.ofNat 13787848793156543929)) (27 : Int))) * (Int64.ofNat 10723151780598845931)) (31 : Int))) m) :
    am_OkL (d + 1) 148 [.inr (.inl x0)] m P := am_e2 chk_M_mix rfl (fun S => h)
theorem f_M_hashOf {d : Nat} {P : Int64 → am_M → Prop} {x0 : Int64} {x2 : Int64} {m : am_M}
    (h : am_OkL d 148 [.inr (.inl x2)] m (fun w2 m1 => am_OkL d 148 [.inr (.inl (x0 + w2))] m1 (fun w4 m3 => P w4 m3))) :
    am_OkL (d + 1) 149 [.inr (.inl x0), .inr (.inl x2)] m P := am_e2 chk_M_hashOf rfl (fun S => h)
theorem f_M_printOf {d : Nat} {P : Int → am_M → Prop} {x0 : Int64} {x2 : Int} {m : am_M}
    (h : am_R ((am_shl (1 : Int) x2) - (1 : Int)) ∧ (P (am_and (am_l2i (x0 ^^^ (am_lushr x0 (32 : Int)))) ((am_shl (1 : Int) x2) - (1 : Int))) m)) :
    am_OkI (d + 1) 150 [.inr (.inl x0), .inl x2] m P := am_e1 chk_M_printOf rfl (fun S => h)
theorem f_M_part {d : Nat} {P : Int → am_M → Prop} {x0 : Int64} {x2 : Int} {m : am_M}
    (h : am_R ((16 : Int) * x2) ∧ (am_R ((16 : Int) + ((16 : Int) * x2)) ∧ (P (am_and (am_l2i (am_lushr x0 ((16 : Int) + ((16 : Int) * x2)))) (65535 : Int)) m))) :
    am_OkI (d + 1) 151 [.inr (.inl x0), .inl x2] m P := am_e1 chk_M_part rfl (fun S => h)
theorem f_M_lays3_3 {d : Nat} {P : am_M → Prop} {x1 : Int64} {x3 : Int} {x4 : Int} {x5 : Int} {m : am_M}
    (h : ((3 : Int) ≤ x5 → (P m)) ∧ (¬ ((3 : Int) ≤ x5) → (am_OkI d 151 [.inr (.inl x1), .inl x5] m (fun z2 m1 => (x4 ≠ (0 : Int) → ((x4 ≠ (1 : Int) → (am_R (z2 * (3 : Int)) ∧ (am_R ((z2 * (3 : Int)) * x3) ∧ (0 ≤ ((z2 * (3 : Int)) * x3) ∧ 0 < (65536 : Int) ∧ (0 ≤ x5 ∧ x5 < 3 ∧ (am_R (x5 + (1 : Int)) ∧ (am_GV (d + 1) 152 P 3 [(0, .inr (.inr 55)), (1, .inr (.inl x1)), (3, .inl x3), (4, .inl x4), (5, .inl (x5 + (1 : Int)))] [] (am_wr m1 67 x5 (((z2 * (3 : Int)) * x3) / (65536 : Int)))))))))) ∧ (¬ (x4 ≠ (1 : Int)) → ((x5 ≤ (0 : Int) → (am_R (z2 * (3 : Int)) ∧ (am_R ((z2 * (3 : Int)) * x3) ∧ (0 ≤ ((z2 * (3 : Int)) * x3) ∧ 0 < (65536 : Int) ∧ (0 ≤ x5 ∧ x5 < 3 ∧ (am_R (x5 + (1 : Int)) ∧ (am_GV (d + 1) 152 P 3 [(0, .inr (.inr 55)), (1, .inr (.inl x1)), (3, .inl x3), (4, .inl x4), (5, .inl (x5 + (1 : Int)))] [] (am_wr m1 67 x5 (((z2 * (3 : Int)) * x3) / (65536 : Int)))))))))) ∧ (¬ (x5 ≤ (0 : Int)) → (am_R (x5 - (1 : Int)) ∧ (0 ≤ (x5 - (1 : Int)) ∧ (x5 - (1 : Int)) < 3 ∧ (am_R ((m1.1 67 (x5 - (1 : Int))) + (1 : Int)) ∧ (am_R (z2 * x3) ∧ (0 ≤ (z2 * x3) ∧ 0 < (65536 : Int) ∧ (am_R (((m1.1 67 (x5 - (1 : Int))) + (1 : Int)) + ((z2 * x3) / (65536 : Int))) ∧ (am_R ((3 : Int) * x3) ∧ (0 ≤ (((m1.1 67 (x5 - (1 : Int))) + (1 : Int)) + ((z2 * x3) / (65536 : Int))) ∧ 0 < ((3 : Int) * x3) ∧ (0 ≤ x5 ∧ x5 < 3 ∧ (am_R (x5 + (1 : Int)) ∧ (am_GV (d + 1) 152 P 3 [(0, .inr (.inr 55)), (1, .inr (.inl x1)), (3, .inl x3), (4, .inl x4), (5, .inl (x5 + (1 : Int)))] [] (am_wr m1 67 x5 ((((m1.1 67 (x5 - (1 : Int))) + (1 : Int)) + ((z2 * x3) / (65536 : Int))) % ((3 : Int) * x3))))))))))))))))))) ∧ (¬ (x4 ≠ (0 : Int)) → (am_R (x5 * x3) ∧ (am_R (z2 * x3) ∧ (0 ≤ (z2 * x3) ∧ 0 < (65536 : Int) ∧ (am_R ((x5 * x3) + ((z2 * x3) / (65536 : Int))) ∧ (0 ≤ x5 ∧ x5 < 3 ∧ (am_R (x5 + (1 : Int)) ∧ (am_GV (d + 1) 152 P 3 [(0, .inr (.inr 55)), (1, .inr (.inl x1)), (3, .inl x3), (4, .inl x4), (5, .inl (x5 + (1 : Int)))] [] (am_wr m1 67 x5 ((x5 * x3) + ((z2 * x3) / (65536 : Int)))))))))))))))) :
    am_GV (d + 1) 152 P 3 [(0, .inr (.inr 55)), (1, .inr (.inl x1)), (3, .inl x3), (4, .inl x4), (5, .inl x5)] [] m := am_c0 chk_M_lays3 rfl (fun S => h)
theorem f_M_lays3 {d : Nat} {P : am_M → Prop} {x1 : Int64} {x3 : Int} {x4 : Int} {m : am_M}
    (h : am_GV (d + 1) 152 P 3 [(0, .inr (.inr 55)), (1, .inr (.inl x1)), (3, .inl x3), (4, .inl x4), (5, .inl (0 : Int))] [] m) :
    am_OkV (d + 1) 152 [.inr (.inr 55), .inr (.inl x1), .inl x3, .inl x4] m P := am_e0 chk_M_lays3 rfl (fun S => h)
theorem f_M_touchesBy_4 {d : Nat} {P : Int → am_M → Prop} {x1 : Int} {x2 : Int} {x3 : Int} {m : am_M}
    (h : ((3 : Int) ≤ x3 → ((x2 = (2 : Int) → (((0 : Int) = 0 ∨ (0 : Int) = 1) ∧ P (0 : Int) m)) ∧ (¬ (x2 = (2 : Int)) → (((1 : Int) = 0 ∨ (1 : Int) = 1) ∧ P (1 : Int) m)))) ∧ (¬ ((3 : Int) ≤ x3) → (0 ≤ x3 ∧ x3 < 3 ∧ (0 ≤ x1 ∧ x1 < 3 ∧ (((m.1 67 x3) = (m.1 67 x1) → ((x1 ≤ x3 → (am_R (x2 + (1 : Int)) ∧ (am_R (x3 + (1 : Int)) ∧ (am_GI (d + 1) 153 P 4 [(0, .inr (.inr 55)), (1, .inl x1), (2, .inl (x2 + (1 : Int))), (3, .inl (x3 + (1 : Int)))] [] m)))) ∧ (¬ (x1 ≤ x3) → (((0 : Int) = 0 ∨ (0 : Int) = 1) ∧ P (0 : Int) m)))) ∧ (¬ ((m.1 67 x3) = (m.1 67 x1)) → (am_R (x3 + (1 : Int)) ∧ (am_GI (d + 1) 153 P 4 [(0, .inr (.inr 55)), (1, .inl x1), (2, .inl x2), (3, .inl (x3 + (1 : Int)))] [] m)))))))) :
    am_GI (d + 1) 153 P 4 [(0, .inr (.inr 55)), (1, .inl x1), (2, .inl x2), (3, .inl x3)] [] m := am_c1 chk_M_touchesBy rfl (fun S => h)
theorem f_M_touchesBy {d : Nat} {P : Int → am_M → Prop} {x1 : Int} {m : am_M}
    (h : am_GI (d + 1) 153 P 4 [(0, .inr (.inr 55)), (1, .inl x1), (2, .inl (0 : Int)), (3, .inl (0 : Int))] [] m) :
    am_OkI (d + 1) 153 [.inr (.inr 55), .inl x1] m P := am_e1 chk_M_touchesBy rfl (fun S => h)
theorem f_M_hash {d : Nat} {P : Int64 → am_M → Prop} {x1 : Int64} {x3 : Int} {m : am_M}
    (h : am_OkL d 149 [.inr (.inl x1), .inr (.inl (am_i2l x3))] (am_wr m 6500 (0 : Int) (0 : Int)) (fun w2 m1 => P w2 m1)) :
    am_OkL (d + 1) 154 [.inr (.inr 55), .inr (.inl x1), .inl x3] m P := am_e2 chk_M_hash rfl (fun S => h)
theorem f_M_cell {d : Nat} {P : Int → am_M → Prop} {x1 : Int64} {x3 : Int} {m : am_M}
    (h : am_OkI d 113 [.inl x3, .inl (0 : Int), .inl (2 : Int)] (am_wr m 6500 (0 : Int) (0 : Int)) (fun z2 m1 => (z2 ≠ (0 : Int) → (0 ≤ (4 : Int) ∧ (4 : Int) < 7 ∧ (am_OkL d 149 [.inr (.inl x1), .inr (.inl (am_i2l (m1.1 63 (4 : Int))))] m1 (fun w4 m3 => 0 ≤ (1 : Int) ∧ (1 : Int) < 7 ∧ (0 ≤ (6 : Int) ∧ (6 : Int) < 7 ∧ (am_OkV d 152 [.inr (.inr 55), .inr (.inl w4), .inl (m3.1 63 (1 : Int)), .inl (m3.1 63 (6 : Int))] m3 (fun m5 => 0 ≤ x3 ∧ x3 < 3 ∧ (P (m5.1 67 x3) m5)))))))) ∧ (¬ (z2 ≠ (0 : Int)) → (P (-1 : Int) m1)))) :
    am_OkI (d + 1) 155 [.inr (.inr 55), .inr (.inl x1), .inl x3] m P := am_e1 chk_M_cell rfl (fun S => h)
theorem f_M_print {d : Nat} {P : Int → am_M → Prop} {x1 : Int64} {m : am_M}
    (h : 0 ≤ (4 : Int) ∧ (4 : Int) < 7 ∧ (am_OkL d 149 [.inr (.inl x1), .inr (.inl (am_i2l (m.1 63 (4 : Int))))] (am_wr m 6500 (0 : Int) (0 : Int)) (fun w2 m1 => 0 ≤ (2 : Int) ∧ (2 : Int) < 7 ∧ (am_OkI d 150 [.inr (.inl w2), .inl (m1.1 63 (2 : Int))] m1 (fun z4 m3 => P z4 m3))))) :
    am_OkI (d + 1) 156 [.inr (.inr 55), .inr (.inl x1)] m P := am_e1 chk_M_print rfl (fun S => h)
theorem f_M_nets_3 {d : Nat} {P : am_M → Prop} {x1 : Int} {x2 : Int64} {x4 : Int} {x5 : Int} {m : am_M}
    (h : ((96 : Int) ≤ x5 → (am_GV (d + 1) 157 P 40 [(0, .inr (.inr 55)), (1, .inl x1), (2, .inr (.inl x2)), (4, .inl x4), (5, .inl (0 : Int))] [] (am_wr m 6530 (0 : Int) (0 : Int)))) ∧ (¬ ((96 : Int) ≤ x5) → (0 ≤ x5 ∧ x5 < 96 ∧ (0 ≤ x5 ∧ x5 < 96 ∧ (am_R (x5 + (1 : Int)) ∧ (am_GV (d + 1) 157 P 3 [(0, .inr (.inr 55)), (1, .inl x1), (2, .inr (.inl x2)), (4, .inl x4), (5, .inl (x5 + (1 : Int)))] [] (am_wr (am_wr m 70 x5 (0 : Int)) 71 x5 (0 : Int)))))))) :
    am_GV (d + 1) 157 P 3 [(0, .inr (.inr 55)), (1, .inl x1), (2, .inr (.inl x2)), (4, .inl x4), (5, .inl x5)] [] m := am_c0 chk_M_nets rfl (fun S => h)
theorem f_M_nets_40 {d : Nat} {P : am_M → Prop} {x1 : Int} {x2 : Int64} {x4 : Int} {x5 : Int} {m : am_M}
    (h : ((m.1 6521 (0 : Int)) ≤ x5 → (P m)) ∧ (¬ ((m.1 6521 (0 : Int)) ≤ x5) → (0 ≤ x5 ∧ x5 < 48 ∧ (am_OkL d 149 [.inr (.inl (m.2 57 x5)), .inr (.inl x2)] m (fun w2 m1 => 0 ≤ (6 : Int) ∧ (6 : Int) < 7 ∧ (am_OkV d 152 [.inr (.inr 55), .inr (.inl w2), .inl x1, .inl (m1.1 63 (6 : Int))] m1 (fun m3 => 0 ≤ x5 ∧ x5 < 48 ∧ (am_GV (d + 1) 157 P 83 [(0, .inr (.inr 55)), (1, .inl x1), (2, .inr (.inl x2)), (4, .inl x4), (5, .inl x5), (6, .inl (0 : Int))] [] (am_wr m3 69 x5 (0 : Int)))))))))) :
    am_GV (d + 1) 157 P 40 [(0, .inr (.inr 55)), (1, .inl x1), (2, .inr (.inl x2)), (4, .inl x4), (5, .inl x5)] [] m := am_c0 chk_M_nets rfl (fun S => h)
theorem f_M_nets_83 {d : Nat} {P : am_M → Prop} {x1 : Int} {x2 : Int64} {x4 : Int} {x5 : Int} {x6 : Int} {m : am_M}
    (h : ((3 : Int) ≤ x6 → (0 ≤ x5 ∧ x5 < 48 ∧ ((1 : Int) = 0 ∨ (1 : Int) = 1) ∧ (am_GV (d + 1) 157 P 153 [(0, .inr (.inr 55)), (1, .inl x1), (2, .inr (.inl x2)), (4, .inl x4), (5, .inl x5), (6, .inl (0 : Int))] [] (am_wr m 72 x5 (1 : Int))))) ∧ (¬ ((3 : Int) ≤ x6) → (am_OkI d 153 [.inr (.inr 55), .inl x6] m (fun z2 m1 => (z2 ≠ (0 : Int) → (am_R ((3 : Int) * x5) ∧ (0 ≤ x5 ∧ x5 < 48 ∧ (am_R (((3 : Int) * x5) + (m1.1 69 x5)) ∧ (0 ≤ x6 ∧ x6 < 3 ∧ (0 ≤ (((3 : Int) * x5) + (m1.1 69 x5)) ∧ (((3 : Int) * x5) + (m1.1 69 x5)) < 144 ∧ (0 ≤ x5 ∧ x5 < 48 ∧ (am_R ((m1.1 69 x5) + (1 : Int)) ∧ (0 ≤ x5 ∧ x5 < 48 ∧ (am_R (x6 + (1 : Int)) ∧ (am_GV (d + 1) 157 P 83 [(0, .inr (.inr 55)), (1, .inl x1), (2, .inr (.inl x2)), (4, .inl x4), (5, .inl x5), (6, .inl (x6 + (1 : Int)))] [] (am_wr (am_wr m1 68 (((3 : Int) * x5) + (m1.1 69 x5)) (m1.1 67 x6)) 69 x5 ((m1.1 69 x5) + (1 : Int)))))))))))))) ∧ (¬ (z2 ≠ (0 : Int)) → (am_R (x6 + (1 : Int)) ∧ (am_GV (d + 1) 157 P 83 [(0, .inr (.inr 55)), (1, .inl x1), (2, .inr (.inl x2)), (4, .inl x4), (5, .inl x5), (6, .inl (x6 + (1 : Int)))] [] m1))))))) :
    am_GV (d + 1) 157 P 83 [(0, .inr (.inr 55)), (1, .inl x1), (2, .inr (.inl x2)), (4, .inl x4), (5, .inl x5), (6, .inl x6)] [] m := am_c0 chk_M_nets rfl (fun S => h)
theorem f_M_nets_153 {d : Nat} {P : am_M → Prop} {x1 : Int} {x2 : Int64} {x4 : Int} {x5 : Int} {x6 : Int} {m : am_M}
    (h : (x4 ≤ x6 → (0 ≤ x5 ∧ x5 < 48 ∧ (((m.1 72 x5) ≠ (0 : Int) → (am_R ((m.1 6530 (0 : Int)) + (1 : Int)) ∧ (am_GV (d + 1) 157 P 212 [(0, .inr (.inr 55)), (1, .inl x1), (2, .inr (.inl x2)), (4, .inl x4), (5, .inl x5), (6, .inl (0 : Int))] [] (am_wr m 6530 (0 : Int) ((m.1 6530 (0 : Int)) + (1 : Int)))))) ∧ (¬ ((m.1 72 x5) ≠ (0 : Int)) → (am_R (x5 + (1 : Int)) ∧ (am_GV (d + 1) 157 P 40 [(0, .inr (.inr 55)), (1, .inl x1), (2, .inr (.inl x2)), (4, .inl x4), (5, .inl (x5 + (1 : Int)))] [] m)))))) ∧ (¬ (x4 ≤ x6) → (0 ≤ x6 ∧ x6 < 3 ∧ (((m.1 73 x6) ≠ x5 → (am_R (x6 + (1 : Int)) ∧ (am_GV (d + 1) 157 P 153 [(0, .inr (.inr 55)), (1, .inl x1), (2, .inr (.inl x2)), (4, .inl x4), (5, .inl x5), (6, .inl (x6 + (1 : Int)))] [] m))) ∧ (¬ ((m.1 73 x6) ≠ x5) → (0 ≤ x5 ∧ x5 < 48 ∧ ((0 : Int) = 0 ∨ (0 : Int) = 1) ∧ (am_R (x6 + (1 : Int)) ∧ (am_GV (d + 1) 157 P 153 [(0, .inr (.inr 55)), (1, .inl x1), (2, .inr (.inl x2)), (4, .inl x4), (5, .inl x5), (6, .inl (x6 + (1 : Int)))] [] (am_wr m 72 x5 (0 : Int)))))))))) :
    am_GV (d + 1) 157 P 153 [(0, .inr (.inr 55)), (1, .inl x1), (2, .inr (.inl x2)), (4, .inl x4), (5, .inl x5), (6, .inl x6)] [] m := am_c0 chk_M_nets rfl (fun S => h)
theorem f_M_nets_212 {d : Nat} {P : am_M → Prop} {x1 : Int} {x2 : Int64} {x4 : Int} {x5 : Int} {x6 : Int} {m : am_M}
    (h : 0 ≤ x5 ∧ x5 < 48 ∧ (((m.1 69 x5) ≤ x6 → (am_R (x5 + (1 : Int)) ∧ (am_GV (d + 1) 157 P 40 [(0, .inr (.inr 55)), (1, .inl x1), (2, .inr (.inl x2)), (4, .inl x4), (5, .inl (x5 + (1 : Int)))] [] m))) ∧ (¬ ((m.1 69 x5) ≤ x6) → (am_R ((3 : Int) * x5) ∧ (am_R (((3 : Int) * x5) + x6) ∧ (0 ≤ (((3 : Int) * x5) + x6) ∧ (((3 : Int) * x5) + x6) < 144 ∧ (0 ≤ (m.1 68 (((3 : Int) * x5) + x6)) ∧ (m.1 68 (((3 : Int) * x5) + x6)) < 96 ∧ (am_R ((m.1 70 (m.1 68 (((3 : Int) * x5) + x6))) + (1 : Int)) ∧ (0 ≤ (m.1 68 (((3 : Int) * x5) + x6)) ∧ (m.1 68 (((3 : Int) * x5) + x6)) < 96 ∧ (am_R ((3 : Int) * x5) ∧ (am_R (((3 : Int) * x5) + x6) ∧ (0 ≤ (((3 : Int) * x5) + x6) ∧ (((3 : Int) * x5) + x6) < 144 ∧ (0 ≤ (m.1 68 (((3 : Int) * x5) + x6)) ∧ (m.1 68 (((3 : Int) * x5) + x6)) < 96 ∧ (am_R ((m.1 71 (m.1 68 (((3 : Int) * x5) + x6))) + x5) ∧ (0 ≤ (m.1 68 (((3 : Int) * x5) + x6)) ∧ (m.1 68 (((3 : Int) * x5) + x6)) < 96 ∧ (am_R (x6 + (1 : Int)) ∧ (am_GV (d + 1) 157 P 212 [(0, .inr (.inr 55)), (1, .inl x1), (2, .inr (.inl x2)), (4, .inl x4), (5, .inl x5), (6, .inl (x6 + (1 : Int)))] [] (am_wr (am_wr m 70 (m.1 68 (((3 : Int) * x5) + x6)) ((m.1 70 (m.1 68 (((3 : Int) * x5) + x6))) + (1 : Int))) 71 (m.1 68 (((3 : Int) * x5) + x6)) ((m.1 71 (m.1 68 (((3 : Int) * x5) + x6))) + x5))))))))))))))))))) :
    am_GV (d + 1) 157 P 212 [(0, .inr (.inr 55)), (1, .inl x1), (2, .inr (.inl x2)), (4, .inl x4), (5, .inl x5), (6, .inl x6)] [] m := am_c0 chk_M_nets rfl (fun S => h)
theorem f_M_nets {d : Nat} {P : am_M → Prop} {x1 : Int} {x2 : Int64} {x4 : Int} {m : am_M}
    (h : am_GV (d + 1) 157 P 3 [(0, .inr (.inr 55)), (1, .inl x1), (2, .inr (.inl x2)), (4, .inl x4), (5, .inl (0 : Int))] [] m) :
    am_OkV (d + 1) 157 [.inr (.inr 55), .inl x1, .inr (.inl x2), .inl x4] m P := am_e0 chk_M_nets rfl (fun S => h)
end
section
theorem f_M_netNow {d : Nat} {P : am_M → Prop}  {m : am_M}
    (h : 0 ≤ (1 : Int) ∧ (1 : Int) < 7 ∧ (0 ≤ (4 : Int) ∧ (4 : Int) < 7 ∧ (am_OkV d 157 [.inr (.inr 55), .inl (m.1 63 (1 : Int)), .inr (.inl (am_i2l (m.1 63 (4 : Int)))), .inl (0 : Int)] m (fun m1 => P m1)))) :
    am_OkV (d + 1) 158 [.inr (.inr 55)] m P := am_e0 chk_M_netNow rfl (fun S => h)
theorem f_M_takesOut_19 {d : Nat} {P : am_M → Prop} {x1 : Int} {x2 : Int} {m : am_M}
    (h : 0 ≤ x1 ∧ x1 < 48 ∧ (((m.1 69 x1) ≤ x2 → (P m)) ∧ (¬ ((m.1 69 x1) ≤ x2) → (am_R ((3 : Int) * x1) ∧ (am_R (((3 : Int) * x1) + x2) ∧ (0 ≤ (((3 : Int) * x1) + x2) ∧ (((3 : Int) * x1) + x2) < 144 ∧ (0 ≤ (m.1 68 (((3 : Int) * x1) + x2)) ∧ (m.1 68 (((3 : Int) * x1) + x2)) < 96 ∧ (am_R ((m.1 70 (m.1 68 (((3 : Int) * x1) + x2))) - (1 : Int)) ∧ (0 ≤ (m.1 68 (((3 : Int) * x1) + x2)) ∧ (m.1 68 (((3 : Int) * x1) + x2)) < 96 ∧ (am_R ((3 : Int) * x1) ∧ (am_R (((3 : Int) * x1) + x2) ∧ (0 ≤ (((3 : Int) * x1) + x2) ∧ (((3 : Int) * x1) + x2) < 144 ∧ (0 ≤ (m.1 68 (((3 : Int) * x1) + x2)) ∧ (m.1 68 (((3 : Int) * x1) + x2)) < 96 ∧ (am_R ((m.1 71 (m.1 68 (((3 : Int) * x1) + x2))) - x1) ∧ (0 ≤ (m.1 68 (((3 : Int) * x1) + x2)) ∧ (m.1 68 (((3 : Int) * x1) + x2)) < 96 ∧ (am_R (x2 + (1 : Int)) ∧ (am_GV (d + 1) 159 P 19 [(0, .inr (.inr 55)), (1, .inl x1), (2, .inl (x2 + (1 : Int)))] [] (am_wr (am_wr m 70 (m.1 68 (((3 : Int) * x1) + x2)) ((m.1 70 (m.1 68 (((3 : Int) * x1) + x2))) - (1 : Int))) 71 (m.1 68 (((3 : Int) * x1) + x2)) ((m.1 71 (m.1 68 (((3 : Int) * x1) + x2))) - x1))))))))))))))))))) :
    am_GV (d + 1) 159 P 19 [(0, .inr (.inr 55)), (1, .inl x1), (2, .inl x2)] [] m := am_c0 chk_M_takesOut rfl (fun S => h)
theorem f_M_takesOut {d : Nat} {P : am_M → Prop} {x1 : Int} {m : am_M}
    (h : 0 ≤ x1 ∧ x1 < 48 ∧ ((0 : Int) = 0 ∨ (0 : Int) = 1) ∧ (am_R ((m.1 6530 (0 : Int)) - (1 : Int)) ∧ (am_GV (d + 1) 159 P 19 [(0, .inr (.inr 55)), (1, .inl x1), (2, .inl (0 : Int))] [] (am_wr (am_wr m 72 x1 (0 : Int)) 6530 (0 : Int) ((m.1 6530 (0 : Int)) - (1 : Int)))))) :
    am_OkV (d + 1) 159 [.inr (.inr 55), .inl x1] m P := am_e0 chk_M_takesOut rfl (fun S => h)
theorem f_M_nextCell_7 {d : Nat} {P : Int → am_M → Prop} {x1 : Int} {x3 : Int} {m : am_M}
    (h : am_R ((3 : Int) * x1) ∧ ((((3 : Int) * x1) ≤ x3 → (P (-1 : Int) m)) ∧ (¬ (((3 : Int) * x1) ≤ x3) → (0 ≤ x3 ∧ x3 < 96 ∧ (((m.1 70 x3) ≠ (1 : Int) → (am_R (x3 + (1 : Int)) ∧ (am_GI (d + 1) 160 P 7 [(0, .inr (.inr 55)), (1, .inl x1), (3, .inl (x3 + (1 : Int)))] [] m))) ∧ (¬ ((m.1 70 x3) ≠ (1 : Int)) → (P x3 m))))))) :
    am_GI (d + 1) 160 P 7 [(0, .inr (.inr 55)), (1, .inl x1), (3, .inl x3)] [] m := am_c1 chk_M_nextCell rfl (fun S => h)
theorem f_M_nextCell_34 {d : Nat} {P : Int → am_M → Prop} {x2 : Int} {m : am_M}
    (h : ((m.1 6536 (0 : Int)) ≤ (m.1 6535 (0 : Int)) → (P (-1 : Int) m)) ∧ (¬ ((m.1 6536 (0 : Int)) ≤ (m.1 6535 (0 : Int))) → ((x2 ≠ (0 : Int) → (am_R ((m.1 6536 (0 : Int)) - (1 : Int)) ∧ (0 ≤ ((m.1 6536 (0 : Int)) - (1 : Int)) ∧ ((m.1 6536 (0 : Int)) - (1 : Int)) < 512 ∧ (0 ≤ (m.1 74 ((m.1 6536 (0 : Int)) - (1 : Int))) ∧ (m.1 74 ((m.1 6536 (0 : Int)) - (1 : Int))) < 96 ∧ (((m.1 70 (m.1 74 ((m.1 6536 (0 : Int)) - (1 : Int)))) ≠ (1 : Int) → (am_GI (d + 1) 160 P 34 [(0, .inr (.inr 55)), (2, .inl x2)] [] (am_wr m 6536 (0 : Int) ((m.1 6536 (0 : Int)) - (1 : Int))))) ∧ (¬ ((m.1 70 (m.1 74 ((m.1 6536 (0 : Int)) - (1 : Int)))) ≠ (1 : Int)) → (P (m.1 74 ((m.1 6536 (0 : Int)) - (1 : Int))) (am_wr m 6536 (0 : Int) ((m.1 6536 (0 : Int)) - (1 : Int)))))))))) ∧ (¬ (x2 ≠ (0 : Int)) → (0 ≤ (m.1 6535 (0 : Int)) ∧ (m.1 6535 (0 : Int)) < 512 ∧ (am_R ((m.1 6535 (0 : Int)) + (1 : Int)) ∧ (0 ≤ (m.1 74 (m.1 6535 (0 : Int))) ∧ (m.1 74 (m.1 6535 (0 : Int))) < 96 ∧ (((m.1 70 (m.1 74 (m.1 6535 (0 : Int)))) ≠ (1 : Int) → (am_GI (d + 1) 160 P 34 [(0, .inr (.inr 55)), (2, .inl x2)] [] (am_wr m 6535 (0 : Int) ((m.1 6535 (0 : Int)) + (1 : Int))))) ∧ (¬ ((m.1 70 (m.1 74 (m.1 6535 (0 : Int)))) ≠ (1 : Int)) → (P (m.1 74 (m.1 6535 (0 : Int))) (am_wr m 6535 (0 : Int) ((m.1 6535 (0 : Int)) + (1 : Int))))))))))))) :
    am_GI (d + 1) 160 P 34 [(0, .inr (.inr 55)), (2, .inl x2)] [] m := am_c1 chk_M_nextCell rfl (fun S => h)
theorem f_M_nextCell {d : Nat} {P : Int → am_M → Prop} {x1 : Int} {x2 : Int} {m : am_M}
    (h : (x2 ≤ (1 : Int) → (am_GI (d + 1) 160 P 34 [(0, .inr (.inr 55)), (2, .inl x2)] [] m)) ∧ (¬ (x2 ≤ (1 : Int)) → (am_GI (d + 1) 160 P 7 [(0, .inr (.inr 55)), (1, .inl x1), (3, .inl (0 : Int))] [] m))) :
    am_OkI (d + 1) 160 [.inr (.inr 55), .inl x1, .inl x2] m P := am_e1 chk_M_nextCell rfl (fun S => h)
theorem f_M_comesBehind {d : Nat} {P : am_M → Prop} {x1 : Int} {m : am_M}
    (h : 0 ≤ (m.1 6536 (0 : Int)) ∧ (m.1 6536 (0 : Int)) < 512 ∧ (am_R ((m.1 6536 (0 : Int)) + (1 : Int)) ∧ (P (am_wr (am_wr m 74 (m.1 6536 (0 : Int)) x1) 6536 (0 : Int) ((m.1 6536 (0 : Int)) + (1 : Int)))))) :
    am_OkV (d + 1) 161 [.inr (.inr 55), .inl x1] m P := am_e0 chk_M_comesBehind rfl (fun S => h)
theorem f_M_peelsBy_17 {d : Nat} {P : am_M → Prop} {x1 : Int} {x2 : Int} {x3 : Int} {m : am_M}
    (h : am_R ((3 : Int) * x1) ∧ ((((3 : Int) * x1) ≤ x3 → (am_OkI d 160 [.inr (.inr 55), .inl x1, .inl x2] m (fun z2 m1 => am_GV (d + 1) 162 P 52 [(0, .inr (.inr 55)), (1, .inl x1), (2, .inl x2), (3, .inl z2)] [] m1))) ∧ (¬ (((3 : Int) * x1) ≤ x3) → (0 ≤ x3 ∧ x3 < 96 ∧ (((m.1 70 x3) ≠ (1 : Int) → (am_R (x3 + (1 : Int)) ∧ (am_GV (d + 1) 162 P 17 [(0, .inr (.inr 55)), (1, .inl x1), (2, .inl x2), (3, .inl (x3 + (1 : Int)))] [] m))) ∧ (¬ ((m.1 70 x3) ≠ (1 : Int)) → (am_OkV d 161 [.inr (.inr 55), .inl x3] m (fun m3 => am_R (x3 + (1 : Int)) ∧ (am_GV (d + 1) 162 P 17 [(0, .inr (.inr 55)), (1, .inl x1), (2, .inl x2), (3, .inl (x3 + (1 : Int)))] [] m3))))))))) :
    am_GV (d + 1) 162 P 17 [(0, .inr (.inr 55)), (1, .inl x1), (2, .inl x2), (3, .inl x3)] [] m := am_c0 chk_M_peelsBy rfl (fun S => h)
theorem f_M_peelsBy_52 {d : Nat} {P : am_M → Prop} {x1 : Int} {x2 : Int} {x3 : Int} {m : am_M}
    (h : (x3 = (-1 : Int) → (P m)) ∧ (¬ (x3 = (-1 : Int)) → (0 ≤ x3 ∧ x3 < 96 ∧ (0 ≤ (m.1 6537 (0 : Int)) ∧ (m.1 6537 (0 : Int)) < 48 ∧ (0 ≤ (m.1 6537 (0 : Int)) ∧ (m.1 6537 (0 : Int)) < 48 ∧ (am_R ((m.1 6537 (0 : Int)) + (1 : Int)) ∧ (am_OkV d 159 [.inr (.inr 55), .inl (m.1 71 x3)] (am_wr (am_wr (am_wr m 75 (m.1 6537 (0 : Int)) (m.1 71 x3)) 76 (m.1 6537 (0 : Int)) x3) 6537 (0 : Int) ((m.1 6537 (0 : Int)) + (1 : Int))) (fun m1 => am_GV (d + 1) 162 P 105 [(0, .inr (.inr 55)), (1, .inl x1), (2, .inl x2), (4, .inl (m.1 71 x3)), (5, .inl (0 : Int))] [] m1)))))))) :
    am_GV (d + 1) 162 P 52 [(0, .inr (.inr 55)), (1, .inl x1), (2, .inl x2), (3, .inl x3)] [] m := am_c0 chk_M_peelsBy rfl (fun S => h)
theorem f_M_peelsBy_105 {d : Nat} {P : am_M → Prop} {x1 : Int} {x2 : Int} {x4 : Int} {x5 : Int} {m : am_M}
    (h : am_R ((3 : Int) * x1) ∧ ((((3 : Int) * x1) ≤ x5 → (am_OkI d 160 [.inr (.inr 55), .inl x1, .inl x2] m (fun z2 m1 => am_GV (d + 1) 162 P 52 [(0, .inr (.inr 55)), (1, .inl x1), (2, .inl x2), (3, .inl z2)] [] m1))) ∧ (¬ (((3 : Int) * x1) ≤ x5) → (0 ≤ x5 ∧ x5 < 96 ∧ (((m.1 70 x5) ≠ (1 : Int) → (am_R (x5 + (1 : Int)) ∧ (am_GV (d + 1) 162 P 105 [(0, .inr (.inr 55)), (1, .inl x1), (2, .inl x2), (4, .inl x4), (5, .inl (x5 + (1 : Int)))] [] m))) ∧ (¬ ((m.1 70 x5) ≠ (1 : Int)) → (am_OkI d 163 [.inr (.inr 55), .inl x4, .inl x5] m (fun z4 m3 => (z4 = (0 : Int) → (am_R (x5 + (1 : Int)) ∧ (am_GV (d + 1) 162 P 105 [(0, .inr (.inr 55)), (1, .inl x1), (2, .inl x2), (4, .inl x4), (5, .inl (x5 + (1 : Int)))] [] m3))) ∧ (¬ (z4 = (0 : Int)) → (am_OkV d 161 [.inr (.inr 55), .inl x5] m3 (fun m5 => am_R (x5 + (1 : Int)) ∧ (am_GV (d + 1) 162 P 105 [(0, .inr (.inr 55)), (1, .inl x1), (2, .inl x2), (4, .inl x4), (5, .inl (x5 + (1 : Int)))] [] m5)))))))))))) :
    am_GV (d + 1) 162 P 105 [(0, .inr (.inr 55)), (1, .inl x1), (2, .inl x2), (4, .inl x4), (5, .inl x5)] [] m := am_c0 chk_M_peelsBy rfl (fun S => h)
theorem f_M_peelsBy {d : Nat} {P : am_M → Prop} {x1 : Int} {x2 : Int} {m : am_M}
    (h : am_GV (d + 1) 162 P 17 [(0, .inr (.inr 55)), (1, .inl x1), (2, .inl x2), (3, .inl (0 : Int))] [] (am_wr (am_wr (am_wr m 6535 (0 : Int) (0 : Int)) 6536 (0 : Int) (0 : Int)) 6537 (0 : Int) (0 : Int))) :
    am_OkV (d + 1) 162 [.inr (.inr 55), .inl x1, .inl x2] m P := am_e0 chk_M_peelsBy rfl (fun S => h)
theorem f_M_isOf_2 {d : Nat} {P : Int → am_M → Prop} {x1 : Int} {x2 : Int} {x3 : Int} {m : am_M}
    (h : 0 ≤ x1 ∧ x1 < 48 ∧ (((m.1 69 x1) ≤ x3 → (((0 : Int) = 0 ∨ (0 : Int) = 1) ∧ P (0 : Int) m)) ∧ (¬ ((m.1 69 x1) ≤ x3) → (am_R ((3 : Int) * x1) ∧ (am_R (((3 : Int) * x1) + x3) ∧ (0 ≤ (((3 : Int) * x1) + x3) ∧ (((3 : Int) * x1) + x3) < 144 ∧ (((m.1 68 (((3 : Int) * x1) + x3)) ≠ x2 → (am_R (x3 + (1 : Int)) ∧ (am_GI (d + 1) 163 P 2 [(0, .inr (.inr 55)), (1, .inl x1), (2, .inl x2), (3, .inl (x3 + (1 : Int)))] [] m))) ∧ (¬ ((m.1 68 (((3 : Int) * x1) + x3)) ≠ x2) → (((1 : Int) = 0 ∨ (1 : Int) = 1) ∧ P (1 : Int) m))))))))) :
    am_GI (d + 1) 163 P 2 [(0, .inr (.inr 55)), (1, .inl x1), (2, .inl x2), (3, .inl x3)] [] m := am_c1 chk_M_isOf rfl (fun S => h)
theorem f_M_isOf {d : Nat} {P : Int → am_M → Prop} {x1 : Int} {x2 : Int} {m : am_M}
    (h : am_GI (d + 1) 163 P 2 [(0, .inr (.inr 55)), (1, .inl x1), (2, .inl x2), (3, .inl (0 : Int))] [] m) :
    am_OkI (d + 1) 163 [.inr (.inr 55), .inl x1, .inl x2] m P := am_e1 chk_M_isOf rfl (fun S => h)
theorem f_M_peelNow {d : Nat} {P : am_M → Prop}  {m : am_M}
    (h : am_OkV d 158 [.inr (.inr 55)] m (fun m1 => 0 ≤ (1 : Int) ∧ (1 : Int) < 7 ∧ (0 ≤ (5 : Int) ∧ (5 : Int) < 7 ∧ (am_OkV d 162 [.inr (.inr 55), .inl (m1.1 63 (1 : Int)), .inl (m1.1 63 (5 : Int))] m1 (fun m2 => P m2))))) :
    am_OkV (d + 1) 164 [.inr (.inr 55)] m P := am_e0 chk_M_peelNow rfl (fun S => h)
theorem f_M_peelsAll {d : Nat} {P : Int → am_M → Prop} {x1 : Int} {x2 : Int64} {x4 : Int} {m : am_M}
    (h : am_OkV d 157 [.inr (.inr 55), .inl x1, .inr (.inl x2), .inl x4] m (fun m1 => am_OkV d 162 [.inr (.inr 55), .inl x1, .inl (0 : Int)] m1 (fun m2 => ((m2.1 6530 (0 : Int)) ≠ (0 : Int) → (((0 : Int) = 0 ∨ (0 : Int) = 1) ∧ P (0 : Int) m2)) ∧ (¬ ((m2.1 6530 (0 : Int)) ≠ (0 : Int)) → (((1 : Int) = 0 ∨ (1 : Int) = 1) ∧ P (1 : Int) m2))))) :
    am_OkI (d + 1) 165 [.inr (.inr 55), .inl x1, .inr (.inl x2), .inl x4] m P := am_e1 chk_M_peelsAll rfl (fun S => h)
theorem f_M_load {d : Nat} {P : Int → am_M → Prop} {x1 : Int} {m : am_M}
    (h : 0 ≤ (1 : Int) ∧ (1 : Int) < 7 ∧ (am_R ((3 : Int) * (m.1 63 (1 : Int))) ∧ (am_R (((3 : Int) * (m.1 63 (1 : Int))) - (1 : Int)) ∧ (am_OkI d 113 [.inl x1, .inl (0 : Int), .inl (((3 : Int) * (m.1 63 (1 : Int))) - (1 : Int))] (am_wr m 6500 (0 : Int) (0 : Int)) (fun z2 m1 => (z2 ≠ (0 : Int) → (am_OkV d 158 [.inr (.inr 55)] m1 (fun m3 => 0 ≤ x1 ∧ x1 < 96 ∧ (P (m3.1 70 x1) m3)))) ∧ (¬ (z2 ≠ (0 : Int)) → (P (-1 : Int) m1))))))) :
    am_OkI (d + 1) 166 [.inr (.inr 55), .inl x1] m P := am_e1 chk_M_load rfl (fun S => h)
theorem f_M_twins_13 {d : Nat} {P : Int → am_M → Prop} {x1 : Int} {x2 : Int} {m : am_M}
    (h : ((m.1 6521 (0 : Int)) ≤ x2 → (P x1 m)) ∧ (¬ ((m.1 6521 (0 : Int)) ≤ x2) → (am_GI (d + 1) 167 P 23 [(0, .inr (.inr 55)), (1, .inl x1), (2, .inl x2), (3, .inl (0 : Int))] [] m))) :
    am_GI (d + 1) 167 P 13 [(0, .inr (.inr 55)), (1, .inl x1), (2, .inl x2)] [] m := am_c1 chk_M_twins rfl (fun S => h)
theorem f_M_twins_23 {d : Nat} {P : Int → am_M → Prop} {x1 : Int} {x2 : Int} {x3 : Int} {m : am_M}
    (h : (x2 ≤ x3 → (am_R (x2 + (1 : Int)) ∧ (am_GI (d + 1) 167 P 13 [(0, .inr (.inr 55)), (1, .inl x1), (2, .inl (x2 + (1 : Int)))] [] m))) ∧ (¬ (x2 ≤ x3) → (am_OkI d 168 [.inr (.inr 55), .inl x2, .inl x3] m (fun z2 m1 => (z2 = (0 : Int) → (am_R (x3 + (1 : Int)) ∧ (am_GI (d + 1) 167 P 23 [(0, .inr (.inr 55)), (1, .inl x1), (2, .inl x2), (3, .inl (x3 + (1 : Int)))] [] m1))) ∧ (¬ (z2 = (0 : Int)) → (am_R (x1 + (1 : Int)) ∧ (am_R (x3 + (1 : Int)) ∧ (am_GI (d + 1) 167 P 23 [(0, .inr (.inr 55)), (1, .inl (x1 + (1 : Int))), (2, .inl x2), (3, .inl (x3 + (1 : Int)))] [] m1)))))))) :
    am_GI (d + 1) 167 P 23 [(0, .inr (.inr 55)), (1, .inl x1), (2, .inl x2), (3, .inl x3)] [] m := am_c1 chk_M_twins rfl (fun S => h)
theorem f_M_twins {d : Nat} {P : Int → am_M → Prop}  {m : am_M}
    (h : am_OkV d 158 [.inr (.inr 55)] (am_wr m 6500 (0 : Int) (0 : Int)) (fun m1 => am_GI (d + 1) 167 P 13 [(0, .inr (.inr 55)), (1, .inl (0 : Int)), (2, .inl (0 : Int))] [] m1)) :
    am_OkI (d + 1) 167 [.inr (.inr 55)] m P := am_e1 chk_M_twins rfl (fun S => h)
theorem f_M_areTwins_19 {d : Nat} {P : Int → am_M → Prop} {x1 : Int} {x2 : Int} {x3 : Int} {m : am_M}
    (h : 0 ≤ x1 ∧ x1 < 48 ∧ (((m.1 69 x1) ≤ x3 → (((1 : Int) = 0 ∨ (1 : Int) = 1) ∧ P (1 : Int) m)) ∧ (¬ ((m.1 69 x1) ≤ x3) → (am_R ((3 : Int) * x1) ∧ (am_R (((3 : Int) * x1) + x3) ∧ (0 ≤ (((3 : Int) * x1) + x3) ∧ (((3 : Int) * x1) + x3) < 144 ∧ (am_OkI d 163 [.inr (.inr 55), .inl x2, .inl (m.1 68 (((3 : Int) * x1) + x3))] m (fun z2 m1 => (z2 ≠ (0 : Int) → (am_R (x3 + (1 : Int)) ∧ (am_GI (d + 1) 168 P 19 [(0, .inr (.inr 55)), (1, .inl x1), (2, .inl x2), (3, .inl (x3 + (1 : Int)))] [] m1))) ∧ (¬ (z2 ≠ (0 : Int)) → (((0 : Int) = 0 ∨ (0 : Int) = 1) ∧ P (0 : Int) m1)))))))))) :
    am_GI (d + 1) 168 P 19 [(0, .inr (.inr 55)), (1, .inl x1), (2, .inl x2), (3, .inl x3)] [] m := am_c1 chk_M_areTwins rfl (fun S => h)
theorem f_M_areTwins {d : Nat} {P : Int → am_M → Prop} {x1 : Int} {x2 : Int} {m : am_M}
    (h : 0 ≤ x1 ∧ x1 < 48 ∧ (0 ≤ x2 ∧ x2 < 48 ∧ (((m.1 69 x1) = (m.1 69 x2) → (am_GI (d + 1) 168 P 19 [(0, .inr (.inr 55)), (1, .inl x1), (2, .inl x2), (3, .inl (0 : Int))] [] m)) ∧ (¬ ((m.1 69 x1) = (m.1 69 x2)) → (((0 : Int) = 0 ∨ (0 : Int) = 1) ∧ P (0 : Int) m))))) :
    am_OkI (d + 1) 168 [.inr (.inr 55), .inl x1, .inl x2] m P := am_e1 chk_M_areTwins rfl (fun S => h)
theorem f_M_peel {d : Nat} {P : Int → am_M → Prop} {x1 : Int} {x2 : Int} {m : am_M}
    (h : am_OkV d 164 [.inr (.inr 55)] (am_wr m 6500 (0 : Int) (0 : Int)) (fun m1 => (x1 ≠ (-1 : Int) → (am_R ((m1.1 6537 (0 : Int)) - (1 : Int)) ∧ (am_OkI d 113 [.inl x1, .inl (0 : Int), .inl ((m1.1 6537 (0 : Int)) - (1 : Int))] m1 (fun z3 m2 => (z3 = (0 : Int) → (P (-1 : Int) m2)) ∧ (¬ (z3 = (0 : Int)) → (am_OkI d 113 [.inl x2, .inl (0 : Int), .inl (1 : Int)] m2 (fun z5 m4 => (z5 ≠ (0 : Int) → ((x2 ≠ (0 : Int) → (0 ≤ x1 ∧ x1 < 48 ∧ (P (m4.1 76 x1) m4))) ∧ (¬ (x2 ≠ (0 : Int)) → (0 ≤ x1 ∧ x1 < 48 ∧ (P (m4.1 75 x1) m4))))) ∧ (¬ (z5 ≠ (0 : Int)) → (P (-1 : Int) m4))))))))) ∧ (¬ (x1 ≠ (-1 : Int)) → ((x2 ≠ (0 : Int) → (P (-1 : Int) m1)) ∧ (¬ (x2 ≠ (0 : Int)) → (P (m1.1 6537 (0 : Int)) m1)))))) :
    am_OkI (d + 1) 169 [.inr (.inr 55), .inl x1, .inl x2] m P := am_e1 chk_M_peel rfl (fun S => h)
theorem f_M_core_23 {d : Nat} {P : Int → am_M → Prop} {x1 : Int} {x2 : Int} {x3 : Int} {m : am_M}
    (h : ((m.1 6521 (0 : Int)) ≤ x3 → (P (-2 : Int) m)) ∧ (¬ ((m.1 6521 (0 : Int)) ≤ x3) → ((x1 < (0 : Int) → (P (-2 : Int) m)) ∧ (¬ (x1 < (0 : Int)) → (0 ≤ x3 ∧ x3 < 48 ∧ (((m.1 72 x3) ≠ (0 : Int) → ((x2 ≠ (0 : Int) → (am_R (x2 + (-1 : Int)) ∧ (am_R (x3 + (1 : Int)) ∧ (am_GI (d + 1) 170 P 23 [(0, .inr (.inr 55)), (1, .inl x1), (2, .inl (x2 + (-1 : Int))), (3, .inl (x3 + (1 : Int)))] [] m)))) ∧ (¬ (x2 ≠ (0 : Int)) → (P x3 m)))) ∧ (¬ ((m.1 72 x3) ≠ (0 : Int)) → (am_R (x3 + (1 : Int)) ∧ (am_GI (d + 1) 170 P 23 [(0, .inr (.inr 55)), (1, .inl x1), (2, .inl x2), (3, .inl (x3 + (1 : Int)))] [] m))))))))) :
    am_GI (d + 1) 170 P 23 [(0, .inr (.inr 55)), (1, .inl x1), (2, .inl x2), (3, .inl x3)] [] m := am_c1 chk_M_core rfl (fun S => h)
theorem f_M_core {d : Nat} {P : Int → am_M → Prop} {x1 : Int} {m : am_M}
    (h : am_OkV d 164 [.inr (.inr 55)] (am_wr m 6500 (0 : Int) (0 : Int)) (fun m1 => (x1 ≠ (-1 : Int) → (am_GI (d + 1) 170 P 23 [(0, .inr (.inr 55)), (1, .inl x1), (2, .inl x1), (3, .inl (0 : Int))] [] m1)) ∧ (¬ (x1 ≠ (-1 : Int)) → (P (m1.1 6530 (0 : Int)) m1)))) :
    am_OkI (d + 1) 170 [.inr (.inr 55), .inl x1] m P := am_e1 chk_M_core rfl (fun S => h)
theorem f_M_laysLevels_6 {d : Nat} {P : Int → am_M → Prop} {x1 : Int} {m : am_M}
    (h : ((48 : Int) ≤ x1 → (am_GI (d + 1) 171 P 29 [(0, .inr (.inr 55)), (1, .inl (0 : Int)), (2, .inl (1 : Int))] [] m)) ∧ (¬ ((48 : Int) ≤ x1) → (0 ≤ x1 ∧ x1 < 48 ∧ (am_R (x1 + (1 : Int)) ∧ (am_GI (d + 1) 171 P 6 [(0, .inr (.inr 55)), (1, .inl (x1 + (1 : Int)))] [] (am_wr m 77 x1 (0 : Int))))))) :
    am_GI (d + 1) 171 P 6 [(0, .inr (.inr 55)), (1, .inl x1)] [] m := am_c1 chk_M_laysLevels rfl (fun S => h)
theorem f_M_laysLevels_29 {d : Nat} {P : Int → am_M → Prop} {x1 : Int} {x2 : Int} {m : am_M}
    (h : (x2 = (0 : Int) → (P x1 m)) ∧ (¬ (x2 = (0 : Int)) → (am_GI (d + 1) 171 P 37 [(0, .inr (.inr 55)), (1, .inl x1), (2, .inl (0 : Int)), (3, .inl (0 : Int))] [] m))) :
    am_GI (d + 1) 171 P 29 [(0, .inr (.inr 55)), (1, .inl x1), (2, .inl x2)] [] m := am_c1 chk_M_laysLevels rfl (fun S => h)
theorem f_M_laysLevels_37 {d : Nat} {P : Int → am_M → Prop} {x1 : Int} {x2 : Int} {x3 : Int} {m : am_M}
    (h : ((m.1 6521 (0 : Int)) ≤ x3 → (am_GI (d + 1) 171 P 111 [(0, .inr (.inr 55)), (1, .inl x1), (2, .inl x2), (3, .inl (0 : Int))] [] m)) ∧ (¬ ((m.1 6521 (0 : Int)) ≤ x3) → (am_GI (d + 1) 171 P 48 [(0, .inr (.inr 55)), (1, .inl x1), (2, .inl x2), (3, .inl x3), (4, .inl (0 : Int))] [] m))) :
    am_GI (d + 1) 171 P 37 [(0, .inr (.inr 55)), (1, .inl x1), (2, .inl x2), (3, .inl x3)] [] m := am_c1 chk_M_laysLevels rfl (fun S => h)
theorem f_M_laysLevels_48 {d : Nat} {P : Int → am_M → Prop} {x1 : Int} {x2 : Int} {x3 : Int} {x4 : Int} {m : am_M}
    (h : 0 ≤ x3 ∧ x3 < 48 ∧ (((m.1 69 x3) ≤ x4 → (am_R (x3 + (1 : Int)) ∧ (am_GI (d + 1) 171 P 37 [(0, .inr (.inr 55)), (1, .inl x1), (2, .inl x2), (3, .inl (x3 + (1 : Int)))] [] m))) ∧ (¬ ((m.1 69 x3) ≤ x4) → (0 ≤ x3 ∧ x3 < 48 ∧ (((m.1 72 x3) = (0 : Int) → (am_R (x3 + (1 : Int)) ∧ (am_GI (d + 1) 171 P 37 [(0, .inr (.inr 55)), (1, .inl x1), (2, .inl x2), (3, .inl (x3 + (1 : Int)))] [] m))) ∧ (¬ ((m.1 72 x3) = (0 : Int)) → (am_R ((3 : Int) * x3) ∧ (am_R (((3 : Int) * x3) + x4) ∧ (0 ≤ (((3 : Int) * x3) + x4) ∧ (((3 : Int) * x3) + x4) < 144 ∧ (0 ≤ (m.1 68 (((3 : Int) * x3) + x4)) ∧ (m.1 68 (((3 : Int) * x3) + x4)) < 96 ∧ (((m.1 70 (m.1 68 (((3 : Int) * x3) + x4))) ≠ (1 : Int) → (am_R (x4 + (1 : Int)) ∧ (am_GI (d + 1) 171 P 48 [(0, .inr (.inr 55)), (1, .inl x1), (2, .inl x2), (3, .inl x3), (4, .inl (x4 + (1 : Int)))] [] m))) ∧ (¬ ((m.1 70 (m.1 68 (((3 : Int) * x3) + x4))) ≠ (1 : Int)) → (am_R (x1 + (1 : Int)) ∧ (0 ≤ x3 ∧ x3 < 48 ∧ (am_R (x4 + (1 : Int)) ∧ (am_GI (d + 1) 171 P 48 [(0, .inr (.inr 55)), (1, .inl x1), (2, .inl x2), (3, .inl x3), (4, .inl (x4 + (1 : Int)))] [] (am_wr m 77 x3 (x1 + (1 : Int))))))))))))))))))) :
    am_GI (d + 1) 171 P 48 [(0, .inr (.inr 55)), (1, .inl x1), (2, .inl x2), (3, .inl x3), (4, .inl x4)] [] m := am_c1 chk_M_laysLevels rfl (fun S => h)
theorem f_M_laysLevels_111 {d : Nat} {P : Int → am_M → Prop} {x1 : Int} {x2 : Int} {x3 : Int} {m : am_M}
    (h : ((m.1 6521 (0 : Int)) ≤ x3 → ((x2 = (0 : Int) → (am_GI (d + 1) 171 P 29 [(0, .inr (.inr 55)), (1, .inl x1), (2, .inl x2)] [] m)) ∧ (¬ (x2 = (0 : Int)) → (am_R (x1 + (1 : Int)) ∧ (am_GI (d + 1) 171 P 29 [(0, .inr (.inr 55)), (1, .inl (x1 + (1 : Int))), (2, .inl x2)] [] m))))) ∧ (¬ ((m.1 6521 (0 : Int)) ≤ x3) → (0 ≤ x3 ∧ x3 < 48 ∧ (((m.1 72 x3) = (0 : Int) → (am_R (x3 + (1 : Int)) ∧ (am_GI (d + 1) 171 P 111 [(0, .inr (.inr 55)), (1, .inl x1), (2, .inl x2), (3, .inl (x3 + (1 : Int)))] [] m))) ∧ (¬ ((m.1 72 x3) = (0 : Int)) → (0 ≤ x3 ∧ x3 < 48 ∧ (((m.1 77 x3) ≠ (0 : Int) → (am_OkV d 159 [.inr (.inr 55), .inl x3] m (fun m1 => am_R (x3 + (1 : Int)) ∧ (am_GI (d + 1) 171 P 111 [(0, .inr (.inr 55)), (1, .inl x1), (2, .inl (1 : Int)), (3, .inl (x3 + (1 : Int)))] [] m1)))) ∧ (¬ ((m.1 77 x3) ≠ (0 : Int)) → (am_R (x3 + (1 : Int)) ∧ (am_GI (d + 1) 171 P 111 [(0, .inr (.inr 55)), (1, .inl x1), (2, .inl x2), (3, .inl (x3 + (1 : Int)))] [] m)))))))))) :
    am_GI (d + 1) 171 P 111 [(0, .inr (.inr 55)), (1, .inl x1), (2, .inl x2), (3, .inl x3)] [] m := am_c1 chk_M_laysLevels rfl (fun S => h)
theorem f_M_laysLevels {d : Nat} {P : Int → am_M → Prop}  {m : am_M}
    (h : am_OkV d 158 [.inr (.inr 55)] m (fun m1 => am_GI (d + 1) 171 P 6 [(0, .inr (.inr 55)), (1, .inl (0 : Int))] [] m1)) :
    am_OkI (d + 1) 171 [.inr (.inr 55)] m P := am_e1 chk_M_laysLevels rfl (fun S => h)
theorem f_M_level {d : Nat} {P : Int → am_M → Prop} {x1 : Int} {m : am_M}
    (h : am_OkI d 171 [.inr (.inr 55)] (am_wr m 6500 (0 : Int) (0 : Int)) (fun z2 m1 => (x1 ≠ (-1 : Int) → (am_OkI d 137 [.inr (.inr 55), .inl x1] m1 (fun z4 m3 => (z4 ≠ (0 : Int) → (0 ≤ x1 ∧ x1 < 48 ∧ (((m3.1 77 x1) ≠ (0 : Int) → (0 ≤ x1 ∧ x1 < 48 ∧ (P (m3.1 77 x1) m3))) ∧ (¬ ((m3.1 77 x1) ≠ (0 : Int)) → (P (-2 : Int) m3))))) ∧ (¬ (z4 ≠ (0 : Int)) → (P (-1 : Int) m3))))) ∧ (¬ (x1 ≠ (-1 : Int)) → (P z2 m1)))) :
    am_OkI (d + 1) 172 [.inr (.inr 55), .inl x1] m P := am_e1 chk_M_level rfl (fun S => h)
theorem f_M_rank_11 {d : Nat} {P : Int → am_M → Prop} {x1 : Int} {m : am_M}
    (h : ((96 : Int) ≤ x1 → (am_GI (d + 1) 173 P 41 [(0, .inr (.inr 55)), (1, .inl (0 : Int)), (2, .inl (0 : Int))] [] m)) ∧ (¬ ((96 : Int) ≤ x1) → (0 ≤ x1 ∧ x1 < 96 ∧ (0 ≤ x1 ∧ x1 < 96 ∧ (am_R (x1 + (1 : Int)) ∧ (am_GI (d + 1) 173 P 11 [(0, .inr (.inr 55)), (1, .inl (x1 + (1 : Int)))] [] (am_wl (am_wl m 78 x1 (Int64.ofNat 0)) 79 x1 (Int64.ofNat 0)))))))) :
    am_GI (d + 1) 173 P 11 [(0, .inr (.inr 55)), (1, .inl x1)] [] m := am_c1 chk_M_rank rfl (fun S => h)
theorem f_M_rank_41 {d : Nat} {P : Int → am_M → Prop} {x1 : Int} {x2 : Int} {m : am_M}
    (h : ((m.1 6521 (0 : Int)) ≤ x2 → (P x1 m)) ∧ (¬ ((m.1 6521 (0 : Int)) ≤ x2) → (am_GI (d + 1) 173 P 57 [(0, .inr (.inr 55)), (1, .inl x1), (2, .inl x2), (3, .inr (.inl (Int64.ofNat 0))), (5, .inr (.inl (Int64.ofNat 0))), (7, .inl (0 : Int))] [] m))) :
    am_GI (d + 1) 173 P 41 [(0, .inr (.inr 55)), (1, .inl x1), (2, .inl x2)] [] m := am_c1 chk_M_rank rfl (fun S => h)
theorem f_M_rank_57 {d : Nat} {P : Int → am_M → Prop} {x1 : Int} {x2 : Int} {x3 : Int64} {x5 : Int64} {x7 : Int} {m : am_M}
    (h : 0 ≤ x2 ∧ x2 < 48 ∧ (((m.1 69 x2) ≤ x7 → (am_GI (d + 1) 173 P 120 [(0, .inr (.inr 55)), (1, .inl x1), (2, .inl x2), (3, .inr (.inl x3)), (5, .inr (.inl x5)), (7, .inl (95 : Int))] [] m)) ∧ (¬ ((m.1 69 x2) ≤ x7) → (am_R ((3 : Int) * x2) ∧ (am_R (((3 : Int) * x2) + x7) ∧ (0 ≤ (((3 : Int) * x2) + x7) ∧ (((3 : Int) * x2) + x7) < 144 ∧ (((48 : Int) ≤ (m.1 68 (((3 : Int) * x2) + x7)) → (am_R ((m.1 68 (((3 : Int) * x2) + x7)) - (48 : Int)) ∧ (am_R (x7 + (1 : Int)) ∧ (am_GI (d + 1) 173 P 57 [(0, .inr (.inr 55)), (1, .inl x1), (2, .inl x2), (3, .inr (.inl x3)), (5, .inr (.inl (x5 ||| (am_lshl (Int64.ofNat 1) ((m.1 68 (((3 : Int) * x2) + x7)) - (48 : Int)))))), (7, .inl (x7 + (1 : Int)))] [] m)))) ∧ (¬ ((48 : Int) ≤ (m.1 68 (((3 : Int) * x2) + x7))) → (am_R (x7 + (1 : Int)) ∧ (am_GI (d + 1) 173 P 57 [(0, .inr (.inr 55)), (1, .inl x1), (2, .inl x2), (3, .inr (.inl (x3 ||| (am_lshl (Int64.ofNat 1) (m.1 68 (((3 : Int) * x2) + x7)))))), (5, .inr (.inl x5)), (7, .inl (x7 + (1 : Int)))] [] m)))))))))) :
    am_GI (d + 1) 173 P 57 [(0, .inr (.inr 55)), (1, .inl x1), (2, .inl x2), (3, .inr (.inl x3)), (5, .inr (.inl x5)), (7, .inl x7)] [] m := am_c1 chk_M_rank rfl (fun S => h)
theorem f_M_rank_120 {d : Nat} {P : Int → am_M → Prop} {x1 : Int} {x2 : Int} {x3 : Int64} {x5 : Int64} {x7 : Int} {m : am_M}
    (h : (x7 < (0 : Int) → (am_R (x2 + (1 : Int)) ∧ (am_GI (d + 1) 173 P 41 [(0, .inr (.inr 55)), (1, .inl x1), (2, .inl (x2 + (1 : Int)))] [] m))) ∧ (¬ (x7 < (0 : Int)) → (((48 : Int) ≤ x7 → (am_R (x7 - (48 : Int)) ∧ (((am_lcmp ((am_lshr x5 (x7 - (48 : Int))) &&& (Int64.ofNat 1)) (Int64.ofNat 0)) ≠ (0 : Int) → (0 ≤ x7 ∧ x7 < 96 ∧ (((am_lcmp (m.2 78 x7) (Int64.ofNat 0)) ≠ (0 : Int) → (0 ≤ x7 ∧ x7 < 96 ∧ (0 ≤ x7 ∧ x7 < 96 ∧ (am_R (x7 + (-1 : Int)) ∧ (am_GI (d + 1) 173 P 120 [(0, .inr (.inr 55)), (1, .inl x1), (2, .inl x2), (3, .inr (.inl (x3 ^^^ (m.2 78 x7)))), (5, .inr (.inl (x5 ^^^ (m.2 79 x7)))), (7, .inl (x7 + (-1 : Int)))] [] m))))) ∧ (¬ ((am_lcmp (m.2 78 x7) (Int64.ofNat 0)) ≠ (0 : Int)) → (0 ≤ x7 ∧ x7 < 96 ∧ (((am_lcmp (m.2 79 x7) (Int64.ofNat 0)) ≠ (0 : Int) → (0 ≤ x7 ∧ x7 < 96 ∧ (0 ≤ x7 ∧ x7 < 96 ∧ (am_R (x7 + (-1 : Int)) ∧ (am_GI (d + 1) 173 P 120 [(0, .inr (.inr 55)), (1, .inl x1), (2, .inl x2), (3, .inr (.inl (x3 ^^^ (m.2 78 x7)))), (5, .inr (.inl (x5 ^^^ (m.2 79 x7)))), (7, .inl (x7 + (-1 : Int)))] [] m))))) ∧ (¬ ((am_lcmp (m.2 79 x7) (Int64.ofNat 0)) ≠ (0 : Int)) → (0 ≤ x7 ∧ x7 < 96 ∧ (0 ≤ x7 ∧ x7 < 96 ∧ (am_R (x1 + (1 : Int)) ∧ (am_R (x7 + (-1 : Int)) ∧ (am_GI (d + 1) 173 P 120 [(0, .inr (.inr 55)), (1, .inl (x1 + (1 : Int))), (2, .inl x2), (3, .inr (.inl (Int64.ofNat 0))), (5, .inr (.inl (Int64.ofNat 0))), (7, .inl (x7 + (-1 : Int)))] [] (am_wl (am_wl m 78 x7 x3) 79 x7 x5))))))))))))) ∧ (¬ ((am_lcmp ((am_lshr x5 (x7 - (48 : Int))) &&& (Int64.ofNat 1)) (Int64.ofNat 0)) ≠ (0 : Int)) → (am_R (x7 + (-1 : Int)) ∧ (am_GI (d + 1) 173 P 120 [(0, .inr (.inr 55)), (1, .inl x1), (2, .inl x2), (3, .inr (.inl x3)), (5, .inr (.inl x5)), (7, .inl (x7 + (-1 : Int)))] [] m)))))) ∧ (¬ ((48 : Int) ≤ x7) → (((am_lcmp ((am_lshr x3 x7) &&& (Int64.ofNat 1)) (Int64.ofNat 0)) ≠ (0 : Int) → (0 ≤ x7 ∧ x7 < 96 ∧ (((am_lcmp (m.2 78 x7) (Int64.ofNat 0)) ≠ (0 : Int) → (0 ≤ x7 ∧ x7 < 96 ∧ (0 ≤ x7 ∧ x7 < 96 ∧ (am_R (x7 + (-1 : Int)) ∧ (am_GI (d + 1) 173 P 120 [(0, .inr (.inr 55)), (1, .inl x1), (2, .inl x2), (3, .inr (.inl (x3 ^^^ (m.2 78 x7)))), (5, .inr (.inl (x5 ^^^ (m.2 79 x7)))), (7, .inl (x7 + (-1 : Int)))] [] m))))) ∧ (¬ ((am_lcmp (m.2 78 x7) (Int64.ofNat 0)) ≠ (0 : Int)) → (0 ≤ x7 ∧ x7 < 96 ∧ (((am_lcmp (m.2 79 x7) (Int64.ofNat 0)) ≠ (0 : Int) → (0 ≤ x7 ∧ x7 < 96 ∧ (0 ≤ x7 ∧ x7 < 96 ∧ (am_R (x7 + (-1 : Int)) ∧ (am_GI (d + 1) 173 P 120 [(0, .inr (.inr 55)), (1, .inl x1), (2, .inl x2), (3, .inr (.inl (x3 ^^^ (m.2 78 x7)))), (5, .inr (.inl (x5 ^^^ (m.2 79 x7)))), (7, .inl (x7 + (-1 : Int)))] [] m))))) ∧ (¬ ((am_lcmp (m.2 79 x7) (Int64.ofNat 0)) ≠ (0 : Int)) → (0 ≤ x7 ∧ x7 < 96 ∧ (0 ≤ x7 ∧ x7 < 96 ∧ (am_R (x1 + (1 : Int)) ∧ (am_R (x7 + (-1 : Int)) ∧ (am_GI (d + 1) 173 P 120 [(0, .inr (.inr 55)), (1, .inl (x1 + (1 : Int))), (2, .inl x2), (3, .inr (.inl (Int64.ofNat 0))), (5, .inr (.inl (Int64.ofNat 0))), (7, .inl (x7 + (-1 : Int)))] [] (am_wl (am_wl m 78 x7 x3) 79 x7 x5))))))))))))) ∧ (¬ ((am_lcmp ((am_lshr x3 x7) &&& (Int64.ofNat 1)) (Int64.ofNat 0)) ≠ (0 : Int)) → (am_R (x7 + (-1 : Int)) ∧ (am_GI (d + 1) 173 P 120 [(0, .inr (.inr 55)), (1, .inl x1), (2, .inl x2), (3, .inr (.inl x3)), (5, .inr (.inl x5)), (7, .inl (x7 + (-1 : Int)))] [] m)))))))) :
    am_GI (d + 1) 173 P 120 [(0, .inr (.inr 55)), (1, .inl x1), (2, .inl x2), (3, .inr (.inl x3)), (5, .inr (.inl x5)), (7, .inl x7)] [] m := am_c1 chk_M_rank rfl (fun S => h)
theorem f_M_rank {d : Nat} {P : Int → am_M → Prop}  {m : am_M}
    (h : am_OkV d 158 [.inr (.inr 55)] (am_wr m 6500 (0 : Int) (0 : Int)) (fun m1 => am_GI (d + 1) 173 P 11 [(0, .inr (.inr 55)), (1, .inl (0 : Int))] [] m1)) :
    am_OkI (d + 1) 173 [.inr (.inr 55)] m P := am_e1 chk_M_rank rfl (fun S => h)
theorem f_M_findsOut_27 {d : Nat} {P : Int → am_M → Prop} {x1 : Int} {x2 : Int} {x4 : Int} {m : am_M}
    (h : ((m.1 6521 (0 : Int)) ≤ x4 → (((0 : Int) = 0 ∨ (0 : Int) = 1) ∧ P (0 : Int) m)) ∧ (¬ ((m.1 6521 (0 : Int)) ≤ x4) → (0 ≤ x1 ∧ x1 < 3 ∧ (am_R (x1 + (1 : Int)) ∧ (am_R (x4 + (1 : Int)) ∧ (am_OkI d 174 [.inr (.inr 55), .inl (x1 + (1 : Int)), .inl x2, .inl (x4 + (1 : Int))] (am_wr m 73 x1 x4) (fun z2 m1 => (z2 = (0 : Int) → (am_R (x4 + (1 : Int)) ∧ (am_GI (d + 1) 174 P 27 [(0, .inr (.inr 55)), (1, .inl x1), (2, .inl x2), (4, .inl (x4 + (1 : Int)))] [] m1))) ∧ (¬ (z2 = (0 : Int)) → (((1 : Int) = 0 ∨ (1 : Int) = 1) ∧ P (1 : Int) m1))))))))) :
    am_GI (d + 1) 174 P 27 [(0, .inr (.inr 55)), (1, .inl x1), (2, .inl x2), (4, .inl x4)] [] m := am_c1 chk_M_findsOut rfl (fun S => h)
theorem f_M_findsOut {d : Nat} {P : Int → am_M → Prop} {x1 : Int} {x2 : Int} {x3 : Int} {m : am_M}
    (h : (x1 ≠ x2 → (am_GI (d + 1) 174 P 27 [(0, .inr (.inr 55)), (1, .inl x1), (2, .inl x2), (4, .inl x3)] [] m)) ∧ (¬ (x1 ≠ x2) → (0 ≤ (1 : Int) ∧ (1 : Int) < 7 ∧ (0 ≤ (4 : Int) ∧ (4 : Int) < 7 ∧ (am_OkI d 165 [.inr (.inr 55), .inl (m.1 63 (1 : Int)), .inr (.inl (am_i2l (m.1 63 (4 : Int)))), .inl x2] m (fun z2 m1 => (z2 = 0 ∨ z2 = 1) ∧ P z2 m1)))))) :
    am_OkI (d + 1) 174 [.inr (.inr 55), .inl x1, .inl x2, .inl x3] m P := am_e1 chk_M_findsOut rfl (fun S => h)
theorem f_M_mend_7 {d : Nat} {P : Int → am_M → Prop} {x1 : Int} {x2 : Int} {m : am_M}
    (h : ((3 : Int) < x2 → (P (-2 : Int) m)) ∧ (¬ ((3 : Int) < x2) → (am_OkI d 174 [.inr (.inr 55), .inl (0 : Int), .inl x2, .inl (0 : Int)] m (fun z2 m1 => (z2 ≠ (0 : Int) → ((x1 ≠ (-1 : Int) → (am_R (x2 - (1 : Int)) ∧ (am_OkI d 113 [.inl x1, .inl (0 : Int), .inl (x2 - (1 : Int))] m1 (fun z4 m3 => (z4 = (0 : Int) → (P (-2 : Int) m3)) ∧ (¬ (z4 = (0 : Int)) → (0 ≤ x1 ∧ x1 < 3 ∧ (P (m3.1 73 x1) m3))))))) ∧ (¬ (x1 ≠ (-1 : Int)) → (P x2 m1)))) ∧ (¬ (z2 ≠ (0 : Int)) → (am_R (x2 + (1 : Int)) ∧ (am_GI (d + 1) 175 P 7 [(0, .inr (.inr 55)), (1, .inl x1), (2, .inl (x2 + (1 : Int)))] [] m1))))))) :
    am_GI (d + 1) 175 P 7 [(0, .inr (.inr 55)), (1, .inl x1), (2, .inl x2)] [] m := am_c1 chk_M_mend rfl (fun S => h)
theorem f_M_mend {d : Nat} {P : Int → am_M → Prop} {x1 : Int} {m : am_M}
    (h : am_GI (d + 1) 175 P 7 [(0, .inr (.inr 55)), (1, .inl x1), (2, .inl (0 : Int))] [] (am_wr m 6500 (0 : Int) (0 : Int))) :
    am_OkI (d + 1) 175 [.inr (.inr 55), .inl x1] m P := am_e1 chk_M_mend rfl (fun S => h)
theorem f_M_tight_7 {d : Nat} {P : Int → am_M → Prop} {x1 : Int} {m : am_M}
    (h : ((32 : Int) < x1 → (P (-2 : Int) m)) ∧ (¬ ((32 : Int) < x1) → (0 ≤ (4 : Int) ∧ (4 : Int) < 7 ∧ (am_OkI d 165 [.inr (.inr 55), .inl x1, .inr (.inl (am_i2l (m.1 63 (4 : Int)))), .inl (0 : Int)] m (fun z2 m1 => (z2 = (0 : Int) → (am_R (x1 + (1 : Int)) ∧ (am_GI (d + 1) 176 P 7 [(0, .inr (.inr 55)), (1, .inl (x1 + (1 : Int)))] [] m1))) ∧ (¬ (z2 = (0 : Int)) → (P x1 m1))))))) :
    am_GI (d + 1) 176 P 7 [(0, .inr (.inr 55)), (1, .inl x1)] [] m := am_c1 chk_M_tight rfl (fun S => h)
theorem f_M_tight {d : Nat} {P : Int → am_M → Prop}  {m : am_M}
    (h : am_GI (d + 1) 176 P 7 [(0, .inr (.inr 55)), (1, .inl (1 : Int))] [] (am_wr m 6500 (0 : Int) (0 : Int))) :
    am_OkI (d + 1) 176 [.inr (.inr 55)] m P := am_e1 chk_M_tight rfl (fun S => h)
theorem f_M_peels_22 {d : Nat} {P : Int → am_M → Prop} {x1 : Int} {x2 : Int} {x3 : Int} {m : am_M}
    (h : (x1 ≤ x3 → (P x2 m)) ∧ (¬ (x1 ≤ x3) → (0 ≤ (1 : Int) ∧ (1 : Int) < 7 ∧ (0 ≤ (4 : Int) ∧ (4 : Int) < 7 ∧ (am_R ((m.1 63 (4 : Int)) + x3) ∧ (am_OkI d 165 [.inr (.inr 55), .inl (m.1 63 (1 : Int)), .inr (.inl (am_i2l ((m.1 63 (4 : Int)) + x3))), .inl (0 : Int)] m (fun z2 m1 => (z2 = (0 : Int) → (am_R (x3 + (1 : Int)) ∧ (am_GI (d + 1) 177 P 22 [(0, .inr (.inr 55)), (1, .inl x1), (2, .inl x2), (3, .inl (x3 + (1 : Int)))] [] m1))) ∧ (¬ (z2 = (0 : Int)) → (am_R (x2 + (1 : Int)) ∧ (am_R (x3 + (1 : Int)) ∧ (am_GI (d + 1) 177 P 22 [(0, .inr (.inr 55)), (1, .inl x1), (2, .inl (x2 + (1 : Int))), (3, .inl (x3 + (1 : Int)))] [] m1))))))))))) :
    am_GI (d + 1) 177 P 22 [(0, .inr (.inr 55)), (1, .inl x1), (2, .inl x2), (3, .inl x3)] [] m := am_c1 chk_M_peels rfl (fun S => h)
theorem f_M_peels {d : Nat} {P : Int → am_M → Prop} {x1 : Int} {m : am_M}
    (h : am_OkI d 113 [.inl x1, .inl (1 : Int), .inl (200 : Int)] (am_wr m 6500 (0 : Int) (0 : Int)) (fun z2 m1 => (z2 ≠ (0 : Int) → (am_GI (d + 1) 177 P 22 [(0, .inr (.inr 55)), (1, .inl x1), (2, .inl (0 : Int)), (3, .inl (0 : Int))] [] m1)) ∧ (¬ (z2 ≠ (0 : Int)) → (P (-1 : Int) m1)))) :
    am_OkI (d + 1) 177 [.inr (.inr 55), .inl x1] m P := am_e1 chk_M_peels rfl (fun S => h)
theorem f_M_fills_2 {d : Nat} {P : am_M → Prop} {x1 : Int64} {x3 : Int} {m : am_M}
    (h : ((96 : Int) ≤ x3 → (am_R ((m.1 6537 (0 : Int)) - (1 : Int)) ∧ (am_GV (d + 1) 178 P 35 [(0, .inr (.inr 55)), (1, .inr (.inl x1)), (3, .inl ((m.1 6537 (0 : Int)) - (1 : Int)))] [] m))) ∧ (¬ ((96 : Int) ≤ x3) → (0 ≤ x3 ∧ x3 < 96 ∧ (0 ≤ x3 ∧ x3 < 96 ∧ (am_R (x3 + (1 : Int)) ∧ (am_GV (d + 1) 178 P 2 [(0, .inr (.inr 55)), (1, .inr (.inl x1)), (3, .inl (x3 + (1 : Int)))] [] (am_wr (am_wr m 80 x3 (0 : Int)) 81 x3 (0 : Int)))))))) :
    am_GV (d + 1) 178 P 2 [(0, .inr (.inr 55)), (1, .inr (.inl x1)), (3, .inl x3)] [] m := am_c0 chk_M_fills rfl (fun S => h)
theorem f_M_fills_35 {d : Nat} {P : am_M → Prop} {x1 : Int64} {x3 : Int} {m : am_M}
    (h : (x3 < (0 : Int) → (P m)) ∧ (¬ (x3 < (0 : Int)) → (0 ≤ x3 ∧ x3 < 48 ∧ (0 ≤ x3 ∧ x3 < 48 ∧ (0 ≤ (m.1 75 x3) ∧ (m.1 75 x3) < 48 ∧ (am_OkL d 149 [.inr (.inl (m.2 57 (m.1 75 x3))), .inr (.inl x1)] m (fun w2 m1 => 0 ≤ (2 : Int) ∧ (2 : Int) < 7 ∧ (am_OkI d 150 [.inr (.inl w2), .inl (m1.1 63 (2 : Int))] m1 (fun z4 m3 => 0 ≤ (m.1 75 x3) ∧ (m.1 75 x3) < 48 ∧ (am_GV (d + 1) 178 P 89 [(0, .inr (.inr 55)), (1, .inr (.inl x1)), (3, .inl x3), (4, .inl (m.1 75 x3)), (5, .inl (m.1 76 x3)), (6, .inl z4), (7, .inl (m3.1 60 (m.1 75 x3))), (8, .inl (0 : Int))] [] m3)))))))))) :
    am_GV (d + 1) 178 P 35 [(0, .inr (.inr 55)), (1, .inr (.inl x1)), (3, .inl x3)] [] m := am_c0 chk_M_fills rfl (fun S => h)
theorem f_M_fills_89 {d : Nat} {P : am_M → Prop} {x1 : Int64} {x3 : Int} {x4 : Int} {x5 : Int} {x6 : Int} {x7 : Int} {x8 : Int} {m : am_M}
    (h : 0 ≤ x4 ∧ x4 < 48 ∧ (((m.1 69 x4) ≤ x8 → (0 ≤ x5 ∧ x5 < 96 ∧ (0 ≤ x5 ∧ x5 < 96 ∧ (am_R (x3 + (-1 : Int)) ∧ (am_GV (d + 1) 178 P 35 [(0, .inr (.inr 55)), (1, .inr (.inl x1)), (3, .inl (x3 + (-1 : Int)))] [] (am_wr (am_wr m 80 x5 x6) 81 x5 x7)))))) ∧ (¬ ((m.1 69 x4) ≤ x8) → (am_R ((3 : Int) * x4) ∧ (am_R (((3 : Int) * x4) + x8) ∧ (0 ≤ (((3 : Int) * x4) + x8) ∧ (((3 : Int) * x4) + x8) < 144 ∧ (((m.1 68 (((3 : Int) * x4) + x8)) ≠ x5 → (0 ≤ (m.1 68 (((3 : Int) * x4) + x8)) ∧ (m.1 68 (((3 : Int) * x4) + x8)) < 96 ∧ (0 ≤ (m.1 68 (((3 : Int) * x4) + x8)) ∧ (m.1 68 (((3 : Int) * x4) + x8)) < 96 ∧ (am_R (x8 + (1 : Int)) ∧ (am_GV (d + 1) 178 P 89 [(0, .inr (.inr 55)), (1, .inr (.inl x1)), (3, .inl x3), (4, .inl x4), (5, .inl x5), (6, .inl (am_xor x6 (m.1 80 (m.1 68 (((3 : Int) * x4) + x8))))), (7, .inl (am_xor x7 (m.1 81 (m.1 68 (((3 : Int) * x4) + x8))))), (8, .inl (x8 + (1 : Int)))] [] m))))) ∧ (¬ ((m.1 68 (((3 : Int) * x4) + x8)) ≠ x5) → (am_R (x8 + (1 : Int)) ∧ (am_GV (d + 1) 178 P 89 [(0, .inr (.inr 55)), (1, .inr (.inl x1)), (3, .inl x3), (4, .inl x4), (5, .inl x5), (6, .inl x6), (7, .inl x7), (8, .inl (x8 + (1 : Int)))] [] m)))))))))) :
    am_GV (d + 1) 178 P 89 [(0, .inr (.inr 55)), (1, .inr (.inl x1)), (3, .inl x3), (4, .inl x4), (5, .inl x5), (6, .inl x6), (7, .inl x7), (8, .inl x8)] [] m := am_c0 chk_M_fills rfl (fun S => h)
theorem f_M_fills {d : Nat} {P : am_M → Prop} {x1 : Int64} {m : am_M}
    (h : am_GV (d + 1) 178 P 2 [(0, .inr (.inr 55)), (1, .inr (.inl x1)), (3, .inl (0 : Int))] [] m) :
    am_OkV (d + 1) 178 [.inr (.inr 55), .inr (.inl x1)] m P := am_e0 chk_M_fills rfl (fun S => h)
theorem f_M_wake_50 {d : Nat} {P : Int → am_M → Prop} {x1 : Int} {x2 : Int} {x3 : Int} {m : am_M}
    (h : ((96 : Int) ≤ x3 → (0 ≤ x1 ∧ x1 < 48 ∧ (0 ≤ x1 ∧ x1 < 48 ∧ (0 ≤ (4 : Int) ∧ (4 : Int) < 7 ∧ (am_OkV d 178 [.inr (.inr 55), .inr (.inl (am_i2l (m.1 63 (4 : Int))))] (am_wr m 60 x1 x2) (fun m1 => 0 ≤ x1 ∧ x1 < 48 ∧ (am_GI (d + 1) 179 P 112 [(0, .inr (.inr 55)), (4, .inl (0 : Int)), (5, .inl (0 : Int))] [] (am_wr m1 60 x1 (m.1 60 x1))))))))) ∧ (¬ ((96 : Int) ≤ x3) → (0 ≤ x3 ∧ x3 < 96 ∧ (0 ≤ x3 ∧ x3 < 96 ∧ (am_R (x3 + (1 : Int)) ∧ (am_GI (d + 1) 179 P 50 [(0, .inr (.inr 55)), (1, .inl x1), (2, .inl x2), (3, .inl (x3 + (1 : Int)))] [] (am_wr m 82 x3 (m.1 81 x3)))))))) :
    am_GI (d + 1) 179 P 50 [(0, .inr (.inr 55)), (1, .inl x1), (2, .inl x2), (3, .inl x3)] [] m := am_c1 chk_M_wake rfl (fun S => h)
theorem f_M_wake_112 {d : Nat} {P : Int → am_M → Prop} {x4 : Int} {x5 : Int} {m : am_M}
    (h : ((96 : Int) ≤ x5 → (P x4 m)) ∧ (¬ ((96 : Int) ≤ x5) → (0 ≤ x5 ∧ x5 < 96 ∧ (0 ≤ x5 ∧ x5 < 96 ∧ (((m.1 82 x5) = (m.1 81 x5) → (am_R (x5 + (1 : Int)) ∧ (am_GI (d + 1) 179 P 112 [(0, .inr (.inr 55)), (4, .inl x4), (5, .inl (x5 + (1 : Int)))] [] m))) ∧ (¬ ((m.1 82 x5) = (m.1 81 x5)) → (am_R (x4 + (1 : Int)) ∧ (am_R (x5 + (1 : Int)) ∧ (am_GI (d + 1) 179 P 112 [(0, .inr (.inr 55)), (4, .inl (x4 + (1 : Int))), (5, .inl (x5 + (1 : Int)))] [] m))))))))) :
    am_GI (d + 1) 179 P 112 [(0, .inr (.inr 55)), (4, .inl x4), (5, .inl x5)] [] m := am_c1 chk_M_wake rfl (fun S => h)
theorem f_M_wake {d : Nat} {P : Int → am_M → Prop} {x1 : Int} {x2 : Int} {m : am_M}
    (h : am_OkI d 137 [.inr (.inr 55), .inl x1] (am_wr m 6500 (0 : Int) (0 : Int)) (fun z2 m1 => (z2 = (0 : Int) → (P (-1 : Int) m1)) ∧ (¬ (z2 = (0 : Int)) → (am_OkI d 138 [.inr (.inr 55), .inl x2] m1 (fun z4 m3 => (z4 ≠ (0 : Int) → (am_OkV d 164 [.inr (.inr 55)] m3 (fun m5 => ((m5.1 6530 (0 : Int)) ≤ (0 : Int) → (0 ≤ (4 : Int) ∧ (4 : Int) < 7 ∧ (am_OkV d 178 [.inr (.inr 55), .inr (.inl (am_i2l (m5.1 63 (4 : Int))))] m5 (fun m6 => am_GI (d + 1) 179 P 50 [(0, .inr (.inr 55)), (1, .inl x1), (2, .inl x2), (3, .inl (0 : Int))] [] m6)))) ∧ (¬ ((m5.1 6530 (0 : Int)) ≤ (0 : Int)) → (P (-2 : Int) m5))))) ∧ (¬ (z4 ≠ (0 : Int)) → (P (-1 : Int) m3))))))) :
    am_OkI (d + 1) 179 [.inr (.inr 55), .inl x1, .inl x2] m P := am_e1 chk_M_wake rfl (fun S => h)
set_option maxRecDepth 4000 in
theorem f_M_build_19 {d : Nat} {P : Int → am_M → Prop} {x1 : Int} {x2 : Int} {m : am_M}
    (h : (x1 ≤ x2 → (P (-2 : Int) m)) ∧ (¬ (x1 ≤ x2) → (0 ≤ (4 : Int) ∧ (4 : Int) < 7 ∧ (am_R ((m.1 63 (4 : Int)) + x2) ∧ (0 ≤ (1 : Int) ∧ (1 : Int) < 7 ∧ (am_OkV d 157 [.inr (.inr 55), .inl (m.1 63 (1 : Int)), .inr (.inl (am_i2l ((m.1 63 (4 : Int)) + x2))), .inl (0 : Int)] m (fun m1 => 0 ≤ (1 : Int) ∧ (1 : Int) < 7 ∧ (0 ≤ (5 : Int) ∧ (5 : Int) < 7 ∧ (am_OkV d 162 [.inr (.inr 55), .inl (m1.1 63 (1 : Int)), .inl (m1.1 63 (5 : Int))] m1 (fun m2 => ((m2.1 6530 (0 : Int)) ≤ (0 : Int) → (am_OkV d 178 [.inr (.inr 55), .inr (.inl (am_i2l ((m.1 63 (4 : Int)) + x2)))] m2 (fun m3 => 0 ≤ (0 : Int) ∧ (0 : Int) < 21 ∧ (0 ≤ (1 : Int) ∧ (1 : Int) < 7 ∧ (0 ≤ (1 : Int) ∧ (1 : Int) < 21 ∧ (0 ≤ (2 : Int) ∧ (2 : Int) < 7 ∧ (0 ≤ (2 : Int) ∧ (2 : Int) < 21 ∧ (0 ≤ (3 : Int) ∧ (3 : Int) < 7 ∧ (0 ≤ (3 : Int) ∧ (3 : Int) < 21 ∧ (0 ≤ (6 : Int) ∧ (6 : Int) < 7 ∧ (0 ≤ (4 : Int) ∧ (4 : Int) < 21 ∧ (0 ≤ (5 : Int) ∧ (5 : Int) < 21 ∧ (am_R (x2 + (1 : Int)) ∧ (0 ≤ (6 : Int) ∧ (6 : Int) < 21 ∧ (am_GI (d + 1) 180 P 157 [(0, .inr (.inr 55)), (2, .inl x2), (4, .inl (0 : Int))] [] (am_wr (am_wr (am_wr (am_wr (am_wr (am_wr (am_wr m3 83 (0 : Int) ((m.1 63 (4 : Int)) + x2)) 83 (1 : Int) (m3.1 63 (1 : Int))) 83 (2 : Int) (m3.1 63 (2 : Int))) 83 (3 : Int) (m3.1 63 (3 : Int))) 83 (4 : Int) (m3.1 63 (6 : Int))) 83 (5 : Int) (m3.1 6521 (0 : Int))) 83 (6 : Int) (x2 + (1 : Int)))))))))))))))))) ∧ (¬ ((m2.1 6530 (0 : Int)) ≤ (0 : Int)) → (am_R (x2 + (1 : Int)) ∧ (am_GI (d + 1) 180 P 19 [(0, .inr (.inr 55)), (1, .inl x1), (2, .inl (x2 + (1 : Int)))] [] m2))))))))))))) :
    am_GI (d + 1) 180 P 19 [(0, .inr (.inr 55)), (1, .inl x1), (2, .inl x2)] [] m := am_c1 chk_M_build rfl (fun S => h)
set_option maxRecDepth 4000 in
theorem f_M_build_157 {d : Nat} {P : Int → am_M → Prop} {x2 : Int} {x4 : Int} {m : am_M}
    (h : ((96 : Int) ≤ x4 → (0 ≤ (0 : Int) ∧ (0 : Int) < 3 ∧ ((1 : Int) = 0 ∨ (1 : Int) = 1) ∧ (am_R (x2 + (1 : Int)) ∧ (P (x2 + (1 : Int)) (am_wr m 86 (0 : Int) (1 : Int)))))) ∧ (¬ ((96 : Int) ≤ x4) → (0 ≤ x4 ∧ x4 < 96 ∧ (0 ≤ x4 ∧ x4 < 288 ∧ (0 ≤ x4 ∧ x4 < 96 ∧ (0 ≤ x4 ∧ x4 < 288 ∧ (am_R (x4 + (1 : Int)) ∧ (am_GI (d + 1) 180 P 157 [(0, .inr (.inr 55)), (2, .inl x2), (4, .inl (x4 + (1 : Int)))] [] (am_wr (am_wr m 84 x4 (m.1 80 x4)) 85 x4 (m.1 81 x4)))))))))) :
    am_GI (d + 1) 180 P 157 [(0, .inr (.inr 55)), (2, .inl x2), (4, .inl x4)] [] m := am_c1 chk_M_build rfl (fun S => h)
set_option maxRecDepth 4000 in
theorem f_M_build {d : Nat} {P : Int → am_M → Prop} {x1 : Int} {m : am_M}
    (h : am_OkI d 113 [.inl x1, .inl (1 : Int), .inl (99 : Int)] (am_wr m 6500 (0 : Int) (0 : Int)) (fun z2 m1 => (z2 ≠ (0 : Int) → (am_GI (d + 1) 180 P 19 [(0, .inr (.inr 55)), (1, .inl x1), (2, .inl (0 : Int))] [] m1)) ∧ (¬ (z2 ≠ (0 : Int)) → (P (-1 : Int) m1)))) :
    am_OkI (d + 1) 180 [.inr (.inr 55), .inl x1] m P := am_e1 chk_M_build rfl (fun S => h)
theorem f_M_built {d : Nat} {P : Int → am_M → Prop} {x1 : Int} {m : am_M}
    (h : 0 ≤ (0 : Int) ∧ (0 : Int) < 3 ∧ (((m.1 86 (0 : Int)) = (0 : Int) → (P (-1 : Int) (am_wr m 6500 (0 : Int) (0 : Int)))) ∧ (¬ ((m.1 86 (0 : Int)) = (0 : Int)) → (am_OkI d 113 [.inl x1, .inl (0 : Int), .inl (7 : Int)] (am_wr m 6500 (0 : Int) (0 : Int)) (fun z2 m1 => (z2 ≠ (0 : Int) → (((7 : Int) ≤ x1 → (0 ≤ (1 : Int) ∧ (1 : Int) < 21 ∧ (am_R ((3 : Int) * (m1.1 83 (1 : Int))) ∧ (0 ≤ (2 : Int) ∧ (2 : Int) < 21 ∧ (0 ≤ (3 : Int) ∧ (3 : Int) < 21 ∧ (am_R ((m1.1 83 (2 : Int)) + (m1.1 83 (3 : Int))) ∧ (am_R (((3 : Int) * (m1.1 83 (1 : Int))) * ((m1.1 83 (2 : Int)) + (m1.1 83 (3 : Int)))) ∧ (P (((3 : Int) * (m1.1 83 (1 : Int))) * ((m1.1 83 (2 : Int)) + (m1.1 83 (3 : Int)))) m1)))))))) ∧ (¬ ((7 : Int) ≤ x1) → (0 ≤ x1 ∧ x1 < 21 ∧ (P (m1.1 83 x1) m1))))) ∧ (¬ (z2 ≠ (0 : Int)) → (P (-1 : Int) m1))))))) :
    am_OkI (d + 1) 181 [.inr (.inr 55), .inl x1] m P := am_e1 chk_M_built rfl (fun S => h)
theorem f_M_filled {d : Nat} {P : Int → am_M → Prop} {x1 : Int} {x2 : Int} {m : am_M}
    (h : 0 ≤ (0 : Int) ∧ (0 : Int) < 3 ∧ (((m.1 86 (0 : Int)) = (0 : Int) → (P (-1 : Int) (am_wr m 6500 (0 : Int) (0 : Int)))) ∧ (¬ ((m.1 86 (0 : Int)) = (0 : Int)) → (0 ≤ (1 : Int) ∧ (1 : Int) < 21 ∧ (am_R ((3 : Int) * (m.1 83 (1 : Int))) ∧ (am_R (((3 : Int) * (m.1 83 (1 : Int))) - (1 : Int)) ∧ (am_OkI d 113 [.inl x1, .inl (0 : Int), .inl (((3 : Int) * (m.1 83 (1 : Int))) - (1 : Int))] (am_wr m 6500 (0 : Int) (0 : Int)) (fun z2 m1 => (z2 ≠ (0 : Int) → ((x2 = (0 : Int) → (0 ≤ x1 ∧ x1 < 288 ∧ (P (m1.1 84 x1) m1))) ∧ (¬ (x2 = (0 : Int)) → (0 ≤ x1 ∧ x1 < 288 ∧ (P (m1.1 85 x1) m1))))) ∧ (¬ (z2 ≠ (0 : Int)) → (P (-1 : Int) m1)))))))))) :
    am_OkI (d + 1) 182 [.inr (.inr 55), .inl x1, .inl x2] m P := am_e1 chk_M_filled rfl (fun S => h)
theorem f_M_asks_40 {d : Nat} {P : Int → am_M → Prop} {x3 : Int64} {x5 : Int} {x6 : Int} {m : am_M}
    (h : ((3 : Int) ≤ x6 → (0 ≤ (2 : Int) ∧ (2 : Int) < 21 ∧ (am_OkI d 150 [.inr (.inl x3), .inl (m.1 83 (2 : Int))] m (fun z2 m1 => (x5 ≠ z2 → (((0 : Int) = 0 ∨ (0 : Int) = 1) ∧ P (0 : Int) m1)) ∧ (¬ (x5 ≠ z2) → (((1 : Int) = 0 ∨ (1 : Int) = 1) ∧ P (1 : Int) m1)))))) ∧ (¬ ((3 : Int) ≤ x6) → (am_OkI d 153 [.inr (.inr 55), .inl x6] m (fun z4 m3 => (z4 ≠ (0 : Int) → (0 ≤ x6 ∧ x6 < 3 ∧ (0 ≤ (m3.1 67 x6) ∧ (m3.1 67 x6) < 288 ∧ (0 ≤ x6 ∧ x6 < 3 ∧ (0 ≤ (m3.1 67 x6) ∧ (m3.1 67 x6) < 288 ∧ (am_R (x6 + (1 : Int)) ∧ (am_GI (d + 1) 183 P 40 [(0, .inr (.inr 55)), (3, .inr (.inl x3)), (5, .inl (am_xor x5 (m3.1 84 (m3.1 67 x6)))), (6, .inl (x6 + (1 : Int)))] [] (am_wr m3 6548 (0 : Int) (am_xor (m3.1 6548 (0 : Int)) (m3.1 85 (m3.1 67 x6))))))))))) ∧ (¬ (z4 ≠ (0 : Int)) → (am_R (x6 + (1 : Int)) ∧ (am_GI (d + 1) 183 P 40 [(0, .inr (.inr 55)), (3, .inr (.inl x3)), (5, .inl x5), (6, .inl (x6 + (1 : Int)))] [] m3))))))) :
    am_GI (d + 1) 183 P 40 [(0, .inr (.inr 55)), (3, .inr (.inl x3)), (5, .inl x5), (6, .inl x6)] [] m := am_c1 chk_M_asks rfl (fun S => h)
theorem f_M_asks {d : Nat} {P : Int → am_M → Prop} {x1 : Int64} {m : am_M}
    (h : 0 ≤ (0 : Int) ∧ (0 : Int) < 21 ∧ (am_OkL d 149 [.inr (.inl x1), .inr (.inl (am_i2l (m.1 83 (0 : Int))))] m (fun w2 m1 => 0 ≤ (1 : Int) ∧ (1 : Int) < 21 ∧ (0 ≤ (4 : Int) ∧ (4 : Int) < 21 ∧ (am_OkV d 152 [.inr (.inr 55), .inr (.inl w2), .inl (m1.1 83 (1 : Int)), .inl (m1.1 83 (4 : Int))] m1 (fun m3 => am_GI (d + 1) 183 P 40 [(0, .inr (.inr 55)), (3, .inr (.inl w2)), (5, .inl (0 : Int)), (6, .inl (0 : Int))] [] (am_wr m3 6548 (0 : Int) (0 : Int)))))))) :
    am_OkI (d + 1) 183 [.inr (.inr 55), .inr (.inl x1)] m P := am_e1 chk_M_asks rfl (fun S => h)
theorem f_M_passes {d : Nat} {P : Int → am_M → Prop} {x1 : Int64} {m : am_M}
    (h : 0 ≤ (0 : Int) ∧ (0 : Int) < 3 ∧ (((m.1 86 (0 : Int)) = (0 : Int) → (((0 : Int) = 0 ∨ (0 : Int) = 1) ∧ P (0 : Int) (am_wr m 6500 (0 : Int) (0 : Int)))) ∧ (¬ ((m.1 86 (0 : Int)) = (0 : Int)) → (am_OkI d 183 [.inr (.inr 55), .inr (.inl x1)] (am_wr m 6500 (0 : Int) (0 : Int)) (fun z2 m1 => (z2 = (0 : Int) → (((0 : Int) = 0 ∨ (0 : Int) = 1) ∧ P (0 : Int) m1)) ∧ (¬ (z2 = (0 : Int)) → (((1 : Int) = 0 ∨ (1 : Int) = 1) ∧ P (1 : Int) m1))))))) :
    am_OkI (d + 1) 184 [.inr (.inr 55), .inr (.inl x1)] m P := am_e1 chk_M_passes rfl (fun S => h)
theorem f_M_told {d : Nat} {P : Int → am_M → Prop} {x1 : Int64} {m : am_M}
    (h : 0 ≤ (0 : Int) ∧ (0 : Int) < 3 ∧ (((m.1 86 (0 : Int)) ≠ (0 : Int) → (am_OkI d 183 [.inr (.inr 55), .inr (.inl x1)] (am_wr m 6500 (0 : Int) (0 : Int)) (fun z2 m1 => P (m1.1 6548 (0 : Int)) m1))) ∧ (¬ ((m.1 86 (0 : Int)) ≠ (0 : Int)) → (P (-1 : Int) (am_wr m 6500 (0 : Int) (0 : Int)))))) :
    am_OkI (d + 1) 185 [.inr (.inr 55), .inr (.inl x1)] m P := am_e1 chk_M_told rfl (fun S => h)
theorem f_M_right_20 {d : Nat} {P : Int → am_M → Prop} {x1 : Int} {x2 : Int} {m : am_M}
    (h : ((m.1 6521 (0 : Int)) ≤ x2 → (P x1 m)) ∧ (¬ ((m.1 6521 (0 : Int)) ≤ x2) → (0 ≤ x2 ∧ x2 < 48 ∧ (am_OkI d 183 [.inr (.inr 55), .inr (.inl (m.2 57 x2))] m (fun z2 m1 => (z2 = (0 : Int) → (am_R (x2 + (1 : Int)) ∧ (am_GI (d + 1) 186 P 20 [(0, .inr (.inr 55)), (1, .inl x1), (2, .inl (x2 + (1 : Int)))] [] m1))) ∧ (¬ (z2 = (0 : Int)) → (0 ≤ x2 ∧ x2 < 48 ∧ (((m1.1 6548 (0 : Int)) ≠ (m1.1 60 x2) → (am_R (x2 + (1 : Int)) ∧ (am_GI (d + 1) 186 P 20 [(0, .inr (.inr 55)), (1, .inl x1), (2, .inl (x2 + (1 : Int)))] [] m1))) ∧ (¬ ((m1.1 6548 (0 : Int)) ≠ (m1.1 60 x2)) → (am_R (x1 + (1 : Int)) ∧ (am_R (x2 + (1 : Int)) ∧ (am_GI (d + 1) 186 P 20 [(0, .inr (.inr 55)), (1, .inl (x1 + (1 : Int))), (2, .inl (x2 + (1 : Int)))] [] m1)))))))))))) :
    am_GI (d + 1) 186 P 20 [(0, .inr (.inr 55)), (1, .inl x1), (2, .inl x2)] [] m := am_c1 chk_M_right rfl (fun S => h)
theorem f_M_right {d : Nat} {P : Int → am_M → Prop}  {m : am_M}
    (h : 0 ≤ (0 : Int) ∧ (0 : Int) < 3 ∧ (((m.1 86 (0 : Int)) ≠ (0 : Int) → (am_GI (d + 1) 186 P 20 [(0, .inr (.inr 55)), (1, .inl (0 : Int)), (2, .inl (0 : Int))] [] (am_wr m 6500 (0 : Int) (0 : Int)))) ∧ (¬ ((m.1 86 (0 : Int)) ≠ (0 : Int)) → (P (-1 : Int) (am_wr m 6500 (0 : Int) (0 : Int)))))) :
    am_OkI (d + 1) 186 [.inr (.inr 55)] m P := am_e1 chk_M_right rfl (fun S => h)
theorem f_M_strangers_33 {d : Nat} {P : Int → am_M → Prop} {x1 : Int64} {x3 : Int} {x4 : Int} {x5 : Int} {x6 : Int} {m : am_M}
    (h : (x3 ≤ x6 → ((x4 ≠ (-1 : Int) → (P (-2 : Int) m)) ∧ (¬ (x4 ≠ (-1 : Int)) → (P x5 m)))) ∧ (¬ (x3 ≤ x6) → (am_OkI d 183 [.inr (.inr 55), .inr (.inl (x1 + (am_i2l x6)))] m (fun z2 m1 => (z2 = (0 : Int) → (am_R (x6 + (1 : Int)) ∧ (am_GI (d + 1) 187 P 33 [(0, .inr (.inr 55)), (1, .inr (.inl x1)), (3, .inl x3), (4, .inl x4), (5, .inl x5), (6, .inl (x6 + (1 : Int)))] [] m1))) ∧ (¬ (z2 = (0 : Int)) → (am_OkI d 139 [.inr (.inr 55), .inr (.inl (x1 + (am_i2l x6)))] m1 (fun z4 m3 => (z4 = (-1 : Int) → ((x5 ≠ x4 → (am_R (x5 + (1 : Int)) ∧ (am_R (x6 + (1 : Int)) ∧ (am_GI (d + 1) 187 P 33 [(0, .inr (.inr 55)), (1, .inr (.inl x1)), (3, .inl x3), (4, .inl x4), (5, .inl (x5 + (1 : Int))), (6, .inl (x6 + (1 : Int)))] [] m3)))) ∧ (¬ (x5 ≠ x4) → (P x6 m3)))) ∧ (¬ (z4 = (-1 : Int)) → (am_R (x6 + (1 : Int)) ∧ (am_GI (d + 1) 187 P 33 [(0, .inr (.inr 55)), (1, .inr (.inl x1)), (3, .inl x3), (4, .inl x4), (5, .inl x5), (6, .inl (x6 + (1 : Int)))] [] m3)))))))))) :
    am_GI (d + 1) 187 P 33 [(0, .inr (.inr 55)), (1, .inr (.inl x1)), (3, .inl x3), (4, .inl x4), (5, .inl x5), (6, .inl x6)] [] m := am_c1 chk_M_strangers rfl (fun S => h)
theorem f_M_strangers {d : Nat} {P : Int → am_M → Prop} {x1 : Int64} {x3 : Int} {x4 : Int} {m : am_M}
    (h : 0 ≤ (0 : Int) ∧ (0 : Int) < 3 ∧ (((m.1 86 (0 : Int)) = (0 : Int) → (P (-1 : Int) (am_wr m 6500 (0 : Int) (0 : Int)))) ∧ (¬ ((m.1 86 (0 : Int)) = (0 : Int)) → (am_OkI d 113 [.inl x3, .inl (1 : Int), .inl (1000 : Int)] (am_wr m 6500 (0 : Int) (0 : Int)) (fun z2 m1 => (z2 ≠ (0 : Int) → (am_GI (d + 1) 187 P 33 [(0, .inr (.inr 55)), (1, .inr (.inl x1)), (3, .inl x3), (4, .inl x4), (5, .inl (0 : Int)), (6, .inl (0 : Int))] [] m1)) ∧ (¬ (z2 ≠ (0 : Int)) → (P (-1 : Int) m1))))))) :
    am_OkI (d + 1) 187 [.inr (.inr 55), .inr (.inl x1), .inl x3, .inl x4] m P := am_e1 chk_M_strangers rfl (fun S => h)
theorem f_M_copies_2 {d : Nat} {P : am_M → Prop} {x1 : Int} {x2 : Int} {x3 : Int} {m : am_M}
    (h : ((7 : Int) ≤ x3 → (am_GV (d + 1) 188 P 38 [(0, .inr (.inr 55)), (1, .inl x1), (2, .inl x2), (3, .inl (0 : Int))] [] m)) ∧ (¬ ((7 : Int) ≤ x3) → (am_R ((7 : Int) * x2) ∧ (am_R (((7 : Int) * x2) + x3) ∧ (am_R ((7 : Int) * x1) ∧ (am_R (((7 : Int) * x1) + x3) ∧ (0 ≤ (((7 : Int) * x1) + x3) ∧ (((7 : Int) * x1) + x3) < 21 ∧ (0 ≤ (((7 : Int) * x2) + x3) ∧ (((7 : Int) * x2) + x3) < 21 ∧ (am_R (x3 + (1 : Int)) ∧ (am_GV (d + 1) 188 P 2 [(0, .inr (.inr 55)), (1, .inl x1), (2, .inl x2), (3, .inl (x3 + (1 : Int)))] [] (am_wr m 83 (((7 : Int) * x2) + x3) (m.1 83 (((7 : Int) * x1) + x3))))))))))))) :
    am_GV (d + 1) 188 P 2 [(0, .inr (.inr 55)), (1, .inl x1), (2, .inl x2), (3, .inl x3)] [] m := am_c0 chk_M_copies rfl (fun S => h)
theorem f_M_copies_38 {d : Nat} {P : am_M → Prop} {x1 : Int} {x2 : Int} {x3 : Int} {m : am_M}
    (h : ((96 : Int) ≤ x3 → (0 ≤ x2 ∧ x2 < 3 ∧ ((1 : Int) = 0 ∨ (1 : Int) = 1) ∧ (P (am_wr m 86 x2 (1 : Int))))) ∧ (¬ ((96 : Int) ≤ x3) → (am_R ((96 : Int) * x2) ∧ (am_R (((96 : Int) * x2) + x3) ∧ (am_R ((96 : Int) * x1) ∧ (am_R (((96 : Int) * x1) + x3) ∧ (0 ≤ (((96 : Int) * x1) + x3) ∧ (((96 : Int) * x1) + x3) < 288 ∧ (0 ≤ (((96 : Int) * x2) + x3) ∧ (((96 : Int) * x2) + x3) < 288 ∧ (am_R ((96 : Int) * x2) ∧ (am_R (((96 : Int) * x2) + x3) ∧ (am_R ((96 : Int) * x1) ∧ (am_R (((96 : Int) * x1) + x3) ∧ (0 ≤ (((96 : Int) * x1) + x3) ∧ (((96 : Int) * x1) + x3) < 288 ∧ (0 ≤ (((96 : Int) * x2) + x3) ∧ (((96 : Int) * x2) + x3) < 288 ∧ (am_R (x3 + (1 : Int)) ∧ (am_GV (d + 1) 188 P 38 [(0, .inr (.inr 55)), (1, .inl x1), (2, .inl x2), (3, .inl (x3 + (1 : Int)))] [] (am_wr (am_wr m 84 (((96 : Int) * x2) + x3) (m.1 84 (((96 : Int) * x1) + x3))) 85 (((96 : Int) * x2) + x3) (m.1 85 (((96 : Int) * x1) + x3))))))))))))))))))) :
    am_GV (d + 1) 188 P 38 [(0, .inr (.inr 55)), (1, .inl x1), (2, .inl x2), (3, .inl x3)] [] m := am_c0 chk_M_copies rfl (fun S => h)
theorem f_M_copies {d : Nat} {P : am_M → Prop} {x1 : Int} {x2 : Int} {m : am_M}
    (h : am_GV (d + 1) 188 P 2 [(0, .inr (.inr 55)), (1, .inl x1), (2, .inl x2), (3, .inl (0 : Int))] [] m) :
    am_OkV (d + 1) 188 [.inr (.inr 55), .inl x1, .inl x2] m P := am_e0 chk_M_copies rfl (fun S => h)
theorem f_M_shelf {d : Nat} {P : Int → am_M → Prop} {x1 : Int} {x2 : Int} {m : am_M}
    (h : am_OkI d 113 [.inl x1, .inl (0 : Int), .inl (1 : Int)] (am_wr m 6500 (0 : Int) (0 : Int)) (fun z2 m1 => (z2 = (0 : Int) → (((0 : Int) = 0 ∨ (0 : Int) = 1) ∧ P (0 : Int) m1)) ∧ (¬ (z2 = (0 : Int)) → ((x2 = (0 : Int) → (0 ≤ (0 : Int) ∧ (0 : Int) < 3 ∧ (((m1.1 86 (0 : Int)) ≠ (0 : Int) → ((x2 = (0 : Int) → ((x2 = (0 : Int) → (am_R (x1 + (1 : Int)) ∧ (am_OkV d 188 [.inr (.inr 55), .inl (0 : Int), .inl (x1 + (1 : Int))] m1 (fun m3 => ((1 : Int) = 0 ∨ (1 : Int) = 1) ∧ P (1 : Int) m3)))) ∧ (¬ (x2 = (0 : Int)) → (am_OkV d 188 [.inr (.inr 55), .inl (0 : Int), .inl (0 : Int)] m1 (fun m4 => ((1 : Int) = 0 ∨ (1 : Int) = 1) ∧ P (1 : Int) m4))))) ∧ (¬ (x2 = (0 : Int)) → (am_R (x1 + (1 : Int)) ∧ ((x2 = (0 : Int) → (am_R (x1 + (1 : Int)) ∧ (am_OkV d 188 [.inr (.inr 55), .inl (x1 + (1 : Int)), .inl (x1 + (1 : Int))] m1 (fun m5 => ((1 : Int) = 0 ∨ (1 : Int) = 1) ∧ P (1 : Int) m5)))) ∧ (¬ (x2 = (0 : Int)) → (am_OkV d 188 [.inr (.inr 55), .inl (x1 + (1 : Int)), .inl (0 : Int)] m1 (fun m6 => ((1 : Int) = 0 ∨ (1 : Int) = 1) ∧ P (1 : Int) m6)))))))) ∧ (¬ ((m1.1 86 (0 : Int)) ≠ (0 : Int)) → (((0 : Int) = 0 ∨ (0 : Int) = 1) ∧ P (0 : Int) m1))))) ∧ (¬ (x2 = (0 : Int)) → (am_R (x1 + (1 : Int)) ∧ (0 ≤ (x1 + (1 : Int)) ∧ (x1 + (1 : Int)) < 3 ∧ (((m1.1 86 (x1 + (1 : Int))) ≠ (0 : Int) → ((x2 = (0 : Int) → ((x2 = (0 : Int) → (am_R (x1 + (1 : Int)) ∧ (am_OkV d 188 [.inr (.inr 55), .inl (0 : Int), .inl (x1 + (1 : Int))] m1 (fun m7 => ((1 : Int) = 0 ∨ (1 : Int) = 1) ∧ P (1 : Int) m7)))) ∧ (¬ (x2 = (0 : Int)) → (am_OkV d 188 [.inr (.inr 55), .inl (0 : Int), .inl (0 : Int)] m1 (fun m8 => ((1 : Int) = 0 ∨ (1 : Int) = 1) ∧ P (1 : Int) m8))))) ∧ (¬ (x2 = (0 : Int)) → (am_R (x1 + (1 : Int)) ∧ ((x2 = (0 : Int) → (am_R (x1 + (1 : Int)) ∧ (am_OkV d 188 [.inr (.inr 55), .inl (x1 + (1 : Int)), .inl (x1 + (1 : Int))] m1 (fun m9 => ((1 : Int) = 0 ∨ (1 : Int) = 1) ∧ P (1 : Int) m9)))) ∧ (¬ (x2 = (0 : Int)) → (am_OkV d 188 [.inr (.inr 55), .inl (x1 + (1 : Int)), .inl (0 : Int)] m1 (fun m10 => ((1 : Int) = 0 ∨ (1 : Int) = 1) ∧ P (1 : Int) m10)))))))) ∧ (¬ ((m1.1 86 (x1 + (1 : Int))) ≠ (0 : Int)) → (((0 : Int) = 0 ∨ (0 : Int) = 1) ∧ P (0 : Int) m1)))))))))) :
    am_OkI (d + 1) 189 [.inr (.inr 55), .inl x1, .inl x2] m P := am_e1 chk_M_shelf rfl (fun S => h)
theorem f_M_unlike_65 {d : Nat} {P : Int → am_M → Prop} {x1 : Int} {x2 : Int} {x3 : Int} {m : am_M}
    (h : ((96 : Int) ≤ x3 → (P x2 m)) ∧ (¬ ((96 : Int) ≤ x3) → (0 ≤ x3 ∧ x3 < 288 ∧ (am_R (x1 + (1 : Int)) ∧ (am_R ((96 : Int) * (x1 + (1 : Int))) ∧ (am_R (((96 : Int) * (x1 + (1 : Int))) + x3) ∧ (0 ≤ (((96 : Int) * (x1 + (1 : Int))) + x3) ∧ (((96 : Int) * (x1 + (1 : Int))) + x3) < 288 ∧ (((m.1 84 x3) ≠ (m.1 84 (((96 : Int) * (x1 + (1 : Int))) + x3)) → (am_R (x2 + (1 : Int)) ∧ (am_R (x3 + (1 : Int)) ∧ (am_GI (d + 1) 190 P 65 [(0, .inr (.inr 55)), (1, .inl x1), (2, .inl (x2 + (1 : Int))), (3, .inl (x3 + (1 : Int)))] [] m)))) ∧ (¬ ((m.1 84 x3) ≠ (m.1 84 (((96 : Int) * (x1 + (1 : Int))) + x3))) → (0 ≤ x3 ∧ x3 < 288 ∧ (am_R (x1 + (1 : Int)) ∧ (am_R ((96 : Int) * (x1 + (1 : Int))) ∧ (am_R (((96 : Int) * (x1 + (1 : Int))) + x3) ∧ (0 ≤ (((96 : Int) * (x1 + (1 : Int))) + x3) ∧ (((96 : Int) * (x1 + (1 : Int))) + x3) < 288 ∧ (((m.1 85 x3) = (m.1 85 (((96 : Int) * (x1 + (1 : Int))) + x3)) → (am_R (x3 + (1 : Int)) ∧ (am_GI (d + 1) 190 P 65 [(0, .inr (.inr 55)), (1, .inl x1), (2, .inl x2), (3, .inl (x3 + (1 : Int)))] [] m))) ∧ (¬ ((m.1 85 x3) = (m.1 85 (((96 : Int) * (x1 + (1 : Int))) + x3))) → (am_R (x2 + (1 : Int)) ∧ (am_R (x3 + (1 : Int)) ∧ (am_GI (d + 1) 190 P 65 [(0, .inr (.inr 55)), (1, .inl x1), (2, .inl (x2 + (1 : Int))), (3, .inl (x3 + (1 : Int)))] [] m))))))))))))))))))) :
    am_GI (d + 1) 190 P 65 [(0, .inr (.inr 55)), (1, .inl x1), (2, .inl x2), (3, .inl x3)] [] m := am_c1 chk_M_unlike rfl (fun S => h)
theorem f_M_unlike {d : Nat} {P : Int → am_M → Prop} {x1 : Int} {m : am_M}
    (h : am_OkI d 113 [.inl x1, .inl (0 : Int), .inl (1 : Int)] (am_wr m 6500 (0 : Int) (0 : Int)) (fun z2 m1 => (z2 = (0 : Int) → (P (-1 : Int) m1)) ∧ (¬ (z2 = (0 : Int)) → (0 ≤ (0 : Int) ∧ (0 : Int) < 3 ∧ (((m1.1 86 (0 : Int)) = (0 : Int) → (P (-1 : Int) m1)) ∧ (¬ ((m1.1 86 (0 : Int)) = (0 : Int)) → (am_R (x1 + (1 : Int)) ∧ (0 ≤ (x1 + (1 : Int)) ∧ (x1 + (1 : Int)) < 3 ∧ (((m1.1 86 (x1 + (1 : Int))) ≠ (0 : Int) → (0 ≤ (1 : Int) ∧ (1 : Int) < 21 ∧ (am_R (x1 + (1 : Int)) ∧ (am_R ((7 : Int) * (x1 + (1 : Int))) ∧ (am_R (((7 : Int) * (x1 + (1 : Int))) + (1 : Int)) ∧ (0 ≤ (((7 : Int) * (x1 + (1 : Int))) + (1 : Int)) ∧ (((7 : Int) * (x1 + (1 : Int))) + (1 : Int)) < 21 ∧ (((m1.1 83 (1 : Int)) = (m1.1 83 (((7 : Int) * (x1 + (1 : Int))) + (1 : Int))) → (am_GI (d + 1) 190 P 65 [(0, .inr (.inr 55)), (1, .inl x1), (2, .inl (0 : Int)), (3, .inl (0 : Int))] [] m1)) ∧ (¬ ((m1.1 83 (1 : Int)) = (m1.1 83 (((7 : Int) * (x1 + (1 : Int))) + (1 : Int)))) → (P (-2 : Int) m1))))))))) ∧ (¬ ((m1.1 86 (x1 + (1 : Int))) ≠ (0 : Int)) → (P (-1 : Int) m1))))))))))) :
    am_OkI (d + 1) 190 [.inr (.inr 55), .inl x1] m P := am_e1 chk_M_unlike rfl (fun S => h)
theorem f_M_emptyCells_8 {d : Nat} {P : Int → am_M → Prop} {x1 : Int} {x2 : Int} {m : am_M}
    (h : 0 ≤ (1 : Int) ∧ (1 : Int) < 7 ∧ (am_R ((3 : Int) * (m.1 63 (1 : Int))) ∧ ((((3 : Int) * (m.1 63 (1 : Int))) ≤ x2 → (P x1 m)) ∧ (¬ (((3 : Int) * (m.1 63 (1 : Int))) ≤ x2) → (0 ≤ x2 ∧ x2 < 96 ∧ (((m.1 70 x2) ≠ (0 : Int) → (am_R (x2 + (1 : Int)) ∧ (am_GI (d + 1) 191 P 8 [(0, .inr (.inr 55)), (1, .inl x1), (2, .inl (x2 + (1 : Int)))] [] m))) ∧ (¬ ((m.1 70 x2) ≠ (0 : Int)) → (am_R (x1 + (1 : Int)) ∧ (am_R (x2 + (1 : Int)) ∧ (am_GI (d + 1) 191 P 8 [(0, .inr (.inr 55)), (1, .inl (x1 + (1 : Int))), (2, .inl (x2 + (1 : Int)))] [] m)))))))))) :
    am_GI (d + 1) 191 P 8 [(0, .inr (.inr 55)), (1, .inl x1), (2, .inl x2)] [] m := am_c1 chk_M_emptyCells rfl (fun S => h)
theorem f_M_emptyCells {d : Nat} {P : Int → am_M → Prop}  {m : am_M}
    (h : am_OkV d 158 [.inr (.inr 55)] m (fun m1 => am_GI (d + 1) 191 P 8 [(0, .inr (.inr 55)), (1, .inl (0 : Int)), (2, .inl (0 : Int))] [] m1)) :
    am_OkI (d + 1) 191 [.inr (.inr 55)] m P := am_e1 chk_M_emptyCells rfl (fun S => h)
theorem f_M_count {d : Nat} {P : Int → am_M → Prop} {x1 : Int} {m : am_M}
    (h : am_OkI d 113 [.inl x1, .inl (1 : Int), .inl (6 : Int)] (am_wr m 6500 (0 : Int) (0 : Int)) (fun z2 m1 => (z2 = (0 : Int) → ((x1 = 0 → (P (m1.1 6521 (0 : Int)) m1)) ∧ (x1 = 7 → (P (m1.1 6523 (0 : Int)) m1)) ∧ (x1 = 8 → (P (m1.1 6502 (0 : Int)) m1)) ∧ (x1 = 9 → (am_OkI d 191 [.inr (.inr 55)] m1 (fun z4 m3 => P z4 m3))) ∧ (x1 = 10 → (0 ≤ (0 : Int) ∧ (0 : Int) < 3 ∧ (((m1.1 86 (0 : Int)) = (0 : Int) → (P (0 : Int) m1)) ∧ (¬ ((m1.1 86 (0 : Int)) = (0 : Int)) → (P (1 : Int) m1))))) ∧ (x1 ≠ 10 → x1 ≠ 9 → x1 ≠ 8 → x1 ≠ 7 → x1 ≠ 0 → (P (-1 : Int) m1)))) ∧ (¬ (z2 = (0 : Int)) → (0 ≤ x1 ∧ x1 < 7 ∧ (P (m1.1 63 x1) m1))))) :
    am_OkI (d + 1) 192 [.inr (.inr 55), .inl x1] m P := am_e1 chk_M_count rfl (fun S => h)
end
section
def bl_Arrays_fill : List (Nat × List am_I) := [(0, [(0, .iconst (0), 1, .iconst (0)), (1, .istore_n 2, 1, .istore 2), (2, .aload_n 0, 1, .aload 0), (3, .arraylength, 1, .arraylength), (4, .istore_n 3, 1, .istore 3), (5, .nop, 0, .goto_w 5)]),
  (5, [(5, .iload_n 2, 1, .iload 2), (6, .iload_n 3, 1, .iload 3), (7, .if_icmp .ge (13), 3, .if_icmp .ge 20), (10, .aload_n 0, 1, .aload 0), (11, .iload_n 2, 1, .iload 2), (12, .iload_n 1, 1, .iload 1), (13, .iastore, 1, .iastore), (14, .iinc 2 (1), 3, .iinc 2 (1)), (17, .goto (-12), 3, .goto 5)]),
  (20, [(20, .return_, 1, .return_)])]
def ct_Arrays_fill : List (Nat × List Nat) := [(5, [0, 1, 2, 3])]
theorem chk_Arrays_fill : am_chk 194 bl_Arrays_fill ct_Arrays_fill false = true := by decide +kernel
theorem f_Arrays_fill_25_5 {d : Nat} {P : am_M → Prop} {x1 : Int} {x2 : Int} {x3 : Int} {m : am_M}
    (h : (x3 ≤ x2 → (P m)) ∧ (¬ (x3 ≤ x2) → (0 ≤ x2 ∧ x2 < 96 ∧ (am_R (x2 + (1 : Int)) ∧ (am_GV (d + 1) 194 P 5 [(0, .inr (.inr 25)), (1, .inl x1), (2, .inl (x2 + (1 : Int))), (3, .inl x3)] [] (am_wr m 25 x2 x1)))))) :
    am_GV (d + 1) 194 P 5 [(0, .inr (.inr 25)), (1, .inl x1), (2, .inl x2), (3, .inl x3)] [] m := am_c0 chk_Arrays_fill rfl (fun S => h)
theorem f_Arrays_fill_25 {d : Nat} {P : am_M → Prop} {x1 : Int} {m : am_M}
    (h : am_GV (d + 1) 194 P 5 [(0, .inr (.inr 25)), (1, .inl x1), (2, .inl (0 : Int)), (3, .inl (96 : Int))] [] m) :
    am_OkV (d + 1) 194 [.inr (.inr 25), .inl x1] m P := am_e0 chk_Arrays_fill rfl (fun S => h)
theorem f_Arrays_fill_26_5 {d : Nat} {P : am_M → Prop} {x1 : Int} {x2 : Int} {x3 : Int} {m : am_M}
    (h : (x3 ≤ x2 → (P m)) ∧ (¬ (x3 ≤ x2) → (0 ≤ x2 ∧ x2 < 96 ∧ (am_R (x2 + (1 : Int)) ∧ (am_GV (d + 1) 194 P 5 [(0, .inr (.inr 26)), (1, .inl x1), (2, .inl (x2 + (1 : Int))), (3, .inl x3)] [] (am_wr m 26 x2 x1)))))) :
    am_GV (d + 1) 194 P 5 [(0, .inr (.inr 26)), (1, .inl x1), (2, .inl x2), (3, .inl x3)] [] m := am_c0 chk_Arrays_fill rfl (fun S => h)
theorem f_Arrays_fill_26 {d : Nat} {P : am_M → Prop} {x1 : Int} {m : am_M}
    (h : am_GV (d + 1) 194 P 5 [(0, .inr (.inr 26)), (1, .inl x1), (2, .inl (0 : Int)), (3, .inl (96 : Int))] [] m) :
    am_OkV (d + 1) 194 [.inr (.inr 26), .inl x1] m P := am_e0 chk_Arrays_fill rfl (fun S => h)
theorem f_Arrays_fill_44_5 {d : Nat} {P : am_M → Prop} {x1 : Int} {x2 : Int} {x3 : Int} {m : am_M}
    (h : (x3 ≤ x2 → (P m)) ∧ (¬ (x3 ≤ x2) → (0 ≤ x2 ∧ x2 < 96 ∧ (am_R (x2 + (1 : Int)) ∧ (am_GV (d + 1) 194 P 5 [(0, .inr (.inr 44)), (1, .inl x1), (2, .inl (x2 + (1 : Int))), (3, .inl x3)] [] (am_wr m 44 x2 x1)))))) :
    am_GV (d + 1) 194 P 5 [(0, .inr (.inr 44)), (1, .inl x1), (2, .inl x2), (3, .inl x3)] [] m := am_c0 chk_Arrays_fill rfl (fun S => h)
theorem f_Arrays_fill_44 {d : Nat} {P : am_M → Prop} {x1 : Int} {m : am_M}
    (h : am_GV (d + 1) 194 P 5 [(0, .inr (.inr 44)), (1, .inl x1), (2, .inl (0 : Int)), (3, .inl (96 : Int))] [] m) :
    am_OkV (d + 1) 194 [.inr (.inr 44), .inl x1] m P := am_e0 chk_Arrays_fill rfl (fun S => h)
theorem f_Arrays_fill_45_5 {d : Nat} {P : am_M → Prop} {x1 : Int} {x2 : Int} {x3 : Int} {m : am_M}
    (h : (x3 ≤ x2 → (P m)) ∧ (¬ (x3 ≤ x2) → (0 ≤ x2 ∧ x2 < 96 ∧ (am_R (x2 + (1 : Int)) ∧ (am_GV (d + 1) 194 P 5 [(0, .inr (.inr 45)), (1, .inl x1), (2, .inl (x2 + (1 : Int))), (3, .inl x3)] [] (am_wr m 45 x2 x1)))))) :
    am_GV (d + 1) 194 P 5 [(0, .inr (.inr 45)), (1, .inl x1), (2, .inl x2), (3, .inl x3)] [] m := am_c0 chk_Arrays_fill rfl (fun S => h)
theorem f_Arrays_fill_45 {d : Nat} {P : am_M → Prop} {x1 : Int} {m : am_M}
    (h : am_GV (d + 1) 194 P 5 [(0, .inr (.inr 45)), (1, .inl x1), (2, .inl (0 : Int)), (3, .inl (96 : Int))] [] m) :
    am_OkV (d + 1) 194 [.inr (.inr 45), .inl x1] m P := am_e0 chk_Arrays_fill rfl (fun S => h)
theorem f_Arrays_fill_32_5 {d : Nat} {P : am_M → Prop} {x1 : Int} {x2 : Int} {x3 : Int} {m : am_M}
    (h : (x3 ≤ x2 → (P m)) ∧ (¬ (x3 ≤ x2) → (0 ≤ x2 ∧ x2 < 96 ∧ (am_R (x2 + (1 : Int)) ∧ (am_GV (d + 1) 194 P 5 [(0, .inr (.inr 32)), (1, .inl x1), (2, .inl (x2 + (1 : Int))), (3, .inl x3)] [] (am_wr m 32 x2 x1)))))) :
    am_GV (d + 1) 194 P 5 [(0, .inr (.inr 32)), (1, .inl x1), (2, .inl x2), (3, .inl x3)] [] m := am_c0 chk_Arrays_fill rfl (fun S => h)
theorem f_Arrays_fill_32 {d : Nat} {P : am_M → Prop} {x1 : Int} {m : am_M}
    (h : am_GV (d + 1) 194 P 5 [(0, .inr (.inr 32)), (1, .inl x1), (2, .inl (0 : Int)), (3, .inl (96 : Int))] [] m) :
    am_OkV (d + 1) 194 [.inr (.inr 32), .inl x1] m P := am_e0 chk_Arrays_fill rfl (fun S => h)
theorem f_Arrays_fill_31_5 {d : Nat} {P : am_M → Prop} {x1 : Int} {x2 : Int} {x3 : Int} {m : am_M}
    (h : (x3 ≤ x2 → (P m)) ∧ (¬ (x3 ≤ x2) → (0 ≤ x2 ∧ x2 < 48 ∧ (am_R (x2 + (1 : Int)) ∧ (am_GV (d + 1) 194 P 5 [(0, .inr (.inr 31)), (1, .inl x1), (2, .inl (x2 + (1 : Int))), (3, .inl x3)] [] (am_wr m 31 x2 x1)))))) :
    am_GV (d + 1) 194 P 5 [(0, .inr (.inr 31)), (1, .inl x1), (2, .inl x2), (3, .inl x3)] [] m := am_c0 chk_Arrays_fill rfl (fun S => h)
theorem f_Arrays_fill_31 {d : Nat} {P : am_M → Prop} {x1 : Int} {m : am_M}
    (h : am_GV (d + 1) 194 P 5 [(0, .inr (.inr 31)), (1, .inl x1), (2, .inl (0 : Int)), (3, .inl (48 : Int))] [] m) :
    am_OkV (d + 1) 194 [.inr (.inr 31), .inl x1] m P := am_e0 chk_Arrays_fill rfl (fun S => h)
theorem f_Arrays_fill_34_5 {d : Nat} {P : am_M → Prop} {x1 : Int} {x2 : Int} {x3 : Int} {m : am_M}
    (h : (x3 ≤ x2 → (P m)) ∧ (¬ (x3 ≤ x2) → (0 ≤ x2 ∧ x2 < 48 ∧ (am_R (x2 + (1 : Int)) ∧ (am_GV (d + 1) 194 P 5 [(0, .inr (.inr 34)), (1, .inl x1), (2, .inl (x2 + (1 : Int))), (3, .inl x3)] [] (am_wr m 34 x2 x1)))))) :
    am_GV (d + 1) 194 P 5 [(0, .inr (.inr 34)), (1, .inl x1), (2, .inl x2), (3, .inl x3)] [] m := am_c0 chk_Arrays_fill rfl (fun S => h)
theorem f_Arrays_fill_34 {d : Nat} {P : am_M → Prop} {x1 : Int} {m : am_M}
    (h : am_GV (d + 1) 194 P 5 [(0, .inr (.inr 34)), (1, .inl x1), (2, .inl (0 : Int)), (3, .inl (48 : Int))] [] m) :
    am_OkV (d + 1) 194 [.inr (.inr 34), .inl x1] m P := am_e0 chk_Arrays_fill rfl (fun S => h)
end
section
/-! small tools over the abstract machine -/
theorem am_RI {z : Int} (h1 : -2147483648 ≤ z) (h2 : z ≤ 2147483647) : am_R z := ⟨h1, h2⟩
/-- what is not named stays -/
def Fr (l1 l2 : List Nat) (m m' : am_M) : Prop := (∀ i, i ∉ l1 → m'.1 i = m.1 i) ∧ (∀ i, i ∉ l2 → m'.2 i = m.2 i)
theorem Fr.rf {l1 l2 : List Nat} {m : am_M} : Fr l1 l2 m m := ⟨fun _ _ => rfl, fun _ _ => rfl⟩
theorem Fr.tr {l1 l2 l3 l4 : List Nat} {m m1 m2 : am_M} (h : Fr l1 l2 m m1) (h2 : Fr l3 l4 m1 m2) {k1 k2 : List Nat} (a1 : ∀ i ∈ l1, i ∈ k1) (a2 : ∀ i ∈ l2, i ∈ k2) (a3 : ∀ i ∈ l3, i ∈ k1) (a4 : ∀ i ∈ l4, i ∈ k2) : Fr k1 k2 m m2 :=
  ⟨fun i hi => (h2.1 i (fun z => hi (a3 i z))).trans (h.1 i (fun z => hi (a1 i z))), fun i hi => (h2.2 i (fun z => hi (a4 i z))).trans (h.2 i (fun z => hi (a2 i z)))⟩
theorem Fr.tr1 {l1 l2 : List Nat} {m m1 m2 : am_M} (h : Fr l1 l2 m m1) (h2 : Fr l1 l2 m1 m2) : Fr l1 l2 m m2 := h.tr h2 (fun _ h => h) (fun _ h => h) (fun _ h => h) (fun _ h => h)
theorem Fr.mono {l1 l2 k1 k2 : List Nat} {m m1 : am_M} (h : Fr l1 l2 m m1) (a1 : ∀ i ∈ l1, i ∈ k1) (a2 : ∀ i ∈ l2, i ∈ k2) : Fr k1 k2 m m1 :=
  ⟨fun i hi => h.1 i (fun z => hi (a1 i z)), fun i hi => h.2 i (fun z => hi (a2 i z))⟩
theorem Fr.wr {l1 l2 : List Nat} {m m1 : am_M} (h : Fr l1 l2 m m1) {id : Nat} {z v : Int} (hid : id ∈ l1) : Fr l1 l2 m (am_wr m1 id z v) :=
  ⟨fun i hi => by rw [am_wr1 m1 id z v i (fun e => hi (e ▸ hid))]; exact h.1 i hi, h.2⟩
theorem Fr.wl {l1 l2 : List Nat} {m m1 : am_M} (h : Fr l1 l2 m m1) {id : Nat} {z : Int} {v : Int64} (hid : id ∈ l2) : Fr l1 l2 m (am_wl m1 id z v) :=
  ⟨h.1, fun i hi => by rw [am_wl2 m1 id z v i (fun e => hi (e ▸ hid))]; exact h.2 i hi⟩
theorem Fr.ws1 {l1 l2 : List Nat} {m m1 : am_M} (h : Fr l1 l2 m m1) {id : Nat} {f : Int → Int} (hid : id ∈ l1) : Fr l1 l2 m (am_ws1 m1 id f) :=
  ⟨fun i hi => by rw [am_ws11 m1 id f i (fun e => hi (e ▸ hid))]; exact h.1 i hi, h.2⟩
theorem Fr.ws2 {l1 l2 : List Nat} {m m1 : am_M} (h : Fr l1 l2 m m1) {id : Nat} {f : Int → Int64} (hid : id ∈ l2) : Fr l1 l2 m (am_ws2 m1 id f) :=
  ⟨h.1, fun i hi => by rw [am_ws22 m1 id f i (fun e => hi (e ▸ hid))]; exact h.2 i hi⟩
theorem wr_at (m : am_M) (id : Nat) (z v w : Int) : (am_wr m id z v).1 id w = if w = z then v else m.1 id w := by simp [am_wr]
theorem wr_ne (m : am_M) {id i : Nat} (z v : Int) (h : i ≠ id) : (am_wr m id z v).1 i = m.1 i := am_wr1 m id z v i h
theorem wl_at (m : am_M) (id : Nat) (z w : Int) (v : Int64) : (am_wl m id z v).2 id w = if w = z then v else m.2 id w := by simp [am_wl]
theorem wl_ne (m : am_M) {id i : Nat} (z : Int) (v : Int64) (h : i ≠ id) : (am_wl m id z v).2 i = m.2 i := am_wl2 m id z v i h
theorem wr_2 (m : am_M) (id : Nat) (z v : Int) : (am_wr m id z v).2 = m.2 := rfl
theorem wl_1 (m : am_M) (id : Nat) (z : Int) (v : Int64) : (am_wl m id z v).1 = m.1 := rfl
theorem ws1_at (m : am_M) (id : Nat) (f : Int → Int) : (am_ws1 m id f).1 id = f := by simp [am_ws1]
theorem ws2_at (m : am_M) (id : Nat) (f : Int → Int64) : (am_ws2 m id f).2 id = f := by simp [am_ws2]
-- the calls' predicates are monotone in what is wanted of the answer
theorem am_Ok.imp {d y : Nat} {as : List am_V} {m : am_M} {P P' : am_V → am_M → Prop} (h : am_Ok d y as m P) (hp : ∀ v m', P v m' → P' v m') : am_Ok d y as m P' := by
  intro l E A p e ha hc hk s mm args below hf hfit hpre hx
  obtain ⟨k, o, a1, a2, a3, ⟨⟨v, m', b1, b2, b3, b4⟩, b5⟩, a5⟩ := h l E A p e ha hc hk s mm args below hf hfit hpre hx
  exact ⟨k, o, a1, a2, a3, ⟨⟨v, m', b1, b2, hp _ _ b3, b4⟩, b5⟩, a5⟩
end
section
/-! PURE: keys that touch cells. T k: the cells of key k; left: which keys are left -/
def pset (left : Nat → Bool) (k : Nat) (b : Bool) : Nat → Bool := fun j => if j = k then b else left j
def pcnt (T : Nat → List Nat) (left : Nat → Bool) (x : Nat) : Nat → Nat
  | 0 => 0
  | n + 1 => pcnt T left x n + if left n = true ∧ x ∈ T n then 1 else 0
def psum (T : Nat → List Nat) (left : Nat → Bool) (x : Nat) : Nat → Nat
  | 0 => 0
  | n + 1 => psum T left x n + if left n = true ∧ x ∈ T n then n else 0
def px32 (T : Nat → List Nat) (left : Nat → Bool) (x : Nat) : Nat → Int32
  | 0 => 0
  | n + 1 => px32 T left x n ^^^ if left n = true ∧ x ∈ T n then Int32.ofNat n else 0
def pleft (left : Nat → Bool) : Nat → Nat
  | 0 => 0
  | n + 1 => pleft left n + if left n = true then 1 else 0
theorem pset_self {left : Nat → Bool} {k : Nat} {b : Bool} : pset left k b k = b := by simp [pset]
theorem pset_ne {left : Nat → Bool} {k j : Nat} {b : Bool} (h : j ≠ k) : pset left k b j = left j := by simp [pset, h]
theorem pset_same {left : Nat → Bool} {k : Nat} {b : Bool} (h : left k = b) : pset left k b = left := by
  funext j
  by_cases hj : j = k
  · subst hj; rw [pset_self, h]
  · rw [pset_ne hj]
theorem pset_pset {left : Nat → Bool} {k : Nat} {b c : Bool} : pset (pset left k b) k c = pset left k c := by
  funext j
  by_cases hj : j = k
  · subst hj; rw [pset_self, pset_self]
  · rw [pset_ne hj, pset_ne hj, pset_ne hj]
theorem pcnt_congr {T : Nat → List Nat} {l1 l2 : Nat → Bool} {x : Nat} : ∀ {n : Nat}, (∀ j, j < n → l1 j = l2 j) → pcnt T l1 x n = pcnt T l2 x n
  | 0, _ => rfl
  | n + 1, h => by
    unfold pcnt
    rw [pcnt_congr (n := n) (fun j hj => h j (by omega)), h n (by omega)]
theorem psum_congr {T : Nat → List Nat} {l1 l2 : Nat → Bool} {x : Nat} : ∀ {n : Nat}, (∀ j, j < n → l1 j = l2 j) → psum T l1 x n = psum T l2 x n
  | 0, _ => rfl
  | n + 1, h => by
    unfold psum
    rw [psum_congr (n := n) (fun j hj => h j (by omega)), h n (by omega)]
theorem px32_congr {T : Nat → List Nat} {l1 l2 : Nat → Bool} {x : Nat} : ∀ {n : Nat}, (∀ j, j < n → l1 j = l2 j) → px32 T l1 x n = px32 T l2 x n
  | 0, _ => rfl
  | n + 1, h => by
    unfold px32
    rw [px32_congr (n := n) (fun j hj => h j (by omega)), h n (by omega)]
theorem pleft_congr {l1 l2 : Nat → Bool} : ∀ {n : Nat}, (∀ j, j < n → l1 j = l2 j) → pleft l1 n = pleft l2 n
  | 0, _ => rfl
  | n + 1, h => by
    unfold pleft
    rw [pleft_congr (n := n) (fun j hj => h j (by omega)), h n (by omega)]
theorem pcnt_set {T : Nat → List Nat} {left : Nat → Bool} {x k : Nat} {b : Bool} : ∀ {n : Nat}, k < n → pcnt T (pset left k b) x n + (if left k = true ∧ x ∈ T k then 1 else 0) = pcnt T left x n + (if b = true ∧ x ∈ T k then 1 else 0)
  | 0, h => by omega
  | n + 1, h => by
    unfold pcnt
    by_cases hk : k = n
    · subst hk
      rw [pset_self, pcnt_congr (l1 := pset left k b) (l2 := left) (fun j hj => pset_ne (by omega))]
      omega
    · rw [pset_ne (fun e => hk e.symm)]
      have := pcnt_set (T := T) (left := left) (x := x) (b := b) (n := n) (k := k) (by omega)
      omega
theorem psum_set {T : Nat → List Nat} {left : Nat → Bool} {x k : Nat} {b : Bool} : ∀ {n : Nat}, k < n → psum T (pset left k b) x n + (if left k = true ∧ x ∈ T k then k else 0) = psum T left x n + (if b = true ∧ x ∈ T k then k else 0)
  | 0, h => by omega
  | n + 1, h => by
    unfold psum
    by_cases hk : k = n
    · subst hk
      rw [pset_self, psum_congr (l1 := pset left k b) (l2 := left) (fun j hj => pset_ne (by omega))]
      omega
    · rw [pset_ne (fun e => hk e.symm)]
      have := psum_set (T := T) (left := left) (x := x) (b := b) (n := n) (k := k) (by omega)
      omega
theorem pleft_set {left : Nat → Bool} {k : Nat} {b : Bool} : ∀ {n : Nat}, k < n → pleft (pset left k b) n + (if left k = true then 1 else 0) = pleft left n + (if b = true then 1 else 0)
  | 0, h => by omega
  | n + 1, h => by
    unfold pleft
    by_cases hk : k = n
    · subst hk
      rw [pset_self, pleft_congr (l1 := pset left k b) (l2 := left) (fun j hj => pset_ne (by omega))]
      omega
    · rw [pset_ne (fun e => hk e.symm)]
      have := pleft_set (left := left) (b := b) (n := n) (k := k) (by omega)
      omega
theorem px32_set {T : Nat → List Nat} {left : Nat → Bool} {x k : Nat} {b : Bool} : ∀ {n : Nat}, k < n → px32 T (pset left k b) x n ^^^ (if left k = true ∧ x ∈ T k then Int32.ofNat k else 0) = px32 T left x n ^^^ (if b = true ∧ x ∈ T k then Int32.ofNat k else 0)
  | 0, h => by omega
  | n + 1, h => by
    unfold px32
    by_cases hk : k = n
    · subst hk
      rw [pset_self, px32_congr (l1 := pset left k b) (l2 := left) (fun j hj => pset_ne (by omega))]
      rw [Int32.xor_assoc, Int32.xor_assoc, Int32.xor_comm (if b = true ∧ x ∈ T k then Int32.ofNat k else 0)]
    · rw [pset_ne (fun e => hk e.symm)]
      have := px32_set (T := T) (left := left) (x := x) (b := b) (n := n) (k := k) (by omega)
      generalize (if left n = true ∧ x ∈ T n then Int32.ofNat n else 0) = w
      rw [Int32.xor_assoc, Int32.xor_comm w, ← Int32.xor_assoc, this, Int32.xor_assoc, Int32.xor_comm _ w, ← Int32.xor_assoc]
theorem pcnt_le {T : Nat → List Nat} {left : Nat → Bool} {x : Nat} : ∀ {n : Nat}, pcnt T left x n ≤ n
  | 0 => Nat.le_refl _
  | n + 1 => by
    unfold pcnt
    have := pcnt_le (T := T) (left := left) (x := x) (n := n)
    split <;> omega
theorem pleft_le {left : Nat → Bool} : ∀ {n : Nat}, pleft left n ≤ n
  | 0 => Nat.le_refl _
  | n + 1 => by
    unfold pleft
    have := pleft_le (left := left) (n := n)
    split <;> omega
theorem psum_le {T : Nat → List Nat} {left : Nat → Bool} {x : Nat} : ∀ {n : Nat}, psum T left x n ≤ n * n
  | 0 => Nat.le_refl _
  | n + 1 => by
    unfold psum
    have := psum_le (T := T) (left := left) (x := x) (n := n)
    have e : (n + 1) * (n + 1) = n * n + 2 * n + 1 := by rw [Nat.add_mul, Nat.mul_add]; omega
    rw [e]
    split <;> omega
theorem pcnt_zero {T : Nat → List Nat} {left : Nat → Bool} {x : Nat} : ∀ {n : Nat}, pcnt T left x n = 0 ↔ ∀ k, k < n → left k = true → x ∉ T k
  | 0 => ⟨fun _ k hk => absurd hk (by omega), fun _ => rfl⟩
  | n + 1 => by
    unfold pcnt
    have ih := pcnt_zero (T := T) (left := left) (x := x) (n := n)
    constructor
    · intro h k hk hl hx
      by_cases hkn : k = n
      · subst hkn
        rw [if_pos ⟨hl, hx⟩] at h
        omega
      · exact ih.mp (by omega) k (by omega) hl hx
    · intro h
      rw [ih.mpr (fun k hk => h k (by omega)), if_neg (fun z => h n (by omega) z.1 z.2)]
theorem psum_zero {T : Nat → List Nat} {left : Nat → Bool} {x : Nat} : ∀ {n : Nat}, pcnt T left x n = 0 → psum T left x n = 0 ∧ px32 T left x n = 0
  | 0, _ => ⟨rfl, rfl⟩
  | n + 1, h => by
    have hz := pcnt_zero.mp h
    have ih := psum_zero (T := T) (left := left) (x := x) (n := n) (pcnt_zero.mpr fun k hk => hz k (by omega))
    unfold psum px32
    rw [ih.1, ih.2, if_neg (fun z => hz n (by omega) z.1 z.2), if_neg (fun z => hz n (by omega) z.1 z.2)]
    exact ⟨rfl, rfl⟩
/-- a cell that one key alone touches: which one, by the sum and by the xor -/
theorem palone {T : Nat → List Nat} {left : Nat → Bool} {x : Nat} : ∀ {n : Nat}, pcnt T left x n = 1 → ∃ k, k < n ∧ left k = true ∧ x ∈ T k ∧ (∀ j, j < n → left j = true → x ∈ T j → j = k) ∧ psum T left x n = k ∧ px32 T left x n = Int32.ofNat k
  | 0, h => by cases h
  | n + 1, h => by
    unfold pcnt at h
    unfold psum px32
    by_cases hc : left n = true ∧ x ∈ T n
    · rw [if_pos hc] at h
      have h0 : pcnt T left x n = 0 := by omega
      have hz := pcnt_zero.mp h0
      have hs := psum_zero h0
      refine ⟨n, by omega, hc.1, hc.2, fun j hj hl hx => ?_, ?_, ?_⟩
      · by_cases hjn : j = n
        · exact hjn
        · exact absurd hx (hz j (by omega) hl)
      · rw [if_pos hc, hs.1, Nat.zero_add]
      · rw [if_pos hc, hs.2, Int32.zero_xor]
    · rw [if_neg hc] at h
      obtain ⟨k, h1, h2, h3, h4, h5, h6⟩ := palone (n := n) (by omega)
      refine ⟨k, by omega, h2, h3, fun j hj hl hx => ?_, ?_, ?_⟩
      · by_cases hjn : j = n
        · subst hjn
          exact absurd ⟨hl, hx⟩ hc
        · exact h4 j (by omega) hl hx
      · rw [if_neg hc, h5, Nat.add_zero]
      · rw [if_neg hc, h6, Int32.xor_zero]
theorem palone_of {T : Nat → List Nat} {left : Nat → Bool} {x : Nat} : ∀ {n k : Nat}, k < n → left k = true → x ∈ T k → (∀ j, j < n → left j = true → x ∈ T j → j = k) → pcnt T left x n = 1
  | 0, k, h, _, _, _ => by omega
  | n + 1, k, h, hl, hx, hu => by
    unfold pcnt
    by_cases hk : k = n
    · subst hk
      rw [if_pos ⟨hl, hx⟩, pcnt_zero.mpr (fun j hj hjl hjx => by have := hu j (by omega) hjl hjx; omega)]
    · rw [if_neg (fun z => hk (hu n (by omega) z.1 z.2).symm), palone_of (n := n) (k := k) (by omega) hl hx (fun j hj => hu j (by omega))]
theorem pleft_zero {left : Nat → Bool} : ∀ {n : Nat}, pleft left n = 0 ↔ ∀ k, k < n → left k = false
  | 0 => ⟨fun _ k hk => absurd hk (by omega), fun _ => rfl⟩
  | n + 1 => by
    unfold pleft
    have ih := pleft_zero (left := left) (n := n)
    constructor
    · intro h k hk
      by_cases hkn : k = n
      · subst hkn
        cases hb : left k with
        | false => rfl
        | true => rw [if_pos hb] at h; omega
      · exact ih.mp (by omega) k (by omega)
    · intro h
      rw [ih.mpr (fun k hk => h k (by omega)), h n (by omega)]
      rfl
/-- the cells of a key, one after the other -/
def TOK (T : Nat → List Nat) (n N : Nat) : Prop := ∀ k, k < n → ((T k).length = 1 ∨ (T k).length = 3) ∧ (T k).Pairwise (· < ·) ∧ ∀ x ∈ T k, x < N
end
section
/-! ROW: keys on the row -/
def RowC (m : am_M) (T : Nat → List Nat) (n N : Nat) : Prop :=
  n ≤ 48 ∧ N ≤ 96 ∧ TOK T n N ∧ ∀ k : Nat, k < n → m.1 22 k = (T k).length ∧ ∀ t x : Nat, (T k)[t]? = some x → m.1 21 (3 * k + t) = x
def RowL (m : am_M) (T : Nat → List Nat) (n N : Nat) : Prop := m.1 3006 0 = n ∧ m.1 3008 0 = N ∧ RowC m T n N
def RowD (m : am_M) (T : Nat → List Nat) (n : Nat) (left : Nat → Bool) : Prop :=
  m.1 3007 0 = pleft left n ∧ (∀ k : Nat, k < n → m.1 24 k = if left k = true then 0 else 1) ∧ ∀ x : Nat, x < 96 → m.1 25 x = pcnt T left x n ∧ m.1 26 x = (px32 T left x n).toInt
theorem RowL.fr {m m' : am_M} {T : Nat → List Nat} {n N : Nat} (h : RowL m T n N) {l1 l2 : List Nat} (hf : Fr l1 l2 m m') (h1 : 3006 ∉ l1 ∧ 3008 ∉ l1 ∧ 22 ∉ l1 ∧ 21 ∉ l1) : RowL m' T n N := by
  unfold RowL RowC
  rw [hf.1 _ h1.1, hf.1 _ h1.2.1, hf.1 _ h1.2.2.1, hf.1 _ h1.2.2.2]
  exact h
theorem RowC.fr {m m' : am_M} {T : Nat → List Nat} {n N : Nat} (h : RowC m T n N) {l1 l2 : List Nat} (hf : Fr l1 l2 m m') (h1 : 22 ∉ l1 ∧ 21 ∉ l1) : RowC m' T n N := by
  unfold RowC
  rw [hf.1 _ h1.1, hf.1 _ h1.2]
  exact h
theorem RowD.congr {m : am_M} {T : Nat → List Nat} {n : Nat} {l1 l2 : Nat → Bool} (h : RowD m T n l1) (he : ∀ j, j < n → l1 j = l2 j) : RowD m T n l2 := by
  refine ⟨by rw [← pleft_congr he]; exact h.1, fun k hk => by rw [← he k hk]; exact h.2.1 k hk, fun x hx => ?_⟩
  rw [← pcnt_congr he, ← px32_congr he]
  exact h.2.2 x hx
theorem RowD.fr {m m' : am_M} {T : Nat → List Nat} {n : Nat} {left : Nat → Bool} (h : RowD m T n left) {l1 l2 : List Nat} (hf : Fr l1 l2 m m') (h1 : 3007 ∉ l1 ∧ 24 ∉ l1 ∧ 25 ∉ l1 ∧ 26 ∉ l1) : RowD m' T n left := by
  unfold RowD
  rw [hf.1 _ h1.1, hf.1 _ h1.2.1, hf.1 _ h1.2.2.1, hf.1 _ h1.2.2.2]
  exact h
theorem pw_nodup : ∀ {l : List Nat}, l.Pairwise (· < ·) → l.Nodup
  | [], _ => List.Pairwise.nil
  | a :: l, h => by
    rw [List.pairwise_cons] at h
    exact List.nodup_cons.mpr ⟨fun hm => Nat.lt_irrefl _ (h.1 a hm), pw_nodup h.2⟩
/-- cells one after the other: two rows, each by a function of what was there -/
def tk (i1 i2 : Nat) (g1 g2 : Int → Int) : am_M → List Nat → am_M
  | m, [] => m
  | m, c :: l => tk i1 i2 g1 g2 (am_wr (am_wr m i1 c (g1 (m.1 i1 c))) i2 c (g2 (m.1 i2 c))) l
theorem tk_spec {i1 i2 : Nat} {g1 g2 : Int → Int} (hi : i1 ≠ i2) : ∀ {l : List Nat} {m : am_M}, l.Nodup → Fr [i1, i2] [] m (tk i1 i2 g1 g2 m l) ∧ ∀ x : Nat, (tk i1 i2 g1 g2 m l).1 i1 x = (if x ∈ l then g1 (m.1 i1 x) else m.1 i1 x) ∧ (tk i1 i2 g1 g2 m l).1 i2 x = (if x ∈ l then g2 (m.1 i2 x) else m.1 i2 x)
  | [], m, _ => ⟨Fr.rf, fun x => ⟨by simp [tk], by simp [tk]⟩⟩
  | c :: l, m, h => by
    rw [List.nodup_cons] at h
    obtain ⟨hf, hs⟩ := tk_spec (g1 := g1) (g2 := g2) hi (l := l) (m := am_wr (am_wr m i1 c (g1 (m.1 i1 c))) i2 c (g2 (m.1 i2 c))) h.2
    refine ⟨((Fr.rf.wr (by simp)).wr (by simp)).tr1 hf, fun x => ?_⟩
    obtain ⟨h1, h2⟩ := hs x
    unfold tk
    rw [h1, h2]
    by_cases hx : x = c
    · subst hx
      simp only [List.mem_cons_self, if_true, if_neg h.1]
      exact ⟨by rw [wr_ne _ _ _ hi, wr_at, if_pos rfl], by rw [wr_at, if_pos rfl]⟩
    · have hxi : ¬ (x : Int) = (c : Int) := by omega
      have hm : (x ∈ c :: l) ↔ x ∈ l := by simp [hx]
      have e1 : (am_wr (am_wr m i1 c (g1 (m.1 i1 c))) i2 c (g2 (m.1 i2 c))).1 i1 x = m.1 i1 x := by rw [wr_ne _ _ _ hi, wr_at, if_neg hxi]
      have e2 : (am_wr (am_wr m i1 c (g1 (m.1 i1 c))) i2 c (g2 (m.1 i2 c))).1 i2 x = m.1 i2 x := by rw [wr_at, if_neg hxi, wr_ne _ _ _ hi.symm]
      rw [e1, e2]
      simp only [hm]
      exact ⟨trivial, trivial⟩
theorem l_takeOff {d : Nat} {P : am_M → Prop} {m : am_M} {T : Nat → List Nat} {n N k : Nat} (hL : RowL m T n N) (hk : k < n) : ∀ (l : List Nat) (j : Nat) (m' : am_M), (T k).drop j = l → l.Nodup → Fr [25, 26, 24, 3007] [] m m' → (∀ c ∈ l, am_R (m'.1 25 (c : Int) - 1)) → P (tk 25 26 (fun z => z - 1) (fun z => am_xor z k) m' l) → am_GV (d + 1) 54 P 21 [(0, .inr (.inr 20)), (1, .inl k), (2, .inl (3 * k + j))] [] m' := by
  obtain ⟨-, -, hn, hN, hT, hr⟩ := hL
  obtain ⟨h22, h21⟩ := hr k hk
  obtain ⟨hlen, -, hlt⟩ := hT k hk
  intro l
  induction l with
  | nil =>
    intro j m' hd _ hf _ hp
    have h22' : m'.1 22 k = (T k).length := by rw [hf.1 _ (by decide)]; exact h22
    have hj : (T k).length ≤ j := by
      rcases Nat.lt_or_ge j (T k).length with h | h
      · have := congrArg List.length hd
        rw [List.length_drop] at this
        simp at this
        omega
      · exact h
    refine f_Row_takeOff_21 ?_
    rw [h22']
    refine ⟨am_RI (by omega) (by omega), by omega, by omega, am_RI (by omega) (by omega), fun _ => hp, fun hc => absurd ?_ hc⟩
    omega
  | cons c l ih =>
    intro j m' hd hnd hf hb hp
    have h22' : m'.1 22 k = (T k).length := by rw [hf.1 _ (by decide)]; exact h22
    have hc0 : (T k)[j]? = some c := by
      have := congrArg (fun z => z[0]?) hd
      simpa using this
    have hjl : j < (T k).length := (List.getElem?_eq_some_iff.mp hc0).1
    have h21' : m'.1 21 (3 * k + j) = c := by rw [hf.1 _ (by decide)]; exact h21 j c hc0
    have hcN : c < N := hlt c (List.mem_of_getElem? hc0)
    rw [List.nodup_cons] at hnd
    refine f_Row_takeOff_21 ?_
    rw [h22', h21']
    refine ⟨am_RI (by omega) (by omega), by omega, by omega, am_RI (by omega) (by omega), fun hc => by omega, fun _ => ?_⟩
    refine ⟨by omega, by omega, by omega, by omega, hb c List.mem_cons_self, by omega, by omega, by omega, by omega, by omega, by omega, by omega, by omega, am_RI (by omega) (by omega), ?_⟩
    have e : (3 * (k : Int) + (j : Int) + 1) = 3 * (k : Int) + ((j + 1 : Nat) : Int) := by omega
    rw [e]
    refine ih (j + 1) _ ?_ hnd.2 ((hf.wr (by decide)).wr (by decide)) (fun x hx => ?_) hp
    · rw [← List.drop_drop, hd]
      rfl
    · have hxc : x ≠ c := fun e => hnd.1 (e ▸ hx)
      rw [wr_ne _ _ _ (by decide), wr_at, if_neg (by omega)]
      exact hb x (List.mem_cons_of_mem _ hx)
theorem l_putBack {d : Nat} {P : am_M → Prop} {m : am_M} {T : Nat → List Nat} {n N k : Nat} (hL : RowC m T n N) (hk : k < n) : ∀ (l : List Nat) (j : Nat) (m' : am_M), (T k).drop j = l → l.Nodup → Fr [25, 26, 24, 3007] [] m m' → (∀ c ∈ l, am_R (m'.1 25 (c : Int) + 1)) → P (tk 25 26 (fun z => z + 1) (fun z => am_xor z k) m' l) → am_GV (d + 1) 53 P 21 [(0, .inr (.inr 20)), (1, .inl k), (2, .inl (3 * k + j))] [] m' := by
  obtain ⟨hn, hN, hT, hr⟩ := hL
  obtain ⟨h22, h21⟩ := hr k hk
  obtain ⟨hlen, -, hlt⟩ := hT k hk
  intro l
  induction l with
  | nil =>
    intro j m' hd _ hf _ hp
    have h22' : m'.1 22 k = (T k).length := by rw [hf.1 _ (by decide)]; exact h22
    have hj : (T k).length ≤ j := by
      rcases Nat.lt_or_ge j (T k).length with h | h
      · have := congrArg List.length hd
        rw [List.length_drop] at this
        simp at this
        omega
      · exact h
    refine f_Row_putBack_21 ?_
    rw [h22']
    refine ⟨am_RI (by omega) (by omega), by omega, by omega, am_RI (by omega) (by omega), fun _ => hp, fun hc => absurd ?_ hc⟩
    omega
  | cons c l ih =>
    intro j m' hd hnd hf hb hp
    have h22' : m'.1 22 k = (T k).length := by rw [hf.1 _ (by decide)]; exact h22
    have hc0 : (T k)[j]? = some c := by
      have := congrArg (fun z => z[0]?) hd
      simpa using this
    have hjl : j < (T k).length := (List.getElem?_eq_some_iff.mp hc0).1
    have h21' : m'.1 21 (3 * k + j) = c := by rw [hf.1 _ (by decide)]; exact h21 j c hc0
    have hcN : c < N := hlt c (List.mem_of_getElem? hc0)
    rw [List.nodup_cons] at hnd
    refine f_Row_putBack_21 ?_
    rw [h22', h21']
    refine ⟨am_RI (by omega) (by omega), by omega, by omega, am_RI (by omega) (by omega), fun hc => by omega, fun _ => ?_⟩
    refine ⟨by omega, by omega, by omega, by omega, hb c List.mem_cons_self, by omega, by omega, by omega, by omega, by omega, by omega, by omega, by omega, am_RI (by omega) (by omega), ?_⟩
    have e : (3 * (k : Int) + (j : Int) + 1) = 3 * (k : Int) + ((j + 1 : Nat) : Int) := by omega
    rw [e]
    refine ih (j + 1) _ ?_ hnd.2 ((hf.wr (by decide)).wr (by decide)) (fun x hx => ?_) hp
    · rw [← List.drop_drop, hd]
      rfl
    · have hxc : x ≠ c := fun e => hnd.1 (e ▸ hx)
      rw [wr_ne _ _ _ (by decide), wr_at, if_neg (by omega)]
      exact hb x (List.mem_cons_of_mem _ hx)
theorem xor_nat (x : Int32) (k : Nat) : am_xor x.toInt k = (x ^^^ Int32.ofNat k).toInt := by
  unfold am_xor
  rw [am_of, Int32.ofInt_eq_ofNat]
theorem xor_back {a b k : Int32} (h : a ^^^ k = b) : a = b ^^^ k := by rw [← h, Int32.xor_assoc, Int32.xor_self, Int32.xor_zero]
theorem c_takeOff {d : Nat} {P : am_M → Prop} {m : am_M} {T : Nat → List Nat} {n N k : Nat} {left : Nat → Bool} (hL : RowL m T n N) (hD : RowD m T n left) (hk : k < n) (hl : left k = true) (h : ∀ m', RowL m' T n N → RowD m' T n (pset left k false) → Fr [25, 26, 24, 3007] [] m m' → P m') : am_OkV (d + 1) 54 [.inr (.inr 20), .inl k] m P := by
  obtain ⟨d1, d2, d3⟩ := id hD
  have hn : n ≤ 48 := hL.2.2.1
  have hpl : pleft left n ≤ n := pleft_le
  have hT := (hL.2.2.2.2.1 k hk)
  have hN : N ≤ 96 := hL.2.2.2.1
  have hnd : (T k).Nodup := pw_nodup hT.2.1
  refine f_Row_takeOff ?_
  rw [d1]
  refine ⟨by omega, by omega, Or.inr rfl, am_RI (by omega) (by omega), am_RI (by omega) (by omega), ?_⟩
  have e : 3 * (k : Int) = 3 * (k : Int) + ((0 : Nat) : Int) := by omega
  rw [e]
  have hf1 : Fr [25, 26, 24, 3007] [] m (am_wr (am_wr m 24 k 1) 3007 0 ((pleft left n : Int) - 1)) := (Fr.rf.wr (by decide)).wr (by decide)
  generalize hm1 : am_wr (am_wr m 24 k 1) 3007 0 ((pleft left n : Int) - 1) = m1 at hf1 ⊢
  have l1 : m1.1 25 = m.1 25 := by rw [← hm1, wr_ne _ _ _ (by decide), wr_ne _ _ _ (by decide)]
  have l2 : m1.1 26 = m.1 26 := by rw [← hm1, wr_ne _ _ _ (by decide), wr_ne _ _ _ (by decide)]
  have l3 : m1.1 3007 0 = (pleft left n : Int) - 1 := by rw [← hm1, wr_at, if_pos rfl]
  have l4 : ∀ j : Nat, m1.1 24 j = if j = k then 1 else m.1 24 j := fun j => by
    rw [← hm1, wr_ne _ _ _ (by decide), wr_at]
    by_cases hj : j = k
    · rw [if_pos hj, if_pos (by omega)]
    · rw [if_neg hj, if_neg (by omega)]
  refine l_takeOff hL hk (T k) 0 m1 rfl hnd hf1 (fun c hc => ?_) ?_
  · have hc96 : c < 96 := by have := hT.2.2 c hc; omega
    rw [l1, (d3 c hc96).1]
    have : pcnt T left c n ≤ n := pcnt_le
    exact am_RI (by omega) (by omega)
  · obtain ⟨hf2, hs⟩ := tk_spec (i1 := 25) (i2 := 26) (g1 := fun z => z - 1) (g2 := fun z => am_xor z k) (by decide) (m := m1) hnd
    have hf := hf1.tr hf2 (k1 := [25, 26, 24, 3007]) (k2 := []) (fun _ h => h) (fun _ h => h) (by decide) (fun _ h => h)
    refine h _ (hL.fr hf (by decide)) ⟨?_, fun j hj => ?_, fun x hx => ?_⟩ hf
    · rw [hf2.1 _ (by decide), l3]
      have := pleft_set (left := left) (b := false) hk
      rw [if_pos hl, if_neg (by decide)] at this
      omega
    · rw [hf2.1 _ (by decide), l4, pset]
      by_cases hjk : j = k
      · simp [hjk]
      · rw [if_neg hjk, if_neg hjk]
        exact d2 j hj
    · obtain ⟨s1, s2⟩ := hs x
      rw [s1, s2, l1, l2, (d3 x hx).1, (d3 x hx).2]
      have c1 := pcnt_set (T := T) (left := left) (x := x) (b := false) hk
      have c2 := px32_set (T := T) (left := left) (x := x) (b := false) hk
      simp only [hl, true_and, Bool.false_eq_true, false_and, if_false, Int32.xor_zero] at c1 c2
      by_cases hxk : x ∈ T k
      · rw [if_pos hxk] at c1 c2 ⊢
        rw [if_pos hxk]
        refine ⟨by omega, ?_⟩
        rw [xor_nat, xor_back c2]
      · rw [if_neg hxk] at c1 c2 ⊢
        rw [if_neg hxk]
        rw [Int32.xor_zero] at c2
        exact ⟨by omega, by rw [c2]⟩
/-- put back: k may be the next one that is laid (n is then the count with it) -/
theorem c_putBack {d : Nat} {P : am_M → Prop} {m : am_M} {T : Nat → List Nat} {n N k : Nat} {left : Nat → Bool} (hL : RowC m T n N) (hD1 : m.1 3007 0 = pleft left n) (hD2 : ∀ j : Nat, j < n → j ≠ k → m.1 24 j = if left j = true then 0 else 1) (hD3 : ∀ x : Nat, x < 96 → m.1 25 x = pcnt T left x n ∧ m.1 26 x = (px32 T left x n).toInt) (hk : k < n) (hl : left k = false) (h : ∀ m', RowD m' T n (pset left k true) → Fr [25, 26, 24, 3007] [] m m' → P m') : am_OkV (d + 1) 53 [.inr (.inr 20), .inl k] m P := by
  have hn : n ≤ 48 := hL.1
  have hpl : pleft left n ≤ n := pleft_le
  have hT := (hL.2.2.1 k hk)
  have hN : N ≤ 96 := hL.2.1
  have hnd : (T k).Nodup := pw_nodup hT.2.1
  refine f_Row_putBack ?_
  rw [hD1]
  refine ⟨by omega, by omega, Or.inl rfl, am_RI (by omega) (by omega), am_RI (by omega) (by omega), ?_⟩
  have e : 3 * (k : Int) = 3 * (k : Int) + ((0 : Nat) : Int) := by omega
  rw [e]
  have hf1 : Fr [25, 26, 24, 3007] [] m (am_wr (am_wr m 24 k 0) 3007 0 ((pleft left n : Int) + 1)) := (Fr.rf.wr (by decide)).wr (by decide)
  generalize hm1 : am_wr (am_wr m 24 k 0) 3007 0 ((pleft left n : Int) + 1) = m1 at hf1 ⊢
  have l1 : m1.1 25 = m.1 25 := by rw [← hm1, wr_ne _ _ _ (by decide), wr_ne _ _ _ (by decide)]
  have l2 : m1.1 26 = m.1 26 := by rw [← hm1, wr_ne _ _ _ (by decide), wr_ne _ _ _ (by decide)]
  have l3 : m1.1 3007 0 = (pleft left n : Int) + 1 := by rw [← hm1, wr_at, if_pos rfl]
  have l4 : ∀ j : Nat, m1.1 24 j = if j = k then 0 else m.1 24 j := fun j => by
    rw [← hm1, wr_ne _ _ _ (by decide), wr_at]
    by_cases hj : j = k
    · rw [if_pos hj, if_pos (by omega)]
    · rw [if_neg hj, if_neg (by omega)]
  refine l_putBack hL hk (T k) 0 m1 rfl hnd hf1 (fun c hc => ?_) ?_
  · have hc96 : c < 96 := by have := hT.2.2 c hc; omega
    rw [l1, (hD3 c hc96).1]
    have : pcnt T left c n ≤ n := pcnt_le
    exact am_RI (by omega) (by omega)
  · obtain ⟨hf2, hs⟩ := tk_spec (i1 := 25) (i2 := 26) (g1 := fun z => z + 1) (g2 := fun z => am_xor z k) (by decide) (m := m1) hnd
    have hf := hf1.tr hf2 (k1 := [25, 26, 24, 3007]) (k2 := []) (fun _ h => h) (fun _ h => h) (by decide) (fun _ h => h)
    refine h _ ⟨?_, fun j hj => ?_, fun x hx => ?_⟩ hf
    · rw [hf2.1 _ (by decide), l3]
      have := pleft_set (left := left) (b := true) hk
      rw [if_neg (by rw [hl]; decide), if_pos rfl] at this
      omega
    · rw [hf2.1 _ (by decide), l4, pset]
      by_cases hjk : j = k
      · simp [hjk]
      · rw [if_neg hjk, if_neg hjk]
        exact hD2 j hj hjk
    · obtain ⟨s1, s2⟩ := hs x
      rw [s1, s2, l1, l2, (hD3 x hx).1, (hD3 x hx).2]
      have c1 := pcnt_set (T := T) (left := left) (x := x) (b := true) hk
      have c2 := px32_set (T := T) (left := left) (x := x) (b := true) hk
      simp only [hl, true_and, Bool.false_eq_true, false_and, if_false, Int32.xor_zero] at c1 c2
      by_cases hxk : x ∈ T k
      · rw [if_pos hxk] at c1 c2 ⊢
        rw [if_pos hxk]
        refine ⟨by omega, ?_⟩
        rw [xor_nat, c2]
      · rw [if_neg hxk] at c1 c2 ⊢
        rw [if_neg hxk]
        rw [Int32.xor_zero] at c2
        exact ⟨by omega, by rw [c2]⟩
theorem c_isAlone {d : Nat} {P : Int → am_M → Prop} {m : am_M} {T : Nat → List Nat} {n x : Nat} {left : Nat → Bool} (hD : RowD m T n left) (hx : x < 96) (h : P (if pcnt T left x n = 1 then 1 else 0) m) : am_OkI (d + 1) 55 [.inr (.inr 20), .inl x] m P := by
  refine f_Row_isAlone ?_
  rw [(hD.2.2 x hx).1]
  refine ⟨by omega, by omega, fun hc => ⟨Or.inl rfl, ?_⟩, fun hc => ⟨Or.inr rfl, ?_⟩⟩
  · rw [if_neg (by omega)] at h
    exact h
  · rw [if_pos (by omega)] at h
    exact h
/-- how many of the first c cells are touched -/
def ptch (T : Nat → List Nat) (left : Nat → Bool) (n : Nat) : Nat → Nat
  | 0 => 0
  | c + 1 => ptch T left n c + if pcnt T left c n = 0 then 0 else 1
theorem ptch_le {T : Nat → List Nat} {left : Nat → Bool} {n : Nat} : ∀ {c : Nat}, ptch T left n c ≤ c
  | 0 => Nat.le_refl _
  | c + 1 => by
    unfold ptch
    have := ptch_le (T := T) (left := left) (n := n) (c := c)
    split <;> omega
theorem c_countTouched {d : Nat} {P : Int → am_M → Prop} {m : am_M} {T : Nat → List Nat} {n N : Nat} {left : Nat → Bool} (hL : RowL m T n N) (hD : RowD m T n left) (h : P (ptch T left n N) m) : am_OkI (d + 1) 56 [.inr (.inr 20)] m P := by
  refine f_Row_countTouched ?_
  have key : ∀ (r c : Nat), c + r = N → am_GI (d + 1) 56 P 4 [(0, .inr (.inr 20)), (1, .inl (ptch T left n c)), (2, .inl c)] [] m := by
    intro r
    induction r with
    | zero =>
      intro c hc
      refine f_Row_countTouched_4 ?_
      rw [hL.2.1]
      refine ⟨fun _ => ?_, fun hh => by omega⟩
      rw [show c = N by omega]
      exact h
    | succ r ih =>
      intro c hc
      have hN : N ≤ 96 := hL.2.2.2.1
      have hle : ptch T left n c ≤ c := ptch_le
      refine f_Row_countTouched_4 ?_
      rw [hL.2.1, (hD.2.2 c (by omega)).1]
      refine ⟨fun hh => by omega, fun _ => ⟨by omega, by omega, fun hz => ⟨am_RI (by omega) (by omega), ?_⟩, fun hz => ⟨am_RI (by omega) (by omega), am_RI (by omega) (by omega), ?_⟩⟩⟩
      · have := ih (c + 1) (by omega)
        unfold ptch at this
        rw [if_pos (by omega)] at this
        simpa using this
      · have := ih (c + 1) (by omega)
        unfold ptch at this
        rw [if_neg (by omega)] at this
        simpa using this
  simpa [ptch] using key N 0 (by omega)
/-- the i-th of the keys from k on that are left; none: the other answer -/
def pat (left : Nat → Bool) (n : Nat) (i : Int) : Nat → Nat → Int → Int
  | 0, _, _ => -2
  | f + 1, k, met => if n ≤ k then -2 else if left k = true then (if met = i then k else pat left n i f (k + 1) (met + 1)) else pat left n i f (k + 1) met
theorem c_leftAt {d : Nat} {P : Int → am_M → Prop} {m : am_M} {T : Nat → List Nat} {n N : Nat} {left : Nat → Bool} {i : Int} (hL : RowL m T n N) (hD : RowD m T n left) (h : P (pat left n i (n + 1) 0 0) m) : am_OkI (d + 1) 57 [.inr (.inr 20), .inl i] m P := by
  refine f_Row_leftAt ?_
  have hn : n ≤ 48 := hL.2.2.1
  have key : ∀ (r k met : Nat), k + r = n + 1 → met ≤ k → P (pat left n i r k met) m → am_GI (d + 1) 57 P 4 [(0, .inr (.inr 20)), (1, .inl i), (2, .inl met), (3, .inl k)] [] m := by
    intro r
    induction r with
    | zero =>
      intro k met hk hm hp
      refine f_Row_leftAt_4 ?_
      rw [hL.1]
      exact ⟨fun _ => hp, fun hh => by omega⟩
    | succ r ih =>
      intro k met hk hm hp
      refine f_Row_leftAt_4 ?_
      rw [hL.1]
      unfold pat at hp
      by_cases hkn : n ≤ k
      · rw [if_pos hkn] at hp
        exact ⟨fun _ => hp, fun hh => by omega⟩
      · rw [if_neg hkn] at hp
        rw [hD.2.1 k (by omega)]
        refine ⟨fun hh => by omega, fun _ => ⟨by omega, by omega, fun hz => ?_, fun hz => ?_⟩⟩
        · have hlk : ¬ left k = true := fun hh => hz (by rw [if_pos hh])
          rw [if_neg hlk] at hp
          exact ⟨am_RI (by omega) (by omega), ih (k + 1) met (by omega) (by omega) hp⟩
        · have hlk : left k = true := Classical.byContradiction fun hh => hz (by rw [if_neg hh]; decide)
          rw [if_pos hlk] at hp
          refine ⟨fun hmi => ⟨am_RI (by omega) (by omega), am_RI (by omega) (by omega), ?_⟩, fun hmi => ?_⟩
          · rw [if_neg hmi] at hp
            exact ih (k + 1) (met + 1) (by omega) (by omega) hp
          · rw [if_pos (Classical.byContradiction hmi)] at hp
            exact hp
  exact key (n + 1) 0 0 (by omega) (by omega) h
theorem c_touchSame {d : Nat} {P : Int → am_M → Prop} {m : am_M} {T : Nat → List Nat} {n N i k : Nat} (hL : RowL m T n N) (hi : i < n) (hk : k < n) (h : P (if T i = T k then 1 else 0) m) : am_OkI (d + 1) 58 [.inr (.inr 20), .inl i, .inl k] m P := by
  obtain ⟨-, -, hn, hN, hT, hr⟩ := hL
  obtain ⟨a1, a2⟩ := hr i hi
  obtain ⟨b1, b2⟩ := hr k hk
  have hl1 := (hT i hi).1
  have hl2 := (hT k hk).1
  refine f_Row_touchSame ?_
  rw [a1, b1]
  refine ⟨by omega, by omega, by omega, by omega, fun he => ?_, fun he => ⟨Or.inl rfl, ?_⟩⟩
  · have key : ∀ (r t : Nat), t + r = (T i).length → (∀ j, j < t → (T i)[j]? = (T k)[j]?) → am_GI (d + 1) 58 P 19 [(0, .inr (.inr 20)), (1, .inl i), (2, .inl k), (3, .inl t)] [] m := by
      intro r
      induction r with
      | zero =>
        intro t ht hs
        refine f_Row_touchSame_19 ?_
        rw [a1]
        refine ⟨by omega, by omega, fun _ => ⟨Or.inr rfl, ?_⟩, fun hh => by omega⟩
        have : T i = T k := List.ext_getElem? fun j => by
          rcases Nat.lt_or_ge j t with hj | hj
          · exact hs j hj
          · rw [List.getElem?_eq_none (by omega), List.getElem?_eq_none (by omega)]
        rw [if_pos this] at h
        exact h
      | succ r ih =>
        intro t ht hs
        have e1 : (T i)[t]? = some (T i)[t] := List.getElem?_eq_getElem (by omega)
        have e2 : (T k)[t]? = some ((T k)[t]'(by omega)) := List.getElem?_eq_getElem (by omega)
        refine f_Row_touchSame_19 ?_
        rw [a1, a2 t _ e1, b2 t _ e2]
        refine ⟨by omega, by omega, fun hh => by omega, fun _ => ⟨am_RI (by omega) (by omega), am_RI (by omega) (by omega), by omega, by omega, am_RI (by omega) (by omega), am_RI (by omega) (by omega), by omega, by omega, fun heq => ⟨am_RI (by omega) (by omega), ?_⟩, fun hne => ⟨Or.inl rfl, ?_⟩⟩⟩
        · refine ih (t + 1) (by omega) (fun j hj => ?_)
          rcases Nat.lt_or_ge j t with hj2 | hj2
          · exact hs j hj2
          · have : j = t := by omega
            subst this
            rw [e1, e2]
            congr 1
            omega
        · rw [if_neg (fun e => hne (by
            have h3 := e1
            have h4 : (T k)[t]? = some (T i)[t] := by rw [← e]; exact e1
            rw [e2] at h4
            have := Option.some.inj h4
            omega))] at h
          exact h
    exact key (T i).length 0 (by omega) (fun j hj => by omega)
  · rw [if_neg (fun e => he (by rw [e]))] at h
    exact h
end
section
/-! MARKS: what a seed makes of a number -/
def h_mix (x0 : Int64) : Int64 := ((((x0 ^^^ (am_lushr x0 (30 : Int))) * (Int64.ofNat 13787848793156543929)) ^^^ (am_lushr ((x0 ^^^ (am_lushr x0 (30 : Int))) * (Int64.ofNat 13787848793156543929)) (27 : Int))) * (Int64.ofNat 10723151780598845931)) ^^^ (am_lushr ((((x0 ^^^ (am_lushr x0 (30 : Int))) * (Int64.ofNat 13787848793156543929)) ^^^ (am_lushr ((x0 ^^^ (am_lushr x0 (30 : Int))) * (Int64.ofNat 13787848793156543929)) (27 : Int))) * (Int64.ofNat 10723151780598845931)) (31 : Int))
def h_hash (x : Int64) (seed : Int) : Int64 := h_mix (x + h_mix (am_i2l seed))
def h_print (h : Int64) (pr : Int) : Int := am_and (am_l2i (h ^^^ (am_lushr h (32 : Int)))) (am_shl 1 pr - 1)
def hpt (h : Int64) (j : Nat) : Nat := (am_and (am_l2i (am_lushr h (16 + 16 * j))) 65535).toNat
theorem and_mask (z : Int) : 0 ≤ am_and z 65535 ∧ am_and z 65535 ≤ 65535 := by
  unfold am_and
  have h := pk_and (Int32.ofInt z) (m := Int32.ofInt 65535) 16 (by decide)
  rw [h]
  have hlt : (Int32.ofInt z).toBitVec.toNat % 2 ^ 16 < 2 ^ 16 := Nat.mod_lt _ (by decide)
  rw [nI_toInt (by omega)]
  omega
theorem hpt_eq (h : Int64) (j : Nat) : am_and (am_l2i (am_lushr h (16 + 16 * j))) 65535 = (hpt h j : Int) := (Int.toNat_of_nonneg (and_mask _).1).symm
theorem hpt_le (h : Int64) (j : Nat) : hpt h j ≤ 65535 := by
  have := (and_mask (am_l2i (am_lushr h (16 + 16 * j)))).2
  have e := hpt_eq h j
  omega
theorem ushr16 {z : Nat} (h : z < 2 ^ 31) : am_ushr z 16 = (z / 65536 : Nat) := by
  unfold am_ushr
  have e : Int32.ofInt (z : Int) = nI z := Int32.ofInt_eq_ofNat
  rw [e, pk_ushrN (by omega) (Int32.ofInt 16) 16 (by decide)]
  rw [nI_toInt (by omega)]
/-- the j-th of the three -/
def h3 (c sp : Nat) (h : Int64) : Nat → Nat
  | 0 => if sp = 0 then hpt h 0 * c / 65536 else hpt h 0 * (3 * c) / 65536
  | j + 1 => if sp = 0 then (j + 1) * c + hpt h (j + 1) * c / 65536 else if sp = 1 then (h3 c sp h j + 1 + hpt h (j + 1) * c / 65536) % (3 * c) else hpt h (j + 1) * (3 * c) / 65536
theorem hshare_lt (h : Int64) (j : Nat) {c : Nat} (hc : 0 < c) : hpt h j * c / 65536 < c := by
  have := hpt_le h j
  rw [Nat.div_lt_iff_lt_mul (by decide)]
  have h1 : hpt h j * c ≤ 65535 * c := Nat.mul_le_mul_right c this
  omega
theorem h3_lt (sp : Nat) (h : Int64) {c : Nat} (hc : 0 < c) : ∀ {j : Nat}, j < 3 → h3 c sp h j < 3 * c
  | 0, _ => by
    unfold h3
    split
    · have := hshare_lt h 0 hc; omega
    · exact hshare_lt h 0 (by omega)
  | j + 1, hj => by
    unfold h3
    split
    · have := hshare_lt h (j + 1) hc
      rcases (show j = 0 ∨ j = 1 by omega) with rfl | rfl <;> omega
    · split
      · exact Nat.mod_lt _ (by omega)
      · exact hshare_lt h (j + 1) (by omega)
/-- the cells that are touched, by numbers -/
def tset (a b c : Nat) : List Nat := if a = b then [c] else if a = c then [b] else if b = c then [a] else [min a (min b c), a + b + c - min a (min b c) - max a (max b c), max a (max b c)]
theorem tset_ok {a b c N : Nat} (ha : a < N) (hb : b < N) (hc : c < N) : ((tset a b c).length = 1 ∨ (tset a b c).length = 3) ∧ (tset a b c).Pairwise (· < ·) ∧ ∀ x ∈ tset a b c, x < N := by
  unfold tset
  split
  · exact ⟨Or.inl rfl, by simp, by simp; omega⟩
  · split
    · exact ⟨Or.inl rfl, by simp, by simp; omega⟩
    · split
      · exact ⟨Or.inl rfl, by simp, by simp; omega⟩
      · refine ⟨Or.inr rfl, ?_, ?_⟩
        · refine List.pairwise_cons.mpr ⟨fun x hx => ?_, List.pairwise_cons.mpr ⟨fun x hx => ?_, List.pairwise_cons.mpr ⟨fun x hx => absurd hx List.not_mem_nil, List.Pairwise.nil⟩⟩⟩
          · simp only [List.mem_cons, List.not_mem_nil, or_false] at hx
            rcases hx with rfl | rfl <;> omega
          · simp only [List.mem_cons, List.not_mem_nil, or_false] at hx
            subst hx
            omega
        · intro x hx
          simp only [List.mem_cons, List.not_mem_nil, or_false] at hx
          rcases hx with rfl | rfl | rfl <;> omega
theorem mem_tset {a b c x : Nat} (h1 : a ≠ b) (h2 : a ≠ c) (h3 : b ≠ c) : x ∈ tset a b c ↔ x = a ∨ x = b ∨ x = c := by
  unfold tset
  rw [if_neg h1, if_neg h2, if_neg h3]
  simp only [List.mem_cons, List.not_mem_nil, or_false]
  omega
def htouch (c sp : Nat) (h : Int64) : List Nat := tset (h3 c sp h 0) (h3 c sp h 1) (h3 c sp h 2)
theorem htouch_ok (sp : Nat) (h : Int64) {c : Nat} (hc : 0 < c) : ((htouch c sp h).length = 1 ∨ (htouch c sp h).length = 3) ∧ (htouch c sp h).Pairwise (· < ·) ∧ ∀ x ∈ htouch c sp h, x < 3 * c := tset_ok (h3_lt sp h hc (by decide)) (h3_lt sp h hc (by decide)) (h3_lt sp h hc (by decide))
theorem shl1 : ∀ p : Nat, p < 17 → am_shl 1 p = (2 ^ p : Nat) := by decide
theorem shl1_R {p : Nat} (h : p < 17) : am_R (am_shl 1 p - 1) := by
  have h1 : (2 ^ p : Nat) ≤ 2 ^ 16 := Nat.pow_le_pow_right (by decide) (by omega)
  rw [shl1 p h]
  generalize 2 ^ p = z at h1
  exact am_RI (by omega) (by omega)
theorem c_mix {d : Nat} {P : Int64 → am_M → Prop} {m : am_M} {x : Int64} (h : P (h_mix x) m) : am_OkL (d + 1) 16 [.inr (.inl x)] m P := f_Marks_mix h
def MarkA (m : am_M) (seed : Int) (c pr sp : Nat) : Prop := m.2 2704 0 = h_mix (am_i2l seed) ∧ m.1 2705 0 = c ∧ m.1 2706 0 = am_shl 1 pr - 1 ∧ m.1 2707 0 = sp ∧ 0 < c ∧ c ≤ 32 ∧ sp ≤ 2
theorem c_aim {d : Nat} {P : am_M → Prop} {m : am_M} {seed : Int} {c pr sp : Nat} (hc : 0 < c ∧ c ≤ 32) (hp : pr ≤ 16) (hs : sp ≤ 2) (kpost : ∀ m' : am_M, MarkA m' seed c pr sp → Fr [2705, 2706, 2707] [2704] m m' → P m') : am_OkV (d + 2) 17 [.inr (.inr 17), .inl seed, .inl c, .inl pr, .inl sp] m P := by
  refine f_Marks_aim (c_mix ⟨shl1_R (by omega), ?_⟩)
  refine kpost _ ⟨?_, ?_, ?_, ?_, hc.1, hc.2, hs⟩ ((((Fr.rf.wl (by decide)).wr (by decide)).wr (by decide)).wr (by decide))
  · rw [wr_2, wr_2, wr_2, wl_at, if_pos rfl]
  · rw [wr_ne _ _ _ (by decide), wr_ne _ _ _ (by decide), wr_at, if_pos rfl]
  · rw [wr_ne _ _ _ (by decide), wr_at, if_pos rfl]
  · rw [wr_at, if_pos rfl]
theorem c_share {d : Nat} {P : Int → am_M → Prop} {m : am_M} {h : Int64} {j w : Nat} (hj : j < 3) (hw : w ≤ 96) (hp : P (hpt h j * w / 65536 : Nat) m) : am_OkI (d + 1) 22 [.inr (.inl h), .inl j, .inl w] m P := by
  refine f_Marks_share ?_
  have hb := hpt_le h j
  have hm : hpt h j * w ≤ 65535 * 96 := Nat.mul_le_mul hb hw
  rw [hpt_eq]
  have e : ((hpt h j : Nat) : Int) * (w : Int) = ((hpt h j * w : Nat) : Int) := by rw [Int.natCast_mul]
  rw [e, ushr16 (by omega)]
  exact ⟨am_RI (by omega) (by omega), am_RI (by omega) (by omega), am_RI (by omega) (by omega), hp⟩
/-- the three of a hash: they are laid one after the other -/
theorem c_place {d : Nat} {P : am_M → Prop} {m : am_M} {seed : Int} {c pr sp : Nat} {hh : Int64} (hA : MarkA m seed c pr sp) (kpost : ∀ m' : am_M, (∀ j : Nat, j < 3 → m'.1 18 j = h3 c sp hh j) → Fr [18] [] m m' → P m') : (sp = 0 → am_OkV (d + 2) 19 [.inr (.inr 17), .inr (.inl hh)] m P) ∧ (sp = 1 → am_OkV (d + 2) 20 [.inr (.inr 17), .inr (.inl hh)] m P) ∧ (sp = 2 → am_OkV (d + 2) 21 [.inr (.inr 17), .inr (.inl hh)] m P) := by
  obtain ⟨-, a2, -, -, c0, c32, -⟩ := hA
  refine ⟨fun hs => ?_, fun hs => ?_, fun hs => ?_⟩
  · subst hs
    refine f_Marks_placeApart ?_
    have key : ∀ (r j : Nat) (m' : am_M), j + r = 3 → Fr [18] [] m m' → (∀ i : Nat, i < j → m'.1 18 i = h3 c 0 hh i) → am_GV (d + 2) 19 P 2 [(0, .inr (.inr 17)), (1, .inr (.inl hh)), (3, .inl j)] [] m' := by
      intro r
      induction r with
      | zero =>
        intro j m' hj hf hi
        exact f_Marks_placeApart_2 ⟨fun _ => kpost m' (fun i hi2 => hi i (by omega)) hf, fun hn => by omega⟩
      | succ r ih =>
        intro j m' hj hf hi
        have e2 : m'.1 2705 0 = c := by rw [hf.1 _ (by decide)]; exact a2
        have hl : hpt hh j * c / 65536 < c := hshare_lt hh j c0
        have hjc : j * c ≤ 2 * 32 := Nat.mul_le_mul (by omega) c32
        have ejc : (j : Int) * (c : Int) = ((j * c : Nat) : Int) := by rw [Int.natCast_mul]
        refine f_Marks_placeApart_2 ⟨fun hn => by omega, fun _ => ?_⟩
        rw [e2, ejc]
        refine ⟨am_RI (by omega) (by omega), c_share (by omega) (by omega) ⟨am_RI (by omega) (by omega), by omega, by omega, am_RI (by omega) (by omega), ?_⟩⟩
        refine ih (j + 1) _ (by omega) (hf.wr (by decide)) (fun i hij => ?_)
        rw [wr_at]
        by_cases hij2 : i = j
        · subst hij2
          rw [if_pos rfl]
          cases i with
          | zero => unfold h3; simp
          | succ i => unfold h3; simp
        · rw [if_neg (by omega)]
          exact hi i (by omega)
    exact key 3 0 m (by omega) Fr.rf (fun i hi => by omega)
  · subst hs
    refine f_Marks_placeClose ?_
    rw [a2]
    have e3c : (3 : Int) * (c : Int) = ((3 * c : Nat) : Int) := by omega
    rw [e3c]
    refine ⟨am_RI (by omega) (by omega), c_share (j := 0) (by omega) (by omega) ⟨by omega, by omega, ?_⟩⟩
    have key : ∀ (r j : Nat) (m' : am_M), j + r = 3 → 0 < j → Fr [18] [] m m' → (∀ i : Nat, i < j → m'.1 18 i = h3 c 1 hh i) → am_GV (d + 2) 20 P 22 [(0, .inr (.inr 17)), (1, .inr (.inl hh)), (3, .inl ((3 * c : Nat) : Int)), (4, .inl j)] [] m' := by
      intro r
      induction r with
      | zero =>
        intro j m' hj _ hf hi
        exact f_Marks_placeClose_22 ⟨fun _ => kpost m' (fun i hi2 => hi i (by omega)) hf, fun hn => by omega⟩
      | succ r ih =>
        intro j m' hj hj0 hf hi
        obtain ⟨i0, rfl⟩ : ∃ i0, j = i0 + 1 := ⟨j - 1, by omega⟩
        have e2 : m'.1 2705 0 = c := by rw [hf.1 _ (by decide)]; exact a2
        have hl : hpt hh (i0 + 1) * c / 65536 < c := hshare_lt hh (i0 + 1) c0
        have e3 : ((i0 + 1 : Nat) : Int) - 1 = (i0 : Int) := by omega
        have e4 : m'.1 18 i0 = h3 c 1 hh i0 := hi i0 (by omega)
        have hl3 : h3 c 1 hh i0 < 3 * c := h3_lt 1 hh c0 (by omega)
        refine f_Marks_placeClose_22 ⟨fun hn => by omega, fun _ => ?_⟩
        rw [e2, e3, e4]
        refine ⟨am_RI (by omega) (by omega), by omega, by omega, am_RI (by omega) (by omega), c_share (by omega) (by omega) ⟨am_RI (by omega) (by omega), fun hge => ?_, fun hlt => ?_⟩⟩
        · refine ⟨am_RI (by omega) (by omega), by omega, by omega, am_RI (by omega) (by omega), ih (i0 + 1 + 1) _ (by omega) (by omega) (hf.wr (by decide)) (fun i hij => ?_)⟩
          rw [wr_at]
          by_cases hij2 : i = i0 + 1
          · subst hij2
            rw [if_pos rfl]
            rw [show h3 c 1 hh (i0 + 1) = (h3 c 1 hh i0 + 1 + hpt hh (i0 + 1) * c / 65536) % (3 * c) by rw [h3]; simp]
            rw [Nat.mod_eq_sub_mod (by omega), Nat.mod_eq_of_lt (by omega)]
            omega
          · rw [if_neg (by omega)]
            exact hi i (by omega)
        · refine ⟨by omega, by omega, am_RI (by omega) (by omega), ih (i0 + 1 + 1) _ (by omega) (by omega) (hf.wr (by decide)) (fun i hij => ?_)⟩
          rw [wr_at]
          by_cases hij2 : i = i0 + 1
          · subst hij2
            rw [if_pos rfl]
            rw [show h3 c 1 hh (i0 + 1) = (h3 c 1 hh i0 + 1 + hpt hh (i0 + 1) * c / 65536) % (3 * c) by rw [h3]; simp]
            rw [Nat.mod_eq_of_lt (by omega)]
            omega
          · rw [if_neg (by omega)]
            exact hi i (by omega)
    refine key 2 1 _ (by omega) (by omega) (Fr.rf.wr (by decide)) (fun i hi => ?_)
    have : i = 0 := by omega
    subst this
    rw [wr_at, if_pos (by omega)]
    unfold h3
    simp
  · subst hs
    refine f_Marks_placeFree ?_
    have e3c : (3 : Int) * (c : Int) = ((3 * c : Nat) : Int) := by omega
    have key : ∀ (r j : Nat) (m' : am_M), j + r = 3 → Fr [18] [] m m' → (∀ i : Nat, i < j → m'.1 18 i = h3 c 2 hh i) → am_GV (d + 2) 21 P 2 [(0, .inr (.inr 17)), (1, .inr (.inl hh)), (3, .inl j)] [] m' := by
      intro r
      induction r with
      | zero =>
        intro j m' hj hf hi
        exact f_Marks_placeFree_2 ⟨fun _ => kpost m' (fun i hi2 => hi i (by omega)) hf, fun hn => by omega⟩
      | succ r ih =>
        intro j m' hj hf hi
        have e2 : m'.1 2705 0 = c := by rw [hf.1 _ (by decide)]; exact a2
        refine f_Marks_placeFree_2 ⟨fun hn => by omega, fun _ => ?_⟩
        rw [e2, e3c]
        refine ⟨am_RI (by omega) (by omega), c_share (by omega) (by omega) ⟨by omega, by omega, am_RI (by omega) (by omega), ?_⟩⟩
        refine ih (j + 1) _ (by omega) (hf.wr (by decide)) (fun i hij => ?_)
        rw [wr_at]
        by_cases hij2 : i = j
        · subst hij2
          rw [if_pos rfl]
          cases i with
          | zero => unfold h3; simp
          | succ i => unfold h3; simp
        · rw [if_neg (by omega)]
          exact hi i (by omega)
    exact key 3 0 m (by omega) Fr.rf (fun i hi => by omega)
/-- sorted: the least, the middle, the greatest -/
theorem c_gather {d : Nat} {P : am_M → Prop} {m : am_M} {a b c : Nat} (hb : a < 96 ∧ b < 96 ∧ c < 96) (h0 : m.1 18 0 = a) (h1 : m.1 18 1 = b) (h2 : m.1 18 2 = c) (kpost : ∀ m' : am_M, m'.1 2702 0 = (tset a b c).length → (∀ t x : Nat, (tset a b c)[t]? = some x → m'.1 19 t = x) → Fr [19, 2702] [] m m' → P m') : am_OkV (d + 2) 23 [.inr (.inr 17)] m P := by
  have only : ∀ z : Nat, tset a b c = [z] → P (am_wr (am_wr m 19 0 z) 2702 0 1) := by
    intro z hz
    refine kpost _ ?_ (fun t x ht => ?_) ((Fr.rf.wr (by decide)).wr (by decide))
    · rw [wr_at, if_pos rfl, hz]; rfl
    · rw [hz] at ht
      cases t with
      | zero =>
        cases ht
        rw [wr_ne _ _ _ (by decide), wr_at, if_pos (by omega)]
      | succ t => simp at ht
  refine f_Marks_gatherTouched ?_
  simp only [h0, h1, h2]
  refine ⟨by omega, by omega, by omega, by omega, by omega, by omega, fun n1 => ⟨fun n2 => ⟨fun n3 => ?_, fun n3 => ?_⟩, fun n2 => ?_⟩, fun n1 => ?_⟩
  · have hab : a ≠ b := by omega
    have hac : a ≠ c := by omega
    have hbc : b ≠ c := by omega
    have e1 : (if (if (c : Int) < b then (c : Int) else b) < a then (if (c : Int) < b then (c : Int) else b) else a) = ((min a (min b c) : Nat) : Int) := by split <;> split <;> omega
    have e2 : (if (a : Int) < (if (b : Int) < c then (c : Int) else b) then (if (b : Int) < c then (c : Int) else b) else a) = ((max a (max b c) : Nat) : Int) := by split <;> split <;> omega
    simp only [e1, e2]
    have e3 : (a : Int) + b + c - ((min a (min b c) : Nat) : Int) - ((max a (max b c) : Nat) : Int) = ((a + b + c - min a (min b c) - max a (max b c) : Nat) : Int) := by omega
    simp only [e3]
    have ht : tset a b c = [min a (min b c), a + b + c - min a (min b c) - max a (max b c), max a (max b c)] := by
      unfold tset
      rw [if_neg hab, if_neg hac, if_neg hbc]
    refine ⟨by omega, by omega, by omega, by omega, am_RI (by omega) (by omega), am_RI (by omega) (by omega), by omega, by omega, am_RI (by omega) (by omega), by omega, by omega, am_RI (by omega) (by omega), by omega, by omega, ?_⟩
    refine kpost _ ?_ (fun t x hx => ?_) ((((Fr.rf.wr (by decide)).wr (by decide)).wr (by decide)).wr (by decide))
    · rw [wr_at, if_pos rfl, ht]; rfl
    · rw [ht] at hx
      match t, hx with
      | 0, hx =>
        cases hx
        rw [wr_ne _ _ _ (by decide), wr_at, if_neg (by decide), wr_at, if_neg (by decide), wr_at, if_pos (by decide)]
      | 1, hx =>
        cases hx
        rw [wr_ne _ _ _ (by decide), wr_at, if_pos (by decide)]
      | 2, hx =>
        cases hx
        rw [wr_ne _ _ _ (by decide), wr_at, if_neg (by decide), wr_at, if_pos (by decide)]
      | t + 3, hx => simp at hx
  · have hbc : b = c := by omega
    refine f_Marks_touchOnly ⟨by omega, by omega, only a ?_⟩
    unfold tset
    rw [if_neg (by omega), if_neg (by omega), if_pos hbc]
  · refine f_Marks_touchOnly ⟨by omega, by omega, only b ?_⟩
    unfold tset
    rw [if_neg (by omega), if_pos (by omega)]
  · refine f_Marks_touchOnly ⟨by omega, by omega, only c ?_⟩
    unfold tset
    rw [if_pos (by omega)]
/-- what the marks hold of a hash -/
def MarkT (m : am_M) (c sp : Nat) (pr : Nat) (hh : Int64) : Prop := (∀ j : Nat, j < 3 → m.1 18 j = h3 c sp hh j) ∧ m.1 2702 0 = (htouch c sp hh).length ∧ (∀ t x : Nat, (htouch c sp hh)[t]? = some x → m.1 19 t = x) ∧ m.1 2703 0 = h_print hh pr
theorem c_look {d : Nat} {P : am_M → Prop} {m : am_M} {seed : Int} {c pr sp : Nat} {x : Int64} (hA : MarkA m seed c pr sp) (kpost : ∀ m' : am_M, MarkT m' c sp pr (h_hash x seed) → MarkA m' seed c pr sp → Fr [18, 19, 2702, 2703] [] m m' → P m') : am_OkV (d + 3) 18 [.inr (.inr 17), .inr (.inl x)] m P := by
  obtain ⟨a1, a2, a3, a4, c0, c32, hs2⟩ := id hA
  refine f_Marks_look (c_mix ?_)
  rw [a1, a3, a4]
  have hm1 : ∀ w, MarkA (am_wr m 2703 0 w) seed c pr sp := fun w => ⟨a1, by rw [wr_ne _ _ _ (by decide)]; exact a2, by rw [wr_ne _ _ _ (by decide)]; exact a3, by rw [wr_ne _ _ _ (by decide)]; exact a4, c0, c32, hs2⟩
  have last : ∀ m3 : am_M, (∀ j : Nat, j < 3 → m3.1 18 j = h3 c sp (h_hash x seed) j) → Fr [18] [] (am_wr m 2703 0 (h_print (h_hash x seed) pr)) m3 → am_OkV (d + 2) 23 [.inr (.inr 17)] m3 (fun m4 => P m4) := by
    intro m3 h3j hf
    refine c_gather ⟨by have := h3_lt sp (h_hash x seed) c0 (j := 0) (by decide); omega, by have := h3_lt sp (h_hash x seed) c0 (j := 1) (by decide); omega, by have := h3_lt sp (h_hash x seed) c0 (j := 2) (by decide); omega⟩ (h3j 0 (by decide)) (h3j 1 (by decide)) (h3j 2 (by decide)) (fun m4 g1 g2 g3 => ?_)
    have hf2 : Fr [18, 19, 2702, 2703] [] m m4 := ((Fr.rf.wr (v := h_print (h_hash x seed) pr) (z := 0) (id := 2703) (l1 := [18, 19, 2702, 2703]) (by decide)).tr hf (k1 := [18, 19, 2702, 2703]) (fun _ h => h) (fun _ h => h) (by decide) (fun _ h => h)).tr g3 (fun _ h => h) (fun _ h => h) (by decide) (fun _ h => h)
    refine kpost m4 ⟨fun j hj => by rw [g3.1 _ (by decide)]; exact h3j j hj, g1, g2, ?_⟩ ⟨by rw [hf2.2 _ (by decide)]; exact a1, by rw [hf2.1 _ (by decide)]; exact a2, by rw [hf2.1 _ (by decide)]; exact a3, by rw [hf2.1 _ (by decide)]; exact a4, c0, c32, hs2⟩ hf2
    rw [g3.1 _ (by decide), hf.1 _ (by decide), wr_at, if_pos rfl]
  obtain ⟨p0, p1, p2⟩ := c_place (d := d) (hh := h_hash x seed) (P := fun m3 => am_OkV (d + 2) 23 [.inr (.inr 17)] m3 (fun m4 => P m4)) (hm1 (h_print (h_hash x seed) pr)) last
  exact ⟨fun n0 => ⟨fun n1 => p2 (by omega), fun n1 => p1 (by omega)⟩, fun n0 => p0 (by omega)⟩
end
section
theorem c_fill_25 {d : Nat} {P : am_M → Prop} {m : am_M} {v : Int} (kpost : ∀ m' : am_M, (∀ j : Nat, j < 96 → m'.1 25 j = v) → Fr [25] [] m m' → P m') : am_OkV (d + 1) 194 [.inr (.inr 25), .inl v] m P := by
  refine f_Arrays_fill_25 ?_
  have key : ∀ (r j : Nat) (m' : am_M), j + r = 96 → Fr [25] [] m m' → (∀ i : Nat, i < j → m'.1 25 i = v) → am_GV (d + 1) 194 P 5 [(0, .inr (.inr 25)), (1, .inl v), (2, .inl j), (3, .inl 96)] [] m' := by
    intro r
    induction r with
    | zero =>
      intro j m' hj hf hi
      exact f_Arrays_fill_25_5 ⟨fun _ => kpost m' (fun i hi2 => hi i (by omega)) hf, fun hn => by omega⟩
    | succ r ih =>
      intro j m' hj hf hi
      refine f_Arrays_fill_25_5 ⟨fun hn => by omega, fun _ => ⟨by omega, by omega, am_RI (by omega) (by omega), ih (j + 1) _ (by omega) (hf.wr (by decide)) (fun i hij => ?_)⟩⟩
      rw [wr_at]
      by_cases hij2 : i = j
      · rw [if_pos (by omega)]
      · rw [if_neg (by omega)]
        exact hi i (by omega)
  exact key 96 0 m (by omega) Fr.rf (fun i hi => by omega)
theorem c_fill_26 {d : Nat} {P : am_M → Prop} {m : am_M} {v : Int} (kpost : ∀ m' : am_M, (∀ j : Nat, j < 96 → m'.1 26 j = v) → Fr [26] [] m m' → P m') : am_OkV (d + 1) 194 [.inr (.inr 26), .inl v] m P := by
  refine f_Arrays_fill_26 ?_
  have key : ∀ (r j : Nat) (m' : am_M), j + r = 96 → Fr [26] [] m m' → (∀ i : Nat, i < j → m'.1 26 i = v) → am_GV (d + 1) 194 P 5 [(0, .inr (.inr 26)), (1, .inl v), (2, .inl j), (3, .inl 96)] [] m' := by
    intro r
    induction r with
    | zero =>
      intro j m' hj hf hi
      exact f_Arrays_fill_26_5 ⟨fun _ => kpost m' (fun i hi2 => hi i (by omega)) hf, fun hn => by omega⟩
    | succ r ih =>
      intro j m' hj hf hi
      refine f_Arrays_fill_26_5 ⟨fun hn => by omega, fun _ => ⟨by omega, by omega, am_RI (by omega) (by omega), ih (j + 1) _ (by omega) (hf.wr (by decide)) (fun i hij => ?_)⟩⟩
      rw [wr_at]
      by_cases hij2 : i = j
      · rw [if_pos (by omega)]
      · rw [if_neg (by omega)]
        exact hi i (by omega)
  exact key 96 0 m (by omega) Fr.rf (fun i hi => by omega)
theorem c_fill_44 {d : Nat} {P : am_M → Prop} {m : am_M} {v : Int} (kpost : ∀ m' : am_M, (∀ j : Nat, j < 96 → m'.1 44 j = v) → Fr [44] [] m m' → P m') : am_OkV (d + 1) 194 [.inr (.inr 44), .inl v] m P := by
  refine f_Arrays_fill_44 ?_
  have key : ∀ (r j : Nat) (m' : am_M), j + r = 96 → Fr [44] [] m m' → (∀ i : Nat, i < j → m'.1 44 i = v) → am_GV (d + 1) 194 P 5 [(0, .inr (.inr 44)), (1, .inl v), (2, .inl j), (3, .inl 96)] [] m' := by
    intro r
    induction r with
    | zero =>
      intro j m' hj hf hi
      exact f_Arrays_fill_44_5 ⟨fun _ => kpost m' (fun i hi2 => hi i (by omega)) hf, fun hn => by omega⟩
    | succ r ih =>
      intro j m' hj hf hi
      refine f_Arrays_fill_44_5 ⟨fun hn => by omega, fun _ => ⟨by omega, by omega, am_RI (by omega) (by omega), ih (j + 1) _ (by omega) (hf.wr (by decide)) (fun i hij => ?_)⟩⟩
      rw [wr_at]
      by_cases hij2 : i = j
      · rw [if_pos (by omega)]
      · rw [if_neg (by omega)]
        exact hi i (by omega)
  exact key 96 0 m (by omega) Fr.rf (fun i hi => by omega)
theorem c_fill_45 {d : Nat} {P : am_M → Prop} {m : am_M} {v : Int} (kpost : ∀ m' : am_M, (∀ j : Nat, j < 96 → m'.1 45 j = v) → Fr [45] [] m m' → P m') : am_OkV (d + 1) 194 [.inr (.inr 45), .inl v] m P := by
  refine f_Arrays_fill_45 ?_
  have key : ∀ (r j : Nat) (m' : am_M), j + r = 96 → Fr [45] [] m m' → (∀ i : Nat, i < j → m'.1 45 i = v) → am_GV (d + 1) 194 P 5 [(0, .inr (.inr 45)), (1, .inl v), (2, .inl j), (3, .inl 96)] [] m' := by
    intro r
    induction r with
    | zero =>
      intro j m' hj hf hi
      exact f_Arrays_fill_45_5 ⟨fun _ => kpost m' (fun i hi2 => hi i (by omega)) hf, fun hn => by omega⟩
    | succ r ih =>
      intro j m' hj hf hi
      refine f_Arrays_fill_45_5 ⟨fun hn => by omega, fun _ => ⟨by omega, by omega, am_RI (by omega) (by omega), ih (j + 1) _ (by omega) (hf.wr (by decide)) (fun i hij => ?_)⟩⟩
      rw [wr_at]
      by_cases hij2 : i = j
      · rw [if_pos (by omega)]
      · rw [if_neg (by omega)]
        exact hi i (by omega)
  exact key 96 0 m (by omega) Fr.rf (fun i hi => by omega)
theorem c_fill_32 {d : Nat} {P : am_M → Prop} {m : am_M} {v : Int} (kpost : ∀ m' : am_M, (∀ j : Nat, j < 96 → m'.1 32 j = v) → Fr [32] [] m m' → P m') : am_OkV (d + 1) 194 [.inr (.inr 32), .inl v] m P := by
  refine f_Arrays_fill_32 ?_
  have key : ∀ (r j : Nat) (m' : am_M), j + r = 96 → Fr [32] [] m m' → (∀ i : Nat, i < j → m'.1 32 i = v) → am_GV (d + 1) 194 P 5 [(0, .inr (.inr 32)), (1, .inl v), (2, .inl j), (3, .inl 96)] [] m' := by
    intro r
    induction r with
    | zero =>
      intro j m' hj hf hi
      exact f_Arrays_fill_32_5 ⟨fun _ => kpost m' (fun i hi2 => hi i (by omega)) hf, fun hn => by omega⟩
    | succ r ih =>
      intro j m' hj hf hi
      refine f_Arrays_fill_32_5 ⟨fun hn => by omega, fun _ => ⟨by omega, by omega, am_RI (by omega) (by omega), ih (j + 1) _ (by omega) (hf.wr (by decide)) (fun i hij => ?_)⟩⟩
      rw [wr_at]
      by_cases hij2 : i = j
      · rw [if_pos (by omega)]
      · rw [if_neg (by omega)]
        exact hi i (by omega)
  exact key 96 0 m (by omega) Fr.rf (fun i hi => by omega)
theorem c_fill_31 {d : Nat} {P : am_M → Prop} {m : am_M} {v : Int} (kpost : ∀ m' : am_M, (∀ j : Nat, j < 48 → m'.1 31 j = v) → Fr [31] [] m m' → P m') : am_OkV (d + 1) 194 [.inr (.inr 31), .inl v] m P := by
  refine f_Arrays_fill_31 ?_
  have key : ∀ (r j : Nat) (m' : am_M), j + r = 48 → Fr [31] [] m m' → (∀ i : Nat, i < j → m'.1 31 i = v) → am_GV (d + 1) 194 P 5 [(0, .inr (.inr 31)), (1, .inl v), (2, .inl j), (3, .inl 48)] [] m' := by
    intro r
    induction r with
    | zero =>
      intro j m' hj hf hi
      exact f_Arrays_fill_31_5 ⟨fun _ => kpost m' (fun i hi2 => hi i (by omega)) hf, fun hn => by omega⟩
    | succ r ih =>
      intro j m' hj hf hi
      refine f_Arrays_fill_31_5 ⟨fun hn => by omega, fun _ => ⟨by omega, by omega, am_RI (by omega) (by omega), ih (j + 1) _ (by omega) (hf.wr (by decide)) (fun i hij => ?_)⟩⟩
      rw [wr_at]
      by_cases hij2 : i = j
      · rw [if_pos (by omega)]
      · rw [if_neg (by omega)]
        exact hi i (by omega)
  exact key 48 0 m (by omega) Fr.rf (fun i hi => by omega)
theorem c_fill_34 {d : Nat} {P : am_M → Prop} {m : am_M} {v : Int} (kpost : ∀ m' : am_M, (∀ j : Nat, j < 48 → m'.1 34 j = v) → Fr [34] [] m m' → P m') : am_OkV (d + 1) 194 [.inr (.inr 34), .inl v] m P := by
  refine f_Arrays_fill_34 ?_
  have key : ∀ (r j : Nat) (m' : am_M), j + r = 48 → Fr [34] [] m m' → (∀ i : Nat, i < j → m'.1 34 i = v) → am_GV (d + 1) 194 P 5 [(0, .inr (.inr 34)), (1, .inl v), (2, .inl j), (3, .inl 48)] [] m' := by
    intro r
    induction r with
    | zero =>
      intro j m' hj hf hi
      exact f_Arrays_fill_34_5 ⟨fun _ => kpost m' (fun i hi2 => hi i (by omega)) hf, fun hn => by omega⟩
    | succ r ih =>
      intro j m' hj hf hi
      refine f_Arrays_fill_34_5 ⟨fun hn => by omega, fun _ => ⟨by omega, by omega, am_RI (by omega) (by omega), ih (j + 1) _ (by omega) (hf.wr (by decide)) (fun i hij => ?_)⟩⟩
      rw [wr_at]
      by_cases hij2 : i = j
      · rw [if_pos (by omega)]
      · rw [if_neg (by omega)]
        exact hi i (by omega)
  exact key 48 0 m (by omega) Fr.rf (fun i hi => by omega)
/-! LAY: keys by a seed, on the row -/
/-- what is given: keys, values, settings -/
def SOK (S : Nat → Nat) : Prop := (1 ≤ S 1 ∧ S 1 ≤ 32) ∧ (1 ≤ S 2 ∧ S 2 ≤ 16) ∧ S 3 ≤ 8 ∧ S 4 ≤ 999999999 ∧ S 5 ≤ 2 ∧ S 6 ≤ 2
def GSt (m : am_M) (n : Nat) (K : Nat → Int64) (V S : Nat → Nat) : Prop := m.1 1403 0 = n ∧ n ≤ 48 ∧ (∀ k : Nat, k < n → m.2 5 k = K k) ∧ (∀ k : Nat, k < n → m.1 6 k = V k) ∧ (∀ i : Nat, 1 ≤ i → i ≤ 6 → m.1 7 i = S i) ∧ SOK S ∧ ∀ k, k < n → V k < 2 ^ S 3
theorem GSt.fr {m m' : am_M} {n : Nat} {K : Nat → Int64} {V S : Nat → Nat} (h : GSt m n K V S) {l1 l2 : List Nat} (hf : Fr l1 l2 m m') (h1 : 1403 ∉ l1 ∧ 6 ∉ l1 ∧ 7 ∉ l1 ∧ 5 ∉ l2) : GSt m' n K V S := by
  unfold GSt
  rw [hf.1 _ h1.1, hf.1 _ h1.2.1, hf.1 _ h1.2.2.1, hf.2 _ h1.2.2.2]
  exact h
/-- the cells of keys by a seed -/
def TT (K : Nat → Int64) (seed : Int) (c sp : Nat) : Nat → List Nat := fun k => htouch c sp (h_hash (K k) seed)
theorem TT_ok (K : Nat → Int64) (seed : Int) {c : Nat} (sp n : Nat) (hc : 0 < c) : TOK (TT K seed c sp) n (3 * c) := fun k _ => htouch_ok sp _ hc
def ltb (k : Nat) : Nat → Bool := fun j => decide (j < k)
theorem ltb_set (k : Nat) : pset (ltb k) k true = ltb (k + 1) := by
  funext j
  unfold pset ltb
  by_cases hj : j = k
  · rw [if_pos hj]; simp; omega
  · rw [if_neg hj]
    by_cases h : j < k
    · simp [h]; omega
    · simp [h]; omega
abbrev layF : List Nat := [21, 22, 23, 24, 25, 26, 3006, 3007, 3008, 18, 19, 2702, 2703, 2705, 2706, 2707]
theorem c_lay {d : Nat} {P : am_M → Prop} {m : am_M} {n : Nat} {K : Nat → Int64} {V S : Nat → Nat} {seed : Int} {c : Nat} (hG : GSt m n K V S) (hc : 0 < c ∧ c ≤ 32)
    (kpost : ∀ m' : am_M, RowL m' (TT K seed c (S 6)) n (3 * c) → RowD m' (TT K seed c (S 6)) n (fun _ => true) → (∀ k : Nat, k < n → m'.1 23 k = h_print (h_hash (K k) seed) (S 2)) → Fr layF [2704] m m' → P m') : am_OkV (d + 4) 52 [.inr (.inr 20), .inr (.inr 4), .inr (.inr 17), .inl seed, .inl c] m P := by
  obtain ⟨g1, g2, g3, -, g5, ⟨-, s2, -, -, -, s6⟩, -⟩ := id hG
  refine f_Row_lay ?_
  rw [show m.1 7 2 = S 2 from g5 2 (by decide) (by decide), show m.1 7 6 = S 6 from g5 6 (by decide) (by decide)]
  refine ⟨by omega, by omega, by omega, by omega, c_aim (d := d + 1) hc s2.2 s6 (fun m1 hA hf1 => ⟨am_RI (by omega) (by omega), ?_⟩)⟩
  rw [show m1.1 1403 0 = n by rw [hf1.1 _ (by decide)]; exact g1]
  refine c_fill_25 (d := d + 2) (fun m2 z2 hf2 => c_fill_26 (d := d + 2) (fun m3 z3 hf3 => ?_))
  have hf12 : Fr layF [2704] m m3 := ((((hf1.mono (k1 := layF) (k2 := [2704]) (by decide) (by decide)).tr (((Fr.rf.wr (l1 := layF) (l2 := [2704]) (by decide)).wr (by decide)).wr (by decide)) (fun _ h => h) (fun _ h => h) (fun _ h => h) (fun _ h => h)).tr hf2 (fun _ h => h) (fun _ h => h) (by decide) (by decide)).tr hf3 (fun _ h => h) (fun _ h => h) (by decide) (by decide))
  have e3c : (3 : Int) * (c : Int) = ((3 * c : Nat) : Int) := by omega
  have k1 : m3.1 3006 0 = n := by rw [hf3.1 _ (by decide), hf2.1 _ (by decide), wr_ne _ _ _ (by decide), wr_ne _ _ _ (by decide), wr_at, if_pos rfl]
  have k2 : m3.1 3007 0 = 0 := by rw [hf3.1 _ (by decide), hf2.1 _ (by decide), wr_ne _ _ _ (by decide), wr_at, if_pos rfl]
  have k3 : m3.1 3008 0 = ((3 * c : Nat) : Int) := by rw [hf3.1 _ (by decide), hf2.1 _ (by decide), wr_at, if_pos rfl, e3c]
  have k4 : ∀ x : Nat, x < 96 → m3.1 25 x = 0 := fun x hx => by rw [hf3.1 _ (by decide)]; exact z2 x hx
  have hA3 : MarkA m3 seed c (S 2) (S 6) := by
    obtain ⟨a1, a2, a3, a4, a5⟩ := hA
    have f3 : ∀ i, i ∉ [3006, 3007, 3008, 25, 26] → m3.1 i = m1.1 i := fun i hi => by
      simp only [List.mem_cons, List.not_mem_nil, or_false, not_or] at hi
      rw [hf3.1 _ (by simp only [List.mem_cons, List.not_mem_nil, or_false]; omega), hf2.1 _ (by simp only [List.mem_cons, List.not_mem_nil, or_false]; omega), wr_ne _ _ _ (by omega), wr_ne _ _ _ (by omega), wr_ne _ _ _ (by omega)]
    have f4 : m3.2 = m1.2 := funext fun i => by rw [hf3.2 i (by simp), hf2.2 i (by simp), wr_2, wr_2, wr_2]
    exact ⟨by rw [f4]; exact a1, by rw [f3 _ (by decide)]; exact a2, by rw [f3 _ (by decide)]; exact a3, by rw [f3 _ (by decide)]; exact a4, a5⟩
  have key : ∀ (r k : Nat) (m' : am_M), k + r = n → Fr layF [2704] m m' → m'.1 3006 0 = n → m'.1 3008 0 = ((3 * c : Nat) : Int) → MarkA m' seed c (S 2) (S 6) → RowC m' (TT K seed c (S 6)) k (3 * c) → RowD m' (TT K seed c (S 6)) k (ltb k) → (∀ j : Nat, j < k → m'.1 23 j = h_print (h_hash (K j) seed) (S 2)) → am_GV (d + 4) 52 P 60 [(0, .inr (.inr 20)), (1, .inr (.inr 4)), (2, .inr (.inr 17)), (5, .inl k)] [] m' := by
    intro r
    induction r with
    | zero =>
      intro k m' hk hf r1 r2 hA' hC hD hpr
      refine f_Row_lay_60 ?_
      rw [r1]
      have hkn : k = n := by omega
      subst hkn
      exact ⟨fun _ => kpost m' ⟨r1, r2, hC⟩ (hD.congr (fun j hj => by unfold ltb; simp [hj])) hpr hf, fun hn => by omega⟩
    | succ r ih =>
      intro k m' hk hf r1 r2 hA' hC hD hpr
      refine f_Row_lay_60 ?_
      rw [r1]
      have hnum : m'.2 5 k = K k := by rw [hf.2 _ (by decide)]; exact g3 k (by omega)
      rw [hnum]
      refine ⟨fun hn => by omega, fun _ => ⟨by omega, by omega, c_look (d := d) hA' (fun m4 hT4 hA4 hf4 => ⟨by omega, by omega, by omega, by omega, ?_⟩)⟩⟩
      obtain ⟨t0, t1, t2, t3⟩ := hT4
      rw [t1, t3]
      have hlen := (htouch_ok (S 6) (h_hash (K k) seed) hc.1).1
      have hmk : Fr layF [2704] m' m4 := hf4.mono (by decide) (by decide)
      -- the key's cells are copied
      have inner : ∀ (r2 t : Nat) (m5 : am_M), t + r2 = (htouch c (S 6) (h_hash (K k) seed)).length → Fr layF [2704] m4 m5 → Fr [22, 23, 21] [] m4 m5 → m5.1 22 k = (htouch c (S 6) (h_hash (K k) seed)).length → m5.1 23 k = h_print (h_hash (K k) seed) (S 2) → (∀ j : Nat, j ≠ k → m5.1 22 j = m4.1 22 j ∧ m5.1 23 j = m4.1 23 j) → (∀ j : Nat, j < 3 * k → m5.1 21 j = m4.1 21 j) → (∀ i x : Nat, i < t → (htouch c (S 6) (h_hash (K k) seed))[i]? = some x → m5.1 21 (3 * k + i) = x) → am_GV (d + 4) 52 P 105 [(0, .inr (.inr 20)), (1, .inr (.inr 4)), (2, .inr (.inr 17)), (5, .inl k), (6, .inl t)] [] m5 := by
        intro r2
        induction r2 with
        | zero =>
          intro t m5 ht hf5 hf5' u1 u2 u3 u4 u5
          refine f_Row_lay_105 ?_
          rw [show m5.1 2702 0 = (htouch c (S 6) (h_hash (K k) seed)).length by rw [hf5'.1 _ (by decide)]; exact t1]
          refine ⟨fun _ => ?_, fun hn => by omega⟩
          have hC5 : RowC m5 (TT K seed c (S 6)) (k + 1) (3 * c) := by
            refine ⟨by omega, by omega, TT_ok K seed (S 6) (k + 1) hc.1, fun j hj => ?_⟩
            by_cases hjk : j = k
            · subst hjk
              exact ⟨u1, fun i x hx => u5 i x (by have := (List.getElem?_eq_some_iff.mp hx).1; have e : (TT K seed c (S 6) j).length = (htouch c (S 6) (h_hash (K j) seed)).length := rfl; omega) hx⟩
            · obtain ⟨c1, c2⟩ := hC.2.2.2 j (by omega)
              have hlj := (TT_ok K seed (S 6) (k + 1) hc.1 j hj).1
              refine ⟨by rw [(u3 j hjk).1, hf4.1 _ (by decide)]; exact c1, fun i x hx => ?_⟩
              have hi := (List.getElem?_eq_some_iff.mp hx).1
              have e3 : 3 * (j : Int) + (i : Int) = ((3 * j + i : Nat) : Int) := by omega
              rw [e3, u4 _ (by omega), hf4.1 _ (by decide), ← e3]
              exact c2 i x hx
          have hD5 : RowD m5 (TT K seed c (S 6)) k (ltb k) := hD.fr (hf4.tr hf5' (k1 := [18, 19, 2702, 2703, 22, 23, 21]) (k2 := []) (by decide) (by decide) (by decide) (by decide)) (by decide)
          have hlk : ltb k k = false := by simp [ltb]
          have ep : pleft (ltb k) (k + 1) = pleft (ltb k) k := by
            show pleft (ltb k) k + (if ltb k k = true then 1 else 0) = _
            rw [hlk]; rfl
          have ec : ∀ x, pcnt (TT K seed c (S 6)) (ltb k) x (k + 1) = pcnt (TT K seed c (S 6)) (ltb k) x k := fun x => by
            show pcnt (TT K seed c (S 6)) (ltb k) x k + (if ltb k k = true ∧ x ∈ TT K seed c (S 6) k then 1 else 0) = _
            rw [hlk, if_neg (by simp)]; rfl
          have ex : ∀ x, px32 (TT K seed c (S 6)) (ltb k) x (k + 1) = px32 (TT K seed c (S 6)) (ltb k) x k := fun x => by
            show px32 (TT K seed c (S 6)) (ltb k) x k ^^^ (if ltb k k = true ∧ x ∈ TT K seed c (S 6) k then Int32.ofNat k else 0) = _
            rw [hlk, if_neg (by simp), Int32.xor_zero]
          refine c_putBack (d := d + 2) hC5 (by rw [ep]; exact hD5.1) (fun j hj hjk => hD5.2.1 j (by omega)) (fun x hx => by rw [ec, ex]; exact hD5.2.2 x hx) (by omega) hlk (fun m6 hD6 hf6 => ⟨am_RI (by omega) (by omega), ?_⟩)
          rw [ltb_set] at hD6
          have hf46 : Fr layF [2704] m m6 := ((hf.tr1 hmk).tr1 hf5).tr1 (hf6.mono (by decide) (by decide))
          have hb5 : Fr [18, 19, 2702, 2703, 22, 23, 21, 25, 26, 24, 3007] [] m' m6 := (hf4.tr hf5' (k1 := [18, 19, 2702, 2703, 22, 23, 21]) (k2 := []) (by decide) (by decide) (by decide) (by decide)).tr hf6 (by decide) (by decide) (by decide) (by decide)
          refine ih (k + 1) m6 (by omega) hf46 (by rw [hb5.1 _ (by decide)]; exact r1) (by rw [hb5.1 _ (by decide)]; exact r2) ?_ (hC5.fr hf6 (by decide)) hD6 (fun j hj => ?_)
          · obtain ⟨a1, a2, a3, a4, a5⟩ := hA'
            exact ⟨by rw [hb5.2 _ (by decide)]; exact a1, by rw [hb5.1 _ (by decide)]; exact a2, by rw [hb5.1 _ (by decide)]; exact a3, by rw [hb5.1 _ (by decide)]; exact a4, a5⟩
          · rw [hf6.1 _ (by decide)]
            by_cases hjk : j = k
            · subst hjk; exact u2
            · rw [(u3 j hjk).2, hf4.1 _ (by decide)]
              exact hpr j (by omega)
        | succ r2 ih2 =>
          intro t m5 ht hf5 hf5' u1 u2 u3 u4 u5
          have et : (htouch c (S 6) (h_hash (K k) seed))[t]? = some ((htouch c (S 6) (h_hash (K k) seed))[t]'(by omega)) := List.getElem?_eq_getElem (by omega)
          have e19 : m5.1 19 t = ((htouch c (S 6) (h_hash (K k) seed))[t]'(by omega) : Nat) := by rw [hf5'.1 _ (by decide)]; exact t2 t _ et
          refine f_Row_lay_105 ?_
          rw [show m5.1 2702 0 = (htouch c (S 6) (h_hash (K k) seed)).length by rw [hf5'.1 _ (by decide)]; exact t1, e19]
          refine ⟨fun hn => by omega, fun _ => ⟨am_RI (by omega) (by omega), am_RI (by omega) (by omega), by omega, by omega, by omega, by omega, am_RI (by omega) (by omega), ?_⟩⟩
          refine ih2 (t + 1) _ (by omega) (hf5.wr (by decide)) (hf5'.wr (by decide)) (by rw [wr_ne _ _ _ (by decide)]; exact u1) (by rw [wr_ne _ _ _ (by decide)]; exact u2) (fun j hj => by rw [wr_ne _ _ _ (by decide), wr_ne _ _ _ (by decide)]; exact u3 j hj) (fun j hj => by rw [wr_at, if_neg (by omega)]; exact u4 j hj) (fun i x hi hx => ?_)
          rw [wr_at]
          by_cases hit : i = t
          · subst hit
            rw [if_pos (by omega)]
            rw [et] at hx
            exact congrArg _ (Option.some.inj hx)
          · rw [if_neg (by omega)]
            exact u5 i x (by omega) hx
      refine inner (htouch c (S 6) (h_hash (K k) seed)).length 0 _ (by omega) ((Fr.rf.wr (by decide)).wr (by decide)) ((Fr.rf.wr (by decide)).wr (by decide)) ?_ ?_ (fun j hj => ?_) (fun j hj => ?_) (fun i x hi => absurd hi (by omega))
      · rw [wr_ne _ _ _ (by decide), wr_at, if_pos rfl]
      · rw [wr_at, if_pos rfl]
      · exact ⟨by rw [wr_ne _ _ _ (by decide), wr_at, if_neg (by omega)], by rw [wr_at, if_neg (by omega), wr_ne _ _ _ (by decide)]⟩
      · rw [wr_ne _ _ _ (by decide), wr_ne _ _ _ (by decide)]
  refine key n 0 m3 (by omega) hf12 k1 k3 hA3 ⟨by omega, by omega, fun j hj => absurd hj (by omega), fun j hj => absurd hj (by omega)⟩ ⟨by rw [k2]; rfl, fun j hj => absurd hj (by omega), fun x hx => ⟨by rw [k4 x hx]; rfl, by rw [z3 x hx]; rfl⟩⟩ (fun j hj => absurd hj (by omega))
end
section
/-! PURE: peeling. The line A (its first is ahead); w = 0: the first leaves, else the last -/
def pnew (T : Nat → List Nat) (left : Nat → Bool) (n k : Nat) : List Nat := (T k).filter (fun x => decide (pcnt T left x n = 1))
def ppop (w : Nat) (A : List Nat) : Option (Nat × List Nat) := match w with
  | 0 => (match A with | [] => none | c :: A' => some (c, A'))
  | _ => (match A.getLast? with | none => none | some c => some (c, A.dropLast))
def pq (w : Nat) (T : Nat → List Nat) (n : Nat) : Nat → (Nat → Bool) → List Nat → List (Nat × Nat) → (Nat → Bool) × List (Nat × Nat)
  | 0, left, _, out => (left, out)
  | f + 1, left, A, out => match ppop w A with
    | none => (left, out)
    | some (c, A') => if pcnt T left c n = 1 then pq w T n f (pset left (psum T left c n) false) (A' ++ pnew T (pset left (psum T left c n) false) n (psum T left c n)) (out ++ [(psum T left c n, c)]) else pq w T n f left A' out
/-- the cells below N that one key alone touches, by numbers -/
def pl0 (T : Nat → List Nat) (left : Nat → Bool) (n : Nat) : Nat → List Nat
  | 0 => []
  | c + 1 => pl0 T left n c ++ if pcnt T left c n = 1 then [c] else []
/-- the least cell from c on, of r, that one key alone touches -/
def pfst (T : Nat → List Nat) (left : Nat → Bool) (n : Nat) : Nat → Nat → Option Nat
  | 0, _ => none
  | r + 1, c => if pcnt T left c n = 1 then some c else pfst T left n r (c + 1)
def plst (T : Nat → List Nat) (n N : Nat) : Nat → (Nat → Bool) → List (Nat × Nat) → (Nat → Bool) × List (Nat × Nat)
  | 0, left, out => (left, out)
  | f + 1, left, out => match pfst T left n N 0 with
    | none => (left, out)
    | some c => plst T n N f (pset left (psum T left c n) false) (out ++ [(psum T left c n, c)])
def pres (T : Nat → List Nat) (n N w : Nat) (left : Nat → Bool) : (Nat → Bool) × List (Nat × Nat) := if w = 2 then plst T n N n left [] else pq w T n 96 left (pl0 T left n N) []
def pbig (T : Nat → List Nat) (left : Nat → Bool) (n : Nat) : Nat → Nat
  | 0 => 0
  | c + 1 => pbig T left n c + if 2 ≤ pcnt T left c n then 1 else 0
def pmem (l : List Nat) : Nat → Nat
  | 0 => 0
  | c + 1 => pmem l c + if c ∈ l then 1 else 0
theorem pmem_nil : ∀ N, pmem [] N = 0
  | 0 => rfl
  | N + 1 => by simp [pmem, pmem_nil N]
theorem pmem_one (a : Nat) : ∀ N, pmem [a] N = if a < N then 1 else 0
  | 0 => by simp [pmem]
  | N + 1 => by
    simp only [pmem, pmem_one a N, List.mem_singleton]
    by_cases h : N = a
    · subst h
      simp
    · by_cases h2 : a < N
      · rw [if_pos h2, if_neg h, if_pos (by omega)]
      · rw [if_neg h2, if_neg h, if_neg (by omega)]
theorem pmem_cons {a : Nat} {l : List Nat} (ha : a ∉ l) : ∀ N, pmem (a :: l) N = pmem [a] N + pmem l N
  | 0 => rfl
  | N + 1 => by
    simp only [pmem, pmem_cons ha N]
    by_cases h : N = a
    · subst h
      simp [ha]
      omega
    · by_cases h2 : N ∈ l
      · simp [h, h2]; omega
      · simp [h, h2]
theorem pmem_len {N : Nat} : ∀ {l : List Nat}, l.Nodup → (∀ x ∈ l, x < N) → pmem l N = l.length
  | [], _, _ => pmem_nil N
  | a :: l, h, hx => by
    rw [List.nodup_cons] at h
    rw [pmem_cons h.1, pmem_len h.2 (fun x hm => hx x (List.mem_cons_of_mem _ hm)), pmem_one, if_pos (hx a List.mem_cons_self), List.length_cons]
    omega
theorem mem_pnew {T : Nat → List Nat} {left : Nat → Bool} {n k x : Nat} : x ∈ pnew T left n k ↔ x ∈ T k ∧ pcnt T left x n = 1 := by
  unfold pnew
  rw [List.mem_filter]
  simp
/-- one key off: the cells of two or more that lose it come new into line -/
theorem pbig_set {T : Nat → List Nat} {left : Nat → Bool} {n k : Nat} (hk : k < n) (hl : left k = true) : ∀ N, pbig T left n N = pbig T (pset left k false) n N + pmem (pnew T (pset left k false) n k) N
  | 0 => rfl
  | N + 1 => by
    simp only [pbig, pmem, pbig_set hk hl N, mem_pnew]
    have h := pcnt_set (T := T) (left := left) (x := N) (b := false) hk
    simp only [hl, true_and, Bool.false_eq_true, false_and, if_false] at h
    by_cases hx : N ∈ T k
    · rw [if_pos hx] at h
      by_cases h1 : pcnt T (pset left k false) N n = 1
      · rw [if_pos (by omega), if_neg (by omega), if_pos ⟨hx, h1⟩]; omega
      · by_cases h2 : 2 ≤ pcnt T (pset left k false) N n
        · rw [if_pos (by omega), if_pos h2, if_neg (fun z => h1 z.2)]; omega
        · rw [if_neg (by omega), if_neg h2, if_neg (fun z => h1 z.2)]; omega
    · rw [if_neg hx] at h
      have e : pcnt T (pset left k false) N n = pcnt T left N n := by omega
      rw [e, if_neg (show ¬ (N ∈ T k ∧ pcnt T left N n = 1) from fun z => hx z.1)]
      omega
theorem pnew_len {T : Nat → List Nat} {left : Nat → Bool} {n N k : Nat} (hT : TOK T n N) (hk : k < n) : pmem (pnew T left n k) N = (pnew T left n k).length :=
  pmem_len (List.Nodup.sublist List.filter_sublist (pw_nodup (hT k hk).2.1)) (fun x hx => (hT k hk).2.2 x (mem_pnew.mp hx).1)
theorem pl0_len {T : Nat → List Nat} {left : Nat → Bool} {n : Nat} : ∀ N, pbig T left n N + (pl0 T left n N).length ≤ N
  | 0 => Nat.le_refl _
  | N + 1 => by
    have := pl0_len (T := T) (left := left) (n := n) N
    simp only [pbig, pl0, List.length_append]
    by_cases h1 : pcnt T left N n = 1
    · rw [if_pos h1, if_neg (by omega)]; simp; omega
    · rw [if_neg h1]
      split <;> simp <;> omega
theorem mem_pl0 {T : Nat → List Nat} {left : Nat → Bool} {n x : Nat} : ∀ {N : Nat}, x ∈ pl0 T left n N ↔ x < N ∧ pcnt T left x n = 1
  | 0 => by simp [pl0]
  | N + 1 => by
    simp only [pl0, List.mem_append, mem_pl0 (N := N)]
    by_cases h1 : pcnt T left N n = 1
    · rw [if_pos h1]
      simp only [List.mem_singleton]
      constructor
      · rintro (⟨a, b⟩ | rfl)
        · exact ⟨by omega, b⟩
        · exact ⟨by omega, h1⟩
      · rintro ⟨a, b⟩
        rcases Nat.lt_or_ge x N with h | h
        · exact Or.inl ⟨h, b⟩
        · exact Or.inr (by omega)
    · rw [if_neg h1]
      simp only [List.not_mem_nil, or_false]
      constructor
      · rintro ⟨a, b⟩; exact ⟨by omega, b⟩
      · rintro ⟨a, b⟩
        refine ⟨?_, b⟩
        rcases Nat.lt_or_ge x N with h | h
        · exact h
        · exact absurd (show pcnt T left N n = 1 by rw [show N = x by omega]; exact b) h1
theorem ppop_none {w : Nat} {A : List Nat} (h : ppop w A = none) : A = [] := by
  unfold ppop at h
  split at h
  · split at h
    · rfl
    · cases h
  · split at h
    · rename_i hg
      exact List.getLast?_eq_none_iff.mp hg
    · cases h
theorem ppop_some {w : Nat} {A A' : List Nat} {c : Nat} (h : ppop w A = some (c, A')) : A.length = A'.length + 1 ∧ c ∈ A ∧ ((w = 0 ∧ A = c :: A') ∨ (w ≠ 0 ∧ A = A' ++ [c])) := by
  unfold ppop at h
  split at h
  · split at h
    · cases h
    · cases h
      exact ⟨by simp, List.mem_cons_self, Or.inl ⟨rfl, rfl⟩⟩
  · rename_i hw
    split at h
    · cases h
    · rename_i c2 hg
      cases h
      obtain ⟨ys, rfl⟩ := List.getLast?_eq_some_iff.mp hg
      rw [List.dropLast_concat]
      exact ⟨by simp, by simp, Or.inr ⟨hw, rfl⟩⟩
theorem pfst_spec {T : Nat → List Nat} {left : Nat → Bool} {n : Nat} : ∀ {r c : Nat}, (∀ x, pfst T left n r c = some x → c ≤ x ∧ x < c + r ∧ pcnt T left x n = 1 ∧ ∀ y, c ≤ y → y < x → pcnt T left y n ≠ 1) ∧ (pfst T left n r c = none → ∀ y, c ≤ y → y < c + r → pcnt T left y n ≠ 1)
  | 0, c => ⟨fun x h => (by cases h), fun _ y h1 h2 => by omega⟩
  | r + 1, c => by
    unfold pfst
    obtain ⟨i1, i2⟩ := pfst_spec (T := T) (left := left) (n := n) (r := r) (c := c + 1)
    by_cases hc : pcnt T left c n = 1
    · rw [if_pos hc]
      refine ⟨fun x h => ?_, fun h => by cases h⟩
      cases h
      exact ⟨by omega, by omega, hc, fun y h1 h2 => by omega⟩
    · rw [if_neg hc]
      refine ⟨fun x h => ?_, fun h y h1 h2 => ?_⟩
      · obtain ⟨a1, a2, a3, a4⟩ := i1 x h
        refine ⟨by omega, by omega, a3, fun y h1 h2 => ?_⟩
        by_cases hy : y = c
        · subst hy; exact hc
        · exact a4 y (by omega) h2
      · by_cases hy : y = c
        · subst hy; exact hc
        · exact i2 h y (by omega) (by omega)
theorem pfst_eq {T : Nat → List Nat} {left : Nat → Bool} {n N x : Nat} (hx : x < N) (h1 : pcnt T left x n = 1) (h2 : ∀ y, y < x → pcnt T left y n ≠ 1) : pfst T left n N 0 = some x := by
  cases h : pfst T left n N 0 with
  | none => exact absurd h1 ((pfst_spec (r := N) (c := 0)).2 h x (by omega) (by omega))
  | some z =>
    obtain ⟨a1, a2, a3, a4⟩ := (pfst_spec (r := N) (c := 0)).1 z h
    rcases Nat.lt_trichotomy z x with h | h | h
    · exact absurd a3 (h2 z h)
    · rw [h]
    · exact absurd h1 (a4 x (by omega) h)
theorem pfst_no {T : Nat → List Nat} {left : Nat → Bool} {n N : Nat} (h2 : ∀ y, y < N → pcnt T left y n ≠ 1) : pfst T left n N 0 = none := by
  cases h : pfst T left n N 0 with
  | none => rfl
  | some z =>
    obtain ⟨a1, a2, a3, a4⟩ := (pfst_spec (r := N) (c := 0)).1 z h
    exact absurd a3 (h2 z (by omega))
end
section
/-! PEELING, the class's -/
def LineA (m : am_M) (A : List Nat) (hd : Nat) : Prop := m.1 3704 0 = hd ∧ m.1 3705 0 = hd + A.length ∧ ∀ i x : Nat, A[i]? = some x → m.1 30 (hd + i) = x
def OutM (m : am_M) (out : List (Nat × Nat)) : Prop := m.1 3702 0 = out.length ∧ ∀ i k c : Nat, out[i]? = some (k, c) → m.1 28 i = k ∧ m.1 29 i = c
theorem LineA.fr {m m' : am_M} {A : List Nat} {hd : Nat} (h : LineA m A hd) {l1 l2 : List Nat} (hf : Fr l1 l2 m m') (h1 : 3704 ∉ l1 ∧ 3705 ∉ l1 ∧ 30 ∉ l1) : LineA m' A hd := by
  unfold LineA
  rw [hf.1 _ h1.1, hf.1 _ h1.2.1, hf.1 _ h1.2.2]
  exact h
theorem OutM.fr {m m' : am_M} {out : List (Nat × Nat)} (h : OutM m out) {l1 l2 : List Nat} (hf : Fr l1 l2 m m') (h1 : 3702 ∉ l1 ∧ 28 ∉ l1 ∧ 29 ∉ l1) : OutM m' out := by
  unfold OutM
  rw [hf.1 _ h1.1, hf.1 _ h1.2.1, hf.1 _ h1.2.2]
  exact h
theorem c_lineUp {d : Nat} {P : am_M → Prop} {m : am_M} {T : Nat → List Nat} {n c : Nat} {left : Nat → Bool} {A : List Nat} {hd : Nat} (hD : RowD m T n left) (hc : c < 96) (hA : LineA m A hd) (hr : pcnt T left c n = 1 → hd + A.length < 96) (kpost : ∀ m' : am_M, LineA m' (A ++ if pcnt T left c n = 1 then [c] else []) hd → Fr [30, 3705] [] m m' → P m') : am_OkV (d + 2) 33 [.inr (.inr 27), .inr (.inr 20), .inl c] m P := by
  refine f_Peeling_lineUp (c_isAlone hD hc ?_)
  by_cases h1 : pcnt T left c n = 1
  · rw [if_pos h1] at kpost ⊢
    have hr := hr h1
    obtain ⟨a1, a2, a3⟩ := id hA
    rw [a2]
    refine ⟨fun hz => absurd hz (by decide), fun _ => ⟨fun hn => by omega, fun _ => ⟨by omega, by omega, am_RI (by omega) (by omega), kpost _ ⟨?_, ?_, fun i x hx => ?_⟩ ((Fr.rf.wr (by decide)).wr (by decide))⟩⟩⟩
    · rw [wr_ne _ _ _ (by decide), wr_ne _ _ _ (by decide)]; exact a1
    · rw [wr_at, if_pos rfl, List.length_append]; simp; omega
    · rw [wr_ne _ _ _ (by decide), wr_at]
      by_cases hi : i = A.length
      · subst hi
        rw [List.getElem?_append_right (by omega)] at hx
        simp at hx
        rw [if_pos (by omega), hx]
      · have hl := (List.getElem?_eq_some_iff.mp hx).1
        simp at hl
        rw [List.getElem?_append_left (by omega)] at hx
        rw [if_neg (by omega)]
        exact a3 i x hx
  · rw [if_neg h1] at kpost ⊢
    exact ⟨fun _ => kpost m (by rw [List.append_nil]; exact hA) Fr.rf, fun hz => absurd rfl hz⟩
theorem c_leaveLine {d : Nat} {P : Int → am_M → Prop} {m : am_M} {w hd c : Nat} {A A' : List Nat} (hw : w ≤ 1) (hA : LineA m A hd) (hb : hd + A.length ≤ 96) (hp : ppop w A = some (c, A')) (kpost : ∀ m' : am_M, LineA m' A' (if w = 0 then hd + 1 else hd) → Fr [3704, 3705] [] m m' → P c m') : am_OkI (d + 1) 34 [.inr (.inr 27), .inl w] m P := by
  obtain ⟨h1, h2, h3⟩ := ppop_some hp
  obtain ⟨a1, a2, a3⟩ := id hA
  refine f_Peeling_leaveLine ?_
  rw [a1, a2]
  rcases h3 with ⟨rfl, rfl⟩ | ⟨hw0, rfl⟩
  · refine ⟨fun _ => ?_, fun hz => absurd rfl hz⟩
    have e : ((hd : Int) + 1 - 1) = (hd : Int) := by omega
    rw [e]
    have ec : m.1 30 hd = c := by have := a3 0 c rfl; simpa using this
    rw [ec]
    refine ⟨am_RI (by omega) (by omega), am_RI (by omega) (by omega), by omega, by simp at hb; omega, kpost _ ⟨?_, ?_, fun i x hx => ?_⟩ (Fr.rf.wr (by decide))⟩
    · rw [wr_at, if_pos rfl]; simp
    · rw [wr_ne _ _ _ (by decide), a2]; simp; omega
    · rw [wr_ne _ _ _ (by decide)]
      have := a3 (i + 1) x (by simpa using hx)
      simp only [if_pos]
      rw [show ((hd + 1 : Nat) : Int) + (i : Int) = (hd : Int) + ((i + 1 : Nat) : Int) by omega]
      exact this
  · have hw1 : w = 1 := by omega
    subst hw1
    refine ⟨fun hz => absurd hz (by decide), fun _ => ?_⟩
    have e : ((hd : Int) + ((A' ++ [c]).length : Int) - 1) = (hd : Int) + (A'.length : Int) := by simp; omega
    rw [e]
    have ec : m.1 30 (hd + A'.length) = c := a3 A'.length c (by simp)
    rw [ec]
    simp at hb
    refine ⟨am_RI (by omega) (by omega), by omega, by omega, kpost _ ⟨?_, ?_, fun i x hx => ?_⟩ (Fr.rf.wr (by decide))⟩
    · rw [wr_ne _ _ _ (by decide)]; simpa using a1
    · rw [wr_at, if_pos rfl]; simp
    · rw [wr_ne _ _ _ (by decide)]
      have hl := (List.getElem?_eq_some_iff.mp hx).1
      simpa using a3 i x (by rw [List.getElem?_append_left hl]; exact hx)
theorem c_goOut {d : Nat} {P : Int → am_M → Prop} {m : am_M} {T : Nat → List Nat} {n N c : Nat} {left : Nat → Bool} {out : List (Nat × Nat)} (hL : RowL m T n N) (hD : RowD m T n left) (hO : OutM m out) (hc : c < 96) (h1 : pcnt T left c n = 1) (ho : out.length + pleft left n ≤ n) (kpost : ∀ m' : am_M, RowL m' T n N → RowD m' T n (pset left (psum T left c n) false) → OutM m' (out ++ [(psum T left c n, c)]) → Fr [25, 26, 24, 3007, 28, 29, 3702] [] m m' → P (psum T left c n) m') : am_OkI (d + 2) 36 [.inr (.inr 27), .inr (.inr 20), .inl c] m P := by
  obtain ⟨k, k1, k2, k3, k4, k5, k6⟩ := palone h1
  have hn : n ≤ 48 := hL.2.2.1
  rw [k5] at kpost
  have hmix : m.1 26 c = k := by
    rw [(hD.2.2 c hc).2, k6]
    exact (nI_toInt (n := k) (by omega))
  have hpl : 1 ≤ pleft left n := by
    rcases Nat.eq_zero_or_pos (pleft left n) with h | h
    · have := pleft_zero.mp h k k1
      rw [k2] at this
      cases this
    · exact h
  refine f_Peeling_goOut ?_
  rw [hmix]
  refine ⟨by omega, by omega, c_takeOff hL hD k1 k2 (fun m1 hL1 hD1 hf1 => ?_)⟩
  have e : m1.1 3702 0 = out.length := by rw [hf1.1 _ (by decide)]; exact hO.1
  rw [e]
  refine ⟨by omega, by omega, by omega, by omega, am_RI (by omega) (by omega), ?_⟩
  have hfx : Fr [28, 29, 3702] [] m1 (am_wr (am_wr (am_wr m1 28 (out.length : Int) (k : Int)) 29 (out.length : Int) (c : Int)) 3702 0 ((out.length : Int) + 1)) := ((Fr.rf.wr (by decide)).wr (by decide)).wr (by decide)
  refine kpost _ (hL1.fr hfx (by decide)) (hD1.fr hfx (by decide)) ⟨?_, fun i k' c' hx => ?_⟩ (hf1.tr hfx (by decide) (by decide) (by decide) (by decide))
  · rw [wr_at, if_pos rfl, List.length_append]; simp
  · by_cases hi : i = out.length
    · subst hi
      rw [List.getElem?_append_right (by omega)] at hx
      simp at hx
      exact ⟨by rw [wr_ne _ _ _ (by decide), wr_ne _ _ _ (by decide), wr_at, if_pos rfl, hx.1], by rw [wr_ne _ _ _ (by decide), wr_at, if_pos rfl, hx.2]⟩
    · have hl := (List.getElem?_eq_some_iff.mp hx).1
      simp at hl
      rw [List.getElem?_append_left (by omega)] at hx
      obtain ⟨o1, o2⟩ := hO.2 i k' c' hx
      exact ⟨by rw [wr_ne _ _ _ (by decide), wr_ne _ _ _ (by decide), wr_at, if_neg (by omega), hf1.1 _ (by decide)]; exact o1, by rw [wr_ne _ _ _ (by decide), wr_at, if_neg (by omega), wr_ne _ _ _ (by decide), hf1.1 _ (by decide)]; exact o2⟩
theorem pleft_off {left : Nat → Bool} {n k : Nat} (hk : k < n) (hl : left k = true) : pleft (pset left k false) n + 1 = pleft left n := by
  have := pleft_set (left := left) (b := false) hk
  rw [if_pos hl, if_neg (by decide)] at this
  omega
abbrev runF : List Nat := [25, 26, 24, 3007, 28, 29, 3702, 30, 3704, 3705]
theorem c_runLine {d : Nat} {P : am_M → Prop} {m : am_M} {T : Nat → List Nat} {n N w : Nat} {left0 : Nat → Bool} (hw : w ≤ 1) (hL : RowL m T n N) (hD : RowD m T n left0) (hO : OutM m []) (kpost : ∀ m' : am_M, RowL m' T n N → RowD m' T n (pq w T n 96 left0 (pl0 T left0 n N) []).1 → OutM m' (pq w T n 96 left0 (pl0 T left0 n N) []).2 → Fr runF [] m m' → P m') : am_OkV (d + 3) 32 [.inr (.inr 27), .inr (.inr 20), .inl w] m P := by
  have hN : N ≤ 96 := hL.2.2.2.1
  have hn : n ≤ 48 := hL.2.2.1
  have hT : TOK T n N := hL.2.2.2.2.1
  -- the main loop
  have main : ∀ (f i hd : Nat) (left : Nat → Bool) (A : List Nat) (out : List (Nat × Nat)) (m' : am_M), i + f = 96 → pbig T left n N + A.length ≤ f → hd ≤ i → (w ≠ 0 → hd = 0) → (∀ x ∈ A, x < N) → out.length + pleft left n ≤ n → RowL m' T n N → RowD m' T n left → LineA m' A hd → OutM m' out → Fr runF [] m m' → (∀ m'' : am_M, RowL m'' T n N → RowD m'' T n (pq w T n f left A out).1 → OutM m'' (pq w T n f left A out).2 → Fr runF [] m m'' → P m'') → am_GV (d + 3) 32 P 34 [(0, .inr (.inr 27)), (1, .inr (.inr 20)), (2, .inl w), (3, .inl i)] [] m' := by
    intro f
    induction f with
    | zero =>
      intro i hd left A out m' hi hphi hh hh0 hAN hol hL' hD' hA' hO' hf kp
      refine f_Peeling_runLine_34 ⟨fun _ => kp m' hL' hD' hO' hf, fun hn => by omega⟩
    | succ f ih =>
      intro i hd left A out m' hi hphi hh hh0 hAN hol hL' hD' hA' hO' hf kp
      obtain ⟨a1, a2, a3⟩ := id hA'
      refine f_Peeling_runLine_34 ⟨fun hn => by omega, fun _ => ?_⟩
      rw [a1, a2]
      cases hp : ppop w A with
      | none =>
        have hA0 := ppop_none hp
        subst hA0
        have kp2 := kp m' hL'
        simp only [pq, hp] at kp2
        exact ⟨fun _ => kp2 hD' hO' hf, fun hn => absurd (by simp) hn⟩
      | some cA =>
        obtain ⟨c, A'⟩ := cA
        obtain ⟨q1, q2, q3⟩ := ppop_some hp
        have hcN : c < N := hAN c q2
        have hAN' : ∀ x ∈ A', x < N := fun x hx => hAN x (by
          rcases q3 with ⟨-, e⟩ | ⟨-, e⟩
          · rw [e]; exact List.mem_cons_of_mem _ hx
          · rw [e]; exact List.mem_append_left _ hx)
        refine ⟨fun hn => by omega, fun _ => c_leaveLine (d := d + 1) hw hA' (by omega) hp (fun m1 hA1 hf1 => ?_)⟩
        have hD1 : RowD m1 T n left := hD'.fr hf1 (by decide)
        have hL1 : RowL m1 T n N := hL'.fr hf1 (by decide)
        have hO1 : OutM m1 out := hO'.fr hf1 (by decide)
        have hff1 : Fr runF [] m m1 := hf.tr1 (hf1.mono (by decide) (by decide))
        refine c_isAlone (d := d + 1) hD1 (by omega) ?_
        by_cases h1 : pcnt T left c n = 1
        · rw [if_pos h1]
          refine ⟨fun hz => absurd hz (by decide), fun _ => c_goOut (d := d) hL1 hD1 hO1 (by omega) h1 hol (fun m2 hL2 hD2 hO2 hf2 => ?_)⟩
          obtain ⟨k, k1, k2, k3, k4, k5, k6⟩ := palone h1
          rw [k5] at hD2 hO2 ⊢
          have kp2 : ∀ m'' : am_M, RowL m'' T n N → RowD m'' T n (pq w T n f (pset left k false) (A' ++ pnew T (pset left k false) n k) (out ++ [(k, c)])).1 → OutM m'' (pq w T n f (pset left k false) (A' ++ pnew T (pset left k false) n k) (out ++ [(k, c)])).2 → Fr runF [] m m'' → P m'' := by
            intro m''
            have := kp m''
            simp only [pq, hp] at this
            rw [if_pos h1, k5] at this
            exact this
          refine ⟨am_RI (by omega) (by omega), ?_⟩
          have hbig := pbig_set (T := T) k1 k2 N
          rw [pnew_len hT k1] at hbig
          have hA2 : LineA m2 A' (if w = 0 then hd + 1 else hd) := hA1.fr hf2 (by decide)
          have hff2 : Fr runF [] m m2 := hff1.tr1 (hf2.mono (by decide) (by decide))
          generalize hhd : (if w = 0 then hd + 1 else hd) = hd2 at hA2
          have hhd1 : hd2 ≤ i + 1 := by rw [← hhd]; split <;> omega
          have hhd0 : w ≠ 0 → hd2 = 0 := fun hw0 => by rw [← hhd, if_neg hw0]; exact hh0 hw0
          obtain ⟨hk22, hk21⟩ := hL2.2.2.2.2.2 k k1
          have hTk := hT k k1
          have inner : ∀ (l : List Nat) (j : Nat) (B : List Nat) (m3 : am_M), (T k).drop j = l → Fr [30, 3705] [] m2 m3 → LineA m3 B hd2 → hd2 + B.length + (l.filter (fun x => decide (pcnt T (pset left k false) x n = 1))).length ≤ 96 → (∀ m4 : am_M, Fr [30, 3705] [] m2 m4 → LineA m4 (B ++ l.filter (fun x => decide (pcnt T (pset left k false) x n = 1))) hd2 → am_GV (d + 3) 32 P 34 [(0, .inr (.inr 27)), (1, .inr (.inr 20)), (2, .inl w), (3, .inl ((i : Int) + 1))] [] m4) → am_GV (d + 3) 32 P 82 [(0, .inr (.inr 27)), (1, .inr (.inr 20)), (2, .inl w), (3, .inl i), (5, .inl k), (6, .inl (3 * k + j))] [] m3 := by
            intro l
            induction l with
            | nil =>
              intro j B m3 hdr hf3 hA3 hb kk
              have hjl : (T k).length ≤ j := by
                have := congrArg List.length hdr
                rw [List.length_drop] at this
                simp at this
                omega
              refine f_Peeling_runLine_82 ?_
              rw [show m3.1 22 k = (T k).length by rw [hf3.1 _ (by decide)]; exact hk22]
              refine ⟨am_RI (by omega) (by omega), by omega, by omega, am_RI (by omega) (by omega), fun _ => ⟨am_RI (by omega) (by omega), kk m3 hf3 (by simpa using hA3)⟩, fun hn => by omega⟩
            | cons a l ihl =>
              intro j B m3 hdr hf3 hA3 hb kk
              have ha0 : (T k)[j]? = some a := by
                have := congrArg (fun z => z[0]?) hdr
                simpa using this
              have hjl : j < (T k).length := (List.getElem?_eq_some_iff.mp ha0).1
              have haN : a < N := hTk.2.2 a (List.mem_of_getElem? ha0)
              have hlen3 := hTk.1
              refine f_Peeling_runLine_82 ?_
              rw [show m3.1 22 k = (T k).length by rw [hf3.1 _ (by decide)]; exact hk22, show m3.1 21 (3 * k + j) = a by rw [hf3.1 _ (by decide)]; exact hk21 j a ha0]
              refine ⟨am_RI (by omega) (by omega), by omega, by omega, am_RI (by omega) (by omega), fun hn => by omega, fun _ => ⟨by omega, by omega, c_lineUp (d := d) (hD2.fr hf3 (by decide)) (by omega) hA3 (fun h1' => ?_) (fun m4 hA4 hf4 => ⟨am_RI (by omega) (by omega), ?_⟩)⟩⟩
              · rw [List.filter_cons_of_pos (by simpa using h1')] at hb
                simp at hb
                omega
              · have e : (3 * (k : Int) + (j : Int) + 1) = 3 * (k : Int) + ((j + 1 : Nat) : Int) := by omega
                rw [e]
                refine ihl (j + 1) _ m4 (by rw [← List.drop_drop, hdr]; rfl) (hf3.tr1 hf4) hA4 ?_ (fun m5 hf5 hA5 => kk m5 hf5 ?_)
                · by_cases h1' : pcnt T (pset left k false) a n = 1
                  · rw [List.filter_cons_of_pos (by simpa using h1')] at hb
                    rw [if_pos h1']
                    simp at hb ⊢
                    omega
                  · rw [List.filter_cons_of_neg (by simpa using h1')] at hb
                    rw [if_neg h1']
                    simpa using hb
                · by_cases h1' : pcnt T (pset left k false) a n = 1
                  · rw [List.filter_cons_of_pos (by simpa using h1')]
                    rw [if_pos h1'] at hA5
                    simpa using hA5
                  · rw [List.filter_cons_of_neg (by simpa using h1')]
                    rw [if_neg h1'] at hA5
                    simpa using hA5
          have e : 3 * (k : Int) = 3 * (k : Int) + ((0 : Nat) : Int) := by omega
          rw [e]
          refine inner (T k) 0 A' m2 rfl Fr.rf hA2 (by show hd2 + A'.length + (pnew T (pset left k false) n k).length ≤ 96; omega) (fun m4 hf4 hA4 => ?_)
          have hpo := pleft_off k1 k2
          exact ih (i + 1) hd2 (pset left k false) (A' ++ pnew T (pset left k false) n k) (out ++ [(k, c)]) m4 (by omega) (by rw [List.length_append]; omega) hhd1 hhd0 (fun x hx => by
            rcases List.mem_append.mp hx with h | h
            · exact hAN' x h
            · exact hTk.2.2 x (mem_pnew.mp h).1) (by rw [List.length_append]; simp; omega) (hL2.fr hf4 (by decide)) (hD2.fr hf4 (by decide)) hA4 (hO2.fr hf4 (by decide)) (hff2.tr1 (hf4.mono (by decide) (by decide))) kp2
        · rw [if_neg h1]
          have kp2 : ∀ m'' : am_M, RowL m'' T n N → RowD m'' T n (pq w T n f left A' out).1 → OutM m'' (pq w T n f left A' out).2 → Fr runF [] m m'' → P m'' := by
            intro m''
            have := kp m''
            simp only [pq, hp] at this
            rw [if_neg h1] at this
            exact this
          refine ⟨fun _ => ⟨am_RI (by omega) (by omega), ih (i + 1) (if w = 0 then hd + 1 else hd) left A' out m1 (by omega) (by omega) (by split <;> omega) (fun hw0 => by rw [if_neg hw0]; exact hh0 hw0) hAN' hol hL1 hD1 hA1 hO1 hff1 kp2⟩, fun hz => absurd rfl hz⟩
  have first : ∀ (r c : Nat) (m' : am_M), c + r = N → LineA m' (pl0 T left0 n c) 0 → Fr [30, 3705, 3704] [] m m' → am_GV (d + 3) 32 P 12 [(0, .inr (.inr 27)), (1, .inr (.inr 20)), (2, .inl w), (3, .inl c)] [] m' := by
    intro r
    induction r with
    | zero =>
      intro c m' hc hA hf
      have hcN : c = N := by omega
      subst hcN
      refine f_Peeling_runLine_12 ?_
      rw [show m'.1 3008 0 = c by rw [hf.1 _ (by decide)]; exact hL.2.1]
      refine ⟨fun _ => main 96 0 0 left0 (pl0 T left0 n c) [] m' rfl (by have := pl0_len (T := T) (left := left0) (n := n) c; omega) (by omega) (fun _ => rfl) (fun x hx => (mem_pl0.mp hx).1) (by have : pleft left0 n ≤ n := pleft_le; simpa using this) (hL.fr hf (by decide)) (hD.fr hf (by decide)) hA (hO.fr hf (by decide)) (hf.mono (by decide) (by decide)) kpost, fun hn => by omega⟩
    | succ r ih =>
      intro c m' hc hA hf
      refine f_Peeling_runLine_12 ?_
      rw [show m'.1 3008 0 = N by rw [hf.1 _ (by decide)]; exact hL.2.1]
      refine ⟨fun hn => by omega, fun _ => c_lineUp (d := d) (hD.fr hf (by decide)) (by omega) hA (fun _ => ?_) (fun m1 hA1 hf1 => ⟨am_RI (by omega) (by omega), ih (c + 1) m1 (by omega) hA1 (hf.tr hf1 (by decide) (by decide) (by decide) (by decide))⟩)⟩
      have := pl0_len (T := T) (left := left0) (n := n) c
      omega
  refine f_Peeling_runLine ?_
  refine first N 0 _ (by omega) ⟨?_, ?_, fun i x hx => ?_⟩ ((Fr.rf.wr (by decide)).wr (by decide))
  · rw [wr_ne _ _ _ (by decide), wr_at, if_pos rfl]; rfl
  · rw [wr_at, if_pos rfl]; rfl
  · simp [pl0] at hx
theorem plst_stop {T : Nat → List Nat} {n N : Nat} {left : Nat → Bool} {out : List (Nat × Nat)} (h : ∀ y, y < N → pcnt T left y n ≠ 1) : ∀ f, plst T n N f left out = (left, out)
  | 0 => rfl
  | f + 1 => by
    unfold plst
    rw [pfst_no h]
theorem c_runLeast {d : Nat} {P : am_M → Prop} {m : am_M} {T : Nat → List Nat} {n N : Nat} {left0 : Nat → Bool} (hL : RowL m T n N) (hD : RowD m T n left0) (hO : OutM m []) (kpost : ∀ m' : am_M, RowL m' T n N → RowD m' T n (plst T n N n left0 []).1 → OutM m' (plst T n N n left0 []).2 → Fr runF [] m m' → P m') : am_OkV (d + 3) 35 [.inr (.inr 27), .inr (.inr 20)] m P := by
  have hN : N ≤ 96 := hL.2.2.2.1
  have hn : n ≤ 48 := hL.2.2.1
  have hT : TOK T n N := hL.2.2.2.2.1
  have main : ∀ (r i cell f : Nat) (left : Nat → Bool) (out : List (Nat × Nat)) (m' : am_M), i + r = 4704 → 96 * pleft left n + (N - cell) ≤ r → cell ≤ N → (∀ y, y < cell → pcnt T left y n ≠ 1) → pleft left n ≤ f → out.length + pleft left n ≤ n → RowL m' T n N → RowD m' T n left → OutM m' out → Fr runF [] m m' → (∀ m'' : am_M, RowL m'' T n N → RowD m'' T n (plst T n N f left out).1 → OutM m'' (plst T n N f left out).2 → Fr runF [] m m'' → P m'') → am_GV (d + 3) 35 P 4 [(0, .inr (.inr 27)), (1, .inr (.inr 20)), (2, .inl cell), (3, .inl i)] [] m' := by
    intro r
    induction r with
    | zero =>
      intro i cell f left out m' hi hphi hc hy hpf hol hL' hD' hO' hf kp
      have kp := kp m' hL'
      rw [plst_stop (fun y hyN => hy y (by omega))] at kp
      exact f_Peeling_runLeast_4 ⟨fun _ => kp hD' hO' hf, fun hn => by omega⟩
    | succ r ih =>
      intro i cell f left out m' hi hphi hc hy hpf hol hL' hD' hO' hf kp
      refine f_Peeling_runLeast_4 ⟨fun hn => by omega, fun _ => ?_⟩
      rw [hL'.2.1]
      refine ⟨fun hge => ?_, fun hlt => c_isAlone (d := d + 1) hD' (by omega) ?_⟩
      · have kp := kp m' hL'
        rw [plst_stop (fun y hyN => hy y (by omega))] at kp
        exact kp hD' hO' hf
      · by_cases h1 : pcnt T left cell n = 1
        · rw [if_pos h1]
          refine ⟨fun hz => absurd hz (by decide), fun _ => c_goOut (d := d) hL' hD' hO' (by omega) h1 hol (fun m2 hL2 hD2 hO2 hf2 => ?_)⟩
          obtain ⟨k, k1, k2, k3, k4, k5, k6⟩ := palone h1
          rw [k5] at hD2 hO2 ⊢
          have hpo := pleft_off k1 k2
          obtain ⟨g, rfl⟩ : ∃ g, f = g + 1 := ⟨f - 1, by omega⟩
          have hpf2 : pfst T left n N 0 = some cell := pfst_eq (by omega) h1 hy
          have hTk := hT k k1
          obtain ⟨a, ha⟩ : ∃ a, (T k)[0]? = some a := ⟨(T k)[0]'(by omega), List.getElem?_eq_getElem (by omega)⟩
          have haN : a < N := hTk.2.2 a (List.mem_of_getElem? ha)
          have hle : ∀ x ∈ T k, a ≤ x := by
            intro x hx
            obtain ⟨l, hl⟩ : ∃ l, T k = a :: l := by
              cases hTe : T k with
              | nil => rw [hTe] at ha; cases ha
              | cons b l => rw [hTe] at ha; cases ha; exact ⟨l, rfl⟩
            have hpw := hTk.2.1
            rw [hl] at hpw hx
            rcases List.mem_cons.mp hx with rfl | hx
            · exact Nat.le_refl _
            · exact Nat.le_of_lt ((List.pairwise_cons.mp hpw).1 x hx)
          have e21 : m2.1 21 (3 * (k : Int)) = a := by
            have := (hL2.2.2.2.2.2 k k1).2 0 a ha
            simpa using this
          rw [e21]
          refine ⟨am_RI (by omega) (by omega), by omega, by omega, am_RI (by omega) (by omega), ?_⟩
          have hac : a ≤ cell := hle cell k3
          refine ih (i + 1) a g (pset left k false) (out ++ [(k, cell)]) m2 (by omega) (by omega) (by omega) (fun y hya => ?_) (by omega) (by rw [List.length_append]; simp; omega) hL2 hD2 hO2 (hf.tr1 (hf2.mono (by decide) (by decide))) (fun m'' => ?_)
          · have hs := pcnt_set (T := T) (left := left) (x := y) (b := false) k1
            have hny : y ∉ T k := fun hm => by have := hle y hm; omega
            rw [if_neg (fun z => hny z.2), if_neg (fun z => hny z.2)] at hs
            have := hy y (by omega)
            omega
          · have kp := kp m''
            unfold plst at kp
            rw [hpf2] at kp
            simp only [k5] at kp
            exact kp
        · rw [if_neg h1]
          refine ⟨fun _ => ⟨am_RI (by omega) (by omega), am_RI (by omega) (by omega), ih (i + 1) (cell + 1) f left out m' (by omega) (by omega) (by omega) (fun y hya => ?_) hpf hol hL' hD' hO' hf kp⟩, fun hz => absurd rfl hz⟩
          by_cases hyc : y = cell
          · rw [hyc]; exact h1
          · exact hy y (by omega)
  have hpl : pleft left0 n ≤ n := pleft_le
  refine f_Peeling_runLeast (main 4704 0 0 n left0 [] m (by omega) (by omega) (by omega) (fun y hy => by omega) hpl (by simpa using hpl) hL hD hO Fr.rf kpost)
theorem c_run {d : Nat} {P : am_M → Prop} {m : am_M} {T : Nat → List Nat} {n N w : Nat} {left0 : Nat → Bool} (hw : w ≤ 2) (hL : RowL m T n N) (hD : RowD m T n left0) (kpost : ∀ m' : am_M, RowL m' T n N → RowD m' T n (pres T n N w left0).1 → OutM m' (pres T n N w left0).2 → Fr runF [] m m' → P m') : am_OkV (d + 4) 31 [.inr (.inr 27), .inr (.inr 20), .inl w] m P := by
  have hf : Fr runF [] m (am_wr m 3702 0 0) := Fr.rf.wr (by decide)
  have hf2 : Fr [3702] [] m (am_wr m 3702 0 0) := Fr.rf.wr (by decide)
  have hO : OutM (am_wr m 3702 0 0) [] := ⟨by rw [wr_at, if_pos rfl]; rfl, fun i k c h => by simp at h⟩
  have hL1 := hL.fr hf2 (by decide)
  have hD1 := hD.fr hf2 (by decide)
  unfold pres at kpost
  refine f_Peeling_run ⟨fun h2 => ⟨fun h1 => ?_, fun h1 => ?_⟩, fun h2 => ?_⟩
  · have hw0 : w = 0 := by omega
    subst hw0
    rw [if_neg (by decide)] at kpost
    exact c_runLine (w := 0) (by decide) hL1 hD1 hO (fun m' a b c e => kpost m' a b c (hf.tr1 e))
  · have hw0 : w = 1 := by omega
    subst hw0
    rw [if_neg (by decide)] at kpost
    exact c_runLine (w := 1) (by decide) hL1 hD1 hO (fun m' a b c e => kpost m' a b c (hf.tr1 e))
  · have hw0 : w = 2 := by omega
    subst hw0
    rw [if_pos rfl] at kpost
    exact c_runLeast hL1 hD1 hO (fun m' a b c e => kpost m' a b c (hf.tr1 e))
end
