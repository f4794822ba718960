-- ===== PART A: goes FIRST, ahead of the names: the tables' words, and 'selects' of the private methods out of them =====
/-- a private method of a class that the tables say can be made, by its rows of tables_1 -/
def lw_okq (q : MethodName × Nat) : Prop := (q.1.cls ≠ "java/lang/invoke/MethodHandle" ∧ q.1.cls ≠ "java/lang/invoke/VarHandle") ∧ Cond.instantiable q.1.cls q.2 ∈ tables_1 ∧ Cond.privateMethod q.1 ∈ tables_1 ∧ Cond.instanceMethod q.1 ∈ tables_1
theorem lw_p0 : lw_okq (⟨"TripleSieve$Tape", "append", "(I)V"⟩, 6) := ⟨⟨by decide +kernel, by decide +kernel⟩, List.mem_of_getElem? (i := 34) (by decide +kernel), List.mem_of_getElem? (i := 395) (by decide +kernel), List.mem_of_getElem? (i := 396) (by decide +kernel)⟩
theorem lw_p1 : lw_okq (⟨"TripleSieve$Reader", "read", "(LTripleSieve$Tape;LTripleSieve$Given;)I"⟩, 1) := ⟨⟨by decide +kernel, by decide +kernel⟩, List.mem_of_getElem? (i := 64) (by decide +kernel), List.mem_of_getElem? (i := 407) (by decide +kernel), List.mem_of_getElem? (i := 408) (by decide +kernel)⟩
theorem lw_p2 : lw_okq (⟨"TripleSieve$Given", "reset", "()V"⟩, 5) := ⟨⟨by decide +kernel, by decide +kernel⟩, List.mem_of_getElem? (i := 74) (by decide +kernel), List.mem_of_getElem? (i := 411) (by decide +kernel), List.mem_of_getElem? (i := 412) (by decide +kernel)⟩
theorem lw_p3 : lw_okq (⟨"TripleSieve$Tape", "rewind", "()V"⟩, 6) := ⟨⟨by decide +kernel, by decide +kernel⟩, List.mem_of_getElem? (i := 34) (by decide +kernel), List.mem_of_getElem? (i := 418) (by decide +kernel), List.mem_of_getElem? (i := 419) (by decide +kernel)⟩
theorem lw_p4 : lw_okq (⟨"TripleSieve$Tape", "step", "()V"⟩, 6) := ⟨⟨by decide +kernel, by decide +kernel⟩, List.mem_of_getElem? (i := 34) (by decide +kernel), List.mem_of_getElem? (i := 422) (by decide +kernel), List.mem_of_getElem? (i := 423) (by decide +kernel)⟩
theorem lw_p5 : lw_okq (⟨"TripleSieve$Tape", "takeWord", "()V"⟩, 6) := ⟨⟨by decide +kernel, by decide +kernel⟩, List.mem_of_getElem? (i := 34) (by decide +kernel), List.mem_of_getElem? (i := 429) (by decide +kernel), List.mem_of_getElem? (i := 430) (by decide +kernel)⟩
theorem lw_p6 : lw_okq (⟨"TripleSieve$Tape", "takeNumber", "()V"⟩, 6) := ⟨⟨by decide +kernel, by decide +kernel⟩, List.mem_of_getElem? (i := 34) (by decide +kernel), List.mem_of_getElem? (i := 436) (by decide +kernel), List.mem_of_getElem? (i := 437) (by decide +kernel)⟩
theorem lw_p7 : lw_okq (⟨"TripleSieve$Reader", "readSetting", "(LTripleSieve$Tape;LTripleSieve$Given;I)V"⟩, 1) := ⟨⟨by decide +kernel, by decide +kernel⟩, List.mem_of_getElem? (i := 64) (by decide +kernel), List.mem_of_getElem? (i := 440) (by decide +kernel), List.mem_of_getElem? (i := 441) (by decide +kernel)⟩
theorem lw_p8 : lw_okq (⟨"TripleSieve$Tape", "isWord", "(Ljava/lang/String;)Z"⟩, 6) := ⟨⟨by decide +kernel, by decide +kernel⟩, List.mem_of_getElem? (i := 34) (by decide +kernel), List.mem_of_getElem? (i := 453) (by decide +kernel), List.mem_of_getElem? (i := 454) (by decide +kernel)⟩
theorem lw_p9 : lw_okq (⟨"TripleSieve$Reader", "takeNumber", "(LTripleSieve$Tape;II)I"⟩, 1) := ⟨⟨by decide +kernel, by decide +kernel⟩, List.mem_of_getElem? (i := 64) (by decide +kernel), List.mem_of_getElem? (i := 510) (by decide +kernel), List.mem_of_getElem? (i := 511) (by decide +kernel)⟩
theorem lw_p10 : lw_okq (⟨"TripleSieve$Reader", "fail", "(LTripleSieve$Tape;I)V"⟩, 1) := ⟨⟨by decide +kernel, by decide +kernel⟩, List.mem_of_getElem? (i := 64) (by decide +kernel), List.mem_of_getElem? (i := 514) (by decide +kernel), List.mem_of_getElem? (i := 515) (by decide +kernel)⟩
theorem lw_p11 : lw_okq (⟨"TripleSieve$Reader", "takeChoice", "(LTripleSieve$Tape;I)I"⟩, 1) := ⟨⟨by decide +kernel, by decide +kernel⟩, List.mem_of_getElem? (i := 64) (by decide +kernel), List.mem_of_getElem? (i := 518) (by decide +kernel), List.mem_of_getElem? (i := 519) (by decide +kernel)⟩
theorem lw_p12 : lw_okq (⟨"TripleSieve$Reader", "passStop", "(LTripleSieve$Tape;)V"⟩, 1) := ⟨⟨by decide +kernel, by decide +kernel⟩, List.mem_of_getElem? (i := 64) (by decide +kernel), List.mem_of_getElem? (i := 531) (by decide +kernel), List.mem_of_getElem? (i := 532) (by decide +kernel)⟩
theorem lw_p13 : lw_okq (⟨"TripleSieve$Given", "resettle", "(II)V"⟩, 5) := ⟨⟨by decide +kernel, by decide +kernel⟩, List.mem_of_getElem? (i := 74) (by decide +kernel), List.mem_of_getElem? (i := 535) (by decide +kernel), List.mem_of_getElem? (i := 536) (by decide +kernel)⟩
theorem lw_p14 : lw_okq (⟨"TripleSieve$Reader", "readKey", "(LTripleSieve$Tape;LTripleSieve$Given;)V"⟩, 1) := ⟨⟨by decide +kernel, by decide +kernel⟩, List.mem_of_getElem? (i := 64) (by decide +kernel), List.mem_of_getElem? (i := 544) (by decide +kernel), List.mem_of_getElem? (i := 545) (by decide +kernel)⟩
theorem lw_p15 : lw_okq (⟨"TripleSieve$Given", "find", "(J)I"⟩, 5) := ⟨⟨by decide +kernel, by decide +kernel⟩, List.mem_of_getElem? (i := 74) (by decide +kernel), List.mem_of_getElem? (i := 549) (by decide +kernel), List.mem_of_getElem? (i := 550) (by decide +kernel)⟩
def lw_privs_1 : List (MethodName × Nat) := [(⟨"TripleSieve$Tape", "append", "(I)V"⟩, 6), (⟨"TripleSieve$Reader", "read", "(LTripleSieve$Tape;LTripleSieve$Given;)I"⟩, 1), (⟨"TripleSieve$Given", "reset", "()V"⟩, 5), (⟨"TripleSieve$Tape", "rewind", "()V"⟩, 6), (⟨"TripleSieve$Tape", "step", "()V"⟩, 6), (⟨"TripleSieve$Tape", "takeWord", "()V"⟩, 6), (⟨"TripleSieve$Tape", "takeNumber", "()V"⟩, 6), (⟨"TripleSieve$Reader", "readSetting", "(LTripleSieve$Tape;LTripleSieve$Given;I)V"⟩, 1), (⟨"TripleSieve$Tape", "isWord", "(Ljava/lang/String;)Z"⟩, 6), (⟨"TripleSieve$Reader", "takeNumber", "(LTripleSieve$Tape;II)I"⟩, 1), (⟨"TripleSieve$Reader", "fail", "(LTripleSieve$Tape;I)V"⟩, 1), (⟨"TripleSieve$Reader", "takeChoice", "(LTripleSieve$Tape;I)I"⟩, 1), (⟨"TripleSieve$Reader", "passStop", "(LTripleSieve$Tape;)V"⟩, 1), (⟨"TripleSieve$Given", "resettle", "(II)V"⟩, 5), (⟨"TripleSieve$Reader", "readKey", "(LTripleSieve$Tape;LTripleSieve$Given;)V"⟩, 1), (⟨"TripleSieve$Given", "find", "(J)I"⟩, 5)]
theorem lw_r1 : ∀ q ∈ lw_privs_1, lw_okq q := List.forall_mem_cons.mpr ⟨lw_p0, List.forall_mem_cons.mpr ⟨lw_p1, List.forall_mem_cons.mpr ⟨lw_p2, List.forall_mem_cons.mpr ⟨lw_p3, List.forall_mem_cons.mpr ⟨lw_p4, List.forall_mem_cons.mpr ⟨lw_p5, List.forall_mem_cons.mpr ⟨lw_p6, List.forall_mem_cons.mpr ⟨lw_p7, List.forall_mem_cons.mpr ⟨lw_p8, List.forall_mem_cons.mpr ⟨lw_p9, List.forall_mem_cons.mpr ⟨lw_p10, List.forall_mem_cons.mpr ⟨lw_p11, List.forall_mem_cons.mpr ⟨lw_p12, List.forall_mem_cons.mpr ⟨lw_p13, List.forall_mem_cons.mpr ⟨lw_p14, List.forall_mem_cons.mpr ⟨lw_p15, fun _ h => absurd h List.not_mem_nil⟩⟩⟩⟩⟩⟩⟩⟩⟩⟩⟩⟩⟩⟩⟩⟩
theorem lw_p16 : lw_okq (⟨"TripleSieve$Reader", "takeValue", "(LTripleSieve$Tape;LTripleSieve$Given;)I"⟩, 1) := ⟨⟨by decide +kernel, by decide +kernel⟩, List.mem_of_getElem? (i := 64) (by decide +kernel), List.mem_of_getElem? (i := 554) (by decide +kernel), List.mem_of_getElem? (i := 555) (by decide +kernel)⟩
theorem lw_p17 : lw_okq (⟨"TripleSieve$Given", "insert", "(IJI)V"⟩, 5) := ⟨⟨by decide +kernel, by decide +kernel⟩, List.mem_of_getElem? (i := 74) (by decide +kernel), List.mem_of_getElem? (i := 559) (by decide +kernel), List.mem_of_getElem? (i := 560) (by decide +kernel)⟩
theorem lw_p18 : lw_okq (⟨"TripleSieve$Given", "copy", "(LTripleSieve$Given;)V"⟩, 5) := ⟨⟨by decide +kernel, by decide +kernel⟩, List.mem_of_getElem? (i := 74) (by decide +kernel), List.mem_of_getElem? (i := 563) (by decide +kernel), List.mem_of_getElem? (i := 564) (by decide +kernel)⟩
theorem lw_p19 : lw_okq (⟨"TripleSieve$Acts", "forget", "()V"⟩, 6) := ⟨⟨by decide +kernel, by decide +kernel⟩, List.mem_of_getElem? (i := 119) (by decide +kernel), List.mem_of_getElem? (i := 567) (by decide +kernel), List.mem_of_getElem? (i := 568) (by decide +kernel)⟩
theorem lw_p20 : lw_okq (⟨"TripleSieve$Given", "has", "(I)Z"⟩, 5) := ⟨⟨by decide +kernel, by decide +kernel⟩, List.mem_of_getElem? (i := 74) (by decide +kernel), List.mem_of_getElem? (i := 575) (by decide +kernel), List.mem_of_getElem? (i := 576) (by decide +kernel)⟩
theorem lw_p21 : lw_okq (⟨"TripleSieve$Given", "canBeValue", "(I)Z"⟩, 5) := ⟨⟨by decide +kernel, by decide +kernel⟩, List.mem_of_getElem? (i := 74) (by decide +kernel), List.mem_of_getElem? (i := 583) (by decide +kernel), List.mem_of_getElem? (i := 584) (by decide +kernel)⟩
theorem lw_p22 : lw_okq (⟨"TripleSieve$Acts", "note", "(IIJI)V"⟩, 6) := ⟨⟨by decide +kernel, by decide +kernel⟩, List.mem_of_getElem? (i := 119) (by decide +kernel), List.mem_of_getElem? (i := 588) (by decide +kernel), List.mem_of_getElem? (i := 589) (by decide +kernel)⟩
theorem lw_p23 : lw_okq (⟨"TripleSieve$Given", "drop", "(I)V"⟩, 5) := ⟨⟨by decide +kernel, by decide +kernel⟩, List.mem_of_getElem? (i := 74) (by decide +kernel), List.mem_of_getElem? (i := 600) (by decide +kernel), List.mem_of_getElem? (i := 601) (by decide +kernel)⟩
theorem lw_p24 : lw_okq (⟨"TripleSieve$Given", "revalue", "(II)V"⟩, 5) := ⟨⟨by decide +kernel, by decide +kernel⟩, List.mem_of_getElem? (i := 74) (by decide +kernel), List.mem_of_getElem? (i := 609) (by decide +kernel), List.mem_of_getElem? (i := 610) (by decide +kernel)⟩
theorem lw_p25 : lw_okq (⟨"TripleSieve$Given", "fitsBits", "(I)Z"⟩, 5) := ⟨⟨by decide +kernel, by decide +kernel⟩, List.mem_of_getElem? (i := 74) (by decide +kernel), List.mem_of_getElem? (i := 618) (by decide +kernel), List.mem_of_getElem? (i := 619) (by decide +kernel)⟩
theorem lw_p26 : lw_okq (⟨"TripleSieve", "lookNow", "(J)V"⟩, 13) := ⟨⟨by decide +kernel, by decide +kernel⟩, List.mem_of_getElem? (i := 26) (by decide +kernel), List.mem_of_getElem? (i := 636) (by decide +kernel), List.mem_of_getElem? (i := 637) (by decide +kernel)⟩
theorem lw_p27 : lw_okq (⟨"TripleSieve$Marks", "aim", "(IIII)V"⟩, 8) := ⟨⟨by decide +kernel, by decide +kernel⟩, List.mem_of_getElem? (i := 145) (by decide +kernel), List.mem_of_getElem? (i := 640) (by decide +kernel), List.mem_of_getElem? (i := 641) (by decide +kernel)⟩
theorem lw_p28 : lw_okq (⟨"TripleSieve$Marks", "look", "(J)V"⟩, 8) := ⟨⟨by decide +kernel, by decide +kernel⟩, List.mem_of_getElem? (i := 145) (by decide +kernel), List.mem_of_getElem? (i := 645) (by decide +kernel), List.mem_of_getElem? (i := 646) (by decide +kernel)⟩
theorem lw_p29 : lw_okq (⟨"TripleSieve$Marks", "placeApart", "(J)V"⟩, 8) := ⟨⟨by decide +kernel, by decide +kernel⟩, List.mem_of_getElem? (i := 145) (by decide +kernel), List.mem_of_getElem? (i := 649) (by decide +kernel), List.mem_of_getElem? (i := 650) (by decide +kernel)⟩
theorem lw_p30 : lw_okq (⟨"TripleSieve$Marks", "placeClose", "(J)V"⟩, 8) := ⟨⟨by decide +kernel, by decide +kernel⟩, List.mem_of_getElem? (i := 145) (by decide +kernel), List.mem_of_getElem? (i := 657) (by decide +kernel), List.mem_of_getElem? (i := 658) (by decide +kernel)⟩
theorem lw_p31 : lw_okq (⟨"TripleSieve$Marks", "placeFree", "(J)V"⟩, 8) := ⟨⟨by decide +kernel, by decide +kernel⟩, List.mem_of_getElem? (i := 145) (by decide +kernel), List.mem_of_getElem? (i := 661) (by decide +kernel), List.mem_of_getElem? (i := 662) (by decide +kernel)⟩
def lw_privs_2 : List (MethodName × Nat) := [(⟨"TripleSieve$Reader", "takeValue", "(LTripleSieve$Tape;LTripleSieve$Given;)I"⟩, 1), (⟨"TripleSieve$Given", "insert", "(IJI)V"⟩, 5), (⟨"TripleSieve$Given", "copy", "(LTripleSieve$Given;)V"⟩, 5), (⟨"TripleSieve$Acts", "forget", "()V"⟩, 6), (⟨"TripleSieve$Given", "has", "(I)Z"⟩, 5), (⟨"TripleSieve$Given", "canBeValue", "(I)Z"⟩, 5), (⟨"TripleSieve$Acts", "note", "(IIJI)V"⟩, 6), (⟨"TripleSieve$Given", "drop", "(I)V"⟩, 5), (⟨"TripleSieve$Given", "revalue", "(II)V"⟩, 5), (⟨"TripleSieve$Given", "fitsBits", "(I)Z"⟩, 5), (⟨"TripleSieve", "lookNow", "(J)V"⟩, 13), (⟨"TripleSieve$Marks", "aim", "(IIII)V"⟩, 8), (⟨"TripleSieve$Marks", "look", "(J)V"⟩, 8), (⟨"TripleSieve$Marks", "placeApart", "(J)V"⟩, 8), (⟨"TripleSieve$Marks", "placeClose", "(J)V"⟩, 8), (⟨"TripleSieve$Marks", "placeFree", "(J)V"⟩, 8)]
theorem lw_r2 : ∀ q ∈ lw_privs_2, lw_okq q := List.forall_mem_cons.mpr ⟨lw_p16, List.forall_mem_cons.mpr ⟨lw_p17, List.forall_mem_cons.mpr ⟨lw_p18, List.forall_mem_cons.mpr ⟨lw_p19, List.forall_mem_cons.mpr ⟨lw_p20, List.forall_mem_cons.mpr ⟨lw_p21, List.forall_mem_cons.mpr ⟨lw_p22, List.forall_mem_cons.mpr ⟨lw_p23, List.forall_mem_cons.mpr ⟨lw_p24, List.forall_mem_cons.mpr ⟨lw_p25, List.forall_mem_cons.mpr ⟨lw_p26, List.forall_mem_cons.mpr ⟨lw_p27, List.forall_mem_cons.mpr ⟨lw_p28, List.forall_mem_cons.mpr ⟨lw_p29, List.forall_mem_cons.mpr ⟨lw_p30, List.forall_mem_cons.mpr ⟨lw_p31, fun _ h => absurd h List.not_mem_nil⟩⟩⟩⟩⟩⟩⟩⟩⟩⟩⟩⟩⟩⟩⟩⟩
theorem lw_p32 : lw_okq (⟨"TripleSieve$Marks", "gatherTouched", "()V"⟩, 8) := ⟨⟨by decide +kernel, by decide +kernel⟩, List.mem_of_getElem? (i := 145) (by decide +kernel), List.mem_of_getElem? (i := 665) (by decide +kernel), List.mem_of_getElem? (i := 666) (by decide +kernel)⟩
theorem lw_p33 : lw_okq (⟨"TripleSieve$Marks", "touchOnly", "(I)V"⟩, 8) := ⟨⟨by decide +kernel, by decide +kernel⟩, List.mem_of_getElem? (i := 145) (by decide +kernel), List.mem_of_getElem? (i := 669) (by decide +kernel), List.mem_of_getElem? (i := 670) (by decide +kernel)⟩
theorem lw_p34 : lw_okq (⟨"TripleSieve", "layNow", "()V"⟩, 13) := ⟨⟨by decide +kernel, by decide +kernel⟩, List.mem_of_getElem? (i := 26) (by decide +kernel), List.mem_of_getElem? (i := 685) (by decide +kernel), List.mem_of_getElem? (i := 686) (by decide +kernel)⟩
theorem lw_p35 : lw_okq (⟨"TripleSieve$Row", "lay", "(LTripleSieve$Given;LTripleSieve$Marks;II)V"⟩, 9) := ⟨⟨by decide +kernel, by decide +kernel⟩, List.mem_of_getElem? (i := 182) (by decide +kernel), List.mem_of_getElem? (i := 689) (by decide +kernel), List.mem_of_getElem? (i := 690) (by decide +kernel)⟩
theorem lw_p36 : lw_okq (⟨"TripleSieve$Row", "putBack", "(I)V"⟩, 9) := ⟨⟨by decide +kernel, by decide +kernel⟩, List.mem_of_getElem? (i := 182) (by decide +kernel), List.mem_of_getElem? (i := 698) (by decide +kernel), List.mem_of_getElem? (i := 699) (by decide +kernel)⟩
theorem lw_p37 : lw_okq (⟨"TripleSieve$Row", "touchSame", "(II)Z"⟩, 9) := ⟨⟨by decide +kernel, by decide +kernel⟩, List.mem_of_getElem? (i := 182) (by decide +kernel), List.mem_of_getElem? (i := 706) (by decide +kernel), List.mem_of_getElem? (i := 707) (by decide +kernel)⟩
theorem lw_p38 : lw_okq (⟨"TripleSieve", "peelNow", "()V"⟩, 13) := ⟨⟨by decide +kernel, by decide +kernel⟩, List.mem_of_getElem? (i := 26) (by decide +kernel), List.mem_of_getElem? (i := 714) (by decide +kernel), List.mem_of_getElem? (i := 715) (by decide +kernel)⟩
theorem lw_p39 : lw_okq (⟨"TripleSieve$Peeling", "run", "(LTripleSieve$Row;I)V"⟩, 8) := ⟨⟨by decide +kernel, by decide +kernel⟩, List.mem_of_getElem? (i := 235) (by decide +kernel), List.mem_of_getElem? (i := 718) (by decide +kernel), List.mem_of_getElem? (i := 719) (by decide +kernel)⟩
theorem lw_p40 : lw_okq (⟨"TripleSieve$Peeling", "runLeast", "(LTripleSieve$Row;)V"⟩, 8) := ⟨⟨by decide +kernel, by decide +kernel⟩, List.mem_of_getElem? (i := 235) (by decide +kernel), List.mem_of_getElem? (i := 722) (by decide +kernel), List.mem_of_getElem? (i := 723) (by decide +kernel)⟩
theorem lw_p41 : lw_okq (⟨"TripleSieve$Row", "loneKey", "(I)I"⟩, 9) := ⟨⟨by decide +kernel, by decide +kernel⟩, List.mem_of_getElem? (i := 182) (by decide +kernel), List.mem_of_getElem? (i := 726) (by decide +kernel), List.mem_of_getElem? (i := 727) (by decide +kernel)⟩
theorem lw_p42 : lw_okq (⟨"TripleSieve$Peeling", "goOut", "(LTripleSieve$Row;II)V"⟩, 8) := ⟨⟨by decide +kernel, by decide +kernel⟩, List.mem_of_getElem? (i := 235) (by decide +kernel), List.mem_of_getElem? (i := 730) (by decide +kernel), List.mem_of_getElem? (i := 731) (by decide +kernel)⟩
theorem lw_p43 : lw_okq (⟨"TripleSieve$Row", "takeOff", "(I)V"⟩, 9) := ⟨⟨by decide +kernel, by decide +kernel⟩, List.mem_of_getElem? (i := 182) (by decide +kernel), List.mem_of_getElem? (i := 734) (by decide +kernel), List.mem_of_getElem? (i := 735) (by decide +kernel)⟩
theorem lw_p44 : lw_okq (⟨"TripleSieve$Peeling", "runLine", "(LTripleSieve$Row;Z)V"⟩, 8) := ⟨⟨by decide +kernel, by decide +kernel⟩, List.mem_of_getElem? (i := 235) (by decide +kernel), List.mem_of_getElem? (i := 738) (by decide +kernel), List.mem_of_getElem? (i := 739) (by decide +kernel)⟩
theorem lw_p45 : lw_okq (⟨"TripleSieve$Peeling", "lineUp", "(LTripleSieve$Row;I)V"⟩, 8) := ⟨⟨by decide +kernel, by decide +kernel⟩, List.mem_of_getElem? (i := 235) (by decide +kernel), List.mem_of_getElem? (i := 742) (by decide +kernel), List.mem_of_getElem? (i := 743) (by decide +kernel)⟩
theorem lw_p46 : lw_okq (⟨"TripleSieve$Row", "isAlone", "(I)Z"⟩, 9) := ⟨⟨by decide +kernel, by decide +kernel⟩, List.mem_of_getElem? (i := 182) (by decide +kernel), List.mem_of_getElem? (i := 746) (by decide +kernel), List.mem_of_getElem? (i := 747) (by decide +kernel)⟩
theorem lw_p47 : lw_okq (⟨"TripleSieve$Peeling", "leaveLine", "(Z)I"⟩, 8) := ⟨⟨by decide +kernel, by decide +kernel⟩, List.mem_of_getElem? (i := 235) (by decide +kernel), List.mem_of_getElem? (i := 751) (by decide +kernel), List.mem_of_getElem? (i := 752) (by decide +kernel)⟩
def lw_privs_3 : List (MethodName × Nat) := [(⟨"TripleSieve$Marks", "gatherTouched", "()V"⟩, 8), (⟨"TripleSieve$Marks", "touchOnly", "(I)V"⟩, 8), (⟨"TripleSieve", "layNow", "()V"⟩, 13), (⟨"TripleSieve$Row", "lay", "(LTripleSieve$Given;LTripleSieve$Marks;II)V"⟩, 9), (⟨"TripleSieve$Row", "putBack", "(I)V"⟩, 9), (⟨"TripleSieve$Row", "touchSame", "(II)Z"⟩, 9), (⟨"TripleSieve", "peelNow", "()V"⟩, 13), (⟨"TripleSieve$Peeling", "run", "(LTripleSieve$Row;I)V"⟩, 8), (⟨"TripleSieve$Peeling", "runLeast", "(LTripleSieve$Row;)V"⟩, 8), (⟨"TripleSieve$Row", "loneKey", "(I)I"⟩, 9), (⟨"TripleSieve$Peeling", "goOut", "(LTripleSieve$Row;II)V"⟩, 8), (⟨"TripleSieve$Row", "takeOff", "(I)V"⟩, 9), (⟨"TripleSieve$Peeling", "runLine", "(LTripleSieve$Row;Z)V"⟩, 8), (⟨"TripleSieve$Peeling", "lineUp", "(LTripleSieve$Row;I)V"⟩, 8), (⟨"TripleSieve$Row", "isAlone", "(I)Z"⟩, 9), (⟨"TripleSieve$Peeling", "leaveLine", "(Z)I"⟩, 8)]
theorem lw_r3 : ∀ q ∈ lw_privs_3, lw_okq q := List.forall_mem_cons.mpr ⟨lw_p32, List.forall_mem_cons.mpr ⟨lw_p33, List.forall_mem_cons.mpr ⟨lw_p34, List.forall_mem_cons.mpr ⟨lw_p35, List.forall_mem_cons.mpr ⟨lw_p36, List.forall_mem_cons.mpr ⟨lw_p37, List.forall_mem_cons.mpr ⟨lw_p38, List.forall_mem_cons.mpr ⟨lw_p39, List.forall_mem_cons.mpr ⟨lw_p40, List.forall_mem_cons.mpr ⟨lw_p41, List.forall_mem_cons.mpr ⟨lw_p42, List.forall_mem_cons.mpr ⟨lw_p43, List.forall_mem_cons.mpr ⟨lw_p44, List.forall_mem_cons.mpr ⟨lw_p45, List.forall_mem_cons.mpr ⟨lw_p46, List.forall_mem_cons.mpr ⟨lw_p47, fun _ h => absurd h List.not_mem_nil⟩⟩⟩⟩⟩⟩⟩⟩⟩⟩⟩⟩⟩⟩⟩⟩
theorem lw_p48 : lw_okq (⟨"TripleSieve$Row", "leftAt", "(I)I"⟩, 9) := ⟨⟨by decide +kernel, by decide +kernel⟩, List.mem_of_getElem? (i := 182) (by decide +kernel), List.mem_of_getElem? (i := 759) (by decide +kernel), List.mem_of_getElem? (i := 760) (by decide +kernel)⟩
theorem lw_p49 : lw_okq (⟨"TripleSieve$Rounds", "run", "(LTripleSieve$Row;)I"⟩, 1) := ⟨⟨by decide +kernel, by decide +kernel⟩, List.mem_of_getElem? (i := 269) (by decide +kernel), List.mem_of_getElem? (i := 767) (by decide +kernel), List.mem_of_getElem? (i := 768) (by decide +kernel)⟩
theorem lw_p50 : lw_okq (⟨"TripleSieve$Rounds", "mark", "(LTripleSieve$Row;I)Z"⟩, 1) := ⟨⟨by decide +kernel, by decide +kernel⟩, List.mem_of_getElem? (i := 269) (by decide +kernel), List.mem_of_getElem? (i := 772) (by decide +kernel), List.mem_of_getElem? (i := 773) (by decide +kernel)⟩
theorem lw_p51 : lw_okq (⟨"TripleSieve$Rounds", "takeMarked", "(LTripleSieve$Row;I)V"⟩, 1) := ⟨⟨by decide +kernel, by decide +kernel⟩, List.mem_of_getElem? (i := 269) (by decide +kernel), List.mem_of_getElem? (i := 777) (by decide +kernel), List.mem_of_getElem? (i := 778) (by decide +kernel)⟩
theorem lw_p52 : lw_okq (⟨"TripleSieve$Basis", "independent", "(LTripleSieve$Row;)I"⟩, 3) := ⟨⟨by decide +kernel, by decide +kernel⟩, List.mem_of_getElem? (i := 280) (by decide +kernel), List.mem_of_getElem? (i := 786) (by decide +kernel), List.mem_of_getElem? (i := 787) (by decide +kernel)⟩
theorem lw_p53 : lw_okq (⟨"TripleSieve$Basis", "join", "(JJ)V"⟩, 3) := ⟨⟨by decide +kernel, by decide +kernel⟩, List.mem_of_getElem? (i := 280) (by decide +kernel), List.mem_of_getElem? (i := 790) (by decide +kernel), List.mem_of_getElem? (i := 791) (by decide +kernel)⟩
theorem lw_p54 : lw_okq (⟨"TripleSieve$Mender", "search", "(LTripleSieve$Row;)V"⟩, 7) := ⟨⟨by decide +kernel, by decide +kernel⟩, List.mem_of_getElem? (i := 296) (by decide +kernel), List.mem_of_getElem? (i := 798) (by decide +kernel), List.mem_of_getElem? (i := 799) (by decide +kernel)⟩
theorem lw_p55 : lw_okq (⟨"TripleSieve$Mender", "choose", "(LTripleSieve$Row;III)Z"⟩, 7) := ⟨⟨by decide +kernel, by decide +kernel⟩, List.mem_of_getElem? (i := 296) (by decide +kernel), List.mem_of_getElem? (i := 802) (by decide +kernel), List.mem_of_getElem? (i := 803) (by decide +kernel)⟩
theorem lw_p56 : lw_okq (⟨"TripleSieve$Row", "countTouched", "()I"⟩, 9) := ⟨⟨by decide +kernel, by decide +kernel⟩, List.mem_of_getElem? (i := 182) (by decide +kernel), List.mem_of_getElem? (i := 806) (by decide +kernel), List.mem_of_getElem? (i := 807) (by decide +kernel)⟩
theorem lw_p57 : lw_okq (⟨"TripleSieve$Mender", "leaveOut", "(LTripleSieve$Row;I)V"⟩, 7) := ⟨⟨by decide +kernel, by decide +kernel⟩, List.mem_of_getElem? (i := 296) (by decide +kernel), List.mem_of_getElem? (i := 810) (by decide +kernel), List.mem_of_getElem? (i := 811) (by decide +kernel)⟩
theorem lw_p58 : lw_okq (⟨"TripleSieve$Mender", "take", "(LTripleSieve$Row;I)V"⟩, 7) := ⟨⟨by decide +kernel, by decide +kernel⟩, List.mem_of_getElem? (i := 296) (by decide +kernel), List.mem_of_getElem? (i := 814) (by decide +kernel), List.mem_of_getElem? (i := 815) (by decide +kernel)⟩
theorem lw_p59 : lw_okq (⟨"TripleSieve$Mender", "bringBack", "(LTripleSieve$Row;I)V"⟩, 7) := ⟨⟨by decide +kernel, by decide +kernel⟩, List.mem_of_getElem? (i := 296) (by decide +kernel), List.mem_of_getElem? (i := 821) (by decide +kernel), List.mem_of_getElem? (i := 822) (by decide +kernel)⟩
theorem lw_p60 : lw_okq (⟨"TripleSieve", "allPeel", "(II)Z"⟩, 13) := ⟨⟨by decide +kernel, by decide +kernel⟩, List.mem_of_getElem? (i := 26) (by decide +kernel), List.mem_of_getElem? (i := 830) (by decide +kernel), List.mem_of_getElem? (i := 831) (by decide +kernel)⟩
theorem lw_p61 : lw_okq (⟨"TripleSieve$Peeling", "countWoken", "(LTripleSieve$Row;I)I"⟩, 8) := ⟨⟨by decide +kernel, by decide +kernel⟩, List.mem_of_getElem? (i := 235) (by decide +kernel), List.mem_of_getElem? (i := 842) (by decide +kernel), List.mem_of_getElem? (i := 843) (by decide +kernel)⟩
theorem lw_p62 : lw_okq (⟨"TripleSieve$Peeling", "fillBack", "(LTripleSieve$Row;[I[I)V"⟩, 8) := ⟨⟨by decide +kernel, by decide +kernel⟩, List.mem_of_getElem? (i := 235) (by decide +kernel), List.mem_of_getElem? (i := 847) (by decide +kernel), List.mem_of_getElem? (i := 848) (by decide +kernel)⟩
theorem lw_p63 : lw_okq (⟨"TripleSieve$Sieve", "describe", "(LTripleSieve$Given;II)V"⟩, 4) := ⟨⟨by decide +kernel, by decide +kernel⟩, List.mem_of_getElem? (i := 327) (by decide +kernel), List.mem_of_getElem? (i := 855) (by decide +kernel), List.mem_of_getElem? (i := 856) (by decide +kernel)⟩
def lw_privs_4 : List (MethodName × Nat) := [(⟨"TripleSieve$Row", "leftAt", "(I)I"⟩, 9), (⟨"TripleSieve$Rounds", "run", "(LTripleSieve$Row;)I"⟩, 1), (⟨"TripleSieve$Rounds", "mark", "(LTripleSieve$Row;I)Z"⟩, 1), (⟨"TripleSieve$Rounds", "takeMarked", "(LTripleSieve$Row;I)V"⟩, 1), (⟨"TripleSieve$Basis", "independent", "(LTripleSieve$Row;)I"⟩, 3), (⟨"TripleSieve$Basis", "join", "(JJ)V"⟩, 3), (⟨"TripleSieve$Mender", "search", "(LTripleSieve$Row;)V"⟩, 7), (⟨"TripleSieve$Mender", "choose", "(LTripleSieve$Row;III)Z"⟩, 7), (⟨"TripleSieve$Row", "countTouched", "()I"⟩, 9), (⟨"TripleSieve$Mender", "leaveOut", "(LTripleSieve$Row;I)V"⟩, 7), (⟨"TripleSieve$Mender", "take", "(LTripleSieve$Row;I)V"⟩, 7), (⟨"TripleSieve$Mender", "bringBack", "(LTripleSieve$Row;I)V"⟩, 7), (⟨"TripleSieve", "allPeel", "(II)Z"⟩, 13), (⟨"TripleSieve$Peeling", "countWoken", "(LTripleSieve$Row;I)I"⟩, 8), (⟨"TripleSieve$Peeling", "fillBack", "(LTripleSieve$Row;[I[I)V"⟩, 8), (⟨"TripleSieve$Sieve", "describe", "(LTripleSieve$Given;II)V"⟩, 4)]
theorem lw_r4 : ∀ q ∈ lw_privs_4, lw_okq q := List.forall_mem_cons.mpr ⟨lw_p48, List.forall_mem_cons.mpr ⟨lw_p49, List.forall_mem_cons.mpr ⟨lw_p50, List.forall_mem_cons.mpr ⟨lw_p51, List.forall_mem_cons.mpr ⟨lw_p52, List.forall_mem_cons.mpr ⟨lw_p53, List.forall_mem_cons.mpr ⟨lw_p54, List.forall_mem_cons.mpr ⟨lw_p55, List.forall_mem_cons.mpr ⟨lw_p56, List.forall_mem_cons.mpr ⟨lw_p57, List.forall_mem_cons.mpr ⟨lw_p58, List.forall_mem_cons.mpr ⟨lw_p59, List.forall_mem_cons.mpr ⟨lw_p60, List.forall_mem_cons.mpr ⟨lw_p61, List.forall_mem_cons.mpr ⟨lw_p62, List.forall_mem_cons.mpr ⟨lw_p63, fun _ h => absurd h List.not_mem_nil⟩⟩⟩⟩⟩⟩⟩⟩⟩⟩⟩⟩⟩⟩⟩⟩
theorem lw_p64 : lw_okq (⟨"TripleSieve$Sieve", "countBits", "()I"⟩, 4) := ⟨⟨by decide +kernel, by decide +kernel⟩, List.mem_of_getElem? (i := 327) (by decide +kernel), List.mem_of_getElem? (i := 864) (by decide +kernel), List.mem_of_getElem? (i := 865) (by decide +kernel)⟩
theorem lw_p65 : lw_okq (⟨"TripleSieve$Sieve", "length", "()I"⟩, 4) := ⟨⟨by decide +kernel, by decide +kernel⟩, List.mem_of_getElem? (i := 327) (by decide +kernel), List.mem_of_getElem? (i := 868) (by decide +kernel), List.mem_of_getElem? (i := 869) (by decide +kernel)⟩
theorem lw_p66 : lw_okq (⟨"TripleSieve$Sieve", "aim", "(LTripleSieve$Marks;)V"⟩, 4) := ⟨⟨by decide +kernel, by decide +kernel⟩, List.mem_of_getElem? (i := 327) (by decide +kernel), List.mem_of_getElem? (i := 881) (by decide +kernel), List.mem_of_getElem? (i := 882) (by decide +kernel)⟩
theorem lw_p67 : lw_okq (⟨"TripleSieve$Sieve", "letsThrough", "(LTripleSieve$Marks;)Z"⟩, 4) := ⟨⟨by decide +kernel, by decide +kernel⟩, List.mem_of_getElem? (i := 327) (by decide +kernel), List.mem_of_getElem? (i := 886) (by decide +kernel), List.mem_of_getElem? (i := 887) (by decide +kernel)⟩
theorem lw_p68 : lw_okq (⟨"TripleSieve$Marks", "sum", "([I)I"⟩, 8) := ⟨⟨by decide +kernel, by decide +kernel⟩, List.mem_of_getElem? (i := 145) (by decide +kernel), List.mem_of_getElem? (i := 890) (by decide +kernel), List.mem_of_getElem? (i := 891) (by decide +kernel)⟩
theorem lw_p69 : lw_okq (⟨"TripleSieve$Sieve", "copy", "(LTripleSieve$Sieve;)V"⟩, 4) := ⟨⟨by decide +kernel, by decide +kernel⟩, List.mem_of_getElem? (i := 327) (by decide +kernel), List.mem_of_getElem? (i := 911) (by decide +kernel), List.mem_of_getElem? (i := 912) (by decide +kernel)⟩
theorem lw_p70 : lw_okq (⟨"TripleSieve$Sieve", "countUnlike", "(LTripleSieve$Sieve;)I"⟩, 4) := ⟨⟨by decide +kernel, by decide +kernel⟩, List.mem_of_getElem? (i := 327) (by decide +kernel), List.mem_of_getElem? (i := 920) (by decide +kernel), List.mem_of_getElem? (i := 921) (by decide +kernel)⟩
theorem lw_p71 : lw_okq (⟨"TripleSieve$Acts", "undoLatest", "(LTripleSieve$Given;)V"⟩, 6) := ⟨⟨by decide +kernel, by decide +kernel⟩, List.mem_of_getElem? (i := 119) (by decide +kernel), List.mem_of_getElem? (i := 928) (by decide +kernel), List.mem_of_getElem? (i := 929) (by decide +kernel)⟩
theorem lw_p72 : lw_okq (⟨"java/lang/Throwable", "fillInStackTrace", "(I)Ljava/lang/Throwable;"⟩, 6) := ⟨⟨by decide +kernel, by decide +kernel⟩, List.mem_of_getElem? (i := 985) (by decide +kernel), List.mem_of_getElem? (i := 983) (by decide +kernel), List.mem_of_getElem? (i := 984) (by decide +kernel)⟩
theorem lw_p73 : lw_okq (⟨"TripleSieveModel", "lays", "(I)V"⟩, 49) := ⟨⟨by decide +kernel, by decide +kernel⟩, List.mem_of_getElem? (i := 1020) (by decide +kernel), List.mem_of_getElem? (i := 1018) (by decide +kernel), List.mem_of_getElem? (i := 1019) (by decide +kernel)⟩
theorem lw_p74 : lw_okq (⟨"TripleSieveModel", "go", "()V"⟩, 49) := ⟨⟨by decide +kernel, by decide +kernel⟩, List.mem_of_getElem? (i := 1020) (by decide +kernel), List.mem_of_getElem? (i := 1187) (by decide +kernel), List.mem_of_getElem? (i := 1188) (by decide +kernel)⟩
theorem lw_p75 : lw_okq (⟨"TripleSieveModel", "tapeAt", "(I)I"⟩, 49) := ⟨⟨by decide +kernel, by decide +kernel⟩, List.mem_of_getElem? (i := 1020) (by decide +kernel), List.mem_of_getElem? (i := 1194) (by decide +kernel), List.mem_of_getElem? (i := 1195) (by decide +kernel)⟩
theorem lw_p76 : lw_okq (⟨"TripleSieveModel", "readWhole", "()Z"⟩, 49) := ⟨⟨by decide +kernel, by decide +kernel⟩, List.mem_of_getElem? (i := 1020) (by decide +kernel), List.mem_of_getElem? (i := 1203) (by decide +kernel), List.mem_of_getElem? (i := 1204) (by decide +kernel)⟩
theorem lw_p77 : lw_okq (⟨"TripleSieveModel", "isWord", "(J)Z"⟩, 49) := ⟨⟨by decide +kernel, by decide +kernel⟩, List.mem_of_getElem? (i := 1020) (by decide +kernel), List.mem_of_getElem? (i := 1222) (by decide +kernel), List.mem_of_getElem? (i := 1223) (by decide +kernel)⟩
theorem lw_p78 : lw_okq (⟨"TripleSieveModel", "readSetting", "(I)Z"⟩, 49) := ⟨⟨by decide +kernel, by decide +kernel⟩, List.mem_of_getElem? (i := 1020) (by decide +kernel), List.mem_of_getElem? (i := 1226) (by decide +kernel), List.mem_of_getElem? (i := 1227) (by decide +kernel)⟩
theorem lw_p79 : lw_okq (⟨"TripleSieveModel", "wayHere", "()I"⟩, 49) := ⟨⟨by decide +kernel, by decide +kernel⟩, List.mem_of_getElem? (i := 1020) (by decide +kernel), List.mem_of_getElem? (i := 1230) (by decide +kernel), List.mem_of_getElem? (i := 1231) (by decide +kernel)⟩
def lw_privs_5 : List (MethodName × Nat) := [(⟨"TripleSieve$Sieve", "countBits", "()I"⟩, 4), (⟨"TripleSieve$Sieve", "length", "()I"⟩, 4), (⟨"TripleSieve$Sieve", "aim", "(LTripleSieve$Marks;)V"⟩, 4), (⟨"TripleSieve$Sieve", "letsThrough", "(LTripleSieve$Marks;)Z"⟩, 4), (⟨"TripleSieve$Marks", "sum", "([I)I"⟩, 8), (⟨"TripleSieve$Sieve", "copy", "(LTripleSieve$Sieve;)V"⟩, 4), (⟨"TripleSieve$Sieve", "countUnlike", "(LTripleSieve$Sieve;)I"⟩, 4), (⟨"TripleSieve$Acts", "undoLatest", "(LTripleSieve$Given;)V"⟩, 6), (⟨"java/lang/Throwable", "fillInStackTrace", "(I)Ljava/lang/Throwable;"⟩, 6), (⟨"TripleSieveModel", "lays", "(I)V"⟩, 49), (⟨"TripleSieveModel", "go", "()V"⟩, 49), (⟨"TripleSieveModel", "tapeAt", "(I)I"⟩, 49), (⟨"TripleSieveModel", "readWhole", "()Z"⟩, 49), (⟨"TripleSieveModel", "isWord", "(J)Z"⟩, 49), (⟨"TripleSieveModel", "readSetting", "(I)Z"⟩, 49), (⟨"TripleSieveModel", "wayHere", "()I"⟩, 49)]
theorem lw_r5 : ∀ q ∈ lw_privs_5, lw_okq q := List.forall_mem_cons.mpr ⟨lw_p64, List.forall_mem_cons.mpr ⟨lw_p65, List.forall_mem_cons.mpr ⟨lw_p66, List.forall_mem_cons.mpr ⟨lw_p67, List.forall_mem_cons.mpr ⟨lw_p68, List.forall_mem_cons.mpr ⟨lw_p69, List.forall_mem_cons.mpr ⟨lw_p70, List.forall_mem_cons.mpr ⟨lw_p71, List.forall_mem_cons.mpr ⟨lw_p72, List.forall_mem_cons.mpr ⟨lw_p73, List.forall_mem_cons.mpr ⟨lw_p74, List.forall_mem_cons.mpr ⟨lw_p75, List.forall_mem_cons.mpr ⟨lw_p76, List.forall_mem_cons.mpr ⟨lw_p77, List.forall_mem_cons.mpr ⟨lw_p78, List.forall_mem_cons.mpr ⟨lw_p79, fun _ h => absurd h List.not_mem_nil⟩⟩⟩⟩⟩⟩⟩⟩⟩⟩⟩⟩⟩⟩⟩⟩
theorem lw_p80 : lw_okq (⟨"TripleSieveModel", "spreadHere", "()I"⟩, 49) := ⟨⟨by decide +kernel, by decide +kernel⟩, List.mem_of_getElem? (i := 1020) (by decide +kernel), List.mem_of_getElem? (i := 1234) (by decide +kernel), List.mem_of_getElem? (i := 1235) (by decide +kernel)⟩
theorem lw_p81 : lw_okq (⟨"TripleSieveModel", "bad", "(I)Z"⟩, 49) := ⟨⟨by decide +kernel, by decide +kernel⟩, List.mem_of_getElem? (i := 1020) (by decide +kernel), List.mem_of_getElem? (i := 1239) (by decide +kernel), List.mem_of_getElem? (i := 1240) (by decide +kernel)⟩
theorem lw_p82 : lw_okq (⟨"TripleSieveModel", "readEnd", "()Z"⟩, 49) := ⟨⟨by decide +kernel, by decide +kernel⟩, List.mem_of_getElem? (i := 1020) (by decide +kernel), List.mem_of_getElem? (i := 1253) (by decide +kernel), List.mem_of_getElem? (i := 1254) (by decide +kernel)⟩
theorem lw_p83 : lw_okq (⟨"TripleSieveModel", "readKey", "()Z"⟩, 49) := ⟨⟨by decide +kernel, by decide +kernel⟩, List.mem_of_getElem? (i := 1020) (by decide +kernel), List.mem_of_getElem? (i := 1257) (by decide +kernel), List.mem_of_getElem? (i := 1258) (by decide +kernel)⟩
theorem lw_p84 : lw_okq (⟨"TripleSieveModel", "isKey", "(I)Z"⟩, 49) := ⟨⟨by decide +kernel, by decide +kernel⟩, List.mem_of_getElem? (i := 1020) (by decide +kernel), List.mem_of_getElem? (i := 1270) (by decide +kernel), List.mem_of_getElem? (i := 1271) (by decide +kernel)⟩
theorem lw_p85 : lw_okq (⟨"TripleSieveModel", "refuse", "()J"⟩, 49) := ⟨⟨by decide +kernel, by decide +kernel⟩, List.mem_of_getElem? (i := 1020) (by decide +kernel), List.mem_of_getElem? (i := 1274) (by decide +kernel), List.mem_of_getElem? (i := 1275) (by decide +kernel)⟩
theorem lw_p86 : lw_okq (⟨"TripleSieveModel", "isValue", "(I)Z"⟩, 49) := ⟨⟨by decide +kernel, by decide +kernel⟩, List.mem_of_getElem? (i := 1020) (by decide +kernel), List.mem_of_getElem? (i := 1286) (by decide +kernel), List.mem_of_getElem? (i := 1287) (by decide +kernel)⟩
theorem lw_p87 : lw_okq (⟨"TripleSieveModel", "indexOf", "(J)I"⟩, 49) := ⟨⟨by decide +kernel, by decide +kernel⟩, List.mem_of_getElem? (i := 1020) (by decide +kernel), List.mem_of_getElem? (i := 1290) (by decide +kernel), List.mem_of_getElem? (i := 1291) (by decide +kernel)⟩
theorem lw_p88 : lw_okq (⟨"TripleSieveModel", "snap", "()V"⟩, 49) := ⟨⟨by decide +kernel, by decide +kernel⟩, List.mem_of_getElem? (i := 1020) (by decide +kernel), List.mem_of_getElem? (i := 1294) (by decide +kernel), List.mem_of_getElem? (i := 1295) (by decide +kernel)⟩
theorem lw_p89 : lw_okq (⟨"TripleSieveModel", "lays3", "(JII)V"⟩, 49) := ⟨⟨by decide +kernel, by decide +kernel⟩, List.mem_of_getElem? (i := 1020) (by decide +kernel), List.mem_of_getElem? (i := 1326) (by decide +kernel), List.mem_of_getElem? (i := 1327) (by decide +kernel)⟩
theorem lw_p90 : lw_okq (⟨"TripleSieveModel", "netNow", "()V"⟩, 49) := ⟨⟨by decide +kernel, by decide +kernel⟩, List.mem_of_getElem? (i := 1020) (by decide +kernel), List.mem_of_getElem? (i := 1346) (by decide +kernel), List.mem_of_getElem? (i := 1347) (by decide +kernel)⟩
theorem lw_p91 : lw_okq (⟨"TripleSieveModel", "nets", "(IJI)V"⟩, 49) := ⟨⟨by decide +kernel, by decide +kernel⟩, List.mem_of_getElem? (i := 1020) (by decide +kernel), List.mem_of_getElem? (i := 1350) (by decide +kernel), List.mem_of_getElem? (i := 1351) (by decide +kernel)⟩
theorem lw_p92 : lw_okq (⟨"TripleSieveModel", "touchesBy", "(I)Z"⟩, 49) := ⟨⟨by decide +kernel, by decide +kernel⟩, List.mem_of_getElem? (i := 1020) (by decide +kernel), List.mem_of_getElem? (i := 1354) (by decide +kernel), List.mem_of_getElem? (i := 1355) (by decide +kernel)⟩
theorem lw_p93 : lw_okq (⟨"TripleSieveModel", "areTwins", "(II)Z"⟩, 49) := ⟨⟨by decide +kernel, by decide +kernel⟩, List.mem_of_getElem? (i := 1020) (by decide +kernel), List.mem_of_getElem? (i := 1362) (by decide +kernel), List.mem_of_getElem? (i := 1363) (by decide +kernel)⟩
theorem lw_p94 : lw_okq (⟨"TripleSieveModel", "isOf", "(II)Z"⟩, 49) := ⟨⟨by decide +kernel, by decide +kernel⟩, List.mem_of_getElem? (i := 1020) (by decide +kernel), List.mem_of_getElem? (i := 1366) (by decide +kernel), List.mem_of_getElem? (i := 1367) (by decide +kernel)⟩
theorem lw_p95 : lw_okq (⟨"TripleSieveModel", "peelNow", "()V"⟩, 49) := ⟨⟨by decide +kernel, by decide +kernel⟩, List.mem_of_getElem? (i := 1020) (by decide +kernel), List.mem_of_getElem? (i := 1374) (by decide +kernel), List.mem_of_getElem? (i := 1375) (by decide +kernel)⟩
def lw_privs_6 : List (MethodName × Nat) := [(⟨"TripleSieveModel", "spreadHere", "()I"⟩, 49), (⟨"TripleSieveModel", "bad", "(I)Z"⟩, 49), (⟨"TripleSieveModel", "readEnd", "()Z"⟩, 49), (⟨"TripleSieveModel", "readKey", "()Z"⟩, 49), (⟨"TripleSieveModel", "isKey", "(I)Z"⟩, 49), (⟨"TripleSieveModel", "refuse", "()J"⟩, 49), (⟨"TripleSieveModel", "isValue", "(I)Z"⟩, 49), (⟨"TripleSieveModel", "indexOf", "(J)I"⟩, 49), (⟨"TripleSieveModel", "snap", "()V"⟩, 49), (⟨"TripleSieveModel", "lays3", "(JII)V"⟩, 49), (⟨"TripleSieveModel", "netNow", "()V"⟩, 49), (⟨"TripleSieveModel", "nets", "(IJI)V"⟩, 49), (⟨"TripleSieveModel", "touchesBy", "(I)Z"⟩, 49), (⟨"TripleSieveModel", "areTwins", "(II)Z"⟩, 49), (⟨"TripleSieveModel", "isOf", "(II)Z"⟩, 49), (⟨"TripleSieveModel", "peelNow", "()V"⟩, 49)]
theorem lw_r6 : ∀ q ∈ lw_privs_6, lw_okq q := List.forall_mem_cons.mpr ⟨lw_p80, List.forall_mem_cons.mpr ⟨lw_p81, List.forall_mem_cons.mpr ⟨lw_p82, List.forall_mem_cons.mpr ⟨lw_p83, List.forall_mem_cons.mpr ⟨lw_p84, List.forall_mem_cons.mpr ⟨lw_p85, List.forall_mem_cons.mpr ⟨lw_p86, List.forall_mem_cons.mpr ⟨lw_p87, List.forall_mem_cons.mpr ⟨lw_p88, List.forall_mem_cons.mpr ⟨lw_p89, List.forall_mem_cons.mpr ⟨lw_p90, List.forall_mem_cons.mpr ⟨lw_p91, List.forall_mem_cons.mpr ⟨lw_p92, List.forall_mem_cons.mpr ⟨lw_p93, List.forall_mem_cons.mpr ⟨lw_p94, List.forall_mem_cons.mpr ⟨lw_p95, fun _ h => absurd h List.not_mem_nil⟩⟩⟩⟩⟩⟩⟩⟩⟩⟩⟩⟩⟩⟩⟩⟩
theorem lw_p96 : lw_okq (⟨"TripleSieveModel", "peelsBy", "(II)V"⟩, 49) := ⟨⟨by decide +kernel, by decide +kernel⟩, List.mem_of_getElem? (i := 1020) (by decide +kernel), List.mem_of_getElem? (i := 1378) (by decide +kernel), List.mem_of_getElem? (i := 1379) (by decide +kernel)⟩
theorem lw_p97 : lw_okq (⟨"TripleSieveModel", "comesBehind", "(I)V"⟩, 49) := ⟨⟨by decide +kernel, by decide +kernel⟩, List.mem_of_getElem? (i := 1020) (by decide +kernel), List.mem_of_getElem? (i := 1382) (by decide +kernel), List.mem_of_getElem? (i := 1383) (by decide +kernel)⟩
theorem lw_p98 : lw_okq (⟨"TripleSieveModel", "nextCell", "(II)I"⟩, 49) := ⟨⟨by decide +kernel, by decide +kernel⟩, List.mem_of_getElem? (i := 1020) (by decide +kernel), List.mem_of_getElem? (i := 1386) (by decide +kernel), List.mem_of_getElem? (i := 1387) (by decide +kernel)⟩
theorem lw_p99 : lw_okq (⟨"TripleSieveModel", "takesOut", "(I)V"⟩, 49) := ⟨⟨by decide +kernel, by decide +kernel⟩, List.mem_of_getElem? (i := 1020) (by decide +kernel), List.mem_of_getElem? (i := 1390) (by decide +kernel), List.mem_of_getElem? (i := 1391) (by decide +kernel)⟩
theorem lw_p100 : lw_okq (⟨"TripleSieveModel", "laysLevels", "()I"⟩, 49) := ⟨⟨by decide +kernel, by decide +kernel⟩, List.mem_of_getElem? (i := 1020) (by decide +kernel), List.mem_of_getElem? (i := 1402) (by decide +kernel), List.mem_of_getElem? (i := 1403) (by decide +kernel)⟩
theorem lw_p101 : lw_okq (⟨"TripleSieveModel", "findsOut", "(III)Z"⟩, 49) := ⟨⟨by decide +kernel, by decide +kernel⟩, List.mem_of_getElem? (i := 1020) (by decide +kernel), List.mem_of_getElem? (i := 1414) (by decide +kernel), List.mem_of_getElem? (i := 1415) (by decide +kernel)⟩
theorem lw_p102 : lw_okq (⟨"TripleSieveModel", "peelsAll", "(IJI)Z"⟩, 49) := ⟨⟨by decide +kernel, by decide +kernel⟩, List.mem_of_getElem? (i := 1020) (by decide +kernel), List.mem_of_getElem? (i := 1418) (by decide +kernel), List.mem_of_getElem? (i := 1419) (by decide +kernel)⟩
theorem lw_p103 : lw_okq (⟨"TripleSieveModel", "fills", "(J)V"⟩, 49) := ⟨⟨by decide +kernel, by decide +kernel⟩, List.mem_of_getElem? (i := 1020) (by decide +kernel), List.mem_of_getElem? (i := 1434) (by decide +kernel), List.mem_of_getElem? (i := 1435) (by decide +kernel)⟩
theorem lw_p104 : lw_okq (⟨"TripleSieveModel", "asks", "(J)Z"⟩, 49) := ⟨⟨by decide +kernel, by decide +kernel⟩, List.mem_of_getElem? (i := 1020) (by decide +kernel), List.mem_of_getElem? (i := 1454) (by decide +kernel), List.mem_of_getElem? (i := 1455) (by decide +kernel)⟩
theorem lw_p105 : lw_okq (⟨"TripleSieveModel", "copies", "(II)V"⟩, 49) := ⟨⟨by decide +kernel, by decide +kernel⟩, List.mem_of_getElem? (i := 1020) (by decide +kernel), List.mem_of_getElem? (i := 1474) (by decide +kernel), List.mem_of_getElem? (i := 1475) (by decide +kernel)⟩
theorem lw_p106 : lw_okq (⟨"TripleSieveModel", "emptyCells", "()I"⟩, 49) := ⟨⟨by decide +kernel, by decide +kernel⟩, List.mem_of_getElem? (i := 1020) (by decide +kernel), List.mem_of_getElem? (i := 1486) (by decide +kernel), List.mem_of_getElem? (i := 1487) (by decide +kernel)⟩
def lw_privs_7 : List (MethodName × Nat) := [(⟨"TripleSieveModel", "peelsBy", "(II)V"⟩, 49), (⟨"TripleSieveModel", "comesBehind", "(I)V"⟩, 49), (⟨"TripleSieveModel", "nextCell", "(II)I"⟩, 49), (⟨"TripleSieveModel", "takesOut", "(I)V"⟩, 49), (⟨"TripleSieveModel", "laysLevels", "()I"⟩, 49), (⟨"TripleSieveModel", "findsOut", "(III)Z"⟩, 49), (⟨"TripleSieveModel", "peelsAll", "(IJI)Z"⟩, 49), (⟨"TripleSieveModel", "fills", "(J)V"⟩, 49), (⟨"TripleSieveModel", "asks", "(J)Z"⟩, 49), (⟨"TripleSieveModel", "copies", "(II)V"⟩, 49), (⟨"TripleSieveModel", "emptyCells", "()I"⟩, 49)]
theorem lw_r7 : ∀ q ∈ lw_privs_7, lw_okq q := List.forall_mem_cons.mpr ⟨lw_p96, List.forall_mem_cons.mpr ⟨lw_p97, List.forall_mem_cons.mpr ⟨lw_p98, List.forall_mem_cons.mpr ⟨lw_p99, List.forall_mem_cons.mpr ⟨lw_p100, List.forall_mem_cons.mpr ⟨lw_p101, List.forall_mem_cons.mpr ⟨lw_p102, List.forall_mem_cons.mpr ⟨lw_p103, List.forall_mem_cons.mpr ⟨lw_p104, List.forall_mem_cons.mpr ⟨lw_p105, List.forall_mem_cons.mpr ⟨lw_p106, fun _ h => absurd h List.not_mem_nil⟩⟩⟩⟩⟩⟩⟩⟩⟩⟩⟩
def lw_privs : List (MethodName × Nat) := lw_privs_1 ++ (lw_privs_2 ++ (lw_privs_3 ++ (lw_privs_4 ++ (lw_privs_5 ++ (lw_privs_6 ++ (lw_privs_7))))))
def lw_tbl : List Cond := k2_sels lw_privs ++ tables_1
theorem lw_privs_ok : ∀ q ∈ lw_privs, lw_okq q := by
  show ∀ q ∈ lw_privs_1 ++ (lw_privs_2 ++ (lw_privs_3 ++ (lw_privs_4 ++ (lw_privs_5 ++ (lw_privs_6 ++ (lw_privs_7)))))), lw_okq q
  exact List.forall_mem_append.mpr ⟨lw_r1, List.forall_mem_append.mpr ⟨lw_r2, List.forall_mem_append.mpr ⟨lw_r3, List.forall_mem_append.mpr ⟨lw_r4, List.forall_mem_append.mpr ⟨lw_r5, List.forall_mem_append.mpr ⟨lw_r6, lw_r7⟩⟩⟩⟩⟩⟩
-- class tables (as the printed names have them)
def RX0 : String := "TripleSieve$Acts"
def TX0 : u_T := fun k => match k with
  | 0 => ("TripleSieve$Acts", "kinds", "[I", true)
  | 1 => ("TripleSieve$Acts", "places", "[I", true)
  | 2 => ("TripleSieve$Acts", "numbers", "[J", true)
  | 3 => ("TripleSieve$Acts", "values", "[I", true)
  | 4 => ("TripleSieve$Acts", "next", "I", false)
  | _ => ("TripleSieve$Acts", "size", "I", false)
def tyX0 : Nat → FieldType := fun k => match k with
  | 0 => .array .int
  | 1 => .array .int
  | 2 => .array .long
  | 3 => .array .int
  | 4 => .int
  | _ => .int
theorem nmX0 : ∀ a, a < 6 → ∀ b, b < 6 → a ≠ b → (TX0 a).2.1 ≠ (TX0 b).2.1 := by decide +kernel
theorem tyX0_ok : ∀ k, k < 6 → parseFieldDescriptor (TX0 k).2.2.1 = some (tyX0 k) := by decide +kernel
def RX1 : String := "TripleSieve$Basis"
def TX1 : u_T := fun k => match k with
  | 0 => ("TripleSieve$Basis", "lows", "[J", true)
  | 1 => ("TripleSieve$Basis", "highs", "[J", true)
  | _ => ("TripleSieve$Basis", "size", "I", false)
def tyX1 : Nat → FieldType := fun k => match k with
  | 0 => .array .long
  | 1 => .array .long
  | _ => .int
theorem nmX1 : ∀ a, a < 3 → ∀ b, b < 3 → a ≠ b → (TX1 a).2.1 ≠ (TX1 b).2.1 := by decide +kernel
theorem tyX1_ok : ∀ k, k < 3 → parseFieldDescriptor (TX1 k).2.2.1 = some (tyX1 k) := by decide +kernel
def RX2 : String := "TripleSieve$Given"
def TX2 : u_T := fun k => match k with
  | 0 => ("TripleSieve$Given", "numbers", "[J", true)
  | 1 => ("TripleSieve$Given", "values", "[I", true)
  | 2 => ("TripleSieve$Given", "settings", "[I", true)
  | 3 => ("TripleSieve$Given", "size", "I", false)
  | _ => ("TripleSieve$Given", "changes", "I", false)
def tyX2 : Nat → FieldType := fun k => match k with
  | 0 => .array .long
  | 1 => .array .int
  | 2 => .array .int
  | 3 => .int
  | _ => .int
theorem nmX2 : ∀ a, a < 5 → ∀ b, b < 5 → a ≠ b → (TX2 a).2.1 ≠ (TX2 b).2.1 := by decide +kernel
theorem tyX2_ok : ∀ k, k < 5 → parseFieldDescriptor (TX2 k).2.2.1 = some (tyX2 k) := by decide +kernel
def RX3 : String := "TripleSieve$Marks"
def TX3 : u_T := fun k => match k with
  | 0 => ("TripleSieve$Marks", "three", "[I", true)
  | 1 => ("TripleSieve$Marks", "touched", "[I", true)
  | 2 => ("TripleSieve$Marks", "touches", "I", false)
  | 3 => ("TripleSieve$Marks", "print", "I", false)
  | 4 => ("TripleSieve$Marks", "seedMix", "J", false)
  | 5 => ("TripleSieve$Marks", "cells", "I", false)
  | 6 => ("TripleSieve$Marks", "printMask", "I", false)
  | _ => ("TripleSieve$Marks", "spread", "I", false)
def tyX3 : Nat → FieldType := fun k => match k with
  | 0 => .array .int
  | 1 => .array .int
  | 2 => .int
  | 3 => .int
  | 4 => .long
  | 5 => .int
  | 6 => .int
  | _ => .int
theorem nmX3 : ∀ a, a < 8 → ∀ b, b < 8 → a ≠ b → (TX3 a).2.1 ≠ (TX3 b).2.1 := by decide +kernel
theorem tyX3_ok : ∀ k, k < 8 → parseFieldDescriptor (TX3 k).2.2.1 = some (tyX3 k) := by decide +kernel
def RX4 : String := "TripleSieve$Mender"
def TX4 : u_T := fun k => match k with
  | 0 => ("TripleSieve$Mender", "chosen", "[I", true)
  | 1 => ("TripleSieve$Mender", "fewest", "I", false)
  | 2 => ("TripleSieve$Mender", "changes", "I", false)
  | 3 => ("TripleSieve$Mender", "trail", "[I", true)
  | 4 => ("TripleSieve$Mender", "trailSize", "I", false)
  | 5 => ("TripleSieve$Mender", "line", "[I", true)
  | _ => ("TripleSieve$Mender", "lineSize", "I", false)
def tyX4 : Nat → FieldType := fun k => match k with
  | 0 => .array .int
  | 1 => .int
  | 2 => .int
  | 3 => .array .int
  | 4 => .int
  | 5 => .array .int
  | _ => .int
theorem nmX4 : ∀ a, a < 7 → ∀ b, b < 7 → a ≠ b → (TX4 a).2.1 ≠ (TX4 b).2.1 := by decide +kernel
theorem tyX4_ok : ∀ k, k < 7 → parseFieldDescriptor (TX4 k).2.2.1 = some (tyX4 k) := by decide +kernel
def RX5 : String := "TripleSieve$Peeling"
def TX5 : u_T := fun k => match k with
  | 0 => ("TripleSieve$Peeling", "keyOf", "[I", true)
  | 1 => ("TripleSieve$Peeling", "cellOf", "[I", true)
  | 2 => ("TripleSieve$Peeling", "peeled", "I", false)
  | 3 => ("TripleSieve$Peeling", "line", "[I", true)
  | 4 => ("TripleSieve$Peeling", "head", "I", false)
  | 5 => ("TripleSieve$Peeling", "tail", "I", false)
  | 6 => ("TripleSieve$Peeling", "goals", "[I", true)
  | _ => ("TripleSieve$Peeling", "woken", "[I", true)
def tyX5 : Nat → FieldType := fun k => match k with
  | 0 => .array .int
  | 1 => .array .int
  | 2 => .int
  | 3 => .array .int
  | 4 => .int
  | 5 => .int
  | 6 => .array .int
  | _ => .array .int
theorem nmX5 : ∀ a, a < 8 → ∀ b, b < 8 → a ≠ b → (TX5 a).2.1 ≠ (TX5 b).2.1 := by decide +kernel
theorem tyX5_ok : ∀ k, k < 8 → parseFieldDescriptor (TX5 k).2.2.1 = some (tyX5 k) := by decide +kernel
def RX6 : String := "TripleSieve$Reader"
def TX6 : u_T := fun k => match k with
  | _ => ("TripleSieve$Reader", "fault", "I", false)
def tyX6 : Nat → FieldType := fun k => match k with
  | _ => .int
theorem nmX6 : ∀ a, a < 1 → ∀ b, b < 1 → a ≠ b → (TX6 a).2.1 ≠ (TX6 b).2.1 := by decide +kernel
theorem tyX6_ok : ∀ k, k < 1 → parseFieldDescriptor (TX6 k).2.2.1 = some (tyX6 k) := by decide +kernel
def RX7 : String := "TripleSieve$Rounds"
def TX7 : u_T := fun k => match k with
  | _ => ("TripleSieve$Rounds", "levels", "[I", true)
def tyX7 : Nat → FieldType := fun k => match k with
  | _ => .array .int
theorem nmX7 : ∀ a, a < 1 → ∀ b, b < 1 → a ≠ b → (TX7 a).2.1 ≠ (TX7 b).2.1 := by decide +kernel
theorem tyX7_ok : ∀ k, k < 1 → parseFieldDescriptor (TX7 k).2.2.1 = some (tyX7 k) := by decide +kernel
def RX8 : String := "TripleSieve$Row"
def TX8 : u_T := fun k => match k with
  | 0 => ("TripleSieve$Row", "touched", "[I", true)
  | 1 => ("TripleSieve$Row", "touches", "[I", true)
  | 2 => ("TripleSieve$Row", "prints", "[I", true)
  | 3 => ("TripleSieve$Row", "off", "[Z", true)
  | 4 => ("TripleSieve$Row", "loads", "[I", true)
  | 5 => ("TripleSieve$Row", "mixes", "[I", true)
  | 6 => ("TripleSieve$Row", "keys", "I", false)
  | 7 => ("TripleSieve$Row", "left", "I", false)
  | _ => ("TripleSieve$Row", "cells", "I", false)
def tyX8 : Nat → FieldType := fun k => match k with
  | 0 => .array .int
  | 1 => .array .int
  | 2 => .array .int
  | 3 => .array .boolean
  | 4 => .array .int
  | 5 => .array .int
  | 6 => .int
  | 7 => .int
  | _ => .int
theorem nmX8 : ∀ a, a < 9 → ∀ b, b < 9 → a ≠ b → (TX8 a).2.1 ≠ (TX8 b).2.1 := by decide +kernel
theorem tyX8_ok : ∀ k, k < 9 → parseFieldDescriptor (TX8 k).2.2.1 = some (tyX8 k) := by decide +kernel
def RX9 : String := "TripleSieve$Sieve"
def TX9 : u_T := fun k => match k with
  | 0 => ("TripleSieve$Sieve", "facts", "[I", true)
  | 1 => ("TripleSieve$Sieve", "prints", "[I", true)
  | 2 => ("TripleSieve$Sieve", "values", "[I", true)
  | _ => ("TripleSieve$Sieve", "stands", "Z", false)
def tyX9 : Nat → FieldType := fun k => match k with
  | 0 => .array .int
  | 1 => .array .int
  | 2 => .array .int
  | _ => .boolean
theorem nmX9 : ∀ a, a < 4 → ∀ b, b < 4 → a ≠ b → (TX9 a).2.1 ≠ (TX9 b).2.1 := by decide +kernel
theorem tyX9_ok : ∀ k, k < 4 → parseFieldDescriptor (TX9 k).2.2.1 = some (tyX9 k) := by decide +kernel
def RX10 : String := "TripleSieve$Tape"
def TX10 : u_T := fun k => match k with
  | 0 => ("TripleSieve$Tape", "bytes", "[B", true)
  | 1 => ("TripleSieve$Tape", "length", "I", false)
  | 2 => ("TripleSieve$Tape", "kind", "I", false)
  | 3 => ("TripleSieve$Tape", "start", "I", false)
  | 4 => ("TripleSieve$Tape", "behind", "I", false)
  | _ => ("TripleSieve$Tape", "number", "I", false)
def tyX10 : Nat → FieldType := fun k => match k with
  | 0 => .array .byte
  | 1 => .int
  | 2 => .int
  | 3 => .int
  | 4 => .int
  | _ => .int
theorem nmX10 : ∀ a, a < 6 → ∀ b, b < 6 → a ≠ b → (TX10 a).2.1 ≠ (TX10 b).2.1 := by decide +kernel
theorem tyX10_ok : ∀ k, k < 6 → parseFieldDescriptor (TX10 k).2.2.1 = some (tyX10 k) := by decide +kernel
def RX11 : String := "TripleSieve"
def TX11 : u_T := fun k => match k with
  | 0 => ("TripleSieve", "tape", "LTripleSieve$Tape;", true)
  | 1 => ("TripleSieve", "reader", "LTripleSieve$Reader;", true)
  | 2 => ("TripleSieve", "given", "LTripleSieve$Given;", true)
  | 3 => ("TripleSieve", "draft", "LTripleSieve$Given;", true)
  | 4 => ("TripleSieve", "acts", "LTripleSieve$Acts;", true)
  | 5 => ("TripleSieve", "marks", "LTripleSieve$Marks;", true)
  | 6 => ("TripleSieve", "row", "LTripleSieve$Row;", true)
  | 7 => ("TripleSieve", "peeling", "LTripleSieve$Peeling;", true)
  | 8 => ("TripleSieve", "rounds", "LTripleSieve$Rounds;", true)
  | 9 => ("TripleSieve", "basis", "LTripleSieve$Basis;", true)
  | 10 => ("TripleSieve", "mender", "LTripleSieve$Mender;", true)
  | 11 => ("TripleSieve", "sieve", "LTripleSieve$Sieve;", true)
  | _ => ("TripleSieve", "shelves", "[LTripleSieve$Sieve;", true)
def tyX11 : Nat → FieldType := fun k => match k with
  | 0 => .object "TripleSieve$Tape"
  | 1 => .object "TripleSieve$Reader"
  | 2 => .object "TripleSieve$Given"
  | 3 => .object "TripleSieve$Given"
  | 4 => .object "TripleSieve$Acts"
  | 5 => .object "TripleSieve$Marks"
  | 6 => .object "TripleSieve$Row"
  | 7 => .object "TripleSieve$Peeling"
  | 8 => .object "TripleSieve$Rounds"
  | 9 => .object "TripleSieve$Basis"
  | 10 => .object "TripleSieve$Mender"
  | 11 => .object "TripleSieve$Sieve"
  | _ => .array (.object "TripleSieve$Sieve")
theorem nmX11 : ∀ a, a < 13 → ∀ b, b < 13 → a ≠ b → (TX11 a).2.1 ≠ (TX11 b).2.1 := by decide +kernel
theorem tyX11_ok : ∀ k, k < 13 → parseFieldDescriptor (TX11 k).2.2.1 = some (tyX11 k) := by decide +kernel
def RX12 : String := "TripleSieveModel"
def TX12 : u_T := fun k => match k with
  | 0 => ("TripleSieveModel", "thrown", "I", false)
  | 1 => ("TripleSieveModel", "tape", "[I", true)
  | 2 => ("TripleSieveModel", "taped", "I", false)
  | 3 => ("TripleSieveModel", "size", "I", false)
  | 4 => ("TripleSieveModel", "to", "I", false)
  | 5 => ("TripleSieveModel", "from", "I", false)
  | 6 => ("TripleSieveModel", "sort", "I", false)
  | 7 => ("TripleSieveModel", "number", "I", false)
  | 8 => ("TripleSieveModel", "fault", "I", false)
  | 9 => ("TripleSieveModel", "place", "I", false)
  | 10 => ("TripleSieveModel", "word", "J", false)
  | 11 => ("TripleSieveModel", "keys", "[J", true)
  | 12 => ("TripleSieveModel", "readKeys", "[J", true)
  | 13 => ("TripleSieveModel", "keptKeys", "[J", true)
  | 14 => ("TripleSieveModel", "values", "[I", true)
  | 15 => ("TripleSieveModel", "readValues", "[I", true)
  | 16 => ("TripleSieveModel", "keptValues", "[I", true)
  | 17 => ("TripleSieveModel", "settings", "[I", true)
  | 18 => ("TripleSieveModel", "readSettings", "[I", true)
  | 19 => ("TripleSieveModel", "keptSettings", "[I", true)
  | 20 => ("TripleSieveModel", "keptMany", "[I", true)
  | 21 => ("TripleSieveModel", "many", "I", false)
  | 22 => ("TripleSieveModel", "readMany", "I", false)
  | 23 => ("TripleSieveModel", "kept", "I", false)
  | 24 => ("TripleSieveModel", "cells3", "[I", true)
  | 25 => ("TripleSieveModel", "touched", "[I", true)
  | 26 => ("TripleSieveModel", "touchMany", "[I", true)
  | 27 => ("TripleSieveModel", "loads", "[I", true)
  | 28 => ("TripleSieveModel", "sums", "[I", true)
  | 29 => ("TripleSieveModel", "isLeft", "[Z", true)
  | 30 => ("TripleSieveModel", "leftMany", "I", false)
  | 31 => ("TripleSieveModel", "out", "[I", true)
  | 32 => ("TripleSieveModel", "line", "[I", true)
  | 33 => ("TripleSieveModel", "peeledKey", "[I", true)
  | 34 => ("TripleSieveModel", "peeledBy", "[I", true)
  | 35 => ("TripleSieveModel", "lineFrom", "I", false)
  | 36 => ("TripleSieveModel", "lineTo", "I", false)
  | 37 => ("TripleSieveModel", "peeled", "I", false)
  | 38 => ("TripleSieveModel", "levels", "[I", true)
  | 39 => ("TripleSieveModel", "low", "[J", true)
  | 40 => ("TripleSieveModel", "high", "[J", true)
  | 41 => ("TripleSieveModel", "fillPrint", "[I", true)
  | 42 => ("TripleSieveModel", "fillValue", "[I", true)
  | 43 => ("TripleSieveModel", "fillOther", "[I", true)
  | 44 => ("TripleSieveModel", "sieves", "[I", true)
  | 45 => ("TripleSieveModel", "sievePrint", "[I", true)
  | 46 => ("TripleSieveModel", "sieveValue", "[I", true)
  | 47 => ("TripleSieveModel", "isThere", "[Z", true)
  | _ => ("TripleSieveModel", "answer", "I", false)
def tyX12 : Nat → FieldType := fun k => match k with
  | 0 => .int
  | 1 => .array .int
  | 2 => .int
  | 3 => .int
  | 4 => .int
  | 5 => .int
  | 6 => .int
  | 7 => .int
  | 8 => .int
  | 9 => .int
  | 10 => .long
  | 11 => .array .long
  | 12 => .array .long
  | 13 => .array .long
  | 14 => .array .int
  | 15 => .array .int
  | 16 => .array .int
  | 17 => .array .int
  | 18 => .array .int
  | 19 => .array .int
  | 20 => .array .int
  | 21 => .int
  | 22 => .int
  | 23 => .int
  | 24 => .array .int
  | 25 => .array .int
  | 26 => .array .int
  | 27 => .array .int
  | 28 => .array .int
  | 29 => .array .boolean
  | 30 => .int
  | 31 => .array .int
  | 32 => .array .int
  | 33 => .array .int
  | 34 => .array .int
  | 35 => .int
  | 36 => .int
  | 37 => .int
  | 38 => .array .int
  | 39 => .array .long
  | 40 => .array .long
  | 41 => .array .int
  | 42 => .array .int
  | 43 => .array .int
  | 44 => .array .int
  | 45 => .array .int
  | 46 => .array .int
  | 47 => .array .boolean
  | _ => .int
theorem nmX12 : ∀ a, a < 49 → ∀ b, b < 49 → a ≠ b → (TX12 a).2.1 ≠ (TX12 b).2.1 := by decide +kernel
theorem tyX12_ok : ∀ k, k < 49 → parseFieldDescriptor (TX12 k).2.2.1 = some (tyX12 k) := by decide +kernel
abbrev vwCl : List vw_C := [(RX0, TX0, 6), (RX1, TX1, 3), (RX2, TX2, 5), (RX3, TX3, 8), (RX4, TX4, 7), (RX5, TX5, 8), (RX6, TX6, 1), (RX7, TX7, 1), (RX8, TX8, 9), (RX9, TX9, 4), (RX10, TX10, 6), (RX11, TX11, 13), (RX12, TX12, 49)]
abbrev am_I : Type := Nat × Instr × Nat × Instr
abbrev am_MI : Type := MethodName × ByteArray × Nat × Option FieldType × Nat
def am_cn : List String := ["TripleSieve$Acts", "TripleSieve$Basis", "TripleSieve$Given", "TripleSieve$Marks", "TripleSieve$Mender", "TripleSieve$Peeling", "TripleSieve$Reader", "TripleSieve$Rounds", "TripleSieve$Row", "TripleSieve$Sieve", "TripleSieve$Tape", "TripleSieve", "TripleSieveModel", "TripleSieveLaw", "java/util/Arrays", "java/lang/Math", "java/lang/String"]
/-- the cells: an object (its class, its fields: 0 int, 1 long, 2 the cell at a place, 3 boolean), or an array (100 int, 101 boolean, 102 byte, 103 long, 104 of sieves) -/
def am_layL : List (Nat × List (Nat × Nat)) := [
  (11, [(2, 1), (2, 3), (2, 4), (2, 8), (2, 12), (2, 17), (2, 20), (2, 27), (2, 33), (2, 35), (2, 38), (2, 42), (2, 54)]), 
  (10, [(2, 2), (0, 1101), (0, 1102), (0, 1103), (0, 1104), (0, 1105)]), 
  (102, [(600, 0)]), 
  (6, [(0, 1300)]), 
  (2, [(2, 5), (2, 6), (2, 7), (0, 1403), (0, 1404)]), 
  (103, [(48, 0)]), 
  (100, [(48, 0)]), 
  (100, [(7, 0)]), 
  (2, [(2, 9), (2, 10), (2, 11), (0, 1803), (0, 1804)]), 
  (103, [(48, 0)]), 
  (100, [(48, 0)]), 
  (100, [(7, 0)]), 
  (0, [(2, 13), (2, 14), (2, 15), (2, 16), (0, 2204), (0, 2205)]), 
  (100, [(12, 0)]), 
  (100, [(12, 0)]), 
  (103, [(12, 0)]), 
  (100, [(12, 0)]), 
  (3, [(2, 18), (2, 19), (0, 2702), (0, 2703), (1, 2704), (0, 2705), (0, 2706), (0, 2707)]), 
  (100, [(3, 0)]), 
  (100, [(3, 0)]), 
  (8, [(2, 21), (2, 22), (2, 23), (2, 24), (2, 25), (2, 26), (0, 3006), (0, 3007), (0, 3008)]), 
  (100, [(144, 0)]), 
  (100, [(48, 0)]), 
  (100, [(48, 0)]), 
  (101, [(48, 0)]), 
  (100, [(96, 0)]), 
  (100, [(96, 0)]), 
  (5, [(2, 28), (2, 29), (0, 3702), (2, 30), (0, 3704), (0, 3705), (2, 31), (2, 32)]), 
  (100, [(48, 0)]), 
  (100, [(48, 0)]), 
  (100, [(96, 0)]), 
  (100, [(48, 0)]), 
  (100, [(96, 0)]), 
  (7, [(2, 34)]), 
  (100, [(48, 0)]), 
  (1, [(2, 36), (2, 37), (0, 4502)]), 
  (103, [(48, 0)]), 
  (103, [(48, 0)]), 
  (4, [(2, 39), (0, 4801), (0, 4802), (2, 40), (0, 4804), (2, 41), (0, 4806)]), 
  (100, [(3, 0)]), 
  (100, [(48, 0)]), 
  (100, [(96, 0)]), 
  (9, [(2, 43), (2, 44), (2, 45), (3, 5203)]), 
  (100, [(7, 0)]), 
  (100, [(96, 0)]), 
  (100, [(96, 0)]), 
  (9, [(2, 47), (2, 48), (2, 49), (3, 5603)]), 
  (100, [(7, 0)]), 
  (100, [(96, 0)]), 
  (100, [(96, 0)]), 
  (9, [(2, 51), (2, 52), (2, 53), (3, 6003)]), 
  (100, [(7, 0)]), 
  (100, [(96, 0)]), 
  (100, [(96, 0)]), 
  (104, [(46, 0), (50, 0)]), 
  (12, [(0, 6500), (2, 56), (0, 6502), (0, 6503), (0, 6504), (0, 6505), (0, 6506), (0, 6507), (0, 6508), (0, 6509), (1, 6510), (2, 57), (2, 58), (2, 59), (2, 60), (2, 61), (2, 62), (2, 63), (2, 64), (2, 65), (2, 66), (0, 6521), (0, 6522), (0, 6523), (2, 67), (2, 68), (2, 69), (2, 70), (2, 71), (2, 72), (0, 6530), (2, 73), (2, 74), (2, 75), (2, 76), (0, 6535), (0, 6536), (0, 6537), (2, 77), (2, 78), (2, 79), (2, 80), (2, 81), (2, 82), (2, 83), (2, 84), (2, 85), (2, 86), (0, 6548)]), 
  (100, [(600, 0)]), 
  (103, [(48, 0)]), 
  (103, [(48, 0)]), 
  (103, [(576, 0)]), 
  (100, [(48, 0)]), 
  (100, [(48, 0)]), 
  (100, [(576, 0)]), 
  (100, [(7, 0)]), 
  (100, [(7, 0)]), 
  (100, [(84, 0)]), 
  (100, [(12, 0)]), 
  (100, [(3, 0)]), 
  (100, [(144, 0)]), 
  (100, [(48, 0)]), 
  (100, [(96, 0)]), 
  (100, [(96, 0)]), 
  (101, [(48, 0)]), 
  (100, [(3, 0)]), 
  (100, [(512, 0)]), 
  (100, [(48, 0)]), 
  (100, [(48, 0)]), 
  (100, [(48, 0)]), 
  (103, [(96, 0)]), 
  (103, [(96, 0)]), 
  (100, [(96, 0)]), 
  (100, [(96, 0)]), 
  (100, [(96, 0)]), 
  (100, [(21, 0)]), 
  (100, [(288, 0)]), 
  (100, [(288, 0)]), 
  (101, [(3, 0)]), 
  (103, [(1, 0)])]
def am_N : Nat := 88
def mi_Acts_forget : am_MI := (⟨"TripleSieve$Acts", "forget", "()V"⟩, prog_2_method_2_code, 1, none, 0)
def mi_Acts_note : am_MI := (⟨"TripleSieve$Acts", "note", "(IIJI)V"⟩, prog_2_method_3_code, 6, none, 0)
def mi_Acts_undoLatest : am_MI := (⟨"TripleSieve$Acts", "undoLatest", "(LTripleSieve$Given;)V"⟩, prog_2_method_4_code, 2, none, 0)
def mi_Basis_independent : am_MI := (⟨"TripleSieve$Basis", "independent", "(LTripleSieve$Row;)I"⟩, prog_3_method_2_code, 9, (some .int), 1)
def mi_Basis_join : am_MI := (⟨"TripleSieve$Basis", "join", "(JJ)V"⟩, prog_3_method_3_code, 10, none, 1)
def mi_Given_reset : am_MI := (⟨"TripleSieve$Given", "reset", "()V"⟩, prog_4_method_2_code, 1, none, 2)
def mi_Given_copy : am_MI := (⟨"TripleSieve$Given", "copy", "(LTripleSieve$Given;)V"⟩, prog_4_method_3_code, 2, none, 2)
def mi_Given_has : am_MI := (⟨"TripleSieve$Given", "has", "(I)Z"⟩, prog_4_method_4_code, 2, (some .boolean), 2)
def mi_Given_find : am_MI := (⟨"TripleSieve$Given", "find", "(J)I"⟩, prog_4_method_5_code, 4, (some .int), 2)
def mi_Given_insert : am_MI := (⟨"TripleSieve$Given", "insert", "(IJI)V"⟩, prog_4_method_6_code, 5, none, 2)
def mi_Given_drop : am_MI := (⟨"TripleSieve$Given", "drop", "(I)V"⟩, prog_4_method_7_code, 2, none, 2)
def mi_Given_revalue : am_MI := (⟨"TripleSieve$Given", "revalue", "(II)V"⟩, prog_4_method_8_code, 3, none, 2)
def mi_Given_resettle : am_MI := (⟨"TripleSieve$Given", "resettle", "(II)V"⟩, prog_4_method_9_code, 3, none, 2)
def mi_Given_canBeValue : am_MI := (⟨"TripleSieve$Given", "canBeValue", "(I)Z"⟩, prog_4_method_10_code, 2, (some .boolean), 2)
def mi_Given_fitsBits : am_MI := (⟨"TripleSieve$Given", "fitsBits", "(I)Z"⟩, prog_4_method_11_code, 3, (some .boolean), 2)
def mi_Given_canBeSetting : am_MI := (⟨"TripleSieve$Given", "canBeSetting", "(II)Z"⟩, prog_4_method_12_code, 2, (some .boolean), 2)
def mi_Marks_mix : am_MI := (⟨"TripleSieve$Marks", "mix", "(J)J"⟩, prog_5_method_2_code, 6, (some .long), 3)
def mi_Marks_aim : am_MI := (⟨"TripleSieve$Marks", "aim", "(IIII)V"⟩, prog_5_method_3_code, 5, none, 3)
def mi_Marks_look : am_MI := (⟨"TripleSieve$Marks", "look", "(J)V"⟩, prog_5_method_4_code, 5, none, 3)
def mi_Marks_placeApart : am_MI := (⟨"TripleSieve$Marks", "placeApart", "(J)V"⟩, prog_5_method_5_code, 4, none, 3)
def mi_Marks_placeClose : am_MI := (⟨"TripleSieve$Marks", "placeClose", "(J)V"⟩, prog_5_method_6_code, 6, none, 3)
def mi_Marks_placeFree : am_MI := (⟨"TripleSieve$Marks", "placeFree", "(J)V"⟩, prog_5_method_7_code, 4, none, 3)
def mi_Marks_share : am_MI := (⟨"TripleSieve$Marks", "share", "(JII)I"⟩, prog_5_method_8_code, 5, (some .int), 3)
def mi_Marks_gatherTouched : am_MI := (⟨"TripleSieve$Marks", "gatherTouched", "()V"⟩, prog_5_method_9_code, 4, none, 3)
def mi_Marks_touchOnly : am_MI := (⟨"TripleSieve$Marks", "touchOnly", "(I)V"⟩, prog_5_method_10_code, 2, none, 3)
def mi_Marks_sum : am_MI := (⟨"TripleSieve$Marks", "sum", "([I)I"⟩, prog_5_method_11_code, 4, (some .int), 3)
def mi_Mender_search : am_MI := (⟨"TripleSieve$Mender", "search", "(LTripleSieve$Row;)V"⟩, prog_6_method_2_code, 3, none, 4)
def mi_Mender_choose : am_MI := (⟨"TripleSieve$Mender", "choose", "(LTripleSieve$Row;III)Z"⟩, prog_6_method_3_code, 7, (some .boolean), 4)
def mi_Mender_leaveOut : am_MI := (⟨"TripleSieve$Mender", "leaveOut", "(LTripleSieve$Row;I)V"⟩, prog_6_method_4_code, 5, none, 4)
def mi_Mender_take : am_MI := (⟨"TripleSieve$Mender", "take", "(LTripleSieve$Row;I)V"⟩, prog_6_method_5_code, 4, none, 4)
def mi_Mender_bringBack : am_MI := (⟨"TripleSieve$Mender", "bringBack", "(LTripleSieve$Row;I)V"⟩, prog_6_method_6_code, 3, none, 4)
def mi_Peeling_run : am_MI := (⟨"TripleSieve$Peeling", "run", "(LTripleSieve$Row;I)V"⟩, prog_7_method_2_code, 3, none, 5)
def mi_Peeling_runLine : am_MI := (⟨"TripleSieve$Peeling", "runLine", "(LTripleSieve$Row;Z)V"⟩, prog_7_method_3_code, 7, none, 5)
def mi_Peeling_lineUp : am_MI := (⟨"TripleSieve$Peeling", "lineUp", "(LTripleSieve$Row;I)V"⟩, prog_7_method_4_code, 3, none, 5)
def mi_Peeling_leaveLine : am_MI := (⟨"TripleSieve$Peeling", "leaveLine", "(Z)I"⟩, prog_7_method_5_code, 2, (some .int), 5)
def mi_Peeling_runLeast : am_MI := (⟨"TripleSieve$Peeling", "runLeast", "(LTripleSieve$Row;)V"⟩, prog_7_method_6_code, 5, none, 5)
def mi_Peeling_goOut : am_MI := (⟨"TripleSieve$Peeling", "goOut", "(LTripleSieve$Row;II)V"⟩, prog_7_method_7_code, 4, none, 5)
def mi_Peeling_fillBack : am_MI := (⟨"TripleSieve$Peeling", "fillBack", "(LTripleSieve$Row;[I[I)V"⟩, prog_7_method_8_code, 8, none, 5)
def mi_Peeling_countWoken : am_MI := (⟨"TripleSieve$Peeling", "countWoken", "(LTripleSieve$Row;I)I"⟩, prog_7_method_9_code, 5, (some .int), 5)
def mi_Reader_read : am_MI := (⟨"TripleSieve$Reader", "read", "(LTripleSieve$Tape;LTripleSieve$Given;)I"⟩, prog_8_method_2_code, 4, (some .int), 6)
def mi_Reader_readSetting : am_MI := (⟨"TripleSieve$Reader", "readSetting", "(LTripleSieve$Tape;LTripleSieve$Given;I)V"⟩, prog_8_method_3_code, 5, none, 6)
def mi_Reader_readKey : am_MI := (⟨"TripleSieve$Reader", "readKey", "(LTripleSieve$Tape;LTripleSieve$Given;)V"⟩, prog_8_method_4_code, 5, none, 6)
def mi_Reader_takeValue : am_MI := (⟨"TripleSieve$Reader", "takeValue", "(LTripleSieve$Tape;LTripleSieve$Given;)I"⟩, prog_8_method_5_code, 3, (some .int), 6)
def mi_Reader_takeNumber : am_MI := (⟨"TripleSieve$Reader", "takeNumber", "(LTripleSieve$Tape;II)I"⟩, prog_8_method_6_code, 5, (some .int), 6)
def mi_Reader_takeChoice : am_MI := (⟨"TripleSieve$Reader", "takeChoice", "(LTripleSieve$Tape;I)I"⟩, prog_8_method_7_code, 4, (some .int), 6)
def mi_Reader_passStop : am_MI := (⟨"TripleSieve$Reader", "passStop", "(LTripleSieve$Tape;)V"⟩, prog_8_method_8_code, 2, none, 6)
def mi_Reader_fail : am_MI := (⟨"TripleSieve$Reader", "fail", "(LTripleSieve$Tape;I)V"⟩, prog_8_method_9_code, 3, none, 6)
def mi_Reader_nameOf : am_MI := (⟨"TripleSieve$Reader", "nameOf", "(I)Ljava/lang/String;"⟩, prog_8_method_10_code, 1, (some (.object "java/lang/String")), 6)
def mi_Reader_choiceOf : am_MI := (⟨"TripleSieve$Reader", "choiceOf", "(II)Ljava/lang/String;"⟩, prog_8_method_11_code, 2, (some (.object "java/lang/String")), 6)
def mi_Rounds_run : am_MI := (⟨"TripleSieve$Rounds", "run", "(LTripleSieve$Row;)I"⟩, prog_9_method_2_code, 3, (some .int), 7)
def mi_Rounds_mark : am_MI := (⟨"TripleSieve$Rounds", "mark", "(LTripleSieve$Row;I)Z"⟩, prog_9_method_3_code, 6, (some .boolean), 7)
def mi_Rounds_takeMarked : am_MI := (⟨"TripleSieve$Rounds", "takeMarked", "(LTripleSieve$Row;I)V"⟩, prog_9_method_4_code, 4, none, 7)
def mi_Row_lay : am_MI := (⟨"TripleSieve$Row", "lay", "(LTripleSieve$Given;LTripleSieve$Marks;II)V"⟩, prog_10_method_2_code, 7, none, 8)
def mi_Row_putBack : am_MI := (⟨"TripleSieve$Row", "putBack", "(I)V"⟩, prog_10_method_3_code, 3, none, 8)
def mi_Row_takeOff : am_MI := (⟨"TripleSieve$Row", "takeOff", "(I)V"⟩, prog_10_method_4_code, 3, none, 8)
def mi_Row_loneKey : am_MI := (⟨"TripleSieve$Row", "loneKey", "(I)I"⟩, prog_10_method_5_code, 3, (some .int), 8)
def mi_Row_isAlone : am_MI := (⟨"TripleSieve$Row", "isAlone", "(I)Z"⟩, prog_10_method_6_code, 2, (some .boolean), 8)
def mi_Row_countTouched : am_MI := (⟨"TripleSieve$Row", "countTouched", "()I"⟩, prog_10_method_7_code, 3, (some .int), 8)
def mi_Row_leftAt : am_MI := (⟨"TripleSieve$Row", "leftAt", "(I)I"⟩, prog_10_method_8_code, 4, (some .int), 8)
def mi_Row_touchSame : am_MI := (⟨"TripleSieve$Row", "touchSame", "(II)Z"⟩, prog_10_method_9_code, 4, (some .boolean), 8)
def mi_Sieve_describe : am_MI := (⟨"TripleSieve$Sieve", "describe", "(LTripleSieve$Given;II)V"⟩, prog_11_method_2_code, 4, none, 9)
def mi_Sieve_copy : am_MI := (⟨"TripleSieve$Sieve", "copy", "(LTripleSieve$Sieve;)V"⟩, prog_11_method_3_code, 2, none, 9)
def mi_Sieve_length : am_MI := (⟨"TripleSieve$Sieve", "length", "()I"⟩, prog_11_method_4_code, 1, (some .int), 9)
def mi_Sieve_countBits : am_MI := (⟨"TripleSieve$Sieve", "countBits", "()I"⟩, prog_11_method_5_code, 1, (some .int), 9)
def mi_Sieve_aim : am_MI := (⟨"TripleSieve$Sieve", "aim", "(LTripleSieve$Marks;)V"⟩, prog_11_method_6_code, 2, none, 9)
def mi_Sieve_letsThrough : am_MI := (⟨"TripleSieve$Sieve", "letsThrough", "(LTripleSieve$Marks;)Z"⟩, prog_11_method_7_code, 2, (some .boolean), 9)
def mi_Sieve_countUnlike : am_MI := (⟨"TripleSieve$Sieve", "countUnlike", "(LTripleSieve$Sieve;)I"⟩, prog_11_method_8_code, 4, (some .int), 9)
def mi_Tape_append : am_MI := (⟨"TripleSieve$Tape", "append", "(I)V"⟩, prog_12_method_2_code, 3, none, 10)
def mi_Tape_rewind : am_MI := (⟨"TripleSieve$Tape", "rewind", "()V"⟩, prog_12_method_3_code, 1, none, 10)
def mi_Tape_step : am_MI := (⟨"TripleSieve$Tape", "step", "()V"⟩, prog_12_method_4_code, 1, none, 10)
def mi_Tape_takeWord : am_MI := (⟨"TripleSieve$Tape", "takeWord", "()V"⟩, prog_12_method_5_code, 1, none, 10)
def mi_Tape_takeNumber : am_MI := (⟨"TripleSieve$Tape", "takeNumber", "()V"⟩, prog_12_method_6_code, 2, none, 10)
def mi_Tape_isWord : am_MI := (⟨"TripleSieve$Tape", "isWord", "(Ljava/lang/String;)Z"⟩, prog_12_method_7_code, 3, (some .boolean), 10)
def mi_Tape_isLetter : am_MI := (⟨"TripleSieve$Tape", "isLetter", "(B)Z"⟩, prog_12_method_8_code, 1, (some .boolean), 10)
def mi_Tape_isDigit : am_MI := (⟨"TripleSieve$Tape", "isDigit", "(B)Z"⟩, prog_12_method_9_code, 1, (some .boolean), 10)
def mi_T_feed : am_MI := (⟨"TripleSieve", "feed", "(IIIII)I"⟩, prog_1_method_2_code, 6, (some .int), 11)
def mi_T_end : am_MI := (⟨"TripleSieve", "end", "(I)Z"⟩, prog_1_method_3_code, 2, (some .boolean), 11)
def mi_T_text : am_MI := (⟨"TripleSieve", "text", "()I"⟩, prog_1_method_4_code, 3, (some .int), 11)
def mi_T_key : am_MI := (⟨"TripleSieve", "key", "(I)J"⟩, prog_1_method_5_code, 2, (some .long), 11)
def mi_T_worth : am_MI := (⟨"TripleSieve", "worth", "(I)I"⟩, prog_1_method_6_code, 2, (some .int), 11)
def mi_T_add : am_MI := (⟨"TripleSieve", "add", "(JI)I"⟩, prog_1_method_7_code, 4, (some .int), 11)
def mi_T_gone : am_MI := (⟨"TripleSieve", "gone", "(J)I"⟩, prog_1_method_8_code, 4, (some .int), 11)
def mi_T_turn : am_MI := (⟨"TripleSieve", "turn", "(II)I"⟩, prog_1_method_9_code, 4, (some .int), 11)
def mi_T_set : am_MI := (⟨"TripleSieve", "set", "(II)I"⟩, prog_1_method_10_code, 4, (some .int), 11)
def mi_T_hash : am_MI := (⟨"TripleSieve", "hash", "(JI)J"⟩, prog_1_method_11_code, 4, (some .long), 11)
def mi_T_cell : am_MI := (⟨"TripleSieve", "cell", "(JI)I"⟩, prog_1_method_12_code, 4, (some .int), 11)
def mi_T_print : am_MI := (⟨"TripleSieve", "print", "(J)I"⟩, prog_1_method_13_code, 3, (some .int), 11)
def mi_T_load : am_MI := (⟨"TripleSieve", "load", "(I)I"⟩, prog_1_method_14_code, 2, (some .int), 11)
def mi_T_twins : am_MI := (⟨"TripleSieve", "twins", "()I"⟩, prog_1_method_15_code, 4, (some .int), 11)
def mi_T_peel : am_MI := (⟨"TripleSieve", "peel", "(II)I"⟩, prog_1_method_16_code, 3, (some .int), 11)
def mi_T_core : am_MI := (⟨"TripleSieve", "core", "(I)I"⟩, prog_1_method_17_code, 2, (some .int), 11)
def mi_T_level : am_MI := (⟨"TripleSieve", "level", "(I)I"⟩, prog_1_method_18_code, 3, (some .int), 11)
def mi_T_rank : am_MI := (⟨"TripleSieve", "rank", "()I"⟩, prog_1_method_19_code, 1, (some .int), 11)
def mi_T_mend : am_MI := (⟨"TripleSieve", "mend", "(I)I"⟩, prog_1_method_20_code, 2, (some .int), 11)
def mi_T_tight : am_MI := (⟨"TripleSieve", "tight", "()I"⟩, prog_1_method_21_code, 2, (some .int), 11)
def mi_T_peels : am_MI := (⟨"TripleSieve", "peels", "(I)I"⟩, prog_1_method_22_code, 4, (some .int), 11)
def mi_T_wake : am_MI := (⟨"TripleSieve", "wake", "(II)I"⟩, prog_1_method_23_code, 3, (some .int), 11)
def mi_T_build : am_MI := (⟨"TripleSieve", "build", "(I)I"⟩, prog_1_method_24_code, 4, (some .int), 11)
def mi_T_built : am_MI := (⟨"TripleSieve", "built", "(I)I"⟩, prog_1_method_25_code, 2, (some .int), 11)
def mi_T_filled : am_MI := (⟨"TripleSieve", "filled", "(IZ)I"⟩, prog_1_method_26_code, 3, (some .int), 11)
def mi_T_passes : am_MI := (⟨"TripleSieve", "passes", "(J)Z"⟩, prog_1_method_27_code, 3, (some .boolean), 11)
def mi_T_told : am_MI := (⟨"TripleSieve", "told", "(J)I"⟩, prog_1_method_28_code, 3, (some .int), 11)
def mi_T_right : am_MI := (⟨"TripleSieve", "right", "()I"⟩, prog_1_method_29_code, 3, (some .int), 11)
def mi_T_strangers : am_MI := (⟨"TripleSieve", "strangers", "(JII)I"⟩, prog_1_method_30_code, 7, (some .int), 11)
def mi_T_shelf : am_MI := (⟨"TripleSieve", "shelf", "(IZ)Z"⟩, prog_1_method_31_code, 5, (some .boolean), 11)
def mi_T_unlike : am_MI := (⟨"TripleSieve", "unlike", "(I)I"⟩, prog_1_method_32_code, 2, (some .int), 11)
def mi_T_undo : am_MI := (⟨"TripleSieve", "undo", "()I"⟩, prog_1_method_33_code, 1, (some .int), 11)
def mi_T_count : am_MI := (⟨"TripleSieve", "count", "(I)I"⟩, prog_1_method_34_code, 2, (some .int), 11)
def mi_T_lookNow : am_MI := (⟨"TripleSieve", "lookNow", "(J)V"⟩, prog_1_method_35_code, 3, none, 11)
def mi_T_layNow : am_MI := (⟨"TripleSieve", "layNow", "()V"⟩, prog_1_method_36_code, 1, none, 11)
def mi_T_peelNow : am_MI := (⟨"TripleSieve", "peelNow", "()V"⟩, prog_1_method_37_code, 1, none, 11)
def mi_T_allPeel : am_MI := (⟨"TripleSieve", "allPeel", "(II)Z"⟩, prog_1_method_38_code, 3, (some .boolean), 11)
def mi_M_thrown : am_MI := (⟨"TripleSieveModel", "thrown", "()I"⟩, prog_14_method_1_code, 1, (some .int), 12)
def mi_M_refuse : am_MI := (⟨"TripleSieveModel", "refuse", "()J"⟩, prog_14_method_2_code, 1, (some .long), 12)
def mi_M_isIn : am_MI := (⟨"TripleSieveModel", "isIn", "(III)Z"⟩, prog_14_method_3_code, 3, (some .boolean), 12)
def mi_M_lays : am_MI := (⟨"TripleSieveModel", "lays", "(I)V"⟩, prog_14_method_4_code, 3, none, 12)
def mi_M_feed : am_MI := (⟨"TripleSieveModel", "feed", "(IIIII)I"⟩, prog_14_method_5_code, 6, (some .int), 12)
def mi_M_end : am_MI := (⟨"TripleSieveModel", "end", "(I)Z"⟩, prog_14_method_6_code, 2, (some .boolean), 12)
def mi_M_tapeAt : am_MI := (⟨"TripleSieveModel", "tapeAt", "(I)I"⟩, prog_14_method_7_code, 2, (some .int), 12)
def mi_M_isDigit : am_MI := (⟨"TripleSieveModel", "isDigit", "(I)Z"⟩, prog_14_method_8_code, 1, (some .boolean), 12)
def mi_M_isLetter : am_MI := (⟨"TripleSieveModel", "isLetter", "(I)Z"⟩, prog_14_method_9_code, 1, (some .boolean), 12)
def mi_M_go : am_MI := (⟨"TripleSieveModel", "go", "()V"⟩, prog_14_method_10_code, 2, none, 12)
def mi_M_three : am_MI := (⟨"TripleSieveModel", "three", "(III)J"⟩, prog_14_method_11_code, 3, (some .long), 12)
def mi_M_five : am_MI := (⟨"TripleSieveModel", "five", "(IIIII)J"⟩, prog_14_method_12_code, 5, (some .long), 12)
def mi_M_six : am_MI := (⟨"TripleSieveModel", "six", "(IIIIII)J"⟩, prog_14_method_13_code, 6, (some .long), 12)
def mi_M_isWord : am_MI := (⟨"TripleSieveModel", "isWord", "(J)Z"⟩, prog_14_method_14_code, 3, (some .boolean), 12)
def mi_M_bad : am_MI := (⟨"TripleSieveModel", "bad", "(I)Z"⟩, prog_14_method_15_code, 2, (some .boolean), 12)
def mi_M_begins : am_MI := (⟨"TripleSieveModel", "begins", "([I)V"⟩, prog_14_method_17_code, 1, none, 12)
def mi_M_lowOf : am_MI := (⟨"TripleSieveModel", "lowOf", "(I)I"⟩, prog_14_method_18_code, 1, (some .int), 12)
def mi_M_highOf : am_MI := (⟨"TripleSieveModel", "highOf", "(I)I"⟩, prog_14_method_19_code, 1, (some .int), 12)
def mi_M_nameOf : am_MI := (⟨"TripleSieveModel", "nameOf", "(I)J"⟩, prog_14_method_20_code, 1, (some .long), 12)
def mi_M_wayHere : am_MI := (⟨"TripleSieveModel", "wayHere", "()I"⟩, prog_14_method_21_code, 1, (some .int), 12)
def mi_M_spreadHere : am_MI := (⟨"TripleSieveModel", "spreadHere", "()I"⟩, prog_14_method_22_code, 1, (some .int), 12)
def mi_M_readSetting : am_MI := (⟨"TripleSieveModel", "readSetting", "(I)Z"⟩, prog_14_method_23_code, 3, (some .boolean), 12)
def mi_M_readEnd : am_MI := (⟨"TripleSieveModel", "readEnd", "()Z"⟩, prog_14_method_24_code, 1, (some .boolean), 12)
def mi_M_readKey : am_MI := (⟨"TripleSieveModel", "readKey", "()Z"⟩, prog_14_method_25_code, 2, (some .boolean), 12)
def mi_M_readWhole : am_MI := (⟨"TripleSieveModel", "readWhole", "()Z"⟩, prog_14_method_26_code, 2, (some .boolean), 12)
def mi_M_text : am_MI := (⟨"TripleSieveModel", "text", "()I"⟩, prog_14_method_27_code, 2, (some .int), 12)
def mi_M_isKey : am_MI := (⟨"TripleSieveModel", "isKey", "(I)Z"⟩, prog_14_method_28_code, 2, (some .boolean), 12)
def mi_M_isValue : am_MI := (⟨"TripleSieveModel", "isValue", "(I)Z"⟩, prog_14_method_29_code, 2, (some .boolean), 12)
def mi_M_indexOf : am_MI := (⟨"TripleSieveModel", "indexOf", "(J)I"⟩, prog_14_method_30_code, 4, (some .int), 12)
def mi_M_snap : am_MI := (⟨"TripleSieveModel", "snap", "()V"⟩, prog_14_method_31_code, 2, none, 12)
def mi_M_undo : am_MI := (⟨"TripleSieveModel", "undo", "()I"⟩, prog_14_method_32_code, 2, (some .int), 12)
def mi_M_key : am_MI := (⟨"TripleSieveModel", "key", "(I)J"⟩, prog_14_method_33_code, 2, (some .long), 12)
def mi_M_worth : am_MI := (⟨"TripleSieveModel", "worth", "(I)I"⟩, prog_14_method_34_code, 2, (some .int), 12)
def mi_M_add : am_MI := (⟨"TripleSieveModel", "add", "(JI)I"⟩, prog_14_method_35_code, 4, (some .int), 12)
def mi_M_gone : am_MI := (⟨"TripleSieveModel", "gone", "(J)I"⟩, prog_14_method_36_code, 5, (some .int), 12)
def mi_M_turn : am_MI := (⟨"TripleSieveModel", "turn", "(II)I"⟩, prog_14_method_37_code, 4, (some .int), 12)
def mi_M_set : am_MI := (⟨"TripleSieveModel", "set", "(II)I"⟩, prog_14_method_38_code, 4, (some .int), 12)
def mi_M_mix : am_MI := (⟨"TripleSieveModel", "mix", "(J)J"⟩, prog_14_method_39_code, 6, (some .long), 12)
def mi_M_hashOf : am_MI := (⟨"TripleSieveModel", "hashOf", "(JJ)J"⟩, prog_14_method_40_code, 4, (some .long), 12)
def mi_M_printOf : am_MI := (⟨"TripleSieveModel", "printOf", "(JI)I"⟩, prog_14_method_41_code, 3, (some .int), 12)
def mi_M_part : am_MI := (⟨"TripleSieveModel", "part", "(JI)I"⟩, prog_14_method_42_code, 3, (some .int), 12)
def mi_M_lays3 : am_MI := (⟨"TripleSieveModel", "lays3", "(JII)V"⟩, prog_14_method_43_code, 7, none, 12)
def mi_M_touchesBy : am_MI := (⟨"TripleSieveModel", "touchesBy", "(I)Z"⟩, prog_14_method_44_code, 4, (some .boolean), 12)
def mi_M_hash : am_MI := (⟨"TripleSieveModel", "hash", "(JI)J"⟩, prog_14_method_45_code, 4, (some .long), 12)
def mi_M_cell : am_MI := (⟨"TripleSieveModel", "cell", "(JI)I"⟩, prog_14_method_46_code, 4, (some .int), 12)
def mi_M_print : am_MI := (⟨"TripleSieveModel", "print", "(J)I"⟩, prog_14_method_47_code, 3, (some .int), 12)
def mi_M_nets : am_MI := (⟨"TripleSieveModel", "nets", "(IJI)V"⟩, prog_14_method_48_code, 7, none, 12)
def mi_M_netNow : am_MI := (⟨"TripleSieveModel", "netNow", "()V"⟩, prog_14_method_49_code, 1, none, 12)
def mi_M_takesOut : am_MI := (⟨"TripleSieveModel", "takesOut", "(I)V"⟩, prog_14_method_50_code, 3, none, 12)
def mi_M_nextCell : am_MI := (⟨"TripleSieveModel", "nextCell", "(II)I"⟩, prog_14_method_51_code, 4, (some .int), 12)
def mi_M_comesBehind : am_MI := (⟨"TripleSieveModel", "comesBehind", "(I)V"⟩, prog_14_method_52_code, 2, none, 12)
def mi_M_peelsBy : am_MI := (⟨"TripleSieveModel", "peelsBy", "(II)V"⟩, prog_14_method_53_code, 6, none, 12)
def mi_M_isOf : am_MI := (⟨"TripleSieveModel", "isOf", "(II)Z"⟩, prog_14_method_54_code, 4, (some .boolean), 12)
def mi_M_peelNow : am_MI := (⟨"TripleSieveModel", "peelNow", "()V"⟩, prog_14_method_55_code, 1, none, 12)
def mi_M_peelsAll : am_MI := (⟨"TripleSieveModel", "peelsAll", "(IJI)Z"⟩, prog_14_method_56_code, 5, (some .boolean), 12)
def mi_M_load : am_MI := (⟨"TripleSieveModel", "load", "(I)I"⟩, prog_14_method_57_code, 2, (some .int), 12)
def mi_M_twins : am_MI := (⟨"TripleSieveModel", "twins", "()I"⟩, prog_14_method_58_code, 4, (some .int), 12)
def mi_M_areTwins : am_MI := (⟨"TripleSieveModel", "areTwins", "(II)Z"⟩, prog_14_method_59_code, 4, (some .boolean), 12)
def mi_M_peel : am_MI := (⟨"TripleSieveModel", "peel", "(II)I"⟩, prog_14_method_60_code, 3, (some .int), 12)
def mi_M_core : am_MI := (⟨"TripleSieveModel", "core", "(I)I"⟩, prog_14_method_61_code, 4, (some .int), 12)
def mi_M_laysLevels : am_MI := (⟨"TripleSieveModel", "laysLevels", "()I"⟩, prog_14_method_62_code, 5, (some .int), 12)
def mi_M_level : am_MI := (⟨"TripleSieveModel", "level", "(I)I"⟩, prog_14_method_63_code, 3, (some .int), 12)
def mi_M_rank : am_MI := (⟨"TripleSieveModel", "rank", "()I"⟩, prog_14_method_64_code, 9, (some .int), 12)
def mi_M_findsOut : am_MI := (⟨"TripleSieveModel", "findsOut", "(III)Z"⟩, prog_14_method_65_code, 5, (some .boolean), 12)
def mi_M_mend : am_MI := (⟨"TripleSieveModel", "mend", "(I)I"⟩, prog_14_method_66_code, 3, (some .int), 12)
def mi_M_tight : am_MI := (⟨"TripleSieveModel", "tight", "()I"⟩, prog_14_method_67_code, 2, (some .int), 12)
def mi_M_peels : am_MI := (⟨"TripleSieveModel", "peels", "(I)I"⟩, prog_14_method_68_code, 4, (some .int), 12)
def mi_M_fills : am_MI := (⟨"TripleSieveModel", "fills", "(J)V"⟩, prog_14_method_69_code, 10, none, 12)
def mi_M_wake : am_MI := (⟨"TripleSieveModel", "wake", "(II)I"⟩, prog_14_method_70_code, 6, (some .int), 12)
def mi_M_build : am_MI := (⟨"TripleSieveModel", "build", "(I)I"⟩, prog_14_method_71_code, 5, (some .int), 12)
def mi_M_built : am_MI := (⟨"TripleSieveModel", "built", "(I)I"⟩, prog_14_method_72_code, 2, (some .int), 12)
def mi_M_filled : am_MI := (⟨"TripleSieveModel", "filled", "(IZ)I"⟩, prog_14_method_73_code, 3, (some .int), 12)
def mi_M_asks : am_MI := (⟨"TripleSieveModel", "asks", "(J)Z"⟩, prog_14_method_74_code, 7, (some .boolean), 12)
def mi_M_passes : am_MI := (⟨"TripleSieveModel", "passes", "(J)Z"⟩, prog_14_method_75_code, 3, (some .boolean), 12)
def mi_M_told : am_MI := (⟨"TripleSieveModel", "told", "(J)I"⟩, prog_14_method_76_code, 3, (some .int), 12)
def mi_M_right : am_MI := (⟨"TripleSieveModel", "right", "()I"⟩, prog_14_method_77_code, 3, (some .int), 12)
def mi_M_strangers : am_MI := (⟨"TripleSieveModel", "strangers", "(JII)I"⟩, prog_14_method_78_code, 7, (some .int), 12)
def mi_M_copies : am_MI := (⟨"TripleSieveModel", "copies", "(II)V"⟩, prog_14_method_79_code, 4, none, 12)
def mi_M_shelf : am_MI := (⟨"TripleSieveModel", "shelf", "(IZ)Z"⟩, prog_14_method_80_code, 3, (some .boolean), 12)
def mi_M_unlike : am_MI := (⟨"TripleSieveModel", "unlike", "(I)I"⟩, prog_14_method_81_code, 4, (some .int), 12)
def mi_M_emptyCells : am_MI := (⟨"TripleSieveModel", "emptyCells", "()I"⟩, prog_14_method_82_code, 3, (some .int), 12)
def mi_M_count : am_MI := (⟨"TripleSieveModel", "count", "(I)I"⟩, prog_14_method_83_code, 2, (some .int), 12)
def mi_L_law : am_MI := (x, code, 8, ret, 13)
def mi_Arrays_fill : am_MI := (⟨"java/util/Arrays", "fill", "([II)V"⟩, prog_29_method_103_code, 4, none, 14)
def mi_Math_min : am_MI := (⟨"java/lang/Math", "min", "(II)I"⟩, prog_20_method_69_code, 2, (some .int), 15)
def mi_Math_max : am_MI := (⟨"java/lang/Math", "max", "(II)I"⟩, prog_20_method_65_code, 2, (some .int), 15)
def mi_String_length : am_MI := (⟨"java/lang/String", "length", "()I"⟩, prog_22_method_54_code, 1, (some .int), 16)
def mi_String_charAt : am_MI := (⟨"java/lang/String", "charAt", "(I)C"⟩, prog_22_method_56_code, 2, (some .char), 16)
def am_ml : List am_MI := [mi_Acts_forget, mi_Acts_note, mi_Acts_undoLatest, mi_Basis_independent, mi_Basis_join, mi_Given_reset, mi_Given_copy, mi_Given_has, mi_Given_find, mi_Given_insert, mi_Given_drop, mi_Given_revalue, mi_Given_resettle, mi_Given_canBeValue, mi_Given_fitsBits, mi_Given_canBeSetting, mi_Marks_mix, mi_Marks_aim, mi_Marks_look, mi_Marks_placeApart, mi_Marks_placeClose, mi_Marks_placeFree, mi_Marks_share, mi_Marks_gatherTouched, mi_Marks_touchOnly, mi_Marks_sum, mi_Mender_search, mi_Mender_choose, mi_Mender_leaveOut, mi_Mender_take, mi_Mender_bringBack, mi_Peeling_run, mi_Peeling_runLine, mi_Peeling_lineUp, mi_Peeling_leaveLine, mi_Peeling_runLeast, mi_Peeling_goOut, mi_Peeling_fillBack, mi_Peeling_countWoken, mi_Reader_read, mi_Reader_readSetting, mi_Reader_readKey, mi_Reader_takeValue, mi_Reader_takeNumber, mi_Reader_takeChoice, mi_Reader_passStop, mi_Reader_fail, mi_Reader_nameOf, mi_Reader_choiceOf, mi_Rounds_run, mi_Rounds_mark, mi_Rounds_takeMarked, mi_Row_lay, mi_Row_putBack, mi_Row_takeOff, mi_Row_loneKey, mi_Row_isAlone, mi_Row_countTouched, mi_Row_leftAt, mi_Row_touchSame, mi_Sieve_describe, mi_Sieve_copy, mi_Sieve_length, mi_Sieve_countBits, mi_Sieve_aim, mi_Sieve_letsThrough, mi_Sieve_countUnlike, mi_Tape_append, mi_Tape_rewind, mi_Tape_step, mi_Tape_takeWord, mi_Tape_takeNumber, mi_Tape_isWord, mi_Tape_isLetter, mi_Tape_isDigit, mi_T_feed, mi_T_end, mi_T_text, mi_T_key, mi_T_worth, mi_T_add, mi_T_gone, mi_T_turn, mi_T_set, mi_T_hash, mi_T_cell, mi_T_print, mi_T_load, mi_T_twins, mi_T_peel, mi_T_core, mi_T_level, mi_T_rank, mi_T_mend, mi_T_tight, mi_T_peels, mi_T_wake, mi_T_build, mi_T_built, mi_T_filled, mi_T_passes, mi_T_told, mi_T_right, mi_T_strangers, mi_T_shelf, mi_T_unlike, mi_T_undo, mi_T_count, mi_T_lookNow, mi_T_layNow, mi_T_peelNow, mi_T_allPeel, mi_M_thrown, mi_M_refuse, mi_M_isIn, mi_M_lays, mi_M_feed, mi_M_end, mi_M_tapeAt, mi_M_isDigit, mi_M_isLetter, mi_M_go, mi_M_three, mi_M_five, mi_M_six, mi_M_isWord, mi_M_bad, mi_M_begins, mi_M_lowOf, mi_M_highOf, mi_M_nameOf, mi_M_wayHere, mi_M_spreadHere, mi_M_readSetting, mi_M_readEnd, mi_M_readKey, mi_M_readWhole, mi_M_text, mi_M_isKey, mi_M_isValue, mi_M_indexOf, mi_M_snap, mi_M_undo, mi_M_key, mi_M_worth, mi_M_add, mi_M_gone, mi_M_turn, mi_M_set, mi_M_mix, mi_M_hashOf, mi_M_printOf, mi_M_part, mi_M_lays3, mi_M_touchesBy, mi_M_hash, mi_M_cell, mi_M_print, mi_M_nets, mi_M_netNow, mi_M_takesOut, mi_M_nextCell, mi_M_comesBehind, mi_M_peelsBy, mi_M_isOf, mi_M_peelNow, mi_M_peelsAll, mi_M_load, mi_M_twins, mi_M_areTwins, mi_M_peel, mi_M_core, mi_M_laysLevels, mi_M_level, mi_M_rank, mi_M_findsOut, mi_M_mend, mi_M_tight, mi_M_peels, mi_M_fills, mi_M_wake, mi_M_build, mi_M_built, mi_M_filled, mi_M_asks, mi_M_passes, mi_M_told, mi_M_right, mi_M_strangers, mi_M_copies, mi_M_shelf, mi_M_unlike, mi_M_emptyCells, mi_M_count, mi_L_law, mi_Arrays_fill, mi_Math_min, mi_Math_max, mi_String_length, mi_String_charAt]
/-- where the code word of a method stands -/
def am_mw : List Nat := [676, 697, 1037, 895, 899, 520, 672, 684, 658, 668, 709, 718, 644, 692, 727, 647, 735, 749, 754, 758, 766, 770, 761, 774, 778, 999, 907, 911, 919, 923, 930, 827, 847, 851, 860, 831, 839, 956, 951, 516, 549, 653, 663, 619, 627, 640, 623, 552, 630, 876, 881, 886, 798, 807, 843, 835, 855, 915, 868, 815, 964, 1020, 977, 973, 990, 995, 1029, 504, 527, 531, 538, 545, 562, 534, 541, 500, 508, 512, 1054, 680, 688, 705, 714, 722, 732, 741, 786, 790, 811, 819, 864, 872, 891, 903, 935, 943, 947, 960, 969, 981, 986, 1003, 1008, 1012, 1016, 1025, 1033, 1045, 745, 794, 823, 939, 1119, 1383, 1358, 1128, 1123, 1132, 1303, 1308, 1299, 1296, 1322, 1318, 1325, 1331, 1348, 1140, 1351, 1354, 1315, 1339, 1343, 1335, 1362, 1366, 1312, 1292, 1379, 1395, 1399, 1403, 1371, 1375, 1387, 1391, 1407, 1411, 1415, 1425, 1422, 1447, 1438, 1435, 1463, 1419, 1431, 1444, 1459, 1455, 1499, 1495, 1491, 1487, 1475, 1483, 1527, 1451, 1467, 1471, 1479, 1503, 1511, 1507, 1515, 1523, 1519, 1531, 1535, 1543, 1539, 1547, 1551, 1555, 1563, 1559, 1567, 1571, 1575, 1583, 1579, 1587, 1595, 1591, 0, 802, 700, 782, 566, 576]
/-- by class: (index, field, nest, word) -/
def am_ft : List (List (Nat × Nat × Nat × Nat)) := [
  [(9, 0, 0, 231), (15, 1, 0, 232), (18, 2, 0, 233), (22, 3, 0, 234), (25, 5, 0, 236), (29, 4, 0, 235)], 
  [(9, 100, 0, 392), (15, 101, 0, 393), (18, 102, 0, 394), (22, 806, 1, 309), (27, 801, 1, 299), (31, 800, 1, 295)], 
  [(9, 200, 0, 195), (15, 201, 0, 198), (27, 202, 0, 200), (30, 203, 0, 205), (40, 204, 0, 210)], 
  [(9, 300, 0, 257), (15, 301, 0, 259), (26, 304, 0, 267), (30, 305, 0, 268), (34, 306, 0, 269), (37, 307, 0, 270), (40, 303, 0, 264), (74, 302, 0, 262)], 
  [(9, 400, 0, 408), (15, 402, 0, 412), (19, 403, 0, 414), (22, 405, 0, 416), (25, 404, 0, 415), (28, 807, 1, 314), (33, 401, 0, 410), (44, 806, 1, 311), (47, 803, 1, 305), (58, 406, 0, 417), (72, 801, 1, 301), (75, 800, 1, 297)], 
  [(9, 500, 0, 347), (15, 501, 0, 349), (18, 503, 0, 353), (21, 506, 0, 356), (24, 507, 0, 357), (27, 502, 0, 351), (39, 504, 0, 354), (42, 505, 0, 355), (45, 808, 1, 319), (66, 801, 1, 300), (69, 800, 1, 296)], 
  [(9, 600, 0, 176), (29, 1002, 1, 149), (76, 203, 1, 208), (79, 1005, 1, 154), (97, 202, 1, 203), (104, 1003, 1, 152)], 
  [(9, 700, 0, 381), (29, 808, 1, 318), (39, 806, 1, 312)], 
  [(9, 800, 0, 294), (15, 801, 0, 298), (18, 802, 0, 302), (21, 803, 0, 304), (25, 804, 0, 306), (28, 805, 0, 308), (31, 202, 1, 201), (42, 203, 1, 206), (46, 806, 0, 310), (49, 807, 0, 315), (52, 808, 0, 317), (61, 200, 1, 196), (69, 302, 1, 261), (71, 303, 1, 263), (74, 301, 1, 260)], 
  [(11, 900, 0, 439), (15, 901, 0, 441), (18, 902, 0, 443), (21, 202, 1, 202), (26, 203, 1, 207), (30, 903, 0, 445), (50, 303, 1, 265)], 
  [(9, 1000, 0, 146), (15, 1001, 0, 148), (19, 1004, 0, 153), (25, 1003, 0, 151), (28, 1002, 0, 150), (44, 1005, 0, 155)], 
  [(12, 1100, 0, 457), (19, 1101, 0, 458), (26, 1102, 0, 459), (30, 1103, 0, 460), (36, 1104, 0, 461), (43, 1105, 0, 462), (50, 1106, 0, 463), (57, 1107, 0, 464), (64, 1108, 0, 465), (71, 1109, 0, 466), (78, 1110, 0, 467), (85, 1111, 0, 468), (89, 1112, 0, 469), (93, 1001, 1, 147), (112, 903, 1, 446), (116, 203, 1, 209), (126, 200, 1, 197), (130, 201, 1, 199), (163, 202, 1, 204), (177, 300, 1, 258), (180, 303, 1, 266), (186, 804, 1, 307), (189, 806, 1, 313), (198, 502, 1, 352), (201, 500, 1, 348), (204, 501, 1, 350), (207, 807, 1, 316), (218, 700, 1, 382), (224, 402, 1, 413), (227, 204, 1, 211), (232, 401, 1, 411), (235, 400, 1, 409), (249, 802, 1, 303), (252, 901, 1, 442), (257, 902, 1, 444), (262, 900, 1, 440), (289, 5, 1, 237), (293, 808, 1, 320)], 
  [(1, 1200, 0, 1141), (7, 1201, 0, 1142), (11, 1202, 0, 1143), (18, 1203, 0, 1144), (21, 1204, 0, 1145), (24, 1205, 0, 1146), (27, 1206, 0, 1147), (30, 1210, 0, 1151), (34, 1207, 0, 1148), (62, 1208, 0, 1149), (65, 1209, 0, 1150), (74, 1211, 0, 1152), (78, 1212, 0, 1153), (81, 1213, 0, 1154), (84, 1214, 0, 1155), (87, 1215, 0, 1156), (90, 1216, 0, 1157), (93, 1217, 0, 1158), (96, 1218, 0, 1159), (99, 1219, 0, 1160), (102, 1220, 0, 1161), (105, 1224, 0, 1165), (108, 1225, 0, 1166), (111, 1226, 0, 1167), (114, 1227, 0, 1168), (117, 1228, 0, 1169), (120, 1229, 0, 1170), (124, 1231, 0, 1172), (127, 1232, 0, 1173), (130, 1233, 0, 1174), (133, 1234, 0, 1175), (136, 1238, 0, 1179), (139, 1239, 0, 1180), (142, 1240, 0, 1181), (145, 1241, 0, 1182), (148, 1242, 0, 1183), (151, 1243, 0, 1184), (154, 1244, 0, 1185), (157, 1245, 0, 1186), (160, 1246, 0, 1187), (163, 1247, 0, 1188), (212, 1222, 0, 1163), (230, 1221, 0, 1162), (233, 1223, 0, 1164), (278, 1230, 0, 1171), (288, 1235, 0, 1176), (291, 1236, 0, 1177), (294, 1237, 0, 1178), (338, 1248, 0, 1189)], 
  [], 
  [], 
  [], 
  []]
def am_gs : List (List (Nat × Nat × Nat × Nat)) := [
  [], 
  [], 
  [(19, 902, 1, 186), (51, 900, 1, 648), (54, 901, 1, 649)], 
  [], 
  [], 
  [], 
  [(47, 900, 1, 612), (51, 901, 1, 614)], 
  [], 
  [], 
  [], 
  [], 
  [], 
  [], 
  [], 
  [], 
  [], 
  []]
/-- by class: (index, method, kind, shape, word, static or instanceMethod, selects, initialized) -/
def am_mt : List (List (Nat × Nat × Nat × Nat × Nat × Nat × Nat × Nat)) := [
  [(32, 196, 0, 21, 698, 699, 0, 130), (38, 10, 3, 3020, 1038, 708, 23, 111), (44, 9, 3, 3040, 1039, 667, 17, 111), (48, 11, 3, 3030, 1040, 717, 24, 111), (52, 12, 3, 3030, 1041, 643, 13, 111)], 
  [(34, 4, 2, 2030, 896, 898, 53, 117)], 
  [(43, 7, 2, 3021, 710, 683, 20, 111), (47, 15, 0, 21, 645, 646, 0, 111)], 
  [(22, 16, 0, 12, 750, 734, 0, 113), (43, 19, 2, 4020, 755, 757, 29, 113), (47, 20, 2, 4020, 763, 765, 30, 113), (50, 21, 2, 4020, 767, 769, 31, 113), (53, 23, 2, 4010, 771, 773, 32, 113), (56, 22, 0, 31, 759, 760, 0, 113), (61, 24, 2, 4020, 775, 777, 33, 113), (65, 196, 0, 21, 779, 699, 0, 130), (71, 197, 0, 21, 780, 781, 0, 130)], 
  [(36, 27, 2, 5051, 908, 910, 55, 118), (40, 57, 3, 9011, 912, 914, 56, 114), (51, 28, 2, 5030, 916, 918, 57, 118), (55, 30, 2, 5030, 927, 929, 59, 118), (61, 29, 2, 5030, 920, 922, 58, 118), (64, 55, 3, 9021, 926, 834, 41, 114), (68, 54, 3, 9020, 924, 842, 43, 114), (78, 56, 3, 9021, 925, 854, 46, 114), (82, 53, 3, 9020, 931, 806, 36, 114)], 
  [(31, 35, 2, 6020, 828, 830, 40, 115), (35, 32, 2, 6030, 844, 846, 44, 115), (50, 33, 2, 6030, 848, 850, 45, 115), (54, 34, 2, 6021, 857, 859, 47, 115), (58, 55, 3, 9021, 832, 834, 41, 114), (62, 36, 2, 6040, 836, 838, 42, 115), (72, 56, 3, 9021, 852, 854, 46, 114), (76, 54, 3, 9020, 840, 842, 43, 114), (80, 195, 0, 20, 952, 801, 0, 131), (86, 37, 2, 6040, 953, 955, 62, 115)], 
  [(15, 5, 3, 3010, 517, 519, 2, 111), (20, 68, 3, 11010, 524, 526, 3, 109), (25, 40, 2, 7040, 546, 548, 7, 110), (32, 41, 2, 7030, 650, 652, 14, 110), (36, 47, 0, 13, 550, 551, 0, 110), (40, 72, 3, 11021, 559, 561, 8, 109), (44, 69, 3, 11010, 611, 530, 4, 109), (54, 43, 2, 7041, 616, 618, 9, 110), (58, 44, 2, 7031, 624, 626, 11, 110), (62, 45, 2, 7020, 637, 639, 12, 110), (66, 12, 3, 3030, 641, 643, 13, 111), (72, 46, 2, 7030, 620, 622, 10, 110), (82, 8, 3, 3021, 655, 657, 15, 111), (87, 42, 2, 7031, 660, 662, 16, 110), (91, 9, 3, 3040, 665, 667, 17, 111), (100, 48, 0, 23, 628, 629, 0, 110)], 
  [(15, 195, 0, 20, 877, 801, 0, 131), (21, 50, 2, 8031, 878, 880, 50, 116), (25, 51, 2, 8030, 883, 885, 51, 116), (35, 55, 3, 9021, 882, 834, 41, 114), (42, 54, 3, 9020, 887, 842, 43, 114)], 
  [(36, 17, 3, 4050, 799, 748, 27, 113), (55, 195, 0, 20, 800, 801, 0, 131), (65, 18, 3, 4020, 803, 753, 28, 113), (75, 53, 2, 9020, 804, 806, 36, 114), (79, 55, 2, 9021, 856, 834, 41, 114)], 
  [(40, 62, 2, 10011, 974, 976, 65, 119), (44, 17, 3, 4050, 991, 748, 27, 113), (53, 25, 3, 4021, 996, 998, 68, 113)], 
  [(22, 69, 2, 11010, 528, 530, 4, 109), (31, 73, 0, 11, 532, 533, 0, 109), (35, 70, 2, 11010, 535, 537, 5, 109), (38, 74, 0, 11, 539, 540, 0, 109), (41, 71, 2, 11010, 542, 544, 6, 109), (47, 198, 2, 17011, 563, 564, 565, 122), (52, 199, 2, 17021, 573, 574, 575, 122)], 
  [(97, 67, 3, 11020, 501, 503, 0, 109), (101, 39, 3, 7031, 513, 515, 1, 110), (105, 6, 3, 3020, 669, 671, 18, 111), (109, 0, 3, 1010, 673, 675, 19, 112), (119, 7, 3, 3021, 681, 683, 20, 111), (134, 13, 3, 3021, 689, 691, 21, 111), (137, 8, 3, 3021, 693, 657, 15, 111), (141, 1, 3, 1050, 694, 696, 22, 112), (145, 9, 3, 3040, 701, 667, 17, 111), (149, 10, 3, 3020, 706, 708, 23, 111), (152, 11, 3, 3030, 715, 717, 24, 111), (156, 15, 1, 21, 723, 646, 0, 111), (160, 14, 3, 3021, 724, 726, 25, 111), (166, 12, 3, 3030, 728, 643, 13, 111), (169, 16, 1, 12, 733, 734, 0, 113), (173, 108, 2, 12020, 742, 744, 26, 108), (183, 109, 2, 12010, 791, 793, 34, 108), (192, 59, 3, 9031, 812, 814, 37, 114), (195, 110, 2, 12010, 820, 822, 38, 108), (210, 58, 3, 9021, 865, 867, 48, 114), (214, 49, 3, 8021, 873, 875, 49, 116), (221, 3, 3, 2021, 892, 894, 52, 117), (228, 26, 3, 5020, 904, 906, 54, 118), (238, 111, 2, 12031, 936, 938, 60, 108), (241, 38, 3, 6031, 948, 950, 61, 115), (245, 60, 3, 10040, 961, 963, 63, 119), (253, 37, 3, 6040, 965, 955, 62, 115), (258, 63, 3, 10011, 970, 972, 64, 119), (265, 62, 3, 10011, 982, 976, 65, 119), (267, 64, 3, 10020, 987, 989, 66, 119), (271, 18, 3, 4020, 751, 753, 28, 113), (274, 65, 3, 10021, 992, 994, 67, 119), (278, 25, 3, 4021, 1004, 998, 68, 113), (282, 61, 3, 10020, 1017, 1019, 69, 119), (285, 66, 3, 10021, 1026, 1028, 70, 119), (290, 2, 3, 1020, 1034, 1036, 71, 112), (296, 57, 3, 9011, 1046, 914, 56, 114), (299, 17, 3, 4050, 746, 748, 27, 113), (302, 52, 3, 9050, 795, 797, 35, 114), (306, 31, 3, 6030, 824, 826, 39, 115)], 
  [(14, 115, 2, 13020, 1124, 1126, 73, 120), (37, 120, 0, 11, 1297, 1298, 0, 120), (41, 118, 2, 13021, 1300, 1302, 75, 120), (49, 119, 0, 11, 1306, 1307, 0, 120), (54, 122, 0, 32, 1320, 1321, 0, 120), (58, 123, 0, 52, 1316, 1317, 0, 120), (166, 127, 0, 10, 1138, 1139, 0, 120), (171, 124, 0, 62, 1323, 1324, 0, 120), (179, 125, 2, 13021, 1328, 1330, 77, 120), (185, 121, 2, 13010, 1293, 1295, 74, 120), (188, 131, 2, 13011, 1336, 1338, 79, 120), (192, 132, 2, 13011, 1340, 1342, 80, 120), (195, 126, 2, 13021, 1345, 1347, 81, 120), (198, 128, 0, 11, 1349, 1350, 0, 120), (201, 129, 0, 11, 1352, 1353, 0, 120), (204, 114, 0, 31, 1356, 1357, 0, 120), (208, 134, 2, 13011, 1359, 1361, 82, 120), (217, 130, 0, 12, 1313, 1314, 0, 120), (221, 133, 2, 13021, 1332, 1334, 78, 120), (224, 135, 2, 13011, 1363, 1365, 83, 120), (227, 136, 2, 13011, 1309, 1311, 76, 120), (236, 138, 2, 13021, 1376, 1378, 84, 120), (239, 113, 2, 13012, 1380, 1382, 85, 120), (243, 139, 2, 13021, 1392, 1394, 86, 120), (246, 140, 2, 13021, 1396, 1398, 87, 120), (250, 141, 2, 13010, 1400, 1402, 88, 120), (257, 149, 0, 12, 1423, 1424, 0, 120), (262, 152, 0, 21, 1436, 1437, 0, 120), (267, 150, 0, 22, 1420, 1421, 0, 120), (271, 153, 2, 13040, 1432, 1434, 89, 120), (275, 151, 0, 21, 1445, 1446, 0, 120), (281, 154, 2, 13021, 1460, 1462, 92, 120), (284, 158, 2, 13040, 1456, 1458, 91, 120), (297, 162, 2, 13020, 1488, 1490, 97, 120), (300, 161, 2, 13031, 1492, 1494, 98, 120), (304, 160, 2, 13020, 1496, 1498, 99, 120), (307, 164, 2, 13031, 1472, 1474, 94, 120), (311, 159, 2, 13010, 1452, 1454, 90, 120), (314, 163, 2, 13030, 1484, 1486, 96, 120), (318, 169, 2, 13031, 1468, 1470, 93, 120), (321, 165, 2, 13010, 1480, 1482, 95, 120), (324, 172, 2, 13011, 1508, 1510, 100, 120), (327, 166, 2, 13041, 1524, 1526, 102, 120), (331, 175, 2, 13041, 1520, 1522, 101, 120), (334, 179, 2, 13020, 1540, 1542, 103, 120), (341, 184, 2, 13021, 1560, 1562, 104, 120), (344, 189, 2, 13030, 1580, 1582, 105, 120), (347, 192, 2, 13011, 1592, 1594, 106, 120)], 
  [(7, 78, 2, 12022, 1051, 1052, 1053, 108), (19, 75, 2, 12061, 497, 498, 499, 108), (23, 116, 2, 13061, 1120, 1121, 1122, 120), (24, 76, 2, 12021, 505, 506, 507, 108), (28, 117, 2, 13021, 1129, 1130, 1131, 120), (29, 77, 2, 12011, 509, 510, 511, 108), (33, 137, 2, 13011, 1289, 1290, 1291, 120), (39, 143, 2, 13022, 1372, 1373, 1374, 120), (40, 112, 2, 13011, 1116, 1117, 1118, 120), (43, 79, 2, 12021, 677, 678, 679, 108), (47, 144, 2, 13021, 1384, 1385, 1386, 120), (50, 80, 2, 12031, 685, 686, 687, 108), (54, 145, 2, 13031, 1388, 1389, 1390, 120), (55, 81, 2, 12021, 702, 703, 704, 108), (59, 146, 2, 13021, 1404, 1405, 1406, 120), (60, 82, 2, 12031, 711, 712, 713, 108), (64, 147, 2, 13031, 1408, 1409, 1410, 120), (65, 83, 2, 12031, 719, 720, 721, 108), (68, 148, 2, 13031, 1412, 1413, 1414, 120), (69, 84, 2, 12032, 729, 730, 731, 108), (73, 155, 2, 13032, 1416, 1417, 1418, 120), (74, 85, 2, 12031, 738, 739, 740, 108), (77, 156, 2, 13031, 1428, 1429, 1430, 120), (78, 86, 2, 12021, 783, 784, 785, 108), (81, 157, 2, 13021, 1441, 1442, 1443, 120), (82, 87, 2, 12021, 787, 788, 789, 108), (85, 167, 2, 13021, 1448, 1449, 1450, 120), (86, 88, 2, 12011, 808, 809, 810, 108), (89, 168, 2, 13011, 1464, 1465, 1466, 120), (90, 89, 2, 12031, 816, 817, 818, 108), (93, 170, 2, 13031, 1476, 1477, 1478, 120), (94, 90, 2, 12021, 861, 862, 863, 108), (97, 171, 2, 13021, 1500, 1501, 1502, 120), (98, 91, 2, 12021, 869, 870, 871, 108), (101, 173, 2, 13021, 1504, 1505, 1506, 120), (102, 92, 2, 12011, 888, 889, 890, 108), (105, 174, 2, 13011, 1512, 1513, 1514, 120), (106, 93, 2, 12021, 900, 901, 902, 108), (109, 176, 2, 13021, 1516, 1517, 1518, 120), (110, 94, 2, 12011, 932, 933, 934, 108), (113, 177, 2, 13011, 1528, 1529, 1530, 120), (114, 95, 2, 12021, 940, 941, 942, 108), (117, 178, 2, 13021, 1532, 1533, 1534, 120), (118, 96, 2, 12031, 944, 945, 946, 108), (121, 180, 2, 13031, 1536, 1537, 1538, 120), (122, 97, 2, 12021, 957, 958, 959, 108), (125, 181, 2, 13021, 1544, 1545, 1546, 120), (126, 98, 2, 12021, 966, 967, 968, 108), (129, 182, 2, 13021, 1548, 1549, 1550, 120), (130, 99, 2, 12031, 978, 979, 980, 108), (134, 183, 2, 13031, 1552, 1553, 1554, 120), (135, 100, 2, 12021, 983, 984, 985, 108), (139, 185, 2, 13021, 1556, 1557, 1558, 120), (140, 101, 2, 12021, 1000, 1001, 1002, 108), (143, 186, 2, 13021, 1564, 1565, 1566, 120), (144, 102, 2, 12011, 1005, 1006, 1007, 108), (147, 187, 2, 13011, 1568, 1569, 1570, 120), (148, 103, 2, 12041, 1009, 1010, 1011, 108), (152, 188, 2, 13041, 1572, 1573, 1574, 120), (153, 104, 2, 12031, 1013, 1014, 1015, 108), (157, 190, 2, 13031, 1576, 1577, 1578, 120), (158, 105, 2, 12021, 1022, 1023, 1024, 108), (161, 191, 2, 13021, 1584, 1585, 1586, 120), (162, 106, 2, 12011, 1030, 1031, 1032, 108), (165, 142, 2, 13011, 1368, 1369, 1370, 120), (166, 107, 2, 12021, 1042, 1043, 1044, 108), (169, 193, 2, 13021, 1588, 1589, 1590, 120)], 
  [], 
  [], 
  []]
def am_act : List (List (Nat × Nat)) := [
  [], 
  [], 
  [(34, 521)], 
  [], 
  [], 
  [], 
  [], 
  [], 
  [], 
  [(34, 1021)], 
  [], 
  [], 
  [], 
  [], 
  [], 
  [], 
  []]
def am_ct : List (List (Nat × Int × Nat)) := [
  [], 
  [], 
  [], 
  [(60, 65535, 762)], 
  [], 
  [], 
  [(86, 999999999, 659)], 
  [], 
  [], 
  [], 
  [], 
  [], 
  [(170, 999999999, 1355), (261, 65535, 1439), (266, 65536, 1440)], 
  [], 
  [], 
  [], 
  []]
def am_lt : List (List (Nat × Nat × Nat)) := [
  [], 
  [], 
  [], 
  [(18, 13787848793156543929, 736), (20, 10723151780598845931, 737)], 
  [], 
  [], 
  [], 
  [], 
  [], 
  [], 
  [], 
  [], 
  [(45, 27, 1304), (47, 96, 1305), (52, 729, 1319), (175, 19, 1326), (177, 4, 1327), (183, 5, 1344), (215, 262, 1367), (253, 13787848793156543929, 1426), (255, 10723151780598845931, 1427)], 
  [(48, 4294967295, 1596)], 
  [], 
  [], 
  []]
def am_sl : List (List (Nat × Nat)) := [
  [], 
  [], 
  [], 
  [], 
  [], 
  [], 
  [(107, 1000), (109, 1001), (111, 1002), (113, 1003), (115, 1004), (117, 1005), (119, 1006), (121, 1007), (123, 1008), (125, 1009), (127, 1010), (129, 1011), (70, 1012), (95, 1013)], 
  [], 
  [], 
  [], 
  [], 
  [], 
  [], 
  [], 
  [], 
  [], 
  []]
def am_acw : Nat × Nat × Nat := (522, 523, 121)
def am_nst : List Cond := lw_tbl.filter fun w => match w with | .fieldLinkNest .. => true | .methodLinkNest .. => true | _ => false
def am_big : List Cond := lw_tbl.filter goodWord
def am_str : List String := ["cells", "prints", "bits", "seed", "way", "spread", "queue", "apart", "stack", "close", "least", "free", "key", "is"]
