section
-- ===== PART A: goes FIRST, ahead of the names: the tables' words, and 'selects' of the private methods out of them =====
/-- a private method of a class that the tables say can be made, by its rows of tables_1 -/
def lw_okq (q : MethodName × Nat) : Prop := (q.1.cls ≠ "java/lang/invoke/MethodHandle" ∧ q.1.cls ≠ "java/lang/invoke/VarHandle") ∧ Cond.instantiable q.1.cls q.2 ∈ tables_1 ∧ Cond.privateMethod q.1 ∈ tables_1 ∧ Cond.instanceMethod q.1 ∈ tables_1
theorem lw_p0 : lw_okq (⟨"PathShelf$Tree", "begin", "(LPathShelf$Row;)V"⟩, 12) := ⟨⟨by decide +kernel, by decide +kernel⟩, List.mem_of_getElem? (i := 81) (by decide +kernel), List.mem_of_getElem? (i := 314) (by decide +kernel), List.mem_of_getElem? (i := 315) (by decide +kernel)⟩
theorem lw_p1 : lw_okq (⟨"PathShelf$Tree", "addNode", "(III)I"⟩, 12) := ⟨⟨by decide +kernel, by decide +kernel⟩, List.mem_of_getElem? (i := 81) (by decide +kernel), List.mem_of_getElem? (i := 318) (by decide +kernel), List.mem_of_getElem? (i := 319) (by decide +kernel)⟩
theorem lw_p2 : lw_okq (⟨"PathShelf$Tree", "readContent", "(I)Z"⟩, 12) := ⟨⟨by decide +kernel, by decide +kernel⟩, List.mem_of_getElem? (i := 81) (by decide +kernel), List.mem_of_getElem? (i := 322) (by decide +kernel), List.mem_of_getElem? (i := 323) (by decide +kernel)⟩
theorem lw_p3 : lw_okq (⟨"PathShelf$Tree", "faultAt", "(I)Z"⟩, 12) := ⟨⟨by decide +kernel, by decide +kernel⟩, List.mem_of_getElem? (i := 81) (by decide +kernel), List.mem_of_getElem? (i := 326) (by decide +kernel), List.mem_of_getElem? (i := 327) (by decide +kernel)⟩
theorem lw_p4 : lw_okq (⟨"PathShelf$Tree", "readBytes", "(III)Z"⟩, 12) := ⟨⟨by decide +kernel, by decide +kernel⟩, List.mem_of_getElem? (i := 81) (by decide +kernel), List.mem_of_getElem? (i := 330) (by decide +kernel), List.mem_of_getElem? (i := 331) (by decide +kernel)⟩
theorem lw_p5 : lw_okq (⟨"PathShelf$Tree", "readOn", "(Z)I"⟩, 12) := ⟨⟨by decide +kernel, by decide +kernel⟩, List.mem_of_getElem? (i := 81) (by decide +kernel), List.mem_of_getElem? (i := 335) (by decide +kernel), List.mem_of_getElem? (i := 336) (by decide +kernel)⟩
theorem lw_p6 : lw_okq (⟨"PathShelf$Tree", "closeNest", "()Z"⟩, 12) := ⟨⟨by decide +kernel, by decide +kernel⟩, List.mem_of_getElem? (i := 81) (by decide +kernel), List.mem_of_getElem? (i := 339) (by decide +kernel), List.mem_of_getElem? (i := 340) (by decide +kernel)⟩
theorem lw_p7 : lw_okq (⟨"PathShelf$Tree", "readPart", "()Z"⟩, 12) := ⟨⟨by decide +kernel, by decide +kernel⟩, List.mem_of_getElem? (i := 81) (by decide +kernel), List.mem_of_getElem? (i := 343) (by decide +kernel), List.mem_of_getElem? (i := 344) (by decide +kernel)⟩
theorem lw_p8 : lw_okq (⟨"PathShelf$Tree", "readName", "()I"⟩, 12) := ⟨⟨by decide +kernel, by decide +kernel⟩, List.mem_of_getElem? (i := 81) (by decide +kernel), List.mem_of_getElem? (i := 347) (by decide +kernel), List.mem_of_getElem? (i := 348) (by decide +kernel)⟩
theorem lw_p9 : lw_okq (⟨"PathShelf$Trail", "note", "(IZ)V"⟩, 4) := ⟨⟨by decide +kernel, by decide +kernel⟩, List.mem_of_getElem? (i := 142) (by decide +kernel), List.mem_of_getElem? (i := 420) (by decide +kernel), List.mem_of_getElem? (i := 421) (by decide +kernel)⟩
theorem lw_p10 : lw_okq (⟨"PathShelf$Trail", "isNew", "(LPathShelf$Tree;I)Z"⟩, 4) := ⟨⟨by decide +kernel, by decide +kernel⟩, List.mem_of_getElem? (i := 142) (by decide +kernel), List.mem_of_getElem? (i := 428) (by decide +kernel), List.mem_of_getElem? (i := 429) (by decide +kernel)⟩
theorem lw_p11 : lw_okq (⟨"PathShelf", "seek", "()V"⟩, 14) := ⟨⟨by decide +kernel, by decide +kernel⟩, List.mem_of_getElem? (i := 12) (by decide +kernel), List.mem_of_getElem? (i := 458) (by decide +kernel), List.mem_of_getElem? (i := 459) (by decide +kernel)⟩
theorem lw_p12 : lw_okq (⟨"PathShelf", "leadingCondition", "()I"⟩, 14) := ⟨⟨by decide +kernel, by decide +kernel⟩, List.mem_of_getElem? (i := 12) (by decide +kernel), List.mem_of_getElem? (i := 462) (by decide +kernel), List.mem_of_getElem? (i := 463) (by decide +kernel)⟩
theorem lw_p13 : lw_okq (⟨"PathShelf", "hasIndex", "(LPathShelf$Path;)Z"⟩, 14) := ⟨⟨by decide +kernel, by decide +kernel⟩, List.mem_of_getElem? (i := 12) (by decide +kernel), List.mem_of_getElem? (i := 471) (by decide +kernel), List.mem_of_getElem? (i := 472) (by decide +kernel)⟩
theorem lw_p14 : lw_okq (⟨"PathShelf$Condition", "someIsEqual", "(LPathShelf$Tree;LPathShelf$Trail;)Z"⟩, 3) := ⟨⟨by decide +kernel, by decide +kernel⟩, List.mem_of_getElem? (i := 199) (by decide +kernel), List.mem_of_getElem? (i := 484) (by decide +kernel), List.mem_of_getElem? (i := 485) (by decide +kernel)⟩
theorem lw_p15 : lw_okq (⟨"PathShelf$Condition", "someHasSize", "(LPathShelf$Tree;LPathShelf$Trail;)Z"⟩, 3) := ⟨⟨by decide +kernel, by decide +kernel⟩, List.mem_of_getElem? (i := 199) (by decide +kernel), List.mem_of_getElem? (i := 496) (by decide +kernel), List.mem_of_getElem? (i := 497) (by decide +kernel)⟩
def lw_privs_1 : List (MethodName × Nat) := [(⟨"PathShelf$Tree", "begin", "(LPathShelf$Row;)V"⟩, 12), (⟨"PathShelf$Tree", "addNode", "(III)I"⟩, 12), (⟨"PathShelf$Tree", "readContent", "(I)Z"⟩, 12), (⟨"PathShelf$Tree", "faultAt", "(I)Z"⟩, 12), (⟨"PathShelf$Tree", "readBytes", "(III)Z"⟩, 12), (⟨"PathShelf$Tree", "readOn", "(Z)I"⟩, 12), (⟨"PathShelf$Tree", "closeNest", "()Z"⟩, 12), (⟨"PathShelf$Tree", "readPart", "()Z"⟩, 12), (⟨"PathShelf$Tree", "readName", "()I"⟩, 12), (⟨"PathShelf$Trail", "note", "(IZ)V"⟩, 4), (⟨"PathShelf$Trail", "isNew", "(LPathShelf$Tree;I)Z"⟩, 4), (⟨"PathShelf", "seek", "()V"⟩, 14), (⟨"PathShelf", "leadingCondition", "()I"⟩, 14), (⟨"PathShelf", "hasIndex", "(LPathShelf$Path;)Z"⟩, 14), (⟨"PathShelf$Condition", "someIsEqual", "(LPathShelf$Tree;LPathShelf$Trail;)Z"⟩, 3), (⟨"PathShelf$Condition", "someHasSize", "(LPathShelf$Tree;LPathShelf$Trail;)Z"⟩, 3)]
theorem lw_r1 : ∀ q ∈ lw_privs_1, lw_okq q := List.forall_mem_cons.mpr ⟨lw_p0, List.forall_mem_cons.mpr ⟨lw_p1, List.forall_mem_cons.mpr ⟨lw_p2, List.forall_mem_cons.mpr ⟨lw_p3, List.forall_mem_cons.mpr ⟨lw_p4, List.forall_mem_cons.mpr ⟨lw_p5, List.forall_mem_cons.mpr ⟨lw_p6, List.forall_mem_cons.mpr ⟨lw_p7, List.forall_mem_cons.mpr ⟨lw_p8, List.forall_mem_cons.mpr ⟨lw_p9, List.forall_mem_cons.mpr ⟨lw_p10, List.forall_mem_cons.mpr ⟨lw_p11, List.forall_mem_cons.mpr ⟨lw_p12, List.forall_mem_cons.mpr ⟨lw_p13, List.forall_mem_cons.mpr ⟨lw_p14, List.forall_mem_cons.mpr ⟨lw_p15, fun _ h => absurd h List.not_mem_nil⟩⟩⟩⟩⟩⟩⟩⟩⟩⟩⟩⟩⟩⟩⟩⟩
theorem lw_p16 : lw_okq (⟨"PathShelf$Condition", "someComparesSo", "(LPathShelf$Tree;LPathShelf$Trail;)Z"⟩, 3) := ⟨⟨by decide +kernel, by decide +kernel⟩, List.mem_of_getElem? (i := 199) (by decide +kernel), List.mem_of_getElem? (i := 505) (by decide +kernel), List.mem_of_getElem? (i := 506) (by decide +kernel)⟩
theorem lw_p17 : lw_okq (⟨"PathShelf$Condition", "difference", "(LPathShelf$Tree;I)I"⟩, 3) := ⟨⟨by decide +kernel, by decide +kernel⟩, List.mem_of_getElem? (i := 199) (by decide +kernel), List.mem_of_getElem? (i := 509) (by decide +kernel), List.mem_of_getElem? (i := 510) (by decide +kernel)⟩
theorem lw_p18 : lw_okq (⟨"PathShelf$Condition", "isSo", "(I)Z"⟩, 3) := ⟨⟨by decide +kernel, by decide +kernel⟩, List.mem_of_getElem? (i := 199) (by decide +kernel), List.mem_of_getElem? (i := 514) (by decide +kernel), List.mem_of_getElem? (i := 515) (by decide +kernel)⟩
theorem lw_p19 : lw_okq (⟨"PathShelf$Editor", "aim", "(III)V"⟩, 8) := ⟨⟨by decide +kernel, by decide +kernel⟩, List.mem_of_getElem? (i := 165) (by decide +kernel), List.mem_of_getElem? (i := 541) (by decide +kernel), List.mem_of_getElem? (i := 542) (by decide +kernel)⟩
theorem lw_p20 : lw_okq (⟨"PathShelf$Editor", "writeNew", "(LPathShelf$Path;IILPathShelf$Row;)V"⟩, 8) := ⟨⟨by decide +kernel, by decide +kernel⟩, List.mem_of_getElem? (i := 165) (by decide +kernel), List.mem_of_getElem? (i := 545) (by decide +kernel), List.mem_of_getElem? (i := 546) (by decide +kernel)⟩
theorem lw_p21 : lw_okq (⟨"PathShelf$Editor", "openNest", "(II)V"⟩, 8) := ⟨⟨by decide +kernel, by decide +kernel⟩, List.mem_of_getElem? (i := 165) (by decide +kernel), List.mem_of_getElem? (i := 549) (by decide +kernel), List.mem_of_getElem? (i := 550) (by decide +kernel)⟩
theorem lw_p22 : lw_okq (⟨"PathShelf$Editor", "writeElement", "(ILPathShelf$Row;)V"⟩, 8) := ⟨⟨by decide +kernel, by decide +kernel⟩, List.mem_of_getElem? (i := 165) (by decide +kernel), List.mem_of_getElem? (i := 564) (by decide +kernel), List.mem_of_getElem? (i := 565) (by decide +kernel)⟩
theorem lw_p23 : lw_okq (⟨"PathShelf$Editor", "alter", "(LPathShelf$Tree;IILPathShelf$Row;)Z"⟩, 8) := ⟨⟨by decide +kernel, by decide +kernel⟩, List.mem_of_getElem? (i := 165) (by decide +kernel), List.mem_of_getElem? (i := 568) (by decide +kernel), List.mem_of_getElem? (i := 569) (by decide +kernel)⟩
theorem lw_p24 : lw_okq (⟨"PathShelf$Editor", "writeSum", "(ILPathShelf$Row;)Z"⟩, 8) := ⟨⟨by decide +kernel, by decide +kernel⟩, List.mem_of_getElem? (i := 165) (by decide +kernel), List.mem_of_getElem? (i := 573) (by decide +kernel), List.mem_of_getElem? (i := 574) (by decide +kernel)⟩
theorem lw_p25 : lw_okq (⟨"PathShelf$Editor", "writeOthers", "(LPathShelf$Tree;ILPathShelf$Row;)V"⟩, 8) := ⟨⟨by decide +kernel, by decide +kernel⟩, List.mem_of_getElem? (i := 165) (by decide +kernel), List.mem_of_getElem? (i := 577) (by decide +kernel), List.mem_of_getElem? (i := 578) (by decide +kernel)⟩
theorem lw_p26 : lw_okq (⟨"PathShelf$Editor", "splice", "(LPathShelf$Tree;)Z"⟩, 8) := ⟨⟨by decide +kernel, by decide +kernel⟩, List.mem_of_getElem? (i := 165) (by decide +kernel), List.mem_of_getElem? (i := 582) (by decide +kernel), List.mem_of_getElem? (i := 583) (by decide +kernel)⟩
theorem lw_p27 : lw_okq (⟨"PathShelfModel", "name", "(III)Z"⟩, 26) := ⟨⟨by decide +kernel, by decide +kernel⟩, List.mem_of_getElem? (i := 592) (by decide +kernel), List.mem_of_getElem? (i := 703) (by decide +kernel), List.mem_of_getElem? (i := 704) (by decide +kernel)⟩
theorem lw_p28 : lw_okq (⟨"PathShelfModel", "read", "(III)I"⟩, 26) := ⟨⟨by decide +kernel, by decide +kernel⟩, List.mem_of_getElem? (i := 592) (by decide +kernel), List.mem_of_getElem? (i := 718) (by decide +kernel), List.mem_of_getElem? (i := 719) (by decide +kernel)⟩
theorem lw_p29 : lw_okq (⟨"PathShelfModel", "wrong", "(I)Z"⟩, 26) := ⟨⟨by decide +kernel, by decide +kernel⟩, List.mem_of_getElem? (i := 592) (by decide +kernel), List.mem_of_getElem? (i := 722) (by decide +kernel), List.mem_of_getElem? (i := 723) (by decide +kernel)⟩
theorem lw_p30 : lw_okq (⟨"PathShelfModel", "readPlain", "(III)I"⟩, 26) := ⟨⟨by decide +kernel, by decide +kernel⟩, List.mem_of_getElem? (i := 592) (by decide +kernel), List.mem_of_getElem? (i := 726) (by decide +kernel), List.mem_of_getElem? (i := 727) (by decide +kernel)⟩
theorem lw_p31 : lw_okq (⟨"PathShelfModel", "readText", "(II)I"⟩, 26) := ⟨⟨by decide +kernel, by decide +kernel⟩, List.mem_of_getElem? (i := 592) (by decide +kernel), List.mem_of_getElem? (i := 730) (by decide +kernel), List.mem_of_getElem? (i := 731) (by decide +kernel)⟩
def lw_privs_2 : List (MethodName × Nat) := [(⟨"PathShelf$Condition", "someComparesSo", "(LPathShelf$Tree;LPathShelf$Trail;)Z"⟩, 3), (⟨"PathShelf$Condition", "difference", "(LPathShelf$Tree;I)I"⟩, 3), (⟨"PathShelf$Condition", "isSo", "(I)Z"⟩, 3), (⟨"PathShelf$Editor", "aim", "(III)V"⟩, 8), (⟨"PathShelf$Editor", "writeNew", "(LPathShelf$Path;IILPathShelf$Row;)V"⟩, 8), (⟨"PathShelf$Editor", "openNest", "(II)V"⟩, 8), (⟨"PathShelf$Editor", "writeElement", "(ILPathShelf$Row;)V"⟩, 8), (⟨"PathShelf$Editor", "alter", "(LPathShelf$Tree;IILPathShelf$Row;)Z"⟩, 8), (⟨"PathShelf$Editor", "writeSum", "(ILPathShelf$Row;)Z"⟩, 8), (⟨"PathShelf$Editor", "writeOthers", "(LPathShelf$Tree;ILPathShelf$Row;)V"⟩, 8), (⟨"PathShelf$Editor", "splice", "(LPathShelf$Tree;)Z"⟩, 8), (⟨"PathShelfModel", "name", "(III)Z"⟩, 26), (⟨"PathShelfModel", "read", "(III)I"⟩, 26), (⟨"PathShelfModel", "wrong", "(I)Z"⟩, 26), (⟨"PathShelfModel", "readPlain", "(III)I"⟩, 26), (⟨"PathShelfModel", "readText", "(II)I"⟩, 26)]
theorem lw_r2 : ∀ q ∈ lw_privs_2, lw_okq q := List.forall_mem_cons.mpr ⟨lw_p16, List.forall_mem_cons.mpr ⟨lw_p17, List.forall_mem_cons.mpr ⟨lw_p18, List.forall_mem_cons.mpr ⟨lw_p19, List.forall_mem_cons.mpr ⟨lw_p20, List.forall_mem_cons.mpr ⟨lw_p21, List.forall_mem_cons.mpr ⟨lw_p22, List.forall_mem_cons.mpr ⟨lw_p23, List.forall_mem_cons.mpr ⟨lw_p24, List.forall_mem_cons.mpr ⟨lw_p25, List.forall_mem_cons.mpr ⟨lw_p26, List.forall_mem_cons.mpr ⟨lw_p27, List.forall_mem_cons.mpr ⟨lw_p28, List.forall_mem_cons.mpr ⟨lw_p29, List.forall_mem_cons.mpr ⟨lw_p30, List.forall_mem_cons.mpr ⟨lw_p31, fun _ h => absurd h List.not_mem_nil⟩⟩⟩⟩⟩⟩⟩⟩⟩⟩⟩⟩⟩⟩⟩⟩
theorem lw_p32 : lw_okq (⟨"PathShelfModel", "readName", "(III)I"⟩, 26) := ⟨⟨by decide +kernel, by decide +kernel⟩, List.mem_of_getElem? (i := 592) (by decide +kernel), List.mem_of_getElem? (i := 734) (by decide +kernel), List.mem_of_getElem? (i := 735) (by decide +kernel)⟩
theorem lw_p33 : lw_okq (⟨"PathShelfModel", "nameEnd", "(I)I"⟩, 26) := ⟨⟨by decide +kernel, by decide +kernel⟩, List.mem_of_getElem? (i := 592) (by decide +kernel), List.mem_of_getElem? (i := 738) (by decide +kernel), List.mem_of_getElem? (i := 739) (by decide +kernel)⟩
theorem lw_p34 : lw_okq (⟨"PathShelfModel", "behind", "(II)I"⟩, 26) := ⟨⟨by decide +kernel, by decide +kernel⟩, List.mem_of_getElem? (i := 592) (by decide +kernel), List.mem_of_getElem? (i := 742) (by decide +kernel), List.mem_of_getElem? (i := 743) (by decide +kernel)⟩
theorem lw_p35 : lw_okq (⟨"PathShelfModel", "numberAt", "(I)I"⟩, 26) := ⟨⟨by decide +kernel, by decide +kernel⟩, List.mem_of_getElem? (i := 592) (by decide +kernel), List.mem_of_getElem? (i := 746) (by decide +kernel), List.mem_of_getElem? (i := 747) (by decide +kernel)⟩
theorem lw_p36 : lw_okq (⟨"PathShelfModel", "value", "(I)I"⟩, 26) := ⟨⟨by decide +kernel, by decide +kernel⟩, List.mem_of_getElem? (i := 592) (by decide +kernel), List.mem_of_getElem? (i := 750) (by decide +kernel), List.mem_of_getElem? (i := 751) (by decide +kernel)⟩
theorem lw_p37 : lw_okq (⟨"PathShelfModel", "holder", "(I)I"⟩, 26) := ⟨⟨by decide +kernel, by decide +kernel⟩, List.mem_of_getElem? (i := 592) (by decide +kernel), List.mem_of_getElem? (i := 756) (by decide +kernel), List.mem_of_getElem? (i := 757) (by decide +kernel)⟩
theorem lw_p38 : lw_okq (⟨"PathShelfModel", "move", "(II)V"⟩, 26) := ⟨⟨by decide +kernel, by decide +kernel⟩, List.mem_of_getElem? (i := 592) (by decide +kernel), List.mem_of_getElem? (i := 760) (by decide +kernel), List.mem_of_getElem? (i := 761) (by decide +kernel)⟩
theorem lw_p39 : lw_okq (⟨"PathShelfModel", "copyPath", "(II)V"⟩, 26) := ⟨⟨by decide +kernel, by decide +kernel⟩, List.mem_of_getElem? (i := 592) (by decide +kernel), List.mem_of_getElem? (i := 780) (by decide +kernel), List.mem_of_getElem? (i := 781) (by decide +kernel)⟩
theorem lw_p40 : lw_okq (⟨"PathShelfModel", "gather", "(II)I"⟩, 26) := ⟨⟨by decide +kernel, by decide +kernel⟩, List.mem_of_getElem? (i := 592) (by decide +kernel), List.mem_of_getElem? (i := 788) (by decide +kernel), List.mem_of_getElem? (i := 789) (by decide +kernel)⟩
theorem lw_p41 : lw_okq (⟨"PathShelfModel", "come", "(II)I"⟩, 26) := ⟨⟨by decide +kernel, by decide +kernel⟩, List.mem_of_getElem? (i := 592) (by decide +kernel), List.mem_of_getElem? (i := 792) (by decide +kernel), List.mem_of_getElem? (i := 793) (by decide +kernel)⟩
theorem lw_p42 : lw_okq (⟨"PathShelfModel", "lead", "(IIII)V"⟩, 26) := ⟨⟨by decide +kernel, by decide +kernel⟩, List.mem_of_getElem? (i := 592) (by decide +kernel), List.mem_of_getElem? (i := 796) (by decide +kernel), List.mem_of_getElem? (i := 797) (by decide +kernel)⟩
theorem lw_p43 : lw_okq (⟨"PathShelfModel", "seek", "(III)I"⟩, 26) := ⟨⟨by decide +kernel, by decide +kernel⟩, List.mem_of_getElem? (i := 592) (by decide +kernel), List.mem_of_getElem? (i := 800) (by decide +kernel), List.mem_of_getElem? (i := 801) (by decide +kernel)⟩
theorem lw_p44 : lw_okq (⟨"PathShelfModel", "isName", "(III)Z"⟩, 26) := ⟨⟨by decide +kernel, by decide +kernel⟩, List.mem_of_getElem? (i := 592) (by decide +kernel), List.mem_of_getElem? (i := 804) (by decide +kernel), List.mem_of_getElem? (i := 805) (by decide +kernel)⟩
theorem lw_p45 : lw_okq (⟨"PathShelfModel", "items", "(III)V"⟩, 26) := ⟨⟨by decide +kernel, by decide +kernel⟩, List.mem_of_getElem? (i := 592) (by decide +kernel), List.mem_of_getElem? (i := 808) (by decide +kernel), List.mem_of_getElem? (i := 809) (by decide +kernel)⟩
theorem lw_p46 : lw_okq (⟨"PathShelfModel", "turn", "()V"⟩, 26) := ⟨⟨by decide +kernel, by decide +kernel⟩, List.mem_of_getElem? (i := 592) (by decide +kernel), List.mem_of_getElem? (i := 812) (by decide +kernel), List.mem_of_getElem? (i := 813) (by decide +kernel)⟩
theorem lw_p47 : lw_okq (⟨"PathShelfModel", "equal", "(IIII)Z"⟩, 26) := ⟨⟨by decide +kernel, by decide +kernel⟩, List.mem_of_getElem? (i := 592) (by decide +kernel), List.mem_of_getElem? (i := 816) (by decide +kernel), List.mem_of_getElem? (i := 817) (by decide +kernel)⟩
def lw_privs_3 : List (MethodName × Nat) := [(⟨"PathShelfModel", "readName", "(III)I"⟩, 26), (⟨"PathShelfModel", "nameEnd", "(I)I"⟩, 26), (⟨"PathShelfModel", "behind", "(II)I"⟩, 26), (⟨"PathShelfModel", "numberAt", "(I)I"⟩, 26), (⟨"PathShelfModel", "value", "(I)I"⟩, 26), (⟨"PathShelfModel", "holder", "(I)I"⟩, 26), (⟨"PathShelfModel", "move", "(II)V"⟩, 26), (⟨"PathShelfModel", "copyPath", "(II)V"⟩, 26), (⟨"PathShelfModel", "gather", "(II)I"⟩, 26), (⟨"PathShelfModel", "come", "(II)I"⟩, 26), (⟨"PathShelfModel", "lead", "(IIII)V"⟩, 26), (⟨"PathShelfModel", "seek", "(III)I"⟩, 26), (⟨"PathShelfModel", "isName", "(III)Z"⟩, 26), (⟨"PathShelfModel", "items", "(III)V"⟩, 26), (⟨"PathShelfModel", "turn", "()V"⟩, 26), (⟨"PathShelfModel", "equal", "(IIII)Z"⟩, 26)]
theorem lw_r3 : ∀ q ∈ lw_privs_3, lw_okq q := List.forall_mem_cons.mpr ⟨lw_p32, List.forall_mem_cons.mpr ⟨lw_p33, List.forall_mem_cons.mpr ⟨lw_p34, List.forall_mem_cons.mpr ⟨lw_p35, List.forall_mem_cons.mpr ⟨lw_p36, List.forall_mem_cons.mpr ⟨lw_p37, List.forall_mem_cons.mpr ⟨lw_p38, List.forall_mem_cons.mpr ⟨lw_p39, List.forall_mem_cons.mpr ⟨lw_p40, List.forall_mem_cons.mpr ⟨lw_p41, List.forall_mem_cons.mpr ⟨lw_p42, List.forall_mem_cons.mpr ⟨lw_p43, List.forall_mem_cons.mpr ⟨lw_p44, List.forall_mem_cons.mpr ⟨lw_p45, List.forall_mem_cons.mpr ⟨lw_p46, List.forall_mem_cons.mpr ⟨lw_p47, fun _ h => absurd h List.not_mem_nil⟩⟩⟩⟩⟩⟩⟩⟩⟩⟩⟩⟩⟩⟩⟩⟩
theorem lw_p48 : lw_okq (⟨"PathShelfModel", "match", "()V"⟩, 26) := ⟨⟨by decide +kernel, by decide +kernel⟩, List.mem_of_getElem? (i := 592) (by decide +kernel), List.mem_of_getElem? (i := 832) (by decide +kernel), List.mem_of_getElem? (i := 833) (by decide +kernel)⟩
theorem lw_p49 : lw_okq (⟨"PathShelfModel", "uses", "(I)Z"⟩, 26) := ⟨⟨by decide +kernel, by decide +kernel⟩, List.mem_of_getElem? (i := 592) (by decide +kernel), List.mem_of_getElem? (i := 836) (by decide +kernel), List.mem_of_getElem? (i := 837) (by decide +kernel)⟩
theorem lw_p50 : lw_okq (⟨"PathShelfModel", "samePath", "(II)Z"⟩, 26) := ⟨⟨by decide +kernel, by decide +kernel⟩, List.mem_of_getElem? (i := 592) (by decide +kernel), List.mem_of_getElem? (i := 840) (by decide +kernel), List.mem_of_getElem? (i := 841) (by decide +kernel)⟩
theorem lw_p51 : lw_okq (⟨"PathShelfModel", "holds", "(II)Z"⟩, 26) := ⟨⟨by decide +kernel, by decide +kernel⟩, List.mem_of_getElem? (i := 592) (by decide +kernel), List.mem_of_getElem? (i := 844) (by decide +kernel), List.mem_of_getElem? (i := 845) (by decide +kernel)⟩
theorem lw_p52 : lw_okq (⟨"PathShelfModel", "isEqual", "(II)Z"⟩, 26) := ⟨⟨by decide +kernel, by decide +kernel⟩, List.mem_of_getElem? (i := 592) (by decide +kernel), List.mem_of_getElem? (i := 848) (by decide +kernel), List.mem_of_getElem? (i := 849) (by decide +kernel)⟩
theorem lw_p53 : lw_okq (⟨"PathShelfModel", "isCompared", "(II)Z"⟩, 26) := ⟨⟨by decide +kernel, by decide +kernel⟩, List.mem_of_getElem? (i := 592) (by decide +kernel), List.mem_of_getElem? (i := 852) (by decide +kernel), List.mem_of_getElem? (i := 853) (by decide +kernel)⟩
theorem lw_p54 : lw_okq (⟨"PathShelfModel", "compare", "(III)I"⟩, 26) := ⟨⟨by decide +kernel, by decide +kernel⟩, List.mem_of_getElem? (i := 592) (by decide +kernel), List.mem_of_getElem? (i := 856) (by decide +kernel), List.mem_of_getElem? (i := 857) (by decide +kernel)⟩
theorem lw_p55 : lw_okq (⟨"PathShelfModel", "isLong", "(II)Z"⟩, 26) := ⟨⟨by decide +kernel, by decide +kernel⟩, List.mem_of_getElem? (i := 592) (by decide +kernel), List.mem_of_getElem? (i := 860) (by decide +kernel), List.mem_of_getElem? (i := 861) (by decide +kernel)⟩
theorem lw_p56 : lw_okq (⟨"PathShelfModel", "operate", "(I)Z"⟩, 26) := ⟨⟨by decide +kernel, by decide +kernel⟩, List.mem_of_getElem? (i := 592) (by decide +kernel), List.mem_of_getElem? (i := 876) (by decide +kernel), List.mem_of_getElem? (i := 877) (by decide +kernel)⟩
theorem lw_p57 : lw_okq (⟨"PathShelfModel", "go", "()I"⟩, 26) := ⟨⟨by decide +kernel, by decide +kernel⟩, List.mem_of_getElem? (i := 592) (by decide +kernel), List.mem_of_getElem? (i := 880) (by decide +kernel), List.mem_of_getElem? (i := 881) (by decide +kernel)⟩
theorem lw_p58 : lw_okq (⟨"PathShelfModel", "arrive", "(II)V"⟩, 26) := ⟨⟨by decide +kernel, by decide +kernel⟩, List.mem_of_getElem? (i := 592) (by decide +kernel), List.mem_of_getElem? (i := 884) (by decide +kernel), List.mem_of_getElem? (i := 885) (by decide +kernel)⟩
theorem lw_p59 : lw_okq (⟨"PathShelfModel", "nameSize", "(I)I"⟩, 26) := ⟨⟨by decide +kernel, by decide +kernel⟩, List.mem_of_getElem? (i := 592) (by decide +kernel), List.mem_of_getElem? (i := 888) (by decide +kernel), List.mem_of_getElem? (i := 889) (by decide +kernel)⟩
theorem lw_p60 : lw_okq (⟨"PathShelfModel", "addName", "(II)V"⟩, 26) := ⟨⟨by decide +kernel, by decide +kernel⟩, List.mem_of_getElem? (i := 592) (by decide +kernel), List.mem_of_getElem? (i := 892) (by decide +kernel), List.mem_of_getElem? (i := 893) (by decide +kernel)⟩
theorem lw_p61 : lw_okq (⟨"PathShelfModel", "add", "(I)V"⟩, 26) := ⟨⟨by decide +kernel, by decide +kernel⟩, List.mem_of_getElem? (i := 592) (by decide +kernel), List.mem_of_getElem? (i := 896) (by decide +kernel), List.mem_of_getElem? (i := 897) (by decide +kernel)⟩
theorem lw_p62 : lw_okq (⟨"PathShelfModel", "addOperand", "(Z)V"⟩, 26) := ⟨⟨by decide +kernel, by decide +kernel⟩, List.mem_of_getElem? (i := 592) (by decide +kernel), List.mem_of_getElem? (i := 900) (by decide +kernel), List.mem_of_getElem? (i := 901) (by decide +kernel)⟩
theorem lw_p63 : lw_okq (⟨"PathShelfModel", "splice", "(IIII)V"⟩, 26) := ⟨⟨by decide +kernel, by decide +kernel⟩, List.mem_of_getElem? (i := 592) (by decide +kernel), List.mem_of_getElem? (i := 904) (by decide +kernel), List.mem_of_getElem? (i := 905) (by decide +kernel)⟩
def lw_privs_4 : List (MethodName × Nat) := [(⟨"PathShelfModel", "match", "()V"⟩, 26), (⟨"PathShelfModel", "uses", "(I)Z"⟩, 26), (⟨"PathShelfModel", "samePath", "(II)Z"⟩, 26), (⟨"PathShelfModel", "holds", "(II)Z"⟩, 26), (⟨"PathShelfModel", "isEqual", "(II)Z"⟩, 26), (⟨"PathShelfModel", "isCompared", "(II)Z"⟩, 26), (⟨"PathShelfModel", "compare", "(III)I"⟩, 26), (⟨"PathShelfModel", "isLong", "(II)Z"⟩, 26), (⟨"PathShelfModel", "operate", "(I)Z"⟩, 26), (⟨"PathShelfModel", "go", "()I"⟩, 26), (⟨"PathShelfModel", "arrive", "(II)V"⟩, 26), (⟨"PathShelfModel", "nameSize", "(I)I"⟩, 26), (⟨"PathShelfModel", "addName", "(II)V"⟩, 26), (⟨"PathShelfModel", "add", "(I)V"⟩, 26), (⟨"PathShelfModel", "addOperand", "(Z)V"⟩, 26), (⟨"PathShelfModel", "splice", "(IIII)V"⟩, 26)]
theorem lw_r4 : ∀ q ∈ lw_privs_4, lw_okq q := List.forall_mem_cons.mpr ⟨lw_p48, List.forall_mem_cons.mpr ⟨lw_p49, List.forall_mem_cons.mpr ⟨lw_p50, List.forall_mem_cons.mpr ⟨lw_p51, List.forall_mem_cons.mpr ⟨lw_p52, List.forall_mem_cons.mpr ⟨lw_p53, List.forall_mem_cons.mpr ⟨lw_p54, List.forall_mem_cons.mpr ⟨lw_p55, List.forall_mem_cons.mpr ⟨lw_p56, List.forall_mem_cons.mpr ⟨lw_p57, List.forall_mem_cons.mpr ⟨lw_p58, List.forall_mem_cons.mpr ⟨lw_p59, List.forall_mem_cons.mpr ⟨lw_p60, List.forall_mem_cons.mpr ⟨lw_p61, List.forall_mem_cons.mpr ⟨lw_p62, List.forall_mem_cons.mpr ⟨lw_p63, fun _ h => absurd h List.not_mem_nil⟩⟩⟩⟩⟩⟩⟩⟩⟩⟩⟩⟩⟩⟩⟩⟩
theorem lw_p64 : lw_okq (⟨"PathShelfModel", "setIt", "(I)V"⟩, 26) := ⟨⟨by decide +kernel, by decide +kernel⟩, List.mem_of_getElem? (i := 592) (by decide +kernel), List.mem_of_getElem? (i := 908) (by decide +kernel), List.mem_of_getElem? (i := 909) (by decide +kernel)⟩
theorem lw_p65 : lw_okq (⟨"PathShelfModel", "addIt", "(I)Z"⟩, 26) := ⟨⟨by decide +kernel, by decide +kernel⟩, List.mem_of_getElem? (i := 592) (by decide +kernel), List.mem_of_getElem? (i := 912) (by decide +kernel), List.mem_of_getElem? (i := 913) (by decide +kernel)⟩
theorem lw_p66 : lw_okq (⟨"PathShelfModel", "pull", "(I)V"⟩, 26) := ⟨⟨by decide +kernel, by decide +kernel⟩, List.mem_of_getElem? (i := 592) (by decide +kernel), List.mem_of_getElem? (i := 916) (by decide +kernel), List.mem_of_getElem? (i := 917) (by decide +kernel)⟩
def lw_privs_5 : List (MethodName × Nat) := [(⟨"PathShelfModel", "setIt", "(I)V"⟩, 26), (⟨"PathShelfModel", "addIt", "(I)Z"⟩, 26), (⟨"PathShelfModel", "pull", "(I)V"⟩, 26)]
theorem lw_r5 : ∀ q ∈ lw_privs_5, lw_okq q := List.forall_mem_cons.mpr ⟨lw_p64, List.forall_mem_cons.mpr ⟨lw_p65, List.forall_mem_cons.mpr ⟨lw_p66, fun _ h => absurd h List.not_mem_nil⟩⟩⟩
def lw_privs : List (MethodName × Nat) := lw_privs_1 ++ (lw_privs_2 ++ (lw_privs_3 ++ (lw_privs_4 ++ (lw_privs_5))))
def lw_tbl : List Cond := k2_sels lw_privs ++ tables_1
theorem lw_privs_ok : ∀ q ∈ lw_privs, lw_okq q := by
  show ∀ q ∈ lw_privs_1 ++ (lw_privs_2 ++ (lw_privs_3 ++ (lw_privs_4 ++ (lw_privs_5)))), lw_okq q
  exact List.forall_mem_append.mpr ⟨lw_r1, List.forall_mem_append.mpr ⟨lw_r2, List.forall_mem_append.mpr ⟨lw_r3, List.forall_mem_append.mpr ⟨lw_r4, lw_r5⟩⟩⟩⟩
end
section
def Rn0 : String := "PathShelf"
def Tn0 : u_T := fun k => match k with
  | 0 => ("PathShelf", "buffer", "LPathShelf$Row;", true)
  | 1 => ("PathShelf", "typed", "LPathShelf$Path;", true)
  | 2 => ("PathShelf", "store", "LPathShelf$Store;", true)
  | 3 => ("PathShelf", "indexPaths", "[LPathShelf$Path;", true)
  | 4 => ("PathShelf", "conditions", "[LPathShelf$Condition;", true)
  | 5 => ("PathShelf", "conditionTotal", "I", false)
  | 6 => ("PathShelf", "tree", "LPathShelf$Tree;", true)
  | 7 => ("PathShelf", "trail", "LPathShelf$Trail;", true)
  | 8 => ("PathShelf", "editor", "LPathShelf$Editor;", true)
  | 9 => ("PathShelf", "matches", "[I", true)
  | 10 => ("PathShelf", "matchTotal", "I", false)
  | 11 => ("PathShelf", "examinedTotal", "I", false)
  | 12 => ("PathShelf", "foundNumbers", "[I", true)
  | _ => ("PathShelf", "foundTotal", "I", false)
def Rn1 : String := "PathShelf$Condition"
def Tn1 : u_T := fun k => match k with
  | 0 => ("PathShelf$Condition", "path", "LPathShelf$Path;", true)
  | 1 => ("PathShelf$Condition", "operand", "LPathShelf$Row;", true)
  | _ => ("PathShelf$Condition", "form", "I", false)
def Rn2 : String := "PathShelf$Editor"
def Tn2 : u_T := fun k => match k with
  | 0 => ("PathShelf$Editor", "piece", "LPathShelf$Row;", true)
  | 1 => ("PathShelf$Editor", "result", "LPathShelf$Row;", true)
  | 2 => ("PathShelf$Editor", "check", "LPathShelf$Tree;", true)
  | 3 => ("PathShelf$Editor", "opened", "[I", true)
  | 4 => ("PathShelf$Editor", "openedTotal", "I", false)
  | 5 => ("PathShelf$Editor", "nest", "I", false)
  | 6 => ("PathShelf$Editor", "from", "I", false)
  | _ => ("PathShelf$Editor", "to", "I", false)
def Rn3 : String := "PathShelf$Path"
def Tn3 : u_T := fun k => match k with
  | 0 => ("PathShelf$Path", "names", "[I", true)
  | _ => ("PathShelf$Path", "length", "I", false)
def Rn4 : String := "PathShelf$Row"
def Tn4 : u_T := fun k => match k with
  | 0 => ("PathShelf$Row", "cells", "[I", true)
  | _ => ("PathShelf$Row", "length", "I", false)
def Rn5 : String := "PathShelf$Store"
def Tn5 : u_T := fun k => match k with
  | 0 => ("PathShelf$Store", "documents", "[LPathShelf$Row;", true)
  | 1 => ("PathShelf$Store", "numbers", "[I", true)
  | _ => ("PathShelf$Store", "total", "I", false)
def Rn6 : String := "PathShelf$Trail"
def Tn6 : u_T := fun k => match k with
  | 0 => ("PathShelf$Trail", "gone", "[I", true)
  | 1 => ("PathShelf$Trail", "nodes", "[I", true)
  | 2 => ("PathShelf$Trail", "byNames", "[Z", true)
  | _ => ("PathShelf$Trail", "total", "I", false)
def Rn7 : String := "PathShelf$Tree"
def Tn7 : u_T := fun k => match k with
  | 0 => ("PathShelf$Tree", "types", "[I", true)
  | 1 => ("PathShelf$Tree", "names", "[I", true)
  | 2 => ("PathShelf$Tree", "starts", "[I", true)
  | 3 => ("PathShelf$Tree", "places", "[I", true)
  | 4 => ("PathShelf$Tree", "ends", "[I", true)
  | 5 => ("PathShelf$Tree", "parents", "[I", true)
  | 6 => ("PathShelf$Tree", "total", "I", false)
  | 7 => ("PathShelf$Tree", "row", "LPathShelf$Row;", false)
  | 8 => ("PathShelf$Tree", "place", "I", false)
  | 9 => ("PathShelf$Tree", "fault", "I", false)
  | 10 => ("PathShelf$Tree", "open", "I", false)
  | _ => ("PathShelf$Tree", "depth", "I", false)
def Rn8 : String := "PathShelfModel"
def Tn8 : u_T := fun k => match k with
  | 0 => ("PathShelfModel", "m", "[I", false)
  | 1 => ("PathShelfModel", "size", "I", false)
  | 2 => ("PathShelfModel", "documents", "I", false)
  | 3 => ("PathShelfModel", "length", "[I", false)
  | 4 => ("PathShelfModel", "number", "[I", false)
  | 5 => ("PathShelfModel", "names", "[I", false)
  | 6 => ("PathShelfModel", "letters", "[I", false)
  | 7 => ("PathShelfModel", "conditions", "I", false)
  | 8 => ("PathShelfModel", "form", "[I", false)
  | 9 => ("PathShelfModel", "foundCount", "I", false)
  | 10 => ("PathShelfModel", "foundNumber", "[I", false)
  | 11 => ("PathShelfModel", "examinedCount", "I", false)
  | 12 => ("PathShelfModel", "matches", "[Z", false)
  | 13 => ("PathShelfModel", "many", "I", false)
  | 14 => ("PathShelfModel", "type", "[I", false)
  | 15 => ("PathShelfModel", "place", "[I", false)
  | 16 => ("PathShelfModel", "nextType", "[I", false)
  | 17 => ("PathShelfModel", "nextPlace", "[I", false)
  | 18 => ("PathShelfModel", "starts", "[I", false)
  | 19 => ("PathShelfModel", "kinds", "[I", false)
  | 20 => ("PathShelfModel", "fault", "I", false)
  | 21 => ("PathShelfModel", "way", "[I", false)
  | 22 => ("PathShelfModel", "element", "I", false)
  | 23 => ("PathShelfModel", "workSize", "I", false)
  | 24 => ("PathShelfModel", "row", "[I", false)
  | _ => ("PathShelfModel", "rowSize", "I", false)
def Yn0 : Nat → FieldType := fun k => match k with
  | 0 => .object "PathShelf$Row"
  | 1 => .object "PathShelf$Path"
  | 2 => .object "PathShelf$Store"
  | 3 => .array (.object "PathShelf$Path")
  | 4 => .array (.object "PathShelf$Condition")
  | 5 => .int
  | 6 => .object "PathShelf$Tree"
  | 7 => .object "PathShelf$Trail"
  | 8 => .object "PathShelf$Editor"
  | 9 => .array .int
  | 10 => .int
  | 11 => .int
  | 12 => .array .int
  | _ => .int
def Yn1 : Nat → FieldType := fun k => match k with
  | 0 => .object "PathShelf$Path"
  | 1 => .object "PathShelf$Row"
  | _ => .int
def Yn2 : Nat → FieldType := fun k => match k with
  | 0 => .object "PathShelf$Row"
  | 1 => .object "PathShelf$Row"
  | 2 => .object "PathShelf$Tree"
  | 3 => .array .int
  | 4 => .int
  | 5 => .int
  | 6 => .int
  | _ => .int
def Yn3 : Nat → FieldType := fun k => match k with
  | 0 => .array .int
  | _ => .int
def Yn4 : Nat → FieldType := fun k => match k with
  | 0 => .array .int
  | _ => .int
def Yn5 : Nat → FieldType := fun k => match k with
  | 0 => .array (.object "PathShelf$Row")
  | 1 => .array .int
  | _ => .int
def Yn6 : Nat → FieldType := fun k => match k with
  | 0 => .array .int
  | 1 => .array .int
  | 2 => .array .boolean
  | _ => .int
def Yn7 : Nat → FieldType := fun k => match k with
  | 0 => .array .int
  | 1 => .array .int
  | 2 => .array .int
  | 3 => .array .int
  | 4 => .array .int
  | 5 => .array .int
  | 6 => .int
  | 7 => .object "PathShelf$Row"
  | 8 => .int
  | 9 => .int
  | 10 => .int
  | _ => .int
def Yn8 : Nat → FieldType := fun k => match k with
  | 0 => .array .int
  | 1 => .int
  | 2 => .int
  | 3 => .array .int
  | 4 => .array .int
  | 5 => .array .int
  | 6 => .array .int
  | 7 => .int
  | 8 => .array .int
  | 9 => .int
  | 10 => .array .int
  | 11 => .int
  | 12 => .array .boolean
  | 13 => .int
  | 14 => .array .int
  | 15 => .array .int
  | 16 => .array .int
  | 17 => .array .int
  | 18 => .array .int
  | 19 => .array .int
  | 20 => .int
  | 21 => .array .int
  | 22 => .int
  | 23 => .int
  | 24 => .array .int
  | _ => .int
abbrev cls_ : List vw_C := [(Rn0, Tn0, 14), (Rn1, Tn1, 3), (Rn2, Tn2, 8), (Rn3, Tn3, 2), (Rn4, Tn4, 2), (Rn5, Tn5, 3), (Rn6, Tn6, 4), (Rn7, Tn7, 12), (Rn8, Tn8, 26)]
/-- kinds of slots: 0 int, 1 a reference at a fixed distance, 2 another reference -/
def fkL : List (List Nat) := [[1, 1, 1, 1, 1, 0, 1, 1, 1, 1, 0, 0, 1, 0], [1, 1, 0], [1, 1, 1, 1, 0, 0, 0, 0], [1, 0], [1, 0], [1, 1, 0], [1, 1, 1, 0], [1, 1, 1, 1, 1, 1, 0, 2, 0, 0, 0, 0], [1, 0, 0, 1, 1, 1, 1, 0, 1, 0, 1, 0, 1, 0, 1, 1, 1, 1, 1, 1, 0, 1, 0, 0, 1, 0]]
def ofL : List (List Nat) := [[1, 3, 5, 40, 41, 0, 42, 51, 55, 70, 0, 0, 71, 0], [1, 3, 0], [1, 3, 5, 14, 0, 0, 0, 0], [1, 0], [1, 0], [1, 2, 0], [1, 2, 3, 0], [1, 2, 3, 4, 5, 6, 0, 0, 0, 0, 0, 0], [1, 0, 0, 2, 3, 4, 5, 0, 6, 0, 7, 0, 8, 0, 9, 10, 11, 12, 13, 14, 0, 15, 0, 0, 16, 0]]
/-- kinds of arrays of references: their place in the list of array types -/
def kqT (t : Nat) : Option Nat := match t with
  | 3 => some 2
  | 5 => some 3
  | 6 => some 4
  | _ => none
def am_tys (K : Nat → ClassId) : List (ClassId × FieldType) := [(K 0, .int), (K 1, .boolean), (K 3, .object Rn1), (K 5, .object Rn3), (K 6, .object Rn4)]
def fkT (c s : Nat) : Nat := (fkL.getD c []).getD s 0
def ofT (c s : Nat) : Nat := (ofL.getD c []).getD s 0
end
section
/-! THE ABSTRACT MACHINE, first half: its types and its memory. (Goes behind the names: fkT, ofT, kqT.)
An interpreter of the decoded instructions over a small memory. The kernel runs it where all is known (constructors); rfl unfolds it where values are variables (stretches). Its soundness turns a result of it into a contract over the machine.
Memory: (shapes, ints, references). An address is the number of the cell in the order in which the law makes them; the machine's own address is base + it. -/
def zI (n : Int) : Int32 := Int32.ofInt n
/-- a cell's shape: an object of class c (its place in the class list), or an array of kind t (0 int, 1 boolean, 2 + c: of class c) and length n -/
abbrev Sh_ : Type := Nat ⊕ (Nat × Nat)
abbrev Mm_ : Type := List Sh_ × (Nat → Nat → Int32) × (Nat → Nat → Option Nat)
/-- an instruction with what it links: pc, instruction, length, three numbers, a list (switches: key and target; ldc: the constant; calls: nest or not, class) -/
abbrev En_ : Type := Nat × Instr × Nat × Nat × Nat × Nat × List (Int × Nat)
/-- a method: code, how it returns (0 nothing, 1 int, 2 boolean) -/
abbrev Mt_ : Type := List En_ × Nat
abbrev Out_ : Type := Option Value × Mm_
def up2 {α : Type} (f : Nat → Nat → α) (a j : Nat) (x : α) : Nat → Nat → α := fun b i => if b = a then (if i = j then x else f b i) else f b i
def rw1 {α : Type} (f : Nat → Nat → α) (a : Nat) (r : Nat → α) : Nat → Nat → α := fun b i => if b = a then r i else f b i
def am_fd (pc : Nat) : List En_ → Option En_
  | [] => none
  | e :: r => cond (Nat.beq e.1 pc) (some e) (am_fd pc r)
def am_ushr (x y : Int32) : Int32 := (x.toUInt32 >>> (y.toUInt32 &&& Int32.toUInt32 31)).toInt32
def am_bit (x : Int32) : Bool := decide (x = 0) || decide (x = 1)
def am_in (i : Int32) (n : Nat) : Bool := decide (0 ≤ i.toInt ∧ i.toInt < (n : Int))
def am_okO (M : Mm_) (a c : Nat) : Bool := decide (M.1[a]? = some (.inl c))
def am_okF (M : Mm_) (a c s : Nat) : Bool := am_okO M a c && (!(Nat.beq (fkT c s) 1) || decide (M.2.2 a s = some (a + ofT c s)))
/-- a slot takes an int (w = 0) or a reference (w = 1) -/
def am_okP (M : Mm_) (a c s w : Nat) : Bool := am_okO M a c && Nat.beq (min (fkT c s) 1) w
def am_okA (M : Mm_) (a t : Nat) (i : Int32) : Bool := match M.1[a]? with
  | some (.inr (t', n)) => Nat.beq t' t && am_in i n
  | _ => false
def am_okQ (M : Mm_) (a : Nat) (i : Int32) : Bool := match M.1[a]? with
  | some (.inr (t', n)) => (kqT t').isSome && am_in i n
  | _ => false
def am_okS (M : Mm_) (a v : Nat) (i : Int32) : Bool := match M.1[a]?, M.1[v]? with
  | some (.inr (t', n)), some (.inl c) => Nat.beq t' (c + 2) && (kqT t').isSome && am_in i n
  | _, _ => false
def am_okC (M : Mm_) (a b : Nat) (sp dp n : Int32) : Bool := match M.1[a]?, M.1[b]? with
  | some (.inr (0, x)), some (.inr (0, y)) => decide (0 ≤ sp.toInt ∧ 0 ≤ dp.toInt ∧ 0 ≤ n.toInt ∧ sp.toInt + n.toInt ≤ (x : Int) ∧ dp.toInt + n.toInt ≤ (y : Int))
  | _, _ => false
def am_len (M : Mm_) (a : Nat) : Option Nat := match M.1[a]? with
  | some (.inr (t, n)) => cond (Nat.ble t 1 || (kqT t).isSome) (some n) none
  | _ => none
def am_setI (M : Mm_) (a j : Nat) (x : Int32) : Mm_ := (M.1, up2 M.2.1 a j x, M.2.2)
def am_setR (M : Mm_) (a j b : Nat) : Mm_ := (M.1, M.2.1, up2 M.2.2 a j (some b))
def am_new (M : Mm_) (h : Sh_) : Mm_ := (M.1 ++ [h], rw1 M.2.1 M.1.length (fun _ => 0), rw1 M.2.2 M.1.length (fun _ => none))
def am_copy (M : Mm_) (a b sp dp n : Nat) : Mm_ := (M.1, rw1 M.2.1 b (va_cpy (M.2.1 a) (M.2.1 b) sp dp n), M.2.2)
def am_get (M : Mm_) (a c s : Nat) (k : Value → Option Out_) : Option Out_ := match fkT c s with
  | 0 => k (.int (M.2.1 a s))
  | 1 => k (.ref (a + ofT c s))
  | _ => cond (M.2.2 a s).isSome (k (.ref ((M.2.2 a s).getD 0))) none
/-! what lies on top of the stack -/
def sI (st : List Value) (f : Int32 → List Value → Option Out_) : Option Out_ := match st with
  | .int x :: q => f x q
  | _ => none
def sII (st : List Value) (f : Int32 → Int32 → List Value → Option Out_) : Option Out_ := match st with
  | .int y :: .int x :: q => f x y q
  | _ => none
def sR (st : List Value) (f : Nat → List Value → Option Out_) : Option Out_ := match st with
  | .ref a :: q => f a q
  | _ => none
def sIR (st : List Value) (f : Int32 → Nat → List Value → Option Out_) : Option Out_ := match st with
  | .int i :: .ref a :: q => f i a q
  | _ => none
def sIIR (st : List Value) (f : Int32 → Int32 → Nat → List Value → Option Out_) : Option Out_ := match st with
  | .int x :: .int i :: .ref a :: q => f x i a q
  | _ => none
def sRIR (st : List Value) (f : Nat → Int32 → Nat → List Value → Option Out_) : Option Out_ := match st with
  | .ref v :: .int i :: .ref a :: q => f v i a q
  | _ => none
theorem sI_inv {st : List Value} {f : Int32 → List Value → Option Out_} {o : Out_} (h : sI st f = some o) : ∃ x q, st = .int x :: q ∧ f x q = some o := by
  unfold sI at h
  split at h
  · exact ⟨_, _, rfl, h⟩
  · cases h
theorem sII_inv {st : List Value} {f : Int32 → Int32 → List Value → Option Out_} {o : Out_} (h : sII st f = some o) : ∃ x y q, st = .int y :: .int x :: q ∧ f x y q = some o := by
  unfold sII at h
  split at h
  · exact ⟨_, _, _, rfl, h⟩
  · cases h
theorem sR_inv {st : List Value} {f : Nat → List Value → Option Out_} {o : Out_} (h : sR st f = some o) : ∃ a q, st = .ref a :: q ∧ f a q = some o := by
  unfold sR at h
  split at h
  · exact ⟨_, _, rfl, h⟩
  · cases h
theorem sIR_inv {st : List Value} {f : Int32 → Nat → List Value → Option Out_} {o : Out_} (h : sIR st f = some o) : ∃ i a q, st = .int i :: .ref a :: q ∧ f i a q = some o := by
  unfold sIR at h
  split at h
  · exact ⟨_, _, _, rfl, h⟩
  · cases h
theorem sIIR_inv {st : List Value} {f : Int32 → Int32 → Nat → List Value → Option Out_} {o : Out_} (h : sIIR st f = some o) : ∃ x i a q, st = .int x :: .int i :: .ref a :: q ∧ f x i a q = some o := by
  unfold sIIR at h
  split at h
  · exact ⟨_, _, _, _, rfl, h⟩
  · cases h
theorem sRIR_inv {st : List Value} {f : Nat → Int32 → Nat → List Value → Option Out_} {o : Out_} (h : sRIR st f = some o) : ∃ v i a q, st = .ref v :: .int i :: .ref a :: q ∧ f v i a q = some o := by
  unfold sRIR at h
  split at h
  · exact ⟨_, _, _, _, rfl, h⟩
  · cases h
theorem cond_inv {α : Type} {c : Bool} {x : Option α} {o : α} (h : cond c x none = some o) : c = true ∧ x = some o := by
  cases c
  · cases h
  · exact ⟨rfl, h⟩
end
section
def k_P_init : List En_ := [(0, .aload_n 0, 1, 0, 0, 0, []), (1, .invokespecial 1, 3, 900, 1, 83, []), (4, .aload_n 0, 1, 0, 0, 0, []), (5, .new 7, 3, 4, 87, 86, []), (8, .dup, 1, 0, 0, 0, []), (9, .bipush 80, 2, 0, 0, 0, []), (11, .invokespecial 11, 3, 1, 2, 88, [(0, 4)]), (14, .putfield 14, 3, 0, 0, 286, []), (17, .aload_n 0, 1, 0, 0, 0, []), (18, .new 18, 3, 3, 107, 106, []), (21, .dup, 1, 0, 0, 0, []), (22, .invokespecial 20, 3, 2, 1, 108, [(1, 3)]), (25, .putfield 21, 3, 0, 1, 287, []), (28, .aload_n 0, 1, 0, 0, 0, []), (29, .new 25, 3, 5, 123, 122, []), (32, .dup, 1, 0, 0, 0, []), (33, .invokespecial 27, 3, 3, 1, 124, [(0, 5)]), (36, .putfield 28, 3, 0, 2, 288, []), (39, .aload_n 0, 1, 0, 0, 0, []), (40, .iconst 2, 1, 0, 0, 0, []), (41, .anewarray 18, 3, 3, 144, 106, []), (44, .putfield 32, 3, 0, 3, 289, []), (47, .aload_n 0, 1, 0, 0, 0, []), (48, .iconst 3, 1, 0, 0, 0, []), (49, .anewarray 36, 3, 1, 146, 145, []), (52, .putfield 38, 3, 0, 4, 290, []), (55, .aload_n 0, 1, 0, 0, 0, []), (56, .new 42, 3, 7, 148, 147, []), (59, .dup, 1, 0, 0, 0, []), (60, .invokespecial 44, 3, 4, 1, 149, [(1, 7)]), (63, .putfield 45, 3, 0, 6, 292, []), (66, .aload_n 0, 1, 0, 0, 0, []), (67, .new 49, 3, 6, 209, 208, []), (70, .dup, 1, 0, 0, 0, []), (71, .invokespecial 51, 3, 5, 1, 210, [(1, 6)]), (74, .putfield 52, 3, 0, 7, 293, []), (77, .aload_n 0, 1, 0, 0, 0, []), (78, .new 56, 3, 2, 232, 231, []), (81, .dup, 1, 0, 0, 0, []), (82, .invokespecial 58, 3, 6, 1, 233, [(1, 2)]), (85, .putfield 59, 3, 0, 8, 294, []), (88, .aload_n 0, 1, 0, 0, 0, []), (89, .bipush 16, 2, 0, 0, 0, []), (91, .newarray .int, 2, 0, 0, 105, []), (93, .putfield 63, 3, 0, 9, 295, []), (96, .aload_n 0, 1, 0, 0, 0, []), (97, .bipush 16, 2, 0, 0, 0, []), (99, .newarray .int, 2, 0, 0, 105, []), (101, .putfield 67, 3, 0, 12, 298, []), (104, .iconst 0, 1, 0, 0, 0, []), (105, .istore_n 1, 1, 0, 0, 0, []), (106, .iload_n 1, 1, 0, 0, 0, []), (107, .iconst 2, 1, 0, 0, 0, []), (108, .if_icmp .ge 22, 3, 130, 0, 0, []), (111, .aload_n 0, 1, 0, 0, 0, []), (112, .getfield 32, 3, 0, 3, 289, []), (115, .iload_n 1, 1, 0, 0, 0, []), (116, .new 18, 3, 3, 107, 106, []), (119, .dup, 1, 0, 0, 0, []), (120, .invokespecial 20, 3, 2, 1, 108, [(1, 3)]), (123, .aastore, 1, 0, 0, 0, []), (124, .iinc 1 1, 3, 0, 0, 0, []), (127, .goto (-21), 3, 106, 0, 0, []), (130, .iconst 0, 1, 0, 0, 0, []), (131, .istore_n 1, 1, 0, 0, 0, []), (132, .iload_n 1, 1, 0, 0, 0, []), (133, .iconst 3, 1, 0, 0, 0, []), (134, .if_icmp .ge 22, 3, 156, 0, 0, []), (137, .aload_n 0, 1, 0, 0, 0, []), (138, .getfield 38, 3, 0, 4, 290, []), (141, .iload_n 1, 1, 0, 0, 0, []), (142, .new 36, 3, 1, 266, 145, []), (145, .dup, 1, 0, 0, 0, []), (146, .invokespecial 70, 3, 7, 1, 267, [(1, 1)]), (149, .aastore, 1, 0, 0, 0, []), (150, .iinc 1 1, 3, 0, 0, 0, []), (153, .goto (-21), 3, 132, 0, 0, []), (156, .return_, 1, 0, 0, 0, [])]
def m_P_init : Mt_ := (k_P_init, 0)
def mt_P_init : Mt_ × Nat × Nat := (m_P_init, 1, 2)
def k_R_init : List En_ := [(0, .aload_n 0, 1, 0, 0, 0, []), (1, .invokespecial 3, 3, 900, 1, 91, []), (4, .aload_n 0, 1, 0, 0, 0, []), (5, .iload_n 1, 1, 0, 0, 0, []), (6, .newarray .int, 2, 0, 0, 105, []), (8, .putfield 9, 3, 4, 0, 92, []), (11, .return_, 1, 0, 0, 0, [])]
def m_R_init : Mt_ := (k_R_init, 0)
def mt_R_init : Mt_ × Nat × Nat := (m_R_init, 2, 2)
def k_H_init : List En_ := [(0, .aload_n 0, 1, 0, 0, 0, []), (1, .invokespecial 3, 3, 900, 1, 111, []), (4, .aload_n 0, 1, 0, 0, 0, []), (5, .iconst 3, 1, 0, 0, 0, []), (6, .newarray .int, 2, 0, 0, 105, []), (8, .putfield 9, 3, 3, 0, 112, []), (11, .return_, 1, 0, 0, 0, [])]
def m_H_init : Mt_ := (k_H_init, 0)
def mt_H_init : Mt_ × Nat × Nat := (m_H_init, 1, 1)
def k_S_init : List En_ := [(0, .aload_n 0, 1, 0, 0, 0, []), (1, .invokespecial 3, 3, 900, 1, 127, []), (4, .aload_n 0, 1, 0, 0, 0, []), (5, .bipush 16, 2, 0, 0, 0, []), (7, .anewarray 9, 3, 4, 129, 128, []), (10, .putfield 11, 3, 5, 0, 131, []), (13, .aload_n 0, 1, 0, 0, 0, []), (14, .bipush 16, 2, 0, 0, 0, []), (16, .newarray .int, 2, 0, 0, 105, []), (18, .putfield 17, 3, 5, 1, 133, []), (21, .iconst 0, 1, 0, 0, 0, []), (22, .istore_n 1, 1, 0, 0, 0, []), (23, .iload_n 1, 1, 0, 0, 0, []), (24, .bipush 16, 2, 0, 0, 0, []), (26, .if_icmp .ge 24, 3, 50, 0, 0, []), (29, .aload_n 0, 1, 0, 0, 0, []), (30, .getfield 11, 3, 5, 0, 131, []), (33, .iload_n 1, 1, 0, 0, 0, []), (34, .new 9, 3, 4, 87, 128, []), (37, .dup, 1, 0, 0, 0, []), (38, .bipush 60, 2, 0, 0, 0, []), (40, .invokespecial 21, 3, 1, 2, 130, [(0, 4)]), (43, .aastore, 1, 0, 0, 0, []), (44, .iinc 1 1, 3, 0, 0, 0, []), (47, .goto (-24), 3, 23, 0, 0, []), (50, .return_, 1, 0, 0, 0, [])]
def m_S_init : Mt_ := (k_S_init, 0)
def mt_S_init : Mt_ × Nat × Nat := (m_S_init, 1, 2)
def k_T_init : List En_ := [(0, .aload_n 0, 1, 0, 0, 0, []), (1, .invokespecial 3, 3, 900, 1, 152, []), (4, .aload_n 0, 1, 0, 0, 0, []), (5, .bipush 80, 2, 0, 0, 0, []), (7, .newarray .int, 2, 0, 0, 105, []), (9, .putfield 9, 3, 7, 0, 155, []), (12, .aload_n 0, 1, 0, 0, 0, []), (13, .bipush 80, 2, 0, 0, 0, []), (15, .newarray .int, 2, 0, 0, 105, []), (17, .putfield 15, 3, 7, 1, 159, []), (20, .aload_n 0, 1, 0, 0, 0, []), (21, .bipush 80, 2, 0, 0, 0, []), (23, .newarray .int, 2, 0, 0, 105, []), (25, .putfield 18, 3, 7, 2, 162, []), (28, .aload_n 0, 1, 0, 0, 0, []), (29, .bipush 80, 2, 0, 0, 0, []), (31, .newarray .int, 2, 0, 0, 105, []), (33, .putfield 21, 3, 7, 3, 164, []), (36, .aload_n 0, 1, 0, 0, 0, []), (37, .bipush 80, 2, 0, 0, 0, []), (39, .newarray .int, 2, 0, 0, 105, []), (41, .putfield 24, 3, 7, 4, 167, []), (44, .aload_n 0, 1, 0, 0, 0, []), (45, .bipush 80, 2, 0, 0, 0, []), (47, .newarray .int, 2, 0, 0, 105, []), (49, .putfield 27, 3, 7, 5, 170, []), (52, .aload_n 0, 1, 0, 0, 0, []), (53, .new 30, 3, 4, 87, 153, []), (56, .dup, 1, 0, 0, 0, []), (57, .iconst 0, 1, 0, 0, 0, []), (58, .invokespecial 32, 3, 1, 2, 154, [(0, 4)]), (61, .putfield 35, 3, 7, 7, 176, []), (64, .return_, 1, 0, 0, 0, [])]
def m_T_init : Mt_ := (k_T_init, 0)
def mt_T_init : Mt_ × Nat × Nat := (m_T_init, 1, 1)
def k_L_init : List En_ := [(0, .aload_n 0, 1, 0, 0, 0, []), (1, .invokespecial 3, 3, 900, 1, 213, []), (4, .aload_n 0, 1, 0, 0, 0, []), (5, .bipush 80, 2, 0, 0, 0, []), (7, .newarray .int, 2, 0, 0, 105, []), (9, .putfield 9, 3, 6, 0, 214, []), (12, .aload_n 0, 1, 0, 0, 0, []), (13, .bipush 80, 2, 0, 0, 0, []), (15, .newarray .int, 2, 0, 0, 105, []), (17, .putfield 15, 3, 6, 1, 215, []), (20, .aload_n 0, 1, 0, 0, 0, []), (21, .bipush 80, 2, 0, 0, 0, []), (23, .newarray .boolean, 2, 1, 0, 230, []), (25, .putfield 18, 3, 6, 2, 217, []), (28, .return_, 1, 0, 0, 0, [])]
def m_L_init : Mt_ := (k_L_init, 0)
def mt_L_init : Mt_ × Nat × Nat := (m_L_init, 1, 1)
def k_E_init : List En_ := [(0, .aload_n 0, 1, 0, 0, 0, []), (1, .invokespecial 3, 3, 900, 1, 236, []), (4, .aload_n 0, 1, 0, 0, 0, []), (5, .new 9, 3, 4, 87, 237, []), (8, .dup, 1, 0, 0, 0, []), (9, .sipush 160, 3, 0, 0, 0, []), (12, .invokespecial 11, 3, 1, 2, 238, [(0, 4)]), (15, .putfield 14, 3, 2, 0, 241, []), (18, .aload_n 0, 1, 0, 0, 0, []), (19, .new 9, 3, 4, 87, 237, []), (22, .dup, 1, 0, 0, 0, []), (23, .bipush 60, 2, 0, 0, 0, []), (25, .invokespecial 11, 3, 1, 2, 238, [(0, 4)]), (28, .putfield 20, 3, 2, 1, 242, []), (31, .aload_n 0, 1, 0, 0, 0, []), (32, .new 23, 3, 7, 148, 239, []), (35, .dup, 1, 0, 0, 0, []), (36, .invokespecial 25, 3, 4, 1, 240, [(1, 7)]), (39, .putfield 26, 3, 2, 2, 243, []), (42, .aload_n 0, 1, 0, 0, 0, []), (43, .iconst 3, 1, 0, 0, 0, []), (44, .newarray .int, 2, 0, 0, 105, []), (46, .putfield 30, 3, 2, 3, 244, []), (49, .return_, 1, 0, 0, 0, [])]
def m_E_init : Mt_ := (k_E_init, 0)
def mt_E_init : Mt_ × Nat × Nat := (m_E_init, 1, 1)
def k_C_init : List En_ := [(0, .aload_n 0, 1, 0, 0, 0, []), (1, .invokespecial 3, 3, 900, 1, 270, []), (4, .aload_n 0, 1, 0, 0, 0, []), (5, .new 9, 3, 3, 107, 271, []), (8, .dup, 1, 0, 0, 0, []), (9, .invokespecial 11, 3, 2, 1, 272, [(1, 3)]), (12, .putfield 12, 3, 1, 0, 275, []), (15, .aload_n 0, 1, 0, 0, 0, []), (16, .new 18, 3, 4, 87, 273, []), (19, .dup, 1, 0, 0, 0, []), (20, .bipush 80, 2, 0, 0, 0, []), (22, .invokespecial 20, 3, 1, 2, 274, [(0, 4)]), (25, .putfield 23, 3, 1, 1, 277, []), (28, .return_, 1, 0, 0, 0, [])]
def m_C_init : Mt_ := (k_C_init, 0)
def mt_C_init : Mt_ × Nat × Nat := (m_C_init, 1, 1)
def k_P_put : List En_ := [(0, .iload_n 2, 1, 0, 0, 0, []), (1, .iconst 1, 1, 0, 0, 0, []), (2, .if_icmp .lt 22, 3, 24, 0, 0, []), (5, .iload_n 2, 1, 0, 0, 0, []), (6, .iconst 4, 1, 0, 0, 0, []), (7, .if_icmp .gt 17, 3, 24, 0, 0, []), (10, .aload_n 0, 1, 0, 0, 0, []), (11, .getfield 14, 3, 0, 0, 286, []), (14, .getfield 71, 3, 4, 1, 97, []), (17, .iload_n 2, 1, 0, 0, 0, []), (18, .iadd, 1, 0, 0, 0, []), (19, .bipush 80, 2, 0, 0, 0, []), (21, .if_icmp .le 5, 3, 26, 0, 0, []), (24, .iconst 0, 1, 0, 0, 0, []), (25, .ireturn, 1, 0, 0, 0, []), (26, .iload_n 2, 1, 0, 0, 0, []), (27, .iconst 1, 1, 0, 0, 0, []), (28, .isub, 1, 0, 0, 0, []), (29, .istore_n 3, 1, 0, 0, 0, []), (30, .iload_n 3, 1, 0, 0, 0, []), (31, .ifCond .lt 26, 3, 57, 0, 0, []), (34, .aload_n 0, 1, 0, 0, 0, []), (35, .getfield 14, 3, 0, 0, 286, []), (38, .iload_n 1, 1, 0, 0, 0, []), (39, .bipush 8, 2, 0, 0, 0, []), (41, .iload_n 3, 1, 0, 0, 0, []), (42, .imul, 1, 0, 0, 0, []), (43, .iushr, 1, 0, 0, 0, []), (44, .sipush 255, 3, 0, 0, 0, []), (47, .iand, 1, 0, 0, 0, []), (48, .invokevirtual 75, 3, 9, 2, 333, [(0, 4)]), (51, .iinc 3 (-1), 3, 0, 0, 0, []), (54, .goto (-24), 3, 30, 0, 0, []), (57, .iconst 1, 1, 0, 0, 0, []), (58, .ireturn, 1, 0, 0, 0, [])]
def m_P_put : Mt_ := (k_P_put, 2)
def mt_P_put : Mt_ × Nat × Nat := (m_P_put, 3, 4)
def k_R_add : List En_ := [(0, .aload_n 0, 1, 0, 0, 0, []), (1, .getfield 15, 3, 4, 1, 96, []), (4, .aload_n 0, 1, 0, 0, 0, []), (5, .getfield 9, 3, 4, 0, 92, []), (8, .arraylength, 1, 0, 0, 0, []), (9, .if_icmp .ge 23, 3, 32, 0, 0, []), (12, .aload_n 0, 1, 0, 0, 0, []), (13, .getfield 9, 3, 4, 0, 92, []), (16, .aload_n 0, 1, 0, 0, 0, []), (17, .getfield 15, 3, 4, 1, 96, []), (20, .iload_n 1, 1, 0, 0, 0, []), (21, .iastore, 1, 0, 0, 0, []), (22, .aload_n 0, 1, 0, 0, 0, []), (23, .dup, 1, 0, 0, 0, []), (24, .getfield 15, 3, 4, 1, 96, []), (27, .iconst 1, 1, 0, 0, 0, []), (28, .iadd, 1, 0, 0, 0, []), (29, .putfield 15, 3, 4, 1, 96, []), (32, .return_, 1, 0, 0, 0, [])]
def m_R_add : Mt_ := (k_R_add, 0)
def mt_R_add : Mt_ × Nat × Nat := (m_R_add, 2, 2)
def k_P_set : List En_ := [(0, .iload_n 1, 1, 0, 0, 0, []), (1, .ifCond .lt 25, 3, 26, 0, 0, []), (4, .iload_n 1, 1, 0, 0, 0, []), (5, .aload_n 0, 1, 0, 0, 0, []), (6, .getfield 14, 3, 0, 0, 286, []), (9, .getfield 71, 3, 4, 1, 97, []), (12, .if_icmp .ge 14, 3, 26, 0, 0, []), (15, .iload_n 2, 1, 0, 0, 0, []), (16, .ifCond .lt 10, 3, 26, 0, 0, []), (19, .iload_n 2, 1, 0, 0, 0, []), (20, .sipush 255, 3, 0, 0, 0, []), (23, .if_icmp .le 5, 3, 28, 0, 0, []), (26, .iconst 0, 1, 0, 0, 0, []), (27, .ireturn, 1, 0, 0, 0, []), (28, .aload_n 0, 1, 0, 0, 0, []), (29, .getfield 14, 3, 0, 0, 286, []), (32, .getfield 78, 3, 4, 0, 93, []), (35, .iload_n 1, 1, 0, 0, 0, []), (36, .iload_n 2, 1, 0, 0, 0, []), (37, .iastore, 1, 0, 0, 0, []), (38, .iconst 1, 1, 0, 0, 0, []), (39, .ireturn, 1, 0, 0, 0, [])]
def m_P_set : Mt_ := (k_P_set, 2)
def mt_P_set : Mt_ × Nat × Nat := (m_P_set, 3, 3)
def k_P_cut : List En_ := [(0, .iload_n 1, 1, 0, 0, 0, []), (1, .ifCond .lt 14, 3, 15, 0, 0, []), (4, .iload_n 1, 1, 0, 0, 0, []), (5, .aload_n 0, 1, 0, 0, 0, []), (6, .getfield 14, 3, 0, 0, 286, []), (9, .getfield 71, 3, 4, 1, 97, []), (12, .if_icmp .le 5, 3, 17, 0, 0, []), (15, .iconst 0, 1, 0, 0, 0, []), (16, .ireturn, 1, 0, 0, 0, []), (17, .aload_n 0, 1, 0, 0, 0, []), (18, .getfield 14, 3, 0, 0, 286, []), (21, .iload_n 1, 1, 0, 0, 0, []), (22, .putfield 71, 3, 4, 1, 97, []), (25, .iconst 1, 1, 0, 0, 0, []), (26, .ireturn, 1, 0, 0, 0, [])]
def m_P_cut : Mt_ := (k_P_cut, 2)
def mt_P_cut : Mt_ × Nat × Nat := (m_P_cut, 2, 2)
def k_P_size : List En_ := [(0, .aload_n 0, 1, 0, 0, 0, []), (1, .getfield 14, 3, 0, 0, 286, []), (4, .getfield 71, 3, 4, 1, 97, []), (7, .ireturn, 1, 0, 0, 0, [])]
def m_P_size : Mt_ := (k_P_size, 1)
def mt_P_size : Mt_ × Nat × Nat := (m_P_size, 1, 1)
def k_P_at : List En_ := [(0, .aload_n 0, 1, 0, 0, 0, []), (1, .getfield 14, 3, 0, 0, 286, []), (4, .iload_n 1, 1, 0, 0, 0, []), (5, .invokevirtual 81, 3, 14, 2, 353, [(0, 4)]), (8, .ireturn, 1, 0, 0, 0, [])]
def m_P_at : Mt_ := (k_P_at, 1)
def mt_P_at : Mt_ × Nat × Nat := (m_P_at, 2, 2)
def k_R_cell : List En_ := [(0, .iload_n 1, 1, 0, 0, 0, []), (1, .ifCond .lt 20, 3, 21, 0, 0, []), (4, .iload_n 1, 1, 0, 0, 0, []), (5, .aload_n 0, 1, 0, 0, 0, []), (6, .getfield 15, 3, 4, 1, 96, []), (9, .if_icmp .ge 12, 3, 21, 0, 0, []), (12, .aload_n 0, 1, 0, 0, 0, []), (13, .getfield 9, 3, 4, 0, 92, []), (16, .iload_n 1, 1, 0, 0, 0, []), (17, .iaload, 1, 0, 0, 0, []), (18, .goto 4, 3, 22, 0, 0, []), (21, .iconst (-1), 1, 0, 0, 0, []), (22, .ireturn, 1, 0, 0, 0, [])]
def m_R_cell : Mt_ := (k_R_cell, 1)
def mt_R_cell : Mt_ × Nat × Nat := (m_R_cell, 2, 2)
def k_P_path : List En_ := [(0, .iload_n 1, 1, 0, 0, 0, []), (1, .iload_n 2, 1, 0, 0, 0, []), (2, .invokestatic 85, 3, 16, 2, 361, [(0, 0)]), (5, .istore_n 3, 1, 0, 0, 0, []), (6, .iload_n 3, 1, 0, 0, 0, []), (7, .ifCond .ne 5, 3, 12, 0, 0, []), (10, .iconst 0, 1, 0, 0, 0, []), (11, .ireturn, 1, 0, 0, 0, []), (12, .aload_n 0, 1, 0, 0, 0, []), (13, .getfield 21, 3, 0, 1, 287, []), (16, .iconst 0, 1, 0, 0, 0, []), (17, .putfield 89, 3, 3, 1, 116, []), (20, .aload_n 0, 1, 0, 0, 0, []), (21, .getfield 21, 3, 0, 1, 287, []), (24, .iload_n 3, 1, 0, 0, 0, []), (25, .invokevirtual 90, 3, 17, 2, 364, [(0, 3)]), (28, .ireturn, 1, 0, 0, 0, [])]
def m_P_path : Mt_ := (k_P_path, 2)
def mt_P_path : Mt_ × Nat × Nat := (m_P_path, 3, 4)
def k_P_nameOf : List En_ := [(0, .iload_n 1, 1, 0, 0, 0, []), (1, .iconst 1, 1, 0, 0, 0, []), (2, .if_icmp .lt 8, 3, 10, 0, 0, []), (5, .iload_n 1, 1, 0, 0, 0, []), (6, .iconst 4, 1, 0, 0, 0, []), (7, .if_icmp .le 5, 3, 12, 0, 0, []), (10, .iconst 0, 1, 0, 0, 0, []), (11, .ireturn, 1, 0, 0, 0, []), (12, .iconst 0, 1, 0, 0, 0, []), (13, .istore_n 2, 1, 0, 0, 0, []), (14, .iload_n 1, 1, 0, 0, 0, []), (15, .iconst 1, 1, 0, 0, 0, []), (16, .isub, 1, 0, 0, 0, []), (17, .istore_n 3, 1, 0, 0, 0, []), (18, .iload_n 3, 1, 0, 0, 0, []), (19, .ifCond .lt 45, 3, 64, 0, 0, []), (22, .iload_n 0, 1, 0, 0, 0, []), (23, .bipush 8, 2, 0, 0, 0, []), (25, .iload_n 3, 1, 0, 0, 0, []), (26, .imul, 1, 0, 0, 0, []), (27, .iushr, 1, 0, 0, 0, []), (28, .sipush 255, 3, 0, 0, 0, []), (31, .iand, 1, 0, 0, 0, []), (32, .istore 4, 2, 0, 0, 0, []), (34, .iload 4, 2, 0, 0, 0, []), (36, .bipush 97, 2, 0, 0, 0, []), (38, .if_icmp .lt 10, 3, 48, 0, 0, []), (41, .iload 4, 2, 0, 0, 0, []), (43, .bipush 122, 2, 0, 0, 0, []), (45, .if_icmp .le 5, 3, 50, 0, 0, []), (48, .iconst 0, 1, 0, 0, 0, []), (49, .ireturn, 1, 0, 0, 0, []), (50, .iload_n 2, 1, 0, 0, 0, []), (51, .bipush 8, 2, 0, 0, 0, []), (53, .ishl, 1, 0, 0, 0, []), (54, .iload 4, 2, 0, 0, 0, []), (56, .ior, 1, 0, 0, 0, []), (57, .istore_n 2, 1, 0, 0, 0, []), (58, .iinc 3 (-1), 3, 0, 0, 0, []), (61, .goto (-43), 3, 18, 0, 0, []), (64, .iload_n 2, 1, 0, 0, 0, []), (65, .ireturn, 1, 0, 0, 0, [])]
def m_P_nameOf : Mt_ := (k_P_nameOf, 1)
def mt_P_nameOf : Mt_ × Nat × Nat := (m_P_nameOf, 2, 5)
def k_H_add : List En_ := [(0, .aload_n 0, 1, 0, 0, 0, []), (1, .getfield 15, 3, 3, 1, 113, []), (4, .iconst 3, 1, 0, 0, 0, []), (5, .if_icmp .lt 5, 3, 10, 0, 0, []), (8, .iconst 0, 1, 0, 0, 0, []), (9, .ireturn, 1, 0, 0, 0, []), (10, .aload_n 0, 1, 0, 0, 0, []), (11, .getfield 9, 3, 3, 0, 112, []), (14, .aload_n 0, 1, 0, 0, 0, []), (15, .getfield 15, 3, 3, 1, 113, []), (18, .iload_n 1, 1, 0, 0, 0, []), (19, .iastore, 1, 0, 0, 0, []), (20, .aload_n 0, 1, 0, 0, 0, []), (21, .dup, 1, 0, 0, 0, []), (22, .getfield 15, 3, 3, 1, 113, []), (25, .iconst 1, 1, 0, 0, 0, []), (26, .iadd, 1, 0, 0, 0, []), (27, .putfield 15, 3, 3, 1, 113, []), (30, .iconst 1, 1, 0, 0, 0, []), (31, .ireturn, 1, 0, 0, 0, [])]
def m_H_add : Mt_ := (k_H_add, 2)
def mt_H_add : Mt_ × Nat × Nat := (m_H_add, 2, 2)
def k_P_step : List En_ := [(0, .iload_n 1, 1, 0, 0, 0, []), (1, .iload_n 2, 1, 0, 0, 0, []), (2, .invokestatic 85, 3, 16, 2, 361, [(0, 0)]), (5, .istore_n 3, 1, 0, 0, 0, []), (6, .iload_n 3, 1, 0, 0, 0, []), (7, .ifCond .eq 28, 3, 35, 0, 0, []), (10, .aload_n 0, 1, 0, 0, 0, []), (11, .getfield 21, 3, 0, 1, 287, []), (14, .getfield 89, 3, 3, 1, 116, []), (17, .ifCond .le 18, 3, 35, 0, 0, []), (20, .aload_n 0, 1, 0, 0, 0, []), (21, .getfield 21, 3, 0, 1, 287, []), (24, .iload_n 3, 1, 0, 0, 0, []), (25, .invokevirtual 90, 3, 17, 2, 364, [(0, 3)]), (28, .ifCond .eq 7, 3, 35, 0, 0, []), (31, .iconst 1, 1, 0, 0, 0, []), (32, .goto 4, 3, 36, 0, 0, []), (35, .iconst 0, 1, 0, 0, 0, []), (36, .ireturn, 1, 0, 0, 0, [])]
def m_P_step : Mt_ := (k_P_step, 2)
def mt_P_step : Mt_ × Nat × Nat := (m_P_step, 3, 4)
def k_P_insert : List En_ := [(0, .aload_n 0, 1, 0, 0, 0, []), (1, .getfield 45, 3, 0, 6, 292, []), (4, .aload_n 0, 1, 0, 0, 0, []), (5, .getfield 14, 3, 0, 0, 286, []), (8, .invokevirtual 93, 3, 20, 2, 376, [(0, 7)]), (11, .istore_n 1, 1, 0, 0, 0, []), (12, .iload_n 1, 1, 0, 0, 0, []), (13, .iconst (-1), 1, 0, 0, 0, []), (14, .if_icmp .eq 7, 3, 21, 0, 0, []), (17, .iconst (-1), 1, 0, 0, 0, []), (18, .iload_n 1, 1, 0, 0, 0, []), (19, .isub, 1, 0, 0, 0, []), (20, .ireturn, 1, 0, 0, 0, []), (21, .aload_n 0, 1, 0, 0, 0, []), (22, .getfield 45, 3, 0, 6, 292, []), (25, .invokevirtual 97, 3, 31, 1, 421, [(0, 7)]), (28, .istore_n 2, 1, 0, 0, 0, []), (29, .aload_n 0, 1, 0, 0, 0, []), (30, .getfield 14, 3, 0, 0, 286, []), (33, .getfield 71, 3, 4, 1, 97, []), (36, .bipush 60, 2, 0, 0, 0, []), (38, .if_icmp .gt 8, 3, 46, 0, 0, []), (41, .iload_n 2, 1, 0, 0, 0, []), (42, .iconst (-1), 1, 0, 0, 0, []), (43, .if_icmp .ne 7, 3, 50, 0, 0, []), (46, .sipush (-1000), 3, 0, 0, 0, []), (49, .ireturn, 1, 0, 0, 0, []), (50, .aload_n 0, 1, 0, 0, 0, []), (51, .getfield 28, 3, 0, 2, 288, []), (54, .iload_n 2, 1, 0, 0, 0, []), (55, .invokevirtual 101, 3, 33, 2, 430, [(0, 5)]), (58, .iconst (-1), 1, 0, 0, 0, []), (59, .if_icmp .eq 7, 3, 66, 0, 0, []), (62, .sipush (-1001), 3, 0, 0, 0, []), (65, .ireturn, 1, 0, 0, 0, []), (66, .aload_n 0, 1, 0, 0, 0, []), (67, .getfield 28, 3, 0, 2, 288, []), (70, .aload_n 0, 1, 0, 0, 0, []), (71, .getfield 14, 3, 0, 0, 286, []), (74, .iload_n 2, 1, 0, 0, 0, []), (75, .invokevirtual 104, 3, 34, 3, 434, [(0, 5)]), (78, .ifCond .ne 7, 3, 85, 0, 0, []), (81, .sipush (-1002), 3, 0, 0, 0, []), (84, .ireturn, 1, 0, 0, 0, []), (85, .aload_n 0, 1, 0, 0, 0, []), (86, .getfield 14, 3, 0, 0, 286, []), (89, .iconst 0, 1, 0, 0, 0, []), (90, .putfield 71, 3, 4, 1, 97, []), (93, .iload_n 2, 1, 0, 0, 0, []), (94, .ireturn, 1, 0, 0, 0, [])]
def m_P_insert : Mt_ := (k_P_insert, 1)
def mt_P_insert : Mt_ × Nat × Nat := (m_P_insert, 1, 3)
def k_T_readDocument : List En_ := [(0, .aload_n 0, 1, 0, 0, 0, []), (1, .aload_n 1, 1, 0, 0, 0, []), (2, .invokevirtual 39, 3, 21, 2, 380, [(0, 7)]), (5, .aload_n 0, 1, 0, 0, 0, []), (6, .aload_n 0, 1, 0, 0, 0, []), (7, .aload_n 0, 1, 0, 0, 0, []), (8, .iconst 3, 1, 0, 0, 0, []), (9, .iconst 0, 1, 0, 0, 0, []), (10, .iconst 0, 1, 0, 0, 0, []), (11, .invokevirtual 43, 3, 22, 4, 384, [(0, 7)]), (14, .invokevirtual 47, 3, 23, 2, 388, [(0, 7)]), (17, .invokevirtual 51, 3, 26, 2, 401, [(0, 7)]), (20, .ireturn, 1, 0, 0, 0, [])]
def m_T_readDocument : Mt_ := (k_T_readDocument, 1)
def mt_T_readDocument : Mt_ × Nat × Nat := (m_T_readDocument, 2, 2)
def k_T_begin : List En_ := [(0, .aload_n 0, 1, 0, 0, 0, []), (1, .aload_n 1, 1, 0, 0, 0, []), (2, .putfield 35, 3, 7, 7, 176, []), (5, .aload_n 0, 1, 0, 0, 0, []), (6, .iconst 0, 1, 0, 0, 0, []), (7, .putfield 74, 3, 7, 8, 179, []), (10, .aload_n 0, 1, 0, 0, 0, []), (11, .iconst (-1), 1, 0, 0, 0, []), (12, .putfield 77, 3, 7, 9, 180, []), (15, .aload_n 0, 1, 0, 0, 0, []), (16, .iconst 0, 1, 0, 0, 0, []), (17, .putfield 59, 3, 7, 6, 174, []), (20, .aload_n 0, 1, 0, 0, 0, []), (21, .iconst (-1), 1, 0, 0, 0, []), (22, .putfield 80, 3, 7, 10, 181, []), (25, .aload_n 0, 1, 0, 0, 0, []), (26, .iconst 0, 1, 0, 0, 0, []), (27, .putfield 83, 3, 7, 11, 182, []), (30, .return_, 1, 0, 0, 0, [])]
def m_T_begin : Mt_ := (k_T_begin, 0)
def mt_T_begin : Mt_ × Nat × Nat := (m_T_begin, 2, 2)
def k_T_addNode : List En_ := [(0, .aload_n 0, 1, 0, 0, 0, []), (1, .getfield 59, 3, 7, 6, 174, []), (4, .bipush 80, 2, 0, 0, 0, []), (6, .if_icmp .lt 5, 3, 11, 0, 0, []), (9, .iconst (-1), 1, 0, 0, 0, []), (10, .ireturn, 1, 0, 0, 0, []), (11, .aload_n 0, 1, 0, 0, 0, []), (12, .getfield 9, 3, 7, 0, 155, []), (15, .aload_n 0, 1, 0, 0, 0, []), (16, .getfield 59, 3, 7, 6, 174, []), (19, .iload_n 1, 1, 0, 0, 0, []), (20, .iastore, 1, 0, 0, 0, []), (21, .aload_n 0, 1, 0, 0, 0, []), (22, .getfield 15, 3, 7, 1, 159, []), (25, .aload_n 0, 1, 0, 0, 0, []), (26, .getfield 59, 3, 7, 6, 174, []), (29, .iload_n 2, 1, 0, 0, 0, []), (30, .iastore, 1, 0, 0, 0, []), (31, .aload_n 0, 1, 0, 0, 0, []), (32, .getfield 18, 3, 7, 2, 162, []), (35, .aload_n 0, 1, 0, 0, 0, []), (36, .getfield 59, 3, 7, 6, 174, []), (39, .iload_n 3, 1, 0, 0, 0, []), (40, .iastore, 1, 0, 0, 0, []), (41, .aload_n 0, 1, 0, 0, 0, []), (42, .getfield 21, 3, 7, 3, 164, []), (45, .aload_n 0, 1, 0, 0, 0, []), (46, .getfield 59, 3, 7, 6, 174, []), (49, .aload_n 0, 1, 0, 0, 0, []), (50, .getfield 74, 3, 7, 8, 179, []), (53, .iastore, 1, 0, 0, 0, []), (54, .aload_n 0, 1, 0, 0, 0, []), (55, .getfield 27, 3, 7, 5, 170, []), (58, .aload_n 0, 1, 0, 0, 0, []), (59, .getfield 59, 3, 7, 6, 174, []), (62, .aload_n 0, 1, 0, 0, 0, []), (63, .getfield 80, 3, 7, 10, 181, []), (66, .iastore, 1, 0, 0, 0, []), (67, .aload_n 0, 1, 0, 0, 0, []), (68, .dup, 1, 0, 0, 0, []), (69, .getfield 59, 3, 7, 6, 174, []), (72, .iconst 1, 1, 0, 0, 0, []), (73, .iadd, 1, 0, 0, 0, []), (74, .putfield 59, 3, 7, 6, 174, []), (77, .aload_n 0, 1, 0, 0, 0, []), (78, .getfield 59, 3, 7, 6, 174, []), (81, .iconst 1, 1, 0, 0, 0, []), (82, .isub, 1, 0, 0, 0, []), (83, .ireturn, 1, 0, 0, 0, [])]
def m_T_addNode : Mt_ := (k_T_addNode, 1)
def mt_T_addNode : Mt_ × Nat × Nat := (m_T_addNode, 4, 4)
def k_T_readContent : List En_ := [(0, .iload_n 1, 1, 0, 0, 0, []), (1, .iconst (-1), 1, 0, 0, 0, []), (2, .if_icmp .ne 12, 3, 14, 0, 0, []), (5, .aload_n 0, 1, 0, 0, 0, []), (6, .aload_n 0, 1, 0, 0, 0, []), (7, .getfield 74, 3, 7, 8, 179, []), (10, .invokevirtual 99, 3, 24, 2, 392, [(0, 7)]), (13, .ireturn, 1, 0, 0, 0, []), (14, .iconst 1, 1, 0, 0, 0, []), (15, .istore_n 2, 1, 0, 0, 0, []), (16, .aload_n 0, 1, 0, 0, 0, []), (17, .getfield 9, 3, 7, 0, 155, []), (20, .iload_n 1, 1, 0, 0, 0, []), (21, .iaload, 1, 0, 0, 0, []), (22, .tableswitch 109 1 6 #[38, 51, 109, 109, 95, 106], 38, 131, 0, 0, [(1, 60), (2, 73), (3, 131), (4, 131), (5, 117), (6, 128)]), (60, .aload_n 0, 1, 0, 0, 0, []), (61, .iconst 2, 1, 0, 0, 0, []), (62, .iconst 0, 1, 0, 0, 0, []), (63, .sipush 255, 3, 0, 0, 0, []), (66, .invokevirtual 95, 3, 25, 4, 396, [(0, 7)]), (69, .istore_n 2, 1, 0, 0, 0, []), (70, .goto 86, 3, 156, 0, 0, []), (73, .aload_n 0, 1, 0, 0, 0, []), (74, .iconst 1, 1, 0, 0, 0, []), (75, .iconst 0, 1, 0, 0, 0, []), (76, .bipush 8, 2, 0, 0, 0, []), (78, .invokevirtual 95, 3, 25, 4, 396, [(0, 7)]), (81, .ifCond .eq 31, 3, 112, 0, 0, []), (84, .aload_n 0, 1, 0, 0, 0, []), (85, .aload_n 0, 1, 0, 0, 0, []), (86, .getfield 35, 3, 7, 7, 176, []), (89, .aload_n 0, 1, 0, 0, 0, []), (90, .getfield 74, 3, 7, 8, 179, []), (93, .iconst 1, 1, 0, 0, 0, []), (94, .isub, 1, 0, 0, 0, []), (95, .invokevirtual 67, 3, 14, 2, 400, [(0, 4)]), (98, .bipush 32, 2, 0, 0, 0, []), (100, .bipush 126, 2, 0, 0, 0, []), (102, .invokevirtual 95, 3, 25, 4, 396, [(0, 7)]), (105, .ifCond .eq 7, 3, 112, 0, 0, []), (108, .iconst 1, 1, 0, 0, 0, []), (109, .goto 4, 3, 113, 0, 0, []), (112, .iconst 0, 1, 0, 0, 0, []), (113, .istore_n 2, 1, 0, 0, 0, []), (114, .goto 42, 3, 156, 0, 0, []), (117, .aload_n 0, 1, 0, 0, 0, []), (118, .iconst 1, 1, 0, 0, 0, []), (119, .iconst 0, 1, 0, 0, 0, []), (120, .iconst 1, 1, 0, 0, 0, []), (121, .invokevirtual 95, 3, 25, 4, 396, [(0, 7)]), (124, .istore_n 2, 1, 0, 0, 0, []), (125, .goto 31, 3, 156, 0, 0, []), (128, .goto 28, 3, 156, 0, 0, []), (131, .aload_n 0, 1, 0, 0, 0, []), (132, .iconst 1, 1, 0, 0, 0, []), (133, .iconst 0, 1, 0, 0, 0, []), (134, .sipush 255, 3, 0, 0, 0, []), (137, .invokevirtual 95, 3, 25, 4, 396, [(0, 7)]), (140, .istore_n 2, 1, 0, 0, 0, []), (141, .aload_n 0, 1, 0, 0, 0, []), (142, .iload_n 1, 1, 0, 0, 0, []), (143, .putfield 80, 3, 7, 10, 181, []), (146, .aload_n 0, 1, 0, 0, 0, []), (147, .dup, 1, 0, 0, 0, []), (148, .getfield 83, 3, 7, 11, 182, []), (151, .iconst 1, 1, 0, 0, 0, []), (152, .iadd, 1, 0, 0, 0, []), (153, .putfield 83, 3, 7, 11, 182, []), (156, .aload_n 0, 1, 0, 0, 0, []), (157, .getfield 24, 3, 7, 4, 167, []), (160, .iload_n 1, 1, 0, 0, 0, []), (161, .aload_n 0, 1, 0, 0, 0, []), (162, .getfield 74, 3, 7, 8, 179, []), (165, .iastore, 1, 0, 0, 0, []), (166, .iload_n 2, 1, 0, 0, 0, []), (167, .ireturn, 1, 0, 0, 0, [])]
def m_T_readContent : Mt_ := (k_T_readContent, 2)
def mt_T_readContent : Mt_ × Nat × Nat := (m_T_readContent, 2, 3)
def k_T_faultAt : List En_ := [(0, .aload_n 0, 1, 0, 0, 0, []), (1, .iload_n 1, 1, 0, 0, 0, []), (2, .putfield 77, 3, 7, 9, 180, []), (5, .iconst 0, 1, 0, 0, 0, []), (6, .ireturn, 1, 0, 0, 0, [])]
def m_T_faultAt : Mt_ := (k_T_faultAt, 2)
def mt_T_faultAt : Mt_ × Nat × Nat := (m_T_faultAt, 2, 2)
def k_T_readBytes : List En_ := [(0, .iconst 0, 1, 0, 0, 0, []), (1, .istore 4, 2, 0, 0, 0, []), (3, .iload 4, 2, 0, 0, 0, []), (5, .iload_n 1, 1, 0, 0, 0, []), (6, .if_icmp .ge 73, 3, 79, 0, 0, []), (9, .aload_n 0, 1, 0, 0, 0, []), (10, .getfield 74, 3, 7, 8, 179, []), (13, .aload_n 0, 1, 0, 0, 0, []), (14, .getfield 35, 3, 7, 7, 176, []), (17, .getfield 86, 3, 4, 1, 99, []), (20, .if_icmp .ge 18, 3, 38, 0, 0, []), (23, .aload_n 0, 1, 0, 0, 0, []), (24, .getfield 35, 3, 7, 7, 176, []), (27, .getfield 92, 3, 4, 0, 95, []), (30, .aload_n 0, 1, 0, 0, 0, []), (31, .getfield 74, 3, 7, 8, 179, []), (34, .iaload, 1, 0, 0, 0, []), (35, .goto 4, 3, 39, 0, 0, []), (38, .iconst (-1), 1, 0, 0, 0, []), (39, .istore 5, 2, 0, 0, 0, []), (41, .iload 5, 2, 0, 0, 0, []), (43, .iload_n 2, 1, 0, 0, 0, []), (44, .if_icmp .lt 9, 3, 53, 0, 0, []), (47, .iload 5, 2, 0, 0, 0, []), (49, .iload_n 3, 1, 0, 0, 0, []), (50, .if_icmp .le 13, 3, 63, 0, 0, []), (53, .aload_n 0, 1, 0, 0, 0, []), (54, .aload_n 0, 1, 0, 0, 0, []), (55, .getfield 74, 3, 7, 8, 179, []), (58, .putfield 77, 3, 7, 9, 180, []), (61, .iconst 0, 1, 0, 0, 0, []), (62, .ireturn, 1, 0, 0, 0, []), (63, .aload_n 0, 1, 0, 0, 0, []), (64, .dup, 1, 0, 0, 0, []), (65, .getfield 74, 3, 7, 8, 179, []), (68, .iconst 1, 1, 0, 0, 0, []), (69, .iadd, 1, 0, 0, 0, []), (70, .putfield 74, 3, 7, 8, 179, []), (73, .iinc 4 1, 3, 0, 0, 0, []), (76, .goto (-73), 3, 3, 0, 0, []), (79, .iconst 1, 1, 0, 0, 0, []), (80, .ireturn, 1, 0, 0, 0, [])]
def m_T_readBytes : Mt_ := (k_T_readBytes, 2)
def mt_T_readBytes : Mt_ × Nat × Nat := (m_T_readBytes, 4, 6)
def k_T_readOn : List En_ := [(0, .iload_n 1, 1, 0, 0, 0, []), (1, .istore_n 2, 1, 0, 0, 0, []), (2, .iconst 0, 1, 0, 0, 0, []), (3, .istore_n 3, 1, 0, 0, 0, []), (4, .iload_n 3, 1, 0, 0, 0, []), (5, .aload_n 0, 1, 0, 0, 0, []), (6, .getfield 35, 3, 7, 7, 176, []), (9, .getfield 86, 3, 4, 1, 99, []), (12, .if_icmp .ge 47, 3, 59, 0, 0, []), (15, .iload_n 2, 1, 0, 0, 0, []), (16, .ifCond .eq 43, 3, 59, 0, 0, []), (19, .aload_n 0, 1, 0, 0, 0, []), (20, .getfield 80, 3, 7, 10, 181, []), (23, .iconst (-1), 1, 0, 0, 0, []), (24, .if_icmp .eq 35, 3, 59, 0, 0, []), (27, .aload_n 0, 1, 0, 0, 0, []), (28, .getfield 35, 3, 7, 7, 176, []), (31, .aload_n 0, 1, 0, 0, 0, []), (32, .getfield 74, 3, 7, 8, 179, []), (35, .invokevirtual 67, 3, 14, 2, 400, [(0, 4)]), (38, .ifCond .ne 10, 3, 48, 0, 0, []), (41, .aload_n 0, 1, 0, 0, 0, []), (42, .invokevirtual 89, 3, 27, 1, 405, [(0, 7)]), (45, .goto 7, 3, 52, 0, 0, []), (48, .aload_n 0, 1, 0, 0, 0, []), (49, .invokevirtual 55, 3, 28, 1, 409, [(0, 7)]), (52, .istore_n 2, 1, 0, 0, 0, []), (53, .iinc 3 1, 3, 0, 0, 0, []), (56, .goto (-52), 3, 4, 0, 0, []), (59, .iload_n 2, 1, 0, 0, 0, []), (60, .ifCond .eq 25, 3, 85, 0, 0, []), (63, .aload_n 0, 1, 0, 0, 0, []), (64, .getfield 74, 3, 7, 8, 179, []), (67, .aload_n 0, 1, 0, 0, 0, []), (68, .getfield 35, 3, 7, 7, 176, []), (71, .getfield 86, 3, 4, 1, 99, []), (74, .if_icmp .ge 11, 3, 85, 0, 0, []), (77, .aload_n 0, 1, 0, 0, 0, []), (78, .aload_n 0, 1, 0, 0, 0, []), (79, .getfield 74, 3, 7, 8, 179, []), (82, .putfield 77, 3, 7, 9, 180, []), (85, .aload_n 0, 1, 0, 0, 0, []), (86, .getfield 77, 3, 7, 9, 180, []), (89, .ireturn, 1, 0, 0, 0, [])]
def m_T_readOn : Mt_ := (k_T_readOn, 1)
def mt_T_readOn : Mt_ × Nat × Nat := (m_T_readOn, 2, 4)
def k_T_closeNest : List En_ := [(0, .aload_n 0, 1, 0, 0, 0, []), (1, .getfield 21, 3, 7, 3, 164, []), (4, .aload_n 0, 1, 0, 0, 0, []), (5, .getfield 80, 3, 7, 10, 181, []), (8, .iaload, 1, 0, 0, 0, []), (9, .istore_n 1, 1, 0, 0, 0, []), (10, .aload_n 0, 1, 0, 0, 0, []), (11, .dup, 1, 0, 0, 0, []), (12, .getfield 74, 3, 7, 8, 179, []), (15, .iconst 1, 1, 0, 0, 0, []), (16, .iadd, 1, 0, 0, 0, []), (17, .putfield 74, 3, 7, 8, 179, []), (20, .aload_n 0, 1, 0, 0, 0, []), (21, .getfield 35, 3, 7, 7, 176, []), (24, .iload_n 1, 1, 0, 0, 0, []), (25, .invokevirtual 67, 3, 14, 2, 400, [(0, 4)]), (28, .aload_n 0, 1, 0, 0, 0, []), (29, .getfield 74, 3, 7, 8, 179, []), (32, .iload_n 1, 1, 0, 0, 0, []), (33, .isub, 1, 0, 0, 0, []), (34, .if_icmp .eq 9, 3, 43, 0, 0, []), (37, .aload_n 0, 1, 0, 0, 0, []), (38, .iload_n 1, 1, 0, 0, 0, []), (39, .invokevirtual 99, 3, 24, 2, 392, [(0, 7)]), (42, .ireturn, 1, 0, 0, 0, []), (43, .aload_n 0, 1, 0, 0, 0, []), (44, .getfield 24, 3, 7, 4, 167, []), (47, .aload_n 0, 1, 0, 0, 0, []), (48, .getfield 80, 3, 7, 10, 181, []), (51, .aload_n 0, 1, 0, 0, 0, []), (52, .getfield 74, 3, 7, 8, 179, []), (55, .iastore, 1, 0, 0, 0, []), (56, .aload_n 0, 1, 0, 0, 0, []), (57, .aload_n 0, 1, 0, 0, 0, []), (58, .getfield 27, 3, 7, 5, 170, []), (61, .aload_n 0, 1, 0, 0, 0, []), (62, .getfield 80, 3, 7, 10, 181, []), (65, .iaload, 1, 0, 0, 0, []), (66, .putfield 80, 3, 7, 10, 181, []), (69, .aload_n 0, 1, 0, 0, 0, []), (70, .dup, 1, 0, 0, 0, []), (71, .getfield 83, 3, 7, 11, 182, []), (74, .iconst 1, 1, 0, 0, 0, []), (75, .isub, 1, 0, 0, 0, []), (76, .putfield 83, 3, 7, 11, 182, []), (79, .iconst 1, 1, 0, 0, 0, []), (80, .ireturn, 1, 0, 0, 0, [])]
def m_T_closeNest : Mt_ := (k_T_closeNest, 2)
def mt_T_closeNest : Mt_ × Nat × Nat := (m_T_closeNest, 1, 2)
def k_T_readPart : List En_ := [(0, .aload_n 0, 1, 0, 0, 0, []), (1, .getfield 74, 3, 7, 8, 179, []), (4, .istore_n 1, 1, 0, 0, 0, []), (5, .aload_n 0, 1, 0, 0, 0, []), (6, .getfield 35, 3, 7, 7, 176, []), (9, .aload_n 0, 1, 0, 0, 0, []), (10, .getfield 74, 3, 7, 8, 179, []), (13, .invokevirtual 67, 3, 14, 2, 400, [(0, 4)]), (16, .istore_n 2, 1, 0, 0, 0, []), (17, .iload_n 2, 1, 0, 0, 0, []), (18, .iconst 3, 1, 0, 0, 0, []), (19, .if_icmp .eq 8, 3, 27, 0, 0, []), (22, .iload_n 2, 1, 0, 0, 0, []), (23, .iconst 4, 1, 0, 0, 0, []), (24, .if_icmp .ne 15, 3, 39, 0, 0, []), (27, .aload_n 0, 1, 0, 0, 0, []), (28, .getfield 83, 3, 7, 11, 182, []), (31, .iconst 4, 1, 0, 0, 0, []), (32, .if_icmp .lt 7, 3, 39, 0, 0, []), (35, .iconst 1, 1, 0, 0, 0, []), (36, .goto 4, 3, 40, 0, 0, []), (39, .iconst 0, 1, 0, 0, 0, []), (40, .istore_n 3, 1, 0, 0, 0, []), (41, .iload_n 3, 1, 0, 0, 0, []), (42, .ifCond .ne 14, 3, 56, 0, 0, []), (45, .aload_n 0, 1, 0, 0, 0, []), (46, .iconst 1, 1, 0, 0, 0, []), (47, .iconst 1, 1, 0, 0, 0, []), (48, .bipush 6, 2, 0, 0, 0, []), (50, .invokevirtual 95, 3, 25, 4, 396, [(0, 7)]), (53, .ifCond .ne 9, 3, 62, 0, 0, []), (56, .aload_n 0, 1, 0, 0, 0, []), (57, .iload_n 1, 1, 0, 0, 0, []), (58, .invokevirtual 99, 3, 24, 2, 392, [(0, 7)]), (61, .ireturn, 1, 0, 0, 0, []), (62, .iconst 0, 1, 0, 0, 0, []), (63, .istore 4, 2, 0, 0, 0, []), (65, .aload_n 0, 1, 0, 0, 0, []), (66, .getfield 80, 3, 7, 10, 181, []), (69, .iconst (-1), 1, 0, 0, 0, []), (70, .if_icmp .eq 29, 3, 99, 0, 0, []), (73, .aload_n 0, 1, 0, 0, 0, []), (74, .getfield 9, 3, 7, 0, 155, []), (77, .aload_n 0, 1, 0, 0, 0, []), (78, .getfield 80, 3, 7, 10, 181, []), (81, .iaload, 1, 0, 0, 0, []), (82, .iconst 3, 1, 0, 0, 0, []), (83, .if_icmp .ne 16, 3, 99, 0, 0, []), (86, .aload_n 0, 1, 0, 0, 0, []), (87, .invokevirtual 102, 3, 29, 1, 413, [(0, 7)]), (90, .istore 4, 2, 0, 0, 0, []), (92, .iload 4, 2, 0, 0, 0, []), (94, .ifCond .ne 5, 3, 99, 0, 0, []), (97, .iconst 0, 1, 0, 0, 0, []), (98, .ireturn, 1, 0, 0, 0, []), (99, .aload_n 0, 1, 0, 0, 0, []), (100, .aload_n 0, 1, 0, 0, 0, []), (101, .iload_n 2, 1, 0, 0, 0, []), (102, .iload 4, 2, 0, 0, 0, []), (104, .iload_n 1, 1, 0, 0, 0, []), (105, .invokevirtual 43, 3, 22, 4, 384, [(0, 7)]), (108, .invokevirtual 47, 3, 23, 2, 388, [(0, 7)]), (111, .ireturn, 1, 0, 0, 0, [])]
def m_T_readPart : Mt_ := (k_T_readPart, 2)
def mt_T_readPart : Mt_ × Nat × Nat := (m_T_readPart, 1, 5)
def k_T_readName : List En_ := [(0, .aload_n 0, 1, 0, 0, 0, []), (1, .getfield 74, 3, 7, 8, 179, []), (4, .istore_n 1, 1, 0, 0, 0, []), (5, .iconst 0, 1, 0, 0, 0, []), (6, .istore_n 2, 1, 0, 0, 0, []), (7, .iconst 0, 1, 0, 0, 0, []), (8, .istore_n 3, 1, 0, 0, 0, []), (9, .iload_n 3, 1, 0, 0, 0, []), (10, .iconst 4, 1, 0, 0, 0, []), (11, .if_icmp .ge 60, 3, 71, 0, 0, []), (14, .iload_n 3, 1, 0, 0, 0, []), (15, .ifCond .eq 17, 3, 32, 0, 0, []), (18, .aload_n 0, 1, 0, 0, 0, []), (19, .getfield 35, 3, 7, 7, 176, []), (22, .aload_n 0, 1, 0, 0, 0, []), (23, .getfield 74, 3, 7, 8, 179, []), (26, .invokevirtual 67, 3, 14, 2, 400, [(0, 4)]), (29, .ifCond .eq 42, 3, 71, 0, 0, []), (32, .aload_n 0, 1, 0, 0, 0, []), (33, .iconst 1, 1, 0, 0, 0, []), (34, .bipush 97, 2, 0, 0, 0, []), (36, .bipush 122, 2, 0, 0, 0, []), (38, .invokevirtual 95, 3, 25, 4, 396, [(0, 7)]), (41, .ifCond .ne 5, 3, 46, 0, 0, []), (44, .iconst 0, 1, 0, 0, 0, []), (45, .ireturn, 1, 0, 0, 0, []), (46, .iload_n 2, 1, 0, 0, 0, []), (47, .bipush 8, 2, 0, 0, 0, []), (49, .ishl, 1, 0, 0, 0, []), (50, .aload_n 0, 1, 0, 0, 0, []), (51, .getfield 35, 3, 7, 7, 176, []), (54, .aload_n 0, 1, 0, 0, 0, []), (55, .getfield 74, 3, 7, 8, 179, []), (58, .iconst 1, 1, 0, 0, 0, []), (59, .isub, 1, 0, 0, 0, []), (60, .invokevirtual 67, 3, 14, 2, 400, [(0, 4)]), (63, .ior, 1, 0, 0, 0, []), (64, .istore_n 2, 1, 0, 0, 0, []), (65, .iinc 3 1, 3, 0, 0, 0, []), (68, .goto (-59), 3, 9, 0, 0, []), (71, .aload_n 0, 1, 0, 0, 0, []), (72, .iconst 1, 1, 0, 0, 0, []), (73, .iconst 0, 1, 0, 0, 0, []), (74, .iconst 0, 1, 0, 0, 0, []), (75, .invokevirtual 95, 3, 25, 4, 396, [(0, 7)]), (78, .ifCond .ne 5, 3, 83, 0, 0, []), (81, .iconst 0, 1, 0, 0, 0, []), (82, .ireturn, 1, 0, 0, 0, []), (83, .aload_n 0, 1, 0, 0, 0, []), (84, .aload_n 0, 1, 0, 0, 0, []), (85, .getfield 80, 3, 7, 10, 181, []), (88, .iload_n 2, 1, 0, 0, 0, []), (89, .invokevirtual 106, 3, 30, 3, 417, [(0, 7)]), (92, .iconst (-1), 1, 0, 0, 0, []), (93, .if_icmp .eq 11, 3, 104, 0, 0, []), (96, .aload_n 0, 1, 0, 0, 0, []), (97, .iload_n 1, 1, 0, 0, 0, []), (98, .invokevirtual 99, 3, 24, 2, 392, [(0, 7)]), (101, .pop, 1, 0, 0, 0, []), (102, .iconst 0, 1, 0, 0, 0, []), (103, .ireturn, 1, 0, 0, 0, []), (104, .iload_n 2, 1, 0, 0, 0, []), (105, .ireturn, 1, 0, 0, 0, [])]
def m_T_readName : Mt_ := (k_T_readName, 1)
def mt_T_readName : Mt_ × Nat × Nat := (m_T_readName, 1, 4)
def k_T_element : List En_ := [(0, .iload_n 1, 1, 0, 0, 0, []), (1, .iconst 1, 1, 0, 0, 0, []), (2, .iadd, 1, 0, 0, 0, []), (3, .istore_n 3, 1, 0, 0, 0, []), (4, .iload_n 3, 1, 0, 0, 0, []), (5, .aload_n 0, 1, 0, 0, 0, []), (6, .getfield 59, 3, 7, 6, 174, []), (9, .if_icmp .ge 31, 3, 40, 0, 0, []), (12, .aload_n 0, 1, 0, 0, 0, []), (13, .getfield 27, 3, 7, 5, 170, []), (16, .iload_n 3, 1, 0, 0, 0, []), (17, .iaload, 1, 0, 0, 0, []), (18, .iload_n 1, 1, 0, 0, 0, []), (19, .if_icmp .ne 15, 3, 34, 0, 0, []), (22, .aload_n 0, 1, 0, 0, 0, []), (23, .getfield 15, 3, 7, 1, 159, []), (26, .iload_n 3, 1, 0, 0, 0, []), (27, .iaload, 1, 0, 0, 0, []), (28, .iload_n 2, 1, 0, 0, 0, []), (29, .if_icmp .ne 5, 3, 34, 0, 0, []), (32, .iload_n 3, 1, 0, 0, 0, []), (33, .ireturn, 1, 0, 0, 0, []), (34, .iinc 3 1, 3, 0, 0, 0, []), (37, .goto (-33), 3, 4, 0, 0, []), (40, .iconst (-1), 1, 0, 0, 0, []), (41, .ireturn, 1, 0, 0, 0, [])]
def m_T_element : Mt_ := (k_T_element, 1)
def mt_T_element : Mt_ × Nat × Nat := (m_T_element, 3, 4)
def k_T_documentNumber : List En_ := [(0, .aload_n 0, 1, 0, 0, 0, []), (1, .getfield 59, 3, 7, 6, 174, []), (4, .iconst 2, 1, 0, 0, 0, []), (5, .if_icmp .lt 25, 3, 30, 0, 0, []), (8, .aload_n 0, 1, 0, 0, 0, []), (9, .getfield 15, 3, 7, 1, 159, []), (12, .iconst 1, 1, 0, 0, 0, []), (13, .iaload, 1, 0, 0, 0, []), (14, .sipush 26980, 3, 0, 0, 0, []), (17, .if_icmp .ne 13, 3, 30, 0, 0, []), (20, .aload_n 0, 1, 0, 0, 0, []), (21, .getfield 9, 3, 7, 0, 155, []), (24, .iconst 1, 1, 0, 0, 0, []), (25, .iaload, 1, 0, 0, 0, []), (26, .iconst 1, 1, 0, 0, 0, []), (27, .if_icmp .eq 5, 3, 32, 0, 0, []), (30, .iconst (-1), 1, 0, 0, 0, []), (31, .ireturn, 1, 0, 0, 0, []), (32, .aload_n 0, 1, 0, 0, 0, []), (33, .getfield 35, 3, 7, 7, 176, []), (36, .aload_n 0, 1, 0, 0, 0, []), (37, .getfield 21, 3, 7, 3, 164, []), (40, .iconst 1, 1, 0, 0, 0, []), (41, .iaload, 1, 0, 0, 0, []), (42, .invokevirtual 63, 3, 32, 2, 425, [(0, 4)]), (45, .istore_n 1, 1, 0, 0, 0, []), (46, .iload_n 1, 1, 0, 0, 0, []), (47, .ifCond .lt 14, 3, 61, 0, 0, []), (50, .iload_n 1, 1, 0, 0, 0, []), (51, .sipush 999, 3, 0, 0, 0, []), (54, .if_icmp .gt 7, 3, 61, 0, 0, []), (57, .iload_n 1, 1, 0, 0, 0, []), (58, .goto 4, 3, 62, 0, 0, []), (61, .iconst (-1), 1, 0, 0, 0, []), (62, .ireturn, 1, 0, 0, 0, [])]
def m_T_documentNumber : Mt_ := (k_T_documentNumber, 1)
def mt_T_documentNumber : Mt_ × Nat × Nat := (m_T_documentNumber, 1, 2)
def k_R_signedNumber : List En_ := [(0, .aload_n 0, 1, 0, 0, 0, []), (1, .iload_n 1, 1, 0, 0, 0, []), (2, .invokevirtual 23, 3, 14, 2, 429, [(0, 4)]), (5, .bipush 8, 2, 0, 0, 0, []), (7, .ishl, 1, 0, 0, 0, []), (8, .aload_n 0, 1, 0, 0, 0, []), (9, .iload_n 1, 1, 0, 0, 0, []), (10, .iconst 1, 1, 0, 0, 0, []), (11, .iadd, 1, 0, 0, 0, []), (12, .invokevirtual 23, 3, 14, 2, 429, [(0, 4)]), (15, .ior, 1, 0, 0, 0, []), (16, .i2s, 1, 0, 0, 0, []), (17, .ireturn, 1, 0, 0, 0, [])]
def m_R_signedNumber : Mt_ := (k_R_signedNumber, 1)
def mt_R_signedNumber : Mt_ × Nat × Nat := (m_R_signedNumber, 2, 2)
def k_S_placeOf : List En_ := [(0, .iconst 0, 1, 0, 0, 0, []), (1, .istore_n 2, 1, 0, 0, 0, []), (2, .iload_n 2, 1, 0, 0, 0, []), (3, .aload_n 0, 1, 0, 0, 0, []), (4, .getfield 24, 3, 5, 2, 135, []), (7, .if_icmp .ge 21, 3, 28, 0, 0, []), (10, .aload_n 0, 1, 0, 0, 0, []), (11, .getfield 17, 3, 5, 1, 133, []), (14, .iload_n 2, 1, 0, 0, 0, []), (15, .iaload, 1, 0, 0, 0, []), (16, .iload_n 1, 1, 0, 0, 0, []), (17, .if_icmp .ne 5, 3, 22, 0, 0, []), (20, .iload_n 2, 1, 0, 0, 0, []), (21, .ireturn, 1, 0, 0, 0, []), (22, .iinc 2 1, 3, 0, 0, 0, []), (25, .goto (-23), 3, 2, 0, 0, []), (28, .iconst (-1), 1, 0, 0, 0, []), (29, .ireturn, 1, 0, 0, 0, [])]
def m_S_placeOf : Mt_ := (k_S_placeOf, 1)
def mt_S_placeOf : Mt_ × Nat × Nat := (m_S_placeOf, 2, 3)
def k_S_keep : List En_ := [(0, .aload_n 0, 1, 0, 0, 0, []), (1, .getfield 24, 3, 5, 2, 135, []), (4, .bipush 16, 2, 0, 0, 0, []), (6, .if_icmp .lt 5, 3, 11, 0, 0, []), (9, .iconst 0, 1, 0, 0, 0, []), (10, .ireturn, 1, 0, 0, 0, []), (11, .aload_n 0, 1, 0, 0, 0, []), (12, .getfield 11, 3, 5, 0, 131, []), (15, .aload_n 0, 1, 0, 0, 0, []), (16, .getfield 24, 3, 5, 2, 135, []), (19, .aaload, 1, 0, 0, 0, []), (20, .astore_n 3, 1, 0, 0, 0, []), (21, .aload_n 0, 1, 0, 0, 0, []), (22, .getfield 24, 3, 5, 2, 135, []), (25, .istore 4, 2, 0, 0, 0, []), (27, .iload 4, 2, 0, 0, 0, []), (29, .ifCond .le 54, 3, 83, 0, 0, []), (32, .aload_n 0, 1, 0, 0, 0, []), (33, .getfield 17, 3, 5, 1, 133, []), (36, .iload 4, 2, 0, 0, 0, []), (38, .iconst 1, 1, 0, 0, 0, []), (39, .isub, 1, 0, 0, 0, []), (40, .iaload, 1, 0, 0, 0, []), (41, .iload_n 2, 1, 0, 0, 0, []), (42, .if_icmp .le 41, 3, 83, 0, 0, []), (45, .aload_n 0, 1, 0, 0, 0, []), (46, .getfield 11, 3, 5, 0, 131, []), (49, .iload 4, 2, 0, 0, 0, []), (51, .aload_n 0, 1, 0, 0, 0, []), (52, .getfield 11, 3, 5, 0, 131, []), (55, .iload 4, 2, 0, 0, 0, []), (57, .iconst 1, 1, 0, 0, 0, []), (58, .isub, 1, 0, 0, 0, []), (59, .aaload, 1, 0, 0, 0, []), (60, .aastore, 1, 0, 0, 0, []), (61, .aload_n 0, 1, 0, 0, 0, []), (62, .getfield 17, 3, 5, 1, 133, []), (65, .iload 4, 2, 0, 0, 0, []), (67, .aload_n 0, 1, 0, 0, 0, []), (68, .getfield 17, 3, 5, 1, 133, []), (71, .iload 4, 2, 0, 0, 0, []), (73, .iconst 1, 1, 0, 0, 0, []), (74, .isub, 1, 0, 0, 0, []), (75, .iaload, 1, 0, 0, 0, []), (76, .iastore, 1, 0, 0, 0, []), (77, .iinc 4 (-1), 3, 0, 0, 0, []), (80, .goto (-53), 3, 27, 0, 0, []), (83, .aload_n 3, 1, 0, 0, 0, []), (84, .aload_n 1, 1, 0, 0, 0, []), (85, .invokevirtual 28, 3, 35, 2, 438, [(0, 4)]), (88, .aload_n 0, 1, 0, 0, 0, []), (89, .getfield 11, 3, 5, 0, 131, []), (92, .iload 4, 2, 0, 0, 0, []), (94, .aload_n 3, 1, 0, 0, 0, []), (95, .aastore, 1, 0, 0, 0, []), (96, .aload_n 0, 1, 0, 0, 0, []), (97, .getfield 17, 3, 5, 1, 133, []), (100, .iload 4, 2, 0, 0, 0, []), (102, .iload_n 2, 1, 0, 0, 0, []), (103, .iastore, 1, 0, 0, 0, []), (104, .aload_n 0, 1, 0, 0, 0, []), (105, .dup, 1, 0, 0, 0, []), (106, .getfield 24, 3, 5, 2, 135, []), (109, .iconst 1, 1, 0, 0, 0, []), (110, .iadd, 1, 0, 0, 0, []), (111, .putfield 24, 3, 5, 2, 135, []), (114, .iconst 1, 1, 0, 0, 0, []), (115, .ireturn, 1, 0, 0, 0, [])]
def m_S_keep : Mt_ := (k_S_keep, 2)
def mt_S_keep : Mt_ × Nat × Nat := (m_S_keep, 3, 5)
def k_R_become : List En_ := [(0, .aload_n 0, 1, 0, 0, 0, []), (1, .iconst 0, 1, 0, 0, 0, []), (2, .putfield 15, 3, 4, 1, 96, []), (5, .aload_n 0, 1, 0, 0, 0, []), (6, .aload_n 1, 1, 0, 0, 0, []), (7, .iconst 0, 1, 0, 0, 0, []), (8, .aload_n 1, 1, 0, 0, 0, []), (9, .getfield 15, 3, 4, 1, 96, []), (12, .invokevirtual 27, 3, 36, 4, 442, [(0, 4)]), (15, .return_, 1, 0, 0, 0, [])]
def m_R_become : Mt_ := (k_R_become, 0)
def mt_R_become : Mt_ × Nat × Nat := (m_R_become, 2, 2)
def k_R_addPart : List En_ := [(0, .iload_n 2, 1, 0, 0, 0, []), (1, .istore 4, 2, 0, 0, 0, []), (3, .iload 4, 2, 0, 0, 0, []), (5, .iload_n 3, 1, 0, 0, 0, []), (6, .if_icmp .ge 19, 3, 25, 0, 0, []), (9, .aload_n 0, 1, 0, 0, 0, []), (10, .aload_n 1, 1, 0, 0, 0, []), (11, .iload 4, 2, 0, 0, 0, []), (13, .invokevirtual 23, 3, 14, 2, 429, [(0, 4)]), (16, .invokevirtual 19, 3, 9, 2, 446, [(0, 4)]), (19, .iinc 4 1, 3, 0, 0, 0, []), (22, .goto (-19), 3, 3, 0, 0, []), (25, .return_, 1, 0, 0, 0, [])]
def m_R_addPart : Mt_ := (k_R_addPart, 0)
def mt_R_addPart : Mt_ × Nat × Nat := (m_R_addPart, 4, 5)
def k_P_fetch : List En_ := [(0, .aload_n 0, 1, 0, 0, 0, []), (1, .getfield 28, 3, 0, 2, 288, []), (4, .iload_n 1, 1, 0, 0, 0, []), (5, .invokevirtual 101, 3, 33, 2, 430, [(0, 5)]), (8, .istore_n 2, 1, 0, 0, 0, []), (9, .iload_n 2, 1, 0, 0, 0, []), (10, .iconst (-1), 1, 0, 0, 0, []), (11, .if_icmp .ne 5, 3, 16, 0, 0, []), (14, .iconst (-1), 1, 0, 0, 0, []), (15, .ireturn, 1, 0, 0, 0, []), (16, .aload_n 0, 1, 0, 0, 0, []), (17, .getfield 14, 3, 0, 0, 286, []), (20, .aload_n 0, 1, 0, 0, 0, []), (21, .getfield 28, 3, 0, 2, 288, []), (24, .getfield 108, 3, 5, 0, 132, []), (27, .iload_n 2, 1, 0, 0, 0, []), (28, .aaload, 1, 0, 0, 0, []), (29, .invokevirtual 112, 3, 35, 2, 451, [(0, 4)]), (32, .aload_n 0, 1, 0, 0, 0, []), (33, .getfield 14, 3, 0, 0, 286, []), (36, .getfield 71, 3, 4, 1, 97, []), (39, .ireturn, 1, 0, 0, 0, [])]
def m_P_fetch : Mt_ := (k_P_fetch, 1)
def mt_P_fetch : Mt_ × Nat × Nat := (m_P_fetch, 2, 3)
def k_P_remove : List En_ := [(0, .aload_n 0, 1, 0, 0, 0, []), (1, .getfield 28, 3, 0, 2, 288, []), (4, .iload_n 1, 1, 0, 0, 0, []), (5, .invokevirtual 101, 3, 33, 2, 430, [(0, 5)]), (8, .istore_n 2, 1, 0, 0, 0, []), (9, .iload_n 2, 1, 0, 0, 0, []), (10, .iconst (-1), 1, 0, 0, 0, []), (11, .if_icmp .ne 5, 3, 16, 0, 0, []), (14, .iconst 0, 1, 0, 0, 0, []), (15, .ireturn, 1, 0, 0, 0, []), (16, .aload_n 0, 1, 0, 0, 0, []), (17, .getfield 28, 3, 0, 2, 288, []), (20, .iload_n 2, 1, 0, 0, 0, []), (21, .invokevirtual 116, 3, 39, 2, 456, [(0, 5)]), (24, .iconst 1, 1, 0, 0, 0, []), (25, .ireturn, 1, 0, 0, 0, [])]
def m_P_remove : Mt_ := (k_P_remove, 2)
def mt_P_remove : Mt_ × Nat × Nat := (m_P_remove, 2, 3)
def k_S_drop : List En_ := [(0, .iload_n 1, 1, 0, 0, 0, []), (1, .ifCond .lt 11, 3, 12, 0, 0, []), (4, .iload_n 1, 1, 0, 0, 0, []), (5, .aload_n 0, 1, 0, 0, 0, []), (6, .getfield 24, 3, 5, 2, 135, []), (9, .if_icmp .lt 4, 3, 13, 0, 0, []), (12, .return_, 1, 0, 0, 0, []), (13, .aload_n 0, 1, 0, 0, 0, []), (14, .getfield 11, 3, 5, 0, 131, []), (17, .iload_n 1, 1, 0, 0, 0, []), (18, .aaload, 1, 0, 0, 0, []), (19, .astore_n 2, 1, 0, 0, 0, []), (20, .aload_n 0, 1, 0, 0, 0, []), (21, .dup, 1, 0, 0, 0, []), (22, .getfield 24, 3, 5, 2, 135, []), (25, .iconst 1, 1, 0, 0, 0, []), (26, .isub, 1, 0, 0, 0, []), (27, .putfield 24, 3, 5, 2, 135, []), (30, .iload_n 1, 1, 0, 0, 0, []), (31, .istore_n 3, 1, 0, 0, 0, []), (32, .iload_n 3, 1, 0, 0, 0, []), (33, .aload_n 0, 1, 0, 0, 0, []), (34, .getfield 24, 3, 5, 2, 135, []), (37, .if_icmp .ge 37, 3, 74, 0, 0, []), (40, .aload_n 0, 1, 0, 0, 0, []), (41, .getfield 11, 3, 5, 0, 131, []), (44, .iload_n 3, 1, 0, 0, 0, []), (45, .aload_n 0, 1, 0, 0, 0, []), (46, .getfield 11, 3, 5, 0, 131, []), (49, .iload_n 3, 1, 0, 0, 0, []), (50, .iconst 1, 1, 0, 0, 0, []), (51, .iadd, 1, 0, 0, 0, []), (52, .aaload, 1, 0, 0, 0, []), (53, .aastore, 1, 0, 0, 0, []), (54, .aload_n 0, 1, 0, 0, 0, []), (55, .getfield 17, 3, 5, 1, 133, []), (58, .iload_n 3, 1, 0, 0, 0, []), (59, .aload_n 0, 1, 0, 0, 0, []), (60, .getfield 17, 3, 5, 1, 133, []), (63, .iload_n 3, 1, 0, 0, 0, []), (64, .iconst 1, 1, 0, 0, 0, []), (65, .iadd, 1, 0, 0, 0, []), (66, .iaload, 1, 0, 0, 0, []), (67, .iastore, 1, 0, 0, 0, []), (68, .iinc 3 1, 3, 0, 0, 0, []), (71, .goto (-39), 3, 32, 0, 0, []), (74, .aload_n 0, 1, 0, 0, 0, []), (75, .getfield 11, 3, 5, 0, 131, []), (78, .aload_n 0, 1, 0, 0, 0, []), (79, .getfield 24, 3, 5, 2, 135, []), (82, .aload_n 2, 1, 0, 0, 0, []), (83, .aastore, 1, 0, 0, 0, []), (84, .return_, 1, 0, 0, 0, [])]
def m_S_drop : Mt_ := (k_S_drop, 0)
def mt_S_drop : Mt_ × Nat × Nat := (m_S_drop, 2, 4)
def k_P_index : List En_ := [(0, .iload_n 1, 1, 0, 0, 0, []), (1, .ifCond .lt 18, 3, 19, 0, 0, []), (4, .iload_n 1, 1, 0, 0, 0, []), (5, .iconst 2, 1, 0, 0, 0, []), (6, .if_icmp .ge 13, 3, 19, 0, 0, []), (9, .aload_n 0, 1, 0, 0, 0, []), (10, .getfield 21, 3, 0, 1, 287, []), (13, .getfield 89, 3, 3, 1, 116, []), (16, .ifCond .ne 5, 3, 21, 0, 0, []), (19, .iconst 0, 1, 0, 0, 0, []), (20, .ireturn, 1, 0, 0, 0, []), (21, .aload_n 0, 1, 0, 0, 0, []), (22, .getfield 32, 3, 0, 3, 289, []), (25, .iload_n 1, 1, 0, 0, 0, []), (26, .aaload, 1, 0, 0, 0, []), (27, .aload_n 0, 1, 0, 0, 0, []), (28, .getfield 21, 3, 0, 1, 287, []), (31, .invokevirtual 119, 3, 41, 2, 464, [(0, 3)]), (34, .iconst 1, 1, 0, 0, 0, []), (35, .ireturn, 1, 0, 0, 0, [])]
def m_P_index : Mt_ := (k_P_index, 2)
def mt_P_index : Mt_ × Nat × Nat := (m_P_index, 2, 2)
def k_H_become : List En_ := [(0, .aload_n 0, 1, 0, 0, 0, []), (1, .aload_n 1, 1, 0, 0, 0, []), (2, .getfield 15, 3, 3, 1, 113, []), (5, .putfield 15, 3, 3, 1, 113, []), (8, .aload_n 1, 1, 0, 0, 0, []), (9, .getfield 9, 3, 3, 0, 112, []), (12, .iconst 0, 1, 0, 0, 0, []), (13, .aload_n 0, 1, 0, 0, 0, []), (14, .getfield 9, 3, 3, 0, 112, []), (17, .iconst 0, 1, 0, 0, 0, []), (18, .iconst 3, 1, 0, 0, 0, []), (19, .invokestatic 23, 3, 901, 5, 468, []), (22, .return_, 1, 0, 0, 0, [])]
def m_H_become : Mt_ := (k_H_become, 0)
def mt_H_become : Mt_ × Nat × Nat := (m_H_become, 2, 2)
def k_P_entries : List En_ := [(0, .iload_n 1, 1, 0, 0, 0, []), (1, .ifCond .lt 20, 3, 21, 0, 0, []), (4, .iload_n 1, 1, 0, 0, 0, []), (5, .iconst 2, 1, 0, 0, 0, []), (6, .if_icmp .ge 15, 3, 21, 0, 0, []), (9, .aload_n 0, 1, 0, 0, 0, []), (10, .getfield 32, 3, 0, 3, 289, []), (13, .iload_n 1, 1, 0, 0, 0, []), (14, .aaload, 1, 0, 0, 0, []), (15, .getfield 89, 3, 3, 1, 116, []), (18, .ifCond .ne 5, 3, 23, 0, 0, []), (21, .iconst (-1), 1, 0, 0, 0, []), (22, .ireturn, 1, 0, 0, 0, []), (23, .iconst 0, 1, 0, 0, 0, []), (24, .istore_n 2, 1, 0, 0, 0, []), (25, .iconst 0, 1, 0, 0, 0, []), (26, .istore_n 3, 1, 0, 0, 0, []), (27, .iload_n 3, 1, 0, 0, 0, []), (28, .aload_n 0, 1, 0, 0, 0, []), (29, .getfield 28, 3, 0, 2, 288, []), (32, .getfield 122, 3, 5, 2, 136, []), (35, .if_icmp .ge 57, 3, 92, 0, 0, []), (38, .aload_n 0, 1, 0, 0, 0, []), (39, .getfield 45, 3, 0, 6, 292, []), (42, .aload_n 0, 1, 0, 0, 0, []), (43, .getfield 28, 3, 0, 2, 288, []), (46, .getfield 108, 3, 5, 0, 132, []), (49, .iload_n 3, 1, 0, 0, 0, []), (50, .aaload, 1, 0, 0, 0, []), (51, .invokevirtual 93, 3, 20, 2, 376, [(0, 7)]), (54, .pop, 1, 0, 0, 0, []), (55, .aload_n 0, 1, 0, 0, 0, []), (56, .getfield 52, 3, 0, 7, 293, []), (59, .aload_n 0, 1, 0, 0, 0, []), (60, .getfield 45, 3, 0, 6, 292, []), (63, .aload_n 0, 1, 0, 0, 0, []), (64, .getfield 32, 3, 0, 3, 289, []), (67, .iload_n 1, 1, 0, 0, 0, []), (68, .aaload, 1, 0, 0, 0, []), (69, .invokevirtual 125, 3, 43, 3, 475, [(0, 6)]), (72, .iload_n 2, 1, 0, 0, 0, []), (73, .aload_n 0, 1, 0, 0, 0, []), (74, .getfield 52, 3, 0, 7, 293, []), (77, .aload_n 0, 1, 0, 0, 0, []), (78, .getfield 45, 3, 0, 6, 292, []), (81, .invokevirtual 129, 3, 47, 2, 490, [(0, 6)]), (84, .iadd, 1, 0, 0, 0, []), (85, .istore_n 2, 1, 0, 0, 0, []), (86, .iinc 3 1, 3, 0, 0, 0, []), (89, .goto (-62), 3, 27, 0, 0, []), (92, .iload_n 2, 1, 0, 0, 0, []), (93, .ireturn, 1, 0, 0, 0, [])]
def m_P_entries : Mt_ := (k_P_entries, 1)
def mt_P_entries : Mt_ × Nat × Nat := (m_P_entries, 2, 4)
def k_L_follow : List En_ := [(0, .aload_n 0, 1, 0, 0, 0, []), (1, .iconst 0, 1, 0, 0, 0, []), (2, .putfield 22, 3, 6, 3, 219, []), (5, .aload_n 0, 1, 0, 0, 0, []), (6, .getfield 9, 3, 6, 0, 214, []), (9, .iconst 0, 1, 0, 0, 0, []), (10, .iconst 0, 1, 0, 0, 0, []), (11, .iastore, 1, 0, 0, 0, []), (12, .iconst 1, 1, 0, 0, 0, []), (13, .istore_n 3, 1, 0, 0, 0, []), (14, .iload_n 3, 1, 0, 0, 0, []), (15, .aload_n 1, 1, 0, 0, 0, []), (16, .getfield 26, 3, 7, 6, 173, []), (19, .if_icmp .ge 88, 3, 107, 0, 0, []), (22, .aload_n 1, 1, 0, 0, 0, []), (23, .getfield 29, 3, 7, 5, 171, []), (26, .iload_n 3, 1, 0, 0, 0, []), (27, .iaload, 1, 0, 0, 0, []), (28, .istore 4, 2, 0, 0, 0, []), (30, .aload_n 0, 1, 0, 0, 0, []), (31, .getfield 9, 3, 6, 0, 214, []), (34, .iload 4, 2, 0, 0, 0, []), (36, .iaload, 1, 0, 0, 0, []), (37, .istore 5, 2, 0, 0, 0, []), (39, .aload_n 0, 1, 0, 0, 0, []), (40, .getfield 9, 3, 6, 0, 214, []), (43, .iload_n 3, 1, 0, 0, 0, []), (44, .aload_n 1, 1, 0, 0, 0, []), (45, .aload_n 2, 1, 0, 0, 0, []), (46, .iload_n 3, 1, 0, 0, 0, []), (47, .iload 5, 2, 0, 0, 0, []), (49, .invokestatic 32, 3, 44, 4, 479, [(0, 6)]), (52, .iastore, 1, 0, 0, 0, []), (53, .aload_n 0, 1, 0, 0, 0, []), (54, .getfield 9, 3, 6, 0, 214, []), (57, .iload_n 3, 1, 0, 0, 0, []), (58, .iaload, 1, 0, 0, 0, []), (59, .aload_n 2, 1, 0, 0, 0, []), (60, .getfield 36, 3, 3, 1, 115, []), (63, .if_icmp .ne 12, 3, 75, 0, 0, []), (66, .aload_n 0, 1, 0, 0, 0, []), (67, .iload_n 3, 1, 0, 0, 0, []), (68, .iconst 1, 1, 0, 0, 0, []), (69, .invokevirtual 41, 3, 46, 3, 486, [(0, 6)]), (72, .goto 29, 3, 101, 0, 0, []), (75, .iload 5, 2, 0, 0, 0, []), (77, .aload_n 2, 1, 0, 0, 0, []), (78, .getfield 36, 3, 3, 1, 115, []), (81, .if_icmp .ne 20, 3, 101, 0, 0, []), (84, .aload_n 1, 1, 0, 0, 0, []), (85, .getfield 45, 3, 7, 0, 157, []), (88, .iload 4, 2, 0, 0, 0, []), (90, .iaload, 1, 0, 0, 0, []), (91, .iconst 4, 1, 0, 0, 0, []), (92, .if_icmp .ne 9, 3, 101, 0, 0, []), (95, .aload_n 0, 1, 0, 0, 0, []), (96, .iload_n 3, 1, 0, 0, 0, []), (97, .iconst 0, 1, 0, 0, 0, []), (98, .invokevirtual 41, 3, 46, 3, 486, [(0, 6)]), (101, .iinc 3 1, 3, 0, 0, 0, []), (104, .goto (-90), 3, 14, 0, 0, []), (107, .return_, 1, 0, 0, 0, [])]
def m_L_follow : Mt_ := (k_L_follow, 0)
def mt_L_follow : Mt_ × Nat × Nat := (m_L_follow, 3, 6)
def k_L_goOn : List En_ := [(0, .iload_n 3, 1, 0, 0, 0, []), (1, .iconst (-1), 1, 0, 0, 0, []), (2, .if_icmp .eq 11, 3, 13, 0, 0, []), (5, .iload_n 3, 1, 0, 0, 0, []), (6, .aload_n 1, 1, 0, 0, 0, []), (7, .getfield 36, 3, 3, 1, 115, []), (10, .if_icmp .lt 5, 3, 15, 0, 0, []), (13, .iconst (-1), 1, 0, 0, 0, []), (14, .ireturn, 1, 0, 0, 0, []), (15, .aload_n 0, 1, 0, 0, 0, []), (16, .getfield 45, 3, 7, 0, 157, []), (19, .aload_n 0, 1, 0, 0, 0, []), (20, .getfield 29, 3, 7, 5, 171, []), (23, .iload_n 2, 1, 0, 0, 0, []), (24, .iaload, 1, 0, 0, 0, []), (25, .iaload, 1, 0, 0, 0, []), (26, .iconst 3, 1, 0, 0, 0, []), (27, .if_icmp .ne 25, 3, 52, 0, 0, []), (30, .aload_n 0, 1, 0, 0, 0, []), (31, .getfield 48, 3, 7, 1, 160, []), (34, .iload_n 2, 1, 0, 0, 0, []), (35, .iaload, 1, 0, 0, 0, []), (36, .aload_n 1, 1, 0, 0, 0, []), (37, .iload_n 3, 1, 0, 0, 0, []), (38, .invokevirtual 51, 3, 45, 2, 482, [(0, 3)]), (41, .if_icmp .ne 9, 3, 50, 0, 0, []), (44, .iload_n 3, 1, 0, 0, 0, []), (45, .iconst 1, 1, 0, 0, 0, []), (46, .iadd, 1, 0, 0, 0, []), (47, .goto 4, 3, 51, 0, 0, []), (50, .iconst (-1), 1, 0, 0, 0, []), (51, .ireturn, 1, 0, 0, 0, []), (52, .aload_n 0, 1, 0, 0, 0, []), (53, .getfield 45, 3, 7, 0, 157, []), (56, .iload_n 2, 1, 0, 0, 0, []), (57, .iaload, 1, 0, 0, 0, []), (58, .iconst 3, 1, 0, 0, 0, []), (59, .if_icmp .ne 7, 3, 66, 0, 0, []), (62, .iload_n 3, 1, 0, 0, 0, []), (63, .goto 4, 3, 67, 0, 0, []), (66, .iconst (-1), 1, 0, 0, 0, []), (67, .ireturn, 1, 0, 0, 0, [])]
def m_L_goOn : Mt_ := (k_L_goOn, 1)
def mt_L_goOn : Mt_ × Nat × Nat := (m_L_goOn, 4, 4)
def k_H_name : List En_ := [(0, .iload_n 1, 1, 0, 0, 0, []), (1, .ifCond .lt 20, 3, 21, 0, 0, []), (4, .iload_n 1, 1, 0, 0, 0, []), (5, .aload_n 0, 1, 0, 0, 0, []), (6, .getfield 15, 3, 3, 1, 113, []), (9, .if_icmp .ge 12, 3, 21, 0, 0, []), (12, .aload_n 0, 1, 0, 0, 0, []), (13, .getfield 9, 3, 3, 0, 112, []), (16, .iload_n 1, 1, 0, 0, 0, []), (17, .iaload, 1, 0, 0, 0, []), (18, .goto 4, 3, 22, 0, 0, []), (21, .iconst 0, 1, 0, 0, 0, []), (22, .ireturn, 1, 0, 0, 0, [])]
def m_H_name : Mt_ := (k_H_name, 1)
def mt_H_name : Mt_ × Nat × Nat := (m_H_name, 2, 2)
def k_L_note : List En_ := [(0, .aload_n 0, 1, 0, 0, 0, []), (1, .getfield 15, 3, 6, 1, 215, []), (4, .aload_n 0, 1, 0, 0, 0, []), (5, .getfield 22, 3, 6, 3, 219, []), (8, .iload_n 1, 1, 0, 0, 0, []), (9, .iastore, 1, 0, 0, 0, []), (10, .aload_n 0, 1, 0, 0, 0, []), (11, .getfield 18, 3, 6, 2, 217, []), (14, .aload_n 0, 1, 0, 0, 0, []), (15, .getfield 22, 3, 6, 3, 219, []), (18, .iload_n 2, 1, 0, 0, 0, []), (19, .bastore, 1, 0, 0, 0, []), (20, .aload_n 0, 1, 0, 0, 0, []), (21, .dup, 1, 0, 0, 0, []), (22, .getfield 22, 3, 6, 3, 219, []), (25, .iconst 1, 1, 0, 0, 0, []), (26, .iadd, 1, 0, 0, 0, []), (27, .putfield 22, 3, 6, 3, 219, []), (30, .return_, 1, 0, 0, 0, [])]
def m_L_note : Mt_ := (k_L_note, 0)
def mt_L_note : Mt_ × Nat × Nat := (m_L_note, 3, 3)
def k_L_entryTotal : List En_ := [(0, .iconst 0, 1, 0, 0, 0, []), (1, .istore_n 2, 1, 0, 0, 0, []), (2, .iconst 0, 1, 0, 0, 0, []), (3, .istore_n 3, 1, 0, 0, 0, []), (4, .iload_n 3, 1, 0, 0, 0, []), (5, .aload_n 0, 1, 0, 0, 0, []), (6, .getfield 22, 3, 6, 3, 219, []), (9, .if_icmp .ge 46, 3, 55, 0, 0, []), (12, .aload_n 1, 1, 0, 0, 0, []), (13, .getfield 45, 3, 7, 0, 157, []), (16, .aload_n 0, 1, 0, 0, 0, []), (17, .getfield 15, 3, 6, 1, 215, []), (20, .iload_n 3, 1, 0, 0, 0, []), (21, .iaload, 1, 0, 0, 0, []), (22, .iaload, 1, 0, 0, 0, []), (23, .istore 4, 2, 0, 0, 0, []), (25, .iload 4, 2, 0, 0, 0, []), (27, .iconst 3, 1, 0, 0, 0, []), (28, .if_icmp .eq 21, 3, 49, 0, 0, []), (31, .iload 4, 2, 0, 0, 0, []), (33, .iconst 4, 1, 0, 0, 0, []), (34, .if_icmp .eq 15, 3, 49, 0, 0, []), (37, .aload_n 0, 1, 0, 0, 0, []), (38, .aload_n 1, 1, 0, 0, 0, []), (39, .iload_n 3, 1, 0, 0, 0, []), (40, .invokevirtual 55, 3, 48, 3, 494, [(0, 6)]), (43, .ifCond .eq 6, 3, 49, 0, 0, []), (46, .iinc 2 1, 3, 0, 0, 0, []), (49, .iinc 3 1, 3, 0, 0, 0, []), (52, .goto (-48), 3, 4, 0, 0, []), (55, .iload_n 2, 1, 0, 0, 0, []), (56, .ireturn, 1, 0, 0, 0, [])]
def m_L_entryTotal : Mt_ := (k_L_entryTotal, 1)
def mt_L_entryTotal : Mt_ × Nat × Nat := (m_L_entryTotal, 2, 5)
def k_L_isNew : List En_ := [(0, .iconst 0, 1, 0, 0, 0, []), (1, .istore_n 3, 1, 0, 0, 0, []), (2, .iload_n 3, 1, 0, 0, 0, []), (3, .iload_n 2, 1, 0, 0, 0, []), (4, .if_icmp .ge 30, 3, 34, 0, 0, []), (7, .aload_n 1, 1, 0, 0, 0, []), (8, .aload_n 0, 1, 0, 0, 0, []), (9, .getfield 15, 3, 6, 1, 215, []), (12, .iload_n 3, 1, 0, 0, 0, []), (13, .iaload, 1, 0, 0, 0, []), (14, .aload_n 0, 1, 0, 0, 0, []), (15, .getfield 15, 3, 6, 1, 215, []), (18, .iload_n 2, 1, 0, 0, 0, []), (19, .iaload, 1, 0, 0, 0, []), (20, .invokevirtual 59, 3, 49, 3, 498, [(0, 7)]), (23, .ifCond .eq 5, 3, 28, 0, 0, []), (26, .iconst 0, 1, 0, 0, 0, []), (27, .ireturn, 1, 0, 0, 0, []), (28, .iinc 3 1, 3, 0, 0, 0, []), (31, .goto (-29), 3, 2, 0, 0, []), (34, .iconst 1, 1, 0, 0, 0, []), (35, .ireturn, 1, 0, 0, 0, [])]
def m_L_isNew : Mt_ := (k_L_isNew, 2)
def mt_L_isNew : Mt_ × Nat × Nat := (m_L_isNew, 3, 4)
def k_T_areEqual : List En_ := [(0, .aload_n 0, 1, 0, 0, 0, []), (1, .getfield 24, 3, 7, 4, 167, []), (4, .iload_n 1, 1, 0, 0, 0, []), (5, .iaload, 1, 0, 0, 0, []), (6, .aload_n 0, 1, 0, 0, 0, []), (7, .getfield 21, 3, 7, 3, 164, []), (10, .iload_n 1, 1, 0, 0, 0, []), (11, .iaload, 1, 0, 0, 0, []), (12, .isub, 1, 0, 0, 0, []), (13, .istore_n 3, 1, 0, 0, 0, []), (14, .aload_n 0, 1, 0, 0, 0, []), (15, .getfield 9, 3, 7, 0, 155, []), (18, .iload_n 1, 1, 0, 0, 0, []), (19, .iaload, 1, 0, 0, 0, []), (20, .aload_n 0, 1, 0, 0, 0, []), (21, .getfield 9, 3, 7, 0, 155, []), (24, .iload_n 2, 1, 0, 0, 0, []), (25, .iaload, 1, 0, 0, 0, []), (26, .if_icmp .ne 20, 3, 46, 0, 0, []), (29, .aload_n 0, 1, 0, 0, 0, []), (30, .getfield 24, 3, 7, 4, 167, []), (33, .iload_n 2, 1, 0, 0, 0, []), (34, .iaload, 1, 0, 0, 0, []), (35, .aload_n 0, 1, 0, 0, 0, []), (36, .getfield 21, 3, 7, 3, 164, []), (39, .iload_n 2, 1, 0, 0, 0, []), (40, .iaload, 1, 0, 0, 0, []), (41, .isub, 1, 0, 0, 0, []), (42, .iload_n 3, 1, 0, 0, 0, []), (43, .if_icmp .eq 5, 3, 48, 0, 0, []), (46, .iconst 0, 1, 0, 0, 0, []), (47, .ireturn, 1, 0, 0, 0, []), (48, .iconst 0, 1, 0, 0, 0, []), (49, .istore 4, 2, 0, 0, 0, []), (51, .iload 4, 2, 0, 0, 0, []), (53, .iload_n 3, 1, 0, 0, 0, []), (54, .if_icmp .ge 46, 3, 100, 0, 0, []), (57, .aload_n 0, 1, 0, 0, 0, []), (58, .getfield 35, 3, 7, 7, 176, []), (61, .aload_n 0, 1, 0, 0, 0, []), (62, .getfield 21, 3, 7, 3, 164, []), (65, .iload_n 1, 1, 0, 0, 0, []), (66, .iaload, 1, 0, 0, 0, []), (67, .iload 4, 2, 0, 0, 0, []), (69, .iadd, 1, 0, 0, 0, []), (70, .invokevirtual 67, 3, 14, 2, 400, [(0, 4)]), (73, .aload_n 0, 1, 0, 0, 0, []), (74, .getfield 35, 3, 7, 7, 176, []), (77, .aload_n 0, 1, 0, 0, 0, []), (78, .getfield 21, 3, 7, 3, 164, []), (81, .iload_n 2, 1, 0, 0, 0, []), (82, .iaload, 1, 0, 0, 0, []), (83, .iload 4, 2, 0, 0, 0, []), (85, .iadd, 1, 0, 0, 0, []), (86, .invokevirtual 67, 3, 14, 2, 400, [(0, 4)]), (89, .if_icmp .eq 5, 3, 94, 0, 0, []), (92, .iconst 0, 1, 0, 0, 0, []), (93, .ireturn, 1, 0, 0, 0, []), (94, .iinc 4 1, 3, 0, 0, 0, []), (97, .goto (-46), 3, 51, 0, 0, []), (100, .iconst 1, 1, 0, 0, 0, []), (101, .ireturn, 1, 0, 0, 0, [])]
def m_T_areEqual : Mt_ := (k_T_areEqual, 2)
def mt_T_areEqual : Mt_ × Nat × Nat := (m_T_areEqual, 3, 5)
def k_P_where : List En_ := [(0, .aload_n 0, 1, 0, 0, 0, []), (1, .getfield 45, 3, 0, 6, 292, []), (4, .aload_n 0, 1, 0, 0, 0, []), (5, .getfield 14, 3, 0, 0, 286, []), (8, .invokevirtual 133, 3, 51, 2, 506, [(0, 7)]), (11, .istore_n 2, 1, 0, 0, 0, []), (12, .iload_n 2, 1, 0, 0, 0, []), (13, .iconst (-1), 1, 0, 0, 0, []), (14, .if_icmp .eq 7, 3, 21, 0, 0, []), (17, .iconst (-1), 1, 0, 0, 0, []), (18, .iload_n 2, 1, 0, 0, 0, []), (19, .isub, 1, 0, 0, 0, []), (20, .ireturn, 1, 0, 0, 0, []), (21, .iload_n 1, 1, 0, 0, 0, []), (22, .ifCond .lt 27, 3, 49, 0, 0, []), (25, .iload_n 1, 1, 0, 0, 0, []), (26, .bipush 7, 2, 0, 0, 0, []), (28, .if_icmp .gt 21, 3, 49, 0, 0, []), (31, .aload_n 0, 1, 0, 0, 0, []), (32, .getfield 21, 3, 0, 1, 287, []), (35, .getfield 89, 3, 3, 1, 116, []), (38, .ifCond .eq 11, 3, 49, 0, 0, []), (41, .aload_n 0, 1, 0, 0, 0, []), (42, .getfield 136, 3, 0, 5, 291, []), (45, .iconst 3, 1, 0, 0, 0, []), (46, .if_icmp .lt 7, 3, 53, 0, 0, []), (49, .sipush (-1000), 3, 0, 0, 0, []), (52, .ireturn, 1, 0, 0, 0, []), (53, .aload_n 0, 1, 0, 0, 0, []), (54, .getfield 38, 3, 0, 4, 290, []), (57, .aload_n 0, 1, 0, 0, 0, []), (58, .getfield 136, 3, 0, 5, 291, []), (61, .aaload, 1, 0, 0, 0, []), (62, .aload_n 0, 1, 0, 0, 0, []), (63, .getfield 21, 3, 0, 1, 287, []), (66, .iload_n 1, 1, 0, 0, 0, []), (67, .aload_n 0, 1, 0, 0, 0, []), (68, .getfield 14, 3, 0, 0, 286, []), (71, .invokevirtual 139, 3, 52, 4, 510, [(0, 1)]), (74, .aload_n 0, 1, 0, 0, 0, []), (75, .dup, 1, 0, 0, 0, []), (76, .getfield 136, 3, 0, 5, 291, []), (79, .iconst 1, 1, 0, 0, 0, []), (80, .iadd, 1, 0, 0, 0, []), (81, .putfield 136, 3, 0, 5, 291, []), (84, .aload_n 0, 1, 0, 0, 0, []), (85, .getfield 14, 3, 0, 0, 286, []), (88, .iconst 0, 1, 0, 0, 0, []), (89, .putfield 71, 3, 4, 1, 97, []), (92, .aload_n 0, 1, 0, 0, 0, []), (93, .getfield 136, 3, 0, 5, 291, []), (96, .iconst 1, 1, 0, 0, 0, []), (97, .isub, 1, 0, 0, 0, []), (98, .ireturn, 1, 0, 0, 0, [])]
def m_P_where : Mt_ := (k_P_where, 1)
def mt_P_where : Mt_ × Nat × Nat := (m_P_where, 2, 3)
def k_T_readOperand : List En_ := [(0, .aload_n 0, 1, 0, 0, 0, []), (1, .aload_n 1, 1, 0, 0, 0, []), (2, .invokevirtual 39, 3, 21, 2, 380, [(0, 7)]), (5, .aload_n 0, 1, 0, 0, 0, []), (6, .aload_n 0, 1, 0, 0, 0, []), (7, .invokevirtual 55, 3, 28, 1, 409, [(0, 7)]), (10, .invokevirtual 51, 3, 26, 2, 401, [(0, 7)]), (13, .ireturn, 1, 0, 0, 0, [])]
def m_T_readOperand : Mt_ := (k_T_readOperand, 1)
def mt_T_readOperand : Mt_ × Nat × Nat := (m_T_readOperand, 2, 2)
def k_C_become : List En_ := [(0, .aload_n 0, 1, 0, 0, 0, []), (1, .getfield 12, 3, 1, 0, 275, []), (4, .aload_n 1, 1, 0, 0, 0, []), (5, .invokevirtual 27, 3, 41, 2, 514, [(0, 3)]), (8, .aload_n 0, 1, 0, 0, 0, []), (9, .iload_n 2, 1, 0, 0, 0, []), (10, .putfield 31, 3, 1, 2, 278, []), (13, .aload_n 0, 1, 0, 0, 0, []), (14, .getfield 23, 3, 1, 1, 277, []), (17, .aload_n 3, 1, 0, 0, 0, []), (18, .invokevirtual 35, 3, 35, 2, 515, [(0, 4)]), (21, .return_, 1, 0, 0, 0, [])]
def m_C_become : Mt_ := (k_C_become, 0)
def mt_C_become : Mt_ × Nat × Nat := (m_C_become, 4, 4)
def k_P_anywhere : List En_ := [(0, .aload_n 0, 1, 0, 0, 0, []), (1, .getfield 136, 3, 0, 5, 291, []), (4, .istore_n 1, 1, 0, 0, 0, []), (5, .aload_n 0, 1, 0, 0, 0, []), (6, .iconst 0, 1, 0, 0, 0, []), (7, .putfield 136, 3, 0, 5, 291, []), (10, .iload_n 1, 1, 0, 0, 0, []), (11, .ireturn, 1, 0, 0, 0, [])]
def m_P_anywhere : Mt_ := (k_P_anywhere, 1)
def mt_P_anywhere : Mt_ × Nat × Nat := (m_P_anywhere, 1, 2)
def k_P_find : List En_ := [(0, .aload_n 0, 1, 0, 0, 0, []), (1, .invokevirtual 142, 3, 55, 1, 524, [(0, 0)]), (4, .iconst 0, 1, 0, 0, 0, []), (5, .istore_n 1, 1, 0, 0, 0, []), (6, .iload_n 1, 1, 0, 0, 0, []), (7, .aload_n 0, 1, 0, 0, 0, []), (8, .getfield 145, 3, 0, 10, 296, []), (11, .if_icmp .ge 29, 3, 40, 0, 0, []), (14, .aload_n 0, 1, 0, 0, 0, []), (15, .getfield 67, 3, 0, 12, 298, []), (18, .iload_n 1, 1, 0, 0, 0, []), (19, .aload_n 0, 1, 0, 0, 0, []), (20, .getfield 28, 3, 0, 2, 288, []), (23, .getfield 148, 3, 5, 1, 134, []), (26, .aload_n 0, 1, 0, 0, 0, []), (27, .getfield 63, 3, 0, 9, 295, []), (30, .iload_n 1, 1, 0, 0, 0, []), (31, .iaload, 1, 0, 0, 0, []), (32, .iaload, 1, 0, 0, 0, []), (33, .iastore, 1, 0, 0, 0, []), (34, .iinc 1 1, 3, 0, 0, 0, []), (37, .goto (-31), 3, 6, 0, 0, []), (40, .aload_n 0, 1, 0, 0, 0, []), (41, .aload_n 0, 1, 0, 0, 0, []), (42, .getfield 145, 3, 0, 10, 296, []), (45, .putfield 151, 3, 0, 13, 299, []), (48, .aload_n 0, 1, 0, 0, 0, []), (49, .getfield 151, 3, 0, 13, 299, []), (52, .ireturn, 1, 0, 0, 0, [])]
def m_P_find : Mt_ := (k_P_find, 1)
def mt_P_find : Mt_ × Nat × Nat := (m_P_find, 1, 2)
def k_P_seek : List En_ := [(0, .aload_n 0, 1, 0, 0, 0, []), (1, .invokevirtual 164, 3, 56, 1, 528, [(0, 0)]), (4, .istore_n 1, 1, 0, 0, 0, []), (5, .aload_n 0, 1, 0, 0, 0, []), (6, .iconst 0, 1, 0, 0, 0, []), (7, .putfield 154, 3, 0, 11, 297, []), (10, .aload_n 0, 1, 0, 0, 0, []), (11, .iconst 0, 1, 0, 0, 0, []), (12, .putfield 145, 3, 0, 10, 296, []), (15, .iconst 0, 1, 0, 0, 0, []), (16, .istore_n 2, 1, 0, 0, 0, []), (17, .iload_n 2, 1, 0, 0, 0, []), (18, .aload_n 0, 1, 0, 0, 0, []), (19, .getfield 28, 3, 0, 2, 288, []), (22, .getfield 122, 3, 5, 2, 136, []), (25, .if_icmp .ge 131, 3, 156, 0, 0, []), (28, .aload_n 0, 1, 0, 0, 0, []), (29, .getfield 45, 3, 0, 6, 292, []), (32, .aload_n 0, 1, 0, 0, 0, []), (33, .getfield 28, 3, 0, 2, 288, []), (36, .getfield 108, 3, 5, 0, 132, []), (39, .iload_n 2, 1, 0, 0, 0, []), (40, .aaload, 1, 0, 0, 0, []), (41, .invokevirtual 93, 3, 20, 2, 376, [(0, 7)]), (44, .pop, 1, 0, 0, 0, []), (45, .iload_n 1, 1, 0, 0, 0, []), (46, .iconst (-1), 1, 0, 0, 0, []), (47, .if_icmp .eq 26, 3, 73, 0, 0, []), (50, .aload_n 0, 1, 0, 0, 0, []), (51, .getfield 38, 3, 0, 4, 290, []), (54, .iload_n 1, 1, 0, 0, 0, []), (55, .aaload, 1, 0, 0, 0, []), (56, .aload_n 0, 1, 0, 0, 0, []), (57, .getfield 45, 3, 0, 6, 292, []), (60, .aload_n 0, 1, 0, 0, 0, []), (61, .getfield 52, 3, 0, 7, 293, []), (64, .invokevirtual 167, 3, 60, 3, 545, [(0, 1)]), (67, .ifCond .ne 6, 3, 73, 0, 0, []), (70, .goto 80, 3, 150, 0, 0, []), (73, .aload_n 0, 1, 0, 0, 0, []), (74, .dup, 1, 0, 0, 0, []), (75, .getfield 154, 3, 0, 11, 297, []), (78, .iconst 1, 1, 0, 0, 0, []), (79, .iadd, 1, 0, 0, 0, []), (80, .putfield 154, 3, 0, 11, 297, []), (83, .iconst 1, 1, 0, 0, 0, []), (84, .istore_n 3, 1, 0, 0, 0, []), (85, .iconst 0, 1, 0, 0, 0, []), (86, .istore 4, 2, 0, 0, 0, []), (88, .iload 4, 2, 0, 0, 0, []), (90, .aload_n 0, 1, 0, 0, 0, []), (91, .getfield 136, 3, 0, 5, 291, []), (94, .if_icmp .ge 32, 3, 126, 0, 0, []), (97, .iload_n 3, 1, 0, 0, 0, []), (98, .ifCond .eq 28, 3, 126, 0, 0, []), (101, .aload_n 0, 1, 0, 0, 0, []), (102, .getfield 38, 3, 0, 4, 290, []), (105, .iload 4, 2, 0, 0, 0, []), (107, .aaload, 1, 0, 0, 0, []), (108, .aload_n 0, 1, 0, 0, 0, []), (109, .getfield 45, 3, 0, 6, 292, []), (112, .aload_n 0, 1, 0, 0, 0, []), (113, .getfield 52, 3, 0, 7, 293, []), (116, .invokevirtual 167, 3, 60, 3, 545, [(0, 1)]), (119, .istore_n 3, 1, 0, 0, 0, []), (120, .iinc 4 1, 3, 0, 0, 0, []), (123, .goto (-35), 3, 88, 0, 0, []), (126, .iload_n 3, 1, 0, 0, 0, []), (127, .ifCond .eq 23, 3, 150, 0, 0, []), (130, .aload_n 0, 1, 0, 0, 0, []), (131, .getfield 63, 3, 0, 9, 295, []), (134, .aload_n 0, 1, 0, 0, 0, []), (135, .getfield 145, 3, 0, 10, 296, []), (138, .iload_n 2, 1, 0, 0, 0, []), (139, .iastore, 1, 0, 0, 0, []), (140, .aload_n 0, 1, 0, 0, 0, []), (141, .dup, 1, 0, 0, 0, []), (142, .getfield 145, 3, 0, 10, 296, []), (145, .iconst 1, 1, 0, 0, 0, []), (146, .iadd, 1, 0, 0, 0, []), (147, .putfield 145, 3, 0, 10, 296, []), (150, .iinc 2 1, 3, 0, 0, 0, []), (153, .goto (-136), 3, 17, 0, 0, []), (156, .return_, 1, 0, 0, 0, [])]
def m_P_seek : Mt_ := (k_P_seek, 0)
def mt_P_seek : Mt_ × Nat × Nat := (m_P_seek, 1, 5)
def k_P_leadingCondition : List En_ := [(0, .iconst 0, 1, 0, 0, 0, []), (1, .istore_n 1, 1, 0, 0, 0, []), (2, .iload_n 1, 1, 0, 0, 0, []), (3, .aload_n 0, 1, 0, 0, 0, []), (4, .getfield 136, 3, 0, 5, 291, []), (7, .if_icmp .ge 39, 3, 46, 0, 0, []), (10, .aload_n 0, 1, 0, 0, 0, []), (11, .getfield 38, 3, 0, 4, 290, []), (14, .iload_n 1, 1, 0, 0, 0, []), (15, .aaload, 1, 0, 0, 0, []), (16, .invokevirtual 171, 3, 57, 1, 532, [(0, 1)]), (19, .ifCond .eq 21, 3, 40, 0, 0, []), (22, .aload_n 0, 1, 0, 0, 0, []), (23, .aload_n 0, 1, 0, 0, 0, []), (24, .getfield 38, 3, 0, 4, 290, []), (27, .iload_n 1, 1, 0, 0, 0, []), (28, .aaload, 1, 0, 0, 0, []), (29, .getfield 175, 3, 1, 0, 276, []), (32, .invokevirtual 178, 3, 58, 2, 537, [(0, 0)]), (35, .ifCond .eq 5, 3, 40, 0, 0, []), (38, .iload_n 1, 1, 0, 0, 0, []), (39, .ireturn, 1, 0, 0, 0, []), (40, .iinc 1 1, 3, 0, 0, 0, []), (43, .goto (-41), 3, 2, 0, 0, []), (46, .iconst (-1), 1, 0, 0, 0, []), (47, .ireturn, 1, 0, 0, 0, [])]
def m_P_leadingCondition : Mt_ := (k_P_leadingCondition, 1)
def mt_P_leadingCondition : Mt_ × Nat × Nat := (m_P_leadingCondition, 1, 2)
def k_C_suitsIndex : List En_ := [(0, .aload_n 0, 1, 0, 0, 0, []), (1, .getfield 23, 3, 1, 1, 277, []), (4, .iconst 0, 1, 0, 0, 0, []), (5, .invokevirtual 38, 3, 14, 2, 536, [(0, 4)]), (8, .istore_n 1, 1, 0, 0, 0, []), (9, .aload_n 0, 1, 0, 0, 0, []), (10, .getfield 31, 3, 1, 2, 278, []), (13, .ifCond .ne 24, 3, 37, 0, 0, []), (16, .iload_n 1, 1, 0, 0, 0, []), (17, .iconst 1, 1, 0, 0, 0, []), (18, .if_icmp .eq 13, 3, 31, 0, 0, []), (21, .iload_n 1, 1, 0, 0, 0, []), (22, .iconst 2, 1, 0, 0, 0, []), (23, .if_icmp .eq 8, 3, 31, 0, 0, []), (26, .iload_n 1, 1, 0, 0, 0, []), (27, .iconst 5, 1, 0, 0, 0, []), (28, .if_icmp .ne 7, 3, 35, 0, 0, []), (31, .iconst 1, 1, 0, 0, 0, []), (32, .goto 4, 3, 36, 0, 0, []), (35, .iconst 0, 1, 0, 0, 0, []), (36, .ireturn, 1, 0, 0, 0, []), (37, .aload_n 0, 1, 0, 0, 0, []), (38, .getfield 31, 3, 1, 2, 278, []), (41, .iconst 2, 1, 0, 0, 0, []), (42, .if_icmp .lt 25, 3, 67, 0, 0, []), (45, .aload_n 0, 1, 0, 0, 0, []), (46, .getfield 31, 3, 1, 2, 278, []), (49, .iconst 5, 1, 0, 0, 0, []), (50, .if_icmp .gt 17, 3, 67, 0, 0, []), (53, .iload_n 1, 1, 0, 0, 0, []), (54, .iconst 1, 1, 0, 0, 0, []), (55, .if_icmp .eq 8, 3, 63, 0, 0, []), (58, .iload_n 1, 1, 0, 0, 0, []), (59, .iconst 2, 1, 0, 0, 0, []), (60, .if_icmp .ne 7, 3, 67, 0, 0, []), (63, .iconst 1, 1, 0, 0, 0, []), (64, .goto 4, 3, 68, 0, 0, []), (67, .iconst 0, 1, 0, 0, 0, []), (68, .ireturn, 1, 0, 0, 0, [])]
def m_C_suitsIndex : Mt_ := (k_C_suitsIndex, 2)
def mt_C_suitsIndex : Mt_ × Nat × Nat := (m_C_suitsIndex, 1, 2)
def k_P_hasIndex : List En_ := [(0, .iconst 0, 1, 0, 0, 0, []), (1, .istore_n 2, 1, 0, 0, 0, []), (2, .iload_n 2, 1, 0, 0, 0, []), (3, .iconst 2, 1, 0, 0, 0, []), (4, .if_icmp .ge 24, 3, 28, 0, 0, []), (7, .aload_n 0, 1, 0, 0, 0, []), (8, .getfield 32, 3, 0, 3, 289, []), (11, .iload_n 2, 1, 0, 0, 0, []), (12, .aaload, 1, 0, 0, 0, []), (13, .aload_n 1, 1, 0, 0, 0, []), (14, .invokevirtual 182, 3, 59, 2, 541, [(0, 3)]), (17, .ifCond .eq 5, 3, 22, 0, 0, []), (20, .iconst 1, 1, 0, 0, 0, []), (21, .ireturn, 1, 0, 0, 0, []), (22, .iinc 2 1, 3, 0, 0, 0, []), (25, .goto (-23), 3, 2, 0, 0, []), (28, .iconst 0, 1, 0, 0, 0, []), (29, .ireturn, 1, 0, 0, 0, [])]
def m_P_hasIndex : Mt_ := (k_P_hasIndex, 2)
def mt_P_hasIndex : Mt_ × Nat × Nat := (m_P_hasIndex, 2, 3)
def k_H_isSame : List En_ := [(0, .aload_n 0, 1, 0, 0, 0, []), (1, .getfield 15, 3, 3, 1, 113, []), (4, .aload_n 1, 1, 0, 0, 0, []), (5, .getfield 15, 3, 3, 1, 113, []), (8, .if_icmp .eq 5, 3, 13, 0, 0, []), (11, .iconst 0, 1, 0, 0, 0, []), (12, .ireturn, 1, 0, 0, 0, []), (13, .iconst 0, 1, 0, 0, 0, []), (14, .istore_n 2, 1, 0, 0, 0, []), (15, .iload_n 2, 1, 0, 0, 0, []), (16, .aload_n 0, 1, 0, 0, 0, []), (17, .getfield 15, 3, 3, 1, 113, []), (20, .if_icmp .ge 26, 3, 46, 0, 0, []), (23, .aload_n 0, 1, 0, 0, 0, []), (24, .getfield 9, 3, 3, 0, 112, []), (27, .iload_n 2, 1, 0, 0, 0, []), (28, .iaload, 1, 0, 0, 0, []), (29, .aload_n 1, 1, 0, 0, 0, []), (30, .getfield 9, 3, 3, 0, 112, []), (33, .iload_n 2, 1, 0, 0, 0, []), (34, .iaload, 1, 0, 0, 0, []), (35, .if_icmp .eq 5, 3, 40, 0, 0, []), (38, .iconst 0, 1, 0, 0, 0, []), (39, .ireturn, 1, 0, 0, 0, []), (40, .iinc 2 1, 3, 0, 0, 0, []), (43, .goto (-28), 3, 15, 0, 0, []), (46, .iconst 1, 1, 0, 0, 0, []), (47, .ireturn, 1, 0, 0, 0, [])]
def m_H_isSame : Mt_ := (k_H_isSame, 2)
def mt_H_isSame : Mt_ × Nat × Nat := (m_H_isSame, 2, 3)
def k_C_holds : List En_ := [(0, .aload_n 2, 1, 0, 0, 0, []), (1, .aload_n 1, 1, 0, 0, 0, []), (2, .aload_n 0, 1, 0, 0, 0, []), (3, .getfield 12, 3, 1, 0, 275, []), (6, .invokevirtual 42, 3, 43, 3, 549, [(0, 6)]), (9, .aload_n 0, 1, 0, 0, 0, []), (10, .getfield 31, 3, 1, 2, 278, []), (13, .tableswitch 125 0 7 #[47, 54, 125, 125, 125, 125, 69, 118], 47, 138, 0, 0, [(0, 60), (1, 67), (2, 138), (3, 138), (4, 138), (5, 138), (6, 82), (7, 131)]), (60, .aload_n 0, 1, 0, 0, 0, []), (61, .aload_n 1, 1, 0, 0, 0, []), (62, .aload_n 2, 1, 0, 0, 0, []), (63, .invokevirtual 48, 3, 61, 3, 550, [(0, 1)]), (66, .ireturn, 1, 0, 0, 0, []), (67, .aload_n 0, 1, 0, 0, 0, []), (68, .aload_n 1, 1, 0, 0, 0, []), (69, .aload_n 2, 1, 0, 0, 0, []), (70, .invokevirtual 48, 3, 61, 3, 550, [(0, 1)]), (73, .ifCond .ne 7, 3, 80, 0, 0, []), (76, .iconst 1, 1, 0, 0, 0, []), (77, .goto 4, 3, 81, 0, 0, []), (80, .iconst 0, 1, 0, 0, 0, []), (81, .ireturn, 1, 0, 0, 0, []), (82, .aload_n 2, 1, 0, 0, 0, []), (83, .getfield 52, 3, 6, 3, 220, []), (86, .ifCond .ne 7, 3, 93, 0, 0, []), (89, .iconst 1, 1, 0, 0, 0, []), (90, .goto 4, 3, 94, 0, 0, []), (93, .iconst 0, 1, 0, 0, 0, []), (94, .aload_n 0, 1, 0, 0, 0, []), (95, .getfield 23, 3, 1, 1, 277, []), (98, .iconst 0, 1, 0, 0, 0, []), (99, .invokevirtual 38, 3, 14, 2, 536, [(0, 4)]), (102, .iconst 5, 1, 0, 0, 0, []), (103, .if_icmp .ne 18, 3, 121, 0, 0, []), (106, .aload_n 0, 1, 0, 0, 0, []), (107, .getfield 23, 3, 1, 1, 277, []), (110, .iconst 1, 1, 0, 0, 0, []), (111, .invokevirtual 38, 3, 14, 2, 536, [(0, 4)]), (114, .ifCond .ne 7, 3, 121, 0, 0, []), (117, .iconst 1, 1, 0, 0, 0, []), (118, .goto 4, 3, 122, 0, 0, []), (121, .iconst 0, 1, 0, 0, 0, []), (122, .if_icmp .ne 7, 3, 129, 0, 0, []), (125, .iconst 1, 1, 0, 0, 0, []), (126, .goto 4, 3, 130, 0, 0, []), (129, .iconst 0, 1, 0, 0, 0, []), (130, .ireturn, 1, 0, 0, 0, []), (131, .aload_n 0, 1, 0, 0, 0, []), (132, .aload_n 1, 1, 0, 0, 0, []), (133, .aload_n 2, 1, 0, 0, 0, []), (134, .invokevirtual 55, 3, 64, 3, 562, [(0, 1)]), (137, .ireturn, 1, 0, 0, 0, []), (138, .aload_n 0, 1, 0, 0, 0, []), (139, .aload_n 1, 1, 0, 0, 0, []), (140, .aload_n 2, 1, 0, 0, 0, []), (141, .invokevirtual 58, 3, 66, 3, 571, [(0, 1)]), (144, .ireturn, 1, 0, 0, 0, [])]
def m_C_holds : Mt_ := (k_C_holds, 2)
def mt_C_holds : Mt_ × Nat × Nat := (m_C_holds, 3, 3)
def k_C_someIsEqual : List En_ := [(0, .aload_n 2, 1, 0, 0, 0, []), (1, .getfield 52, 3, 6, 3, 220, []), (4, .ifCond .ne 22, 3, 26, 0, 0, []), (7, .aload_n 0, 1, 0, 0, 0, []), (8, .getfield 23, 3, 1, 1, 277, []), (11, .iconst 0, 1, 0, 0, 0, []), (12, .invokevirtual 38, 3, 14, 2, 536, [(0, 4)]), (15, .bipush 6, 2, 0, 0, 0, []), (17, .if_icmp .ne 7, 3, 24, 0, 0, []), (20, .iconst 1, 1, 0, 0, 0, []), (21, .goto 4, 3, 25, 0, 0, []), (24, .iconst 0, 1, 0, 0, 0, []), (25, .ireturn, 1, 0, 0, 0, []), (26, .iconst 0, 1, 0, 0, 0, []), (27, .istore_n 3, 1, 0, 0, 0, []), (28, .iload_n 3, 1, 0, 0, 0, []), (29, .aload_n 2, 1, 0, 0, 0, []), (30, .getfield 52, 3, 6, 3, 220, []), (33, .if_icmp .ge 28, 3, 61, 0, 0, []), (36, .aload_n 1, 1, 0, 0, 0, []), (37, .aload_n 2, 1, 0, 0, 0, []), (38, .getfield 61, 3, 6, 1, 216, []), (41, .iload_n 3, 1, 0, 0, 0, []), (42, .iaload, 1, 0, 0, 0, []), (43, .aload_n 0, 1, 0, 0, 0, []), (44, .getfield 23, 3, 1, 1, 277, []), (47, .invokevirtual 65, 3, 62, 3, 554, [(0, 7)]), (50, .ifCond .eq 5, 3, 55, 0, 0, []), (53, .iconst 1, 1, 0, 0, 0, []), (54, .ireturn, 1, 0, 0, 0, []), (55, .iinc 3 1, 3, 0, 0, 0, []), (58, .goto (-30), 3, 28, 0, 0, []), (61, .iconst 0, 1, 0, 0, 0, []), (62, .ireturn, 1, 0, 0, 0, [])]
def m_C_someIsEqual : Mt_ := (k_C_someIsEqual, 2)
def mt_C_someIsEqual : Mt_ × Nat × Nat := (m_C_someIsEqual, 3, 4)
def k_T_isEqual : List En_ := [(0, .aload_n 0, 1, 0, 0, 0, []), (1, .getfield 9, 3, 7, 0, 155, []), (4, .iload_n 1, 1, 0, 0, 0, []), (5, .iaload, 1, 0, 0, 0, []), (6, .aload_n 2, 1, 0, 0, 0, []), (7, .iconst 0, 1, 0, 0, 0, []), (8, .invokevirtual 67, 3, 14, 2, 400, [(0, 4)]), (11, .if_icmp .ne 31, 3, 42, 0, 0, []), (14, .aload_n 0, 1, 0, 0, 0, []), (15, .getfield 35, 3, 7, 7, 176, []), (18, .aload_n 0, 1, 0, 0, 0, []), (19, .getfield 21, 3, 7, 3, 164, []), (22, .iload_n 1, 1, 0, 0, 0, []), (23, .iaload, 1, 0, 0, 0, []), (24, .aload_n 0, 1, 0, 0, 0, []), (25, .getfield 24, 3, 7, 4, 167, []), (28, .iload_n 1, 1, 0, 0, 0, []), (29, .iaload, 1, 0, 0, 0, []), (30, .aload_n 2, 1, 0, 0, 0, []), (31, .iconst 1, 1, 0, 0, 0, []), (32, .invokevirtual 70, 3, 63, 5, 558, [(0, 4)]), (35, .ifCond .ne 7, 3, 42, 0, 0, []), (38, .iconst 1, 1, 0, 0, 0, []), (39, .goto 4, 3, 43, 0, 0, []), (42, .iconst 0, 1, 0, 0, 0, []), (43, .ireturn, 1, 0, 0, 0, [])]
def m_T_isEqual : Mt_ := (k_T_isEqual, 2)
def mt_T_isEqual : Mt_ × Nat × Nat := (m_T_isEqual, 3, 3)
def k_R_compare : List En_ := [(0, .iload_n 2, 1, 0, 0, 0, []), (1, .iload_n 1, 1, 0, 0, 0, []), (2, .isub, 1, 0, 0, 0, []), (3, .istore 5, 2, 0, 0, 0, []), (5, .aload_n 3, 1, 0, 0, 0, []), (6, .getfield 15, 3, 4, 1, 96, []), (9, .iload 4, 2, 0, 0, 0, []), (11, .isub, 1, 0, 0, 0, []), (12, .istore 6, 2, 0, 0, 0, []), (14, .iconst 0, 1, 0, 0, 0, []), (15, .istore 7, 2, 0, 0, 0, []), (17, .iload 7, 2, 0, 0, 0, []), (19, .iload 5, 2, 0, 0, 0, []), (21, .if_icmp .ge 44, 3, 65, 0, 0, []), (24, .iload 7, 2, 0, 0, 0, []), (26, .iload 6, 2, 0, 0, 0, []), (28, .if_icmp .ge 37, 3, 65, 0, 0, []), (31, .aload_n 0, 1, 0, 0, 0, []), (32, .iload_n 1, 1, 0, 0, 0, []), (33, .iload 7, 2, 0, 0, 0, []), (35, .iadd, 1, 0, 0, 0, []), (36, .invokevirtual 23, 3, 14, 2, 429, [(0, 4)]), (39, .aload_n 3, 1, 0, 0, 0, []), (40, .iload 4, 2, 0, 0, 0, []), (42, .iload 7, 2, 0, 0, 0, []), (44, .iadd, 1, 0, 0, 0, []), (45, .invokevirtual 23, 3, 14, 2, 429, [(0, 4)]), (48, .isub, 1, 0, 0, 0, []), (49, .istore 8, 2, 0, 0, 0, []), (51, .iload 8, 2, 0, 0, 0, []), (53, .ifCond .eq 6, 3, 59, 0, 0, []), (56, .iload 8, 2, 0, 0, 0, []), (58, .ireturn, 1, 0, 0, 0, []), (59, .iinc 7 1, 3, 0, 0, 0, []), (62, .goto (-45), 3, 17, 0, 0, []), (65, .iload 5, 2, 0, 0, 0, []), (67, .iload 6, 2, 0, 0, 0, []), (69, .isub, 1, 0, 0, 0, []), (70, .ireturn, 1, 0, 0, 0, [])]
def m_R_compare : Mt_ := (k_R_compare, 1)
def mt_R_compare : Mt_ × Nat × Nat := (m_R_compare, 5, 9)
def k_C_someHasSize : List En_ := [(0, .aload_n 0, 1, 0, 0, 0, []), (1, .getfield 23, 3, 1, 1, 277, []), (4, .iconst 0, 1, 0, 0, 0, []), (5, .invokevirtual 38, 3, 14, 2, 536, [(0, 4)]), (8, .iconst 1, 1, 0, 0, 0, []), (9, .if_icmp .eq 5, 3, 14, 0, 0, []), (12, .iconst 0, 1, 0, 0, 0, []), (13, .ireturn, 1, 0, 0, 0, []), (14, .aload_n 0, 1, 0, 0, 0, []), (15, .getfield 23, 3, 1, 1, 277, []), (18, .iconst 1, 1, 0, 0, 0, []), (19, .invokevirtual 71, 3, 32, 2, 566, [(0, 4)]), (22, .istore_n 3, 1, 0, 0, 0, []), (23, .iconst 0, 1, 0, 0, 0, []), (24, .istore 4, 2, 0, 0, 0, []), (26, .iload 4, 2, 0, 0, 0, []), (28, .aload_n 2, 1, 0, 0, 0, []), (29, .getfield 52, 3, 6, 3, 220, []), (32, .if_icmp .ge 51, 3, 83, 0, 0, []), (35, .aload_n 2, 1, 0, 0, 0, []), (36, .getfield 61, 3, 6, 1, 216, []), (39, .iload 4, 2, 0, 0, 0, []), (41, .iaload, 1, 0, 0, 0, []), (42, .istore 5, 2, 0, 0, 0, []), (44, .aload_n 2, 1, 0, 0, 0, []), (45, .getfield 74, 3, 6, 2, 218, []), (48, .iload 4, 2, 0, 0, 0, []), (50, .baload, 1, 0, 0, 0, []), (51, .ifCond .eq 26, 3, 77, 0, 0, []), (54, .aload_n 1, 1, 0, 0, 0, []), (55, .getfield 78, 3, 7, 0, 158, []), (58, .iload 5, 2, 0, 0, 0, []), (60, .iaload, 1, 0, 0, 0, []), (61, .iconst 4, 1, 0, 0, 0, []), (62, .if_icmp .ne 15, 3, 77, 0, 0, []), (65, .aload_n 1, 1, 0, 0, 0, []), (66, .iload 5, 2, 0, 0, 0, []), (68, .invokevirtual 81, 3, 65, 2, 567, [(0, 7)]), (71, .iload_n 3, 1, 0, 0, 0, []), (72, .if_icmp .ne 5, 3, 77, 0, 0, []), (75, .iconst 1, 1, 0, 0, 0, []), (76, .ireturn, 1, 0, 0, 0, []), (77, .iinc 4 1, 3, 0, 0, 0, []), (80, .goto (-54), 3, 26, 0, 0, []), (83, .iconst 0, 1, 0, 0, 0, []), (84, .ireturn, 1, 0, 0, 0, [])]
def m_C_someHasSize : Mt_ := (k_C_someHasSize, 2)
def mt_C_someHasSize : Mt_ × Nat × Nat := (m_C_someHasSize, 3, 6)
def k_T_itemTotal : List En_ := [(0, .iconst 0, 1, 0, 0, 0, []), (1, .istore_n 2, 1, 0, 0, 0, []), (2, .iload_n 1, 1, 0, 0, 0, []), (3, .iconst 1, 1, 0, 0, 0, []), (4, .iadd, 1, 0, 0, 0, []), (5, .istore_n 3, 1, 0, 0, 0, []), (6, .iload_n 3, 1, 0, 0, 0, []), (7, .aload_n 0, 1, 0, 0, 0, []), (8, .getfield 59, 3, 7, 6, 174, []), (11, .if_icmp .ge 22, 3, 33, 0, 0, []), (14, .aload_n 0, 1, 0, 0, 0, []), (15, .getfield 27, 3, 7, 5, 170, []), (18, .iload_n 3, 1, 0, 0, 0, []), (19, .iaload, 1, 0, 0, 0, []), (20, .iload_n 1, 1, 0, 0, 0, []), (21, .if_icmp .ne 6, 3, 27, 0, 0, []), (24, .iinc 2 1, 3, 0, 0, 0, []), (27, .iinc 3 1, 3, 0, 0, 0, []), (30, .goto (-24), 3, 6, 0, 0, []), (33, .iload_n 2, 1, 0, 0, 0, []), (34, .ireturn, 1, 0, 0, 0, [])]
def m_T_itemTotal : Mt_ := (k_T_itemTotal, 1)
def mt_T_itemTotal : Mt_ × Nat × Nat := (m_T_itemTotal, 2, 4)
def k_C_someComparesSo : List En_ := [(0, .aload_n 0, 1, 0, 0, 0, []), (1, .getfield 23, 3, 1, 1, 277, []), (4, .iconst 0, 1, 0, 0, 0, []), (5, .invokevirtual 38, 3, 14, 2, 536, [(0, 4)]), (8, .istore_n 3, 1, 0, 0, 0, []), (9, .iload_n 3, 1, 0, 0, 0, []), (10, .iconst 1, 1, 0, 0, 0, []), (11, .if_icmp .eq 10, 3, 21, 0, 0, []), (14, .iload_n 3, 1, 0, 0, 0, []), (15, .iconst 2, 1, 0, 0, 0, []), (16, .if_icmp .eq 5, 3, 21, 0, 0, []), (19, .iconst 0, 1, 0, 0, 0, []), (20, .ireturn, 1, 0, 0, 0, []), (21, .iconst 0, 1, 0, 0, 0, []), (22, .istore 4, 2, 0, 0, 0, []), (24, .iload 4, 2, 0, 0, 0, []), (26, .aload_n 2, 1, 0, 0, 0, []), (27, .getfield 52, 3, 6, 3, 220, []), (30, .if_icmp .ge 45, 3, 75, 0, 0, []), (33, .aload_n 2, 1, 0, 0, 0, []), (34, .getfield 61, 3, 6, 1, 216, []), (37, .iload 4, 2, 0, 0, 0, []), (39, .iaload, 1, 0, 0, 0, []), (40, .istore 5, 2, 0, 0, 0, []), (42, .aload_n 1, 1, 0, 0, 0, []), (43, .getfield 78, 3, 7, 0, 158, []), (46, .iload 5, 2, 0, 0, 0, []), (48, .iaload, 1, 0, 0, 0, []), (49, .iload_n 3, 1, 0, 0, 0, []), (50, .if_icmp .ne 19, 3, 69, 0, 0, []), (53, .aload_n 0, 1, 0, 0, 0, []), (54, .aload_n 0, 1, 0, 0, 0, []), (55, .aload_n 1, 1, 0, 0, 0, []), (56, .iload 5, 2, 0, 0, 0, []), (58, .invokevirtual 84, 3, 67, 3, 575, [(0, 1)]), (61, .invokevirtual 88, 3, 68, 2, 580, [(0, 1)]), (64, .ifCond .eq 5, 3, 69, 0, 0, []), (67, .iconst 1, 1, 0, 0, 0, []), (68, .ireturn, 1, 0, 0, 0, []), (69, .iinc 4 1, 3, 0, 0, 0, []), (72, .goto (-48), 3, 24, 0, 0, []), (75, .iconst 0, 1, 0, 0, 0, []), (76, .ireturn, 1, 0, 0, 0, [])]
def m_C_someComparesSo : Mt_ := (k_C_someComparesSo, 2)
def mt_C_someComparesSo : Mt_ × Nat × Nat := (m_C_someComparesSo, 3, 6)
def k_C_difference : List En_ := [(0, .aload_n 1, 1, 0, 0, 0, []), (1, .getfield 92, 3, 7, 3, 166, []), (4, .iload_n 2, 1, 0, 0, 0, []), (5, .iaload, 1, 0, 0, 0, []), (6, .istore_n 3, 1, 0, 0, 0, []), (7, .aload_n 0, 1, 0, 0, 0, []), (8, .getfield 23, 3, 1, 1, 277, []), (11, .iconst 0, 1, 0, 0, 0, []), (12, .invokevirtual 38, 3, 14, 2, 536, [(0, 4)]), (15, .iconst 1, 1, 0, 0, 0, []), (16, .if_icmp .ne 21, 3, 37, 0, 0, []), (19, .aload_n 1, 1, 0, 0, 0, []), (20, .getfield 95, 3, 7, 7, 178, []), (23, .iload_n 3, 1, 0, 0, 0, []), (24, .invokevirtual 71, 3, 32, 2, 566, [(0, 4)]), (27, .aload_n 0, 1, 0, 0, 0, []), (28, .getfield 23, 3, 1, 1, 277, []), (31, .iconst 1, 1, 0, 0, 0, []), (32, .invokevirtual 71, 3, 32, 2, 566, [(0, 4)]), (35, .isub, 1, 0, 0, 0, []), (36, .ireturn, 1, 0, 0, 0, []), (37, .aload_n 1, 1, 0, 0, 0, []), (38, .getfield 95, 3, 7, 7, 178, []), (41, .iload_n 3, 1, 0, 0, 0, []), (42, .iconst 1, 1, 0, 0, 0, []), (43, .iadd, 1, 0, 0, 0, []), (44, .aload_n 1, 1, 0, 0, 0, []), (45, .getfield 98, 3, 7, 4, 169, []), (48, .iload_n 2, 1, 0, 0, 0, []), (49, .iaload, 1, 0, 0, 0, []), (50, .aload_n 0, 1, 0, 0, 0, []), (51, .getfield 23, 3, 1, 1, 277, []), (54, .iconst 2, 1, 0, 0, 0, []), (55, .invokevirtual 101, 3, 63, 5, 579, [(0, 4)]), (58, .ireturn, 1, 0, 0, 0, [])]
def m_C_difference : Mt_ := (k_C_difference, 1)
def mt_C_difference : Mt_ × Nat × Nat := (m_C_difference, 3, 4)
def k_C_isSo : List En_ := [(0, .aload_n 0, 1, 0, 0, 0, []), (1, .getfield 31, 3, 1, 2, 278, []), (4, .tableswitch 58 2 4 #[28, 38, 48], 28, 62, 0, 0, [(2, 32), (3, 42), (4, 52)]), (32, .iload_n 1, 1, 0, 0, 0, []), (33, .ifCond .ge 7, 3, 40, 0, 0, []), (36, .iconst 1, 1, 0, 0, 0, []), (37, .goto 4, 3, 41, 0, 0, []), (40, .iconst 0, 1, 0, 0, 0, []), (41, .ireturn, 1, 0, 0, 0, []), (42, .iload_n 1, 1, 0, 0, 0, []), (43, .ifCond .gt 7, 3, 50, 0, 0, []), (46, .iconst 1, 1, 0, 0, 0, []), (47, .goto 4, 3, 51, 0, 0, []), (50, .iconst 0, 1, 0, 0, 0, []), (51, .ireturn, 1, 0, 0, 0, []), (52, .iload_n 1, 1, 0, 0, 0, []), (53, .ifCond .le 7, 3, 60, 0, 0, []), (56, .iconst 1, 1, 0, 0, 0, []), (57, .goto 4, 3, 61, 0, 0, []), (60, .iconst 0, 1, 0, 0, 0, []), (61, .ireturn, 1, 0, 0, 0, []), (62, .iload_n 1, 1, 0, 0, 0, []), (63, .ifCond .lt 7, 3, 70, 0, 0, []), (66, .iconst 1, 1, 0, 0, 0, []), (67, .goto 4, 3, 71, 0, 0, []), (70, .iconst 0, 1, 0, 0, 0, []), (71, .ireturn, 1, 0, 0, 0, [])]
def m_C_isSo : Mt_ := (k_C_isSo, 2)
def mt_C_isSo : Mt_ × Nat × Nat := (m_C_isSo, 2, 2)
def k_P_found : List En_ := [(0, .iload_n 1, 1, 0, 0, 0, []), (1, .ifCond .lt 20, 3, 21, 0, 0, []), (4, .iload_n 1, 1, 0, 0, 0, []), (5, .aload_n 0, 1, 0, 0, 0, []), (6, .getfield 151, 3, 0, 13, 299, []), (9, .if_icmp .ge 12, 3, 21, 0, 0, []), (12, .aload_n 0, 1, 0, 0, 0, []), (13, .getfield 67, 3, 0, 12, 298, []), (16, .iload_n 1, 1, 0, 0, 0, []), (17, .iaload, 1, 0, 0, 0, []), (18, .goto 4, 3, 22, 0, 0, []), (21, .iconst (-1), 1, 0, 0, 0, []), (22, .ireturn, 1, 0, 0, 0, [])]
def m_P_found : Mt_ := (k_P_found, 1)
def mt_P_found : Mt_ × Nat × Nat := (m_P_found, 2, 2)
def k_P_examined : List En_ := [(0, .aload_n 0, 1, 0, 0, 0, []), (1, .getfield 154, 3, 0, 11, 297, []), (4, .ireturn, 1, 0, 0, 0, [])]
def m_P_examined : Mt_ := (k_P_examined, 1)
def mt_P_examined : Mt_ × Nat × Nat := (m_P_examined, 1, 1)
def k_P_change : List En_ := [(0, .iload_n 1, 1, 0, 0, 0, []), (1, .iconst 1, 1, 0, 0, 0, []), (2, .if_icmp .eq 24, 3, 26, 0, 0, []), (5, .aload_n 0, 1, 0, 0, 0, []), (6, .getfield 45, 3, 0, 6, 292, []), (9, .aload_n 0, 1, 0, 0, 0, []), (10, .getfield 14, 3, 0, 0, 286, []), (13, .invokevirtual 133, 3, 51, 2, 506, [(0, 7)]), (16, .istore_n 2, 1, 0, 0, 0, []), (17, .iload_n 2, 1, 0, 0, 0, []), (18, .iconst (-1), 1, 0, 0, 0, []), (19, .if_icmp .eq 7, 3, 26, 0, 0, []), (22, .iconst (-1), 1, 0, 0, 0, []), (23, .iload_n 2, 1, 0, 0, 0, []), (24, .isub, 1, 0, 0, 0, []), (25, .ireturn, 1, 0, 0, 0, []), (26, .iload_n 1, 1, 0, 0, 0, []), (27, .ifCond .lt 31, 3, 58, 0, 0, []), (30, .iload_n 1, 1, 0, 0, 0, []), (31, .iconst 4, 1, 0, 0, 0, []), (32, .if_icmp .gt 26, 3, 58, 0, 0, []), (35, .aload_n 0, 1, 0, 0, 0, []), (36, .getfield 21, 3, 0, 1, 287, []), (39, .getfield 89, 3, 3, 1, 116, []), (42, .ifCond .eq 16, 3, 58, 0, 0, []), (45, .aload_n 0, 1, 0, 0, 0, []), (46, .getfield 21, 3, 0, 1, 287, []), (49, .sipush 26980, 3, 0, 0, 0, []), (52, .invokevirtual 157, 3, 72, 2, 596, [(0, 3)]), (55, .ifCond .eq 7, 3, 62, 0, 0, []), (58, .sipush (-1000), 3, 0, 0, 0, []), (61, .ireturn, 1, 0, 0, 0, []), (62, .aload_n 0, 1, 0, 0, 0, []), (63, .invokevirtual 142, 3, 55, 1, 524, [(0, 0)]), (66, .iconst 0, 1, 0, 0, 0, []), (67, .istore_n 2, 1, 0, 0, 0, []), (68, .iconst 0, 1, 0, 0, 0, []), (69, .istore_n 3, 1, 0, 0, 0, []), (70, .iload_n 3, 1, 0, 0, 0, []), (71, .aload_n 0, 1, 0, 0, 0, []), (72, .getfield 145, 3, 0, 10, 296, []), (75, .if_icmp .ge 57, 3, 132, 0, 0, []), (78, .aload_n 0, 1, 0, 0, 0, []), (79, .getfield 45, 3, 0, 6, 292, []), (82, .aload_n 0, 1, 0, 0, 0, []), (83, .getfield 28, 3, 0, 2, 288, []), (86, .getfield 108, 3, 5, 0, 132, []), (89, .aload_n 0, 1, 0, 0, 0, []), (90, .getfield 63, 3, 0, 9, 295, []), (93, .iload_n 3, 1, 0, 0, 0, []), (94, .iaload, 1, 0, 0, 0, []), (95, .aaload, 1, 0, 0, 0, []), (96, .invokevirtual 93, 3, 20, 2, 376, [(0, 7)]), (99, .pop, 1, 0, 0, 0, []), (100, .aload_n 0, 1, 0, 0, 0, []), (101, .getfield 59, 3, 0, 8, 294, []), (104, .aload_n 0, 1, 0, 0, 0, []), (105, .getfield 45, 3, 0, 6, 292, []), (108, .aload_n 0, 1, 0, 0, 0, []), (109, .getfield 21, 3, 0, 1, 287, []), (112, .iload_n 1, 1, 0, 0, 0, []), (113, .aload_n 0, 1, 0, 0, 0, []), (114, .getfield 14, 3, 0, 0, 286, []), (117, .invokevirtual 160, 3, 73, 5, 600, [(0, 2)]), (120, .ifCond .eq 6, 3, 126, 0, 0, []), (123, .iinc 2 1, 3, 0, 0, 0, []), (126, .iinc 3 1, 3, 0, 0, 0, []), (129, .goto (-59), 3, 70, 0, 0, []), (132, .aload_n 0, 1, 0, 0, 0, []), (133, .getfield 14, 3, 0, 0, 286, []), (136, .iconst 0, 1, 0, 0, 0, []), (137, .putfield 71, 3, 4, 1, 97, []), (140, .iload_n 2, 1, 0, 0, 0, []), (141, .ireturn, 1, 0, 0, 0, [])]
def m_P_change : Mt_ := (k_P_change, 1)
def mt_P_change : Mt_ × Nat × Nat := (m_P_change, 2, 4)
def k_H_isOnly : List En_ := [(0, .aload_n 0, 1, 0, 0, 0, []), (1, .getfield 15, 3, 3, 1, 113, []), (4, .iconst 1, 1, 0, 0, 0, []), (5, .if_icmp .ne 17, 3, 22, 0, 0, []), (8, .aload_n 0, 1, 0, 0, 0, []), (9, .getfield 9, 3, 3, 0, 112, []), (12, .iconst 0, 1, 0, 0, 0, []), (13, .iaload, 1, 0, 0, 0, []), (14, .iload_n 1, 1, 0, 0, 0, []), (15, .if_icmp .ne 7, 3, 22, 0, 0, []), (18, .iconst 1, 1, 0, 0, 0, []), (19, .goto 4, 3, 23, 0, 0, []), (22, .iconst 0, 1, 0, 0, 0, []), (23, .ireturn, 1, 0, 0, 0, [])]
def m_H_isOnly : Mt_ := (k_H_isOnly, 2)
def mt_H_isOnly : Mt_ × Nat × Nat := (m_H_isOnly, 2, 2)
def k_E_apply : List En_ := [(0, .iload_n 3, 1, 0, 0, 0, []), (1, .iconst 2, 1, 0, 0, 0, []), (2, .if_icmp .ne 15, 3, 17, 0, 0, []), (5, .aload 4, 2, 0, 0, 0, []), (7, .iconst 0, 1, 0, 0, 0, []), (8, .invokevirtual 34, 3, 14, 2, 604, [(0, 4)]), (11, .iconst 1, 1, 0, 0, 0, []), (12, .if_icmp .eq 5, 3, 17, 0, 0, []), (15, .iconst 0, 1, 0, 0, 0, []), (16, .ireturn, 1, 0, 0, 0, []), (17, .iconst 0, 1, 0, 0, 0, []), (18, .istore 5, 2, 0, 0, 0, []), (20, .iconst 0, 1, 0, 0, 0, []), (21, .istore 6, 2, 0, 0, 0, []), (23, .aload_n 1, 1, 0, 0, 0, []), (24, .iconst 0, 1, 0, 0, 0, []), (25, .aload_n 2, 1, 0, 0, 0, []), (26, .iconst 0, 1, 0, 0, 0, []), (27, .invokevirtual 38, 3, 45, 2, 605, [(0, 3)]), (30, .invokevirtual 43, 3, 30, 3, 606, [(0, 7)]), (33, .istore 7, 2, 0, 0, 0, []), (35, .iload 6, 2, 0, 0, 0, []), (37, .aload_n 2, 1, 0, 0, 0, []), (38, .getfield 47, 3, 3, 1, 114, []), (41, .iconst 1, 1, 0, 0, 0, []), (42, .isub, 1, 0, 0, 0, []), (43, .if_icmp .ge 48, 3, 91, 0, 0, []), (46, .iload 7, 2, 0, 0, 0, []), (48, .iconst (-1), 1, 0, 0, 0, []), (49, .if_icmp .eq 42, 3, 91, 0, 0, []), (52, .aload_n 1, 1, 0, 0, 0, []), (53, .getfield 51, 3, 7, 0, 156, []), (56, .iload 7, 2, 0, 0, 0, []), (58, .iaload, 1, 0, 0, 0, []), (59, .iconst 3, 1, 0, 0, 0, []), (60, .if_icmp .eq 5, 3, 65, 0, 0, []), (63, .iconst 0, 1, 0, 0, 0, []), (64, .ireturn, 1, 0, 0, 0, []), (65, .iload 7, 2, 0, 0, 0, []), (67, .istore 5, 2, 0, 0, 0, []), (69, .aload_n 1, 1, 0, 0, 0, []), (70, .iload 5, 2, 0, 0, 0, []), (72, .aload_n 2, 1, 0, 0, 0, []), (73, .iload 6, 2, 0, 0, 0, []), (75, .iconst 1, 1, 0, 0, 0, []), (76, .iadd, 1, 0, 0, 0, []), (77, .invokevirtual 38, 3, 45, 2, 605, [(0, 3)]), (80, .invokevirtual 43, 3, 30, 3, 606, [(0, 7)]), (83, .istore 7, 2, 0, 0, 0, []), (85, .iinc 6 1, 3, 0, 0, 0, []), (88, .goto (-53), 3, 35, 0, 0, []), (91, .aload_n 0, 1, 0, 0, 0, []), (92, .getfield 14, 3, 2, 0, 241, []), (95, .iconst 0, 1, 0, 0, 0, []), (96, .putfield 54, 3, 4, 1, 98, []), (99, .iload 7, 2, 0, 0, 0, []), (101, .iconst (-1), 1, 0, 0, 0, []), (102, .if_icmp .ne 52, 3, 154, 0, 0, []), (105, .iload_n 3, 1, 0, 0, 0, []), (106, .iconst 1, 1, 0, 0, 0, []), (107, .if_icmp .eq 8, 3, 115, 0, 0, []), (110, .iload_n 3, 1, 0, 0, 0, []), (111, .iconst 4, 1, 0, 0, 0, []), (112, .if_icmp .ne 5, 3, 117, 0, 0, []), (115, .iconst 1, 1, 0, 0, 0, []), (116, .ireturn, 1, 0, 0, 0, []), (117, .aload_n 0, 1, 0, 0, 0, []), (118, .iload 5, 2, 0, 0, 0, []), (120, .aload_n 1, 1, 0, 0, 0, []), (121, .getfield 55, 3, 7, 4, 168, []), (124, .iload 5, 2, 0, 0, 0, []), (126, .iaload, 1, 0, 0, 0, []), (127, .iconst 1, 1, 0, 0, 0, []), (128, .isub, 1, 0, 0, 0, []), (129, .aload_n 1, 1, 0, 0, 0, []), (130, .getfield 55, 3, 7, 4, 168, []), (133, .iload 5, 2, 0, 0, 0, []), (135, .iaload, 1, 0, 0, 0, []), (136, .iconst 1, 1, 0, 0, 0, []), (137, .isub, 1, 0, 0, 0, []), (138, .invokevirtual 58, 3, 74, 4, 607, [(0, 2)]), (141, .aload_n 0, 1, 0, 0, 0, []), (142, .aload_n 2, 1, 0, 0, 0, []), (143, .iload 6, 2, 0, 0, 0, []), (145, .iload_n 3, 1, 0, 0, 0, []), (146, .aload 4, 2, 0, 0, 0, []), (148, .invokevirtual 62, 3, 75, 5, 611, [(0, 2)]), (151, .goto 18, 3, 169, 0, 0, []), (154, .aload_n 0, 1, 0, 0, 0, []), (155, .aload_n 1, 1, 0, 0, 0, []), (156, .iload 7, 2, 0, 0, 0, []), (158, .iload_n 3, 1, 0, 0, 0, []), (159, .aload 4, 2, 0, 0, 0, []), (161, .invokevirtual 66, 3, 80, 5, 634, [(0, 2)]), (164, .ifCond .ne 5, 3, 169, 0, 0, []), (167, .iconst 0, 1, 0, 0, 0, []), (168, .ireturn, 1, 0, 0, 0, []), (169, .aload_n 0, 1, 0, 0, 0, []), (170, .aload_n 1, 1, 0, 0, 0, []), (171, .invokevirtual 70, 3, 83, 2, 648, [(0, 2)]), (174, .ifCond .eq 18, 3, 192, 0, 0, []), (177, .aload_n 0, 1, 0, 0, 0, []), (178, .getfield 26, 3, 2, 2, 243, []), (181, .aload_n 0, 1, 0, 0, 0, []), (182, .getfield 20, 3, 2, 1, 242, []), (185, .invokevirtual 74, 3, 20, 2, 652, [(0, 7)]), (188, .iconst (-1), 1, 0, 0, 0, []), (189, .if_icmp .eq 5, 3, 194, 0, 0, []), (192, .iconst 0, 1, 0, 0, 0, []), (193, .ireturn, 1, 0, 0, 0, []), (194, .aload_n 1, 1, 0, 0, 0, []), (195, .getfield 78, 3, 7, 7, 177, []), (198, .aload_n 0, 1, 0, 0, 0, []), (199, .getfield 20, 3, 2, 1, 242, []), (202, .invokevirtual 81, 3, 35, 2, 653, [(0, 4)]), (205, .iconst 1, 1, 0, 0, 0, []), (206, .ireturn, 1, 0, 0, 0, [])]
def m_E_apply : Mt_ := (k_E_apply, 2)
def mt_E_apply : Mt_ × Nat × Nat := (m_E_apply, 5, 8)
def k_E_aim : List En_ := [(0, .aload_n 0, 1, 0, 0, 0, []), (1, .iload_n 1, 1, 0, 0, 0, []), (2, .putfield 85, 3, 2, 5, 246, []), (5, .aload_n 0, 1, 0, 0, 0, []), (6, .iload_n 2, 1, 0, 0, 0, []), (7, .putfield 88, 3, 2, 6, 247, []), (10, .aload_n 0, 1, 0, 0, 0, []), (11, .iload_n 3, 1, 0, 0, 0, []), (12, .putfield 91, 3, 2, 7, 248, []), (15, .return_, 1, 0, 0, 0, [])]
def m_E_aim : Mt_ := (k_E_aim, 0)
def mt_E_aim : Mt_ × Nat × Nat := (m_E_aim, 4, 4)
def k_E_writeNew : List En_ := [(0, .aload_n 0, 1, 0, 0, 0, []), (1, .iconst 0, 1, 0, 0, 0, []), (2, .putfield 137, 3, 2, 4, 245, []), (5, .iload_n 2, 1, 0, 0, 0, []), (6, .istore 5, 2, 0, 0, 0, []), (8, .iload 5, 2, 0, 0, 0, []), (10, .aload_n 1, 1, 0, 0, 0, []), (11, .getfield 47, 3, 3, 1, 114, []), (14, .iconst 1, 1, 0, 0, 0, []), (15, .isub, 1, 0, 0, 0, []), (16, .if_icmp .ge 20, 3, 36, 0, 0, []), (19, .aload_n 0, 1, 0, 0, 0, []), (20, .iconst 3, 1, 0, 0, 0, []), (21, .aload_n 1, 1, 0, 0, 0, []), (22, .iload 5, 2, 0, 0, 0, []), (24, .invokevirtual 38, 3, 45, 2, 605, [(0, 3)]), (27, .invokevirtual 140, 3, 76, 3, 615, [(0, 2)]), (30, .iinc 5 1, 3, 0, 0, 0, []), (33, .goto (-25), 3, 8, 0, 0, []), (36, .iload_n 3, 1, 0, 0, 0, []), (37, .iconst 3, 1, 0, 0, 0, []), (38, .if_icmp .ne 30, 3, 68, 0, 0, []), (41, .aload_n 0, 1, 0, 0, 0, []), (42, .iconst 4, 1, 0, 0, 0, []), (43, .aload_n 1, 1, 0, 0, 0, []), (44, .invokevirtual 144, 3, 78, 1, 624, [(0, 3)]), (47, .invokevirtual 140, 3, 76, 3, 615, [(0, 2)]), (50, .aload_n 0, 1, 0, 0, 0, []), (51, .getfield 14, 3, 2, 0, 241, []), (54, .aload 4, 2, 0, 0, 0, []), (56, .iconst 0, 1, 0, 0, 0, []), (57, .aload 4, 2, 0, 0, 0, []), (59, .getfield 54, 3, 4, 1, 98, []), (62, .invokevirtual 117, 3, 36, 4, 629, [(0, 4)]), (65, .goto 13, 3, 78, 0, 0, []), (68, .aload_n 0, 1, 0, 0, 0, []), (69, .aload_n 1, 1, 0, 0, 0, []), (70, .invokevirtual 144, 3, 78, 1, 624, [(0, 3)]), (73, .aload 4, 2, 0, 0, 0, []), (75, .invokevirtual 106, 3, 79, 3, 630, [(0, 2)]), (78, .aload_n 0, 1, 0, 0, 0, []), (79, .getfield 137, 3, 2, 4, 245, []), (82, .iconst 1, 1, 0, 0, 0, []), (83, .isub, 1, 0, 0, 0, []), (84, .istore 5, 2, 0, 0, 0, []), (86, .iload 5, 2, 0, 0, 0, []), (88, .ifCond .lt 47, 3, 135, 0, 0, []), (91, .aload_n 0, 1, 0, 0, 0, []), (92, .getfield 14, 3, 2, 0, 241, []), (95, .iconst 0, 1, 0, 0, 0, []), (96, .invokevirtual 125, 3, 9, 2, 619, [(0, 4)]), (99, .aload_n 0, 1, 0, 0, 0, []), (100, .getfield 14, 3, 2, 0, 241, []), (103, .getfield 148, 3, 4, 0, 94, []), (106, .aload_n 0, 1, 0, 0, 0, []), (107, .getfield 30, 3, 2, 3, 244, []), (110, .iload 5, 2, 0, 0, 0, []), (112, .iaload, 1, 0, 0, 0, []), (113, .aload_n 0, 1, 0, 0, 0, []), (114, .getfield 14, 3, 2, 0, 241, []), (117, .getfield 54, 3, 4, 1, 98, []), (120, .aload_n 0, 1, 0, 0, 0, []), (121, .getfield 30, 3, 2, 3, 244, []), (124, .iload 5, 2, 0, 0, 0, []), (126, .iaload, 1, 0, 0, 0, []), (127, .isub, 1, 0, 0, 0, []), (128, .iastore, 1, 0, 0, 0, []), (129, .iinc 5 (-1), 3, 0, 0, 0, []), (132, .goto (-46), 3, 86, 0, 0, []), (135, .return_, 1, 0, 0, 0, [])]
def m_E_writeNew : Mt_ := (k_E_writeNew, 0)
def mt_E_writeNew : Mt_ × Nat × Nat := (m_E_writeNew, 5, 6)
def k_E_openNest : List En_ := [(0, .aload_n 0, 1, 0, 0, 0, []), (1, .getfield 14, 3, 2, 0, 241, []), (4, .iload_n 1, 1, 0, 0, 0, []), (5, .invokevirtual 125, 3, 9, 2, 619, [(0, 4)]), (8, .aload_n 0, 1, 0, 0, 0, []), (9, .getfield 14, 3, 2, 0, 241, []), (12, .iload_n 2, 1, 0, 0, 0, []), (13, .invokevirtual 128, 3, 77, 2, 620, [(0, 4)]), (16, .aload_n 0, 1, 0, 0, 0, []), (17, .getfield 30, 3, 2, 3, 244, []), (20, .aload_n 0, 1, 0, 0, 0, []), (21, .getfield 137, 3, 2, 4, 245, []), (24, .aload_n 0, 1, 0, 0, 0, []), (25, .getfield 14, 3, 2, 0, 241, []), (28, .getfield 54, 3, 4, 1, 98, []), (31, .iastore, 1, 0, 0, 0, []), (32, .aload_n 0, 1, 0, 0, 0, []), (33, .dup, 1, 0, 0, 0, []), (34, .getfield 137, 3, 2, 4, 245, []), (37, .iconst 1, 1, 0, 0, 0, []), (38, .iadd, 1, 0, 0, 0, []), (39, .putfield 137, 3, 2, 4, 245, []), (42, .aload_n 0, 1, 0, 0, 0, []), (43, .getfield 14, 3, 2, 0, 241, []), (46, .iconst 0, 1, 0, 0, 0, []), (47, .invokevirtual 125, 3, 9, 2, 619, [(0, 4)]), (50, .return_, 1, 0, 0, 0, [])]
def m_E_openNest : Mt_ := (k_E_openNest, 0)
def mt_E_openNest : Mt_ × Nat × Nat := (m_E_openNest, 3, 3)
def k_R_addName : List En_ := [(0, .iconst 3, 1, 0, 0, 0, []), (1, .istore_n 2, 1, 0, 0, 0, []), (2, .iload_n 2, 1, 0, 0, 0, []), (3, .ifCond .lt 29, 3, 32, 0, 0, []), (6, .iload_n 1, 1, 0, 0, 0, []), (7, .bipush 8, 2, 0, 0, 0, []), (9, .iload_n 2, 1, 0, 0, 0, []), (10, .imul, 1, 0, 0, 0, []), (11, .iushr, 1, 0, 0, 0, []), (12, .sipush 255, 3, 0, 0, 0, []), (15, .iand, 1, 0, 0, 0, []), (16, .istore_n 3, 1, 0, 0, 0, []), (17, .iload_n 3, 1, 0, 0, 0, []), (18, .ifCond .eq 8, 3, 26, 0, 0, []), (21, .aload_n 0, 1, 0, 0, 0, []), (22, .iload_n 3, 1, 0, 0, 0, []), (23, .invokevirtual 19, 3, 9, 2, 446, [(0, 4)]), (26, .iinc 2 (-1), 3, 0, 0, 0, []), (29, .goto (-27), 3, 2, 0, 0, []), (32, .aload_n 0, 1, 0, 0, 0, []), (33, .iconst 0, 1, 0, 0, 0, []), (34, .invokevirtual 19, 3, 9, 2, 446, [(0, 4)]), (37, .return_, 1, 0, 0, 0, [])]
def m_R_addName : Mt_ := (k_R_addName, 0)
def mt_R_addName : Mt_ × Nat × Nat := (m_R_addName, 2, 4)
def k_H_lastName : List En_ := [(0, .aload_n 0, 1, 0, 0, 0, []), (1, .aload_n 0, 1, 0, 0, 0, []), (2, .getfield 15, 3, 3, 1, 113, []), (5, .iconst 1, 1, 0, 0, 0, []), (6, .isub, 1, 0, 0, 0, []), (7, .invokevirtual 19, 3, 45, 2, 628, [(0, 3)]), (10, .ireturn, 1, 0, 0, 0, [])]
def m_H_lastName : Mt_ := (k_H_lastName, 1)
def mt_H_lastName : Mt_ × Nat × Nat := (m_H_lastName, 1, 1)
def k_E_writeElement : List En_ := [(0, .aload_n 0, 1, 0, 0, 0, []), (1, .getfield 14, 3, 2, 0, 241, []), (4, .aload_n 2, 1, 0, 0, 0, []), (5, .iconst 0, 1, 0, 0, 0, []), (6, .invokevirtual 34, 3, 14, 2, 604, [(0, 4)]), (9, .invokevirtual 125, 3, 9, 2, 619, [(0, 4)]), (12, .aload_n 0, 1, 0, 0, 0, []), (13, .getfield 14, 3, 2, 0, 241, []), (16, .iload_n 1, 1, 0, 0, 0, []), (17, .invokevirtual 128, 3, 77, 2, 620, [(0, 4)]), (20, .aload_n 0, 1, 0, 0, 0, []), (21, .getfield 14, 3, 2, 0, 241, []), (24, .aload_n 2, 1, 0, 0, 0, []), (25, .iconst 1, 1, 0, 0, 0, []), (26, .aload_n 2, 1, 0, 0, 0, []), (27, .getfield 54, 3, 4, 1, 98, []), (30, .invokevirtual 117, 3, 36, 4, 629, [(0, 4)]), (33, .return_, 1, 0, 0, 0, [])]
def m_E_writeElement : Mt_ := (k_E_writeElement, 0)
def mt_E_writeElement : Mt_ × Nat × Nat := (m_E_writeElement, 3, 3)
def k_E_alter : List En_ := [(0, .aload_n 1, 1, 0, 0, 0, []), (1, .getfield 51, 3, 7, 0, 156, []), (4, .iload_n 2, 1, 0, 0, 0, []), (5, .iaload, 1, 0, 0, 0, []), (6, .istore 5, 2, 0, 0, 0, []), (8, .aload_n 1, 1, 0, 0, 0, []), (9, .getfield 94, 3, 7, 3, 165, []), (12, .iload_n 2, 1, 0, 0, 0, []), (13, .iaload, 1, 0, 0, 0, []), (14, .istore 6, 2, 0, 0, 0, []), (16, .aload_n 1, 1, 0, 0, 0, []), (17, .getfield 55, 3, 7, 4, 168, []), (20, .iload_n 2, 1, 0, 0, 0, []), (21, .iaload, 1, 0, 0, 0, []), (22, .istore 7, 2, 0, 0, 0, []), (24, .iload_n 3, 1, 0, 0, 0, []), (25, .tableswitch 167 0 3 #[31, 63, 83, 127], 31, 192, 0, 0, [(0, 56), (1, 88), (2, 108), (3, 152)]), (56, .aload_n 0, 1, 0, 0, 0, []), (57, .aload_n 1, 1, 0, 0, 0, []), (58, .getfield 97, 3, 7, 5, 172, []), (61, .iload_n 2, 1, 0, 0, 0, []), (62, .iaload, 1, 0, 0, 0, []), (63, .aload_n 1, 1, 0, 0, 0, []), (64, .getfield 100, 3, 7, 2, 163, []), (67, .iload_n 2, 1, 0, 0, 0, []), (68, .iaload, 1, 0, 0, 0, []), (69, .iload 7, 2, 0, 0, 0, []), (71, .invokevirtual 58, 3, 74, 4, 607, [(0, 2)]), (74, .aload_n 0, 1, 0, 0, 0, []), (75, .aload_n 1, 1, 0, 0, 0, []), (76, .getfield 103, 3, 7, 1, 161, []), (79, .iload_n 2, 1, 0, 0, 0, []), (80, .iaload, 1, 0, 0, 0, []), (81, .aload 4, 2, 0, 0, 0, []), (83, .invokevirtual 106, 3, 79, 3, 630, [(0, 2)]), (86, .iconst 1, 1, 0, 0, 0, []), (87, .ireturn, 1, 0, 0, 0, []), (88, .aload_n 0, 1, 0, 0, 0, []), (89, .aload_n 1, 1, 0, 0, 0, []), (90, .getfield 97, 3, 7, 5, 172, []), (93, .iload_n 2, 1, 0, 0, 0, []), (94, .iaload, 1, 0, 0, 0, []), (95, .aload_n 1, 1, 0, 0, 0, []), (96, .getfield 100, 3, 7, 2, 163, []), (99, .iload_n 2, 1, 0, 0, 0, []), (100, .iaload, 1, 0, 0, 0, []), (101, .iload 7, 2, 0, 0, 0, []), (103, .invokevirtual 58, 3, 74, 4, 607, [(0, 2)]), (106, .iconst 1, 1, 0, 0, 0, []), (107, .ireturn, 1, 0, 0, 0, []), (108, .aload_n 0, 1, 0, 0, 0, []), (109, .aload_n 1, 1, 0, 0, 0, []), (110, .getfield 97, 3, 7, 5, 172, []), (113, .iload_n 2, 1, 0, 0, 0, []), (114, .iaload, 1, 0, 0, 0, []), (115, .iload 6, 2, 0, 0, 0, []), (117, .iload 7, 2, 0, 0, 0, []), (119, .invokevirtual 58, 3, 74, 4, 607, [(0, 2)]), (122, .iload 5, 2, 0, 0, 0, []), (124, .iconst 1, 1, 0, 0, 0, []), (125, .if_icmp .ne 25, 3, 150, 0, 0, []), (128, .aload_n 0, 1, 0, 0, 0, []), (129, .aload_n 1, 1, 0, 0, 0, []), (130, .getfield 78, 3, 7, 7, 177, []), (133, .iload 6, 2, 0, 0, 0, []), (135, .invokevirtual 110, 3, 32, 2, 638, [(0, 4)]), (138, .aload 4, 2, 0, 0, 0, []), (140, .invokevirtual 113, 3, 81, 3, 639, [(0, 2)]), (143, .ifCond .eq 7, 3, 150, 0, 0, []), (146, .iconst 1, 1, 0, 0, 0, []), (147, .goto 4, 3, 151, 0, 0, []), (150, .iconst 0, 1, 0, 0, 0, []), (151, .ireturn, 1, 0, 0, 0, []), (152, .aload_n 0, 1, 0, 0, 0, []), (153, .iload_n 2, 1, 0, 0, 0, []), (154, .iload 7, 2, 0, 0, 0, []), (156, .iconst 1, 1, 0, 0, 0, []), (157, .isub, 1, 0, 0, 0, []), (158, .iload 7, 2, 0, 0, 0, []), (160, .iconst 1, 1, 0, 0, 0, []), (161, .isub, 1, 0, 0, 0, []), (162, .invokevirtual 58, 3, 74, 4, 607, [(0, 2)]), (165, .aload_n 0, 1, 0, 0, 0, []), (166, .getfield 14, 3, 2, 0, 241, []), (169, .aload 4, 2, 0, 0, 0, []), (171, .iconst 0, 1, 0, 0, 0, []), (172, .aload 4, 2, 0, 0, 0, []), (174, .getfield 54, 3, 4, 1, 98, []), (177, .invokevirtual 117, 3, 36, 4, 629, [(0, 4)]), (180, .iload 5, 2, 0, 0, 0, []), (182, .iconst 4, 1, 0, 0, 0, []), (183, .if_icmp .ne 7, 3, 190, 0, 0, []), (186, .iconst 1, 1, 0, 0, 0, []), (187, .goto 4, 3, 191, 0, 0, []), (190, .iconst 0, 1, 0, 0, 0, []), (191, .ireturn, 1, 0, 0, 0, []), (192, .aload_n 0, 1, 0, 0, 0, []), (193, .iload_n 2, 1, 0, 0, 0, []), (194, .iload 6, 2, 0, 0, 0, []), (196, .iconst 1, 1, 0, 0, 0, []), (197, .iadd, 1, 0, 0, 0, []), (198, .iload 7, 2, 0, 0, 0, []), (200, .iconst 1, 1, 0, 0, 0, []), (201, .isub, 1, 0, 0, 0, []), (202, .invokevirtual 58, 3, 74, 4, 607, [(0, 2)]), (205, .aload_n 0, 1, 0, 0, 0, []), (206, .aload_n 1, 1, 0, 0, 0, []), (207, .iload_n 2, 1, 0, 0, 0, []), (208, .aload 4, 2, 0, 0, 0, []), (210, .invokevirtual 121, 3, 82, 4, 643, [(0, 2)]), (213, .iload 5, 2, 0, 0, 0, []), (215, .iconst 4, 1, 0, 0, 0, []), (216, .if_icmp .ne 7, 3, 223, 0, 0, []), (219, .iconst 1, 1, 0, 0, 0, []), (220, .goto 4, 3, 224, 0, 0, []), (223, .iconst 0, 1, 0, 0, 0, []), (224, .ireturn, 1, 0, 0, 0, [])]
def m_E_alter : Mt_ := (k_E_alter, 2)
def mt_E_alter : Mt_ × Nat × Nat := (m_E_alter, 5, 8)
def k_E_writeSum : List En_ := [(0, .iload_n 1, 1, 0, 0, 0, []), (1, .aload_n 2, 1, 0, 0, 0, []), (2, .iconst 1, 1, 0, 0, 0, []), (3, .invokevirtual 110, 3, 32, 2, 638, [(0, 4)]), (6, .iadd, 1, 0, 0, 0, []), (7, .istore_n 3, 1, 0, 0, 0, []), (8, .aload_n 0, 1, 0, 0, 0, []), (9, .getfield 14, 3, 2, 0, 241, []), (12, .iload_n 3, 1, 0, 0, 0, []), (13, .bipush 8, 2, 0, 0, 0, []), (15, .ishr, 1, 0, 0, 0, []), (16, .sipush 255, 3, 0, 0, 0, []), (19, .iand, 1, 0, 0, 0, []), (20, .invokevirtual 125, 3, 9, 2, 619, [(0, 4)]), (23, .aload_n 0, 1, 0, 0, 0, []), (24, .getfield 14, 3, 2, 0, 241, []), (27, .iload_n 3, 1, 0, 0, 0, []), (28, .sipush 255, 3, 0, 0, 0, []), (31, .iand, 1, 0, 0, 0, []), (32, .invokevirtual 125, 3, 9, 2, 619, [(0, 4)]), (35, .iload_n 3, 1, 0, 0, 0, []), (36, .sipush (-32768), 3, 0, 0, 0, []), (39, .if_icmp .lt 14, 3, 53, 0, 0, []), (42, .iload_n 3, 1, 0, 0, 0, []), (43, .sipush 32767, 3, 0, 0, 0, []), (46, .if_icmp .gt 7, 3, 53, 0, 0, []), (49, .iconst 1, 1, 0, 0, 0, []), (50, .goto 4, 3, 54, 0, 0, []), (53, .iconst 0, 1, 0, 0, 0, []), (54, .ireturn, 1, 0, 0, 0, [])]
def m_E_writeSum : Mt_ := (k_E_writeSum, 2)
def mt_E_writeSum : Mt_ × Nat × Nat := (m_E_writeSum, 3, 4)
def k_E_writeOthers : List En_ := [(0, .iload_n 2, 1, 0, 0, 0, []), (1, .iconst 1, 1, 0, 0, 0, []), (2, .iadd, 1, 0, 0, 0, []), (3, .istore 4, 2, 0, 0, 0, []), (5, .iload 4, 2, 0, 0, 0, []), (7, .aload_n 1, 1, 0, 0, 0, []), (8, .getfield 131, 3, 7, 6, 175, []), (11, .if_icmp .ge 55, 3, 66, 0, 0, []), (14, .aload_n 1, 1, 0, 0, 0, []), (15, .getfield 97, 3, 7, 5, 172, []), (18, .iload 4, 2, 0, 0, 0, []), (20, .iaload, 1, 0, 0, 0, []), (21, .iload_n 2, 1, 0, 0, 0, []), (22, .if_icmp .ne 38, 3, 60, 0, 0, []), (25, .aload_n 1, 1, 0, 0, 0, []), (26, .iload 4, 2, 0, 0, 0, []), (28, .aload_n 3, 1, 0, 0, 0, []), (29, .invokevirtual 134, 3, 62, 3, 647, [(0, 7)]), (32, .ifCond .ne 28, 3, 60, 0, 0, []), (35, .aload_n 0, 1, 0, 0, 0, []), (36, .getfield 14, 3, 2, 0, 241, []), (39, .aload_n 1, 1, 0, 0, 0, []), (40, .getfield 78, 3, 7, 7, 177, []), (43, .aload_n 1, 1, 0, 0, 0, []), (44, .getfield 100, 3, 7, 2, 163, []), (47, .iload 4, 2, 0, 0, 0, []), (49, .iaload, 1, 0, 0, 0, []), (50, .aload_n 1, 1, 0, 0, 0, []), (51, .getfield 55, 3, 7, 4, 168, []), (54, .iload 4, 2, 0, 0, 0, []), (56, .iaload, 1, 0, 0, 0, []), (57, .invokevirtual 117, 3, 36, 4, 629, [(0, 4)]), (60, .iinc 4 1, 3, 0, 0, 0, []), (63, .goto (-58), 3, 5, 0, 0, []), (66, .return_, 1, 0, 0, 0, [])]
def m_E_writeOthers : Mt_ := (k_E_writeOthers, 0)
def mt_E_writeOthers : Mt_ × Nat × Nat := (m_E_writeOthers, 4, 5)
def k_E_splice : List En_ := [(0, .aload_n 1, 1, 0, 0, 0, []), (1, .getfield 78, 3, 7, 7, 177, []), (4, .astore_n 2, 1, 0, 0, 0, []), (5, .aload_n 0, 1, 0, 0, 0, []), (6, .getfield 14, 3, 2, 0, 241, []), (9, .getfield 54, 3, 4, 1, 98, []), (12, .aload_n 0, 1, 0, 0, 0, []), (13, .getfield 91, 3, 2, 7, 248, []), (16, .aload_n 0, 1, 0, 0, 0, []), (17, .getfield 88, 3, 2, 6, 247, []), (20, .isub, 1, 0, 0, 0, []), (21, .isub, 1, 0, 0, 0, []), (22, .istore_n 3, 1, 0, 0, 0, []), (23, .aload_n 2, 1, 0, 0, 0, []), (24, .getfield 54, 3, 4, 1, 98, []), (27, .iload_n 3, 1, 0, 0, 0, []), (28, .iadd, 1, 0, 0, 0, []), (29, .bipush 60, 2, 0, 0, 0, []), (31, .if_icmp .le 5, 3, 36, 0, 0, []), (34, .iconst 0, 1, 0, 0, 0, []), (35, .ireturn, 1, 0, 0, 0, []), (36, .aload_n 0, 1, 0, 0, 0, []), (37, .getfield 20, 3, 2, 1, 242, []), (40, .iconst 0, 1, 0, 0, 0, []), (41, .putfield 54, 3, 4, 1, 98, []), (44, .aload_n 0, 1, 0, 0, 0, []), (45, .getfield 20, 3, 2, 1, 242, []), (48, .aload_n 2, 1, 0, 0, 0, []), (49, .iconst 0, 1, 0, 0, 0, []), (50, .aload_n 0, 1, 0, 0, 0, []), (51, .getfield 88, 3, 2, 6, 247, []), (54, .invokevirtual 117, 3, 36, 4, 629, [(0, 4)]), (57, .aload_n 0, 1, 0, 0, 0, []), (58, .getfield 20, 3, 2, 1, 242, []), (61, .aload_n 0, 1, 0, 0, 0, []), (62, .getfield 14, 3, 2, 0, 241, []), (65, .iconst 0, 1, 0, 0, 0, []), (66, .aload_n 0, 1, 0, 0, 0, []), (67, .getfield 14, 3, 2, 0, 241, []), (70, .getfield 54, 3, 4, 1, 98, []), (73, .invokevirtual 117, 3, 36, 4, 629, [(0, 4)]), (76, .aload_n 0, 1, 0, 0, 0, []), (77, .getfield 20, 3, 2, 1, 242, []), (80, .aload_n 2, 1, 0, 0, 0, []), (81, .aload_n 0, 1, 0, 0, 0, []), (82, .getfield 91, 3, 2, 7, 248, []), (85, .aload_n 2, 1, 0, 0, 0, []), (86, .getfield 54, 3, 4, 1, 98, []), (89, .invokevirtual 117, 3, 36, 4, 629, [(0, 4)]), (92, .aload_n 0, 1, 0, 0, 0, []), (93, .getfield 85, 3, 2, 5, 246, []), (96, .istore 4, 2, 0, 0, 0, []), (98, .iconst 0, 1, 0, 0, 0, []), (99, .istore 5, 2, 0, 0, 0, []), (101, .iload 5, 2, 0, 0, 0, []), (103, .iconst 4, 1, 0, 0, 0, []), (104, .if_icmp .ge 43, 3, 147, 0, 0, []), (107, .iload 4, 2, 0, 0, 0, []), (109, .iconst (-1), 1, 0, 0, 0, []), (110, .if_icmp .eq 37, 3, 147, 0, 0, []), (113, .aload_n 0, 1, 0, 0, 0, []), (114, .getfield 20, 3, 2, 1, 242, []), (117, .getfield 148, 3, 4, 0, 94, []), (120, .aload_n 1, 1, 0, 0, 0, []), (121, .getfield 94, 3, 7, 3, 165, []), (124, .iload 4, 2, 0, 0, 0, []), (126, .iaload, 1, 0, 0, 0, []), (127, .dup2, 1, 0, 0, 0, []), (128, .iaload, 1, 0, 0, 0, []), (129, .iload_n 3, 1, 0, 0, 0, []), (130, .iadd, 1, 0, 0, 0, []), (131, .iastore, 1, 0, 0, 0, []), (132, .aload_n 1, 1, 0, 0, 0, []), (133, .getfield 97, 3, 7, 5, 172, []), (136, .iload 4, 2, 0, 0, 0, []), (138, .iaload, 1, 0, 0, 0, []), (139, .istore 4, 2, 0, 0, 0, []), (141, .iinc 5 1, 3, 0, 0, 0, []), (144, .goto (-43), 3, 101, 0, 0, []), (147, .iconst 1, 1, 0, 0, 0, []), (148, .ireturn, 1, 0, 0, 0, [])]
def m_E_splice : Mt_ := (k_E_splice, 2)
def mt_E_splice : Mt_ × Nat × Nat := (m_E_splice, 2, 6)
def k_P_count : List En_ := [(0, .aload_n 0, 1, 0, 0, 0, []), (1, .getfield 28, 3, 0, 2, 288, []), (4, .getfield 122, 3, 5, 2, 136, []), (7, .ireturn, 1, 0, 0, 0, [])]
def m_P_count : Mt_ := (k_P_count, 1)
def mt_P_count : Mt_ × Nat × Nat := (m_P_count, 1, 1)
def k_M_init : List En_ := [(0, .aload_n 0, 1, 0, 0, 0, []), (1, .invokespecial 1, 3, 900, 1, 663, []), (4, .aload_n 0, 1, 0, 0, 0, []), (5, .sipush 1728, 3, 0, 0, 0, []), (8, .newarray .int, 2, 0, 0, 105, []), (10, .putfield 7, 3, 8, 0, 664, []), (13, .aload_n 0, 1, 0, 0, 0, []), (14, .bipush 16, 2, 0, 0, 0, []), (16, .newarray .int, 2, 0, 0, 105, []), (18, .putfield 13, 3, 8, 3, 667, []), (21, .aload_n 0, 1, 0, 0, 0, []), (22, .bipush 16, 2, 0, 0, 0, []), (24, .newarray .int, 2, 0, 0, 105, []), (26, .putfield 16, 3, 8, 4, 668, []), (29, .aload_n 0, 1, 0, 0, 0, []), (30, .bipush 6, 2, 0, 0, 0, []), (32, .newarray .int, 2, 0, 0, 105, []), (34, .putfield 19, 3, 8, 5, 669, []), (37, .aload_n 0, 1, 0, 0, 0, []), (38, .bipush 72, 2, 0, 0, 0, []), (40, .newarray .int, 2, 0, 0, 105, []), (42, .putfield 22, 3, 8, 6, 670, []), (45, .aload_n 0, 1, 0, 0, 0, []), (46, .iconst 3, 1, 0, 0, 0, []), (47, .newarray .int, 2, 0, 0, 105, []), (49, .putfield 25, 3, 8, 8, 672, []), (52, .aload_n 0, 1, 0, 0, 0, []), (53, .bipush 16, 2, 0, 0, 0, []), (55, .newarray .int, 2, 0, 0, 105, []), (57, .putfield 28, 3, 8, 10, 674, []), (60, .aload_n 0, 1, 0, 0, 0, []), (61, .bipush 16, 2, 0, 0, 0, []), (63, .newarray .boolean, 2, 1, 0, 230, []), (65, .putfield 31, 3, 8, 12, 676, []), (68, .aload_n 0, 1, 0, 0, 0, []), (69, .sipush 128, 3, 0, 0, 0, []), (72, .newarray .int, 2, 0, 0, 105, []), (74, .putfield 35, 3, 8, 14, 678, []), (77, .aload_n 0, 1, 0, 0, 0, []), (78, .sipush 128, 3, 0, 0, 0, []), (81, .newarray .int, 2, 0, 0, 105, []), (83, .putfield 38, 3, 8, 15, 679, []), (86, .aload_n 0, 1, 0, 0, 0, []), (87, .sipush 128, 3, 0, 0, 0, []), (90, .newarray .int, 2, 0, 0, 105, []), (92, .putfield 41, 3, 8, 16, 680, []), (95, .aload_n 0, 1, 0, 0, 0, []), (96, .sipush 128, 3, 0, 0, 0, []), (99, .newarray .int, 2, 0, 0, 105, []), (101, .putfield 44, 3, 8, 17, 681, []), (104, .aload_n 0, 1, 0, 0, 0, []), (105, .bipush 6, 2, 0, 0, 0, []), (107, .newarray .int, 2, 0, 0, 105, []), (109, .putfield 47, 3, 8, 18, 682, []), (112, .aload_n 0, 1, 0, 0, 0, []), (113, .bipush 6, 2, 0, 0, 0, []), (115, .newarray .int, 2, 0, 0, 105, []), (117, .putfield 50, 3, 8, 19, 683, []), (120, .aload_n 0, 1, 0, 0, 0, []), (121, .iconst 5, 1, 0, 0, 0, []), (122, .newarray .int, 2, 0, 0, 105, []), (124, .putfield 53, 3, 8, 21, 685, []), (127, .aload_n 0, 1, 0, 0, 0, []), (128, .sipush 160, 3, 0, 0, 0, []), (131, .newarray .int, 2, 0, 0, 105, []), (133, .putfield 56, 3, 8, 24, 687, []), (136, .return_, 1, 0, 0, 0, [])]
def m_M_init : Mt_ := (k_M_init, 0)
def mt_M_init : Mt_ × Nat × Nat := (m_M_init, 1, 1)
def k_M_put : List En_ := [(0, .iload_n 2, 1, 0, 0, 0, []), (1, .iconst 1, 1, 0, 0, 0, []), (2, .iconst 4, 1, 0, 0, 0, []), (3, .invokestatic 59, 3, 87, 3, 746, [(0, 8)]), (6, .ifCond .eq 14, 3, 20, 0, 0, []), (9, .aload_n 0, 1, 0, 0, 0, []), (10, .getfield 63, 3, 8, 1, 665, []), (13, .iload_n 2, 1, 0, 0, 0, []), (14, .iadd, 1, 0, 0, 0, []), (15, .bipush 80, 2, 0, 0, 0, []), (17, .if_icmp .le 5, 3, 22, 0, 0, []), (20, .iconst 0, 1, 0, 0, 0, []), (21, .ireturn, 1, 0, 0, 0, []), (22, .iload_n 2, 1, 0, 0, 0, []), (23, .iconst 1, 1, 0, 0, 0, []), (24, .isub, 1, 0, 0, 0, []), (25, .istore_n 3, 1, 0, 0, 0, []), (26, .iload_n 3, 1, 0, 0, 0, []), (27, .ifCond .lt 42, 3, 69, 0, 0, []), (30, .aload_n 0, 1, 0, 0, 0, []), (31, .getfield 7, 3, 8, 0, 664, []), (34, .sipush 1024, 3, 0, 0, 0, []), (37, .aload_n 0, 1, 0, 0, 0, []), (38, .getfield 63, 3, 8, 1, 665, []), (41, .iadd, 1, 0, 0, 0, []), (42, .iload_n 1, 1, 0, 0, 0, []), (43, .bipush 8, 2, 0, 0, 0, []), (45, .iload_n 3, 1, 0, 0, 0, []), (46, .imul, 1, 0, 0, 0, []), (47, .ishr, 1, 0, 0, 0, []), (48, .sipush 255, 3, 0, 0, 0, []), (51, .iand, 1, 0, 0, 0, []), (52, .iastore, 1, 0, 0, 0, []), (53, .aload_n 0, 1, 0, 0, 0, []), (54, .aload_n 0, 1, 0, 0, 0, []), (55, .getfield 63, 3, 8, 1, 665, []), (58, .iconst 1, 1, 0, 0, 0, []), (59, .iadd, 1, 0, 0, 0, []), (60, .putfield 63, 3, 8, 1, 665, []), (63, .iinc 3 (-1), 3, 0, 0, 0, []), (66, .goto (-40), 3, 26, 0, 0, []), (69, .iconst 1, 1, 0, 0, 0, []), (70, .ireturn, 1, 0, 0, 0, [])]
def m_M_put : Mt_ := (k_M_put, 2)
def mt_M_put : Mt_ × Nat × Nat := (m_M_put, 3, 4)
def k_M_in : List En_ := [(0, .iload_n 0, 1, 0, 0, 0, []), (1, .iload_n 1, 1, 0, 0, 0, []), (2, .if_icmp .lt 12, 3, 14, 0, 0, []), (5, .iload_n 0, 1, 0, 0, 0, []), (6, .iload_n 2, 1, 0, 0, 0, []), (7, .if_icmp .gt 7, 3, 14, 0, 0, []), (10, .iconst 1, 1, 0, 0, 0, []), (11, .goto 4, 3, 15, 0, 0, []), (14, .iconst 0, 1, 0, 0, 0, []), (15, .ireturn, 1, 0, 0, 0, [])]
def m_M_in : Mt_ := (k_M_in, 2)
def mt_M_in : Mt_ × Nat × Nat := (m_M_in, 3, 3)
def k_M_set : List En_ := [(0, .iload_n 1, 1, 0, 0, 0, []), (1, .iconst 0, 1, 0, 0, 0, []), (2, .aload_n 0, 1, 0, 0, 0, []), (3, .getfield 63, 3, 8, 1, 665, []), (6, .iconst 1, 1, 0, 0, 0, []), (7, .isub, 1, 0, 0, 0, []), (8, .invokestatic 59, 3, 87, 3, 746, [(0, 8)]), (11, .ifCond .eq 14, 3, 25, 0, 0, []), (14, .iload_n 2, 1, 0, 0, 0, []), (15, .iconst 0, 1, 0, 0, 0, []), (16, .sipush 255, 3, 0, 0, 0, []), (19, .invokestatic 59, 3, 87, 3, 746, [(0, 8)]), (22, .ifCond .ne 5, 3, 27, 0, 0, []), (25, .iconst 0, 1, 0, 0, 0, []), (26, .ireturn, 1, 0, 0, 0, []), (27, .aload_n 0, 1, 0, 0, 0, []), (28, .getfield 7, 3, 8, 0, 664, []), (31, .sipush 1024, 3, 0, 0, 0, []), (34, .iload_n 1, 1, 0, 0, 0, []), (35, .iadd, 1, 0, 0, 0, []), (36, .iload_n 2, 1, 0, 0, 0, []), (37, .iastore, 1, 0, 0, 0, []), (38, .iconst 1, 1, 0, 0, 0, []), (39, .ireturn, 1, 0, 0, 0, [])]
def m_M_set : Mt_ := (k_M_set, 2)
def mt_M_set : Mt_ × Nat × Nat := (m_M_set, 3, 3)
def k_M_cut : List En_ := [(0, .iload_n 1, 1, 0, 0, 0, []), (1, .iconst 0, 1, 0, 0, 0, []), (2, .aload_n 0, 1, 0, 0, 0, []), (3, .getfield 63, 3, 8, 1, 665, []), (6, .invokestatic 59, 3, 87, 3, 746, [(0, 8)]), (9, .ifCond .ne 5, 3, 14, 0, 0, []), (12, .iconst 0, 1, 0, 0, 0, []), (13, .ireturn, 1, 0, 0, 0, []), (14, .aload_n 0, 1, 0, 0, 0, []), (15, .iload_n 1, 1, 0, 0, 0, []), (16, .putfield 63, 3, 8, 1, 665, []), (19, .iconst 1, 1, 0, 0, 0, []), (20, .ireturn, 1, 0, 0, 0, [])]
def m_M_cut : Mt_ := (k_M_cut, 2)
def mt_M_cut : Mt_ × Nat × Nat := (m_M_cut, 2, 2)
def k_M_size : List En_ := [(0, .aload_n 0, 1, 0, 0, 0, []), (1, .getfield 63, 3, 8, 1, 665, []), (4, .ireturn, 1, 0, 0, 0, [])]
def m_M_size : Mt_ := (k_M_size, 1)
def mt_M_size : Mt_ × Nat × Nat := (m_M_size, 1, 1)
def k_M_at : List En_ := [(0, .iload_n 1, 1, 0, 0, 0, []), (1, .iconst 0, 1, 0, 0, 0, []), (2, .aload_n 0, 1, 0, 0, 0, []), (3, .getfield 63, 3, 8, 1, 665, []), (6, .iconst 1, 1, 0, 0, 0, []), (7, .isub, 1, 0, 0, 0, []), (8, .invokestatic 59, 3, 87, 3, 746, [(0, 8)]), (11, .ifCond .eq 16, 3, 27, 0, 0, []), (14, .aload_n 0, 1, 0, 0, 0, []), (15, .getfield 7, 3, 8, 0, 664, []), (18, .sipush 1024, 3, 0, 0, 0, []), (21, .iload_n 1, 1, 0, 0, 0, []), (22, .iadd, 1, 0, 0, 0, []), (23, .iaload, 1, 0, 0, 0, []), (24, .goto 4, 3, 28, 0, 0, []), (27, .iconst (-1), 1, 0, 0, 0, []), (28, .ireturn, 1, 0, 0, 0, [])]
def m_M_at : Mt_ := (k_M_at, 1)
def mt_M_at : Mt_ × Nat × Nat := (m_M_at, 2, 2)
def k_M_path : List En_ := [(0, .aload_n 0, 1, 0, 0, 0, []), (1, .iconst 0, 1, 0, 0, 0, []), (2, .iload_n 1, 1, 0, 0, 0, []), (3, .iload_n 2, 1, 0, 0, 0, []), (4, .invokevirtual 71, 3, 93, 4, 769, [(0, 8)]), (7, .ifCond .ne 5, 3, 12, 0, 0, []), (10, .iconst 0, 1, 0, 0, 0, []), (11, .ireturn, 1, 0, 0, 0, []), (12, .aload_n 0, 1, 0, 0, 0, []), (13, .getfield 19, 3, 8, 5, 669, []), (16, .iconst 2, 1, 0, 0, 0, []), (17, .iconst 1, 1, 0, 0, 0, []), (18, .iastore, 1, 0, 0, 0, []), (19, .iconst 1, 1, 0, 0, 0, []), (20, .ireturn, 1, 0, 0, 0, [])]
def m_M_path : Mt_ := (k_M_path, 2)
def mt_M_path : Mt_ × Nat × Nat := (m_M_path, 3, 3)
def k_M_name : List En_ := [(0, .iload_n 3, 1, 0, 0, 0, []), (1, .iconst 1, 1, 0, 0, 0, []), (2, .iconst 4, 1, 0, 0, 0, []), (3, .invokestatic 59, 3, 87, 3, 746, [(0, 8)]), (6, .istore 4, 2, 0, 0, 0, []), (8, .iconst 0, 1, 0, 0, 0, []), (9, .istore 5, 2, 0, 0, 0, []), (11, .iload 5, 2, 0, 0, 0, []), (13, .iload_n 3, 1, 0, 0, 0, []), (14, .if_icmp .ge 30, 3, 44, 0, 0, []), (17, .iload 4, 2, 0, 0, 0, []), (19, .ifCond .eq 25, 3, 44, 0, 0, []), (22, .iload_n 2, 1, 0, 0, 0, []), (23, .bipush 8, 2, 0, 0, 0, []), (25, .iload 5, 2, 0, 0, 0, []), (27, .imul, 1, 0, 0, 0, []), (28, .ishr, 1, 0, 0, 0, []), (29, .sipush 255, 3, 0, 0, 0, []), (32, .iand, 1, 0, 0, 0, []), (33, .invokestatic 67, 3, 94, 1, 773, [(0, 8)]), (36, .istore 4, 2, 0, 0, 0, []), (38, .iinc 5 1, 3, 0, 0, 0, []), (41, .goto (-30), 3, 11, 0, 0, []), (44, .iconst 0, 1, 0, 0, 0, []), (45, .istore 5, 2, 0, 0, 0, []), (47, .iload 5, 2, 0, 0, 0, []), (49, .iconst 4, 1, 0, 0, 0, []), (50, .if_icmp .ge 53, 3, 103, 0, 0, []), (53, .iload 4, 2, 0, 0, 0, []), (55, .ifCond .eq 48, 3, 103, 0, 0, []), (58, .aload_n 0, 1, 0, 0, 0, []), (59, .getfield 22, 3, 8, 6, 670, []), (62, .bipush 24, 2, 0, 0, 0, []), (64, .iconst 4, 1, 0, 0, 0, []), (65, .iload_n 1, 1, 0, 0, 0, []), (66, .imul, 1, 0, 0, 0, []), (67, .iadd, 1, 0, 0, 0, []), (68, .iload 5, 2, 0, 0, 0, []), (70, .iadd, 1, 0, 0, 0, []), (71, .iload 5, 2, 0, 0, 0, []), (73, .iload_n 3, 1, 0, 0, 0, []), (74, .if_icmp .ge 21, 3, 95, 0, 0, []), (77, .iload_n 2, 1, 0, 0, 0, []), (78, .bipush 8, 2, 0, 0, 0, []), (80, .iload_n 3, 1, 0, 0, 0, []), (81, .iconst 1, 1, 0, 0, 0, []), (82, .isub, 1, 0, 0, 0, []), (83, .iload 5, 2, 0, 0, 0, []), (85, .isub, 1, 0, 0, 0, []), (86, .imul, 1, 0, 0, 0, []), (87, .ishr, 1, 0, 0, 0, []), (88, .sipush 255, 3, 0, 0, 0, []), (91, .iand, 1, 0, 0, 0, []), (92, .goto 4, 3, 96, 0, 0, []), (95, .iconst 0, 1, 0, 0, 0, []), (96, .iastore, 1, 0, 0, 0, []), (97, .iinc 5 1, 3, 0, 0, 0, []), (100, .goto (-53), 3, 47, 0, 0, []), (103, .iload 4, 2, 0, 0, 0, []), (105, .ireturn, 1, 0, 0, 0, [])]
def m_M_name : Mt_ := (k_M_name, 2)
def mt_M_name : Mt_ × Nat × Nat := (m_M_name, 4, 6)
def k_M_isLetter : List En_ := [(0, .iload_n 0, 1, 0, 0, 0, []), (1, .bipush 97, 2, 0, 0, 0, []), (3, .if_icmp .lt 13, 3, 16, 0, 0, []), (6, .iload_n 0, 1, 0, 0, 0, []), (7, .bipush 122, 2, 0, 0, 0, []), (9, .if_icmp .gt 7, 3, 16, 0, 0, []), (12, .iconst 1, 1, 0, 0, 0, []), (13, .goto 4, 3, 17, 0, 0, []), (16, .iconst 0, 1, 0, 0, 0, []), (17, .ireturn, 1, 0, 0, 0, [])]
def m_M_isLetter : Mt_ := (k_M_isLetter, 2)
def mt_M_isLetter : Mt_ × Nat × Nat := (m_M_isLetter, 1, 1)
def k_M_step : List En_ := [(0, .aload_n 0, 1, 0, 0, 0, []), (1, .getfield 19, 3, 8, 5, 669, []), (4, .iconst 2, 1, 0, 0, 0, []), (5, .iaload, 1, 0, 0, 0, []), (6, .iconst 1, 1, 0, 0, 0, []), (7, .iconst 2, 1, 0, 0, 0, []), (8, .invokestatic 59, 3, 87, 3, 746, [(0, 8)]), (11, .ifCond .eq 18, 3, 29, 0, 0, []), (14, .aload_n 0, 1, 0, 0, 0, []), (15, .aload_n 0, 1, 0, 0, 0, []), (16, .getfield 19, 3, 8, 5, 669, []), (19, .iconst 2, 1, 0, 0, 0, []), (20, .iaload, 1, 0, 0, 0, []), (21, .iload_n 1, 1, 0, 0, 0, []), (22, .iload_n 2, 1, 0, 0, 0, []), (23, .invokevirtual 71, 3, 93, 4, 769, [(0, 8)]), (26, .ifCond .ne 5, 3, 31, 0, 0, []), (29, .iconst 0, 1, 0, 0, 0, []), (30, .ireturn, 1, 0, 0, 0, []), (31, .aload_n 0, 1, 0, 0, 0, []), (32, .getfield 19, 3, 8, 5, 669, []), (35, .iconst 2, 1, 0, 0, 0, []), (36, .aload_n 0, 1, 0, 0, 0, []), (37, .getfield 19, 3, 8, 5, 669, []), (40, .iconst 2, 1, 0, 0, 0, []), (41, .iaload, 1, 0, 0, 0, []), (42, .iconst 1, 1, 0, 0, 0, []), (43, .iadd, 1, 0, 0, 0, []), (44, .iastore, 1, 0, 0, 0, []), (45, .iconst 1, 1, 0, 0, 0, []), (46, .ireturn, 1, 0, 0, 0, [])]
def m_M_step : Mt_ := (k_M_step, 2)
def mt_M_step : Mt_ × Nat × Nat := (m_M_step, 3, 3)
def k_M_insert : List En_ := [(0, .aload_n 0, 1, 0, 0, 0, []), (1, .iconst 3, 1, 0, 0, 0, []), (2, .sipush 1024, 3, 0, 0, 0, []), (5, .sipush 1024, 3, 0, 0, 0, []), (8, .aload_n 0, 1, 0, 0, 0, []), (9, .getfield 63, 3, 8, 1, 665, []), (12, .iadd, 1, 0, 0, 0, []), (13, .invokevirtual 106, 3, 97, 4, 784, [(0, 8)]), (16, .istore_n 1, 1, 0, 0, 0, []), (17, .iload_n 1, 1, 0, 0, 0, []), (18, .ifCond .lt 11, 3, 29, 0, 0, []), (21, .iconst (-1), 1, 0, 0, 0, []), (22, .iload_n 1, 1, 0, 0, 0, []), (23, .sipush 1024, 3, 0, 0, 0, []), (26, .isub, 1, 0, 0, 0, []), (27, .isub, 1, 0, 0, 0, []), (28, .ireturn, 1, 0, 0, 0, []), (29, .aload_n 0, 1, 0, 0, 0, []), (30, .sipush 1024, 3, 0, 0, 0, []), (33, .invokevirtual 109, 3, 104, 2, 812, [(0, 8)]), (36, .istore_n 2, 1, 0, 0, 0, []), (37, .aload_n 0, 1, 0, 0, 0, []), (38, .getfield 63, 3, 8, 1, 665, []), (41, .bipush 60, 2, 0, 0, 0, []), (43, .if_icmp .gt 7, 3, 50, 0, 0, []), (46, .iload_n 2, 1, 0, 0, 0, []), (47, .ifCond .ge 7, 3, 54, 0, 0, []), (50, .sipush (-1000), 3, 0, 0, 0, []), (53, .ireturn, 1, 0, 0, 0, []), (54, .aload_n 0, 1, 0, 0, 0, []), (55, .iload_n 2, 1, 0, 0, 0, []), (56, .invokevirtual 112, 3, 106, 2, 822, [(0, 8)]), (59, .ifCond .lt 7, 3, 66, 0, 0, []), (62, .sipush (-1001), 3, 0, 0, 0, []), (65, .ireturn, 1, 0, 0, 0, []), (66, .aload_n 0, 1, 0, 0, 0, []), (67, .getfield 103, 3, 8, 2, 666, []), (70, .bipush 16, 2, 0, 0, 0, []), (72, .if_icmp .lt 7, 3, 79, 0, 0, []), (75, .sipush (-1002), 3, 0, 0, 0, []), (78, .ireturn, 1, 0, 0, 0, []), (79, .aload_n 0, 1, 0, 0, 0, []), (80, .getfield 103, 3, 8, 2, 666, []), (83, .istore_n 3, 1, 0, 0, 0, []), (84, .iload_n 3, 1, 0, 0, 0, []), (85, .ifCond .le 30, 3, 115, 0, 0, []), (88, .aload_n 0, 1, 0, 0, 0, []), (89, .getfield 16, 3, 8, 4, 668, []), (92, .iload_n 3, 1, 0, 0, 0, []), (93, .iconst 1, 1, 0, 0, 0, []), (94, .isub, 1, 0, 0, 0, []), (95, .iaload, 1, 0, 0, 0, []), (96, .iload_n 2, 1, 0, 0, 0, []), (97, .if_icmp .le 18, 3, 115, 0, 0, []), (100, .aload_n 0, 1, 0, 0, 0, []), (101, .iload_n 3, 1, 0, 0, 0, []), (102, .iconst 1, 1, 0, 0, 0, []), (103, .isub, 1, 0, 0, 0, []), (104, .iload_n 3, 1, 0, 0, 0, []), (105, .invokevirtual 115, 3, 107, 3, 826, [(0, 8)]), (108, .iload_n 3, 1, 0, 0, 0, []), (109, .iconst 1, 1, 0, 0, 0, []), (110, .isub, 1, 0, 0, 0, []), (111, .istore_n 3, 1, 0, 0, 0, []), (112, .goto (-28), 3, 84, 0, 0, []), (115, .aload_n 0, 1, 0, 0, 0, []), (116, .getfield 16, 3, 8, 4, 668, []), (119, .iload_n 3, 1, 0, 0, 0, []), (120, .iload_n 2, 1, 0, 0, 0, []), (121, .iastore, 1, 0, 0, 0, []), (122, .aload_n 0, 1, 0, 0, 0, []), (123, .getfield 13, 3, 8, 3, 667, []), (126, .iload_n 3, 1, 0, 0, 0, []), (127, .aload_n 0, 1, 0, 0, 0, []), (128, .getfield 63, 3, 8, 1, 665, []), (131, .iastore, 1, 0, 0, 0, []), (132, .iconst 0, 1, 0, 0, 0, []), (133, .istore 4, 2, 0, 0, 0, []), (135, .iload 4, 2, 0, 0, 0, []), (137, .aload_n 0, 1, 0, 0, 0, []), (138, .getfield 63, 3, 8, 1, 665, []), (141, .if_icmp .ge 32, 3, 173, 0, 0, []), (144, .aload_n 0, 1, 0, 0, 0, []), (145, .getfield 7, 3, 8, 0, 664, []), (148, .bipush 64, 2, 0, 0, 0, []), (150, .iload_n 3, 1, 0, 0, 0, []), (151, .imul, 1, 0, 0, 0, []), (152, .iload 4, 2, 0, 0, 0, []), (154, .iadd, 1, 0, 0, 0, []), (155, .aload_n 0, 1, 0, 0, 0, []), (156, .getfield 7, 3, 8, 0, 664, []), (159, .sipush 1024, 3, 0, 0, 0, []), (162, .iload 4, 2, 0, 0, 0, []), (164, .iadd, 1, 0, 0, 0, []), (165, .iaload, 1, 0, 0, 0, []), (166, .iastore, 1, 0, 0, 0, []), (167, .iinc 4 1, 3, 0, 0, 0, []), (170, .goto (-35), 3, 135, 0, 0, []), (173, .aload_n 0, 1, 0, 0, 0, []), (174, .aload_n 0, 1, 0, 0, 0, []), (175, .getfield 103, 3, 8, 2, 666, []), (178, .iconst 1, 1, 0, 0, 0, []), (179, .iadd, 1, 0, 0, 0, []), (180, .putfield 103, 3, 8, 2, 666, []), (183, .aload_n 0, 1, 0, 0, 0, []), (184, .iconst 0, 1, 0, 0, 0, []), (185, .putfield 63, 3, 8, 1, 665, []), (188, .iload_n 2, 1, 0, 0, 0, []), (189, .ireturn, 1, 0, 0, 0, [])]
def m_M_insert : Mt_ := (k_M_insert, 1)
def mt_M_insert : Mt_ × Nat × Nat := (m_M_insert, 1, 5)
def k_M_read : List En_ := [(0, .aload_n 0, 1, 0, 0, 0, []), (1, .iconst (-1), 1, 0, 0, 0, []), (2, .putfield 84, 3, 8, 20, 684, []), (5, .iconst 0, 1, 0, 0, 0, []), (6, .istore 4, 2, 0, 0, 0, []), (8, .iload_n 2, 1, 0, 0, 0, []), (9, .istore 5, 2, 0, 0, 0, []), (11, .iload_n 1, 1, 0, 0, 0, []), (12, .istore 6, 2, 0, 0, 0, []), (14, .iconst 1, 1, 0, 0, 0, []), (15, .istore 7, 2, 0, 0, 0, []), (17, .iload_n 1, 1, 0, 0, 0, []), (18, .ifCond .ne 53, 3, 71, 0, 0, []), (21, .iload_n 2, 1, 0, 0, 0, []), (22, .iload_n 3, 1, 0, 0, 0, []), (23, .if_icmp .ge 18, 3, 41, 0, 0, []), (26, .aload_n 0, 1, 0, 0, 0, []), (27, .getfield 7, 3, 8, 0, 664, []), (30, .iload_n 2, 1, 0, 0, 0, []), (31, .iaload, 1, 0, 0, 0, []), (32, .iconst 1, 1, 0, 0, 0, []), (33, .bipush 6, 2, 0, 0, 0, []), (35, .invokestatic 59, 3, 87, 3, 746, [(0, 8)]), (38, .ifCond .ne 9, 3, 47, 0, 0, []), (41, .aload_n 0, 1, 0, 0, 0, []), (42, .iload_n 2, 1, 0, 0, 0, []), (43, .invokevirtual 87, 3, 98, 2, 788, [(0, 8)]), (46, .pop, 1, 0, 0, 0, []), (47, .aload_n 0, 1, 0, 0, 0, []), (48, .getfield 84, 3, 8, 20, 684, []), (51, .ifCond .ge 12, 3, 63, 0, 0, []), (54, .aload_n 0, 1, 0, 0, 0, []), (55, .getfield 7, 3, 8, 0, 664, []), (58, .iload_n 2, 1, 0, 0, 0, []), (59, .iaload, 1, 0, 0, 0, []), (60, .goto 4, 3, 64, 0, 0, []), (63, .iconst 0, 1, 0, 0, 0, []), (64, .istore 6, 2, 0, 0, 0, []), (66, .iload_n 2, 1, 0, 0, 0, []), (67, .iconst 1, 1, 0, 0, 0, []), (68, .iadd, 1, 0, 0, 0, []), (69, .istore 5, 2, 0, 0, 0, []), (71, .iload 7, 2, 0, 0, 0, []), (73, .ifCond .eq 294, 3, 367, 0, 0, []), (76, .aload_n 0, 1, 0, 0, 0, []), (77, .getfield 84, 3, 8, 20, 684, []), (80, .ifCond .ge 287, 3, 367, 0, 0, []), (83, .iload 6, 2, 0, 0, 0, []), (85, .iconst 3, 1, 0, 0, 0, []), (86, .if_icmp .eq 9, 3, 95, 0, 0, []), (89, .iload 6, 2, 0, 0, 0, []), (91, .iconst 4, 1, 0, 0, 0, []), (92, .if_icmp .ne 49, 3, 141, 0, 0, []), (95, .iload 5, 2, 0, 0, 0, []), (97, .iload_n 3, 1, 0, 0, 0, []), (98, .if_icmp .lt 10, 3, 108, 0, 0, []), (101, .aload_n 0, 1, 0, 0, 0, []), (102, .iload 5, 2, 0, 0, 0, []), (104, .invokevirtual 87, 3, 98, 2, 788, [(0, 8)]), (107, .pop, 1, 0, 0, 0, []), (108, .iload 4, 2, 0, 0, 0, []), (110, .iconst 1, 1, 0, 0, 0, []), (111, .iadd, 1, 0, 0, 0, []), (112, .istore 4, 2, 0, 0, 0, []), (114, .aload_n 0, 1, 0, 0, 0, []), (115, .getfield 47, 3, 8, 18, 682, []), (118, .iload 4, 2, 0, 0, 0, []), (120, .iload 5, 2, 0, 0, 0, []), (122, .iastore, 1, 0, 0, 0, []), (123, .aload_n 0, 1, 0, 0, 0, []), (124, .getfield 50, 3, 8, 19, 683, []), (127, .iload 4, 2, 0, 0, 0, []), (129, .iload 6, 2, 0, 0, 0, []), (131, .iastore, 1, 0, 0, 0, []), (132, .iload 5, 2, 0, 0, 0, []), (134, .iconst 1, 1, 0, 0, 0, []), (135, .iadd, 1, 0, 0, 0, []), (136, .istore 5, 2, 0, 0, 0, []), (138, .goto 19, 3, 157, 0, 0, []), (141, .iload 6, 2, 0, 0, 0, []), (143, .ifCond .le 14, 3, 157, 0, 0, []), (146, .aload_n 0, 1, 0, 0, 0, []), (147, .iload 6, 2, 0, 0, 0, []), (149, .iload 5, 2, 0, 0, 0, []), (151, .iload_n 3, 1, 0, 0, 0, []), (152, .invokevirtual 93, 3, 99, 4, 792, [(0, 8)]), (155, .istore 5, 2, 0, 0, 0, []), (157, .iload 4, 2, 0, 0, 0, []), (159, .ifCond .le 7, 3, 166, 0, 0, []), (162, .iconst 1, 1, 0, 0, 0, []), (163, .goto 4, 3, 167, 0, 0, []), (166, .iconst 0, 1, 0, 0, 0, []), (167, .istore 7, 2, 0, 0, 0, []), (169, .iconst 0, 1, 0, 0, 0, []), (170, .istore 6, 2, 0, 0, 0, []), (172, .iload 7, 2, 0, 0, 0, []), (174, .ifCond .eq (-103), 3, 71, 0, 0, []), (177, .aload_n 0, 1, 0, 0, 0, []), (178, .getfield 84, 3, 8, 20, 684, []), (181, .ifCond .ge (-110), 3, 71, 0, 0, []), (184, .iload 5, 2, 0, 0, 0, []), (186, .iload_n 3, 1, 0, 0, 0, []), (187, .if_icmp .ge 15, 3, 202, 0, 0, []), (190, .aload_n 0, 1, 0, 0, 0, []), (191, .getfield 7, 3, 8, 0, 664, []), (194, .iload 5, 2, 0, 0, 0, []), (196, .iaload, 1, 0, 0, 0, []), (197, .bipush 6, 2, 0, 0, 0, []), (199, .if_icmp .le 10, 3, 209, 0, 0, []), (202, .aload_n 0, 1, 0, 0, 0, []), (203, .iload 5, 2, 0, 0, 0, []), (205, .invokevirtual 87, 3, 98, 2, 788, [(0, 8)]), (208, .pop, 1, 0, 0, 0, []), (209, .aload_n 0, 1, 0, 0, 0, []), (210, .getfield 84, 3, 8, 20, 684, []), (213, .ifCond .ge 17, 3, 230, 0, 0, []), (216, .aload_n 0, 1, 0, 0, 0, []), (217, .getfield 7, 3, 8, 0, 664, []), (220, .iload 5, 2, 0, 0, 0, []), (222, .iaload, 1, 0, 0, 0, []), (223, .ifCond .ne 7, 3, 230, 0, 0, []), (226, .iconst 1, 1, 0, 0, 0, []), (227, .goto 4, 3, 231, 0, 0, []), (230, .iconst 0, 1, 0, 0, 0, []), (231, .istore 8, 2, 0, 0, 0, []), (233, .aload_n 0, 1, 0, 0, 0, []), (234, .getfield 84, 3, 8, 20, 684, []), (237, .ifCond .ge 13, 3, 250, 0, 0, []), (240, .aload_n 0, 1, 0, 0, 0, []), (241, .getfield 7, 3, 8, 0, 664, []), (244, .iload 5, 2, 0, 0, 0, []), (246, .iaload, 1, 0, 0, 0, []), (247, .goto 4, 3, 251, 0, 0, []), (250, .iconst 0, 1, 0, 0, 0, []), (251, .istore 6, 2, 0, 0, 0, []), (253, .iload 4, 2, 0, 0, 0, []), (255, .iconst 4, 1, 0, 0, 0, []), (256, .if_icmp .lt 22, 3, 278, 0, 0, []), (259, .iload 6, 2, 0, 0, 0, []), (261, .iconst 3, 1, 0, 0, 0, []), (262, .if_icmp .eq 9, 3, 271, 0, 0, []), (265, .iload 6, 2, 0, 0, 0, []), (267, .iconst 4, 1, 0, 0, 0, []), (268, .if_icmp .ne 10, 3, 278, 0, 0, []), (271, .aload_n 0, 1, 0, 0, 0, []), (272, .iload 5, 2, 0, 0, 0, []), (274, .invokevirtual 87, 3, 98, 2, 788, [(0, 8)]), (277, .pop, 1, 0, 0, 0, []), (278, .iload 5, 2, 0, 0, 0, []), (280, .iconst 1, 1, 0, 0, 0, []), (281, .iadd, 1, 0, 0, 0, []), (282, .istore 5, 2, 0, 0, 0, []), (284, .iload 8, 2, 0, 0, 0, []), (286, .ifCond .eq 49, 3, 335, 0, 0, []), (289, .aload_n 0, 1, 0, 0, 0, []), (290, .getfield 7, 3, 8, 0, 664, []), (293, .aload_n 0, 1, 0, 0, 0, []), (294, .getfield 47, 3, 8, 18, 682, []), (297, .iload 4, 2, 0, 0, 0, []), (299, .iaload, 1, 0, 0, 0, []), (300, .iaload, 1, 0, 0, 0, []), (301, .iload 5, 2, 0, 0, 0, []), (303, .aload_n 0, 1, 0, 0, 0, []), (304, .getfield 47, 3, 8, 18, 682, []), (307, .iload 4, 2, 0, 0, 0, []), (309, .iaload, 1, 0, 0, 0, []), (310, .isub, 1, 0, 0, 0, []), (311, .if_icmp .eq 15, 3, 326, 0, 0, []), (314, .aload_n 0, 1, 0, 0, 0, []), (315, .aload_n 0, 1, 0, 0, 0, []), (316, .getfield 47, 3, 8, 18, 682, []), (319, .iload 4, 2, 0, 0, 0, []), (321, .iaload, 1, 0, 0, 0, []), (322, .invokevirtual 87, 3, 98, 2, 788, [(0, 8)]), (325, .pop, 1, 0, 0, 0, []), (326, .iload 4, 2, 0, 0, 0, []), (328, .iconst 1, 1, 0, 0, 0, []), (329, .isub, 1, 0, 0, 0, []), (330, .istore 4, 2, 0, 0, 0, []), (332, .goto 32, 3, 364, 0, 0, []), (335, .aload_n 0, 1, 0, 0, 0, []), (336, .getfield 84, 3, 8, 20, 684, []), (339, .ifCond .ge 25, 3, 364, 0, 0, []), (342, .aload_n 0, 1, 0, 0, 0, []), (343, .getfield 50, 3, 8, 19, 683, []), (346, .iload 4, 2, 0, 0, 0, []), (348, .iaload, 1, 0, 0, 0, []), (349, .iconst 3, 1, 0, 0, 0, []), (350, .if_icmp .ne 14, 3, 364, 0, 0, []), (353, .aload_n 0, 1, 0, 0, 0, []), (354, .iload 5, 2, 0, 0, 0, []), (356, .iload_n 3, 1, 0, 0, 0, []), (357, .iload 4, 2, 0, 0, 0, []), (359, .invokevirtual 97, 3, 101, 4, 800, [(0, 8)]), (362, .istore 5, 2, 0, 0, 0, []), (364, .goto (-293), 3, 71, 0, 0, []), (367, .aload_n 0, 1, 0, 0, 0, []), (368, .getfield 84, 3, 8, 20, 684, []), (371, .ifCond .ge 16, 3, 387, 0, 0, []), (374, .iload 5, 2, 0, 0, 0, []), (376, .iload_n 3, 1, 0, 0, 0, []), (377, .if_icmp .eq 10, 3, 387, 0, 0, []), (380, .aload_n 0, 1, 0, 0, 0, []), (381, .iload 5, 2, 0, 0, 0, []), (383, .invokevirtual 87, 3, 98, 2, 788, [(0, 8)]), (386, .pop, 1, 0, 0, 0, []), (387, .aload_n 0, 1, 0, 0, 0, []), (388, .getfield 84, 3, 8, 20, 684, []), (391, .ireturn, 1, 0, 0, 0, [])]
def m_M_read : Mt_ := (k_M_read, 1)
def mt_M_read : Mt_ × Nat × Nat := (m_M_read, 4, 9)
def k_M_wrong : List En_ := [(0, .aload_n 0, 1, 0, 0, 0, []), (1, .aload_n 0, 1, 0, 0, 0, []), (2, .getfield 84, 3, 8, 20, 684, []), (5, .ifCond .ge 7, 3, 12, 0, 0, []), (8, .iload_n 1, 1, 0, 0, 0, []), (9, .goto 7, 3, 16, 0, 0, []), (12, .aload_n 0, 1, 0, 0, 0, []), (13, .getfield 84, 3, 8, 20, 684, []), (16, .putfield 84, 3, 8, 20, 684, []), (19, .iconst 0, 1, 0, 0, 0, []), (20, .ireturn, 1, 0, 0, 0, [])]
def m_M_wrong : Mt_ := (k_M_wrong, 2)
def mt_M_wrong : Mt_ × Nat × Nat := (m_M_wrong, 2, 2)
def k_M_readPlain : List En_ := [(0, .iload_n 1, 1, 0, 0, 0, []), (1, .iconst 2, 1, 0, 0, 0, []), (2, .if_icmp .ne 10, 3, 12, 0, 0, []), (5, .aload_n 0, 1, 0, 0, 0, []), (6, .iload_n 2, 1, 0, 0, 0, []), (7, .iload_n 3, 1, 0, 0, 0, []), (8, .invokevirtual 100, 3, 100, 3, 796, [(0, 8)]), (11, .ireturn, 1, 0, 0, 0, []), (12, .iload_n 1, 1, 0, 0, 0, []), (13, .iconst 1, 1, 0, 0, 0, []), (14, .if_icmp .ne 7, 3, 21, 0, 0, []), (17, .iconst 2, 1, 0, 0, 0, []), (18, .goto 13, 3, 31, 0, 0, []), (21, .iload_n 1, 1, 0, 0, 0, []), (22, .iconst 5, 1, 0, 0, 0, []), (23, .if_icmp .ne 7, 3, 30, 0, 0, []), (26, .iconst 1, 1, 0, 0, 0, []), (27, .goto 4, 3, 31, 0, 0, []), (30, .iconst 0, 1, 0, 0, 0, []), (31, .istore 4, 2, 0, 0, 0, []), (33, .iconst 0, 1, 0, 0, 0, []), (34, .istore 5, 2, 0, 0, 0, []), (36, .iload 5, 2, 0, 0, 0, []), (38, .iload 4, 2, 0, 0, 0, []), (40, .if_icmp .ge 26, 3, 66, 0, 0, []), (43, .iload_n 2, 1, 0, 0, 0, []), (44, .iload 5, 2, 0, 0, 0, []), (46, .iadd, 1, 0, 0, 0, []), (47, .iload_n 3, 1, 0, 0, 0, []), (48, .if_icmp .lt 12, 3, 60, 0, 0, []), (51, .aload_n 0, 1, 0, 0, 0, []), (52, .iload_n 2, 1, 0, 0, 0, []), (53, .iload 5, 2, 0, 0, 0, []), (55, .iadd, 1, 0, 0, 0, []), (56, .invokevirtual 87, 3, 98, 2, 788, [(0, 8)]), (59, .pop, 1, 0, 0, 0, []), (60, .iinc 5 1, 3, 0, 0, 0, []), (63, .goto (-27), 3, 36, 0, 0, []), (66, .iload_n 1, 1, 0, 0, 0, []), (67, .iconst 5, 1, 0, 0, 0, []), (68, .if_icmp .ne 26, 3, 94, 0, 0, []), (71, .aload_n 0, 1, 0, 0, 0, []), (72, .getfield 84, 3, 8, 20, 684, []), (75, .ifCond .ge 19, 3, 94, 0, 0, []), (78, .aload_n 0, 1, 0, 0, 0, []), (79, .getfield 7, 3, 8, 0, 664, []), (82, .iload_n 2, 1, 0, 0, 0, []), (83, .iaload, 1, 0, 0, 0, []), (84, .iconst 1, 1, 0, 0, 0, []), (85, .if_icmp .le 9, 3, 94, 0, 0, []), (88, .aload_n 0, 1, 0, 0, 0, []), (89, .iload_n 2, 1, 0, 0, 0, []), (90, .invokevirtual 87, 3, 98, 2, 788, [(0, 8)]), (93, .pop, 1, 0, 0, 0, []), (94, .iload_n 2, 1, 0, 0, 0, []), (95, .iload 4, 2, 0, 0, 0, []), (97, .iadd, 1, 0, 0, 0, []), (98, .ireturn, 1, 0, 0, 0, [])]
def m_M_readPlain : Mt_ := (k_M_readPlain, 1)
def mt_M_readPlain : Mt_ × Nat × Nat := (m_M_readPlain, 4, 6)
def k_M_readText : List En_ := [(0, .iload_n 1, 1, 0, 0, 0, []), (1, .iload_n 2, 1, 0, 0, 0, []), (2, .if_icmp .ge 14, 3, 16, 0, 0, []), (5, .aload_n 0, 1, 0, 0, 0, []), (6, .getfield 7, 3, 8, 0, 664, []), (9, .iload_n 1, 1, 0, 0, 0, []), (10, .iaload, 1, 0, 0, 0, []), (11, .bipush 8, 2, 0, 0, 0, []), (13, .if_icmp .le 9, 3, 22, 0, 0, []), (16, .aload_n 0, 1, 0, 0, 0, []), (17, .iload_n 1, 1, 0, 0, 0, []), (18, .invokevirtual 87, 3, 98, 2, 788, [(0, 8)]), (21, .pop, 1, 0, 0, 0, []), (22, .iload_n 1, 1, 0, 0, 0, []), (23, .iconst 1, 1, 0, 0, 0, []), (24, .iadd, 1, 0, 0, 0, []), (25, .istore_n 3, 1, 0, 0, 0, []), (26, .aload_n 0, 1, 0, 0, 0, []), (27, .getfield 84, 3, 8, 20, 684, []), (30, .ifCond .ge 49, 3, 79, 0, 0, []), (33, .iload_n 3, 1, 0, 0, 0, []), (34, .iload_n 1, 1, 0, 0, 0, []), (35, .aload_n 0, 1, 0, 0, 0, []), (36, .getfield 7, 3, 8, 0, 664, []), (39, .iload_n 1, 1, 0, 0, 0, []), (40, .iaload, 1, 0, 0, 0, []), (41, .iadd, 1, 0, 0, 0, []), (42, .if_icmp .gt 37, 3, 79, 0, 0, []), (45, .iload_n 3, 1, 0, 0, 0, []), (46, .iload_n 2, 1, 0, 0, 0, []), (47, .if_icmp .ge 19, 3, 66, 0, 0, []), (50, .aload_n 0, 1, 0, 0, 0, []), (51, .getfield 7, 3, 8, 0, 664, []), (54, .iload_n 3, 1, 0, 0, 0, []), (55, .iaload, 1, 0, 0, 0, []), (56, .bipush 32, 2, 0, 0, 0, []), (58, .bipush 126, 2, 0, 0, 0, []), (60, .invokestatic 59, 3, 87, 3, 746, [(0, 8)]), (63, .ifCond .ne 9, 3, 72, 0, 0, []), (66, .aload_n 0, 1, 0, 0, 0, []), (67, .iload_n 3, 1, 0, 0, 0, []), (68, .invokevirtual 87, 3, 98, 2, 788, [(0, 8)]), (71, .pop, 1, 0, 0, 0, []), (72, .iload_n 3, 1, 0, 0, 0, []), (73, .iconst 1, 1, 0, 0, 0, []), (74, .iadd, 1, 0, 0, 0, []), (75, .istore_n 3, 1, 0, 0, 0, []), (76, .goto (-50), 3, 26, 0, 0, []), (79, .iload_n 3, 1, 0, 0, 0, []), (80, .ireturn, 1, 0, 0, 0, [])]
def m_M_readText : Mt_ := (k_M_readText, 1)
def mt_M_readText : Mt_ × Nat × Nat := (m_M_readText, 3, 4)
def k_M_readName : List En_ := [(0, .iload_n 1, 1, 0, 0, 0, []), (1, .istore 4, 2, 0, 0, 0, []), (3, .aload_n 0, 1, 0, 0, 0, []), (4, .getfield 84, 3, 8, 20, 684, []), (7, .ifCond .ge 46, 3, 53, 0, 0, []), (10, .iload 4, 2, 0, 0, 0, []), (12, .iload_n 2, 1, 0, 0, 0, []), (13, .if_icmp .ge 40, 3, 53, 0, 0, []), (16, .aload_n 0, 1, 0, 0, 0, []), (17, .getfield 7, 3, 8, 0, 664, []), (20, .iload 4, 2, 0, 0, 0, []), (22, .iaload, 1, 0, 0, 0, []), (23, .invokestatic 67, 3, 94, 1, 773, [(0, 8)]), (26, .ifCond .eq 27, 3, 53, 0, 0, []), (29, .iload 4, 2, 0, 0, 0, []), (31, .iload_n 1, 1, 0, 0, 0, []), (32, .isub, 1, 0, 0, 0, []), (33, .iconst 4, 1, 0, 0, 0, []), (34, .if_icmp .lt 10, 3, 44, 0, 0, []), (37, .aload_n 0, 1, 0, 0, 0, []), (38, .iload 4, 2, 0, 0, 0, []), (40, .invokevirtual 87, 3, 98, 2, 788, [(0, 8)]), (43, .pop, 1, 0, 0, 0, []), (44, .iload 4, 2, 0, 0, 0, []), (46, .iconst 1, 1, 0, 0, 0, []), (47, .iadd, 1, 0, 0, 0, []), (48, .istore 4, 2, 0, 0, 0, []), (50, .goto (-47), 3, 3, 0, 0, []), (53, .iload 4, 2, 0, 0, 0, []), (55, .iload_n 2, 1, 0, 0, 0, []), (56, .if_icmp .ge 19, 3, 75, 0, 0, []), (59, .iload 4, 2, 0, 0, 0, []), (61, .iload_n 1, 1, 0, 0, 0, []), (62, .if_icmp .eq 13, 3, 75, 0, 0, []), (65, .aload_n 0, 1, 0, 0, 0, []), (66, .getfield 7, 3, 8, 0, 664, []), (69, .iload 4, 2, 0, 0, 0, []), (71, .iaload, 1, 0, 0, 0, []), (72, .ifCond .eq 10, 3, 82, 0, 0, []), (75, .aload_n 0, 1, 0, 0, 0, []), (76, .iload 4, 2, 0, 0, 0, []), (78, .invokevirtual 87, 3, 98, 2, 788, [(0, 8)]), (81, .pop, 1, 0, 0, 0, []), (82, .aload_n 0, 1, 0, 0, 0, []), (83, .getfield 47, 3, 8, 18, 682, []), (86, .iload_n 3, 1, 0, 0, 0, []), (87, .iaload, 1, 0, 0, 0, []), (88, .iconst 1, 1, 0, 0, 0, []), (89, .iadd, 1, 0, 0, 0, []), (90, .istore 5, 2, 0, 0, 0, []), (92, .aload_n 0, 1, 0, 0, 0, []), (93, .getfield 84, 3, 8, 20, 684, []), (96, .ifCond .ge 111, 3, 207, 0, 0, []), (99, .iload 5, 2, 0, 0, 0, []), (101, .iload_n 1, 1, 0, 0, 0, []), (102, .iconst 1, 1, 0, 0, 0, []), (103, .isub, 1, 0, 0, 0, []), (104, .if_icmp .ge 103, 3, 207, 0, 0, []), (107, .iload 5, 2, 0, 0, 0, []), (109, .iconst 1, 1, 0, 0, 0, []), (110, .iadd, 1, 0, 0, 0, []), (111, .istore 6, 2, 0, 0, 0, []), (113, .iconst 1, 1, 0, 0, 0, []), (114, .istore 7, 2, 0, 0, 0, []), (116, .iconst 0, 1, 0, 0, 0, []), (117, .istore 8, 2, 0, 0, 0, []), (119, .iload 8, 2, 0, 0, 0, []), (121, .iload 4, 2, 0, 0, 0, []), (123, .iload_n 1, 1, 0, 0, 0, []), (124, .isub, 1, 0, 0, 0, []), (125, .iconst 1, 1, 0, 0, 0, []), (126, .iadd, 1, 0, 0, 0, []), (127, .if_icmp .ge 43, 3, 170, 0, 0, []), (130, .iload 7, 2, 0, 0, 0, []), (132, .ifCond .eq 38, 3, 170, 0, 0, []), (135, .aload_n 0, 1, 0, 0, 0, []), (136, .getfield 7, 3, 8, 0, 664, []), (139, .iload 6, 2, 0, 0, 0, []), (141, .iload 8, 2, 0, 0, 0, []), (143, .iadd, 1, 0, 0, 0, []), (144, .iaload, 1, 0, 0, 0, []), (145, .aload_n 0, 1, 0, 0, 0, []), (146, .getfield 7, 3, 8, 0, 664, []), (149, .iload_n 1, 1, 0, 0, 0, []), (150, .iload 8, 2, 0, 0, 0, []), (152, .iadd, 1, 0, 0, 0, []), (153, .iaload, 1, 0, 0, 0, []), (154, .if_icmp .ne 7, 3, 161, 0, 0, []), (157, .iconst 1, 1, 0, 0, 0, []), (158, .goto 4, 3, 162, 0, 0, []), (161, .iconst 0, 1, 0, 0, 0, []), (162, .istore 7, 2, 0, 0, 0, []), (164, .iinc 8 1, 3, 0, 0, 0, []), (167, .goto (-48), 3, 119, 0, 0, []), (170, .iload 7, 2, 0, 0, 0, []), (172, .ifCond .eq 9, 3, 181, 0, 0, []), (175, .aload_n 0, 1, 0, 0, 0, []), (176, .iload_n 1, 1, 0, 0, 0, []), (177, .invokevirtual 87, 3, 98, 2, 788, [(0, 8)]), (180, .pop, 1, 0, 0, 0, []), (181, .aload_n 0, 1, 0, 0, 0, []), (182, .iload 6, 2, 0, 0, 0, []), (184, .invokevirtual 90, 3, 102, 2, 804, [(0, 8)]), (187, .istore 8, 2, 0, 0, 0, []), (189, .aload_n 0, 1, 0, 0, 0, []), (190, .aload_n 0, 1, 0, 0, 0, []), (191, .getfield 7, 3, 8, 0, 664, []), (194, .iload 5, 2, 0, 0, 0, []), (196, .iaload, 1, 0, 0, 0, []), (197, .iload 8, 2, 0, 0, 0, []), (199, .invokevirtual 74, 3, 103, 3, 808, [(0, 8)]), (202, .istore 5, 2, 0, 0, 0, []), (204, .goto (-112), 3, 92, 0, 0, []), (207, .iload 4, 2, 0, 0, 0, []), (209, .iconst 1, 1, 0, 0, 0, []), (210, .iadd, 1, 0, 0, 0, []), (211, .ireturn, 1, 0, 0, 0, [])]
def m_M_readName : Mt_ := (k_M_readName, 1)
def mt_M_readName : Mt_ × Nat × Nat := (m_M_readName, 4, 9)
def k_M_nameEnd : List En_ := [(0, .iload_n 1, 1, 0, 0, 0, []), (1, .istore_n 2, 1, 0, 0, 0, []), (2, .aload_n 0, 1, 0, 0, 0, []), (3, .getfield 7, 3, 8, 0, 664, []), (6, .iload_n 2, 1, 0, 0, 0, []), (7, .iaload, 1, 0, 0, 0, []), (8, .ifCond .eq 10, 3, 18, 0, 0, []), (11, .iload_n 2, 1, 0, 0, 0, []), (12, .iconst 1, 1, 0, 0, 0, []), (13, .iadd, 1, 0, 0, 0, []), (14, .istore_n 2, 1, 0, 0, 0, []), (15, .goto (-13), 3, 2, 0, 0, []), (18, .iload_n 2, 1, 0, 0, 0, []), (19, .iconst 1, 1, 0, 0, 0, []), (20, .iadd, 1, 0, 0, 0, []), (21, .ireturn, 1, 0, 0, 0, [])]
def m_M_nameEnd : Mt_ := (k_M_nameEnd, 1)
def mt_M_nameEnd : Mt_ × Nat × Nat := (m_M_nameEnd, 2, 3)
def k_M_behind : List En_ := [(0, .iload_n 1, 1, 0, 0, 0, []), (1, .iconst 1, 1, 0, 0, 0, []), (2, .if_icmp .ne 9, 3, 11, 0, 0, []), (5, .iload_n 2, 1, 0, 0, 0, []), (6, .iconst 2, 1, 0, 0, 0, []), (7, .iadd, 1, 0, 0, 0, []), (8, .goto 50, 3, 58, 0, 0, []), (11, .iload_n 1, 1, 0, 0, 0, []), (12, .iconst 2, 1, 0, 0, 0, []), (13, .if_icmp .ne 16, 3, 29, 0, 0, []), (16, .iload_n 2, 1, 0, 0, 0, []), (17, .iconst 1, 1, 0, 0, 0, []), (18, .iadd, 1, 0, 0, 0, []), (19, .aload_n 0, 1, 0, 0, 0, []), (20, .getfield 7, 3, 8, 0, 664, []), (23, .iload_n 2, 1, 0, 0, 0, []), (24, .iaload, 1, 0, 0, 0, []), (25, .iadd, 1, 0, 0, 0, []), (26, .goto 32, 3, 58, 0, 0, []), (29, .iload_n 1, 1, 0, 0, 0, []), (30, .iconst 5, 1, 0, 0, 0, []), (31, .if_icmp .ne 9, 3, 40, 0, 0, []), (34, .iload_n 2, 1, 0, 0, 0, []), (35, .iconst 1, 1, 0, 0, 0, []), (36, .iadd, 1, 0, 0, 0, []), (37, .goto 21, 3, 58, 0, 0, []), (40, .iload_n 1, 1, 0, 0, 0, []), (41, .bipush 6, 2, 0, 0, 0, []), (43, .if_icmp .ne 7, 3, 50, 0, 0, []), (46, .iload_n 2, 1, 0, 0, 0, []), (47, .goto 11, 3, 58, 0, 0, []), (50, .iload_n 2, 1, 0, 0, 0, []), (51, .aload_n 0, 1, 0, 0, 0, []), (52, .getfield 7, 3, 8, 0, 664, []), (55, .iload_n 2, 1, 0, 0, 0, []), (56, .iaload, 1, 0, 0, 0, []), (57, .iadd, 1, 0, 0, 0, []), (58, .ireturn, 1, 0, 0, 0, [])]
def m_M_behind : Mt_ := (k_M_behind, 1)
def mt_M_behind : Mt_ × Nat × Nat := (m_M_behind, 3, 3)
def k_M_numberAt : List En_ := [(0, .aload_n 0, 1, 0, 0, 0, []), (1, .getfield 7, 3, 8, 0, 664, []), (4, .iload_n 1, 1, 0, 0, 0, []), (5, .iaload, 1, 0, 0, 0, []), (6, .bipush 8, 2, 0, 0, 0, []), (8, .if_icmp .lt 56, 3, 64, 0, 0, []), (11, .aload_n 0, 1, 0, 0, 0, []), (12, .getfield 7, 3, 8, 0, 664, []), (15, .iload_n 1, 1, 0, 0, 0, []), (16, .iconst 1, 1, 0, 0, 0, []), (17, .iadd, 1, 0, 0, 0, []), (18, .iaload, 1, 0, 0, 0, []), (19, .iconst 1, 1, 0, 0, 0, []), (20, .if_icmp .ne 44, 3, 64, 0, 0, []), (23, .aload_n 0, 1, 0, 0, 0, []), (24, .getfield 7, 3, 8, 0, 664, []), (27, .iload_n 1, 1, 0, 0, 0, []), (28, .iconst 2, 1, 0, 0, 0, []), (29, .iadd, 1, 0, 0, 0, []), (30, .iaload, 1, 0, 0, 0, []), (31, .bipush 105, 2, 0, 0, 0, []), (33, .if_icmp .ne 31, 3, 64, 0, 0, []), (36, .aload_n 0, 1, 0, 0, 0, []), (37, .getfield 7, 3, 8, 0, 664, []), (40, .iload_n 1, 1, 0, 0, 0, []), (41, .iconst 3, 1, 0, 0, 0, []), (42, .iadd, 1, 0, 0, 0, []), (43, .iaload, 1, 0, 0, 0, []), (44, .bipush 100, 2, 0, 0, 0, []), (46, .if_icmp .ne 18, 3, 64, 0, 0, []), (49, .aload_n 0, 1, 0, 0, 0, []), (50, .getfield 7, 3, 8, 0, 664, []), (53, .iload_n 1, 1, 0, 0, 0, []), (54, .iconst 4, 1, 0, 0, 0, []), (55, .iadd, 1, 0, 0, 0, []), (56, .iaload, 1, 0, 0, 0, []), (57, .ifCond .ne 7, 3, 64, 0, 0, []), (60, .iconst 1, 1, 0, 0, 0, []), (61, .goto 4, 3, 65, 0, 0, []), (64, .iconst 0, 1, 0, 0, 0, []), (65, .istore_n 2, 1, 0, 0, 0, []), (66, .iload_n 2, 1, 0, 0, 0, []), (67, .ifCond .eq 13, 3, 80, 0, 0, []), (70, .aload_n 0, 1, 0, 0, 0, []), (71, .iload_n 1, 1, 0, 0, 0, []), (72, .iconst 5, 1, 0, 0, 0, []), (73, .iadd, 1, 0, 0, 0, []), (74, .invokevirtual 80, 3, 105, 2, 816, [(0, 8)]), (77, .goto 4, 3, 81, 0, 0, []), (80, .iconst (-1), 1, 0, 0, 0, []), (81, .istore_n 3, 1, 0, 0, 0, []), (82, .iload_n 3, 1, 0, 0, 0, []), (83, .iconst 0, 1, 0, 0, 0, []), (84, .sipush 999, 3, 0, 0, 0, []), (87, .invokestatic 59, 3, 87, 3, 746, [(0, 8)]), (90, .ifCond .eq 7, 3, 97, 0, 0, []), (93, .iload_n 3, 1, 0, 0, 0, []), (94, .goto 4, 3, 98, 0, 0, []), (97, .iconst (-1), 1, 0, 0, 0, []), (98, .ireturn, 1, 0, 0, 0, [])]
def m_M_numberAt : Mt_ := (k_M_numberAt, 1)
def mt_M_numberAt : Mt_ × Nat × Nat := (m_M_numberAt, 2, 4)
def k_M_value : List En_ := [(0, .sipush 256, 3, 0, 0, 0, []), (3, .aload_n 0, 1, 0, 0, 0, []), (4, .getfield 7, 3, 8, 0, 664, []), (7, .iload_n 1, 1, 0, 0, 0, []), (8, .iaload, 1, 0, 0, 0, []), (9, .imul, 1, 0, 0, 0, []), (10, .aload_n 0, 1, 0, 0, 0, []), (11, .getfield 7, 3, 8, 0, 664, []), (14, .iload_n 1, 1, 0, 0, 0, []), (15, .iconst 1, 1, 0, 0, 0, []), (16, .iadd, 1, 0, 0, 0, []), (17, .iaload, 1, 0, 0, 0, []), (18, .iadd, 1, 0, 0, 0, []), (19, .istore_n 2, 1, 0, 0, 0, []), (20, .iload_n 2, 1, 0, 0, 0, []), (21, .ldc 78, 2, 0, 0, 820, [(32768, 0)]), (23, .if_icmp .lt 10, 3, 33, 0, 0, []), (26, .iload_n 2, 1, 0, 0, 0, []), (27, .ldc 79, 2, 0, 0, 821, [(65536, 0)]), (29, .isub, 1, 0, 0, 0, []), (30, .goto 4, 3, 34, 0, 0, []), (33, .iload_n 2, 1, 0, 0, 0, []), (34, .ireturn, 1, 0, 0, 0, [])]
def m_M_value : Mt_ := (k_M_value, 1)
def mt_M_value : Mt_ × Nat × Nat := (m_M_value, 2, 3)
def k_M_holder : List En_ := [(0, .iconst (-1), 1, 0, 0, 0, []), (1, .istore_n 2, 1, 0, 0, 0, []), (2, .iconst 0, 1, 0, 0, 0, []), (3, .istore_n 3, 1, 0, 0, 0, []), (4, .iload_n 3, 1, 0, 0, 0, []), (5, .aload_n 0, 1, 0, 0, 0, []), (6, .getfield 103, 3, 8, 2, 666, []), (9, .if_icmp .ge 25, 3, 34, 0, 0, []), (12, .aload_n 0, 1, 0, 0, 0, []), (13, .getfield 16, 3, 8, 4, 668, []), (16, .iload_n 3, 1, 0, 0, 0, []), (17, .iaload, 1, 0, 0, 0, []), (18, .iload_n 1, 1, 0, 0, 0, []), (19, .if_icmp .ne 7, 3, 26, 0, 0, []), (22, .iload_n 3, 1, 0, 0, 0, []), (23, .goto 4, 3, 27, 0, 0, []), (26, .iload_n 2, 1, 0, 0, 0, []), (27, .istore_n 2, 1, 0, 0, 0, []), (28, .iinc 3 1, 3, 0, 0, 0, []), (31, .goto (-27), 3, 4, 0, 0, []), (34, .iload_n 2, 1, 0, 0, 0, []), (35, .ireturn, 1, 0, 0, 0, [])]
def m_M_holder : Mt_ := (k_M_holder, 1)
def mt_M_holder : Mt_ × Nat × Nat := (m_M_holder, 2, 4)
def k_M_move : List En_ := [(0, .aload_n 0, 1, 0, 0, 0, []), (1, .getfield 16, 3, 8, 4, 668, []), (4, .iload_n 2, 1, 0, 0, 0, []), (5, .aload_n 0, 1, 0, 0, 0, []), (6, .getfield 16, 3, 8, 4, 668, []), (9, .iload_n 1, 1, 0, 0, 0, []), (10, .iaload, 1, 0, 0, 0, []), (11, .iastore, 1, 0, 0, 0, []), (12, .aload_n 0, 1, 0, 0, 0, []), (13, .getfield 13, 3, 8, 3, 667, []), (16, .iload_n 2, 1, 0, 0, 0, []), (17, .aload_n 0, 1, 0, 0, 0, []), (18, .getfield 13, 3, 8, 3, 667, []), (21, .iload_n 1, 1, 0, 0, 0, []), (22, .iaload, 1, 0, 0, 0, []), (23, .iastore, 1, 0, 0, 0, []), (24, .iconst 0, 1, 0, 0, 0, []), (25, .istore_n 3, 1, 0, 0, 0, []), (26, .iload_n 3, 1, 0, 0, 0, []), (27, .bipush 64, 2, 0, 0, 0, []), (29, .if_icmp .ge 31, 3, 60, 0, 0, []), (32, .aload_n 0, 1, 0, 0, 0, []), (33, .getfield 7, 3, 8, 0, 664, []), (36, .bipush 64, 2, 0, 0, 0, []), (38, .iload_n 2, 1, 0, 0, 0, []), (39, .imul, 1, 0, 0, 0, []), (40, .iload_n 3, 1, 0, 0, 0, []), (41, .iadd, 1, 0, 0, 0, []), (42, .aload_n 0, 1, 0, 0, 0, []), (43, .getfield 7, 3, 8, 0, 664, []), (46, .bipush 64, 2, 0, 0, 0, []), (48, .iload_n 1, 1, 0, 0, 0, []), (49, .imul, 1, 0, 0, 0, []), (50, .iload_n 3, 1, 0, 0, 0, []), (51, .iadd, 1, 0, 0, 0, []), (52, .iaload, 1, 0, 0, 0, []), (53, .iastore, 1, 0, 0, 0, []), (54, .iinc 3 1, 3, 0, 0, 0, []), (57, .goto (-31), 3, 26, 0, 0, []), (60, .return_, 1, 0, 0, 0, [])]
def m_M_move : Mt_ := (k_M_move, 0)
def mt_M_move : Mt_ × Nat × Nat := (m_M_move, 3, 4)
def k_M_fetch : List En_ := [(0, .aload_n 0, 1, 0, 0, 0, []), (1, .iload_n 1, 1, 0, 0, 0, []), (2, .invokevirtual 112, 3, 106, 2, 822, [(0, 8)]), (5, .istore_n 2, 1, 0, 0, 0, []), (6, .iload_n 2, 1, 0, 0, 0, []), (7, .ifCond .ge 5, 3, 12, 0, 0, []), (10, .iconst (-1), 1, 0, 0, 0, []), (11, .ireturn, 1, 0, 0, 0, []), (12, .aload_n 0, 1, 0, 0, 0, []), (13, .aload_n 0, 1, 0, 0, 0, []), (14, .getfield 13, 3, 8, 3, 667, []), (17, .iload_n 2, 1, 0, 0, 0, []), (18, .iaload, 1, 0, 0, 0, []), (19, .putfield 63, 3, 8, 1, 665, []), (22, .iconst 0, 1, 0, 0, 0, []), (23, .istore_n 3, 1, 0, 0, 0, []), (24, .iload_n 3, 1, 0, 0, 0, []), (25, .aload_n 0, 1, 0, 0, 0, []), (26, .getfield 63, 3, 8, 1, 665, []), (29, .if_icmp .ge 30, 3, 59, 0, 0, []), (32, .aload_n 0, 1, 0, 0, 0, []), (33, .getfield 7, 3, 8, 0, 664, []), (36, .sipush 1024, 3, 0, 0, 0, []), (39, .iload_n 3, 1, 0, 0, 0, []), (40, .iadd, 1, 0, 0, 0, []), (41, .aload_n 0, 1, 0, 0, 0, []), (42, .getfield 7, 3, 8, 0, 664, []), (45, .bipush 64, 2, 0, 0, 0, []), (47, .iload_n 2, 1, 0, 0, 0, []), (48, .imul, 1, 0, 0, 0, []), (49, .iload_n 3, 1, 0, 0, 0, []), (50, .iadd, 1, 0, 0, 0, []), (51, .iaload, 1, 0, 0, 0, []), (52, .iastore, 1, 0, 0, 0, []), (53, .iinc 3 1, 3, 0, 0, 0, []), (56, .goto (-32), 3, 24, 0, 0, []), (59, .aload_n 0, 1, 0, 0, 0, []), (60, .getfield 63, 3, 8, 1, 665, []), (63, .ireturn, 1, 0, 0, 0, [])]
def m_M_fetch : Mt_ := (k_M_fetch, 1)
def mt_M_fetch : Mt_ × Nat × Nat := (m_M_fetch, 2, 4)
def k_M_remove : List En_ := [(0, .aload_n 0, 1, 0, 0, 0, []), (1, .iload_n 1, 1, 0, 0, 0, []), (2, .invokevirtual 112, 3, 106, 2, 822, [(0, 8)]), (5, .istore_n 2, 1, 0, 0, 0, []), (6, .iload_n 2, 1, 0, 0, 0, []), (7, .ifCond .ge 5, 3, 12, 0, 0, []), (10, .iconst 0, 1, 0, 0, 0, []), (11, .ireturn, 1, 0, 0, 0, []), (12, .aload_n 0, 1, 0, 0, 0, []), (13, .aload_n 0, 1, 0, 0, 0, []), (14, .getfield 103, 3, 8, 2, 666, []), (17, .iconst 1, 1, 0, 0, 0, []), (18, .isub, 1, 0, 0, 0, []), (19, .putfield 103, 3, 8, 2, 666, []), (22, .iload_n 2, 1, 0, 0, 0, []), (23, .istore_n 3, 1, 0, 0, 0, []), (24, .iload_n 3, 1, 0, 0, 0, []), (25, .aload_n 0, 1, 0, 0, 0, []), (26, .getfield 103, 3, 8, 2, 666, []), (29, .if_icmp .ge 17, 3, 46, 0, 0, []), (32, .aload_n 0, 1, 0, 0, 0, []), (33, .iload_n 3, 1, 0, 0, 0, []), (34, .iconst 1, 1, 0, 0, 0, []), (35, .iadd, 1, 0, 0, 0, []), (36, .iload_n 3, 1, 0, 0, 0, []), (37, .invokevirtual 115, 3, 107, 3, 826, [(0, 8)]), (40, .iinc 3 1, 3, 0, 0, 0, []), (43, .goto (-19), 3, 24, 0, 0, []), (46, .iconst 1, 1, 0, 0, 0, []), (47, .ireturn, 1, 0, 0, 0, [])]
def m_M_remove : Mt_ := (k_M_remove, 2)
def mt_M_remove : Mt_ × Nat × Nat := (m_M_remove, 2, 4)
def k_M_count : List En_ := [(0, .aload_n 0, 1, 0, 0, 0, []), (1, .getfield 103, 3, 8, 2, 666, []), (4, .ireturn, 1, 0, 0, 0, [])]
def m_M_count : Mt_ := (k_M_count, 1)
def mt_M_count : Mt_ × Nat × Nat := (m_M_count, 1, 1)
def k_M_index : List En_ := [(0, .iload_n 1, 1, 0, 0, 0, []), (1, .iconst 0, 1, 0, 0, 0, []), (2, .iconst 1, 1, 0, 0, 0, []), (3, .invokestatic 59, 3, 87, 3, 746, [(0, 8)]), (6, .ifCond .eq 12, 3, 18, 0, 0, []), (9, .aload_n 0, 1, 0, 0, 0, []), (10, .getfield 19, 3, 8, 5, 669, []), (13, .iconst 2, 1, 0, 0, 0, []), (14, .iaload, 1, 0, 0, 0, []), (15, .ifCond .ne 5, 3, 20, 0, 0, []), (18, .iconst 0, 1, 0, 0, 0, []), (19, .ireturn, 1, 0, 0, 0, []), (20, .aload_n 0, 1, 0, 0, 0, []), (21, .iconst 2, 1, 0, 0, 0, []), (22, .iload_n 1, 1, 0, 0, 0, []), (23, .invokevirtual 142, 3, 112, 3, 846, [(0, 8)]), (26, .iconst 1, 1, 0, 0, 0, []), (27, .ireturn, 1, 0, 0, 0, [])]
def m_M_index : Mt_ := (k_M_index, 2)
def mt_M_index : Mt_ × Nat × Nat := (m_M_index, 2, 2)
def k_M_copyPath : List En_ := [(0, .aload_n 0, 1, 0, 0, 0, []), (1, .getfield 19, 3, 8, 5, 669, []), (4, .iload_n 2, 1, 0, 0, 0, []), (5, .aload_n 0, 1, 0, 0, 0, []), (6, .getfield 19, 3, 8, 5, 669, []), (9, .iload_n 1, 1, 0, 0, 0, []), (10, .iaload, 1, 0, 0, 0, []), (11, .iastore, 1, 0, 0, 0, []), (12, .iconst 0, 1, 0, 0, 0, []), (13, .istore_n 3, 1, 0, 0, 0, []), (14, .iload_n 3, 1, 0, 0, 0, []), (15, .bipush 12, 2, 0, 0, 0, []), (17, .if_icmp .ge 31, 3, 48, 0, 0, []), (20, .aload_n 0, 1, 0, 0, 0, []), (21, .getfield 22, 3, 8, 6, 670, []), (24, .bipush 12, 2, 0, 0, 0, []), (26, .iload_n 2, 1, 0, 0, 0, []), (27, .imul, 1, 0, 0, 0, []), (28, .iload_n 3, 1, 0, 0, 0, []), (29, .iadd, 1, 0, 0, 0, []), (30, .aload_n 0, 1, 0, 0, 0, []), (31, .getfield 22, 3, 8, 6, 670, []), (34, .bipush 12, 2, 0, 0, 0, []), (36, .iload_n 1, 1, 0, 0, 0, []), (37, .imul, 1, 0, 0, 0, []), (38, .iload_n 3, 1, 0, 0, 0, []), (39, .iadd, 1, 0, 0, 0, []), (40, .iaload, 1, 0, 0, 0, []), (41, .iastore, 1, 0, 0, 0, []), (42, .iinc 3 1, 3, 0, 0, 0, []), (45, .goto (-31), 3, 14, 0, 0, []), (48, .return_, 1, 0, 0, 0, [])]
def m_M_copyPath : Mt_ := (k_M_copyPath, 0)
def mt_M_copyPath : Mt_ × Nat × Nat := (m_M_copyPath, 3, 4)
def k_M_entries : List En_ := [(0, .iload_n 1, 1, 0, 0, 0, []), (1, .iconst 0, 1, 0, 0, 0, []), (2, .iconst 1, 1, 0, 0, 0, []), (3, .invokestatic 59, 3, 87, 3, 746, [(0, 8)]), (6, .ifCond .eq 12, 3, 18, 0, 0, []), (9, .aload_n 0, 1, 0, 0, 0, []), (10, .getfield 19, 3, 8, 5, 669, []), (13, .iload_n 1, 1, 0, 0, 0, []), (14, .iaload, 1, 0, 0, 0, []), (15, .ifCond .ne 5, 3, 20, 0, 0, []), (18, .iconst (-1), 1, 0, 0, 0, []), (19, .ireturn, 1, 0, 0, 0, []), (20, .iconst 0, 1, 0, 0, 0, []), (21, .istore_n 2, 1, 0, 0, 0, []), (22, .iconst 0, 1, 0, 0, 0, []), (23, .istore_n 3, 1, 0, 0, 0, []), (24, .iload_n 3, 1, 0, 0, 0, []), (25, .aload_n 0, 1, 0, 0, 0, []), (26, .getfield 103, 3, 8, 2, 666, []), (29, .if_icmp .ge 141, 3, 170, 0, 0, []), (32, .aload_n 0, 1, 0, 0, 0, []), (33, .bipush 64, 2, 0, 0, 0, []), (35, .iload_n 3, 1, 0, 0, 0, []), (36, .imul, 1, 0, 0, 0, []), (37, .iload_n 1, 1, 0, 0, 0, []), (38, .invokevirtual 145, 3, 114, 3, 854, [(0, 8)]), (41, .istore 4, 2, 0, 0, 0, []), (43, .iconst 0, 1, 0, 0, 0, []), (44, .istore 5, 2, 0, 0, 0, []), (46, .iload 5, 2, 0, 0, 0, []), (48, .iload 4, 2, 0, 0, 0, []), (50, .if_icmp .ge 114, 3, 164, 0, 0, []), (53, .aload_n 0, 1, 0, 0, 0, []), (54, .getfield 35, 3, 8, 14, 678, []), (57, .iload 5, 2, 0, 0, 0, []), (59, .iaload, 1, 0, 0, 0, []), (60, .iconst 3, 1, 0, 0, 0, []), (61, .if_icmp .eq 18, 3, 79, 0, 0, []), (64, .aload_n 0, 1, 0, 0, 0, []), (65, .getfield 35, 3, 8, 14, 678, []), (68, .iload 5, 2, 0, 0, 0, []), (70, .iaload, 1, 0, 0, 0, []), (71, .iconst 4, 1, 0, 0, 0, []), (72, .if_icmp .eq 7, 3, 79, 0, 0, []), (75, .iconst 1, 1, 0, 0, 0, []), (76, .goto 4, 3, 80, 0, 0, []), (79, .iconst 0, 1, 0, 0, 0, []), (80, .istore 6, 2, 0, 0, 0, []), (82, .iconst 0, 1, 0, 0, 0, []), (83, .istore 7, 2, 0, 0, 0, []), (85, .iload 7, 2, 0, 0, 0, []), (87, .iload 5, 2, 0, 0, 0, []), (89, .if_icmp .ge 56, 3, 145, 0, 0, []), (92, .iload 6, 2, 0, 0, 0, []), (94, .ifCond .eq 42, 3, 136, 0, 0, []), (97, .aload_n 0, 1, 0, 0, 0, []), (98, .aload_n 0, 1, 0, 0, 0, []), (99, .getfield 35, 3, 8, 14, 678, []), (102, .iload 5, 2, 0, 0, 0, []), (104, .iaload, 1, 0, 0, 0, []), (105, .aload_n 0, 1, 0, 0, 0, []), (106, .getfield 38, 3, 8, 15, 679, []), (109, .iload 5, 2, 0, 0, 0, []), (111, .iaload, 1, 0, 0, 0, []), (112, .aload_n 0, 1, 0, 0, 0, []), (113, .getfield 35, 3, 8, 14, 678, []), (116, .iload 7, 2, 0, 0, 0, []), (118, .iaload, 1, 0, 0, 0, []), (119, .aload_n 0, 1, 0, 0, 0, []), (120, .getfield 38, 3, 8, 15, 679, []), (123, .iload 7, 2, 0, 0, 0, []), (125, .iaload, 1, 0, 0, 0, []), (126, .invokevirtual 148, 3, 121, 5, 882, [(0, 8)]), (129, .ifCond .ne 7, 3, 136, 0, 0, []), (132, .iconst 1, 1, 0, 0, 0, []), (133, .goto 4, 3, 137, 0, 0, []), (136, .iconst 0, 1, 0, 0, 0, []), (137, .istore 6, 2, 0, 0, 0, []), (139, .iinc 7 1, 3, 0, 0, 0, []), (142, .goto (-57), 3, 85, 0, 0, []), (145, .iload 6, 2, 0, 0, 0, []), (147, .ifCond .eq 9, 3, 156, 0, 0, []), (150, .iload_n 2, 1, 0, 0, 0, []), (151, .iconst 1, 1, 0, 0, 0, []), (152, .iadd, 1, 0, 0, 0, []), (153, .goto 4, 3, 157, 0, 0, []), (156, .iload_n 2, 1, 0, 0, 0, []), (157, .istore_n 2, 1, 0, 0, 0, []), (158, .iinc 5 1, 3, 0, 0, 0, []), (161, .goto (-115), 3, 46, 0, 0, []), (164, .iinc 3 1, 3, 0, 0, 0, []), (167, .goto (-143), 3, 24, 0, 0, []), (170, .iload_n 2, 1, 0, 0, 0, []), (171, .ireturn, 1, 0, 0, 0, [])]
def m_M_entries : Mt_ := (k_M_entries, 1)
def mt_M_entries : Mt_ × Nat × Nat := (m_M_entries, 2, 8)
def k_M_gather : List En_ := [(0, .aload_n 0, 1, 0, 0, 0, []), (1, .iload_n 1, 1, 0, 0, 0, []), (2, .iload_n 2, 1, 0, 0, 0, []), (3, .invokevirtual 139, 3, 115, 3, 858, [(0, 8)]), (6, .istore_n 3, 1, 0, 0, 0, []), (7, .iconst 0, 1, 0, 0, 0, []), (8, .istore 4, 2, 0, 0, 0, []), (10, .iload 4, 2, 0, 0, 0, []), (12, .iload_n 3, 1, 0, 0, 0, []), (13, .if_icmp .ge 37, 3, 50, 0, 0, []), (16, .aload_n 0, 1, 0, 0, 0, []), (17, .getfield 41, 3, 8, 16, 680, []), (20, .iload 4, 2, 0, 0, 0, []), (22, .aload_n 0, 1, 0, 0, 0, []), (23, .getfield 35, 3, 8, 14, 678, []), (26, .iload 4, 2, 0, 0, 0, []), (28, .iaload, 1, 0, 0, 0, []), (29, .iastore, 1, 0, 0, 0, []), (30, .aload_n 0, 1, 0, 0, 0, []), (31, .getfield 44, 3, 8, 17, 681, []), (34, .iload 4, 2, 0, 0, 0, []), (36, .aload_n 0, 1, 0, 0, 0, []), (37, .getfield 38, 3, 8, 15, 679, []), (40, .iload 4, 2, 0, 0, 0, []), (42, .iaload, 1, 0, 0, 0, []), (43, .iastore, 1, 0, 0, 0, []), (44, .iinc 4 1, 3, 0, 0, 0, []), (47, .goto (-37), 3, 10, 0, 0, []), (50, .aload_n 0, 1, 0, 0, 0, []), (51, .iload_n 3, 1, 0, 0, 0, []), (52, .putfield 125, 3, 8, 13, 677, []), (55, .iconst 0, 1, 0, 0, 0, []), (56, .istore 4, 2, 0, 0, 0, []), (58, .iload 4, 2, 0, 0, 0, []), (60, .iload_n 3, 1, 0, 0, 0, []), (61, .if_icmp .ge 33, 3, 94, 0, 0, []), (64, .aload_n 0, 1, 0, 0, 0, []), (65, .getfield 35, 3, 8, 14, 678, []), (68, .iload 4, 2, 0, 0, 0, []), (70, .iaload, 1, 0, 0, 0, []), (71, .iconst 4, 1, 0, 0, 0, []), (72, .if_icmp .ne 16, 3, 88, 0, 0, []), (75, .aload_n 0, 1, 0, 0, 0, []), (76, .aload_n 0, 1, 0, 0, 0, []), (77, .getfield 38, 3, 8, 15, 679, []), (80, .iload 4, 2, 0, 0, 0, []), (82, .iaload, 1, 0, 0, 0, []), (83, .iload_n 2, 1, 0, 0, 0, []), (84, .iconst (-1), 1, 0, 0, 0, []), (85, .invokevirtual 132, 3, 119, 4, 874, [(0, 8)]), (88, .iinc 4 1, 3, 0, 0, 0, []), (91, .goto (-33), 3, 58, 0, 0, []), (94, .aload_n 0, 1, 0, 0, 0, []), (95, .invokevirtual 136, 3, 120, 1, 878, [(0, 8)]), (98, .aload_n 0, 1, 0, 0, 0, []), (99, .getfield 125, 3, 8, 13, 677, []), (102, .ireturn, 1, 0, 0, 0, [])]
def m_M_gather : Mt_ := (k_M_gather, 1)
def mt_M_gather : Mt_ × Nat × Nat := (m_M_gather, 3, 5)
def k_M_come : List En_ := [(0, .aload_n 0, 1, 0, 0, 0, []), (1, .getfield 35, 3, 8, 14, 678, []), (4, .iconst 0, 1, 0, 0, 0, []), (5, .iconst 3, 1, 0, 0, 0, []), (6, .iastore, 1, 0, 0, 0, []), (7, .aload_n 0, 1, 0, 0, 0, []), (8, .getfield 38, 3, 8, 15, 679, []), (11, .iconst 0, 1, 0, 0, 0, []), (12, .iload_n 1, 1, 0, 0, 0, []), (13, .iastore, 1, 0, 0, 0, []), (14, .iconst 1, 1, 0, 0, 0, []), (15, .istore_n 3, 1, 0, 0, 0, []), (16, .iconst 0, 1, 0, 0, 0, []), (17, .istore 4, 2, 0, 0, 0, []), (19, .iload 4, 2, 0, 0, 0, []), (21, .aload_n 0, 1, 0, 0, 0, []), (22, .getfield 19, 3, 8, 5, 669, []), (25, .iload_n 2, 1, 0, 0, 0, []), (26, .iaload, 1, 0, 0, 0, []), (27, .if_icmp .ge 95, 3, 122, 0, 0, []), (30, .aload_n 0, 1, 0, 0, 0, []), (31, .iconst 0, 1, 0, 0, 0, []), (32, .putfield 125, 3, 8, 13, 677, []), (35, .iconst 0, 1, 0, 0, 0, []), (36, .istore 5, 2, 0, 0, 0, []), (38, .iload 5, 2, 0, 0, 0, []), (40, .iload_n 3, 1, 0, 0, 0, []), (41, .if_icmp .ge 66, 3, 107, 0, 0, []), (44, .aload_n 0, 1, 0, 0, 0, []), (45, .getfield 35, 3, 8, 14, 678, []), (48, .iload 5, 2, 0, 0, 0, []), (50, .iaload, 1, 0, 0, 0, []), (51, .iconst 3, 1, 0, 0, 0, []), (52, .if_icmp .ne 24, 3, 76, 0, 0, []), (55, .aload_n 0, 1, 0, 0, 0, []), (56, .aload_n 0, 1, 0, 0, 0, []), (57, .getfield 38, 3, 8, 15, 679, []), (60, .iload 5, 2, 0, 0, 0, []), (62, .iaload, 1, 0, 0, 0, []), (63, .iload_n 2, 1, 0, 0, 0, []), (64, .iload 4, 2, 0, 0, 0, []), (66, .aload_n 0, 1, 0, 0, 0, []), (67, .getfield 125, 3, 8, 13, 677, []), (70, .invokevirtual 128, 3, 116, 5, 862, [(0, 8)]), (73, .goto 28, 3, 101, 0, 0, []), (76, .aload_n 0, 1, 0, 0, 0, []), (77, .getfield 35, 3, 8, 14, 678, []), (80, .iload 5, 2, 0, 0, 0, []), (82, .iaload, 1, 0, 0, 0, []), (83, .iconst 4, 1, 0, 0, 0, []), (84, .if_icmp .ne 17, 3, 101, 0, 0, []), (87, .aload_n 0, 1, 0, 0, 0, []), (88, .aload_n 0, 1, 0, 0, 0, []), (89, .getfield 38, 3, 8, 15, 679, []), (92, .iload 5, 2, 0, 0, 0, []), (94, .iaload, 1, 0, 0, 0, []), (95, .iload_n 2, 1, 0, 0, 0, []), (96, .iload 4, 2, 0, 0, 0, []), (98, .invokevirtual 132, 3, 119, 4, 874, [(0, 8)]), (101, .iinc 5 1, 3, 0, 0, 0, []), (104, .goto (-66), 3, 38, 0, 0, []), (107, .aload_n 0, 1, 0, 0, 0, []), (108, .invokevirtual 136, 3, 120, 1, 878, [(0, 8)]), (111, .aload_n 0, 1, 0, 0, 0, []), (112, .getfield 125, 3, 8, 13, 677, []), (115, .istore_n 3, 1, 0, 0, 0, []), (116, .iinc 4 1, 3, 0, 0, 0, []), (119, .goto (-100), 3, 19, 0, 0, []), (122, .iload_n 3, 1, 0, 0, 0, []), (123, .ireturn, 1, 0, 0, 0, [])]
def m_M_come : Mt_ := (k_M_come, 1)
def mt_M_come : Mt_ × Nat × Nat := (m_M_come, 3, 6)
def k_M_lead : List En_ := [(0, .aload_n 0, 1, 0, 0, 0, []), (1, .iload_n 1, 1, 0, 0, 0, []), (2, .iload_n 2, 1, 0, 0, 0, []), (3, .iload_n 3, 1, 0, 0, 0, []), (4, .invokevirtual 122, 3, 117, 4, 866, [(0, 8)]), (7, .istore 5, 2, 0, 0, 0, []), (9, .iload 5, 2, 0, 0, 0, []), (11, .ifCond .ge 4, 3, 15, 0, 0, []), (14, .return_, 1, 0, 0, 0, []), (15, .aload_n 0, 1, 0, 0, 0, []), (16, .getfield 41, 3, 8, 16, 680, []), (19, .iload 4, 2, 0, 0, 0, []), (21, .aload_n 0, 1, 0, 0, 0, []), (22, .getfield 7, 3, 8, 0, 664, []), (25, .iload 5, 2, 0, 0, 0, []), (27, .iaload, 1, 0, 0, 0, []), (28, .iastore, 1, 0, 0, 0, []), (29, .aload_n 0, 1, 0, 0, 0, []), (30, .getfield 44, 3, 8, 17, 681, []), (33, .iload 4, 2, 0, 0, 0, []), (35, .aload_n 0, 1, 0, 0, 0, []), (36, .iload 5, 2, 0, 0, 0, []), (38, .iconst 1, 1, 0, 0, 0, []), (39, .iadd, 1, 0, 0, 0, []), (40, .invokevirtual 90, 3, 102, 2, 804, [(0, 8)]), (43, .iastore, 1, 0, 0, 0, []), (44, .aload_n 0, 1, 0, 0, 0, []), (45, .iload 4, 2, 0, 0, 0, []), (47, .iconst 1, 1, 0, 0, 0, []), (48, .iadd, 1, 0, 0, 0, []), (49, .putfield 125, 3, 8, 13, 677, []), (52, .return_, 1, 0, 0, 0, [])]
def m_M_lead : Mt_ := (k_M_lead, 0)
def mt_M_lead : Mt_ × Nat × Nat := (m_M_lead, 5, 6)
def k_M_seek : List En_ := [(0, .iload_n 1, 1, 0, 0, 0, []), (1, .aload_n 0, 1, 0, 0, 0, []), (2, .getfield 7, 3, 8, 0, 664, []), (5, .iload_n 1, 1, 0, 0, 0, []), (6, .iaload, 1, 0, 0, 0, []), (7, .iadd, 1, 0, 0, 0, []), (8, .iconst 1, 1, 0, 0, 0, []), (9, .isub, 1, 0, 0, 0, []), (10, .istore 4, 2, 0, 0, 0, []), (12, .iload_n 1, 1, 0, 0, 0, []), (13, .iconst 1, 1, 0, 0, 0, []), (14, .iadd, 1, 0, 0, 0, []), (15, .istore 5, 2, 0, 0, 0, []), (17, .iconst (-1), 1, 0, 0, 0, []), (18, .istore 6, 2, 0, 0, 0, []), (20, .iload 5, 2, 0, 0, 0, []), (22, .iload 4, 2, 0, 0, 0, []), (24, .if_icmp .ge 53, 3, 77, 0, 0, []), (27, .aload_n 0, 1, 0, 0, 0, []), (28, .iload 5, 2, 0, 0, 0, []), (30, .iconst 1, 1, 0, 0, 0, []), (31, .iadd, 1, 0, 0, 0, []), (32, .iload_n 2, 1, 0, 0, 0, []), (33, .iload_n 3, 1, 0, 0, 0, []), (34, .invokevirtual 119, 3, 118, 4, 870, [(0, 8)]), (37, .ifCond .eq 8, 3, 45, 0, 0, []), (40, .iload 5, 2, 0, 0, 0, []), (42, .goto 5, 3, 47, 0, 0, []), (45, .iload 6, 2, 0, 0, 0, []), (47, .istore 6, 2, 0, 0, 0, []), (49, .aload_n 0, 1, 0, 0, 0, []), (50, .iload 5, 2, 0, 0, 0, []), (52, .iconst 1, 1, 0, 0, 0, []), (53, .iadd, 1, 0, 0, 0, []), (54, .invokevirtual 90, 3, 102, 2, 804, [(0, 8)]), (57, .istore 7, 2, 0, 0, 0, []), (59, .aload_n 0, 1, 0, 0, 0, []), (60, .aload_n 0, 1, 0, 0, 0, []), (61, .getfield 7, 3, 8, 0, 664, []), (64, .iload 5, 2, 0, 0, 0, []), (66, .iaload, 1, 0, 0, 0, []), (67, .iload 7, 2, 0, 0, 0, []), (69, .invokevirtual 74, 3, 103, 3, 808, [(0, 8)]), (72, .istore 5, 2, 0, 0, 0, []), (74, .goto (-54), 3, 20, 0, 0, []), (77, .iload 6, 2, 0, 0, 0, []), (79, .ireturn, 1, 0, 0, 0, [])]
def m_M_seek : Mt_ := (k_M_seek, 1)
def mt_M_seek : Mt_ × Nat × Nat := (m_M_seek, 4, 8)
def k_M_isName : List En_ := [(0, .iconst 1, 1, 0, 0, 0, []), (1, .istore 4, 2, 0, 0, 0, []), (3, .aload_n 0, 1, 0, 0, 0, []), (4, .iload_n 1, 1, 0, 0, 0, []), (5, .invokevirtual 90, 3, 102, 2, 804, [(0, 8)]), (8, .iconst 1, 1, 0, 0, 0, []), (9, .isub, 1, 0, 0, 0, []), (10, .iload_n 1, 1, 0, 0, 0, []), (11, .isub, 1, 0, 0, 0, []), (12, .istore 5, 2, 0, 0, 0, []), (14, .iconst 0, 1, 0, 0, 0, []), (15, .istore 6, 2, 0, 0, 0, []), (17, .iload 6, 2, 0, 0, 0, []), (19, .iconst 4, 1, 0, 0, 0, []), (20, .if_icmp .ge 60, 3, 80, 0, 0, []), (23, .iload 4, 2, 0, 0, 0, []), (25, .ifCond .eq 46, 3, 71, 0, 0, []), (28, .aload_n 0, 1, 0, 0, 0, []), (29, .getfield 22, 3, 8, 6, 670, []), (32, .bipush 12, 2, 0, 0, 0, []), (34, .iload_n 2, 1, 0, 0, 0, []), (35, .imul, 1, 0, 0, 0, []), (36, .iconst 4, 1, 0, 0, 0, []), (37, .iload_n 3, 1, 0, 0, 0, []), (38, .imul, 1, 0, 0, 0, []), (39, .iadd, 1, 0, 0, 0, []), (40, .iload 6, 2, 0, 0, 0, []), (42, .iadd, 1, 0, 0, 0, []), (43, .iaload, 1, 0, 0, 0, []), (44, .iload 6, 2, 0, 0, 0, []), (46, .iload 5, 2, 0, 0, 0, []), (48, .if_icmp .ge 15, 3, 63, 0, 0, []), (51, .aload_n 0, 1, 0, 0, 0, []), (52, .getfield 7, 3, 8, 0, 664, []), (55, .iload_n 1, 1, 0, 0, 0, []), (56, .iload 6, 2, 0, 0, 0, []), (58, .iadd, 1, 0, 0, 0, []), (59, .iaload, 1, 0, 0, 0, []), (60, .goto 4, 3, 64, 0, 0, []), (63, .iconst 0, 1, 0, 0, 0, []), (64, .if_icmp .ne 7, 3, 71, 0, 0, []), (67, .iconst 1, 1, 0, 0, 0, []), (68, .goto 4, 3, 72, 0, 0, []), (71, .iconst 0, 1, 0, 0, 0, []), (72, .istore 4, 2, 0, 0, 0, []), (74, .iinc 6 1, 3, 0, 0, 0, []), (77, .goto (-60), 3, 17, 0, 0, []), (80, .iload 4, 2, 0, 0, 0, []), (82, .ireturn, 1, 0, 0, 0, [])]
def m_M_isName : Mt_ := (k_M_isName, 2)
def mt_M_isName : Mt_ × Nat × Nat := (m_M_isName, 4, 7)
def k_M_items : List En_ := [(0, .iload_n 1, 1, 0, 0, 0, []), (1, .aload_n 0, 1, 0, 0, 0, []), (2, .getfield 7, 3, 8, 0, 664, []), (5, .iload_n 1, 1, 0, 0, 0, []), (6, .iaload, 1, 0, 0, 0, []), (7, .iadd, 1, 0, 0, 0, []), (8, .iconst 1, 1, 0, 0, 0, []), (9, .isub, 1, 0, 0, 0, []), (10, .istore 4, 2, 0, 0, 0, []), (12, .iload_n 1, 1, 0, 0, 0, []), (13, .iconst 1, 1, 0, 0, 0, []), (14, .iadd, 1, 0, 0, 0, []), (15, .istore 5, 2, 0, 0, 0, []), (17, .iload 5, 2, 0, 0, 0, []), (19, .iload 4, 2, 0, 0, 0, []), (21, .if_icmp .ge 94, 3, 115, 0, 0, []), (24, .iload_n 3, 1, 0, 0, 0, []), (25, .ifCond .ge 45, 3, 70, 0, 0, []), (28, .aload_n 0, 1, 0, 0, 0, []), (29, .getfield 41, 3, 8, 16, 680, []), (32, .aload_n 0, 1, 0, 0, 0, []), (33, .getfield 125, 3, 8, 13, 677, []), (36, .aload_n 0, 1, 0, 0, 0, []), (37, .getfield 7, 3, 8, 0, 664, []), (40, .iload 5, 2, 0, 0, 0, []), (42, .iaload, 1, 0, 0, 0, []), (43, .iastore, 1, 0, 0, 0, []), (44, .aload_n 0, 1, 0, 0, 0, []), (45, .getfield 44, 3, 8, 17, 681, []), (48, .aload_n 0, 1, 0, 0, 0, []), (49, .getfield 125, 3, 8, 13, 677, []), (52, .iload 5, 2, 0, 0, 0, []), (54, .iconst 1, 1, 0, 0, 0, []), (55, .iadd, 1, 0, 0, 0, []), (56, .iastore, 1, 0, 0, 0, []), (57, .aload_n 0, 1, 0, 0, 0, []), (58, .aload_n 0, 1, 0, 0, 0, []), (59, .getfield 125, 3, 8, 13, 677, []), (62, .iconst 1, 1, 0, 0, 0, []), (63, .iadd, 1, 0, 0, 0, []), (64, .putfield 125, 3, 8, 13, 677, []), (67, .goto 28, 3, 95, 0, 0, []), (70, .aload_n 0, 1, 0, 0, 0, []), (71, .getfield 7, 3, 8, 0, 664, []), (74, .iload 5, 2, 0, 0, 0, []), (76, .iaload, 1, 0, 0, 0, []), (77, .iconst 3, 1, 0, 0, 0, []), (78, .if_icmp .ne 17, 3, 95, 0, 0, []), (81, .aload_n 0, 1, 0, 0, 0, []), (82, .iload 5, 2, 0, 0, 0, []), (84, .iconst 1, 1, 0, 0, 0, []), (85, .iadd, 1, 0, 0, 0, []), (86, .iload_n 2, 1, 0, 0, 0, []), (87, .iload_n 3, 1, 0, 0, 0, []), (88, .aload_n 0, 1, 0, 0, 0, []), (89, .getfield 125, 3, 8, 13, 677, []), (92, .invokevirtual 128, 3, 116, 5, 862, [(0, 8)]), (95, .aload_n 0, 1, 0, 0, 0, []), (96, .aload_n 0, 1, 0, 0, 0, []), (97, .getfield 7, 3, 8, 0, 664, []), (100, .iload 5, 2, 0, 0, 0, []), (102, .iaload, 1, 0, 0, 0, []), (103, .iload 5, 2, 0, 0, 0, []), (105, .iconst 1, 1, 0, 0, 0, []), (106, .iadd, 1, 0, 0, 0, []), (107, .invokevirtual 74, 3, 103, 3, 808, [(0, 8)]), (110, .istore 5, 2, 0, 0, 0, []), (112, .goto (-95), 3, 17, 0, 0, []), (115, .return_, 1, 0, 0, 0, [])]
def m_M_items : Mt_ := (k_M_items, 0)
def mt_M_items : Mt_ × Nat × Nat := (m_M_items, 4, 6)
def k_M_turn : List En_ := [(0, .iconst 0, 1, 0, 0, 0, []), (1, .istore_n 1, 1, 0, 0, 0, []), (2, .iload_n 1, 1, 0, 0, 0, []), (3, .aload_n 0, 1, 0, 0, 0, []), (4, .getfield 125, 3, 8, 13, 677, []), (7, .if_icmp .ge 33, 3, 40, 0, 0, []), (10, .aload_n 0, 1, 0, 0, 0, []), (11, .getfield 35, 3, 8, 14, 678, []), (14, .iload_n 1, 1, 0, 0, 0, []), (15, .aload_n 0, 1, 0, 0, 0, []), (16, .getfield 41, 3, 8, 16, 680, []), (19, .iload_n 1, 1, 0, 0, 0, []), (20, .iaload, 1, 0, 0, 0, []), (21, .iastore, 1, 0, 0, 0, []), (22, .aload_n 0, 1, 0, 0, 0, []), (23, .getfield 38, 3, 8, 15, 679, []), (26, .iload_n 1, 1, 0, 0, 0, []), (27, .aload_n 0, 1, 0, 0, 0, []), (28, .getfield 44, 3, 8, 17, 681, []), (31, .iload_n 1, 1, 0, 0, 0, []), (32, .iaload, 1, 0, 0, 0, []), (33, .iastore, 1, 0, 0, 0, []), (34, .iinc 1 1, 3, 0, 0, 0, []), (37, .goto (-35), 3, 2, 0, 0, []), (40, .return_, 1, 0, 0, 0, [])]
def m_M_turn : Mt_ := (k_M_turn, 0)
def mt_M_turn : Mt_ × Nat × Nat := (m_M_turn, 1, 2)
def k_M_equal : List En_ := [(0, .aload_n 0, 1, 0, 0, 0, []), (1, .iload_n 1, 1, 0, 0, 0, []), (2, .iload_n 2, 1, 0, 0, 0, []), (3, .invokevirtual 74, 3, 103, 3, 808, [(0, 8)]), (6, .iload_n 2, 1, 0, 0, 0, []), (7, .isub, 1, 0, 0, 0, []), (8, .istore 5, 2, 0, 0, 0, []), (10, .iload_n 1, 1, 0, 0, 0, []), (11, .iload_n 3, 1, 0, 0, 0, []), (12, .if_icmp .ne 22, 3, 34, 0, 0, []), (15, .aload_n 0, 1, 0, 0, 0, []), (16, .iload_n 3, 1, 0, 0, 0, []), (17, .iload 4, 2, 0, 0, 0, []), (19, .invokevirtual 74, 3, 103, 3, 808, [(0, 8)]), (22, .iload 4, 2, 0, 0, 0, []), (24, .isub, 1, 0, 0, 0, []), (25, .iload 5, 2, 0, 0, 0, []), (27, .if_icmp .ne 7, 3, 34, 0, 0, []), (30, .iconst 1, 1, 0, 0, 0, []), (31, .goto 4, 3, 35, 0, 0, []), (34, .iconst 0, 1, 0, 0, 0, []), (35, .istore 6, 2, 0, 0, 0, []), (37, .iconst 0, 1, 0, 0, 0, []), (38, .istore 7, 2, 0, 0, 0, []), (40, .iload 7, 2, 0, 0, 0, []), (42, .iload 5, 2, 0, 0, 0, []), (44, .if_icmp .ge 43, 3, 87, 0, 0, []), (47, .iload 6, 2, 0, 0, 0, []), (49, .ifCond .eq 38, 3, 87, 0, 0, []), (52, .aload_n 0, 1, 0, 0, 0, []), (53, .getfield 7, 3, 8, 0, 664, []), (56, .iload_n 2, 1, 0, 0, 0, []), (57, .iload 7, 2, 0, 0, 0, []), (59, .iadd, 1, 0, 0, 0, []), (60, .iaload, 1, 0, 0, 0, []), (61, .aload_n 0, 1, 0, 0, 0, []), (62, .getfield 7, 3, 8, 0, 664, []), (65, .iload 4, 2, 0, 0, 0, []), (67, .iload 7, 2, 0, 0, 0, []), (69, .iadd, 1, 0, 0, 0, []), (70, .iaload, 1, 0, 0, 0, []), (71, .if_icmp .ne 7, 3, 78, 0, 0, []), (74, .iconst 1, 1, 0, 0, 0, []), (75, .goto 4, 3, 79, 0, 0, []), (78, .iconst 0, 1, 0, 0, 0, []), (79, .istore 6, 2, 0, 0, 0, []), (81, .iinc 7 1, 3, 0, 0, 0, []), (84, .goto (-44), 3, 40, 0, 0, []), (87, .iload 6, 2, 0, 0, 0, []), (89, .ireturn, 1, 0, 0, 0, [])]
def m_M_equal : Mt_ := (k_M_equal, 2)
def mt_M_equal : Mt_ × Nat × Nat := (m_M_equal, 5, 8)
def k_M_where : List En_ := [(0, .aload_n 0, 1, 0, 0, 0, []), (1, .iconst 0, 1, 0, 0, 0, []), (2, .sipush 1024, 3, 0, 0, 0, []), (5, .sipush 1024, 3, 0, 0, 0, []), (8, .aload_n 0, 1, 0, 0, 0, []), (9, .getfield 63, 3, 8, 1, 665, []), (12, .iadd, 1, 0, 0, 0, []), (13, .invokevirtual 106, 3, 97, 4, 784, [(0, 8)]), (16, .istore_n 2, 1, 0, 0, 0, []), (17, .iload_n 2, 1, 0, 0, 0, []), (18, .ifCond .lt 11, 3, 29, 0, 0, []), (21, .iconst (-1), 1, 0, 0, 0, []), (22, .iload_n 2, 1, 0, 0, 0, []), (23, .sipush 1024, 3, 0, 0, 0, []), (26, .isub, 1, 0, 0, 0, []), (27, .isub, 1, 0, 0, 0, []), (28, .ireturn, 1, 0, 0, 0, []), (29, .iload_n 1, 1, 0, 0, 0, []), (30, .iconst 0, 1, 0, 0, 0, []), (31, .bipush 7, 2, 0, 0, 0, []), (33, .invokestatic 59, 3, 87, 3, 746, [(0, 8)]), (36, .ifCond .eq 20, 3, 56, 0, 0, []), (39, .aload_n 0, 1, 0, 0, 0, []), (40, .getfield 19, 3, 8, 5, 669, []), (43, .iconst 2, 1, 0, 0, 0, []), (44, .iaload, 1, 0, 0, 0, []), (45, .ifCond .eq 11, 3, 56, 0, 0, []), (48, .aload_n 0, 1, 0, 0, 0, []), (49, .getfield 152, 3, 8, 7, 671, []), (52, .iconst 3, 1, 0, 0, 0, []), (53, .if_icmp .lt 7, 3, 60, 0, 0, []), (56, .sipush (-1000), 3, 0, 0, 0, []), (59, .ireturn, 1, 0, 0, 0, []), (60, .aload_n 0, 1, 0, 0, 0, []), (61, .iconst 2, 1, 0, 0, 0, []), (62, .iconst 3, 1, 0, 0, 0, []), (63, .aload_n 0, 1, 0, 0, 0, []), (64, .getfield 152, 3, 8, 7, 671, []), (67, .iadd, 1, 0, 0, 0, []), (68, .invokevirtual 142, 3, 112, 3, 846, [(0, 8)]), (71, .aload_n 0, 1, 0, 0, 0, []), (72, .getfield 25, 3, 8, 8, 672, []), (75, .aload_n 0, 1, 0, 0, 0, []), (76, .getfield 152, 3, 8, 7, 671, []), (79, .iload_n 1, 1, 0, 0, 0, []), (80, .iastore, 1, 0, 0, 0, []), (81, .iconst 0, 1, 0, 0, 0, []), (82, .istore_n 3, 1, 0, 0, 0, []), (83, .iload_n 3, 1, 0, 0, 0, []), (84, .bipush 96, 2, 0, 0, 0, []), (86, .if_icmp .ge 37, 3, 123, 0, 0, []), (89, .aload_n 0, 1, 0, 0, 0, []), (90, .getfield 7, 3, 8, 0, 664, []), (93, .sipush 1120, 3, 0, 0, 0, []), (96, .bipush 96, 2, 0, 0, 0, []), (98, .aload_n 0, 1, 0, 0, 0, []), (99, .getfield 152, 3, 8, 7, 671, []), (102, .imul, 1, 0, 0, 0, []), (103, .iadd, 1, 0, 0, 0, []), (104, .iload_n 3, 1, 0, 0, 0, []), (105, .iadd, 1, 0, 0, 0, []), (106, .aload_n 0, 1, 0, 0, 0, []), (107, .getfield 7, 3, 8, 0, 664, []), (110, .sipush 1024, 3, 0, 0, 0, []), (113, .iload_n 3, 1, 0, 0, 0, []), (114, .iadd, 1, 0, 0, 0, []), (115, .iaload, 1, 0, 0, 0, []), (116, .iastore, 1, 0, 0, 0, []), (117, .iinc 3 1, 3, 0, 0, 0, []), (120, .goto (-37), 3, 83, 0, 0, []), (123, .aload_n 0, 1, 0, 0, 0, []), (124, .aload_n 0, 1, 0, 0, 0, []), (125, .getfield 152, 3, 8, 7, 671, []), (128, .iconst 1, 1, 0, 0, 0, []), (129, .iadd, 1, 0, 0, 0, []), (130, .putfield 152, 3, 8, 7, 671, []), (133, .aload_n 0, 1, 0, 0, 0, []), (134, .iconst 0, 1, 0, 0, 0, []), (135, .putfield 63, 3, 8, 1, 665, []), (138, .aload_n 0, 1, 0, 0, 0, []), (139, .getfield 152, 3, 8, 7, 671, []), (142, .iconst 1, 1, 0, 0, 0, []), (143, .isub, 1, 0, 0, 0, []), (144, .ireturn, 1, 0, 0, 0, [])]
def m_M_where : Mt_ := (k_M_where, 1)
def mt_M_where : Mt_ × Nat × Nat := (m_M_where, 2, 4)
def k_M_anywhere : List En_ := [(0, .aload_n 0, 1, 0, 0, 0, []), (1, .getfield 152, 3, 8, 7, 671, []), (4, .istore_n 1, 1, 0, 0, 0, []), (5, .aload_n 0, 1, 0, 0, 0, []), (6, .iconst 0, 1, 0, 0, 0, []), (7, .putfield 152, 3, 8, 7, 671, []), (10, .iload_n 1, 1, 0, 0, 0, []), (11, .ireturn, 1, 0, 0, 0, [])]
def m_M_anywhere : Mt_ := (k_M_anywhere, 1)
def mt_M_anywhere : Mt_ × Nat × Nat := (m_M_anywhere, 1, 2)
def k_M_find : List En_ := [(0, .aload_n 0, 1, 0, 0, 0, []), (1, .invokevirtual 180, 3, 125, 1, 898, [(0, 8)]), (4, .aload_n 0, 1, 0, 0, 0, []), (5, .iconst 0, 1, 0, 0, 0, []), (6, .putfield 183, 3, 8, 9, 673, []), (9, .iconst 0, 1, 0, 0, 0, []), (10, .istore_n 1, 1, 0, 0, 0, []), (11, .iload_n 1, 1, 0, 0, 0, []), (12, .aload_n 0, 1, 0, 0, 0, []), (13, .getfield 103, 3, 8, 2, 666, []), (16, .if_icmp .ge 43, 3, 59, 0, 0, []), (19, .aload_n 0, 1, 0, 0, 0, []), (20, .getfield 31, 3, 8, 12, 676, []), (23, .iload_n 1, 1, 0, 0, 0, []), (24, .baload, 1, 0, 0, 0, []), (25, .ifCond .eq 28, 3, 53, 0, 0, []), (28, .aload_n 0, 1, 0, 0, 0, []), (29, .getfield 28, 3, 8, 10, 674, []), (32, .aload_n 0, 1, 0, 0, 0, []), (33, .getfield 183, 3, 8, 9, 673, []), (36, .aload_n 0, 1, 0, 0, 0, []), (37, .getfield 16, 3, 8, 4, 668, []), (40, .iload_n 1, 1, 0, 0, 0, []), (41, .iaload, 1, 0, 0, 0, []), (42, .iastore, 1, 0, 0, 0, []), (43, .aload_n 0, 1, 0, 0, 0, []), (44, .aload_n 0, 1, 0, 0, 0, []), (45, .getfield 183, 3, 8, 9, 673, []), (48, .iconst 1, 1, 0, 0, 0, []), (49, .iadd, 1, 0, 0, 0, []), (50, .putfield 183, 3, 8, 9, 673, []), (53, .iinc 1 1, 3, 0, 0, 0, []), (56, .goto (-45), 3, 11, 0, 0, []), (59, .aload_n 0, 1, 0, 0, 0, []), (60, .getfield 183, 3, 8, 9, 673, []), (63, .ireturn, 1, 0, 0, 0, [])]
def m_M_find : Mt_ := (k_M_find, 1)
def mt_M_find : Mt_ × Nat × Nat := (m_M_find, 1, 2)
def k_M_match : List En_ := [(0, .iconst (-1), 1, 0, 0, 0, []), (1, .istore_n 1, 1, 0, 0, 0, []), (2, .aload_n 0, 1, 0, 0, 0, []), (3, .getfield 152, 3, 8, 7, 671, []), (6, .iconst 1, 1, 0, 0, 0, []), (7, .isub, 1, 0, 0, 0, []), (8, .istore_n 2, 1, 0, 0, 0, []), (9, .iload_n 2, 1, 0, 0, 0, []), (10, .ifCond .lt 23, 3, 33, 0, 0, []), (13, .aload_n 0, 1, 0, 0, 0, []), (14, .iload_n 2, 1, 0, 0, 0, []), (15, .invokevirtual 171, 3, 126, 2, 902, [(0, 8)]), (18, .ifCond .eq 7, 3, 25, 0, 0, []), (21, .iload_n 2, 1, 0, 0, 0, []), (22, .goto 4, 3, 26, 0, 0, []), (25, .iload_n 1, 1, 0, 0, 0, []), (26, .istore_n 1, 1, 0, 0, 0, []), (27, .iinc 2 (-1), 3, 0, 0, 0, []), (30, .goto (-21), 3, 9, 0, 0, []), (33, .aload_n 0, 1, 0, 0, 0, []), (34, .iconst 0, 1, 0, 0, 0, []), (35, .putfield 174, 3, 8, 11, 675, []), (38, .iconst 0, 1, 0, 0, 0, []), (39, .istore_n 2, 1, 0, 0, 0, []), (40, .iload_n 2, 1, 0, 0, 0, []), (41, .aload_n 0, 1, 0, 0, 0, []), (42, .getfield 103, 3, 8, 2, 666, []), (45, .if_icmp .ge 104, 3, 149, 0, 0, []), (48, .iload_n 1, 1, 0, 0, 0, []), (49, .ifCond .lt 12, 3, 61, 0, 0, []), (52, .aload_n 0, 1, 0, 0, 0, []), (53, .iload_n 2, 1, 0, 0, 0, []), (54, .iload_n 1, 1, 0, 0, 0, []), (55, .invokevirtual 177, 3, 128, 3, 910, [(0, 8)]), (58, .ifCond .eq 7, 3, 65, 0, 0, []), (61, .iconst 1, 1, 0, 0, 0, []), (62, .goto 4, 3, 66, 0, 0, []), (65, .iconst 0, 1, 0, 0, 0, []), (66, .istore_n 3, 1, 0, 0, 0, []), (67, .aload_n 0, 1, 0, 0, 0, []), (68, .iload_n 3, 1, 0, 0, 0, []), (69, .ifCond .eq 12, 3, 81, 0, 0, []), (72, .aload_n 0, 1, 0, 0, 0, []), (73, .getfield 174, 3, 8, 11, 675, []), (76, .iconst 1, 1, 0, 0, 0, []), (77, .iadd, 1, 0, 0, 0, []), (78, .goto 7, 3, 85, 0, 0, []), (81, .aload_n 0, 1, 0, 0, 0, []), (82, .getfield 174, 3, 8, 11, 675, []), (85, .putfield 174, 3, 8, 11, 675, []), (88, .aload_n 0, 1, 0, 0, 0, []), (89, .getfield 31, 3, 8, 12, 676, []), (92, .iload_n 2, 1, 0, 0, 0, []), (93, .iload_n 3, 1, 0, 0, 0, []), (94, .bastore, 1, 0, 0, 0, []), (95, .iconst 0, 1, 0, 0, 0, []), (96, .istore 4, 2, 0, 0, 0, []), (98, .iload 4, 2, 0, 0, 0, []), (100, .aload_n 0, 1, 0, 0, 0, []), (101, .getfield 152, 3, 8, 7, 671, []), (104, .if_icmp .ge 39, 3, 143, 0, 0, []), (107, .aload_n 0, 1, 0, 0, 0, []), (108, .getfield 31, 3, 8, 12, 676, []), (111, .iload_n 2, 1, 0, 0, 0, []), (112, .aload_n 0, 1, 0, 0, 0, []), (113, .getfield 31, 3, 8, 12, 676, []), (116, .iload_n 2, 1, 0, 0, 0, []), (117, .baload, 1, 0, 0, 0, []), (118, .ifCond .eq 17, 3, 135, 0, 0, []), (121, .aload_n 0, 1, 0, 0, 0, []), (122, .iload_n 2, 1, 0, 0, 0, []), (123, .iload 4, 2, 0, 0, 0, []), (125, .invokevirtual 177, 3, 128, 3, 910, [(0, 8)]), (128, .ifCond .eq 7, 3, 135, 0, 0, []), (131, .iconst 1, 1, 0, 0, 0, []), (132, .goto 4, 3, 136, 0, 0, []), (135, .iconst 0, 1, 0, 0, 0, []), (136, .bastore, 1, 0, 0, 0, []), (137, .iinc 4 1, 3, 0, 0, 0, []), (140, .goto (-42), 3, 98, 0, 0, []), (143, .iinc 2 1, 3, 0, 0, 0, []), (146, .goto (-106), 3, 40, 0, 0, []), (149, .return_, 1, 0, 0, 0, [])]
def m_M_match : Mt_ := (k_M_match, 0)
def mt_M_match : Mt_ × Nat × Nat := (m_M_match, 1, 5)
def k_M_uses : List En_ := [(0, .aload_n 0, 1, 0, 0, 0, []), (1, .getfield 7, 3, 8, 0, 664, []), (4, .sipush 1120, 3, 0, 0, 0, []), (7, .bipush 96, 2, 0, 0, 0, []), (9, .iload_n 1, 1, 0, 0, 0, []), (10, .imul, 1, 0, 0, 0, []), (11, .iadd, 1, 0, 0, 0, []), (12, .iaload, 1, 0, 0, 0, []), (13, .istore_n 2, 1, 0, 0, 0, []), (14, .aload_n 0, 1, 0, 0, 0, []), (15, .getfield 19, 3, 8, 5, 669, []), (18, .iconst 0, 1, 0, 0, 0, []), (19, .iaload, 1, 0, 0, 0, []), (20, .ifCond .le 14, 3, 34, 0, 0, []), (23, .aload_n 0, 1, 0, 0, 0, []), (24, .iconst 0, 1, 0, 0, 0, []), (25, .iconst 3, 1, 0, 0, 0, []), (26, .iload_n 1, 1, 0, 0, 0, []), (27, .iadd, 1, 0, 0, 0, []), (28, .invokevirtual 168, 3, 127, 3, 906, [(0, 8)]), (31, .ifCond .ne 23, 3, 54, 0, 0, []), (34, .aload_n 0, 1, 0, 0, 0, []), (35, .getfield 19, 3, 8, 5, 669, []), (38, .iconst 1, 1, 0, 0, 0, []), (39, .iaload, 1, 0, 0, 0, []), (40, .ifCond .le 18, 3, 58, 0, 0, []), (43, .aload_n 0, 1, 0, 0, 0, []), (44, .iconst 1, 1, 0, 0, 0, []), (45, .iconst 3, 1, 0, 0, 0, []), (46, .iload_n 1, 1, 0, 0, 0, []), (47, .iadd, 1, 0, 0, 0, []), (48, .invokevirtual 168, 3, 127, 3, 906, [(0, 8)]), (51, .ifCond .eq 7, 3, 58, 0, 0, []), (54, .iconst 1, 1, 0, 0, 0, []), (55, .goto 4, 3, 59, 0, 0, []), (58, .iconst 0, 1, 0, 0, 0, []), (59, .istore_n 3, 1, 0, 0, 0, []), (60, .iload_n 3, 1, 0, 0, 0, []), (61, .ifCond .eq 53, 3, 114, 0, 0, []), (64, .aload_n 0, 1, 0, 0, 0, []), (65, .getfield 25, 3, 8, 8, 672, []), (68, .iload_n 1, 1, 0, 0, 0, []), (69, .iaload, 1, 0, 0, 0, []), (70, .iconst 2, 1, 0, 0, 0, []), (71, .iconst 5, 1, 0, 0, 0, []), (72, .invokestatic 59, 3, 87, 3, 746, [(0, 8)]), (75, .ifCond .eq 12, 3, 87, 0, 0, []), (78, .iload_n 2, 1, 0, 0, 0, []), (79, .iconst 1, 1, 0, 0, 0, []), (80, .iconst 2, 1, 0, 0, 0, []), (81, .invokestatic 59, 3, 87, 3, 746, [(0, 8)]), (84, .ifCond .ne 26, 3, 110, 0, 0, []), (87, .aload_n 0, 1, 0, 0, 0, []), (88, .getfield 25, 3, 8, 8, 672, []), (91, .iload_n 1, 1, 0, 0, 0, []), (92, .iaload, 1, 0, 0, 0, []), (93, .ifCond .ne 21, 3, 114, 0, 0, []), (96, .iload_n 2, 1, 0, 0, 0, []), (97, .iconst 1, 1, 0, 0, 0, []), (98, .iconst 2, 1, 0, 0, 0, []), (99, .invokestatic 59, 3, 87, 3, 746, [(0, 8)]), (102, .ifCond .ne 8, 3, 110, 0, 0, []), (105, .iload_n 2, 1, 0, 0, 0, []), (106, .iconst 5, 1, 0, 0, 0, []), (107, .if_icmp .ne 7, 3, 114, 0, 0, []), (110, .iconst 1, 1, 0, 0, 0, []), (111, .goto 4, 3, 115, 0, 0, []), (114, .iconst 0, 1, 0, 0, 0, []), (115, .ireturn, 1, 0, 0, 0, [])]
def m_M_uses : Mt_ := (k_M_uses, 2)
def mt_M_uses : Mt_ × Nat × Nat := (m_M_uses, 2, 4)
def k_M_samePath : List En_ := [(0, .aload_n 0, 1, 0, 0, 0, []), (1, .getfield 19, 3, 8, 5, 669, []), (4, .iload_n 1, 1, 0, 0, 0, []), (5, .iaload, 1, 0, 0, 0, []), (6, .aload_n 0, 1, 0, 0, 0, []), (7, .getfield 19, 3, 8, 5, 669, []), (10, .iload_n 2, 1, 0, 0, 0, []), (11, .iaload, 1, 0, 0, 0, []), (12, .if_icmp .ne 7, 3, 19, 0, 0, []), (15, .iconst 1, 1, 0, 0, 0, []), (16, .goto 4, 3, 20, 0, 0, []), (19, .iconst 0, 1, 0, 0, 0, []), (20, .istore_n 3, 1, 0, 0, 0, []), (21, .iconst 0, 1, 0, 0, 0, []), (22, .istore 4, 2, 0, 0, 0, []), (24, .iload 4, 2, 0, 0, 0, []), (26, .iconst 4, 1, 0, 0, 0, []), (27, .aload_n 0, 1, 0, 0, 0, []), (28, .getfield 19, 3, 8, 5, 669, []), (31, .iload_n 1, 1, 0, 0, 0, []), (32, .iaload, 1, 0, 0, 0, []), (33, .imul, 1, 0, 0, 0, []), (34, .if_icmp .ge 46, 3, 80, 0, 0, []), (37, .iload_n 3, 1, 0, 0, 0, []), (38, .ifCond .eq 42, 3, 80, 0, 0, []), (41, .aload_n 0, 1, 0, 0, 0, []), (42, .getfield 22, 3, 8, 6, 670, []), (45, .bipush 12, 2, 0, 0, 0, []), (47, .iload_n 1, 1, 0, 0, 0, []), (48, .imul, 1, 0, 0, 0, []), (49, .iload 4, 2, 0, 0, 0, []), (51, .iadd, 1, 0, 0, 0, []), (52, .iaload, 1, 0, 0, 0, []), (53, .aload_n 0, 1, 0, 0, 0, []), (54, .getfield 22, 3, 8, 6, 670, []), (57, .bipush 12, 2, 0, 0, 0, []), (59, .iload_n 2, 1, 0, 0, 0, []), (60, .imul, 1, 0, 0, 0, []), (61, .iload 4, 2, 0, 0, 0, []), (63, .iadd, 1, 0, 0, 0, []), (64, .iaload, 1, 0, 0, 0, []), (65, .if_icmp .ne 7, 3, 72, 0, 0, []), (68, .iconst 1, 1, 0, 0, 0, []), (69, .goto 4, 3, 73, 0, 0, []), (72, .iconst 0, 1, 0, 0, 0, []), (73, .istore_n 3, 1, 0, 0, 0, []), (74, .iinc 4 1, 3, 0, 0, 0, []), (77, .goto (-53), 3, 24, 0, 0, []), (80, .iload_n 3, 1, 0, 0, 0, []), (81, .ireturn, 1, 0, 0, 0, [])]
def m_M_samePath : Mt_ := (k_M_samePath, 2)
def mt_M_samePath : Mt_ × Nat × Nat := (m_M_samePath, 3, 5)
def k_M_holds : List En_ := [(0, .sipush 1120, 3, 0, 0, 0, []), (3, .bipush 96, 2, 0, 0, 0, []), (5, .iload_n 2, 1, 0, 0, 0, []), (6, .imul, 1, 0, 0, 0, []), (7, .iadd, 1, 0, 0, 0, []), (8, .istore_n 3, 1, 0, 0, 0, []), (9, .aload_n 0, 1, 0, 0, 0, []), (10, .getfield 25, 3, 8, 8, 672, []), (13, .iload_n 2, 1, 0, 0, 0, []), (14, .iaload, 1, 0, 0, 0, []), (15, .iconst 2, 1, 0, 0, 0, []), (16, .if_icmp .ge 32, 3, 48, 0, 0, []), (19, .aload_n 0, 1, 0, 0, 0, []), (20, .iload_n 1, 1, 0, 0, 0, []), (21, .iload_n 2, 1, 0, 0, 0, []), (22, .invokevirtual 158, 3, 129, 3, 914, [(0, 8)]), (25, .aload_n 0, 1, 0, 0, 0, []), (26, .getfield 25, 3, 8, 8, 672, []), (29, .iload_n 2, 1, 0, 0, 0, []), (30, .iaload, 1, 0, 0, 0, []), (31, .ifCond .ne 7, 3, 38, 0, 0, []), (34, .iconst 1, 1, 0, 0, 0, []), (35, .goto 4, 3, 39, 0, 0, []), (38, .iconst 0, 1, 0, 0, 0, []), (39, .if_icmp .ne 7, 3, 46, 0, 0, []), (42, .iconst 1, 1, 0, 0, 0, []), (43, .goto 4, 3, 47, 0, 0, []), (46, .iconst 0, 1, 0, 0, 0, []), (47, .ireturn, 1, 0, 0, 0, []), (48, .aload_n 0, 1, 0, 0, 0, []), (49, .getfield 25, 3, 8, 8, 672, []), (52, .iload_n 2, 1, 0, 0, 0, []), (53, .iaload, 1, 0, 0, 0, []), (54, .bipush 6, 2, 0, 0, 0, []), (56, .if_icmp .ge 10, 3, 66, 0, 0, []), (59, .aload_n 0, 1, 0, 0, 0, []), (60, .iload_n 1, 1, 0, 0, 0, []), (61, .iload_n 2, 1, 0, 0, 0, []), (62, .invokevirtual 162, 3, 130, 3, 918, [(0, 8)]), (65, .ireturn, 1, 0, 0, 0, []), (66, .aload_n 0, 1, 0, 0, 0, []), (67, .getfield 25, 3, 8, 8, 672, []), (70, .iload_n 2, 1, 0, 0, 0, []), (71, .iaload, 1, 0, 0, 0, []), (72, .bipush 7, 2, 0, 0, 0, []), (74, .if_icmp .ne 10, 3, 84, 0, 0, []), (77, .aload_n 0, 1, 0, 0, 0, []), (78, .iload_n 1, 1, 0, 0, 0, []), (79, .iload_n 2, 1, 0, 0, 0, []), (80, .invokevirtual 165, 3, 132, 3, 926, [(0, 8)]), (83, .ireturn, 1, 0, 0, 0, []), (84, .aload_n 0, 1, 0, 0, 0, []), (85, .getfield 7, 3, 8, 0, 664, []), (88, .iload_n 3, 1, 0, 0, 0, []), (89, .iaload, 1, 0, 0, 0, []), (90, .iconst 5, 1, 0, 0, 0, []), (91, .if_icmp .ne 18, 3, 109, 0, 0, []), (94, .aload_n 0, 1, 0, 0, 0, []), (95, .getfield 7, 3, 8, 0, 664, []), (98, .iload_n 3, 1, 0, 0, 0, []), (99, .iconst 1, 1, 0, 0, 0, []), (100, .iadd, 1, 0, 0, 0, []), (101, .iaload, 1, 0, 0, 0, []), (102, .ifCond .ne 7, 3, 109, 0, 0, []), (105, .iconst 1, 1, 0, 0, 0, []), (106, .goto 4, 3, 110, 0, 0, []), (109, .iconst 0, 1, 0, 0, 0, []), (110, .istore 4, 2, 0, 0, 0, []), (112, .aload_n 0, 1, 0, 0, 0, []), (113, .bipush 64, 2, 0, 0, 0, []), (115, .iload_n 1, 1, 0, 0, 0, []), (116, .imul, 1, 0, 0, 0, []), (117, .iconst 3, 1, 0, 0, 0, []), (118, .iload_n 2, 1, 0, 0, 0, []), (119, .iadd, 1, 0, 0, 0, []), (120, .invokevirtual 139, 3, 115, 3, 858, [(0, 8)]), (123, .ifCond .ne 7, 3, 130, 0, 0, []), (126, .iconst 1, 1, 0, 0, 0, []), (127, .goto 4, 3, 131, 0, 0, []), (130, .iconst 0, 1, 0, 0, 0, []), (131, .iload 4, 2, 0, 0, 0, []), (133, .if_icmp .ne 7, 3, 140, 0, 0, []), (136, .iconst 1, 1, 0, 0, 0, []), (137, .goto 4, 3, 141, 0, 0, []), (140, .iconst 0, 1, 0, 0, 0, []), (141, .ireturn, 1, 0, 0, 0, [])]
def m_M_holds : Mt_ := (k_M_holds, 2)
def mt_M_holds : Mt_ × Nat × Nat := (m_M_holds, 3, 5)
def k_M_isEqual : List En_ := [(0, .sipush 1120, 3, 0, 0, 0, []), (3, .bipush 96, 2, 0, 0, 0, []), (5, .iload_n 2, 1, 0, 0, 0, []), (6, .imul, 1, 0, 0, 0, []), (7, .iadd, 1, 0, 0, 0, []), (8, .istore_n 3, 1, 0, 0, 0, []), (9, .aload_n 0, 1, 0, 0, 0, []), (10, .bipush 64, 2, 0, 0, 0, []), (12, .iload_n 1, 1, 0, 0, 0, []), (13, .imul, 1, 0, 0, 0, []), (14, .iconst 3, 1, 0, 0, 0, []), (15, .iload_n 2, 1, 0, 0, 0, []), (16, .iadd, 1, 0, 0, 0, []), (17, .invokevirtual 145, 3, 114, 3, 854, [(0, 8)]), (20, .istore 4, 2, 0, 0, 0, []), (22, .iload 4, 2, 0, 0, 0, []), (24, .ifCond .ne 18, 3, 42, 0, 0, []), (27, .aload_n 0, 1, 0, 0, 0, []), (28, .getfield 7, 3, 8, 0, 664, []), (31, .iload_n 3, 1, 0, 0, 0, []), (32, .iaload, 1, 0, 0, 0, []), (33, .bipush 6, 2, 0, 0, 0, []), (35, .if_icmp .ne 7, 3, 42, 0, 0, []), (38, .iconst 1, 1, 0, 0, 0, []), (39, .goto 4, 3, 43, 0, 0, []), (42, .iconst 0, 1, 0, 0, 0, []), (43, .istore 5, 2, 0, 0, 0, []), (45, .iconst 0, 1, 0, 0, 0, []), (46, .istore 6, 2, 0, 0, 0, []), (48, .iload 6, 2, 0, 0, 0, []), (50, .iload 4, 2, 0, 0, 0, []), (52, .if_icmp .ge 51, 3, 103, 0, 0, []), (55, .iload 5, 2, 0, 0, 0, []), (57, .ifCond .ne 33, 3, 90, 0, 0, []), (60, .aload_n 0, 1, 0, 0, 0, []), (61, .aload_n 0, 1, 0, 0, 0, []), (62, .getfield 35, 3, 8, 14, 678, []), (65, .iload 6, 2, 0, 0, 0, []), (67, .iaload, 1, 0, 0, 0, []), (68, .aload_n 0, 1, 0, 0, 0, []), (69, .getfield 38, 3, 8, 15, 679, []), (72, .iload 6, 2, 0, 0, 0, []), (74, .iaload, 1, 0, 0, 0, []), (75, .aload_n 0, 1, 0, 0, 0, []), (76, .getfield 7, 3, 8, 0, 664, []), (79, .iload_n 3, 1, 0, 0, 0, []), (80, .iaload, 1, 0, 0, 0, []), (81, .iload_n 3, 1, 0, 0, 0, []), (82, .iconst 1, 1, 0, 0, 0, []), (83, .iadd, 1, 0, 0, 0, []), (84, .invokevirtual 148, 3, 121, 5, 882, [(0, 8)]), (87, .ifCond .eq 7, 3, 94, 0, 0, []), (90, .iconst 1, 1, 0, 0, 0, []), (91, .goto 4, 3, 95, 0, 0, []), (94, .iconst 0, 1, 0, 0, 0, []), (95, .istore 5, 2, 0, 0, 0, []), (97, .iinc 6 1, 3, 0, 0, 0, []), (100, .goto (-52), 3, 48, 0, 0, []), (103, .iload 5, 2, 0, 0, 0, []), (105, .ireturn, 1, 0, 0, 0, [])]
def m_M_isEqual : Mt_ := (k_M_isEqual, 2)
def mt_M_isEqual : Mt_ × Nat × Nat := (m_M_isEqual, 3, 7)
def k_M_isCompared : List En_ := [(0, .sipush 1120, 3, 0, 0, 0, []), (3, .bipush 96, 2, 0, 0, 0, []), (5, .iload_n 2, 1, 0, 0, 0, []), (6, .imul, 1, 0, 0, 0, []), (7, .iadd, 1, 0, 0, 0, []), (8, .istore_n 3, 1, 0, 0, 0, []), (9, .aload_n 0, 1, 0, 0, 0, []), (10, .bipush 64, 2, 0, 0, 0, []), (12, .iload_n 1, 1, 0, 0, 0, []), (13, .imul, 1, 0, 0, 0, []), (14, .iconst 3, 1, 0, 0, 0, []), (15, .iload_n 2, 1, 0, 0, 0, []), (16, .iadd, 1, 0, 0, 0, []), (17, .invokevirtual 145, 3, 114, 3, 854, [(0, 8)]), (20, .istore 4, 2, 0, 0, 0, []), (22, .iconst 0, 1, 0, 0, 0, []), (23, .istore 5, 2, 0, 0, 0, []), (25, .iconst 0, 1, 0, 0, 0, []), (26, .istore 6, 2, 0, 0, 0, []), (28, .iload 6, 2, 0, 0, 0, []), (30, .iload 4, 2, 0, 0, 0, []), (32, .if_icmp .ge 155, 3, 187, 0, 0, []), (35, .aload_n 0, 1, 0, 0, 0, []), (36, .getfield 35, 3, 8, 14, 678, []), (39, .iload 6, 2, 0, 0, 0, []), (41, .iaload, 1, 0, 0, 0, []), (42, .aload_n 0, 1, 0, 0, 0, []), (43, .getfield 7, 3, 8, 0, 664, []), (46, .iload_n 3, 1, 0, 0, 0, []), (47, .iaload, 1, 0, 0, 0, []), (48, .if_icmp .ne 22, 3, 70, 0, 0, []), (51, .aload_n 0, 1, 0, 0, 0, []), (52, .getfield 35, 3, 8, 14, 678, []), (55, .iload 6, 2, 0, 0, 0, []), (57, .iaload, 1, 0, 0, 0, []), (58, .iconst 1, 1, 0, 0, 0, []), (59, .iconst 2, 1, 0, 0, 0, []), (60, .invokestatic 59, 3, 87, 3, 746, [(0, 8)]), (63, .ifCond .eq 7, 3, 70, 0, 0, []), (66, .iconst 1, 1, 0, 0, 0, []), (67, .goto 4, 3, 71, 0, 0, []), (70, .iconst 0, 1, 0, 0, 0, []), (71, .istore 7, 2, 0, 0, 0, []), (73, .iload 7, 2, 0, 0, 0, []), (75, .ifCond .eq 27, 3, 102, 0, 0, []), (78, .aload_n 0, 1, 0, 0, 0, []), (79, .aload_n 0, 1, 0, 0, 0, []), (80, .getfield 35, 3, 8, 14, 678, []), (83, .iload 6, 2, 0, 0, 0, []), (85, .iaload, 1, 0, 0, 0, []), (86, .aload_n 0, 1, 0, 0, 0, []), (87, .getfield 38, 3, 8, 15, 679, []), (90, .iload 6, 2, 0, 0, 0, []), (92, .iaload, 1, 0, 0, 0, []), (93, .iload_n 3, 1, 0, 0, 0, []), (94, .iconst 1, 1, 0, 0, 0, []), (95, .iadd, 1, 0, 0, 0, []), (96, .invokevirtual 155, 3, 131, 4, 922, [(0, 8)]), (99, .goto 4, 3, 103, 0, 0, []), (102, .iconst 0, 1, 0, 0, 0, []), (103, .istore 8, 2, 0, 0, 0, []), (105, .iload 5, 2, 0, 0, 0, []), (107, .ifCond .ne 67, 3, 174, 0, 0, []), (110, .iload 7, 2, 0, 0, 0, []), (112, .ifCond .eq 66, 3, 178, 0, 0, []), (115, .aload_n 0, 1, 0, 0, 0, []), (116, .getfield 25, 3, 8, 8, 672, []), (119, .iload_n 2, 1, 0, 0, 0, []), (120, .iaload, 1, 0, 0, 0, []), (121, .iconst 2, 1, 0, 0, 0, []), (122, .if_icmp .ne 11, 3, 133, 0, 0, []), (125, .iload 8, 2, 0, 0, 0, []), (127, .ifCond .ge 51, 3, 178, 0, 0, []), (130, .goto 44, 3, 174, 0, 0, []), (133, .aload_n 0, 1, 0, 0, 0, []), (134, .getfield 25, 3, 8, 8, 672, []), (137, .iload_n 2, 1, 0, 0, 0, []), (138, .iaload, 1, 0, 0, 0, []), (139, .iconst 3, 1, 0, 0, 0, []), (140, .if_icmp .ne 11, 3, 151, 0, 0, []), (143, .iload 8, 2, 0, 0, 0, []), (145, .ifCond .gt 33, 3, 178, 0, 0, []), (148, .goto 26, 3, 174, 0, 0, []), (151, .aload_n 0, 1, 0, 0, 0, []), (152, .getfield 25, 3, 8, 8, 672, []), (155, .iload_n 2, 1, 0, 0, 0, []), (156, .iaload, 1, 0, 0, 0, []), (157, .iconst 4, 1, 0, 0, 0, []), (158, .if_icmp .ne 11, 3, 169, 0, 0, []), (161, .iload 8, 2, 0, 0, 0, []), (163, .ifCond .le 15, 3, 178, 0, 0, []), (166, .goto 8, 3, 174, 0, 0, []), (169, .iload 8, 2, 0, 0, 0, []), (171, .ifCond .lt 7, 3, 178, 0, 0, []), (174, .iconst 1, 1, 0, 0, 0, []), (175, .goto 4, 3, 179, 0, 0, []), (178, .iconst 0, 1, 0, 0, 0, []), (179, .istore 5, 2, 0, 0, 0, []), (181, .iinc 6 1, 3, 0, 0, 0, []), (184, .goto (-156), 3, 28, 0, 0, []), (187, .iload 5, 2, 0, 0, 0, []), (189, .ireturn, 1, 0, 0, 0, [])]
def m_M_isCompared : Mt_ := (k_M_isCompared, 2)
def mt_M_isCompared : Mt_ × Nat × Nat := (m_M_isCompared, 3, 9)
def k_M_compare : List En_ := [(0, .iload_n 1, 1, 0, 0, 0, []), (1, .iconst 1, 1, 0, 0, 0, []), (2, .if_icmp .ne 15, 3, 17, 0, 0, []), (5, .aload_n 0, 1, 0, 0, 0, []), (6, .iload_n 2, 1, 0, 0, 0, []), (7, .invokevirtual 80, 3, 105, 2, 816, [(0, 8)]), (10, .aload_n 0, 1, 0, 0, 0, []), (11, .iload_n 3, 1, 0, 0, 0, []), (12, .invokevirtual 80, 3, 105, 2, 816, [(0, 8)]), (15, .isub, 1, 0, 0, 0, []), (16, .ireturn, 1, 0, 0, 0, []), (17, .aload_n 0, 1, 0, 0, 0, []), (18, .getfield 7, 3, 8, 0, 664, []), (21, .iload_n 2, 1, 0, 0, 0, []), (22, .iaload, 1, 0, 0, 0, []), (23, .aload_n 0, 1, 0, 0, 0, []), (24, .getfield 7, 3, 8, 0, 664, []), (27, .iload_n 3, 1, 0, 0, 0, []), (28, .iaload, 1, 0, 0, 0, []), (29, .if_icmp .ge 12, 3, 41, 0, 0, []), (32, .aload_n 0, 1, 0, 0, 0, []), (33, .getfield 7, 3, 8, 0, 664, []), (36, .iload_n 2, 1, 0, 0, 0, []), (37, .iaload, 1, 0, 0, 0, []), (38, .goto 9, 3, 47, 0, 0, []), (41, .aload_n 0, 1, 0, 0, 0, []), (42, .getfield 7, 3, 8, 0, 664, []), (45, .iload_n 3, 1, 0, 0, 0, []), (46, .iaload, 1, 0, 0, 0, []), (47, .istore 4, 2, 0, 0, 0, []), (49, .iconst 0, 1, 0, 0, 0, []), (50, .istore 5, 2, 0, 0, 0, []), (52, .iconst 1, 1, 0, 0, 0, []), (53, .istore 6, 2, 0, 0, 0, []), (55, .iload 6, 2, 0, 0, 0, []), (57, .iload 4, 2, 0, 0, 0, []), (59, .if_icmp .gt 35, 3, 94, 0, 0, []), (62, .iload 5, 2, 0, 0, 0, []), (64, .ifCond .ne 30, 3, 94, 0, 0, []), (67, .aload_n 0, 1, 0, 0, 0, []), (68, .getfield 7, 3, 8, 0, 664, []), (71, .iload_n 2, 1, 0, 0, 0, []), (72, .iload 6, 2, 0, 0, 0, []), (74, .iadd, 1, 0, 0, 0, []), (75, .iaload, 1, 0, 0, 0, []), (76, .aload_n 0, 1, 0, 0, 0, []), (77, .getfield 7, 3, 8, 0, 664, []), (80, .iload_n 3, 1, 0, 0, 0, []), (81, .iload 6, 2, 0, 0, 0, []), (83, .iadd, 1, 0, 0, 0, []), (84, .iaload, 1, 0, 0, 0, []), (85, .isub, 1, 0, 0, 0, []), (86, .istore 5, 2, 0, 0, 0, []), (88, .iinc 6 1, 3, 0, 0, 0, []), (91, .goto (-36), 3, 55, 0, 0, []), (94, .iload 5, 2, 0, 0, 0, []), (96, .ifCond .eq 8, 3, 104, 0, 0, []), (99, .iload 5, 2, 0, 0, 0, []), (101, .goto 16, 3, 117, 0, 0, []), (104, .aload_n 0, 1, 0, 0, 0, []), (105, .getfield 7, 3, 8, 0, 664, []), (108, .iload_n 2, 1, 0, 0, 0, []), (109, .iaload, 1, 0, 0, 0, []), (110, .aload_n 0, 1, 0, 0, 0, []), (111, .getfield 7, 3, 8, 0, 664, []), (114, .iload_n 3, 1, 0, 0, 0, []), (115, .iaload, 1, 0, 0, 0, []), (116, .isub, 1, 0, 0, 0, []), (117, .ireturn, 1, 0, 0, 0, [])]
def m_M_compare : Mt_ := (k_M_compare, 1)
def mt_M_compare : Mt_ × Nat × Nat := (m_M_compare, 4, 7)
def k_M_isLong : List En_ := [(0, .sipush 1120, 3, 0, 0, 0, []), (3, .bipush 96, 2, 0, 0, 0, []), (5, .iload_n 2, 1, 0, 0, 0, []), (6, .imul, 1, 0, 0, 0, []), (7, .iadd, 1, 0, 0, 0, []), (8, .istore_n 3, 1, 0, 0, 0, []), (9, .aload_n 0, 1, 0, 0, 0, []), (10, .bipush 64, 2, 0, 0, 0, []), (12, .iload_n 1, 1, 0, 0, 0, []), (13, .imul, 1, 0, 0, 0, []), (14, .iconst 3, 1, 0, 0, 0, []), (15, .iload_n 2, 1, 0, 0, 0, []), (16, .iadd, 1, 0, 0, 0, []), (17, .invokevirtual 139, 3, 115, 3, 858, [(0, 8)]), (20, .istore 4, 2, 0, 0, 0, []), (22, .iconst 0, 1, 0, 0, 0, []), (23, .istore 5, 2, 0, 0, 0, []), (25, .iconst 0, 1, 0, 0, 0, []), (26, .istore 6, 2, 0, 0, 0, []), (28, .iload 6, 2, 0, 0, 0, []), (30, .iload 4, 2, 0, 0, 0, []), (32, .if_icmp .ge 87, 3, 119, 0, 0, []), (35, .aload_n 0, 1, 0, 0, 0, []), (36, .iconst 0, 1, 0, 0, 0, []), (37, .putfield 125, 3, 8, 13, 677, []), (40, .aload_n 0, 1, 0, 0, 0, []), (41, .getfield 35, 3, 8, 14, 678, []), (44, .iload 6, 2, 0, 0, 0, []), (46, .iaload, 1, 0, 0, 0, []), (47, .iconst 4, 1, 0, 0, 0, []), (48, .if_icmp .ne 18, 3, 66, 0, 0, []), (51, .aload_n 0, 1, 0, 0, 0, []), (52, .aload_n 0, 1, 0, 0, 0, []), (53, .getfield 38, 3, 8, 15, 679, []), (56, .iload 6, 2, 0, 0, 0, []), (58, .iaload, 1, 0, 0, 0, []), (59, .iconst 3, 1, 0, 0, 0, []), (60, .iload_n 2, 1, 0, 0, 0, []), (61, .iadd, 1, 0, 0, 0, []), (62, .iconst (-1), 1, 0, 0, 0, []), (63, .invokevirtual 132, 3, 119, 4, 874, [(0, 8)]), (66, .iload 5, 2, 0, 0, 0, []), (68, .ifCond .ne 38, 3, 106, 0, 0, []), (71, .aload_n 0, 1, 0, 0, 0, []), (72, .getfield 35, 3, 8, 14, 678, []), (75, .iload 6, 2, 0, 0, 0, []), (77, .iaload, 1, 0, 0, 0, []), (78, .iconst 4, 1, 0, 0, 0, []), (79, .if_icmp .ne 31, 3, 110, 0, 0, []), (82, .aload_n 0, 1, 0, 0, 0, []), (83, .getfield 7, 3, 8, 0, 664, []), (86, .iload_n 3, 1, 0, 0, 0, []), (87, .iaload, 1, 0, 0, 0, []), (88, .iconst 1, 1, 0, 0, 0, []), (89, .if_icmp .ne 21, 3, 110, 0, 0, []), (92, .aload_n 0, 1, 0, 0, 0, []), (93, .getfield 125, 3, 8, 13, 677, []), (96, .aload_n 0, 1, 0, 0, 0, []), (97, .iload_n 3, 1, 0, 0, 0, []), (98, .iconst 1, 1, 0, 0, 0, []), (99, .iadd, 1, 0, 0, 0, []), (100, .invokevirtual 80, 3, 105, 2, 816, [(0, 8)]), (103, .if_icmp .ne 7, 3, 110, 0, 0, []), (106, .iconst 1, 1, 0, 0, 0, []), (107, .goto 4, 3, 111, 0, 0, []), (110, .iconst 0, 1, 0, 0, 0, []), (111, .istore 5, 2, 0, 0, 0, []), (113, .iinc 6 1, 3, 0, 0, 0, []), (116, .goto (-88), 3, 28, 0, 0, []), (119, .iload 5, 2, 0, 0, 0, []), (121, .ireturn, 1, 0, 0, 0, [])]
def m_M_isLong : Mt_ := (k_M_isLong, 2)
def mt_M_isLong : Mt_ × Nat × Nat := (m_M_isLong, 3, 7)
def k_M_found : List En_ := [(0, .iload_n 1, 1, 0, 0, 0, []), (1, .iconst 0, 1, 0, 0, 0, []), (2, .aload_n 0, 1, 0, 0, 0, []), (3, .getfield 183, 3, 8, 9, 673, []), (6, .iconst 1, 1, 0, 0, 0, []), (7, .isub, 1, 0, 0, 0, []), (8, .invokestatic 59, 3, 87, 3, 746, [(0, 8)]), (11, .ifCond .eq 12, 3, 23, 0, 0, []), (14, .aload_n 0, 1, 0, 0, 0, []), (15, .getfield 28, 3, 8, 10, 674, []), (18, .iload_n 1, 1, 0, 0, 0, []), (19, .iaload, 1, 0, 0, 0, []), (20, .goto 4, 3, 24, 0, 0, []), (23, .iconst (-1), 1, 0, 0, 0, []), (24, .ireturn, 1, 0, 0, 0, [])]
def m_M_found : Mt_ := (k_M_found, 1)
def mt_M_found : Mt_ × Nat × Nat := (m_M_found, 2, 2)
def k_M_examined : List En_ := [(0, .aload_n 0, 1, 0, 0, 0, []), (1, .getfield 174, 3, 8, 11, 675, []), (4, .ireturn, 1, 0, 0, 0, [])]
def m_M_examined : Mt_ := (k_M_examined, 1)
def mt_M_examined : Mt_ × Nat × Nat := (m_M_examined, 1, 1)
def k_M_change : List En_ := [(0, .iload_n 1, 1, 0, 0, 0, []), (1, .iconst 1, 1, 0, 0, 0, []), (2, .if_icmp .ne 7, 3, 9, 0, 0, []), (5, .iconst (-1), 1, 0, 0, 0, []), (6, .goto 19, 3, 25, 0, 0, []), (9, .aload_n 0, 1, 0, 0, 0, []), (10, .iconst 0, 1, 0, 0, 0, []), (11, .sipush 1024, 3, 0, 0, 0, []), (14, .sipush 1024, 3, 0, 0, 0, []), (17, .aload_n 0, 1, 0, 0, 0, []), (18, .getfield 63, 3, 8, 1, 665, []), (21, .iadd, 1, 0, 0, 0, []), (22, .invokevirtual 106, 3, 97, 4, 784, [(0, 8)]), (25, .istore_n 2, 1, 0, 0, 0, []), (26, .iload_n 2, 1, 0, 0, 0, []), (27, .ifCond .lt 11, 3, 38, 0, 0, []), (30, .iconst (-1), 1, 0, 0, 0, []), (31, .iload_n 2, 1, 0, 0, 0, []), (32, .sipush 1024, 3, 0, 0, 0, []), (35, .isub, 1, 0, 0, 0, []), (36, .isub, 1, 0, 0, 0, []), (37, .ireturn, 1, 0, 0, 0, []), (38, .aload_n 0, 1, 0, 0, 0, []), (39, .getfield 19, 3, 8, 5, 669, []), (42, .iconst 2, 1, 0, 0, 0, []), (43, .iaload, 1, 0, 0, 0, []), (44, .iconst 1, 1, 0, 0, 0, []), (45, .if_icmp .ne 41, 3, 86, 0, 0, []), (48, .aload_n 0, 1, 0, 0, 0, []), (49, .getfield 22, 3, 8, 6, 670, []), (52, .bipush 24, 2, 0, 0, 0, []), (54, .iaload, 1, 0, 0, 0, []), (55, .bipush 105, 2, 0, 0, 0, []), (57, .if_icmp .ne 29, 3, 86, 0, 0, []), (60, .aload_n 0, 1, 0, 0, 0, []), (61, .getfield 22, 3, 8, 6, 670, []), (64, .bipush 25, 2, 0, 0, 0, []), (66, .iaload, 1, 0, 0, 0, []), (67, .bipush 100, 2, 0, 0, 0, []), (69, .if_icmp .ne 17, 3, 86, 0, 0, []), (72, .aload_n 0, 1, 0, 0, 0, []), (73, .getfield 22, 3, 8, 6, 670, []), (76, .bipush 26, 2, 0, 0, 0, []), (78, .iaload, 1, 0, 0, 0, []), (79, .ifCond .ne 7, 3, 86, 0, 0, []), (82, .iconst 1, 1, 0, 0, 0, []), (83, .goto 4, 3, 87, 0, 0, []), (86, .iconst 0, 1, 0, 0, 0, []), (87, .istore_n 3, 1, 0, 0, 0, []), (88, .iload_n 1, 1, 0, 0, 0, []), (89, .iconst 0, 1, 0, 0, 0, []), (90, .iconst 4, 1, 0, 0, 0, []), (91, .invokestatic 59, 3, 87, 3, 746, [(0, 8)]), (94, .ifCond .eq 16, 3, 110, 0, 0, []), (97, .aload_n 0, 1, 0, 0, 0, []), (98, .getfield 19, 3, 8, 5, 669, []), (101, .iconst 2, 1, 0, 0, 0, []), (102, .iaload, 1, 0, 0, 0, []), (103, .ifCond .eq 7, 3, 110, 0, 0, []), (106, .iload_n 3, 1, 0, 0, 0, []), (107, .ifCond .eq 7, 3, 114, 0, 0, []), (110, .sipush (-1000), 3, 0, 0, 0, []), (113, .ireturn, 1, 0, 0, 0, []), (114, .aload_n 0, 1, 0, 0, 0, []), (115, .invokevirtual 180, 3, 125, 1, 898, [(0, 8)]), (118, .iconst 0, 1, 0, 0, 0, []), (119, .istore 4, 2, 0, 0, 0, []), (121, .iconst 0, 1, 0, 0, 0, []), (122, .istore 5, 2, 0, 0, 0, []), (124, .iload 5, 2, 0, 0, 0, []), (126, .aload_n 0, 1, 0, 0, 0, []), (127, .getfield 103, 3, 8, 2, 666, []), (130, .if_icmp .ge 204, 3, 334, 0, 0, []), (133, .aload_n 0, 1, 0, 0, 0, []), (134, .aload_n 0, 1, 0, 0, 0, []), (135, .getfield 13, 3, 8, 3, 667, []), (138, .iload 5, 2, 0, 0, 0, []), (140, .iaload, 1, 0, 0, 0, []), (141, .putfield 189, 3, 8, 23, 686, []), (144, .iconst 0, 1, 0, 0, 0, []), (145, .istore 6, 2, 0, 0, 0, []), (147, .iload 6, 2, 0, 0, 0, []), (149, .aload_n 0, 1, 0, 0, 0, []), (150, .getfield 189, 3, 8, 23, 686, []), (153, .if_icmp .ge 33, 3, 186, 0, 0, []), (156, .aload_n 0, 1, 0, 0, 0, []), (157, .getfield 7, 3, 8, 0, 664, []), (160, .sipush 1408, 3, 0, 0, 0, []), (163, .iload 6, 2, 0, 0, 0, []), (165, .iadd, 1, 0, 0, 0, []), (166, .aload_n 0, 1, 0, 0, 0, []), (167, .getfield 7, 3, 8, 0, 664, []), (170, .bipush 64, 2, 0, 0, 0, []), (172, .iload 5, 2, 0, 0, 0, []), (174, .imul, 1, 0, 0, 0, []), (175, .iload 6, 2, 0, 0, 0, []), (177, .iadd, 1, 0, 0, 0, []), (178, .iaload, 1, 0, 0, 0, []), (179, .iastore, 1, 0, 0, 0, []), (180, .iinc 6 1, 3, 0, 0, 0, []), (183, .goto (-36), 3, 147, 0, 0, []), (186, .aload_n 0, 1, 0, 0, 0, []), (187, .getfield 31, 3, 8, 12, 676, []), (190, .iload 5, 2, 0, 0, 0, []), (192, .baload, 1, 0, 0, 0, []), (193, .ifCond .eq 43, 3, 236, 0, 0, []), (196, .aload_n 0, 1, 0, 0, 0, []), (197, .iload_n 1, 1, 0, 0, 0, []), (198, .invokevirtual 225, 3, 136, 2, 942, [(0, 8)]), (201, .ifCond .eq 35, 3, 236, 0, 0, []), (204, .aload_n 0, 1, 0, 0, 0, []), (205, .getfield 189, 3, 8, 23, 686, []), (208, .bipush 60, 2, 0, 0, 0, []), (210, .if_icmp .gt 26, 3, 236, 0, 0, []), (213, .aload_n 0, 1, 0, 0, 0, []), (214, .iconst 3, 1, 0, 0, 0, []), (215, .sipush 1408, 3, 0, 0, 0, []), (218, .sipush 1408, 3, 0, 0, 0, []), (221, .aload_n 0, 1, 0, 0, 0, []), (222, .getfield 189, 3, 8, 23, 686, []), (225, .iadd, 1, 0, 0, 0, []), (226, .invokevirtual 106, 3, 97, 4, 784, [(0, 8)]), (229, .ifCond .ge 7, 3, 236, 0, 0, []), (232, .iconst 1, 1, 0, 0, 0, []), (233, .goto 4, 3, 237, 0, 0, []), (236, .iconst 0, 1, 0, 0, 0, []), (237, .istore 6, 2, 0, 0, 0, []), (239, .iconst 0, 1, 0, 0, 0, []), (240, .istore 7, 2, 0, 0, 0, []), (242, .iload 7, 2, 0, 0, 0, []), (244, .aload_n 0, 1, 0, 0, 0, []), (245, .getfield 189, 3, 8, 23, 686, []), (248, .if_icmp .ge 38, 3, 286, 0, 0, []), (251, .iload 6, 2, 0, 0, 0, []), (253, .ifCond .eq 33, 3, 286, 0, 0, []), (256, .aload_n 0, 1, 0, 0, 0, []), (257, .getfield 7, 3, 8, 0, 664, []), (260, .bipush 64, 2, 0, 0, 0, []), (262, .iload 5, 2, 0, 0, 0, []), (264, .imul, 1, 0, 0, 0, []), (265, .iload 7, 2, 0, 0, 0, []), (267, .iadd, 1, 0, 0, 0, []), (268, .aload_n 0, 1, 0, 0, 0, []), (269, .getfield 7, 3, 8, 0, 664, []), (272, .sipush 1408, 3, 0, 0, 0, []), (275, .iload 7, 2, 0, 0, 0, []), (277, .iadd, 1, 0, 0, 0, []), (278, .iaload, 1, 0, 0, 0, []), (279, .iastore, 1, 0, 0, 0, []), (280, .iinc 7 1, 3, 0, 0, 0, []), (283, .goto (-41), 3, 242, 0, 0, []), (286, .aload_n 0, 1, 0, 0, 0, []), (287, .getfield 13, 3, 8, 3, 667, []), (290, .iload 5, 2, 0, 0, 0, []), (292, .iload 6, 2, 0, 0, 0, []), (294, .ifCond .eq 10, 3, 304, 0, 0, []), (297, .aload_n 0, 1, 0, 0, 0, []), (298, .getfield 189, 3, 8, 23, 686, []), (301, .goto 10, 3, 311, 0, 0, []), (304, .aload_n 0, 1, 0, 0, 0, []), (305, .getfield 13, 3, 8, 3, 667, []), (308, .iload 5, 2, 0, 0, 0, []), (310, .iaload, 1, 0, 0, 0, []), (311, .iastore, 1, 0, 0, 0, []), (312, .iload 6, 2, 0, 0, 0, []), (314, .ifCond .eq 10, 3, 324, 0, 0, []), (317, .iload 4, 2, 0, 0, 0, []), (319, .iconst 1, 1, 0, 0, 0, []), (320, .iadd, 1, 0, 0, 0, []), (321, .goto 5, 3, 326, 0, 0, []), (324, .iload 4, 2, 0, 0, 0, []), (326, .istore 4, 2, 0, 0, 0, []), (328, .iinc 5 1, 3, 0, 0, 0, []), (331, .goto (-207), 3, 124, 0, 0, []), (334, .aload_n 0, 1, 0, 0, 0, []), (335, .iconst 0, 1, 0, 0, 0, []), (336, .putfield 63, 3, 8, 1, 665, []), (339, .iload 4, 2, 0, 0, 0, []), (341, .ireturn, 1, 0, 0, 0, [])]
def m_M_change : Mt_ := (k_M_change, 1)
def mt_M_change : Mt_ × Nat × Nat := (m_M_change, 2, 8)
def k_M_operate : List En_ := [(0, .aload_n 0, 1, 0, 0, 0, []), (1, .invokevirtual 209, 3, 137, 1, 946, [(0, 8)]), (4, .istore_n 2, 1, 0, 0, 0, []), (5, .iload_n 2, 1, 0, 0, 0, []), (6, .ifCond .ne 5, 3, 11, 0, 0, []), (9, .iconst 0, 1, 0, 0, 0, []), (10, .ireturn, 1, 0, 0, 0, []), (11, .iload_n 2, 1, 0, 0, 0, []), (12, .aload_n 0, 1, 0, 0, 0, []), (13, .getfield 19, 3, 8, 5, 669, []), (16, .iconst 2, 1, 0, 0, 0, []), (17, .iaload, 1, 0, 0, 0, []), (18, .if_icmp .ne 7, 3, 25, 0, 0, []), (21, .iconst 1, 1, 0, 0, 0, []), (22, .goto 4, 3, 26, 0, 0, []), (25, .iconst 0, 1, 0, 0, 0, []), (26, .istore_n 3, 1, 0, 0, 0, []), (27, .iload_n 3, 1, 0, 0, 0, []), (28, .ifCond .eq 22, 3, 50, 0, 0, []), (31, .aload_n 0, 1, 0, 0, 0, []), (32, .aload_n 0, 1, 0, 0, 0, []), (33, .getfield 53, 3, 8, 21, 685, []), (36, .iload_n 2, 1, 0, 0, 0, []), (37, .iconst 1, 1, 0, 0, 0, []), (38, .isub, 1, 0, 0, 0, []), (39, .iaload, 1, 0, 0, 0, []), (40, .iconst 2, 1, 0, 0, 0, []), (41, .iload_n 2, 1, 0, 0, 0, []), (42, .iconst 1, 1, 0, 0, 0, []), (43, .isub, 1, 0, 0, 0, []), (44, .invokevirtual 122, 3, 117, 4, 866, [(0, 8)]), (47, .goto 4, 3, 51, 0, 0, []), (50, .iconst (-1), 1, 0, 0, 0, []), (51, .istore 4, 2, 0, 0, 0, []), (53, .iload_n 1, 1, 0, 0, 0, []), (54, .iconst 2, 1, 0, 0, 0, []), (55, .if_icmp .ne 17, 3, 72, 0, 0, []), (58, .aload_n 0, 1, 0, 0, 0, []), (59, .getfield 7, 3, 8, 0, 664, []), (62, .sipush 1024, 3, 0, 0, 0, []), (65, .iaload, 1, 0, 0, 0, []), (66, .iconst 1, 1, 0, 0, 0, []), (67, .if_icmp .eq 5, 3, 72, 0, 0, []), (70, .iconst 0, 1, 0, 0, 0, []), (71, .ireturn, 1, 0, 0, 0, []), (72, .iload 4, 2, 0, 0, 0, []), (74, .ifCond .ge 23, 3, 97, 0, 0, []), (77, .iload_n 1, 1, 0, 0, 0, []), (78, .iconst 1, 1, 0, 0, 0, []), (79, .if_icmp .eq 16, 3, 95, 0, 0, []), (82, .iload_n 1, 1, 0, 0, 0, []), (83, .iconst 4, 1, 0, 0, 0, []), (84, .if_icmp .eq 11, 3, 95, 0, 0, []), (87, .aload_n 0, 1, 0, 0, 0, []), (88, .iload_n 2, 1, 0, 0, 0, []), (89, .iconst 1, 1, 0, 0, 0, []), (90, .isub, 1, 0, 0, 0, []), (91, .iload_n 1, 1, 0, 0, 0, []), (92, .invokevirtual 213, 3, 138, 3, 950, [(0, 8)]), (95, .iconst 1, 1, 0, 0, 0, []), (96, .ireturn, 1, 0, 0, 0, []), (97, .aload_n 0, 1, 0, 0, 0, []), (98, .iload 4, 2, 0, 0, 0, []), (100, .iconst 1, 1, 0, 0, 0, []), (101, .iadd, 1, 0, 0, 0, []), (102, .invokevirtual 90, 3, 102, 2, 804, [(0, 8)]), (105, .istore 5, 2, 0, 0, 0, []), (107, .iload_n 1, 1, 0, 0, 0, []), (108, .ifCond .ne 9, 3, 117, 0, 0, []), (111, .aload_n 0, 1, 0, 0, 0, []), (112, .iload 4, 2, 0, 0, 0, []), (114, .invokevirtual 216, 3, 144, 2, 974, [(0, 8)]), (117, .iload_n 1, 1, 0, 0, 0, []), (118, .iconst 2, 1, 0, 0, 0, []), (119, .if_icmp .ne 10, 3, 129, 0, 0, []), (122, .aload_n 0, 1, 0, 0, 0, []), (123, .iload 4, 2, 0, 0, 0, []), (125, .invokevirtual 219, 3, 145, 2, 978, [(0, 8)]), (128, .ireturn, 1, 0, 0, 0, []), (129, .iload_n 1, 1, 0, 0, 0, []), (130, .iconst 1, 1, 0, 0, 0, []), (131, .if_icmp .ne 33, 3, 164, 0, 0, []), (134, .aload_n 0, 1, 0, 0, 0, []), (135, .iconst 0, 1, 0, 0, 0, []), (136, .putfield 186, 3, 8, 25, 688, []), (139, .aload_n 0, 1, 0, 0, 0, []), (140, .aload_n 0, 1, 0, 0, 0, []), (141, .getfield 7, 3, 8, 0, 664, []), (144, .iload 4, 2, 0, 0, 0, []), (146, .iaload, 1, 0, 0, 0, []), (147, .iload 5, 2, 0, 0, 0, []), (149, .invokevirtual 74, 3, 103, 3, 808, [(0, 8)]), (152, .istore 6, 2, 0, 0, 0, []), (154, .aload_n 0, 1, 0, 0, 0, []), (155, .iload 4, 2, 0, 0, 0, []), (157, .iload 6, 2, 0, 0, 0, []), (159, .iload_n 2, 1, 0, 0, 0, []), (160, .iconst (-1), 1, 0, 0, 0, []), (161, .invokevirtual 206, 3, 143, 5, 970, [(0, 8)]), (164, .iload_n 1, 1, 0, 0, 0, []), (165, .iconst 3, 1, 0, 0, 0, []), (166, .if_icmp .ge 5, 3, 171, 0, 0, []), (169, .iconst 1, 1, 0, 0, 0, []), (170, .ireturn, 1, 0, 0, 0, []), (171, .aload_n 0, 1, 0, 0, 0, []), (172, .getfield 7, 3, 8, 0, 664, []), (175, .iload 4, 2, 0, 0, 0, []), (177, .iaload, 1, 0, 0, 0, []), (178, .iconst 4, 1, 0, 0, 0, []), (179, .if_icmp .eq 5, 3, 184, 0, 0, []), (182, .iconst 0, 1, 0, 0, 0, []), (183, .ireturn, 1, 0, 0, 0, []), (184, .iload_n 1, 1, 0, 0, 0, []), (185, .iconst 4, 1, 0, 0, 0, []), (186, .if_icmp .ne 11, 3, 197, 0, 0, []), (189, .aload_n 0, 1, 0, 0, 0, []), (190, .iload 5, 2, 0, 0, 0, []), (192, .invokevirtual 222, 3, 146, 2, 982, [(0, 8)]), (195, .iconst 1, 1, 0, 0, 0, []), (196, .ireturn, 1, 0, 0, 0, []), (197, .aload_n 0, 1, 0, 0, 0, []), (198, .iconst 0, 1, 0, 0, 0, []), (199, .putfield 186, 3, 8, 25, 688, []), (202, .aload_n 0, 1, 0, 0, 0, []), (203, .iconst 1, 1, 0, 0, 0, []), (204, .invokevirtual 202, 3, 142, 2, 966, [(0, 8)]), (207, .iload 5, 2, 0, 0, 0, []), (209, .aload_n 0, 1, 0, 0, 0, []), (210, .getfield 7, 3, 8, 0, 664, []), (213, .iload 5, 2, 0, 0, 0, []), (215, .iaload, 1, 0, 0, 0, []), (216, .iadd, 1, 0, 0, 0, []), (217, .iconst 1, 1, 0, 0, 0, []), (218, .isub, 1, 0, 0, 0, []), (219, .istore 6, 2, 0, 0, 0, []), (221, .aload_n 0, 1, 0, 0, 0, []), (222, .iload 6, 2, 0, 0, 0, []), (224, .iload 6, 2, 0, 0, 0, []), (226, .iload_n 2, 1, 0, 0, 0, []), (227, .iload 5, 2, 0, 0, 0, []), (229, .invokevirtual 206, 3, 143, 5, 970, [(0, 8)]), (232, .iconst 1, 1, 0, 0, 0, []), (233, .ireturn, 1, 0, 0, 0, [])]
def m_M_operate : Mt_ := (k_M_operate, 2)
def mt_M_operate : Mt_ × Nat × Nat := (m_M_operate, 2, 7)
def k_M_go : List En_ := [(0, .aload_n 0, 1, 0, 0, 0, []), (1, .getfield 53, 3, 8, 21, 685, []), (4, .iconst 0, 1, 0, 0, 0, []), (5, .sipush 1408, 3, 0, 0, 0, []), (8, .iastore, 1, 0, 0, 0, []), (9, .iconst 1, 1, 0, 0, 0, []), (10, .istore_n 1, 1, 0, 0, 0, []), (11, .iconst 1, 1, 0, 0, 0, []), (12, .istore_n 2, 1, 0, 0, 0, []), (13, .iconst 0, 1, 0, 0, 0, []), (14, .istore_n 3, 1, 0, 0, 0, []), (15, .iload_n 3, 1, 0, 0, 0, []), (16, .aload_n 0, 1, 0, 0, 0, []), (17, .getfield 19, 3, 8, 5, 669, []), (20, .iconst 2, 1, 0, 0, 0, []), (21, .iaload, 1, 0, 0, 0, []), (22, .iconst 1, 1, 0, 0, 0, []), (23, .isub, 1, 0, 0, 0, []), (24, .if_icmp .ge 78, 3, 102, 0, 0, []), (27, .iload_n 2, 1, 0, 0, 0, []), (28, .ifCond .eq 74, 3, 102, 0, 0, []), (31, .aload_n 0, 1, 0, 0, 0, []), (32, .aload_n 0, 1, 0, 0, 0, []), (33, .getfield 53, 3, 8, 21, 685, []), (36, .iload_n 3, 1, 0, 0, 0, []), (37, .iaload, 1, 0, 0, 0, []), (38, .iconst 2, 1, 0, 0, 0, []), (39, .iload_n 3, 1, 0, 0, 0, []), (40, .invokevirtual 122, 3, 117, 4, 866, [(0, 8)]), (43, .istore 4, 2, 0, 0, 0, []), (45, .iload 4, 2, 0, 0, 0, []), (47, .ifCond .lt 16, 3, 63, 0, 0, []), (50, .aload_n 0, 1, 0, 0, 0, []), (51, .getfield 7, 3, 8, 0, 664, []), (54, .iload 4, 2, 0, 0, 0, []), (56, .iaload, 1, 0, 0, 0, []), (57, .iconst 3, 1, 0, 0, 0, []), (58, .if_icmp .eq 5, 3, 63, 0, 0, []), (61, .iconst 0, 1, 0, 0, 0, []), (62, .ireturn, 1, 0, 0, 0, []), (63, .iload 4, 2, 0, 0, 0, []), (65, .ifCond .lt 7, 3, 72, 0, 0, []), (68, .iconst 1, 1, 0, 0, 0, []), (69, .goto 4, 3, 73, 0, 0, []), (72, .iconst 0, 1, 0, 0, 0, []), (73, .istore_n 2, 1, 0, 0, 0, []), (74, .iload_n 2, 1, 0, 0, 0, []), (75, .ifCond .eq 21, 3, 96, 0, 0, []), (78, .aload_n 0, 1, 0, 0, 0, []), (79, .getfield 53, 3, 8, 21, 685, []), (82, .iload_n 1, 1, 0, 0, 0, []), (83, .aload_n 0, 1, 0, 0, 0, []), (84, .iload 4, 2, 0, 0, 0, []), (86, .iconst 1, 1, 0, 0, 0, []), (87, .iadd, 1, 0, 0, 0, []), (88, .invokevirtual 90, 3, 102, 2, 804, [(0, 8)]), (91, .iastore, 1, 0, 0, 0, []), (92, .iload_n 1, 1, 0, 0, 0, []), (93, .iconst 1, 1, 0, 0, 0, []), (94, .iadd, 1, 0, 0, 0, []), (95, .istore_n 1, 1, 0, 0, 0, []), (96, .iinc 3 1, 3, 0, 0, 0, []), (99, .goto (-84), 3, 15, 0, 0, []), (102, .iload_n 1, 1, 0, 0, 0, []), (103, .ireturn, 1, 0, 0, 0, [])]
def m_M_go : Mt_ := (k_M_go, 1)
def mt_M_go : Mt_ × Nat × Nat := (m_M_go, 1, 5)
def k_M_arrive : List En_ := [(0, .aload_n 0, 1, 0, 0, 0, []), (1, .getfield 19, 3, 8, 5, 669, []), (4, .iconst 2, 1, 0, 0, 0, []), (5, .iaload, 1, 0, 0, 0, []), (6, .iconst 1, 1, 0, 0, 0, []), (7, .isub, 1, 0, 0, 0, []), (8, .istore_n 3, 1, 0, 0, 0, []), (9, .iload_n 2, 1, 0, 0, 0, []), (10, .iconst 3, 1, 0, 0, 0, []), (11, .if_icmp .ne 7, 3, 18, 0, 0, []), (14, .iconst 1, 1, 0, 0, 0, []), (15, .goto 4, 3, 19, 0, 0, []), (18, .iconst 0, 1, 0, 0, 0, []), (19, .istore 4, 2, 0, 0, 0, []), (21, .aload_n 0, 1, 0, 0, 0, []), (22, .iload_n 3, 1, 0, 0, 0, []), (23, .invokevirtual 196, 3, 139, 2, 954, [(0, 8)]), (26, .iload 4, 2, 0, 0, 0, []), (28, .ifCond .eq 12, 3, 40, 0, 0, []), (31, .aload_n 0, 1, 0, 0, 0, []), (32, .getfield 63, 3, 8, 1, 665, []), (35, .iconst 2, 1, 0, 0, 0, []), (36, .iadd, 1, 0, 0, 0, []), (37, .goto 9, 3, 46, 0, 0, []), (40, .aload_n 0, 1, 0, 0, 0, []), (41, .getfield 63, 3, 8, 1, 665, []), (44, .iconst 1, 1, 0, 0, 0, []), (45, .isub, 1, 0, 0, 0, []), (46, .iadd, 1, 0, 0, 0, []), (47, .istore 5, 2, 0, 0, 0, []), (49, .aload_n 0, 1, 0, 0, 0, []), (50, .iconst 0, 1, 0, 0, 0, []), (51, .putfield 186, 3, 8, 25, 688, []), (54, .iload_n 1, 1, 0, 0, 0, []), (55, .istore 6, 2, 0, 0, 0, []), (57, .iload 6, 2, 0, 0, 0, []), (59, .iload_n 3, 1, 0, 0, 0, []), (60, .if_icmp .ge 59, 3, 119, 0, 0, []), (63, .iload 5, 2, 0, 0, 0, []), (65, .istore 7, 2, 0, 0, 0, []), (67, .iload 6, 2, 0, 0, 0, []), (69, .iconst 1, 1, 0, 0, 0, []), (70, .iadd, 1, 0, 0, 0, []), (71, .istore 8, 2, 0, 0, 0, []), (73, .iload 8, 2, 0, 0, 0, []), (75, .iload_n 3, 1, 0, 0, 0, []), (76, .if_icmp .ge 22, 3, 98, 0, 0, []), (79, .iload 7, 2, 0, 0, 0, []), (81, .aload_n 0, 1, 0, 0, 0, []), (82, .iload 8, 2, 0, 0, 0, []), (84, .invokevirtual 196, 3, 139, 2, 954, [(0, 8)]), (87, .iadd, 1, 0, 0, 0, []), (88, .iconst 2, 1, 0, 0, 0, []), (89, .iadd, 1, 0, 0, 0, []), (90, .istore 7, 2, 0, 0, 0, []), (92, .iinc 8 1, 3, 0, 0, 0, []), (95, .goto (-22), 3, 73, 0, 0, []), (98, .aload_n 0, 1, 0, 0, 0, []), (99, .iconst 3, 1, 0, 0, 0, []), (100, .iload 6, 2, 0, 0, 0, []), (102, .invokevirtual 199, 3, 140, 3, 958, [(0, 8)]), (105, .aload_n 0, 1, 0, 0, 0, []), (106, .iload 7, 2, 0, 0, 0, []), (108, .iconst 2, 1, 0, 0, 0, []), (109, .iadd, 1, 0, 0, 0, []), (110, .invokevirtual 192, 3, 141, 2, 962, [(0, 8)]), (113, .iinc 6 1, 3, 0, 0, 0, []), (116, .goto (-59), 3, 57, 0, 0, []), (119, .aload_n 0, 1, 0, 0, 0, []), (120, .iload 4, 2, 0, 0, 0, []), (122, .ifCond .eq 7, 3, 129, 0, 0, []), (125, .iconst 4, 1, 0, 0, 0, []), (126, .goto 11, 3, 137, 0, 0, []), (129, .aload_n 0, 1, 0, 0, 0, []), (130, .getfield 7, 3, 8, 0, 664, []), (133, .sipush 1024, 3, 0, 0, 0, []), (136, .iaload, 1, 0, 0, 0, []), (137, .iload_n 3, 1, 0, 0, 0, []), (138, .invokevirtual 199, 3, 140, 3, 958, [(0, 8)]), (141, .iload 4, 2, 0, 0, 0, []), (143, .ifCond .eq 13, 3, 156, 0, 0, []), (146, .aload_n 0, 1, 0, 0, 0, []), (147, .aload_n 0, 1, 0, 0, 0, []), (148, .getfield 63, 3, 8, 1, 665, []), (151, .iconst 2, 1, 0, 0, 0, []), (152, .iadd, 1, 0, 0, 0, []), (153, .invokevirtual 192, 3, 141, 2, 962, [(0, 8)]), (156, .aload_n 0, 1, 0, 0, 0, []), (157, .iload 4, 2, 0, 0, 0, []), (159, .invokevirtual 202, 3, 142, 2, 966, [(0, 8)]), (162, .iload 4, 2, 0, 0, 0, []), (164, .ifCond .eq 9, 3, 173, 0, 0, []), (167, .iload_n 1, 1, 0, 0, 0, []), (168, .iconst 1, 1, 0, 0, 0, []), (169, .isub, 1, 0, 0, 0, []), (170, .goto 4, 3, 174, 0, 0, []), (173, .iload_n 1, 1, 0, 0, 0, []), (174, .istore 6, 2, 0, 0, 0, []), (176, .iload 6, 2, 0, 0, 0, []), (178, .iload_n 3, 1, 0, 0, 0, []), (179, .if_icmp .ge 14, 3, 193, 0, 0, []), (182, .aload_n 0, 1, 0, 0, 0, []), (183, .iconst 0, 1, 0, 0, 0, []), (184, .invokevirtual 192, 3, 141, 2, 962, [(0, 8)]), (187, .iinc 6 1, 3, 0, 0, 0, []), (190, .goto (-14), 3, 176, 0, 0, []), (193, .aload_n 0, 1, 0, 0, 0, []), (194, .getfield 53, 3, 8, 21, 685, []), (197, .iload_n 1, 1, 0, 0, 0, []), (198, .iaload, 1, 0, 0, 0, []), (199, .aload_n 0, 1, 0, 0, 0, []), (200, .getfield 7, 3, 8, 0, 664, []), (203, .aload_n 0, 1, 0, 0, 0, []), (204, .getfield 53, 3, 8, 21, 685, []), (207, .iload_n 1, 1, 0, 0, 0, []), (208, .iaload, 1, 0, 0, 0, []), (209, .iaload, 1, 0, 0, 0, []), (210, .iadd, 1, 0, 0, 0, []), (211, .iconst 1, 1, 0, 0, 0, []), (212, .isub, 1, 0, 0, 0, []), (213, .istore 6, 2, 0, 0, 0, []), (215, .aload_n 0, 1, 0, 0, 0, []), (216, .iload 6, 2, 0, 0, 0, []), (218, .iload 6, 2, 0, 0, 0, []), (220, .iload_n 1, 1, 0, 0, 0, []), (221, .iconst 1, 1, 0, 0, 0, []), (222, .iadd, 1, 0, 0, 0, []), (223, .iconst (-1), 1, 0, 0, 0, []), (224, .invokevirtual 206, 3, 143, 5, 970, [(0, 8)]), (227, .return_, 1, 0, 0, 0, [])]
def m_M_arrive : Mt_ := (k_M_arrive, 0)
def mt_M_arrive : Mt_ × Nat × Nat := (m_M_arrive, 3, 9)
def k_M_nameSize : List En_ := [(0, .iconst 0, 1, 0, 0, 0, []), (1, .istore_n 2, 1, 0, 0, 0, []), (2, .iconst 0, 1, 0, 0, 0, []), (3, .istore_n 3, 1, 0, 0, 0, []), (4, .iload_n 3, 1, 0, 0, 0, []), (5, .iconst 4, 1, 0, 0, 0, []), (6, .if_icmp .ge 33, 3, 39, 0, 0, []), (9, .aload_n 0, 1, 0, 0, 0, []), (10, .getfield 22, 3, 8, 6, 670, []), (13, .bipush 24, 2, 0, 0, 0, []), (15, .iconst 4, 1, 0, 0, 0, []), (16, .iload_n 1, 1, 0, 0, 0, []), (17, .imul, 1, 0, 0, 0, []), (18, .iadd, 1, 0, 0, 0, []), (19, .iload_n 3, 1, 0, 0, 0, []), (20, .iadd, 1, 0, 0, 0, []), (21, .iaload, 1, 0, 0, 0, []), (22, .ifCond .eq 9, 3, 31, 0, 0, []), (25, .iload_n 2, 1, 0, 0, 0, []), (26, .iconst 1, 1, 0, 0, 0, []), (27, .iadd, 1, 0, 0, 0, []), (28, .goto 4, 3, 32, 0, 0, []), (31, .iload_n 2, 1, 0, 0, 0, []), (32, .istore_n 2, 1, 0, 0, 0, []), (33, .iinc 3 1, 3, 0, 0, 0, []), (36, .goto (-32), 3, 4, 0, 0, []), (39, .iload_n 2, 1, 0, 0, 0, []), (40, .iconst 2, 1, 0, 0, 0, []), (41, .iadd, 1, 0, 0, 0, []), (42, .ireturn, 1, 0, 0, 0, [])]
def m_M_nameSize : Mt_ := (k_M_nameSize, 1)
def mt_M_nameSize : Mt_ × Nat × Nat := (m_M_nameSize, 2, 4)
def k_M_addName : List En_ := [(0, .aload_n 0, 1, 0, 0, 0, []), (1, .iload_n 1, 1, 0, 0, 0, []), (2, .invokevirtual 192, 3, 141, 2, 962, [(0, 8)]), (5, .iconst 0, 1, 0, 0, 0, []), (6, .istore_n 3, 1, 0, 0, 0, []), (7, .iload_n 3, 1, 0, 0, 0, []), (8, .iconst 4, 1, 0, 0, 0, []), (9, .if_icmp .ge 35, 3, 44, 0, 0, []), (12, .aload_n 0, 1, 0, 0, 0, []), (13, .getfield 22, 3, 8, 6, 670, []), (16, .bipush 24, 2, 0, 0, 0, []), (18, .iconst 4, 1, 0, 0, 0, []), (19, .iload_n 2, 1, 0, 0, 0, []), (20, .imul, 1, 0, 0, 0, []), (21, .iadd, 1, 0, 0, 0, []), (22, .iload_n 3, 1, 0, 0, 0, []), (23, .iadd, 1, 0, 0, 0, []), (24, .iaload, 1, 0, 0, 0, []), (25, .istore 4, 2, 0, 0, 0, []), (27, .iload 4, 2, 0, 0, 0, []), (29, .ifCond .eq 9, 3, 38, 0, 0, []), (32, .aload_n 0, 1, 0, 0, 0, []), (33, .iload 4, 2, 0, 0, 0, []), (35, .invokevirtual 192, 3, 141, 2, 962, [(0, 8)]), (38, .iinc 3 1, 3, 0, 0, 0, []), (41, .goto (-34), 3, 7, 0, 0, []), (44, .aload_n 0, 1, 0, 0, 0, []), (45, .iconst 0, 1, 0, 0, 0, []), (46, .invokevirtual 192, 3, 141, 2, 962, [(0, 8)]), (49, .return_, 1, 0, 0, 0, [])]
def m_M_addName : Mt_ := (k_M_addName, 0)
def mt_M_addName : Mt_ × Nat × Nat := (m_M_addName, 3, 5)
def k_M_add : List En_ := [(0, .aload_n 0, 1, 0, 0, 0, []), (1, .getfield 56, 3, 8, 24, 687, []), (4, .aload_n 0, 1, 0, 0, 0, []), (5, .getfield 186, 3, 8, 25, 688, []), (8, .iload_n 1, 1, 0, 0, 0, []), (9, .iastore, 1, 0, 0, 0, []), (10, .aload_n 0, 1, 0, 0, 0, []), (11, .aload_n 0, 1, 0, 0, 0, []), (12, .getfield 186, 3, 8, 25, 688, []), (15, .iconst 1, 1, 0, 0, 0, []), (16, .iadd, 1, 0, 0, 0, []), (17, .putfield 186, 3, 8, 25, 688, []), (20, .return_, 1, 0, 0, 0, [])]
def m_M_add : Mt_ := (k_M_add, 0)
def mt_M_add : Mt_ × Nat × Nat := (m_M_add, 2, 2)
def k_M_addOperand : List En_ := [(0, .iload_n 1, 1, 0, 0, 0, []), (1, .ifCond .eq 7, 3, 8, 0, 0, []), (4, .iconst 0, 1, 0, 0, 0, []), (5, .goto 4, 3, 9, 0, 0, []), (8, .iconst 1, 1, 0, 0, 0, []), (9, .istore_n 2, 1, 0, 0, 0, []), (10, .iload_n 2, 1, 0, 0, 0, []), (11, .aload_n 0, 1, 0, 0, 0, []), (12, .getfield 63, 3, 8, 1, 665, []), (15, .if_icmp .ge 23, 3, 38, 0, 0, []), (18, .aload_n 0, 1, 0, 0, 0, []), (19, .aload_n 0, 1, 0, 0, 0, []), (20, .getfield 7, 3, 8, 0, 664, []), (23, .sipush 1024, 3, 0, 0, 0, []), (26, .iload_n 2, 1, 0, 0, 0, []), (27, .iadd, 1, 0, 0, 0, []), (28, .iaload, 1, 0, 0, 0, []), (29, .invokevirtual 192, 3, 141, 2, 962, [(0, 8)]), (32, .iinc 2 1, 3, 0, 0, 0, []), (35, .goto (-25), 3, 10, 0, 0, []), (38, .return_, 1, 0, 0, 0, [])]
def m_M_addOperand : Mt_ := (k_M_addOperand, 0)
def mt_M_addOperand : Mt_ × Nat × Nat := (m_M_addOperand, 2, 3)
def k_M_splice : List En_ := [(0, .aload_n 0, 1, 0, 0, 0, []), (1, .getfield 186, 3, 8, 25, 688, []), (4, .iload_n 2, 1, 0, 0, 0, []), (5, .iload_n 1, 1, 0, 0, 0, []), (6, .isub, 1, 0, 0, 0, []), (7, .isub, 1, 0, 0, 0, []), (8, .istore 5, 2, 0, 0, 0, []), (10, .sipush 1408, 3, 0, 0, 0, []), (13, .aload_n 0, 1, 0, 0, 0, []), (14, .getfield 189, 3, 8, 23, 686, []), (17, .iadd, 1, 0, 0, 0, []), (18, .istore 6, 2, 0, 0, 0, []), (20, .iload 5, 2, 0, 0, 0, []), (22, .ifCond .le 41, 3, 63, 0, 0, []), (25, .iload 6, 2, 0, 0, 0, []), (27, .iconst 1, 1, 0, 0, 0, []), (28, .isub, 1, 0, 0, 0, []), (29, .istore 7, 2, 0, 0, 0, []), (31, .iload 7, 2, 0, 0, 0, []), (33, .iload_n 2, 1, 0, 0, 0, []), (34, .if_icmp .lt 26, 3, 60, 0, 0, []), (37, .aload_n 0, 1, 0, 0, 0, []), (38, .getfield 7, 3, 8, 0, 664, []), (41, .iload 7, 2, 0, 0, 0, []), (43, .iload 5, 2, 0, 0, 0, []), (45, .iadd, 1, 0, 0, 0, []), (46, .aload_n 0, 1, 0, 0, 0, []), (47, .getfield 7, 3, 8, 0, 664, []), (50, .iload 7, 2, 0, 0, 0, []), (52, .iaload, 1, 0, 0, 0, []), (53, .iastore, 1, 0, 0, 0, []), (54, .iinc 7 (-1), 3, 0, 0, 0, []), (57, .goto (-26), 3, 31, 0, 0, []), (60, .goto 36, 3, 96, 0, 0, []), (63, .iload_n 2, 1, 0, 0, 0, []), (64, .istore 7, 2, 0, 0, 0, []), (66, .iload 7, 2, 0, 0, 0, []), (68, .iload 6, 2, 0, 0, 0, []), (70, .if_icmp .ge 26, 3, 96, 0, 0, []), (73, .aload_n 0, 1, 0, 0, 0, []), (74, .getfield 7, 3, 8, 0, 664, []), (77, .iload 7, 2, 0, 0, 0, []), (79, .iload 5, 2, 0, 0, 0, []), (81, .iadd, 1, 0, 0, 0, []), (82, .aload_n 0, 1, 0, 0, 0, []), (83, .getfield 7, 3, 8, 0, 664, []), (86, .iload 7, 2, 0, 0, 0, []), (88, .iaload, 1, 0, 0, 0, []), (89, .iastore, 1, 0, 0, 0, []), (90, .iinc 7 1, 3, 0, 0, 0, []), (93, .goto (-27), 3, 66, 0, 0, []), (96, .iconst 0, 1, 0, 0, 0, []), (97, .istore 7, 2, 0, 0, 0, []), (99, .iload 7, 2, 0, 0, 0, []), (101, .aload_n 0, 1, 0, 0, 0, []), (102, .getfield 186, 3, 8, 25, 688, []), (105, .if_icmp .ge 25, 3, 130, 0, 0, []), (108, .aload_n 0, 1, 0, 0, 0, []), (109, .getfield 7, 3, 8, 0, 664, []), (112, .iload_n 1, 1, 0, 0, 0, []), (113, .iload 7, 2, 0, 0, 0, []), (115, .iadd, 1, 0, 0, 0, []), (116, .aload_n 0, 1, 0, 0, 0, []), (117, .getfield 56, 3, 8, 24, 687, []), (120, .iload 7, 2, 0, 0, 0, []), (122, .iaload, 1, 0, 0, 0, []), (123, .iastore, 1, 0, 0, 0, []), (124, .iinc 7 1, 3, 0, 0, 0, []), (127, .goto (-28), 3, 99, 0, 0, []), (130, .aload_n 0, 1, 0, 0, 0, []), (131, .aload_n 0, 1, 0, 0, 0, []), (132, .getfield 189, 3, 8, 23, 686, []), (135, .iload 5, 2, 0, 0, 0, []), (137, .iadd, 1, 0, 0, 0, []), (138, .putfield 189, 3, 8, 23, 686, []), (141, .iconst 0, 1, 0, 0, 0, []), (142, .istore 7, 2, 0, 0, 0, []), (144, .iload 7, 2, 0, 0, 0, []), (146, .iload_n 3, 1, 0, 0, 0, []), (147, .if_icmp .ge 36, 3, 183, 0, 0, []), (150, .aload_n 0, 1, 0, 0, 0, []), (151, .getfield 7, 3, 8, 0, 664, []), (154, .aload_n 0, 1, 0, 0, 0, []), (155, .getfield 53, 3, 8, 21, 685, []), (158, .iload 7, 2, 0, 0, 0, []), (160, .iaload, 1, 0, 0, 0, []), (161, .aload_n 0, 1, 0, 0, 0, []), (162, .getfield 7, 3, 8, 0, 664, []), (165, .aload_n 0, 1, 0, 0, 0, []), (166, .getfield 53, 3, 8, 21, 685, []), (169, .iload 7, 2, 0, 0, 0, []), (171, .iaload, 1, 0, 0, 0, []), (172, .iaload, 1, 0, 0, 0, []), (173, .iload 5, 2, 0, 0, 0, []), (175, .iadd, 1, 0, 0, 0, []), (176, .iastore, 1, 0, 0, 0, []), (177, .iinc 7 1, 3, 0, 0, 0, []), (180, .goto (-36), 3, 144, 0, 0, []), (183, .iload 4, 2, 0, 0, 0, []), (185, .ifCond .lt 20, 3, 205, 0, 0, []), (188, .aload_n 0, 1, 0, 0, 0, []), (189, .getfield 7, 3, 8, 0, 664, []), (192, .iload 4, 2, 0, 0, 0, []), (194, .aload_n 0, 1, 0, 0, 0, []), (195, .getfield 7, 3, 8, 0, 664, []), (198, .iload 4, 2, 0, 0, 0, []), (200, .iaload, 1, 0, 0, 0, []), (201, .iload 5, 2, 0, 0, 0, []), (203, .iadd, 1, 0, 0, 0, []), (204, .iastore, 1, 0, 0, 0, []), (205, .return_, 1, 0, 0, 0, [])]
def m_M_splice : Mt_ := (k_M_splice, 0)
def mt_M_splice : Mt_ × Nat × Nat := (m_M_splice, 5, 8)
def k_M_setIt : List En_ := [(0, .aload_n 0, 1, 0, 0, 0, []), (1, .iload_n 1, 1, 0, 0, 0, []), (2, .iconst 1, 1, 0, 0, 0, []), (3, .iadd, 1, 0, 0, 0, []), (4, .invokevirtual 90, 3, 102, 2, 804, [(0, 8)]), (7, .istore_n 2, 1, 0, 0, 0, []), (8, .aload_n 0, 1, 0, 0, 0, []), (9, .aload_n 0, 1, 0, 0, 0, []), (10, .getfield 7, 3, 8, 0, 664, []), (13, .iload_n 1, 1, 0, 0, 0, []), (14, .iaload, 1, 0, 0, 0, []), (15, .iload_n 2, 1, 0, 0, 0, []), (16, .invokevirtual 74, 3, 103, 3, 808, [(0, 8)]), (19, .istore_n 3, 1, 0, 0, 0, []), (20, .aload_n 0, 1, 0, 0, 0, []), (21, .iconst 0, 1, 0, 0, 0, []), (22, .putfield 186, 3, 8, 25, 688, []), (25, .aload_n 0, 1, 0, 0, 0, []), (26, .iconst 0, 1, 0, 0, 0, []), (27, .invokevirtual 202, 3, 142, 2, 966, [(0, 8)]), (30, .aload_n 0, 1, 0, 0, 0, []), (31, .getfield 7, 3, 8, 0, 664, []), (34, .iload_n 1, 1, 0, 0, 0, []), (35, .aload_n 0, 1, 0, 0, 0, []), (36, .getfield 7, 3, 8, 0, 664, []), (39, .sipush 1024, 3, 0, 0, 0, []), (42, .iaload, 1, 0, 0, 0, []), (43, .iastore, 1, 0, 0, 0, []), (44, .aload_n 0, 1, 0, 0, 0, []), (45, .iload_n 2, 1, 0, 0, 0, []), (46, .iload_n 3, 1, 0, 0, 0, []), (47, .aload_n 0, 1, 0, 0, 0, []), (48, .getfield 19, 3, 8, 5, 669, []), (51, .iconst 2, 1, 0, 0, 0, []), (52, .iaload, 1, 0, 0, 0, []), (53, .iconst (-1), 1, 0, 0, 0, []), (54, .invokevirtual 206, 3, 143, 5, 970, [(0, 8)]), (57, .return_, 1, 0, 0, 0, [])]
def m_M_setIt : Mt_ := (k_M_setIt, 0)
def mt_M_setIt : Mt_ × Nat × Nat := (m_M_setIt, 2, 4)
def k_M_addIt : List En_ := [(0, .aload_n 0, 1, 0, 0, 0, []), (1, .iload_n 1, 1, 0, 0, 0, []), (2, .iconst 1, 1, 0, 0, 0, []), (3, .iadd, 1, 0, 0, 0, []), (4, .invokevirtual 90, 3, 102, 2, 804, [(0, 8)]), (7, .istore_n 2, 1, 0, 0, 0, []), (8, .aload_n 0, 1, 0, 0, 0, []), (9, .getfield 7, 3, 8, 0, 664, []), (12, .iload_n 1, 1, 0, 0, 0, []), (13, .iaload, 1, 0, 0, 0, []), (14, .iconst 1, 1, 0, 0, 0, []), (15, .if_icmp .eq 5, 3, 20, 0, 0, []), (18, .iconst 0, 1, 0, 0, 0, []), (19, .ireturn, 1, 0, 0, 0, []), (20, .aload_n 0, 1, 0, 0, 0, []), (21, .iload_n 2, 1, 0, 0, 0, []), (22, .invokevirtual 80, 3, 105, 2, 816, [(0, 8)]), (25, .aload_n 0, 1, 0, 0, 0, []), (26, .sipush 1025, 3, 0, 0, 0, []), (29, .invokevirtual 80, 3, 105, 2, 816, [(0, 8)]), (32, .iadd, 1, 0, 0, 0, []), (33, .istore_n 3, 1, 0, 0, 0, []), (34, .iload_n 3, 1, 0, 0, 0, []), (35, .sipush (-32768), 3, 0, 0, 0, []), (38, .sipush 32767, 3, 0, 0, 0, []), (41, .invokestatic 59, 3, 87, 3, 746, [(0, 8)]), (44, .ifCond .ne 5, 3, 49, 0, 0, []), (47, .iconst 0, 1, 0, 0, 0, []), (48, .ireturn, 1, 0, 0, 0, []), (49, .aload_n 0, 1, 0, 0, 0, []), (50, .getfield 7, 3, 8, 0, 664, []), (53, .iload_n 2, 1, 0, 0, 0, []), (54, .iload_n 3, 1, 0, 0, 0, []), (55, .bipush 8, 2, 0, 0, 0, []), (57, .ishr, 1, 0, 0, 0, []), (58, .sipush 255, 3, 0, 0, 0, []), (61, .iand, 1, 0, 0, 0, []), (62, .iastore, 1, 0, 0, 0, []), (63, .aload_n 0, 1, 0, 0, 0, []), (64, .getfield 7, 3, 8, 0, 664, []), (67, .iload_n 2, 1, 0, 0, 0, []), (68, .iconst 1, 1, 0, 0, 0, []), (69, .iadd, 1, 0, 0, 0, []), (70, .iload_n 3, 1, 0, 0, 0, []), (71, .sipush 255, 3, 0, 0, 0, []), (74, .iand, 1, 0, 0, 0, []), (75, .iastore, 1, 0, 0, 0, []), (76, .iconst 1, 1, 0, 0, 0, []), (77, .ireturn, 1, 0, 0, 0, [])]
def m_M_addIt : Mt_ := (k_M_addIt, 2)
def mt_M_addIt : Mt_ × Nat × Nat := (m_M_addIt, 2, 4)
def k_M_pull : List En_ := [(0, .iload_n 1, 1, 0, 0, 0, []), (1, .iconst 1, 1, 0, 0, 0, []), (2, .iadd, 1, 0, 0, 0, []), (3, .istore_n 2, 1, 0, 0, 0, []), (4, .iload_n 2, 1, 0, 0, 0, []), (5, .iload_n 1, 1, 0, 0, 0, []), (6, .aload_n 0, 1, 0, 0, 0, []), (7, .getfield 7, 3, 8, 0, 664, []), (10, .iload_n 1, 1, 0, 0, 0, []), (11, .iaload, 1, 0, 0, 0, []), (12, .iadd, 1, 0, 0, 0, []), (13, .iconst 1, 1, 0, 0, 0, []), (14, .isub, 1, 0, 0, 0, []), (15, .if_icmp .ge 70, 3, 85, 0, 0, []), (18, .aload_n 0, 1, 0, 0, 0, []), (19, .aload_n 0, 1, 0, 0, 0, []), (20, .getfield 7, 3, 8, 0, 664, []), (23, .iload_n 2, 1, 0, 0, 0, []), (24, .iaload, 1, 0, 0, 0, []), (25, .iload_n 2, 1, 0, 0, 0, []), (26, .iconst 1, 1, 0, 0, 0, []), (27, .iadd, 1, 0, 0, 0, []), (28, .invokevirtual 74, 3, 103, 3, 808, [(0, 8)]), (31, .istore_n 3, 1, 0, 0, 0, []), (32, .aload_n 0, 1, 0, 0, 0, []), (33, .aload_n 0, 1, 0, 0, 0, []), (34, .getfield 7, 3, 8, 0, 664, []), (37, .iload_n 2, 1, 0, 0, 0, []), (38, .iaload, 1, 0, 0, 0, []), (39, .iload_n 2, 1, 0, 0, 0, []), (40, .iconst 1, 1, 0, 0, 0, []), (41, .iadd, 1, 0, 0, 0, []), (42, .aload_n 0, 1, 0, 0, 0, []), (43, .getfield 7, 3, 8, 0, 664, []), (46, .sipush 1024, 3, 0, 0, 0, []), (49, .iaload, 1, 0, 0, 0, []), (50, .sipush 1025, 3, 0, 0, 0, []), (53, .invokevirtual 148, 3, 121, 5, 882, [(0, 8)]), (56, .ifCond .eq 24, 3, 80, 0, 0, []), (59, .aload_n 0, 1, 0, 0, 0, []), (60, .iconst 0, 1, 0, 0, 0, []), (61, .putfield 186, 3, 8, 25, 688, []), (64, .aload_n 0, 1, 0, 0, 0, []), (65, .iload_n 2, 1, 0, 0, 0, []), (66, .iload_n 3, 1, 0, 0, 0, []), (67, .aload_n 0, 1, 0, 0, 0, []), (68, .getfield 19, 3, 8, 5, 669, []), (71, .iconst 2, 1, 0, 0, 0, []), (72, .iaload, 1, 0, 0, 0, []), (73, .iload_n 1, 1, 0, 0, 0, []), (74, .invokevirtual 206, 3, 143, 5, 970, [(0, 8)]), (77, .goto 5, 3, 82, 0, 0, []), (80, .iload_n 3, 1, 0, 0, 0, []), (81, .istore_n 2, 1, 0, 0, 0, []), (82, .goto (-78), 3, 4, 0, 0, []), (85, .return_, 1, 0, 0, 0, [])]
def m_M_pull : Mt_ := (k_M_pull, 0)
def mt_M_pull : Mt_ × Nat × Nat := (m_M_pull, 2, 4)
def k_W_law : List En_ := [(0, .new 7, 3, 0, 79, 78, []), (3, .dup, 1, 0, 0, 0, []), (4, .invokespecial 9, 3, 0, 1, 80, [(0, 0)]), (7, .astore_n 1, 1, 0, 0, 0, []), (8, .new 10, 3, 8, 659, 658, []), (11, .dup, 1, 0, 0, 0, []), (12, .invokespecial 12, 3, 85, 1, 660, [(0, 8)]), (15, .astore_n 2, 1, 0, 0, 0, []), (16, .iconst 0, 1, 0, 0, 0, []), (17, .istore_n 3, 1, 0, 0, 0, []), (18, .iload_n 3, 1, 0, 0, 0, []), (19, .aload_n 0, 1, 0, 0, 0, []), (20, .arraylength, 1, 0, 0, 0, []), (21, .iconst 3, 1, 0, 0, 0, []), (22, .isub, 1, 0, 0, 0, []), (23, .if_icmp .gt 524, 3, 547, 0, 0, []), (26, .aload_n 0, 1, 0, 0, 0, []), (27, .iload_n 3, 1, 0, 0, 0, []), (28, .iaload, 1, 0, 0, 0, []), (29, .bipush 31, 2, 0, 0, 0, []), (31, .iand, 1, 0, 0, 0, []), (32, .tableswitch 509 0 18 #[92, 125, 158, 181, 194, 217, 250, 283, 296, 319, 342, 365, 388, 411, 424, 437, 460, 473, 496], 92, 541, 0, 0, [(0, 124), (1, 157), (2, 190), (3, 213), (4, 226), (5, 249), (6, 282), (7, 315), (8, 328), (9, 351), (10, 374), (11, 397), (12, 420), (13, 443), (14, 456), (15, 469), (16, 492), (17, 505), (18, 528)]), (124, .aload_n 1, 1, 0, 0, 0, []), (125, .aload_n 0, 1, 0, 0, 0, []), (126, .iload_n 3, 1, 0, 0, 0, []), (127, .iconst 1, 1, 0, 0, 0, []), (128, .iadd, 1, 0, 0, 0, []), (129, .iaload, 1, 0, 0, 0, []), (130, .aload_n 0, 1, 0, 0, 0, []), (131, .iload_n 3, 1, 0, 0, 0, []), (132, .iconst 2, 1, 0, 0, 0, []), (133, .iadd, 1, 0, 0, 0, []), (134, .iaload, 1, 0, 0, 0, []), (135, .invokevirtual 13, 3, 8, 3, 329, [(0, 0)]), (138, .aload_n 2, 1, 0, 0, 0, []), (139, .aload_n 0, 1, 0, 0, 0, []), (140, .iload_n 3, 1, 0, 0, 0, []), (141, .iconst 1, 1, 0, 0, 0, []), (142, .iadd, 1, 0, 0, 0, []), (143, .iaload, 1, 0, 0, 0, []), (144, .aload_n 0, 1, 0, 0, 0, []), (145, .iload_n 3, 1, 0, 0, 0, []), (146, .iconst 2, 1, 0, 0, 0, []), (147, .iadd, 1, 0, 0, 0, []), (148, .iaload, 1, 0, 0, 0, []), (149, .invokevirtual 17, 3, 86, 3, 742, [(0, 8)]), (152, .if_icmp .eq 389, 3, 541, 0, 0, []), (155, .iconst 0, 1, 0, 0, 0, []), (156, .ireturn, 1, 0, 0, 0, []), (157, .aload_n 1, 1, 0, 0, 0, []), (158, .aload_n 0, 1, 0, 0, 0, []), (159, .iload_n 3, 1, 0, 0, 0, []), (160, .iconst 1, 1, 0, 0, 0, []), (161, .iadd, 1, 0, 0, 0, []), (162, .iaload, 1, 0, 0, 0, []), (163, .aload_n 0, 1, 0, 0, 0, []), (164, .iload_n 3, 1, 0, 0, 0, []), (165, .iconst 2, 1, 0, 0, 0, []), (166, .iadd, 1, 0, 0, 0, []), (167, .iaload, 1, 0, 0, 0, []), (168, .invokevirtual 18, 3, 10, 3, 337, [(0, 0)]), (171, .aload_n 2, 1, 0, 0, 0, []), (172, .aload_n 0, 1, 0, 0, 0, []), (173, .iload_n 3, 1, 0, 0, 0, []), (174, .iconst 1, 1, 0, 0, 0, []), (175, .iadd, 1, 0, 0, 0, []), (176, .iaload, 1, 0, 0, 0, []), (177, .aload_n 0, 1, 0, 0, 0, []), (178, .iload_n 3, 1, 0, 0, 0, []), (179, .iconst 2, 1, 0, 0, 0, []), (180, .iadd, 1, 0, 0, 0, []), (181, .iaload, 1, 0, 0, 0, []), (182, .invokevirtual 21, 3, 88, 3, 749, [(0, 8)]), (185, .if_icmp .eq 356, 3, 541, 0, 0, []), (188, .iconst 0, 1, 0, 0, 0, []), (189, .ireturn, 1, 0, 0, 0, []), (190, .aload_n 1, 1, 0, 0, 0, []), (191, .aload_n 0, 1, 0, 0, 0, []), (192, .iload_n 3, 1, 0, 0, 0, []), (193, .iconst 1, 1, 0, 0, 0, []), (194, .iadd, 1, 0, 0, 0, []), (195, .iaload, 1, 0, 0, 0, []), (196, .invokevirtual 22, 3, 11, 2, 341, [(0, 0)]), (199, .aload_n 2, 1, 0, 0, 0, []), (200, .aload_n 0, 1, 0, 0, 0, []), (201, .iload_n 3, 1, 0, 0, 0, []), (202, .iconst 1, 1, 0, 0, 0, []), (203, .iadd, 1, 0, 0, 0, []), (204, .iaload, 1, 0, 0, 0, []), (205, .invokevirtual 26, 3, 89, 2, 753, [(0, 8)]), (208, .if_icmp .eq 333, 3, 541, 0, 0, []), (211, .iconst 0, 1, 0, 0, 0, []), (212, .ireturn, 1, 0, 0, 0, []), (213, .aload_n 1, 1, 0, 0, 0, []), (214, .invokevirtual 27, 3, 12, 1, 345, [(0, 0)]), (217, .aload_n 2, 1, 0, 0, 0, []), (218, .invokevirtual 31, 3, 90, 1, 757, [(0, 8)]), (221, .if_icmp .eq 320, 3, 541, 0, 0, []), (224, .iconst 0, 1, 0, 0, 0, []), (225, .ireturn, 1, 0, 0, 0, []), (226, .aload_n 1, 1, 0, 0, 0, []), (227, .aload_n 0, 1, 0, 0, 0, []), (228, .iload_n 3, 1, 0, 0, 0, []), (229, .iconst 1, 1, 0, 0, 0, []), (230, .iadd, 1, 0, 0, 0, []), (231, .iaload, 1, 0, 0, 0, []), (232, .invokevirtual 32, 3, 13, 2, 349, [(0, 0)]), (235, .aload_n 2, 1, 0, 0, 0, []), (236, .aload_n 0, 1, 0, 0, 0, []), (237, .iload_n 3, 1, 0, 0, 0, []), (238, .iconst 1, 1, 0, 0, 0, []), (239, .iadd, 1, 0, 0, 0, []), (240, .iaload, 1, 0, 0, 0, []), (241, .invokevirtual 36, 3, 91, 2, 761, [(0, 8)]), (244, .if_icmp .eq 297, 3, 541, 0, 0, []), (247, .iconst 0, 1, 0, 0, 0, []), (248, .ireturn, 1, 0, 0, 0, []), (249, .aload_n 1, 1, 0, 0, 0, []), (250, .aload_n 0, 1, 0, 0, 0, []), (251, .iload_n 3, 1, 0, 0, 0, []), (252, .iconst 1, 1, 0, 0, 0, []), (253, .iadd, 1, 0, 0, 0, []), (254, .iaload, 1, 0, 0, 0, []), (255, .aload_n 0, 1, 0, 0, 0, []), (256, .iload_n 3, 1, 0, 0, 0, []), (257, .iconst 2, 1, 0, 0, 0, []), (258, .iadd, 1, 0, 0, 0, []), (259, .iaload, 1, 0, 0, 0, []), (260, .invokevirtual 37, 3, 15, 3, 357, [(0, 0)]), (263, .aload_n 2, 1, 0, 0, 0, []), (264, .aload_n 0, 1, 0, 0, 0, []), (265, .iload_n 3, 1, 0, 0, 0, []), (266, .iconst 1, 1, 0, 0, 0, []), (267, .iadd, 1, 0, 0, 0, []), (268, .iaload, 1, 0, 0, 0, []), (269, .aload_n 0, 1, 0, 0, 0, []), (270, .iload_n 3, 1, 0, 0, 0, []), (271, .iconst 2, 1, 0, 0, 0, []), (272, .iadd, 1, 0, 0, 0, []), (273, .iaload, 1, 0, 0, 0, []), (274, .invokevirtual 40, 3, 92, 3, 765, [(0, 8)]), (277, .if_icmp .eq 264, 3, 541, 0, 0, []), (280, .iconst 0, 1, 0, 0, 0, []), (281, .ireturn, 1, 0, 0, 0, []), (282, .aload_n 1, 1, 0, 0, 0, []), (283, .aload_n 0, 1, 0, 0, 0, []), (284, .iload_n 3, 1, 0, 0, 0, []), (285, .iconst 1, 1, 0, 0, 0, []), (286, .iadd, 1, 0, 0, 0, []), (287, .iaload, 1, 0, 0, 0, []), (288, .aload_n 0, 1, 0, 0, 0, []), (289, .iload_n 3, 1, 0, 0, 0, []), (290, .iconst 2, 1, 0, 0, 0, []), (291, .iadd, 1, 0, 0, 0, []), (292, .iaload, 1, 0, 0, 0, []), (293, .invokevirtual 41, 3, 18, 3, 368, [(0, 0)]), (296, .aload_n 2, 1, 0, 0, 0, []), (297, .aload_n 0, 1, 0, 0, 0, []), (298, .iload_n 3, 1, 0, 0, 0, []), (299, .iconst 1, 1, 0, 0, 0, []), (300, .iadd, 1, 0, 0, 0, []), (301, .iaload, 1, 0, 0, 0, []), (302, .aload_n 0, 1, 0, 0, 0, []), (303, .iload_n 3, 1, 0, 0, 0, []), (304, .iconst 2, 1, 0, 0, 0, []), (305, .iadd, 1, 0, 0, 0, []), (306, .iaload, 1, 0, 0, 0, []), (307, .invokevirtual 44, 3, 95, 3, 776, [(0, 8)]), (310, .if_icmp .eq 231, 3, 541, 0, 0, []), (313, .iconst 0, 1, 0, 0, 0, []), (314, .ireturn, 1, 0, 0, 0, []), (315, .aload_n 1, 1, 0, 0, 0, []), (316, .invokevirtual 45, 3, 19, 1, 372, [(0, 0)]), (319, .aload_n 2, 1, 0, 0, 0, []), (320, .invokevirtual 48, 3, 96, 1, 780, [(0, 8)]), (323, .if_icmp .eq 218, 3, 541, 0, 0, []), (326, .iconst 0, 1, 0, 0, 0, []), (327, .ireturn, 1, 0, 0, 0, []), (328, .aload_n 1, 1, 0, 0, 0, []), (329, .aload_n 0, 1, 0, 0, 0, []), (330, .iload_n 3, 1, 0, 0, 0, []), (331, .iconst 1, 1, 0, 0, 0, []), (332, .iadd, 1, 0, 0, 0, []), (333, .iaload, 1, 0, 0, 0, []), (334, .invokevirtual 49, 3, 37, 2, 447, [(0, 0)]), (337, .aload_n 2, 1, 0, 0, 0, []), (338, .aload_n 0, 1, 0, 0, 0, []), (339, .iload_n 3, 1, 0, 0, 0, []), (340, .iconst 1, 1, 0, 0, 0, []), (341, .iadd, 1, 0, 0, 0, []), (342, .iaload, 1, 0, 0, 0, []), (343, .invokevirtual 52, 3, 108, 2, 830, [(0, 8)]), (346, .if_icmp .eq 195, 3, 541, 0, 0, []), (349, .iconst 0, 1, 0, 0, 0, []), (350, .ireturn, 1, 0, 0, 0, []), (351, .aload_n 1, 1, 0, 0, 0, []), (352, .aload_n 0, 1, 0, 0, 0, []), (353, .iload_n 3, 1, 0, 0, 0, []), (354, .iconst 1, 1, 0, 0, 0, []), (355, .iadd, 1, 0, 0, 0, []), (356, .iaload, 1, 0, 0, 0, []), (357, .invokevirtual 53, 3, 38, 2, 452, [(0, 0)]), (360, .aload_n 2, 1, 0, 0, 0, []), (361, .aload_n 0, 1, 0, 0, 0, []), (362, .iload_n 3, 1, 0, 0, 0, []), (363, .iconst 1, 1, 0, 0, 0, []), (364, .iadd, 1, 0, 0, 0, []), (365, .iaload, 1, 0, 0, 0, []), (366, .invokevirtual 56, 3, 109, 2, 834, [(0, 8)]), (369, .if_icmp .eq 172, 3, 541, 0, 0, []), (372, .iconst 0, 1, 0, 0, 0, []), (373, .ireturn, 1, 0, 0, 0, []), (374, .aload_n 1, 1, 0, 0, 0, []), (375, .aload_n 0, 1, 0, 0, 0, []), (376, .iload_n 3, 1, 0, 0, 0, []), (377, .iconst 1, 1, 0, 0, 0, []), (378, .iadd, 1, 0, 0, 0, []), (379, .iaload, 1, 0, 0, 0, []), (380, .invokevirtual 57, 3, 40, 2, 460, [(0, 0)]), (383, .aload_n 2, 1, 0, 0, 0, []), (384, .aload_n 0, 1, 0, 0, 0, []), (385, .iload_n 3, 1, 0, 0, 0, []), (386, .iconst 1, 1, 0, 0, 0, []), (387, .iadd, 1, 0, 0, 0, []), (388, .iaload, 1, 0, 0, 0, []), (389, .invokevirtual 60, 3, 111, 2, 842, [(0, 8)]), (392, .if_icmp .eq 149, 3, 541, 0, 0, []), (395, .iconst 0, 1, 0, 0, 0, []), (396, .ireturn, 1, 0, 0, 0, []), (397, .aload_n 1, 1, 0, 0, 0, []), (398, .aload_n 0, 1, 0, 0, 0, []), (399, .iload_n 3, 1, 0, 0, 0, []), (400, .iconst 1, 1, 0, 0, 0, []), (401, .iadd, 1, 0, 0, 0, []), (402, .iaload, 1, 0, 0, 0, []), (403, .invokevirtual 61, 3, 42, 2, 471, [(0, 0)]), (406, .aload_n 2, 1, 0, 0, 0, []), (407, .aload_n 0, 1, 0, 0, 0, []), (408, .iload_n 3, 1, 0, 0, 0, []), (409, .iconst 1, 1, 0, 0, 0, []), (410, .iadd, 1, 0, 0, 0, []), (411, .iaload, 1, 0, 0, 0, []), (412, .invokevirtual 64, 3, 113, 2, 850, [(0, 8)]), (415, .if_icmp .eq 126, 3, 541, 0, 0, []), (418, .iconst 0, 1, 0, 0, 0, []), (419, .ireturn, 1, 0, 0, 0, []), (420, .aload_n 1, 1, 0, 0, 0, []), (421, .aload_n 0, 1, 0, 0, 0, []), (422, .iload_n 3, 1, 0, 0, 0, []), (423, .iconst 1, 1, 0, 0, 0, []), (424, .iadd, 1, 0, 0, 0, []), (425, .iaload, 1, 0, 0, 0, []), (426, .invokevirtual 65, 3, 50, 2, 502, [(0, 0)]), (429, .aload_n 2, 1, 0, 0, 0, []), (430, .aload_n 0, 1, 0, 0, 0, []), (431, .iload_n 3, 1, 0, 0, 0, []), (432, .iconst 1, 1, 0, 0, 0, []), (433, .iadd, 1, 0, 0, 0, []), (434, .iaload, 1, 0, 0, 0, []), (435, .invokevirtual 68, 3, 122, 2, 886, [(0, 8)]), (438, .if_icmp .eq 103, 3, 541, 0, 0, []), (441, .iconst 0, 1, 0, 0, 0, []), (442, .ireturn, 1, 0, 0, 0, []), (443, .aload_n 1, 1, 0, 0, 0, []), (444, .invokevirtual 69, 3, 53, 1, 516, [(0, 0)]), (447, .aload_n 2, 1, 0, 0, 0, []), (448, .invokevirtual 72, 3, 123, 1, 890, [(0, 8)]), (451, .if_icmp .eq 90, 3, 541, 0, 0, []), (454, .iconst 0, 1, 0, 0, 0, []), (455, .ireturn, 1, 0, 0, 0, []), (456, .aload_n 1, 1, 0, 0, 0, []), (457, .invokevirtual 73, 3, 54, 1, 520, [(0, 0)]), (460, .aload_n 2, 1, 0, 0, 0, []), (461, .invokevirtual 76, 3, 124, 1, 894, [(0, 8)]), (464, .if_icmp .eq 77, 3, 541, 0, 0, []), (467, .iconst 0, 1, 0, 0, 0, []), (468, .ireturn, 1, 0, 0, 0, []), (469, .aload_n 1, 1, 0, 0, 0, []), (470, .aload_n 0, 1, 0, 0, 0, []), (471, .iload_n 3, 1, 0, 0, 0, []), (472, .iconst 1, 1, 0, 0, 0, []), (473, .iadd, 1, 0, 0, 0, []), (474, .iaload, 1, 0, 0, 0, []), (475, .invokevirtual 77, 3, 69, 2, 584, [(0, 0)]), (478, .aload_n 2, 1, 0, 0, 0, []), (479, .aload_n 0, 1, 0, 0, 0, []), (480, .iload_n 3, 1, 0, 0, 0, []), (481, .iconst 1, 1, 0, 0, 0, []), (482, .iadd, 1, 0, 0, 0, []), (483, .iaload, 1, 0, 0, 0, []), (484, .invokevirtual 80, 3, 133, 2, 930, [(0, 8)]), (487, .if_icmp .eq 54, 3, 541, 0, 0, []), (490, .iconst 0, 1, 0, 0, 0, []), (491, .ireturn, 1, 0, 0, 0, []), (492, .aload_n 1, 1, 0, 0, 0, []), (493, .invokevirtual 81, 3, 70, 1, 588, [(0, 0)]), (496, .aload_n 2, 1, 0, 0, 0, []), (497, .invokevirtual 84, 3, 134, 1, 934, [(0, 8)]), (500, .if_icmp .eq 41, 3, 541, 0, 0, []), (503, .iconst 0, 1, 0, 0, 0, []), (504, .ireturn, 1, 0, 0, 0, []), (505, .aload_n 1, 1, 0, 0, 0, []), (506, .aload_n 0, 1, 0, 0, 0, []), (507, .iload_n 3, 1, 0, 0, 0, []), (508, .iconst 1, 1, 0, 0, 0, []), (509, .iadd, 1, 0, 0, 0, []), (510, .iaload, 1, 0, 0, 0, []), (511, .invokevirtual 85, 3, 71, 2, 592, [(0, 0)]), (514, .aload_n 2, 1, 0, 0, 0, []), (515, .aload_n 0, 1, 0, 0, 0, []), (516, .iload_n 3, 1, 0, 0, 0, []), (517, .iconst 1, 1, 0, 0, 0, []), (518, .iadd, 1, 0, 0, 0, []), (519, .iaload, 1, 0, 0, 0, []), (520, .invokevirtual 88, 3, 135, 2, 938, [(0, 8)]), (523, .if_icmp .eq 18, 3, 541, 0, 0, []), (526, .iconst 0, 1, 0, 0, 0, []), (527, .ireturn, 1, 0, 0, 0, []), (528, .aload_n 1, 1, 0, 0, 0, []), (529, .invokevirtual 89, 3, 84, 1, 654, [(0, 0)]), (532, .aload_n 2, 1, 0, 0, 0, []), (533, .invokevirtual 92, 3, 110, 1, 838, [(0, 8)]), (536, .if_icmp .eq 5, 3, 541, 0, 0, []), (539, .iconst 0, 1, 0, 0, 0, []), (540, .ireturn, 1, 0, 0, 0, []), (541, .iinc 3 3, 3, 0, 0, 0, []), (544, .goto (-526), 3, 18, 0, 0, []), (547, .iconst 1, 1, 0, 0, 0, []), (548, .ireturn, 1, 0, 0, 0, [])]
def m_W_law : Mt_ := (k_W_law, 2)
def mt_W_law : Mt_ × Nat × Nat := (m_W_law, 1, 4)
def mtL : List (Mt_ × Nat × Nat) := [mt_P_init, mt_R_init, mt_H_init, mt_S_init, mt_T_init, mt_L_init, mt_E_init, mt_C_init, mt_P_put, mt_R_add, mt_P_set, mt_P_cut, mt_P_size, mt_P_at, mt_R_cell, mt_P_path, mt_P_nameOf, mt_H_add, mt_P_step, mt_P_insert, mt_T_readDocument, mt_T_begin, mt_T_addNode, mt_T_readContent, mt_T_faultAt, mt_T_readBytes, mt_T_readOn, mt_T_closeNest, mt_T_readPart, mt_T_readName, mt_T_element, mt_T_documentNumber, mt_R_signedNumber, mt_S_placeOf, mt_S_keep, mt_R_become, mt_R_addPart, mt_P_fetch, mt_P_remove, mt_S_drop, mt_P_index, mt_H_become, mt_P_entries, mt_L_follow, mt_L_goOn, mt_H_name, mt_L_note, mt_L_entryTotal, mt_L_isNew, mt_T_areEqual, mt_P_where, mt_T_readOperand, mt_C_become, mt_P_anywhere, mt_P_find, mt_P_seek, mt_P_leadingCondition, mt_C_suitsIndex, mt_P_hasIndex, mt_H_isSame, mt_C_holds, mt_C_someIsEqual, mt_T_isEqual, mt_R_compare, mt_C_someHasSize, mt_T_itemTotal, mt_C_someComparesSo, mt_C_difference, mt_C_isSo, mt_P_found, mt_P_examined, mt_P_change, mt_H_isOnly, mt_E_apply, mt_E_aim, mt_E_writeNew, mt_E_openNest, mt_R_addName, mt_H_lastName, mt_E_writeElement, mt_E_alter, mt_E_writeSum, mt_E_writeOthers, mt_E_splice, mt_P_count, mt_M_init, mt_M_put, mt_M_in, mt_M_set, mt_M_cut, mt_M_size, mt_M_at, mt_M_path, mt_M_name, mt_M_isLetter, mt_M_step, mt_M_insert, mt_M_read, mt_M_wrong, mt_M_readPlain, mt_M_readText, mt_M_readName, mt_M_nameEnd, mt_M_behind, mt_M_numberAt, mt_M_value, mt_M_holder, mt_M_move, mt_M_fetch, mt_M_remove, mt_M_count, mt_M_index, mt_M_copyPath, mt_M_entries, mt_M_gather, mt_M_come, mt_M_lead, mt_M_seek, mt_M_isName, mt_M_items, mt_M_turn, mt_M_equal, mt_M_where, mt_M_anywhere, mt_M_find, mt_M_match, mt_M_uses, mt_M_samePath, mt_M_holds, mt_M_isEqual, mt_M_isCompared, mt_M_compare, mt_M_isLong, mt_M_found, mt_M_examined, mt_M_change, mt_M_operate, mt_M_go, mt_M_arrive, mt_M_nameSize, mt_M_addName, mt_M_add, mt_M_addOperand, mt_M_splice, mt_M_setIt, mt_M_addIt, mt_M_pull, mt_W_law]
end
section
abbrev Mi_ : Type := MethodName × ByteArray × Nat × Option FieldType × Nat × Nat × List Nat
def mi_P_init : Mi_ := (⟨"PathShelf", "<init>", "()V"⟩, prog_1_method_1_code, 2, none, 2, 1, [82, 81, 0, 68])
def mi_R_init : Mi_ := (⟨"PathShelf$Row", "<init>", "(I)V"⟩, prog_5_method_1_code, 2, none, 2, 2, [90, 89, 0, 69])
def mi_H_init : Mi_ := (⟨"PathShelf$Path", "<init>", "()V"⟩, prog_4_method_1_code, 1, none, 2, 1, [110, 109, 0, 70])
def mi_S_init : Mi_ := (⟨"PathShelf$Store", "<init>", "()V"⟩, prog_6_method_1_code, 2, none, 2, 1, [126, 125, 0, 71])
def mi_T_init : Mi_ := (⟨"PathShelf$Tree", "<init>", "()V"⟩, prog_8_method_1_code, 1, none, 2, 1, [151, 150, 0, 72])
def mi_L_init : Mi_ := (⟨"PathShelf$Trail", "<init>", "()V"⟩, prog_7_method_1_code, 1, none, 2, 1, [212, 211, 0, 73])
def mi_E_init : Mi_ := (⟨"PathShelf$Editor", "<init>", "()V"⟩, prog_3_method_1_code, 1, none, 2, 1, [235, 234, 0, 74])
def mi_C_init : Mi_ := (⟨"PathShelf$Condition", "<init>", "()V"⟩, prog_2_method_1_code, 1, none, 2, 1, [269, 268, 0, 75])
def mi_P_put : Mi_ := (⟨"PathShelf", "put", "(II)Z"⟩, prog_1_method_2_code, 4, some .boolean, 1, 3, [332, 330, 331, 68])
def mi_R_add : Mi_ := (⟨"PathShelf$Row", "add", "(I)V"⟩, prog_5_method_3_code, 2, none, 1, 2, [336, 334, 335, 69])
def mi_P_set : Mi_ := (⟨"PathShelf", "set", "(II)Z"⟩, prog_1_method_3_code, 3, some .boolean, 1, 3, [340, 338, 339, 68])
def mi_P_cut : Mi_ := (⟨"PathShelf", "cut", "(I)Z"⟩, prog_1_method_4_code, 2, some .boolean, 1, 2, [344, 342, 343, 68])
def mi_P_size : Mi_ := (⟨"PathShelf", "size", "()I"⟩, prog_1_method_5_code, 1, some .int, 1, 1, [348, 346, 347, 68])
def mi_P_at : Mi_ := (⟨"PathShelf", "at", "(I)I"⟩, prog_1_method_6_code, 2, some .int, 1, 2, [352, 350, 351, 68])
def mi_R_cell : Mi_ := (⟨"PathShelf$Row", "cell", "(I)I"⟩, prog_5_method_2_code, 2, some .int, 1, 2, [356, 354, 355, 69])
def mi_P_path : Mi_ := (⟨"PathShelf", "path", "(II)Z"⟩, prog_1_method_7_code, 4, some .boolean, 1, 3, [360, 358, 359, 68])
def mi_P_nameOf : Mi_ := (⟨"PathShelf", "nameOf", "(II)I"⟩, prog_1_method_21_code, 5, some .int, 0, 2, [363, 362, 0, 68])
def mi_H_add : Mi_ := (⟨"PathShelf$Path", "add", "(I)Z"⟩, prog_4_method_2_code, 2, some .boolean, 1, 2, [367, 365, 366, 70])
def mi_P_step : Mi_ := (⟨"PathShelf", "step", "(II)Z"⟩, prog_1_method_8_code, 4, some .boolean, 1, 3, [371, 369, 370, 68])
def mi_P_insert : Mi_ := (⟨"PathShelf", "insert", "()I"⟩, prog_1_method_9_code, 3, some .int, 1, 1, [375, 373, 374, 68])
def mi_T_readDocument : Mi_ := (⟨"PathShelf$Tree", "readDocument", "(LPathShelf$Row;)I"⟩, prog_8_method_2_code, 2, some .int, 1, 2, [379, 377, 378, 72])
def mi_T_begin : Mi_ := (⟨"PathShelf$Tree", "begin", "(LPathShelf$Row;)V"⟩, prog_8_method_9_code, 2, none, 1, 2, [383, 382, 0, 72])
def mi_T_addNode : Mi_ := (⟨"PathShelf$Tree", "addNode", "(III)I"⟩, prog_8_method_15_code, 4, some .int, 1, 4, [387, 386, 1, 72])
def mi_T_readContent : Mi_ := (⟨"PathShelf$Tree", "readContent", "(I)Z"⟩, prog_8_method_16_code, 3, some .boolean, 1, 2, [391, 390, 2, 72])
def mi_T_faultAt : Mi_ := (⟨"PathShelf$Tree", "faultAt", "(I)Z"⟩, prog_8_method_11_code, 2, some .boolean, 1, 2, [395, 394, 3, 72])
def mi_T_readBytes : Mi_ := (⟨"PathShelf$Tree", "readBytes", "(III)Z"⟩, prog_8_method_12_code, 6, some .boolean, 1, 4, [399, 398, 4, 72])
def mi_T_readOn : Mi_ := (⟨"PathShelf$Tree", "readOn", "(Z)I"⟩, prog_8_method_10_code, 4, some .int, 1, 2, [404, 403, 5, 72])
def mi_T_closeNest : Mi_ := (⟨"PathShelf$Tree", "closeNest", "()Z"⟩, prog_8_method_17_code, 2, some .boolean, 1, 1, [408, 407, 6, 72])
def mi_T_readPart : Mi_ := (⟨"PathShelf$Tree", "readPart", "()Z"⟩, prog_8_method_13_code, 5, some .boolean, 1, 1, [412, 411, 7, 72])
def mi_T_readName : Mi_ := (⟨"PathShelf$Tree", "readName", "()I"⟩, prog_8_method_14_code, 4, some .int, 1, 1, [416, 415, 8, 72])
def mi_T_element : Mi_ := (⟨"PathShelf$Tree", "element", "(II)I"⟩, prog_8_method_5_code, 4, some .int, 1, 3, [420, 418, 419, 72])
def mi_T_documentNumber : Mi_ := (⟨"PathShelf$Tree", "documentNumber", "()I"⟩, prog_8_method_4_code, 2, some .int, 1, 1, [424, 422, 423, 72])
def mi_R_signedNumber : Mi_ := (⟨"PathShelf$Row", "signedNumber", "(I)I"⟩, prog_5_method_7_code, 2, some .int, 1, 2, [428, 426, 427, 69])
def mi_S_placeOf : Mi_ := (⟨"PathShelf$Store", "placeOf", "(I)I"⟩, prog_6_method_2_code, 3, some .int, 1, 2, [433, 431, 432, 71])
def mi_S_keep : Mi_ := (⟨"PathShelf$Store", "keep", "(LPathShelf$Row;I)Z"⟩, prog_6_method_3_code, 5, some .boolean, 1, 3, [437, 435, 436, 71])
def mi_R_become : Mi_ := (⟨"PathShelf$Row", "become", "(LPathShelf$Row;)V"⟩, prog_5_method_6_code, 2, none, 1, 2, [441, 439, 440, 69])
def mi_R_addPart : Mi_ := (⟨"PathShelf$Row", "addPart", "(LPathShelf$Row;II)V"⟩, prog_5_method_5_code, 5, none, 1, 4, [445, 443, 444, 69])
def mi_P_fetch : Mi_ := (⟨"PathShelf", "fetch", "(I)I"⟩, prog_1_method_10_code, 3, some .int, 1, 2, [450, 448, 449, 68])
def mi_P_remove : Mi_ := (⟨"PathShelf", "remove", "(I)Z"⟩, prog_1_method_11_code, 3, some .boolean, 1, 2, [455, 453, 454, 68])
def mi_S_drop : Mi_ := (⟨"PathShelf$Store", "drop", "(I)V"⟩, prog_6_method_4_code, 4, none, 1, 2, [459, 457, 458, 71])
def mi_P_index : Mi_ := (⟨"PathShelf", "index", "(I)Z"⟩, prog_1_method_12_code, 2, some .boolean, 1, 2, [463, 461, 462, 68])
def mi_H_become : Mi_ := (⟨"PathShelf$Path", "become", "(LPathShelf$Path;)V"⟩, prog_4_method_5_code, 2, none, 1, 2, [467, 465, 466, 70])
def mi_P_entries : Mi_ := (⟨"PathShelf", "entries", "(I)I"⟩, prog_1_method_13_code, 4, some .int, 1, 2, [474, 472, 473, 68])
def mi_L_follow : Mi_ := (⟨"PathShelf$Trail", "follow", "(LPathShelf$Tree;LPathShelf$Path;)V"⟩, prog_7_method_2_code, 6, none, 1, 3, [478, 476, 477, 73])
def mi_L_goOn : Mi_ := (⟨"PathShelf$Trail", "goOn", "(LPathShelf$Tree;LPathShelf$Path;II)I"⟩, prog_7_method_3_code, 4, some .int, 0, 4, [481, 480, 0, 73])
def mi_H_name : Mi_ := (⟨"PathShelf$Path", "name", "(I)I"⟩, prog_4_method_3_code, 2, some .int, 1, 2, [485, 483, 484, 70])
def mi_L_note : Mi_ := (⟨"PathShelf$Trail", "note", "(IZ)V"⟩, prog_7_method_4_code, 3, none, 1, 3, [489, 488, 9, 73])
def mi_L_entryTotal : Mi_ := (⟨"PathShelf$Trail", "entryTotal", "(LPathShelf$Tree;)I"⟩, prog_7_method_5_code, 5, some .int, 1, 2, [493, 491, 492, 73])
def mi_L_isNew : Mi_ := (⟨"PathShelf$Trail", "isNew", "(LPathShelf$Tree;I)Z"⟩, prog_7_method_6_code, 4, some .boolean, 1, 3, [497, 496, 10, 73])
def mi_T_areEqual : Mi_ := (⟨"PathShelf$Tree", "areEqual", "(II)Z"⟩, prog_8_method_8_code, 5, some .boolean, 1, 3, [501, 499, 500, 72])
def mi_P_where : Mi_ := (⟨"PathShelf", "where", "(I)I"⟩, prog_1_method_14_code, 3, some .int, 1, 2, [505, 503, 504, 68])
def mi_T_readOperand : Mi_ := (⟨"PathShelf$Tree", "readOperand", "(LPathShelf$Row;)I"⟩, prog_8_method_3_code, 2, some .int, 1, 2, [509, 507, 508, 72])
def mi_C_become : Mi_ := (⟨"PathShelf$Condition", "become", "(LPathShelf$Path;ILPathShelf$Row;)V"⟩, prog_2_method_2_code, 4, none, 1, 4, [513, 511, 512, 75])
def mi_P_anywhere : Mi_ := (⟨"PathShelf", "anywhere", "()I"⟩, prog_1_method_15_code, 2, some .int, 1, 1, [519, 517, 518, 68])
def mi_P_find : Mi_ := (⟨"PathShelf", "find", "()I"⟩, prog_1_method_16_code, 2, some .int, 1, 1, [523, 521, 522, 68])
def mi_P_seek : Mi_ := (⟨"PathShelf", "seek", "()V"⟩, prog_1_method_22_code, 5, none, 1, 1, [527, 526, 11, 68])
def mi_P_leadingCondition : Mi_ := (⟨"PathShelf", "leadingCondition", "()I"⟩, prog_1_method_23_code, 2, some .int, 1, 1, [531, 530, 12, 68])
def mi_C_suitsIndex : Mi_ := (⟨"PathShelf$Condition", "suitsIndex", "()Z"⟩, prog_2_method_3_code, 2, some .boolean, 1, 1, [535, 533, 534, 75])
def mi_P_hasIndex : Mi_ := (⟨"PathShelf", "hasIndex", "(LPathShelf$Path;)Z"⟩, prog_1_method_24_code, 3, some .boolean, 1, 2, [540, 539, 13, 68])
def mi_H_isSame : Mi_ := (⟨"PathShelf$Path", "isSame", "(LPathShelf$Path;)Z"⟩, prog_4_method_7_code, 3, some .boolean, 1, 2, [544, 542, 543, 70])
def mi_C_holds : Mi_ := (⟨"PathShelf$Condition", "holds", "(LPathShelf$Tree;LPathShelf$Trail;)Z"⟩, prog_2_method_4_code, 3, some .boolean, 1, 3, [548, 546, 547, 75])
def mi_C_someIsEqual : Mi_ := (⟨"PathShelf$Condition", "someIsEqual", "(LPathShelf$Tree;LPathShelf$Trail;)Z"⟩, prog_2_method_5_code, 4, some .boolean, 1, 3, [553, 552, 14, 75])
def mi_T_isEqual : Mi_ := (⟨"PathShelf$Tree", "isEqual", "(ILPathShelf$Row;)Z"⟩, prog_8_method_7_code, 3, some .boolean, 1, 3, [557, 555, 556, 72])
def mi_R_compare : Mi_ := (⟨"PathShelf$Row", "compare", "(IILPathShelf$Row;I)I"⟩, prog_5_method_8_code, 9, some .int, 1, 5, [561, 559, 560, 69])
def mi_C_someHasSize : Mi_ := (⟨"PathShelf$Condition", "someHasSize", "(LPathShelf$Tree;LPathShelf$Trail;)Z"⟩, prog_2_method_6_code, 6, some .boolean, 1, 3, [565, 564, 15, 75])
def mi_T_itemTotal : Mi_ := (⟨"PathShelf$Tree", "itemTotal", "(I)I"⟩, prog_8_method_6_code, 4, some .int, 1, 2, [570, 568, 569, 72])
def mi_C_someComparesSo : Mi_ := (⟨"PathShelf$Condition", "someComparesSo", "(LPathShelf$Tree;LPathShelf$Trail;)Z"⟩, prog_2_method_7_code, 6, some .boolean, 1, 3, [574, 573, 16, 75])
def mi_C_difference : Mi_ := (⟨"PathShelf$Condition", "difference", "(LPathShelf$Tree;I)I"⟩, prog_2_method_8_code, 4, some .int, 1, 3, [578, 577, 17, 75])
def mi_C_isSo : Mi_ := (⟨"PathShelf$Condition", "isSo", "(I)Z"⟩, prog_2_method_9_code, 2, some .boolean, 1, 2, [583, 582, 18, 75])
def mi_P_found : Mi_ := (⟨"PathShelf", "found", "(I)I"⟩, prog_1_method_17_code, 2, some .int, 1, 2, [587, 585, 586, 68])
def mi_P_examined : Mi_ := (⟨"PathShelf", "examined", "()I"⟩, prog_1_method_18_code, 1, some .int, 1, 1, [591, 589, 590, 68])
def mi_P_change : Mi_ := (⟨"PathShelf", "change", "(I)I"⟩, prog_1_method_19_code, 4, some .int, 1, 2, [595, 593, 594, 68])
def mi_H_isOnly : Mi_ := (⟨"PathShelf$Path", "isOnly", "(I)Z"⟩, prog_4_method_6_code, 2, some .boolean, 1, 2, [599, 597, 598, 70])
def mi_E_apply : Mi_ := (⟨"PathShelf$Editor", "apply", "(LPathShelf$Tree;LPathShelf$Path;ILPathShelf$Row;)Z"⟩, prog_3_method_2_code, 8, some .boolean, 1, 5, [603, 601, 602, 74])
def mi_E_aim : Mi_ := (⟨"PathShelf$Editor", "aim", "(III)V"⟩, prog_3_method_3_code, 4, none, 1, 4, [610, 609, 19, 74])
def mi_E_writeNew : Mi_ := (⟨"PathShelf$Editor", "writeNew", "(LPathShelf$Path;IILPathShelf$Row;)V"⟩, prog_3_method_8_code, 6, none, 1, 5, [614, 613, 20, 74])
def mi_E_openNest : Mi_ := (⟨"PathShelf$Editor", "openNest", "(II)V"⟩, prog_3_method_9_code, 3, none, 1, 3, [618, 617, 21, 74])
def mi_R_addName : Mi_ := (⟨"PathShelf$Row", "addName", "(I)V"⟩, prog_5_method_4_code, 4, none, 1, 2, [623, 621, 622, 69])
def mi_H_lastName : Mi_ := (⟨"PathShelf$Path", "lastName", "()I"⟩, prog_4_method_4_code, 1, some .int, 1, 1, [627, 625, 626, 70])
def mi_E_writeElement : Mi_ := (⟨"PathShelf$Editor", "writeElement", "(ILPathShelf$Row;)V"⟩, prog_3_method_5_code, 3, none, 1, 3, [633, 632, 22, 74])
def mi_E_alter : Mi_ := (⟨"PathShelf$Editor", "alter", "(LPathShelf$Tree;IILPathShelf$Row;)Z"⟩, prog_3_method_4_code, 8, some .boolean, 1, 5, [637, 636, 23, 74])
def mi_E_writeSum : Mi_ := (⟨"PathShelf$Editor", "writeSum", "(ILPathShelf$Row;)Z"⟩, prog_3_method_6_code, 4, some .boolean, 1, 3, [642, 641, 24, 74])
def mi_E_writeOthers : Mi_ := (⟨"PathShelf$Editor", "writeOthers", "(LPathShelf$Tree;ILPathShelf$Row;)V"⟩, prog_3_method_7_code, 5, none, 1, 4, [646, 645, 25, 74])
def mi_E_splice : Mi_ := (⟨"PathShelf$Editor", "splice", "(LPathShelf$Tree;)Z"⟩, prog_3_method_10_code, 6, some .boolean, 1, 2, [651, 650, 26, 74])
def mi_P_count : Mi_ := (⟨"PathShelf", "count", "()I"⟩, prog_1_method_20_code, 1, some .int, 1, 1, [657, 655, 656, 68])
def mi_M_init : Mi_ := (⟨"PathShelfModel", "<init>", "()V"⟩, prog_10_method_1_code, 1, none, 2, 1, [662, 661, 0, 76])
def mi_M_put : Mi_ := (⟨"PathShelfModel", "put", "(II)Z"⟩, prog_10_method_3_code, 4, some .boolean, 1, 3, [745, 743, 744, 76])
def mi_M_in : Mi_ := (⟨"PathShelfModel", "in", "(III)Z"⟩, prog_10_method_2_code, 3, some .boolean, 0, 3, [748, 747, 0, 76])
def mi_M_set : Mi_ := (⟨"PathShelfModel", "set", "(II)Z"⟩, prog_10_method_4_code, 3, some .boolean, 1, 3, [752, 750, 751, 76])
def mi_M_cut : Mi_ := (⟨"PathShelfModel", "cut", "(I)Z"⟩, prog_10_method_5_code, 2, some .boolean, 1, 2, [756, 754, 755, 76])
def mi_M_size : Mi_ := (⟨"PathShelfModel", "size", "()I"⟩, prog_10_method_6_code, 1, some .int, 1, 1, [760, 758, 759, 76])
def mi_M_at : Mi_ := (⟨"PathShelfModel", "at", "(I)I"⟩, prog_10_method_7_code, 2, some .int, 1, 2, [764, 762, 763, 76])
def mi_M_path : Mi_ := (⟨"PathShelfModel", "path", "(II)Z"⟩, prog_10_method_10_code, 3, some .boolean, 1, 3, [768, 766, 767, 76])
def mi_M_name : Mi_ := (⟨"PathShelfModel", "name", "(III)Z"⟩, prog_10_method_9_code, 6, some .boolean, 1, 4, [772, 771, 27, 76])
def mi_M_isLetter : Mi_ := (⟨"PathShelfModel", "isLetter", "(I)Z"⟩, prog_10_method_8_code, 1, some .boolean, 0, 1, [775, 774, 0, 76])
def mi_M_step : Mi_ := (⟨"PathShelfModel", "step", "(II)Z"⟩, prog_10_method_11_code, 3, some .boolean, 1, 3, [779, 777, 778, 76])
def mi_M_insert : Mi_ := (⟨"PathShelfModel", "insert", "()I"⟩, prog_10_method_26_code, 5, some .int, 1, 1, [783, 781, 782, 76])
def mi_M_read : Mi_ := (⟨"PathShelfModel", "read", "(III)I"⟩, prog_10_method_22_code, 9, some .int, 1, 4, [787, 786, 28, 76])
def mi_M_wrong : Mi_ := (⟨"PathShelfModel", "wrong", "(I)Z"⟩, prog_10_method_19_code, 2, some .boolean, 1, 2, [791, 790, 29, 76])
def mi_M_readPlain : Mi_ := (⟨"PathShelfModel", "readPlain", "(III)I"⟩, prog_10_method_23_code, 6, some .int, 1, 4, [795, 794, 30, 76])
def mi_M_readText : Mi_ := (⟨"PathShelfModel", "readText", "(II)I"⟩, prog_10_method_20_code, 4, some .int, 1, 3, [799, 798, 31, 76])
def mi_M_readName : Mi_ := (⟨"PathShelfModel", "readName", "(III)I"⟩, prog_10_method_21_code, 9, some .int, 1, 4, [803, 802, 32, 76])
def mi_M_nameEnd : Mi_ := (⟨"PathShelfModel", "nameEnd", "(I)I"⟩, prog_10_method_15_code, 3, some .int, 1, 2, [807, 806, 33, 76])
def mi_M_behind : Mi_ := (⟨"PathShelfModel", "behind", "(II)I"⟩, prog_10_method_14_code, 3, some .int, 1, 3, [811, 810, 34, 76])
def mi_M_numberAt : Mi_ := (⟨"PathShelfModel", "numberAt", "(I)I"⟩, prog_10_method_25_code, 4, some .int, 1, 2, [815, 814, 35, 76])
def mi_M_value : Mi_ := (⟨"PathShelfModel", "value", "(I)I"⟩, prog_10_method_17_code, 3, some .int, 1, 2, [819, 818, 36, 76])
def mi_M_holder : Mi_ := (⟨"PathShelfModel", "holder", "(I)I"⟩, prog_10_method_24_code, 4, some .int, 1, 2, [825, 824, 37, 76])
def mi_M_move : Mi_ := (⟨"PathShelfModel", "move", "(II)V"⟩, prog_10_method_27_code, 4, none, 1, 3, [829, 828, 38, 76])
def mi_M_fetch : Mi_ := (⟨"PathShelfModel", "fetch", "(I)I"⟩, prog_10_method_28_code, 4, some .int, 1, 2, [833, 831, 832, 76])
def mi_M_remove : Mi_ := (⟨"PathShelfModel", "remove", "(I)Z"⟩, prog_10_method_29_code, 4, some .boolean, 1, 2, [837, 835, 836, 76])
def mi_M_count : Mi_ := (⟨"PathShelfModel", "count", "()I"⟩, prog_10_method_30_code, 1, some .int, 1, 1, [841, 839, 840, 76])
def mi_M_index : Mi_ := (⟨"PathShelfModel", "index", "(I)Z"⟩, prog_10_method_38_code, 2, some .boolean, 1, 2, [845, 843, 844, 76])
def mi_M_copyPath : Mi_ := (⟨"PathShelfModel", "copyPath", "(II)V"⟩, prog_10_method_12_code, 4, none, 1, 3, [849, 848, 39, 76])
def mi_M_entries : Mi_ := (⟨"PathShelfModel", "entries", "(I)I"⟩, prog_10_method_39_code, 8, some .int, 1, 2, [853, 851, 852, 76])
def mi_M_gather : Mi_ := (⟨"PathShelfModel", "gather", "(II)I"⟩, prog_10_method_37_code, 5, some .int, 1, 3, [857, 856, 40, 76])
def mi_M_come : Mi_ := (⟨"PathShelfModel", "come", "(II)I"⟩, prog_10_method_36_code, 6, some .int, 1, 3, [861, 860, 41, 76])
def mi_M_lead : Mi_ := (⟨"PathShelfModel", "lead", "(IIII)V"⟩, prog_10_method_33_code, 6, none, 1, 5, [865, 864, 42, 76])
def mi_M_seek : Mi_ := (⟨"PathShelfModel", "seek", "(III)I"⟩, prog_10_method_32_code, 8, some .int, 1, 4, [869, 868, 43, 76])
def mi_M_isName : Mi_ := (⟨"PathShelfModel", "isName", "(III)Z"⟩, prog_10_method_31_code, 7, some .boolean, 1, 4, [873, 872, 44, 76])
def mi_M_items : Mi_ := (⟨"PathShelfModel", "items", "(III)V"⟩, prog_10_method_34_code, 6, none, 1, 4, [877, 876, 45, 76])
def mi_M_turn : Mi_ := (⟨"PathShelfModel", "turn", "()V"⟩, prog_10_method_35_code, 2, none, 1, 1, [881, 880, 46, 76])
def mi_M_equal : Mi_ := (⟨"PathShelfModel", "equal", "(IIII)Z"⟩, prog_10_method_16_code, 8, some .boolean, 1, 5, [885, 884, 47, 76])
def mi_M_where : Mi_ := (⟨"PathShelfModel", "where", "(I)I"⟩, prog_10_method_40_code, 4, some .int, 1, 2, [889, 887, 888, 76])
def mi_M_anywhere : Mi_ := (⟨"PathShelfModel", "anywhere", "()I"⟩, prog_10_method_41_code, 2, some .int, 1, 1, [893, 891, 892, 76])
def mi_M_find : Mi_ := (⟨"PathShelfModel", "find", "()I"⟩, prog_10_method_48_code, 2, some .int, 1, 1, [897, 895, 896, 76])
def mi_M_match : Mi_ := (⟨"PathShelfModel", "match", "()V"⟩, prog_10_method_47_code, 5, none, 1, 1, [901, 900, 48, 76])
def mi_M_uses : Mi_ := (⟨"PathShelfModel", "uses", "(I)Z"⟩, prog_10_method_46_code, 4, some .boolean, 1, 2, [905, 904, 49, 76])
def mi_M_samePath : Mi_ := (⟨"PathShelfModel", "samePath", "(II)Z"⟩, prog_10_method_13_code, 5, some .boolean, 1, 3, [909, 908, 50, 76])
def mi_M_holds : Mi_ := (⟨"PathShelfModel", "holds", "(II)Z"⟩, prog_10_method_45_code, 5, some .boolean, 1, 3, [913, 912, 51, 76])
def mi_M_isEqual : Mi_ := (⟨"PathShelfModel", "isEqual", "(II)Z"⟩, prog_10_method_42_code, 7, some .boolean, 1, 3, [917, 916, 52, 76])
def mi_M_isCompared : Mi_ := (⟨"PathShelfModel", "isCompared", "(II)Z"⟩, prog_10_method_43_code, 9, some .boolean, 1, 3, [921, 920, 53, 76])
def mi_M_compare : Mi_ := (⟨"PathShelfModel", "compare", "(III)I"⟩, prog_10_method_18_code, 7, some .int, 1, 4, [925, 924, 54, 76])
def mi_M_isLong : Mi_ := (⟨"PathShelfModel", "isLong", "(II)Z"⟩, prog_10_method_44_code, 7, some .boolean, 1, 3, [929, 928, 55, 76])
def mi_M_found : Mi_ := (⟨"PathShelfModel", "found", "(I)I"⟩, prog_10_method_49_code, 2, some .int, 1, 2, [933, 931, 932, 76])
def mi_M_examined : Mi_ := (⟨"PathShelfModel", "examined", "()I"⟩, prog_10_method_50_code, 1, some .int, 1, 1, [937, 935, 936, 76])
def mi_M_change : Mi_ := (⟨"PathShelfModel", "change", "(I)I"⟩, prog_10_method_62_code, 8, some .int, 1, 2, [941, 939, 940, 76])
def mi_M_operate : Mi_ := (⟨"PathShelfModel", "operate", "(I)Z"⟩, prog_10_method_61_code, 7, some .boolean, 1, 2, [945, 944, 56, 76])
def mi_M_go : Mi_ := (⟨"PathShelfModel", "go", "()I"⟩, prog_10_method_57_code, 5, some .int, 1, 1, [949, 948, 57, 76])
def mi_M_arrive : Mi_ := (⟨"PathShelfModel", "arrive", "(II)V"⟩, prog_10_method_56_code, 9, none, 1, 3, [953, 952, 58, 76])
def mi_M_nameSize : Mi_ := (⟨"PathShelfModel", "nameSize", "(I)I"⟩, prog_10_method_54_code, 4, some .int, 1, 2, [957, 956, 59, 76])
def mi_M_addName : Mi_ := (⟨"PathShelfModel", "addName", "(II)V"⟩, prog_10_method_53_code, 5, none, 1, 3, [961, 960, 60, 76])
def mi_M_add : Mi_ := (⟨"PathShelfModel", "add", "(I)V"⟩, prog_10_method_52_code, 2, none, 1, 2, [965, 964, 61, 76])
def mi_M_addOperand : Mi_ := (⟨"PathShelfModel", "addOperand", "(Z)V"⟩, prog_10_method_55_code, 3, none, 1, 2, [969, 968, 62, 76])
def mi_M_splice : Mi_ := (⟨"PathShelfModel", "splice", "(IIII)V"⟩, prog_10_method_51_code, 8, none, 1, 5, [973, 972, 63, 76])
def mi_M_setIt : Mi_ := (⟨"PathShelfModel", "setIt", "(I)V"⟩, prog_10_method_58_code, 4, none, 1, 2, [977, 976, 64, 76])
def mi_M_addIt : Mi_ := (⟨"PathShelfModel", "addIt", "(I)Z"⟩, prog_10_method_59_code, 4, some .boolean, 1, 2, [981, 980, 65, 76])
def mi_M_pull : Mi_ := (⟨"PathShelfModel", "pull", "(I)V"⟩, prog_10_method_60_code, 4, none, 1, 2, [985, 984, 66, 76])
def miL : List Mi_ := [mi_P_init, mi_R_init, mi_H_init, mi_S_init, mi_T_init, mi_L_init, mi_E_init, mi_C_init, mi_P_put, mi_R_add, mi_P_set, mi_P_cut, mi_P_size, mi_P_at, mi_R_cell, mi_P_path, mi_P_nameOf, mi_H_add, mi_P_step, mi_P_insert, mi_T_readDocument, mi_T_begin, mi_T_addNode, mi_T_readContent, mi_T_faultAt, mi_T_readBytes, mi_T_readOn, mi_T_closeNest, mi_T_readPart, mi_T_readName, mi_T_element, mi_T_documentNumber, mi_R_signedNumber, mi_S_placeOf, mi_S_keep, mi_R_become, mi_R_addPart, mi_P_fetch, mi_P_remove, mi_S_drop, mi_P_index, mi_H_become, mi_P_entries, mi_L_follow, mi_L_goOn, mi_H_name, mi_L_note, mi_L_entryTotal, mi_L_isNew, mi_T_areEqual, mi_P_where, mi_T_readOperand, mi_C_become, mi_P_anywhere, mi_P_find, mi_P_seek, mi_P_leadingCondition, mi_C_suitsIndex, mi_P_hasIndex, mi_H_isSame, mi_C_holds, mi_C_someIsEqual, mi_T_isEqual, mi_R_compare, mi_C_someHasSize, mi_T_itemTotal, mi_C_someComparesSo, mi_C_difference, mi_C_isSo, mi_P_found, mi_P_examined, mi_P_change, mi_H_isOnly, mi_E_apply, mi_E_aim, mi_E_writeNew, mi_E_openNest, mi_R_addName, mi_H_lastName, mi_E_writeElement, mi_E_alter, mi_E_writeSum, mi_E_writeOthers, mi_E_splice, mi_P_count, mi_M_init, mi_M_put, mi_M_in, mi_M_set, mi_M_cut, mi_M_size, mi_M_at, mi_M_path, mi_M_name, mi_M_isLetter, mi_M_step, mi_M_insert, mi_M_read, mi_M_wrong, mi_M_readPlain, mi_M_readText, mi_M_readName, mi_M_nameEnd, mi_M_behind, mi_M_numberAt, mi_M_value, mi_M_holder, mi_M_move, mi_M_fetch, mi_M_remove, mi_M_count, mi_M_index, mi_M_copyPath, mi_M_entries, mi_M_gather, mi_M_come, mi_M_lead, mi_M_seek, mi_M_isName, mi_M_items, mi_M_turn, mi_M_equal, mi_M_where, mi_M_anywhere, mi_M_find, mi_M_match, mi_M_uses, mi_M_samePath, mi_M_holds, mi_M_isEqual, mi_M_isCompared, mi_M_compare, mi_M_isLong, mi_M_found, mi_M_examined, mi_M_change, mi_M_operate, mi_M_go, mi_M_arrive, mi_M_nameSize, mi_M_addName, mi_M_add, mi_M_addOperand, mi_M_splice, mi_M_setIt, mi_M_addIt, mi_M_pull]
def nsL : List (String × Nat × MethodName × String) := [("PathShelf", 20, ⟨"PathShelf$Path", "<init>", "()V"⟩, "PathShelf"), ("PathShelf", 44, ⟨"PathShelf$Tree", "<init>", "()V"⟩, "PathShelf"), ("PathShelf", 51, ⟨"PathShelf$Trail", "<init>", "()V"⟩, "PathShelf"), ("PathShelf", 58, ⟨"PathShelf$Editor", "<init>", "()V"⟩, "PathShelf"), ("PathShelf$Editor", 25, ⟨"PathShelf$Tree", "<init>", "()V"⟩, "PathShelf"), ("PathShelf", 70, ⟨"PathShelf$Condition", "<init>", "()V"⟩, "PathShelf"), ("PathShelf$Condition", 11, ⟨"PathShelf$Path", "<init>", "()V"⟩, "PathShelf")]
def aoL : List String := [Rn1, Rn3, Rn4]
def ciL : List Nat := [68, 75, 74, 70, 69, 71, 73, 72, 76]
def clI : List (List Nat) := [[300, 302, 304, 306, 308, 310, 312, 314, 316, 318, 320, 322, 324, 326], [279, 281, 283], [249, 251, 253, 255, 257, 259, 261, 263], [117, 119], [100, 102], [137, 139, 141], [221, 223, 225, 227], [183, 185, 187, 189, 191, 193, 195, 197, 199, 201, 203, 205], [689, 691, 693, 695, 697, 699, 701, 703, 705, 707, 709, 711, 713, 715, 717, 719, 721, 723, 725, 727, 729, 731, 733, 735, 737, 739]]
end
section
/-! THE ABSTRACT MACHINE, second half: one instruction, and the run. (Goes behind the code tables: mtL.)
G: the script (length, ints), which the law has as the value .retAddr 0. k: this method goes on; call: a callee's run; nat: is there room for a native's frame. -/
abbrev Kn_ : Type := Nat → List (Option Value) → List Value → Mm_ → Option Out_
def am_inv (k : Kn_) (call : Nat → List Value → Mm_ → Option Out_) (e : En_) (L : List (Option Value)) (st : List Value) (M : Mm_) : Option Out_ :=
  cond (Nat.ble (st.drop e.2.2.2.2.1).length 8 && Nat.ble e.2.2.2.2.1 st.length) ((call e.2.2.2.1 (st.take e.2.2.2.2.1).reverse M).bind fun o => k (e.1 + 3) L (o.1.toList ++ st.drop e.2.2.2.2.1) o.2) none
def am_recv (M : Mm_) (e : En_) (st : List Value) : Bool := match (st.take e.2.2.2.2.1).reverse, e.2.2.2.2.2.2 with
  | .ref b :: _, q :: _ => am_okO M b q.2
  | _, _ => false
def am_sw (k : Nat → Option Out_) (x : Int32) (d : Nat) : List (Int × Nat) → Option Out_
  | [] => k d
  | q :: r => if x = zI q.1 then k q.2 else am_sw k x d r
def am_ld (k : Kn_) (i n : Nat) (e : En_) (L : List (Option Value)) (st : List Value) (M : Mm_) : Option Out_ := match L[i]? with
  | some (some (.int x)) => k (e.1 + n) L (.int x :: st) M
  | _ => none
def am_ldA (k : Kn_) (i n : Nat) (e : En_) (L : List (Option Value)) (st : List Value) (M : Mm_) : Option Out_ := match L[i]? with
  | some (some (.ref x)) => k (e.1 + n) L (.ref x :: st) M
  | some (some (.retAddr x)) => k (e.1 + n) L (.retAddr x :: st) M
  | _ => none
def am_stI (k : Kn_) (i n : Nat) (e : En_) (L : List (Option Value)) (st : List Value) (M : Mm_) : Option Out_ :=
  sI st fun x r => cond (Nat.blt i L.length) (k (e.1 + n) (L.set i (some (.int x))) r M) none
def am_stA (k : Kn_) (i n : Nat) (e : En_) (L : List (Option Value)) (st : List Value) (M : Mm_) : Option Out_ :=
  sR st fun x r => cond (Nat.blt i L.length) (k (e.1 + n) (L.set i (some (.ref x))) r M) none
def am_bin (k : Kn_) (f : Int32 → Int32 → Int32) (e : En_) (L : List (Option Value)) (st : List Value) (M : Mm_) : Option Out_ :=
  sII st fun x y r => k (e.1 + 1) L (.int (f x y) :: r) M
def am_if0 (k : Kn_) (c : ClassFile.Cond) (e : En_) (L : List (Option Value)) (st : List Value) (M : Mm_) : Option Out_ := sI st fun x r => match c with
    | .eq => if x = 0 then k e.2.2.2.1 L r M else k (e.1 + 3) L r M
    | .ne => if x = 0 then k (e.1 + 3) L r M else k e.2.2.2.1 L r M
    | .lt => if x < 0 then k e.2.2.2.1 L r M else k (e.1 + 3) L r M
    | .ge => if x < 0 then k (e.1 + 3) L r M else k e.2.2.2.1 L r M
    | .gt => if 0 < x then k e.2.2.2.1 L r M else k (e.1 + 3) L r M
    | .le => if 0 < x then k (e.1 + 3) L r M else k e.2.2.2.1 L r M
def am_if2 (k : Kn_) (c : ClassFile.Cond) (e : En_) (L : List (Option Value)) (st : List Value) (M : Mm_) : Option Out_ := sII st fun x y r => match c with
    | .eq => if x = y then k e.2.2.2.1 L r M else k (e.1 + 3) L r M
    | .ne => if x = y then k (e.1 + 3) L r M else k e.2.2.2.1 L r M
    | .lt => if x < y then k e.2.2.2.1 L r M else k (e.1 + 3) L r M
    | .ge => if x < y then k (e.1 + 3) L r M else k e.2.2.2.1 L r M
    | .gt => if y < x then k e.2.2.2.1 L r M else k (e.1 + 3) L r M
    | .le => if y < x then k (e.1 + 3) L r M else k e.2.2.2.1 L r M
def am_iinc (k : Kn_) (i : Nat) (c : Int) (e : En_) (L : List (Option Value)) (st : List Value) (M : Mm_) : Option Out_ := match L[i]? with
  | some (some (.int x)) => k (e.1 + 3) (L.set i (some (.int (x + zI c)))) st M
  | _ => none
def am_ldc (k : Kn_) (e : En_) (L : List (Option Value)) (st : List Value) (M : Mm_) : Option Out_ := match e.2.2.2.2.2.2 with
  | q :: _ => k (e.1 + 2) L (.int (zI q.1) :: st) M
  | [] => none
def am_dup (k : Kn_) (e : En_) (L : List (Option Value)) (st : List Value) (M : Mm_) : Option Out_ := match st with
  | .int x :: q => k (e.1 + 1) L (.int x :: .int x :: q) M
  | .ref x :: q => k (e.1 + 1) L (.ref x :: .ref x :: q) M
  | _ => none
def am_put (k : Kn_) (e : En_) (L : List (Option Value)) (st : List Value) (M : Mm_) : Option Out_ := match st with
  | .int x :: .ref a :: q => cond (am_okP M a e.2.2.2.1 e.2.2.2.2.1 0) (k (e.1 + 3) L q (am_setI M a e.2.2.2.2.1 x)) none
  | .ref b :: .ref a :: q => cond (am_okP M a e.2.2.2.1 e.2.2.2.2.1 1) (k (e.1 + 3) L q (am_setR M a e.2.2.2.2.1 b)) none
  | _ => none
def am_iald (G : Nat × (Nat → Int32)) (k : Kn_) (e : En_) (L : List (Option Value)) (st : List Value) (M : Mm_) : Option Out_ := match st with
  | .int i :: .ref a :: q => cond (am_okA M a 0 i) (k (e.1 + 1) L (.int (M.2.1 a i.toNatClampNeg) :: q) M) none
  | .int i :: .retAddr _ :: q => cond (am_in i G.1) (k (e.1 + 1) L (.int (G.2 i.toNatClampNeg) :: q) M) none
  | _ => none
def am_alen (G : Nat × (Nat → Int32)) (k : Kn_) (e : En_) (L : List (Option Value)) (st : List Value) (M : Mm_) : Option Out_ := match st with
  | .ref a :: q => cond (am_len M a).isSome (k (e.1 + 1) L (.int (zI ((am_len M a).getD 0)) :: q) M) none
  | .retAddr _ :: q => k (e.1 + 1) L (.int (zI G.1) :: q) M
  | _ => none
def am_cpy (k : Kn_) (nat : Bool) (e : En_) (L : List (Option Value)) (st : List Value) (M : Mm_) : Option Out_ := match st with
  | .int n :: .int dp :: .ref b :: .int sp :: .ref a :: q => cond (nat && Nat.ble q.length 8 && am_okC M a b sp dp n) (k (e.1 + 3) L q (am_copy M a b sp.toNatClampNeg dp.toNatClampNeg n.toNatClampNeg)) none
  | _ => none
def am_iret (r : Nat) (st : List Value) (M : Mm_) : Option Out_ := match st with
  | [.int x] => cond (Nat.beq r 1 || (Nat.beq r 2 && am_bit x)) (some (some (.int x), M)) none
  | _ => none
def am_vret (r : Nat) (st : List Value) (M : Mm_) : Option Out_ := match st with
  | [] => cond (Nat.beq r 0) (some (none, M)) none
  | _ => none
def am_step (G : Nat × (Nat → Int32)) (r : Nat) (k : Kn_) (call : Nat → List Value → Mm_ → Option Out_) (nat : Bool) (e : En_) (L : List (Option Value)) (st : List Value) (M : Mm_) : Option Out_ :=
  match e.2.1 with
  | .iconst n => k (e.1 + 1) L (.int (zI n) :: st) M
  | .bipush n => k (e.1 + 2) L (.int (zI n) :: st) M
  | .sipush n => k (e.1 + 3) L (.int (zI n) :: st) M
  | .ldc _ => am_ldc k e L st M
  | .iload i => am_ld k i 2 e L st M
  | .iload_n i => am_ld k i.val 1 e L st M
  | .aload i => am_ldA k i 2 e L st M
  | .aload_n i => am_ldA k i.val 1 e L st M
  | .istore i => am_stI k i 2 e L st M
  | .istore_n i => am_stI k i.val 1 e L st M
  | .astore i => am_stA k i 2 e L st M
  | .astore_n i => am_stA k i.val 1 e L st M
  | .iinc i c => am_iinc k i c e L st M
  | .iadd => am_bin k (fun x y => x + y) e L st M
  | .isub => am_bin k (fun x y => x - y) e L st M
  | .imul => am_bin k (fun x y => x * y) e L st M
  | .iand => am_bin k (fun x y => x &&& y) e L st M
  | .ior => am_bin k (fun x y => x ||| y) e L st M
  | .ishl => am_bin k (fun x y => x <<< (y &&& 31)) e L st M
  | .ishr => am_bin k (fun x y => x >>> (y &&& 31)) e L st M
  | .iushr => am_bin k am_ushr e L st M
  | .i2s => sI st fun x q => k (e.1 + 1) L (.int x.toInt16.toInt32 :: q) M
  | .dup => am_dup k e L st M
  | .dup2 => sIR st fun y x q => k (e.1 + 1) L (.int y :: .ref x :: .int y :: .ref x :: q) M
  | .pop => sI st fun _ q => k (e.1 + 1) L q M
  | .goto _ => k e.2.2.2.1 L st M
  | .ifCond c _ => am_if0 k c e L st M
  | .if_icmp c _ => am_if2 k c e L st M
  | .tableswitch _ _ _ _ => sI st fun x q => am_sw (fun t => k t L q M) x e.2.2.2.1 e.2.2.2.2.2.2
  | .getfield _ => sR st fun a q => cond (am_okF M a e.2.2.2.1 e.2.2.2.2.1) (am_get M a e.2.2.2.1 e.2.2.2.2.1 fun v => k (e.1 + 3) L (v :: q) M) none
  | .putfield _ => am_put k e L st M
  | .iaload => am_iald G k e L st M
  | .baload => sIR st fun i a q => cond (am_okA M a 1 i) (k (e.1 + 1) L (.int (M.2.1 a i.toNatClampNeg) :: q) M) none
  | .aaload => sIR st fun i a q => cond (am_okQ M a i) (cond (M.2.2 a i.toNatClampNeg).isSome (k (e.1 + 1) L (.ref ((M.2.2 a i.toNatClampNeg).getD 0) :: q) M) none) none
  | .iastore => sIIR st fun x i a q => cond (am_okA M a 0 i) (k (e.1 + 1) L q (am_setI M a i.toNatClampNeg x)) none
  | .bastore => sIIR st fun x i a q => cond (am_okA M a 1 i) (k (e.1 + 1) L q (am_setI M a i.toNatClampNeg (x &&& 1))) none
  | .aastore => sRIR st fun v i a q => cond (am_okS M a v i) (k (e.1 + 1) L q (am_setR M a i.toNatClampNeg v)) none
  | .arraylength => am_alen G k e L st M
  | .new _ => k (e.1 + 3) L (.ref M.1.length :: st) (am_new M (.inl e.2.2.2.1))
  | .newarray _ => sI st fun x q => cond (am_in x 4000) (k (e.1 + 2) L (.ref M.1.length :: q) (am_new M (.inr (e.2.2.2.1, x.toNatClampNeg)))) none
  | .anewarray _ => sI st fun x q => cond (am_in x 4000) (k (e.1 + 3) L (.ref M.1.length :: q) (am_new M (.inr (e.2.2.2.1 + 2, x.toNatClampNeg)))) none
  | .invokevirtual _ => cond (am_recv M e st) (am_inv k call e L st M) none
  | .invokespecial _ => cond (Nat.beq e.2.2.2.1 900) (sR st fun _ q => cond (nat && Nat.ble q.length 8) (k (e.1 + 3) L q M) none) (cond (am_recv M e st) (am_inv k call e L st M) none)
  | .invokestatic _ => cond (Nat.beq e.2.2.2.1 901) (am_cpy k nat e L st M) (am_inv k call e L st M)
  | .ireturn => am_iret r st M
  | .return_ => am_vret r st M
  | _ => none
def am_loc (n : Nat) (as : List Value) : List (Option Value) := as.map some ++ List.replicate (n - as.length) none
def am_run (G : Nat × (Nat → Int32)) : Nat → Nat → Mt_ → Nat → List (Option Value) → List Value → Mm_ → Option Out_
  | 0, _, _, _, _, _, _ => none
  | n + 1, d, mt, pc, L, st, M => (am_fd pc mt.1).bind fun e => am_step G mt.2 (fun pc' L' st' M' => am_run G n d mt pc' L' st' M')
      (match d with
        | 0 => fun _ _ _ => none
        | d' + 1 => fun y as M' => (mtL[y]?).bind fun q => am_run G n d' q.1 0 (am_loc q.2.2 as) [] M')
      (match d with
        | 0 => false
        | _ + 1 => true) e L st M
def am_cl (G : Nat × (Nat → Int32)) (n d y : Nat) (as : List Value) (M : Mm_) : Option Out_ := (mtL[y]?).bind fun q => am_run G n d q.1 0 (am_loc q.2.2 as) [] M
end
section
/-! THE RELATION of the abstract memory to the machine's heap -/
def cV (base b : Nat) : Value → Value
  | .int x => .int x
  | .ref a => .ref (base + a)
  | .retAddr _ => .ref b
  | _ => .null
theorem cV_cat (base b : Nat) (v : Value) : (cV base b v).category = 1 := by cases v <;> rfl
theorem cV_sum (base b : Nat) (q : List Value) : ((q.map (cV base b)).map fun v => v.category).sum = q.length := by
  induction q with
  | nil => rfl
  | cons v q ih => simp only [List.map_cons, List.sum_cons, cV_cat, ih, List.length_cons]; omega
def cR (base : Nat) (r : Option Nat) : Option Nat := r.map (fun a => base + a)
def nfT (c : Nat) : Nat := ((cls_[c]?).map (fun q => q.2.2)).getD 0
def cF (base : Nat) (I : Nat → Int32) (F : Nat → Option Nat) (c j : Nat) : Value := if fkT c j = 0 then .int (I j) else va_rf (cR base (F j))
def cO (base : Nat) (I : Nat → Int32) (F : Nat → Option Nat) (c : Nat) : List Value := (List.range (nfT c)).map (cF base I F c)
def cE (K : Nat → ClassId) (base : Nat) (I : Nat → Int32) (F : Nat → Option Nat) : Sh_ → va_E
  | .inl c => .inr (c, cO base I F c)
  | .inr (0, n) => .inl (K 0, n, .inl I)
  | .inr (1, n) => .inl (K 1, n, .inl I)
  | .inr (t + 2, n) => .inl (K (t + 2), n, .inr (.inr (.inr (.inr (fun j => cR base (F j))))))
def am_szh : Sh_ → Nat
  | .inl c => nfT c
  | .inr q => q.2
def am_sz (l : List Sh_) : Nat := (l.map am_szh).sum
theorem am_sz_app (l r : List Sh_) : am_sz (l ++ r) = am_sz l + am_sz r := by simp [am_sz]
theorem am_sz_one (x : Sh_) : am_sz [x] = am_szh x := by simp [am_sz]
theorem cO_get {base c j : Nat} {I : Nat → Int32} {F : Nat → Option Nat} (h : j < nfT c) : (cO base I F c)[j]? = some (cF base I F c j) := by
  simp [cO, List.getElem?_map, List.getElem?_range h]
theorem cO_len {base c : Nat} {I : Nat → Int32} {F : Nat → Option Nat} : (cO base I F c).length = nfT c := by simp [cO]
theorem cO_V {base c j : Nat} {I : Nat → Int32} {F : Nat → Option Nat} (h : j < nfT c) : vp_V (cO base I F c) j = cF base I F c j := by
  simp [vp_V, List.getD_eq_getElem?_getD, cO_get h]
def am_R (D : va_G) (K : Nat → ClassId) (base b : Nat) (G : Nat × (Nat → Int32)) (s : State) (M : Mm_) (H : Heap) : Prop :=
  H.size = base + M.1.length ∧ (∀ (a : Nat) (x : Sh_), M.1[a]? = some x → va_at D cls_ (base + a, cE K base (M.2.1 a) (M.2.2 a) x) H) ∧ va_X b G.1 G.2 s H
section SDR
variable {D : va_G} {K : Nat → ClassId} {base b : Nat} {G : Nat × (Nat → Int32)} {s : State} {M : Mm_} {H : Heap}
theorem am_R.one (h : am_R D K base b G s M H) {a : Nat} {x : Sh_} (ha : M.1[a]? = some x) : va_P D cls_ [(base + a, cE K base (M.2.1 a) (M.2.2 a) x)] H := by
  intro k q hk
  cases k with
  | zero => cases hk; exact h.2.1 a x ha
  | succ k => simp at hk
theorem am_R.two (h : am_R D K base b G s M H) {a a' : Nat} {x x' : Sh_} (ha : M.1[a]? = some x) (ha' : M.1[a']? = some x') : va_P D cls_ [(base + a, cE K base (M.2.1 a) (M.2.2 a) x), (base + a', cE K base (M.2.1 a') (M.2.2 a') x')] H := by
  intro k q hk
  rcases k with _ | _ | k
  · cases hk; exact h.2.1 a x ha
  · cases hk; exact h.2.1 a' x' ha'
  · simp at hk
theorem am_R.moved {U : State} (hvm : s.vm.Alike U.vm) (h : am_R D K base b G s M H) : am_R D K base b G U M H := ⟨h.1, h.2.1, h.2.2.moved hvm⟩
theorem am_R.write {M' : Mm_} {H' : Heap} {a : Nat} {x : Sh_} (h : am_R D K base b G s M H) (hb : b < base) (ha : M.1[a]? = some x) (hsh : M'.1 = M.1) (hI : ∀ q, q ≠ a → M'.2.1 q = M.2.1 q) (hF : ∀ q, q ≠ a → M'.2.2 q = M.2.2 q)
    (hz : H'.size = H.size) (ho : ∀ q : Nat, q ≠ base + a → H'[q]? = H[q]?) (hn : va_at D cls_ (base + a, cE K base (M'.2.1 a) (M'.2.2 a) x) H') : am_R D K base b G s M' H' := by
  refine ⟨by rw [hz, h.1, hsh], fun q y hq => ?_, h.2.2.kept (ho b (by omega))⟩
  rw [hsh] at hq
  by_cases e : q = a
  · subst e
    rw [ha] at hq
    cases hq
    exact hn
  · rw [hI q e, hF q e]
    exact (h.2.1 q y hq).kept (ho (base + q) (by omega))
theorem am_R.push {H' : Heap} {x : Sh_} (h : am_R D K base b G s M H) (hb : b < base) (hz : H'.size = H.size + 1) (ho : ∀ q : Nat, q < H.size → H'[q]? = H[q]?) (hn : va_at D cls_ (H.size, cE K base (fun _ => 0) (fun _ => none) x) H') : am_R D K base b G s (am_new M x) H' := by
  have hs := h.1
  refine ⟨by rw [hz, hs]; simp [am_new]; omega, fun q y hq => ?_, h.2.2.kept (ho b (by omega))⟩
  by_cases e : q < M.1.length
  · have e0 : q ≠ M.1.length := Nat.ne_of_lt e
    have e1 : (am_new M x).1[q]? = M.1[q]? := List.getElem?_append_left e
    have e2 : (am_new M x).2.1 q = M.2.1 q := by funext j; simp [am_new, rw1, e0]
    have e3 : (am_new M x).2.2 q = M.2.2 q := by funext j; simp [am_new, rw1, e0]
    rw [e1] at hq
    rw [e2, e3]
    exact (h.2.1 q y hq).kept (ho (base + q) (by rw [hs]; omega))
  · have e1 : (am_new M x).1[q]? = [x][q - M.1.length]? := List.getElem?_append_right (by omega)
    rw [e1] at hq
    have hl : q - M.1.length < 1 := (List.getElem?_eq_some_iff.mp hq).1
    have e0 : q = M.1.length := by omega
    subst e0
    rw [Nat.sub_self] at hq
    cases hq
    have e2 : (am_new M x).2.1 M.1.length = fun _ => 0 := by funext j; simp [am_new, rw1]
    have e3 : (am_new M x).2.2 M.1.length = fun _ => none := by funext j; simp [am_new, rw1]
    rw [e2, e3, ← hs]
    exact hn
theorem am_R.lt (h : am_R D K base b G s M H) {a : Nat} {x : Sh_} (ha : M.1[a]? = some x) : base + a < H.size := by
  have := (List.getElem?_eq_some_iff.mp ha).1
  rw [h.1]; omega
end SDR
/-! indices -/
theorem am_in_of {i : Int32} {n : Nat} (h : am_in i n = true) : vp_in i n := by
  have h' : 0 ≤ i.toInt ∧ i.toInt < (n : Int) := of_decide_eq_true h
  rintro (q | q)
  · rw [Int32.lt_iff_toInt_lt, Int32.toInt_zero] at q
    omega
  · have : (i.toNatClampNeg : Int) = ((i.toInt.toNat : Nat) : Int) := rfl
    omega
theorem am_in_nn {i : Int32} {n : Nat} (h : am_in i n = true) : ¬ i < 0 := fun q => am_in_of h (Or.inl q)
theorem am_in_lt {i : Int32} {n : Nat} (h : am_in i n = true) : i.toNatClampNeg < n := Nat.not_le.mp fun q => am_in_of h (Or.inr q)
theorem am_okO_of {M : Mm_} {a c : Nat} (h : am_okO M a c = true) : M.1[a]? = some (.inl c) := of_decide_eq_true h
theorem am_okA_of {M : Mm_} {a t : Nat} {i : Int32} (h : am_okA M a t i = true) : ∃ n, M.1[a]? = some (.inr (t, n)) ∧ am_in i n = true := by
  unfold am_okA at h
  split at h
  · next t' n e =>
    rw [Bool.and_eq_true] at h
    have := Nat.eq_of_beq_eq_true h.1
    subst this
    exact ⟨n, e, h.2⟩
  · cases h
theorem am_okQ_of {M : Mm_} {a : Nat} {i : Int32} (h : am_okQ M a i = true) : ∃ t n j, M.1[a]? = some (.inr (t, n)) ∧ kqT t = some j ∧ am_in i n = true := by
  unfold am_okQ at h
  split at h
  · next t' n e =>
    rw [Bool.and_eq_true] at h
    obtain ⟨j, hj⟩ := Option.isSome_iff_exists.mp h.1
    exact ⟨t', n, j, e, hj, h.2⟩
  · cases h
theorem am_okS_of {M : Mm_} {a v : Nat} {i : Int32} (h : am_okS M a v i = true) : ∃ n c j, M.1[a]? = some (.inr (c + 2, n)) ∧ M.1[v]? = some (.inl c) ∧ kqT (c + 2) = some j ∧ am_in i n = true := by
  unfold am_okS at h
  split at h
  · next t' n c e e' =>
    rw [Bool.and_eq_true, Bool.and_eq_true] at h
    have := Nat.eq_of_beq_eq_true h.1.1
    subst this
    obtain ⟨j, hj⟩ := Option.isSome_iff_exists.mp h.1.2
    exact ⟨n, c, j, e, e', hj, h.2⟩
  · cases h
theorem am_okC_of {M : Mm_} {a b : Nat} {sp dp n : Int32} (h : am_okC M a b sp dp n = true) : ∃ x y, M.1[a]? = some (.inr (0, x)) ∧ M.1[b]? = some (.inr (0, y)) ∧ 0 ≤ sp.toInt ∧ 0 ≤ dp.toInt ∧ 0 ≤ n.toInt ∧ sp.toInt + n.toInt ≤ (x : Int) ∧ dp.toInt + n.toInt ≤ (y : Int) := by
  unfold am_okC at h
  split at h
  · next x y e e' => exact ⟨x, y, e, e', of_decide_eq_true h⟩
  · cases h
theorem am_len_of {M : Mm_} {a n : Nat} (h : am_len M a = some n) : ∃ t, M.1[a]? = some (.inr (t, n)) ∧ (t = 0 ∨ t = 1 ∨ ∃ j, kqT t = some j) := by
  unfold am_len at h
  split at h
  · next t n' e =>
    obtain ⟨h1, h2⟩ := cond_inv h
    cases h2
    refine ⟨t, e, ?_⟩
    rw [Bool.or_eq_true] at h1
    rcases h1 with h1 | h1
    · have := Nat.le_of_ble_eq_true h1
      omega
    · exact Or.inr (Or.inr (Option.isSome_iff_exists.mp h1))
  · cases h
/-! prefix: no run loses a cell -/
theorem am_step_mono {G : Nat × (Nat → Int32)} {r : Nat} {k : Kn_} {call : Nat → List Value → Mm_ → Option Out_} {nat : Bool} {L : List (Option Value)} {st : List Value} {M : Mm_} {o : Out_}
    {pc ln x1 x2 x3 : Nat} {i : Instr} {sw : List (Int × Nat)}
    (hk : ∀ pc L st M, k pc L st M = some o → M.1 <+: o.2.1) (hc : ∀ y as M o', call y as M = some o' → M.1 <+: o'.2.1)
    (h : am_step G r k call nat (pc, i, ln, x1, x2, x3, sw) L st M = some o) : M.1 <+: o.2.1 := by
  have ld : ∀ {j : Instr} {i n : Nat}, am_ld k i n (pc, j, ln, x1, x2, x3, sw) L st M = some o → M.1 <+: o.2.1 := fun h => by
    unfold am_ld at h
    split at h
    · exact hk _ _ _ _ h
    · cases h
  have ldA : ∀ {j : Instr} {i n : Nat}, am_ldA k i n (pc, j, ln, x1, x2, x3, sw) L st M = some o → M.1 <+: o.2.1 := fun h => by
    unfold am_ldA at h
    split at h
    · exact hk _ _ _ _ h
    · exact hk _ _ _ _ h
    · cases h
  have stI : ∀ {j : Instr} {i n : Nat}, am_stI k i n (pc, j, ln, x1, x2, x3, sw) L st M = some o → M.1 <+: o.2.1 := fun h => by
    obtain ⟨x, q, -, h⟩ := sI_inv h
    exact hk _ _ _ _ (cond_inv h).2
  have stA : ∀ {j : Instr} {i n : Nat}, am_stA k i n (pc, j, ln, x1, x2, x3, sw) L st M = some o → M.1 <+: o.2.1 := fun h => by
    obtain ⟨x, q, -, h⟩ := sR_inv h
    exact hk _ _ _ _ (cond_inv h).2
  have bin : ∀ {j : Instr} {f : Int32 → Int32 → Int32}, am_bin k f (pc, j, ln, x1, x2, x3, sw) L st M = some o → M.1 <+: o.2.1 := fun h => by
    obtain ⟨x, y, q, -, h⟩ := sII_inv h
    exact hk _ _ _ _ h
  have ite : ∀ (P : Prop) (_ : Decidable P) (u v : Option Out_), (if P then u else v) = some o → (u = some o → M.1 <+: o.2.1) → (v = some o → M.1 <+: o.2.1) → M.1 <+: o.2.1 := fun P _ u v h h1 h2 => by
    split at h
    · exact h1 h
    · exact h2 h
  have inv : ∀ {j : Instr}, am_inv k call (pc, j, ln, x1, x2, x3, sw) L st M = some o → M.1 <+: o.2.1 := fun h => by
    obtain ⟨-, h⟩ := cond_inv h
    obtain ⟨o', h1, h2⟩ := Option.bind_eq_some_iff.mp h
    exact (hc _ _ _ _ h1).trans (hk _ _ _ _ h2)
  have nw : ∀ {pc L st x}, k pc L st (am_new M x) = some o → M.1 <+: o.2.1 := fun h => (List.prefix_append _ _).trans (hk _ _ _ _ h)
  have sww : ∀ (x : Int32) (q : List Value) (d : Nat) (sw : List (Int × Nat)), am_sw (fun t => k t L q M) x d sw = some o → M.1 <+: o.2.1 := by
    intro x q d sw
    induction sw with
    | nil => exact fun h => hk _ _ _ _ h
    | cons a r ih => exact fun h => ite _ _ _ _ h (fun h => hk _ _ _ _ h) ih
  cases i with
  | iconst n => exact hk _ _ _ _ h
  | bipush n => exact hk _ _ _ _ h
  | sipush n => exact hk _ _ _ _ h
  | ldc n =>
    have h : am_ldc k (pc, .ldc n, ln, x1, x2, x3, sw) L st M = some o := h
    unfold am_ldc at h
    split at h
    · exact hk _ _ _ _ h
    · cases h
  | iload n => exact ld h
  | iload_n n => exact ld h
  | aload n => exact ldA h
  | aload_n n => exact ldA h
  | istore n => exact stI h
  | istore_n n => exact stI h
  | astore n => exact stA h
  | astore_n n => exact stA h
  | iinc n c =>
    have h : am_iinc k n c (pc, .iinc n c, ln, x1, x2, x3, sw) L st M = some o := h
    unfold am_iinc at h
    split at h
    · exact hk _ _ _ _ h
    · cases h
  | iadd => exact bin h
  | isub => exact bin h
  | imul => exact bin h
  | iand => exact bin h
  | ior => exact bin h
  | ishl => exact bin h
  | ishr => exact bin h
  | iushr => exact bin h
  | i2s => obtain ⟨x, q, -, h⟩ := sI_inv h; exact hk _ _ _ _ h
  | dup =>
    have h : am_dup k (pc, .dup, ln, x1, x2, x3, sw) L st M = some o := h
    unfold am_dup at h
    split at h
    · exact hk _ _ _ _ h
    · exact hk _ _ _ _ h
    · cases h
  | dup2 => obtain ⟨x, a, q, -, h⟩ := sIR_inv h; exact hk _ _ _ _ h
  | pop => obtain ⟨x, q, -, h⟩ := sI_inv h; exact hk _ _ _ _ h
  | goto n => exact hk _ _ _ _ h
  | ifCond c n =>
    obtain ⟨x, q, -, h⟩ := sI_inv h
    cases c <;> exact ite _ _ _ _ h (fun h => hk _ _ _ _ h) (fun h => hk _ _ _ _ h)
  | if_icmp c n =>
    obtain ⟨x, y, q, -, h⟩ := sII_inv h
    cases c <;> exact ite _ _ _ _ h (fun h => hk _ _ _ _ h) (fun h => hk _ _ _ _ h)
  | tableswitch a1 a2 a3 a4 => obtain ⟨x, q, -, h⟩ := sI_inv h; exact sww _ _ _ _ h
  | getfield n =>
    obtain ⟨a, q, -, h⟩ := sR_inv h
    obtain ⟨-, h⟩ := cond_inv h
    unfold am_get at h
    split at h
    · exact hk _ _ _ _ h
    · exact hk _ _ _ _ h
    · exact hk _ _ _ _ (cond_inv h).2
  | putfield n =>
    have h : am_put k (pc, .putfield n, ln, x1, x2, x3, sw) L st M = some o := h
    unfold am_put at h
    split at h
    · exact hk _ _ _ (am_setI M _ _ _) (cond_inv h).2
    · exact hk _ _ _ (am_setR M _ _ _) (cond_inv h).2
    · cases h
  | iaload =>
    have h : am_iald G k (pc, .iaload, ln, x1, x2, x3, sw) L st M = some o := h
    unfold am_iald at h
    split at h
    · exact hk _ _ _ _ (cond_inv h).2
    · exact hk _ _ _ _ (cond_inv h).2
    · cases h
  | baload => obtain ⟨i, a, q, -, h⟩ := sIR_inv h; exact hk _ _ _ _ (cond_inv h).2
  | aaload =>
    obtain ⟨i, a, q, -, h⟩ := sIR_inv h
    exact hk _ _ _ _ (cond_inv (cond_inv h).2).2
  | iastore => obtain ⟨x, i, a, q, -, h⟩ := sIIR_inv h; exact hk _ _ _ (am_setI M _ _ _) (cond_inv h).2
  | bastore => obtain ⟨x, i, a, q, -, h⟩ := sIIR_inv h; exact hk _ _ _ (am_setI M _ _ _) (cond_inv h).2
  | aastore => obtain ⟨x, i, a, q, -, h⟩ := sRIR_inv h; exact hk _ _ _ (am_setR M _ _ _) (cond_inv h).2
  | arraylength =>
    have h : am_alen G k (pc, .arraylength, ln, x1, x2, x3, sw) L st M = some o := h
    unfold am_alen at h
    split at h
    · exact hk _ _ _ _ (cond_inv h).2
    · exact hk _ _ _ _ h
    · cases h
  | new n => exact nw h
  | newarray n => obtain ⟨x, q, -, h⟩ := sI_inv h; exact nw (cond_inv h).2
  | anewarray n => obtain ⟨x, q, -, h⟩ := sI_inv h; exact nw (cond_inv h).2
  | invokevirtual n => exact inv (cond_inv h).2
  | invokespecial n =>
    have h : cond (Nat.beq x1 900) (sR st fun _ q => cond (nat && Nat.ble q.length 8) (k (pc + 3) L q M) none) (cond (am_recv M (pc, .invokespecial n, ln, x1, x2, x3, sw) st) (am_inv k call (pc, .invokespecial n, ln, x1, x2, x3, sw) L st M) none) = some o := h
    cases e : Nat.beq x1 900 with
    | true => rw [e] at h; obtain ⟨a, q, -, h⟩ := sR_inv h; exact hk _ _ _ _ (cond_inv h).2
    | false => rw [e] at h; exact inv (cond_inv h).2
  | invokestatic n =>
    have h : cond (Nat.beq x1 901) (am_cpy k nat (pc, .invokestatic n, ln, x1, x2, x3, sw) L st M) (am_inv k call (pc, .invokestatic n, ln, x1, x2, x3, sw) L st M) = some o := h
    cases e : Nat.beq x1 901 with
    | true =>
      rw [e] at h
      have h : am_cpy k nat (pc, .invokestatic n, ln, x1, x2, x3, sw) L st M = some o := h
      unfold am_cpy at h
      split at h
      · exact hk _ _ _ (am_copy M _ _ _ _ _) (cond_inv h).2
      · cases h
    | false => rw [e] at h; exact inv h
  | ireturn =>
    have h : am_iret r st M = some o := h
    unfold am_iret at h
    split at h
    · obtain ⟨-, h⟩ := cond_inv h
      cases h
      exact List.prefix_refl _
    · cases h
  | return_ =>
    have h : am_vret r st M = some o := h
    unfold am_vret at h
    split at h
    · obtain ⟨-, h⟩ := cond_inv h
      cases h
      exact List.prefix_refl _
    · cases h
  | _ =>
    have h : (none : Option Out_) = some o := h
    cases h
theorem am_run_mono {G : Nat × (Nat → Int32)} : ∀ (n d : Nat) (mt : Mt_) (pc : Nat) (L : List (Option Value)) (st : List Value) (M : Mm_) (o : Out_), am_run G n d mt pc L st M = some o → M.1 <+: o.2.1 := by
  intro n
  induction n with
  | zero => intro d mt pc L st M o h; cases h
  | succ n ih =>
    intro d mt pc L st M o h
    obtain ⟨⟨pc', i, ln, x1, x2, x3, sw⟩, -, h⟩ := Option.bind_eq_some_iff.mp h
    refine am_step_mono (fun pc L st M h => ih _ _ _ _ _ _ _ h) ?_ h
    intro y as M o' h
    cases d with
    | zero => cases h
    | succ d =>
      obtain ⟨q, -, h⟩ := Option.bind_eq_some_iff.mp h
      exact ih _ _ _ _ _ _ _ h
end
section
/-! SOUNDNESS of the abstract machine: the words, the checks of the tables, the rows -/
def wsG : List Cond := lw_tbl.filter goodWord
def isW (i : Nat) (w : Cond) : Bool := decide (lw_tbl[i]? = some w) && goodWord w
theorem isW_mem {i : Nat} {w : Cond} (h : isW i w = true) : w ∈ wsG := by
  unfold isW at h
  rw [Bool.and_eq_true] at h
  exact List.mem_filter.mpr ⟨List.mem_of_getElem? (of_decide_eq_true h.1), h.2⟩
theorem good_wsG : GoodIn wsG wsG := fun w h => ⟨h, good_of_word (List.mem_filter.mp h).2⟩
theorem good_sub {ws : List Cond} (h : ∀ w ∈ ws, w ∈ wsG) : GoodIn wsG ws := fun w hw => good_wsG w (h w hw)
/-- one instruction's links and targets -/
def chkK (own : String) (ini : Bool) (e : En_) : Bool := match e.2.1 with
  | .bipush n => decide ((Int8.ofInt n).toInt32 = zI n)
  | .sipush n => decide ((Int16.ofInt n).toInt32 = zI n)
  | .ldc i => match e.2.2.2.2.2.2 with
    | q :: _ => isW e.2.2.2.2.2.1 (.constant own i (zI q.1))
    | [] => false
  | .goto off => decide ((e.1 : Int) + off = (e.2.2.2.1 : Int))
  | .ifCond _ off => decide ((e.1 : Int) + off = (e.2.2.2.1 : Int))
  | .if_icmp _ off => decide ((e.1 : Int) + off = (e.2.2.2.1 : Int))
  | .tableswitch d lo hi offs => decide ((e.1 : Int) + d = (e.2.2.2.1 : Int)) && (e.2.2.2.2.2.2.all fun q => decide (lo ≤ q.1 ∧ q.1 ≤ hi ∧ (zI q.1).toInt = q.1) && (match offs[(q.1 - lo).toNat]? with
      | some off => decide ((e.1 : Int) + off = (q.2 : Int))
      | none => false)) && ((List.range (hi - lo + 1).toNat).all fun j => e.2.2.2.2.2.2.any fun q => decide (q.1 = lo + (j : Int)))
  | .getfield i => match cls_[e.2.2.2.1]? with
    | some q => decide (e.2.2.2.2.1 < q.2.2) && decide ((q.2.1 e.2.2.2.2.1).1 = q.1) && isW e.2.2.2.2.2.1 (.fieldLink own i q.1 (q.2.1 e.2.2.2.2.1).2.1 (q.2.1 e.2.2.2.2.1).2.2.1)
    | none => false
  | .putfield i => match cls_[e.2.2.2.1]? with
    | some q => decide (e.2.2.2.2.1 < q.2.2) && decide ((q.2.1 e.2.2.2.2.1).1 = q.1) && isW e.2.2.2.2.2.1 (.fieldLink own i q.1 (q.2.1 e.2.2.2.2.1).2.1 (q.2.1 e.2.2.2.2.1).2.2.1) && (!(q.2.1 e.2.2.2.2.1).2.2.2 || (ini && decide (q.1 = own)))
    | none => false
  | .new i => match cls_[e.2.2.2.1]? with
    | some q => isW e.2.2.2.2.2.1 (.classLink own i q.1) && isW e.2.2.2.2.1 (.instantiable q.1 q.2.2) && isW (ciL.getD e.2.2.2.1 0) (.initialized q.1)
    | none => false
  | .newarray t => (match e.2.2.2.1 with
    | 0 => decide (newarray.typeOf t = .int)
    | 1 => decide (newarray.typeOf t = .boolean)
    | _ => false) && isW e.2.2.2.2.2.1 (.arrayClass (newarray.typeOf t))
  | .anewarray i => match cls_[e.2.2.2.1]? with
    | some q => isW e.2.2.2.2.2.1 (.classLink own i q.1) && decide (q.1 ∈ aoL) && (kqT (e.2.2.2.1 + 2)).isSome
    | none => false
  | .invokevirtual i => match miL[e.2.2.2.1]?, e.2.2.2.2.2.2 with
    | some y, q :: _ => isW e.2.2.2.2.2.1 (.methodLink own i y.1) && Nat.beq y.2.2.2.2.1 1 && Nat.beq y.2.2.2.2.2.1 e.2.2.2.2.1 && decide ((cls_[q.2]?).map (fun z => z.1) = some y.1.cls)
    | _, _ => false
  | .invokespecial i => cond (Nat.beq e.2.2.2.1 900) (isW e.2.2.2.2.2.1 (.methodLink own i Lib.objectInit) && Nat.beq e.2.2.2.2.1 1) (match miL[e.2.2.2.1]?, e.2.2.2.2.2.2 with
    | some y, q :: _ => (match q.1 with
      | 0 => isW e.2.2.2.2.2.1 (.methodLink own i y.1)
      | _ => nsL.any (fun z => decide (z.1 = own ∧ z.2.1 = i ∧ z.2.2.1 = y.1))) && Nat.beq y.2.2.2.2.1 2 && Nat.beq y.2.2.2.2.2.1 e.2.2.2.2.1
    | _, _ => false)
  | .invokestatic i => cond (Nat.beq e.2.2.2.1 901) (isW e.2.2.2.2.2.1 (.methodLink own i arraycopyName)) (match miL[e.2.2.2.1]? with
    | some y => isW e.2.2.2.2.2.1 (.methodLink own i y.1) && Nat.beq y.2.2.2.2.1 0 && Nat.beq y.2.2.2.2.2.1 e.2.2.2.2.1
    | none => false)
  | _ => true
/-- the length that the row expects -/
def lenK : Instr → Nat
  | .bipush _ | .ldc _ | .iload _ | .aload _ | .istore _ | .astore _ | .newarray _ => 2
  | .sipush _ | .iinc _ _ | .goto _ | .ifCond _ _ | .if_icmp _ _ | .getfield _ | .putfield _ | .new _ | .anewarray _ | .invokevirtual _ | .invokespecial _ | .invokestatic _ => 3
  | _ => 1
def isSw : Instr → Bool
  | .tableswitch _ _ _ _ => true
  | _ => false
def chkE (own : String) (cc : ByteArray) (ini : Bool) (e : En_) : Bool := decide (decode cc e.1 = .ok (e.2.1, e.2.2.1)) && (isSw e.2.1 || Nat.beq e.2.2.1 (lenK e.2.1)) && chkK own ini e
def chkM (own : String) (cc : ByteArray) (ini : Bool) (code : List En_) : Bool := code.all (chkE own cc ini)
def retOk (ret : Option FieldType) (r : Nat) : Bool := match r with
  | 0 => decide (ret = none)
  | 1 => decide (ret = some .int)
  | 2 => decide (ret = some .boolean)
  | _ => false
def chkI (y : Mi_) (mt : Mt_ × Nat × Nat) : Bool :=
  isW (y.2.2.2.2.2.2.getD 0 0) (.code y.1 y.2.1 y.2.2.1 y.2.2.2.1) && isW (y.2.2.2.2.2.2.getD 3 0) (.initialized y.1.cls) &&
  (match y.2.2.2.2.1 with
    | 0 => isW (y.2.2.2.2.2.2.getD 1 0) (.static y.1) && decide ((parseMethodDescriptor y.1.desc).map (fun d => d.parameters.length) = some y.2.2.2.2.2.1)
    | 1 => isW (y.2.2.2.2.2.2.getD 1 0) (.instanceMethod y.1) && isW (y.2.2.2.2.2.2.getD 2 0) (.selects y.1.cls y.1 y.1) && decide ((parseMethodDescriptor y.1.desc).map (fun d => d.parameters.length + 1) = some y.2.2.2.2.2.1)
    | _ => isW (y.2.2.2.2.2.2.getD 1 0) (.instanceMethod y.1) && decide (y.1.name = "<init>") && decide (y.2.2.2.1 = none) && decide ((parseMethodDescriptor y.1.desc).map (fun d => d.parameters.length + 1) = some y.2.2.2.2.2.1)) &&
  plainName y.1.cls && decide (y.1.cls ≠ "java/lang/invoke/MethodHandle") && decide (y.1.cls ≠ "java/lang/invoke/VarHandle") && Nat.ble y.2.2.1 9 && Nat.ble y.2.2.2.2.2.1 y.2.2.1 && Nat.beq mt.2.2 y.2.2.1 && retOk y.2.2.2.1 mt.1.2 &&
  chkM y.1.cls y.2.1 (decide (y.1.name = "<init>")) mt.1.1
/-! the standing facts of a method's walk -/
def am_E (D : va_G) (K : Nat → ClassId) (s : State) : Prop := va_K D cls_ (am_tys K) s ∧ (∀ q ∈ nsL, va_Nw (.methodLinkNest q.1 q.2.1 q.2.2.1 q.2.2.2) s) ∧ ∀ C ∈ aoL, va_AO C s
theorem am_E.warm {D : va_G} {K : Nat → ClassId} {s U : State} (hW : s.WarmedH U.vm) (h : am_E D K s) : am_E D K U :=
  ⟨va_K.moved hW.alike h.1, fun q hq => va_Nw.warmM hW (h.2.1 q hq), fun C hC => va_AO.moved hW.alike (h.2.2 C hC)⟩
theorem am_E.same {D : va_G} {K : Nat → ClassId} {s U : State} (hv : s.vm = U.vm) (h : am_E D K s) : am_E D K U :=
  ⟨va_K.moved (by rw [hv]; exact Vm.Alike.refl _) h.1, fun q hq => va_Nw.same rfl hv (h.2.1 q hq), fun C hC => va_AO.moved (by rw [hv]; exact Vm.Alike.refl _) (h.2.2 C hC)⟩
def am_Pc (D : va_G) (K : Nat → ClassId) (base b : Nat) (G : Nat × (Nat → Int32)) (as : List Value) (M : Mm_) : Array Value → State → Prop := fun v U => v = (as.map (cV base b)).toArray ∧ am_R D K base b G U M U.heap ∧ am_E D K U
def am_Qc (D : va_G) (K : Nat → ClassId) (base b : Nat) (G : Nat × (Nat → Int32)) (o : Out_) : Array Value → State → Outcome → State → Prop := fun _ _ oc t => oc = .returned (o.1.map (cV base b)) ∧ am_R D K base b G t o.2 t.heap
theorem am_Pc.blind {D : va_G} {K : Nat → ClassId} {base b : Nat} {G : Nat × (Nat → Int32)} {as : List Value} {M : Mm_} : FrameBlind (am_Pc D K base b G as M) := fun a U g mk q =>
  ⟨q.1, am_R.moved (s := U) (U := U.calling g mk a) (Vm.Alike.refl U.vm) q.2.1, am_E.same (s := U) (U := U.calling g mk a) rfl q.2.2⟩
def sd_ws (y : Mi_) : List Cond := Cond.code y.1 y.2.1 y.2.2.1 y.2.2.2.1 :: wsG
def sd_rm (d : Nat) (M M' : Mm_) : Room := { frames := d, cells := M'.1.length - M.1.length, slots := am_sz M'.1 - am_sz M.1, locals := 30 * d + 40 }
def sd_L (base b nL : Nat) (L : List (Option Value)) (ls : Array Slot) : Prop := L.length = nL ∧ ∃ lv, lv_has ls nL lv ∧ (∀ q ∈ lv, q.2.category = 1) ∧ ∀ (i : Nat) (v : Value), L[i]? = some (some v) → (i, cV base b v) ∈ lv
def sd_X (D : va_G) (K : Nat → ClassId) (base b : Nat) (own : String) (cc : ByteArray) (ini : Bool) (nL d ce se : Nat) (p : Program) (R : Room) (s : State) (m : MethodId) (args : Array Value) (meth : Method) (c : Code) : Prop :=
  p.tables.exec = Jvm.exec ∧ c.code = cc ∧ c.maxLocals = nL ∧ s.vm.findClass own = some m.cls ∧ (∀ w ∈ wsG, w.before args s = true) ∧ am_E D K s ∧ b < base ∧ (ini = true → meth.name = "<init>") ∧ d ≤ R.frames ∧ 30 * d + 40 ≤ R.locals ∧ ce ≤ R.cells ∧ se ≤ R.slots
def sd_S (D : va_G) (K : Nat → ClassId) (base b : Nat) (G : Nat × (Nat → Int32)) (s : State) (nL : Nat) (o : Out_) (ce se : Nat) (L : List (Option Value)) (M : Mm_) (ls : Array Slot) (H : Heap) (locs : List Loc) (cells slots : Nat) : Prop :=
  am_R D K base b G s M H ∧ (∀ q ∈ locs, base ≤ q.base) ∧ sd_L base b nL L ls ∧ cells + o.2.1.length = ce + M.1.length ∧ slots + am_sz o.2.1 = se + am_sz M.1
def sd_K (p : Program) (l : Launch) (e : Env) (R : Room) (s : State) (m : MethodId) (args : Array Value) (below : List Frame) (meth : Method) (c : Code) (Q : State → Prop) (D : va_G) (K : Nat → ClassId) (base b : Nat) (G : Nat × (Nat → Int32)) (nL : Nat) (o : Out_) (ce se : Nat) (k : Kn_) : Prop :=
  ∀ (pc : Nat) (L : List (Option Value)) (st : List Value) (M : Mm_) (ls : Array Slot) (H : Heap) (locs : List Loc) (cells slots : Nat), k pc L st M = some o → sd_S D K base b G s nL o ce se L M ls H locs cells slots → W p l e R s m args below meth c H locs cells slots Q (F0 m pc ls (st.map (cV base b)))
def sd_C (l : Launch) (D : va_G) (K : Nat → ClassId) (base b : Nat) (G : Nat × (Nat → Int32)) (d : Nat) (call : Nat → List Value → Mm_ → Option Out_) : Prop :=
  ∀ (y : Nat) (as : List Value) (M : Mm_) (o : Out_) (q : Mi_), call y as M = some o → miL[y]? = some q → as.length = q.2.2.2.2.2.1 → M.1 <+: o.2.1 ∧ ∃ d', d = d' + 1 ∧ Met l q.1 (sd_ws q) (sd_rm d' M o.2) (am_Pc D K base b G as M) (am_Qc D K base b G o) (o.2.1.length - M.1.length) (am_sz o.2.1 - am_sz M.1) (fun q => base ≤ q)
def sd_Rt (p : Program) (l : Launch) (e : Env) (R : Room) (s : State) (m : MethodId) (args : Array Value) (below : List Frame) (meth : Method) (c : Code) (Q : State → Prop) (D : va_G) (K : Nat → ClassId) (base b : Nat) (G : Nat × (Nat → Int32)) (cc : ByteArray) (r : Nat) (o : Out_) (ce se : Nat) : Prop :=
  ∀ (pc : Nat) (ls : Array Slot) (H : Heap) (locs : List Loc), am_R D K base b G s o.2 H → (∀ q ∈ locs, base ≤ q.base) →
    (decode cc pc = .ok (.return_, 1) → r = 0 → o.1 = none → W p l e R s m args below meth c H locs ce se Q (F0 m pc ls [])) ∧
    (decode cc pc = .ok (.ireturn, 1) → ∀ x : Int32, o.1 = some (.int x) → (r = 1 ∨ (r = 2 ∧ am_bit x = true)) → W p l e R s m args below meth c H locs ce se Q (F0 m pc ls [.int x]))
/-! locals -/
theorem sd_L.get {base b nL : Nat} {L : List (Option Value)} {ls : Array Slot} (h : sd_L base b nL L ls) {i : Nat} {v : Value} (hi : L[i]? = some (some v)) : ls[i]? = some (.val (cV base b v)) := by
  obtain ⟨-, lv, h1, -, h3⟩ := h
  exact h1.2.2 _ (h3 i v hi)
theorem sd_L.put {base b nL : Nat} {L : List (Option Value)} {ls' : Array Slot} {lv : List (Nat × Value)} {i : Nat} {v : Value} (hl : L.length = nL) (hc : ∀ q ∈ lv, q.2.category = 1) (h3 : ∀ (i : Nat) (v : Value), L[i]? = some (some v) → (i, cV base b v) ∈ lv)
    (h : lv_has ls' nL ((i, cV base b v) :: lv.filter (fun q => !(q.1 == i) && !(q.1 + 1 == i && q.2.category == 2)))) : sd_L base b nL (L.set i (some v)) ls' := by
  refine ⟨by rw [List.length_set]; exact hl, _, h, fun q hq => ?_, fun j w hj => ?_⟩
  · rcases List.mem_cons.mp hq with e | hq
    · rw [e]; exact cV_cat _ _ _
    · exact hc q (List.mem_filter.mp hq).1
  · by_cases e : i = j
    · subst e
      have hlt : i < L.length := by
        have := (List.getElem?_eq_some_iff.mp hj).1
        rw [List.length_set] at this
        exact this
      rw [List.getElem?_set_self hlt] at hj
      cases hj
      exact List.mem_cons_self
    · rw [List.getElem?_set_ne e] at hj
      refine List.mem_cons_of_mem _ (List.mem_filter.mpr ⟨h3 j w hj, ?_⟩)
      have e1 : (j == i) = false := by simp; omega
      simp [e1, cV_cat]
theorem lv_args_mem : ∀ (vs : List Value) (k : Nat), (∀ v ∈ vs, v.category = 1) → (∀ q ∈ lv_args k vs, q.2.category = 1) ∧ ∀ (i : Nat) (v : Value), vs[i]? = some v → (k + i, v) ∈ lv_args k vs
  | [], k, _ => ⟨fun q hq => (by cases hq), fun i v h => by simp at h⟩
  | w :: vs, k, hc => by
    have hw : w.category = 1 := hc w List.mem_cons_self
    have e : lv_args k (w :: vs) = (k, w) :: lv_args (k + 1) vs := by simp [lv_args, hw]
    obtain ⟨h1, h2⟩ := lv_args_mem vs (k + 1) (fun v hv => hc v (List.mem_cons_of_mem _ hv))
    rw [e]
    refine ⟨fun q hq => ?_, fun i v h => ?_⟩
    · rcases List.mem_cons.mp hq with e | hq
      · rw [e]; exact hw
      · exact h1 q hq
    · cases i with
      | zero => cases h; exact List.mem_cons_self
      | succ i =>
        have := h2 i v h
        rw [show k + 1 + i = k + (i + 1) by omega] at this
        exact List.mem_cons_of_mem _ this
theorem lg_sl_len (vs : List Value) (hc : ∀ v ∈ vs, v.category = 1) : (lg_sl vs).length = vs.length := by
  induction vs with
  | nil => rfl
  | cons w vs ih =>
    have hw : w.category = 1 := hc w List.mem_cons_self
    have := ih (fun v hv => hc v (List.mem_cons_of_mem _ hv))
    simp only [lg_sl] at this ⊢
    simp [hw, this]
theorem sd_entry (m : MethodId) (base b : Nat) (as : List Value) {n : Nat} (h : as.length ≤ n) : ∃ ls, entryFrame m (as.map (cV base b)).toArray n = F0 m 0 ls [] ∧ sd_L base b n (am_loc n as) ls := by
  have hc : ∀ v ∈ as.map (cV base b), v.category = 1 := fun v hv => by
    obtain ⟨w, -, rfl⟩ := List.mem_map.mp hv
    exact cV_cat _ _ _
  have hlen : (lg_sl (as.map (cV base b))).length ≤ n := by rw [lg_sl_len _ hc, List.length_map]; exact h
  refine ⟨_, lg_entry_eq m (as.map (cV base b)) n, ?_, _, lv_entry (as.map (cV base b)) hlen, (lv_args_mem _ 0 hc).1, fun i v hi => ?_⟩
  · simp [am_loc]; omega
  · have := (lv_args_mem (as.map (cV base b)) 0 hc).2 i (cV base b v) ?_
    · rw [Nat.zero_add] at this; exact this
    · unfold am_loc at hi
      by_cases hl : i < as.length
      · rw [List.getElem?_append_left (by rw [List.length_map]; exact hl), List.getElem?_map] at hi
        rw [List.getElem?_map]
        cases ha : as[i]? with
        | none => rw [ha] at hi; cases hi
        | some w => rw [ha] at hi; cases hi; rfl
      · rw [List.getElem?_append_right (by rw [List.length_map]; omega), List.getElem?_replicate] at hi
        split at hi <;> cases hi
end
section
def yT (c j : Nat) : FieldType := ((cls_[c]?).bind fun q => parseFieldDescriptor (q.2.1 j).2.2.1).getD .int
def isRefTy : FieldType → Bool
  | .object _ => true
  | .array _ => true
  | _ => false
def chkC (c : Nat) (q : vw_C) (is : List Nat) : Bool := (List.range q.2.2).all fun k => isW (is.getD k 0) (u_lay q.1 q.2.1 k) && decide (parseFieldDescriptor (q.2.1 k).2.2.1 = some (yT c k)) && decide (defaultValue (yT c k) = if fkT c k = 0 then .int 0 else .null) && ((List.range q.2.2).all fun j => Nat.beq k j || decide ((q.2.1 k).2.1 ≠ (q.2.1 j).2.1)) && (!(Nat.beq (fkT c k) 0) || decide (yT c k = .int)) && (Nat.beq (fkT c k) 0 || isRefTy (yT c k))
theorem cl_0 : chkC 0 (Rn0, Tn0, 14) (clI.getD 0 []) = true := by decide +kernel
theorem cl_1 : chkC 1 (Rn1, Tn1, 3) (clI.getD 1 []) = true := by decide +kernel
theorem cl_2 : chkC 2 (Rn2, Tn2, 8) (clI.getD 2 []) = true := by decide +kernel
theorem cl_3 : chkC 3 (Rn3, Tn3, 2) (clI.getD 3 []) = true := by decide +kernel
theorem cl_4 : chkC 4 (Rn4, Tn4, 2) (clI.getD 4 []) = true := by decide +kernel
theorem cl_5 : chkC 5 (Rn5, Tn5, 3) (clI.getD 5 []) = true := by decide +kernel
theorem cl_6 : chkC 6 (Rn6, Tn6, 4) (clI.getD 6 []) = true := by decide +kernel
theorem cl_7 : chkC 7 (Rn7, Tn7, 12) (clI.getD 7 []) = true := by decide +kernel
theorem cl_8 : chkC 8 (Rn8, Tn8, 26) (clI.getD 8 []) = true := by decide +kernel
theorem cl_all : ∀ (c : Nat) (q : vw_C), cls_[c]? = some q → chkC c q (clI.getD c []) = true := by
  intro c q h
  rcases c with _ | _ | _ | _ | _ | _ | _ | _ | _ | c
  · cases h; exact cl_0
  · cases h; exact cl_1
  · cases h; exact cl_2
  · cases h; exact cl_3
  · cases h; exact cl_4
  · cases h; exact cl_5
  · cases h; exact cl_6
  · cases h; exact cl_7
  · cases h; exact cl_8
  · simp [cls_] at h
theorem cls_ok (c : Nat) (q : vw_C) (h : cls_[c]? = some q) : (∀ w ∈ u_ws q.1 q.2.1 q.2.2, w ∈ wsG) ∧ (∀ k, k < q.2.2 → parseFieldDescriptor (q.2.1 k).2.2.1 = some (yT c k)) ∧ (∀ a, a < q.2.2 → ∀ b, b < q.2.2 → a ≠ b → (q.2.1 a).2.1 ≠ (q.2.1 b).2.1) ∧ (∀ k, k < q.2.2 → defaultValue (yT c k) = if fkT c k = 0 then .int 0 else .null) ∧ ∀ k, k < q.2.2 → (fkT c k = 0 → yT c k = .int) ∧ (¬ fkT c k = 0 → isRefTy (yT c k) = true) := by
  have hc := cl_all c q h
  unfold chkC at hc
  simp only [List.all_eq_true, List.mem_range, Bool.and_eq_true, decide_eq_true_eq] at hc
  refine ⟨fun w hw => ?_, fun k hk => (hc k hk).1.1.1.1.2, fun a ha b hb hne => ?_, fun k hk => (hc k hk).1.1.1.2, fun k hk => ⟨fun h0 => ?_, fun h0 => ?_⟩⟩
  · obtain ⟨k, hk, rfl⟩ := List.mem_map.mp hw
    exact isW_mem (hc k (List.mem_range.mp hk)).1.1.1.1.1
  · have := (hc a ha).1.1.2 b hb
    rw [Bool.or_eq_true] at this
    rcases this with h1 | h1
    · exact absurd (Nat.eq_of_beq_eq_true h1) hne
    · exact of_decide_eq_true h1
  · have := (hc k hk).1.2
    rw [h0] at this
    simpa using this
  · have := (hc k hk).2
    rw [Bool.or_eq_true] at this
    rcases this with h1 | h1
    · exact absurd (Nat.eq_of_beq_eq_true h1) h0
    · exact h1
theorem nf_some {c j : Nat} (h : j < nfT c) : ∃ q, cls_[c]? = some q ∧ j < q.2.2 := by
  unfold nfT at h
  cases hq : cls_[c]? with
  | none => rw [hq] at h; exact absurd h (Nat.not_lt_zero _)
  | some q => rw [hq] at h; exact ⟨q, rfl, h⟩
theorem yT_int {c j : Nat} (hj : j < nfT c) (hf : fkT c j = 0) (x : Int32) : narrow (yT c j) (.int x) = .int x ∧ fits (yT c j) (.int x) = true := by
  obtain ⟨q, hq, h⟩ := nf_some hj
  rw [((cls_ok c q hq).2.2.2.2 j h).1 hf]
  exact ⟨rfl, rfl⟩
theorem yT_ref {c j : Nat} (hj : j < nfT c) (hf : ¬ fkT c j = 0) (a : Nat) : narrow (yT c j) (.ref a) = .ref a ∧ fits (yT c j) (.ref a) = true := by
  obtain ⟨q, hq, h⟩ := nf_some hj
  have := ((cls_ok c q hq).2.2.2.2 j h).2 hf
  cases hy : yT c j with
  | object s => exact ⟨rfl, rfl⟩
  | array s => exact ⟨rfl, rfl⟩
  | _ => rw [hy] at this; cases this
theorem kq_ok (K : Nat → ClassId) {ci j : Nat} (h : kqT (ci + 2) = some j) : ∃ r : vw_C, cls_[ci]? = some r ∧ (am_tys K)[j]? = some (K (ci + 2), .object r.1) := by
  rcases ci with _ | _ | _ | _ | _ | _ | _ | _ | _ | ci
  · cases h
  · cases h; exact ⟨_, rfl, rfl⟩
  · cases h
  · cases h; exact ⟨_, rfl, rfl⟩
  · cases h; exact ⟨_, rfl, rfl⟩
  · cases h
  · cases h
  · cases h
  · cases h
  · simp [kqT] at h
theorem kq_two {t j : Nat} (h : kqT t = some j) : ∃ ci, t = ci + 2 := by
  rcases t with _ | _ | t
  · cases h
  · cases h
  · exact ⟨t, rfl⟩
theorem ok_objI : isW 84 (.instanceMethod Lib.objectInit) = true := by decide +kernel
theorem ok_objC : isW 85 (.code Lib.objectInit ⟨#[0xb1]⟩ 1 none) = true := by decide +kernel
theorem ok_cpyN : isW 470 (.native arraycopyName) = true := by decide +kernel
theorem ok_cpyS : isW 469 (.static arraycopyName) = true := by decide +kernel
theorem ok_cpyI : isW 77 (.initialized "java/lang/System") = true := by decide +kernel
end
section
theorem ck_P_init : chkI mi_P_init mt_P_init = true := by decide +kernel
theorem ck_R_init : chkI mi_R_init mt_R_init = true := by decide +kernel
theorem ck_H_init : chkI mi_H_init mt_H_init = true := by decide +kernel
theorem ck_S_init : chkI mi_S_init mt_S_init = true := by decide +kernel
theorem ck_T_init : chkI mi_T_init mt_T_init = true := by decide +kernel
theorem ck_L_init : chkI mi_L_init mt_L_init = true := by decide +kernel
theorem ck_E_init : chkI mi_E_init mt_E_init = true := by decide +kernel
theorem ck_C_init : chkI mi_C_init mt_C_init = true := by decide +kernel
theorem ck_P_put : chkI mi_P_put mt_P_put = true := by decide +kernel
theorem ck_R_add : chkI mi_R_add mt_R_add = true := by decide +kernel
theorem ck_P_set : chkI mi_P_set mt_P_set = true := by decide +kernel
theorem ck_P_cut : chkI mi_P_cut mt_P_cut = true := by decide +kernel
theorem ck_P_size : chkI mi_P_size mt_P_size = true := by decide +kernel
theorem ck_P_at : chkI mi_P_at mt_P_at = true := by decide +kernel
theorem ck_R_cell : chkI mi_R_cell mt_R_cell = true := by decide +kernel
theorem ck_P_path : chkI mi_P_path mt_P_path = true := by decide +kernel
theorem ck_P_nameOf : chkI mi_P_nameOf mt_P_nameOf = true := by decide +kernel
theorem ck_H_add : chkI mi_H_add mt_H_add = true := by decide +kernel
theorem ck_P_step : chkI mi_P_step mt_P_step = true := by decide +kernel
theorem ck_P_insert : chkI mi_P_insert mt_P_insert = true := by decide +kernel
theorem ck_T_readDocument : chkI mi_T_readDocument mt_T_readDocument = true := by decide +kernel
theorem ck_T_begin : chkI mi_T_begin mt_T_begin = true := by decide +kernel
theorem ck_T_addNode : chkI mi_T_addNode mt_T_addNode = true := by decide +kernel
theorem ck_T_readContent : chkI mi_T_readContent mt_T_readContent = true := by decide +kernel
theorem ck_T_faultAt : chkI mi_T_faultAt mt_T_faultAt = true := by decide +kernel
theorem ck_T_readBytes : chkI mi_T_readBytes mt_T_readBytes = true := by decide +kernel
theorem ck_T_readOn : chkI mi_T_readOn mt_T_readOn = true := by decide +kernel
theorem ck_T_closeNest : chkI mi_T_closeNest mt_T_closeNest = true := by decide +kernel
theorem ck_T_readPart : chkI mi_T_readPart mt_T_readPart = true := by decide +kernel
theorem ck_T_readName : chkI mi_T_readName mt_T_readName = true := by decide +kernel
theorem ck_T_element : chkI mi_T_element mt_T_element = true := by decide +kernel
theorem ck_T_documentNumber : chkI mi_T_documentNumber mt_T_documentNumber = true := by decide +kernel
theorem ck_R_signedNumber : chkI mi_R_signedNumber mt_R_signedNumber = true := by decide +kernel
theorem ck_S_placeOf : chkI mi_S_placeOf mt_S_placeOf = true := by decide +kernel
theorem ck_S_keep : chkI mi_S_keep mt_S_keep = true := by decide +kernel
theorem ck_R_become : chkI mi_R_become mt_R_become = true := by decide +kernel
theorem ck_R_addPart : chkI mi_R_addPart mt_R_addPart = true := by decide +kernel
theorem ck_P_fetch : chkI mi_P_fetch mt_P_fetch = true := by decide +kernel
theorem ck_P_remove : chkI mi_P_remove mt_P_remove = true := by decide +kernel
end
section
theorem ck_S_drop : chkI mi_S_drop mt_S_drop = true := by decide +kernel
theorem ck_P_index : chkI mi_P_index mt_P_index = true := by decide +kernel
theorem ck_H_become : chkI mi_H_become mt_H_become = true := by decide +kernel
theorem ck_P_entries : chkI mi_P_entries mt_P_entries = true := by decide +kernel
theorem ck_L_follow : chkI mi_L_follow mt_L_follow = true := by decide +kernel
theorem ck_L_goOn : chkI mi_L_goOn mt_L_goOn = true := by decide +kernel
theorem ck_H_name : chkI mi_H_name mt_H_name = true := by decide +kernel
theorem ck_L_note : chkI mi_L_note mt_L_note = true := by decide +kernel
theorem ck_L_entryTotal : chkI mi_L_entryTotal mt_L_entryTotal = true := by decide +kernel
theorem ck_L_isNew : chkI mi_L_isNew mt_L_isNew = true := by decide +kernel
theorem ck_T_areEqual : chkI mi_T_areEqual mt_T_areEqual = true := by decide +kernel
theorem ck_P_where : chkI mi_P_where mt_P_where = true := by decide +kernel
theorem ck_T_readOperand : chkI mi_T_readOperand mt_T_readOperand = true := by decide +kernel
theorem ck_C_become : chkI mi_C_become mt_C_become = true := by decide +kernel
theorem ck_P_anywhere : chkI mi_P_anywhere mt_P_anywhere = true := by decide +kernel
theorem ck_P_find : chkI mi_P_find mt_P_find = true := by decide +kernel
theorem ck_P_seek : chkI mi_P_seek mt_P_seek = true := by decide +kernel
theorem ck_P_leadingCondition : chkI mi_P_leadingCondition mt_P_leadingCondition = true := by decide +kernel
theorem ck_C_suitsIndex : chkI mi_C_suitsIndex mt_C_suitsIndex = true := by decide +kernel
theorem ck_P_hasIndex : chkI mi_P_hasIndex mt_P_hasIndex = true := by decide +kernel
theorem ck_H_isSame : chkI mi_H_isSame mt_H_isSame = true := by decide +kernel
theorem ck_C_holds : chkI mi_C_holds mt_C_holds = true := by decide +kernel
theorem ck_C_someIsEqual : chkI mi_C_someIsEqual mt_C_someIsEqual = true := by decide +kernel
theorem ck_T_isEqual : chkI mi_T_isEqual mt_T_isEqual = true := by decide +kernel
theorem ck_R_compare : chkI mi_R_compare mt_R_compare = true := by decide +kernel
theorem ck_C_someHasSize : chkI mi_C_someHasSize mt_C_someHasSize = true := by decide +kernel
theorem ck_T_itemTotal : chkI mi_T_itemTotal mt_T_itemTotal = true := by decide +kernel
theorem ck_C_someComparesSo : chkI mi_C_someComparesSo mt_C_someComparesSo = true := by decide +kernel
theorem ck_C_difference : chkI mi_C_difference mt_C_difference = true := by decide +kernel
theorem ck_C_isSo : chkI mi_C_isSo mt_C_isSo = true := by decide +kernel
theorem ck_P_found : chkI mi_P_found mt_P_found = true := by decide +kernel
theorem ck_P_examined : chkI mi_P_examined mt_P_examined = true := by decide +kernel
theorem ck_P_change : chkI mi_P_change mt_P_change = true := by decide +kernel
end
section
theorem ck_H_isOnly : chkI mi_H_isOnly mt_H_isOnly = true := by decide +kernel
theorem ck_E_apply : chkI mi_E_apply mt_E_apply = true := by decide +kernel
theorem ck_E_aim : chkI mi_E_aim mt_E_aim = true := by decide +kernel
theorem ck_E_writeNew : chkI mi_E_writeNew mt_E_writeNew = true := by decide +kernel
theorem ck_E_openNest : chkI mi_E_openNest mt_E_openNest = true := by decide +kernel
theorem ck_R_addName : chkI mi_R_addName mt_R_addName = true := by decide +kernel
theorem ck_H_lastName : chkI mi_H_lastName mt_H_lastName = true := by decide +kernel
theorem ck_E_writeElement : chkI mi_E_writeElement mt_E_writeElement = true := by decide +kernel
theorem ck_E_alter : chkI mi_E_alter mt_E_alter = true := by decide +kernel
theorem ck_E_writeSum : chkI mi_E_writeSum mt_E_writeSum = true := by decide +kernel
theorem ck_E_writeOthers : chkI mi_E_writeOthers mt_E_writeOthers = true := by decide +kernel
theorem ck_E_splice : chkI mi_E_splice mt_E_splice = true := by decide +kernel
theorem ck_P_count : chkI mi_P_count mt_P_count = true := by decide +kernel
theorem ck_M_init : chkI mi_M_init mt_M_init = true := by decide +kernel
theorem ck_M_put : chkI mi_M_put mt_M_put = true := by decide +kernel
theorem ck_M_in : chkI mi_M_in mt_M_in = true := by decide +kernel
theorem ck_M_set : chkI mi_M_set mt_M_set = true := by decide +kernel
theorem ck_M_cut : chkI mi_M_cut mt_M_cut = true := by decide +kernel
theorem ck_M_size : chkI mi_M_size mt_M_size = true := by decide +kernel
theorem ck_M_at : chkI mi_M_at mt_M_at = true := by decide +kernel
theorem ck_M_path : chkI mi_M_path mt_M_path = true := by decide +kernel
theorem ck_M_name : chkI mi_M_name mt_M_name = true := by decide +kernel
theorem ck_M_isLetter : chkI mi_M_isLetter mt_M_isLetter = true := by decide +kernel
theorem ck_M_step : chkI mi_M_step mt_M_step = true := by decide +kernel
theorem ck_M_insert : chkI mi_M_insert mt_M_insert = true := by decide +kernel
theorem ck_M_read : chkI mi_M_read mt_M_read = true := by decide +kernel
end
section
theorem ck_M_wrong : chkI mi_M_wrong mt_M_wrong = true := by decide +kernel
theorem ck_M_readPlain : chkI mi_M_readPlain mt_M_readPlain = true := by decide +kernel
theorem ck_M_readText : chkI mi_M_readText mt_M_readText = true := by decide +kernel
theorem ck_M_readName : chkI mi_M_readName mt_M_readName = true := by decide +kernel
theorem ck_M_nameEnd : chkI mi_M_nameEnd mt_M_nameEnd = true := by decide +kernel
theorem ck_M_behind : chkI mi_M_behind mt_M_behind = true := by decide +kernel
theorem ck_M_numberAt : chkI mi_M_numberAt mt_M_numberAt = true := by decide +kernel
theorem ck_M_value : chkI mi_M_value mt_M_value = true := by decide +kernel
theorem ck_M_holder : chkI mi_M_holder mt_M_holder = true := by decide +kernel
theorem ck_M_move : chkI mi_M_move mt_M_move = true := by decide +kernel
theorem ck_M_fetch : chkI mi_M_fetch mt_M_fetch = true := by decide +kernel
theorem ck_M_remove : chkI mi_M_remove mt_M_remove = true := by decide +kernel
theorem ck_M_count : chkI mi_M_count mt_M_count = true := by decide +kernel
theorem ck_M_index : chkI mi_M_index mt_M_index = true := by decide +kernel
theorem ck_M_copyPath : chkI mi_M_copyPath mt_M_copyPath = true := by decide +kernel
theorem ck_M_entries : chkI mi_M_entries mt_M_entries = true := by decide +kernel
theorem ck_M_gather : chkI mi_M_gather mt_M_gather = true := by decide +kernel
theorem ck_M_come : chkI mi_M_come mt_M_come = true := by decide +kernel
theorem ck_M_lead : chkI mi_M_lead mt_M_lead = true := by decide +kernel
theorem ck_M_seek : chkI mi_M_seek mt_M_seek = true := by decide +kernel
theorem ck_M_isName : chkI mi_M_isName mt_M_isName = true := by decide +kernel
theorem ck_M_items : chkI mi_M_items mt_M_items = true := by decide +kernel
theorem ck_M_turn : chkI mi_M_turn mt_M_turn = true := by decide +kernel
theorem ck_M_equal : chkI mi_M_equal mt_M_equal = true := by decide +kernel
theorem ck_M_where : chkI mi_M_where mt_M_where = true := by decide +kernel
end
section
theorem ck_M_anywhere : chkI mi_M_anywhere mt_M_anywhere = true := by decide +kernel
theorem ck_M_find : chkI mi_M_find mt_M_find = true := by decide +kernel
theorem ck_M_match : chkI mi_M_match mt_M_match = true := by decide +kernel
theorem ck_M_uses : chkI mi_M_uses mt_M_uses = true := by decide +kernel
theorem ck_M_samePath : chkI mi_M_samePath mt_M_samePath = true := by decide +kernel
theorem ck_M_holds : chkI mi_M_holds mt_M_holds = true := by decide +kernel
theorem ck_M_isEqual : chkI mi_M_isEqual mt_M_isEqual = true := by decide +kernel
theorem ck_M_isCompared : chkI mi_M_isCompared mt_M_isCompared = true := by decide +kernel
theorem ck_M_compare : chkI mi_M_compare mt_M_compare = true := by decide +kernel
theorem ck_M_isLong : chkI mi_M_isLong mt_M_isLong = true := by decide +kernel
theorem ck_M_found : chkI mi_M_found mt_M_found = true := by decide +kernel
theorem ck_M_examined : chkI mi_M_examined mt_M_examined = true := by decide +kernel
theorem ck_M_change : chkI mi_M_change mt_M_change = true := by decide +kernel
theorem ck_M_operate : chkI mi_M_operate mt_M_operate = true := by decide +kernel
theorem ck_M_go : chkI mi_M_go mt_M_go = true := by decide +kernel
theorem ck_M_arrive : chkI mi_M_arrive mt_M_arrive = true := by decide +kernel
end
section
theorem ck_M_nameSize : chkI mi_M_nameSize mt_M_nameSize = true := by decide +kernel
theorem ck_M_addName : chkI mi_M_addName mt_M_addName = true := by decide +kernel
theorem ck_M_add : chkI mi_M_add mt_M_add = true := by decide +kernel
theorem ck_M_addOperand : chkI mi_M_addOperand mt_M_addOperand = true := by decide +kernel
theorem ck_M_splice : chkI mi_M_splice mt_M_splice = true := by decide +kernel
theorem ck_M_setIt : chkI mi_M_setIt mt_M_setIt = true := by decide +kernel
theorem ck_M_addIt : chkI mi_M_addIt mt_M_addIt = true := by decide +kernel
theorem ck_M_pull : chkI mi_M_pull mt_M_pull = true := by decide +kernel
theorem ck_law : chkM "PathShelfLaw" code false k_W_law = true := by decide +kernel
def All2 : List Mi_ → List (Mt_ × Nat × Nat) → Prop
  | [], _ => True
  | a :: r, b :: t => chkI a b = true ∧ All2 r t
  | _ :: _, [] => False
theorem All2.get : ∀ {l1 : List Mi_} {l2 : List (Mt_ × Nat × Nat)}, All2 l1 l2 → ∀ (i : Nat) (y : Mi_), l1[i]? = some y → ∃ mt, l2[i]? = some mt ∧ chkI y mt = true
  | [], _, _, i, y, h => by simp at h
  | a :: r, b :: t, hA, i, y, h => by
    cases i with
    | zero => cases h; exact ⟨b, rfl, hA.1⟩
    | succ i => exact All2.get hA.2 i y h
  | _ :: _, [], hA, _, _, _ => hA.elim
theorem mi_all : All2 miL mtL := ⟨ck_P_init, ck_R_init, ck_H_init, ck_S_init, ck_T_init, ck_L_init, ck_E_init, ck_C_init, ck_P_put, ck_R_add, ck_P_set, ck_P_cut, ck_P_size, ck_P_at, ck_R_cell, ck_P_path, ck_P_nameOf, ck_H_add, ck_P_step, ck_P_insert, ck_T_readDocument, ck_T_begin, ck_T_addNode, ck_T_readContent, ck_T_faultAt, ck_T_readBytes, ck_T_readOn, ck_T_closeNest, ck_T_readPart, ck_T_readName, ck_T_element, ck_T_documentNumber, ck_R_signedNumber, ck_S_placeOf, ck_S_keep, ck_R_become, ck_R_addPart, ck_P_fetch, ck_P_remove, ck_S_drop, ck_P_index, ck_H_become, ck_P_entries, ck_L_follow, ck_L_goOn, ck_H_name, ck_L_note, ck_L_entryTotal, ck_L_isNew, ck_T_areEqual, ck_P_where, ck_T_readOperand, ck_C_become, ck_P_anywhere, ck_P_find, ck_P_seek, ck_P_leadingCondition, ck_C_suitsIndex, ck_P_hasIndex, ck_H_isSame, ck_C_holds, ck_C_someIsEqual, ck_T_isEqual, ck_R_compare, ck_C_someHasSize, ck_T_itemTotal, ck_C_someComparesSo, ck_C_difference, ck_C_isSo, ck_P_found, ck_P_examined, ck_P_change, ck_H_isOnly, ck_E_apply, ck_E_aim, ck_E_writeNew, ck_E_openNest, ck_R_addName, ck_H_lastName, ck_E_writeElement, ck_E_alter, ck_E_writeSum, ck_E_writeOthers, ck_E_splice, ck_P_count, ck_M_init, ck_M_put, ck_M_in, ck_M_set, ck_M_cut, ck_M_size, ck_M_at, ck_M_path, ck_M_name, ck_M_isLetter, ck_M_step, ck_M_insert, ck_M_read, ck_M_wrong, ck_M_readPlain, ck_M_readText, ck_M_readName, ck_M_nameEnd, ck_M_behind, ck_M_numberAt, ck_M_value, ck_M_holder, ck_M_move, ck_M_fetch, ck_M_remove, ck_M_count, ck_M_index, ck_M_copyPath, ck_M_entries, ck_M_gather, ck_M_come, ck_M_lead, ck_M_seek, ck_M_isName, ck_M_items, ck_M_turn, ck_M_equal, ck_M_where, ck_M_anywhere, ck_M_find, ck_M_match, ck_M_uses, ck_M_samePath, ck_M_holds, ck_M_isEqual, ck_M_isCompared, ck_M_compare, ck_M_isLong, ck_M_found, ck_M_examined, ck_M_change, ck_M_operate, ck_M_go, ck_M_arrive, ck_M_nameSize, ck_M_addName, ck_M_add, ck_M_addOperand, ck_M_splice, ck_M_setIt, ck_M_addIt, ck_M_pull, trivial⟩
theorem mi_ok (i : Nat) (y : Mi_) (h : miL[i]? = some y) : ∃ mt, mtL[i]? = some mt ∧ chkI y mt = true := All2.get mi_all i y h
end
section
/-! SOUNDNESS: the rows of fields, arrays, new cells, copies, calls, switches -/
section SDW
variable {p : Program} {l : Launch} {e : Env} {R : Room} {s : State} {m : MethodId} {args : Array Value} {below : List Frame} {meth : Method} {c : Code} {Q : State → Prop}
variable {D : va_G} {K : Nat → ClassId} {base b : Nat} {G : Nat × (Nat → Int32)} {own : String} {cc : ByteArray} {ini : Bool} {nL d : Nat} {o : Out_} {ce se : Nat}
variable {k : Kn_} {pc : Nat} {L : List (Option Value)} {q : List Value} {M : Mm_} {ls : Array Slot} {H : Heap} {locs : List Loc} {cells slots : Nat}
theorem sd_tyI (h : am_E D K s) : (am_tys K)[0]? = some (K 0, .int) ∧ (am_tys K)[1]? = some (K 1, .boolean) := ⟨rfl, rfl⟩
theorem sd_at (S : sd_S D K base b G s nL o ce se L M ls H locs cells slots) : am_R D K base b G s M H := S.1
theorem sd_kept {M' : Mm_} {H' : Heap} {locs' : List Loc} (S : sd_S D K base b G s nL o ce se L M ls H locs cells slots) (hR : am_R D K base b G s M' H') (hsh : M'.1 = M.1) (hl : ∀ q ∈ locs', base ≤ q.base) : sd_S D K base b G s nL o ce se L M' ls H' locs' cells slots := by
  obtain ⟨-, -, h3, h4, h5⟩ := S
  exact ⟨hR, hl, h3, by rw [hsh]; exact h4, by rw [hsh]; exact h5⟩
theorem sd_locs (S : sd_S D K base b G s nL o ce se L M ls H locs cells slots) (a j : Nat) : ∀ q ∈ locs ++ [(⟨base + a, j⟩ : Loc)], base ≤ q.base := by
  intro q hq
  rcases List.mem_append.mp hq with h | h
  · exact S.2.1 q h
  · rw [List.mem_singleton.mp h]
    exact Nat.le_add_right _ _
/-- getfield -/
theorem sd_getf (C : sd_X D K base b own cc ini nL d ce se p R s m args meth c) (hk : sd_K p l e R s m args below meth c Q D K base b G nL o ce se k) {ci j idx i : Nat} (hchk : (match cls_[ci]? with
    | some q => decide (j < q.2.2) && decide ((q.2.1 j).1 = q.1) && isW i (.fieldLink own idx q.1 (q.2.1 j).2.1 (q.2.1 j).2.2.1)
    | none => false) = true) (hd : decode cc pc = .ok (.getfield idx, 3)) (S : sd_S D K base b G s nL o ce se L M ls H locs cells slots) {a : Nat} (hok : am_okF M a ci j = true) (h : am_get M a ci j (fun v => k (pc + 3) L (v :: q) M) = some o) :
    W p l e R s m args below meth c H locs cells slots Q (F0 m pc ls ((Value.ref a :: q).map (cV base b))) := by
  obtain ⟨hx, hb, hml, hown, hts, hE, hbb, -⟩ := C
  unfold am_okF at hok
  rw [Bool.and_eq_true] at hok
  have ha := am_okO_of hok.1
  cases hc : cls_[ci]? with
  | none => rw [hc] at hchk; cases hchk
  | some r =>
    rw [hc] at hchk
    obtain ⟨C0, T0, N0⟩ := r
    simp only [Bool.and_eq_true, decide_eq_true_eq] at hchk
    obtain ⟨⟨hj, hT⟩, hw⟩ := hchk
    have hN : nfT ci = N0 := by simp [nfT, hc]
    have key : ∀ v : Value, cF base (M.2.1 a) (M.2.2 a) ci j = cV base b v → k (pc + 3) L (v :: q) M = some o → W p l e R s m args below meth c H locs cells slots Q (F0 m pc ls ((Value.ref a :: q).map (cV base b))) := by
      intro v hv hh
      refine va_get (Ts := wsG) hx hb hts (cls_ok ci _ hc).1 hown hE.1 (S.1.one ha) 0 (fs := cO base (M.2.1 a) (M.2.2 a) ci) rfl hc j hj (hts _ (isW_mem hw)) (fun x hx => by rw [hT] at hx; exact hx) (v := cV base b v) (by rw [cO_get (by rw [hN]; exact hj), hv]) hd (hk _ _ _ _ _ _ _ _ _ hh S)
    unfold am_get at h
    split at h
    · next h0 => exact key _ (by simp [cF, h0, cV]) h
    · next h1 =>
      refine key _ ?_ h
      have h2 : M.2.2 a j = some (a + ofT ci j) := by
        have := hok.2
        rw [h1] at this
        simpa using this
      simp [cF, h1, h2, cR, va_rf, cV]
    · next h0 h1 =>
      obtain ⟨hs, h⟩ := cond_inv h
      obtain ⟨r, hr⟩ := Option.isSome_iff_exists.mp hs
      rw [hr] at h
      have h0' : ¬ fkT ci j = 0 := h0
      exact key _ (by simp [cF, h0', hr, cR, va_rf, cV]) h
/-- putfield -/
theorem sd_putf (C : sd_X D K base b own cc ini nL d ce se p R s m args meth c) (hk : sd_K p l e R s m args below meth c Q D K base b G nL o ce se k) {ci j idx i : Nat} (hchk : (match cls_[ci]? with
    | some q => decide (j < q.2.2) && decide ((q.2.1 j).1 = q.1) && isW i (.fieldLink own idx q.1 (q.2.1 j).2.1 (q.2.1 j).2.2.1) && (!(q.2.1 j).2.2.2 || (ini && decide (q.1 = own)))
    | none => false) = true) (hd : decode cc pc = .ok (.putfield idx, 3)) (S : sd_S D K base b G s nL o ce se L M ls H locs cells slots) {a : Nat} {v : Value} {M' : Mm_} (ha : M.1[a]? = some (.inl ci)) (hsh : M'.1 = M.1) (hI : ∀ q, q ≠ a → M'.2.1 q = M.2.1 q) (hF : ∀ q, q ≠ a → M'.2.2 q = M.2.2 q)
    (hv : ∀ t, t < nfT ci → cF base (M'.2.1 a) (M'.2.2 a) ci t = if t = j then cV base b v else cF base (M.2.1 a) (M.2.2 a) ci t)
    (hfit : narrow (yT ci j) (cV base b v) = cV base b v ∧ fits (yT ci j) (cV base b v) = true) (h : k (pc + 3) L q M' = some o) :
    W p l e R s m args below meth c H locs cells slots Q (F0 m pc ls ((v :: Value.ref a :: q).map (cV base b))) := by
  obtain ⟨hx, hb, hml, hown, hts, hE, hbb, hini, -⟩ := C
  cases hc : cls_[ci]? with
  | none => rw [hc] at hchk; cases hchk
  | some r =>
    rw [hc] at hchk
    obtain ⟨C0, T0, N0⟩ := r
    simp only [Bool.and_eq_true, decide_eq_true_eq] at hchk
    obtain ⟨⟨⟨hj, hT⟩, hw⟩, hfinal⟩ := hchk
    have hN : nfT ci = N0 := by simp [nfT, hc]
    obtain ⟨hin, hty, hnm, -⟩ := cls_ok ci _ hc
    have hap := va_apart (own := own) (Ts := wsG) hts hin (yT ci) hty hnm hE.1 hc
    obtain ⟨r, h1, cell, q1, q2, q3, q4⟩ := S.1.2.1 a _ ha
    have hr : r = (C0, T0, N0) := Option.some.inj (h1.symm.trans hc)
    subst hr
    obtain ⟨hS, hfc, kC, hkC, hkind⟩ := hE.1.1 ci _ hc
    obtain ⟨cf, kf, fi, f, hi, hsl⟩ := hS j hj
    have hlays := u_lays (ws := wsG) hts hin hj
    have hst := (u_facts hfc hkC hlays hi).1
    have hi' : s.fieldFound? C0 (T0 j).2.1 (T0 j).2.2.1 = some (cf, kf, fi, f) := by rw [← hT]; exact hi
    have go : ∀ H' : Heap, H'[base + a]? = some (cell.setSlot f.slot (cV base b v)) → H'.size = H.size → (∀ q : Nat, q ≠ base + a → H'[q]? = H[q]?) → W p l e R s m args below meth c H' (locs ++ [⟨base + a, f.slot⟩]) cells slots Q (F0 m (pc + 3) ls (q.map (cV base b))) := by
      intro H' e1 e2 e3
      rw [hsl] at e1
      refine hk _ _ _ _ _ _ _ _ _ h (sd_kept S (S.1.write hbb ha hsh hI hF e2 e3 ⟨_, hc, t_OB.to (V := updV (vp_V (cO base (M.2.1 a) (M.2.2 a) ci)) j (cV base b v)) ⟨_, e1, q2, q3, t_set q4 hap hj _⟩ (fun t ht => ?_)⟩) hsh (sd_locs S a _))
      have ht' : t < nfT ci := by rw [hN]; exact ht
      show updV (vp_V (cO base (M.2.1 a) (M.2.2 a) ci)) j (cV base b v) t = vp_V (cO base (M'.2.1 a) (M'.2.2 a) ci) t
      rw [cO_V ht', hv t ht']
      by_cases e : t = j
      · simp [updV, e]
      · simp [updV, e, cO_V ht']
    have hlt : f.slot < cell.slots.size := by rw [hsl]; exact k2_hasslot (q4 j hj)
    have hlay := hts _ (hin _ (u_in_lay hj))
    unfold u_lay at hlay
    cases hf : (T0 j).2.2.2 with
    | false =>
      rw [if_neg (by rw [hf]; decide)] at hlay
      exact W.putK hx hb (f := f) ⟨hown, hts _ (isW_mem hw), ⟨_, _, _, hi'⟩, hst⟩ (by rw [q2]; exact u_store hfc hkC hkind hlay hi (hty j hj) hfit.1 hfit.2) q1 q3 hlt rfl rfl hd go
    | true =>
      rw [if_pos hf] at hlay
      rw [hf] at hfinal
      have hfin2 : ini = true ∧ C0 = own := by simpa using hfinal
      have hcf : m.cls = cf := by
        obtain ⟨_, _, c', _, _, _, -, -, hf', -, -, -, hown2, -⟩ := Cond.laysFinal_spec hlay
        have e1 : c' = cf := by have := hi.symm.trans hf'; simp at this; exact this.1.symm
        rw [hT, hfin2.2] at hown2
        rw [← e1]; exact Option.some.inj (hown.symm.trans hown2)
      exact W.putFinK hx hb hown (hts _ (isW_mem hw)) hi' hst hcf (hini hfin2.1) (by rw [q2]; exact u_fits hfc hkC hkind (Or.inr hlay) hi (hty j hj) hfit.1 hfit.2) q1 q3 hlt rfl rfl hd go
/-- iastore, bastore -/
theorem sd_iast (C : sd_X D K base b own cc ini nL d ce se p R s m args meth c) (hk : sd_K p l e R s m args below meth c Q D K base b G nL o ce se k) (hd : decode cc pc = .ok (.iastore, 1)) (S : sd_S D K base b G s nL o ce se L M ls H locs cells slots) {a : Nat} {i x : Int32} (hok : am_okA M a 0 i = true) (h : k (pc + 1) L q (am_setI M a i.toNatClampNeg x) = some o) :
    W p l e R s m args below meth c H locs cells slots Q (F0 m pc ls ((Value.int x :: Value.int i :: Value.ref a :: q).map (cV base b))) := by
  obtain ⟨hx, hb, hml, hown, hts, hE, hbb, -⟩ := C
  obtain ⟨n, ha, hi⟩ := am_okA_of hok
  have hcell : H[base + a]? = some (vp_cell (K 0) (n, .inl (M.2.1 a))) := S.1.2.1 a _ ha
  refine W.iast hx hb hcell ((hE.1.2 0 (K 0, .int) rfl).1 n (fun j => .int (M.2.1 a j))) (fun q => by cases q) (by show ¬ (i < 0 ∨ (arrV _ _ _).slots.size ≤ _); rw [arrV_size]; exact am_in_of hi) rfl rfl hd fun H1 e1 z1 o1 => ?_
  refine hk _ _ _ _ _ _ _ _ _ h (sd_kept S (S.1.write hbb ha rfl (fun q hq => ?_) (fun q hq => rfl) z1 o1 ?_) rfl (sd_locs S a _))
  · funext t; simp [am_setI, up2, hq]
  · show H1[base + a]? = some (vp_cell (K 0) (n, .inl ((am_setI M a i.toNatClampNeg x).2.1 a)))
    rw [e1, vp_cell_i, vp_cell_i, arrV_store]
    congr 2
    funext t
    by_cases ht : t = i.toNatClampNeg
    · simp [updV, am_setI, up2, ht]
    · simp [updV, am_setI, up2, ht]
theorem sd_zast (C : sd_X D K base b own cc ini nL d ce se p R s m args meth c) (hk : sd_K p l e R s m args below meth c Q D K base b G nL o ce se k) (hd : decode cc pc = .ok (.bastore, 1)) (S : sd_S D K base b G s nL o ce se L M ls H locs cells slots) {a : Nat} {i x : Int32} (hok : am_okA M a 1 i = true) (h : k (pc + 1) L q (am_setI M a i.toNatClampNeg (x &&& 1)) = some o) :
    W p l e R s m args below meth c H locs cells slots Q (F0 m pc ls ((Value.int x :: Value.int i :: Value.ref a :: q).map (cV base b))) := by
  obtain ⟨hx, hb, hml, hown, hts, hE, hbb, -⟩ := C
  obtain ⟨n, ha, hi⟩ := am_okA_of hok
  have hcell : H[base + a]? = some (vp_cell (K 1) (n, .inl (M.2.1 a))) := S.1.2.1 a _ ha
  refine W.zast hx hb hcell ((hE.1.2 1 (K 1, .boolean) rfl).1 n (fun j => .int (M.2.1 a j))) (fun q => by cases q) (by show ¬ (i < 0 ∨ (arrV _ _ _).slots.size ≤ _); rw [arrV_size]; exact am_in_of hi) rfl rfl hd fun H1 e1 z1 o1 => ?_
  refine hk _ _ _ _ _ _ _ _ _ h (sd_kept S (S.1.write hbb ha rfl (fun q hq => ?_) (fun q hq => rfl) z1 o1 ?_) rfl (sd_locs S a _))
  · funext t; simp [am_setI, up2, hq]
  · show H1[base + a]? = some (vp_cell (K 1) (n, .inl ((am_setI M a i.toNatClampNeg (x &&& 1)).2.1 a)))
    rw [e1, vp_cell_i, vp_cell_i, arrV_store]
    congr 2
    funext t
    by_cases ht : t = i.toNatClampNeg
    · simp [updV, am_setI, up2, ht, narrow]
    · simp [updV, am_setI, up2, ht]
/-- aastore -/
theorem sd_aast (C : sd_X D K base b own cc ini nL d ce se p R s m args meth c) (hk : sd_K p l e R s m args below meth c Q D K base b G nL o ce se k) (hd : decode cc pc = .ok (.aastore, 1)) (S : sd_S D K base b G s nL o ce se L M ls H locs cells slots) {a v : Nat} {i : Int32} (hok : am_okS M a v i = true) (h : k (pc + 1) L q (am_setR M a i.toNatClampNeg v) = some o) :
    W p l e R s m args below meth c H locs cells slots Q (F0 m pc ls ((Value.ref v :: Value.int i :: Value.ref a :: q).map (cV base b))) := by
  obtain ⟨hx, hb, hml, hown, hts, hE, hbb, -⟩ := C
  obtain ⟨n, ci, j, ha, hv, hkq, hi⟩ := am_okS_of hok
  obtain ⟨r, hc, hty⟩ := kq_ok K hkq
  have hcell : H[base + a]? = some (vp_cell (K (ci + 2)) (n, .inr (.inr (.inr (.inr (fun t => cR base (M.2.2 a t))))))) := S.1.2.1 a _ ha
  obtain ⟨r', hr', cellV, g1, g2, g3, -⟩ := S.1.2.1 v _ hv
  have hcls := (hE.1.1 ci r hc).2
  obtain ⟨kA, comp, k1, k2, k3, -⟩ := (hE.1.2 j _ hty).2
  have hcomp : comp = D.1 ci := Option.some.inj (k3.symm.trans hcls.1)
  subst hcomp
  obtain ⟨kC, hkC, -⟩ := hcls.2
  refine W.aast hx hb hcell (fun q h => by cases h) (fun h => by cases h) k1 k2 rfl hkC ⟨am_in_nn hi, by show _ < (arrV _ _ _).slots.size; rw [arrV_size]; exact am_in_lt hi⟩ g1 (fun q h => by rw [g3] at h; cases h) (by rw [g2]; exact hkC) (by rw [g2]; exact va_assign hcls) rfl rfl hd fun H1 e1 z1 o1 => ?_
  refine hk _ _ _ _ _ _ _ _ _ h (sd_kept S (S.1.write hbb ha rfl (fun q hq => rfl) (fun q hq => ?_) z1 o1 ?_) rfl (sd_locs S a _))
  · funext t; simp [am_setR, up2, hq]
  · show H1[base + a]? = some (vp_cell (K (ci + 2)) (n, .inr (.inr (.inr (.inr (fun t => cR base ((am_setR M a i.toNatClampNeg v).2.2 a t)))))))
    rw [e1, vp_cell_q, vp_cell_q, arrV_store]
    congr 2
    funext t
    by_cases ht : t = i.toNatClampNeg
    · simp [updV, am_setR, up2, ht, cR, va_rf]
    · simp [updV, am_setR, up2, ht]
/-- new cells -/
theorem sd_pushed {x : Sh_} {H' : Heap} (hkm : M.1.length + 1 ≤ o.2.1.length ∧ am_sz M.1 + am_szh x ≤ am_sz o.2.1) (S : sd_S D K base b G s nL o ce se L M ls H locs cells slots) (hR : am_R D K base b G s (am_new M x) H') : sd_S D K base b G s nL o ce se L (am_new M x) ls H' locs (cells + 1) (slots + am_szh x) := by
  obtain ⟨-, h2, h3, h4, h5⟩ := S
  refine ⟨hR, h2, h3, ?_, ?_⟩
  · simp [am_new]; omega
  · show slots + am_szh x + am_sz o.2.1 = se + am_sz (M.1 ++ [x])
    rw [am_sz_app, am_sz_one]; omega
theorem sd_fits {x : Sh_} (hp : (am_new M x).1 <+: o.2.1) : M.1.length + 1 ≤ o.2.1.length ∧ am_sz M.1 + am_szh x ≤ am_sz o.2.1 := by
  obtain ⟨t, ht⟩ := hp
  rw [← ht]
  constructor
  · simp [am_new]
  · show _ ≤ am_sz ((M.1 ++ [x]) ++ t)
    rw [am_sz_app, am_sz_app, am_sz_one]; omega
theorem sd_new (C : sd_X D K base b own cc ini nL d ce se p R s m args meth c) (hk : sd_K p l e R s m args below meth c Q D K base b G nL o ce se k) (hkm : ∀ pc L st M, k pc L st M = some o → M.1 <+: o.2.1) {ci idx i1 i2 : Nat} (hchk : (match cls_[ci]? with
    | some q => isW i1 (.classLink own idx q.1) && isW i2 (.instantiable q.1 q.2.2) && isW (ciL.getD ci 0) (.initialized q.1)
    | none => false) = true) (hd : decode cc pc = .ok (.new idx, 3)) (S : sd_S D K base b G s nL o ce se L M ls H locs cells slots) (h : k (pc + 3) L (.ref M.1.length :: q) (am_new M (.inl ci)) = some o) :
    W p l e R s m args below meth c H locs cells slots Q (F0 m pc ls (q.map (cV base b))) := by
  obtain ⟨hx, hb, hml, hown, hts, hE, hbb, -, -, -, hce, hse⟩ := C
  have hfit := sd_fits (hkm _ _ _ _ h)
  cases hc : cls_[ci]? with
  | none => rw [hc] at hchk; cases hchk
  | some r =>
    rw [hc] at hchk
    obtain ⟨C0, T0, N0⟩ := r
    simp only [Bool.and_eq_true] at hchk
    obtain ⟨⟨w1, w2⟩, w3⟩ := hchk
    have hN : nfT ci = N0 := by simp [nfT, hc]
    have hsz : am_szh (.inl ci) = N0 := hN
    obtain ⟨hin, hty, -, hdef, -⟩ := cls_ok ci _ hc
    have hKn := hE.1.1 ci _ hc
    have h4 := S.2.2.2.1
    have h5 := S.2.2.2.2
    rw [hsz] at hfit
    refine W.newcK hx hb hown (hts _ (isW_mem w1)) (hts _ (isW_mem w2)) (hts _ (isW_mem w3)) rfl hd (by omega) (by omega) hKn.2.1 rfl fun H1 kC hkC e1 z1 o1 => ?_
    have hnew : am_R D K base b G s (am_new M (.inl ci)) H1 := S.1.push hbb z1 o1 ⟨_, hc, (u_born (yT ci) (ws := wsG) hts hin hKn hkC e1 hty).to (fun j hj => by
      show defaultValue (yT ci j) = vp_V (cO base (fun _ => 0) (fun _ => none) ci) j
      rw [cO_V (by rw [hN]; exact hj), hdef j hj]
      by_cases h0 : fkT ci j = 0
      · simp [cF, h0]
      · simp [cF, h0, cR, va_rf])⟩
    have S' := sd_pushed (x := .inl ci) (by rw [hsz]; exact hfit) S hnew
    rw [hsz] at S'
    have := hk _ _ _ _ _ _ _ _ _ h S'
    rw [S.1.1]
    exact this
theorem sd_newa (C : sd_X D K base b own cc ini nL d ce se p R s m args meth c) (hk : sd_K p l e R s m args below meth c Q D K base b G nL o ce se k) (hkm : ∀ pc L st M, k pc L st M = some o → M.1 <+: o.2.1) {ty i1 : Nat} {t : ArrayType} (hchk : ((match ty with
    | 0 => decide (newarray.typeOf t = .int)
    | 1 => decide (newarray.typeOf t = .boolean)
    | _ => false) && isW i1 (.arrayClass (newarray.typeOf t))) = true) (hd : decode cc pc = .ok (.newarray t, 2)) (S : sd_S D K base b G s nL o ce se L M ls H locs cells slots) {x : Int32} (hi : am_in x 4000 = true) (h : k (pc + 2) L (.ref M.1.length :: q) (am_new M (.inr (ty, x.toNatClampNeg))) = some o) :
    W p l e R s m args below meth c H locs cells slots Q (F0 m pc ls ((Value.int x :: q).map (cV base b))) := by
  obtain ⟨hx, hb, hml, hown, hts, hE, hbb, -, -, -, hce, hse⟩ := C
  have hfit := sd_fits (hkm _ _ _ _ h)
  rw [Bool.and_eq_true] at hchk
  obtain ⟨w0, w1⟩ := hchk
  have hsz : am_szh (.inr (ty, x.toNatClampNeg)) = x.toNatClampNeg := rfl
  rw [hsz] at hfit
  have h4 := S.2.2.2.1
  have h5 := S.2.2.2.2
  have hlt := am_in_lt hi
  have hbytes : x.toNatClampNeg * componentBytes (newarray.typeOf t) ≤ 536870912 := by
    have : componentBytes (newarray.typeOf t) ≤ 8 := by cases newarray.typeOf t <;> simp [componentBytes]
    calc _ ≤ 4000 * 8 := Nat.mul_le_mul (by omega) this
      _ ≤ _ := by decide
  refine va_newaK hx hb (hts _ (isW_mem w1)) rfl hd rfl (am_in_nn hi) rfl hbytes (by omega) (by omega) rfl fun H1 cA e1 z1 o1 hA hNm => ?_
  have hcell : va_at D cls_ (H.size, cE K base (fun _ => 0) (fun _ => none) (.inr (ty, x.toNatClampNeg))) H1 := by
    rcases ty with _ | _ | ty
    · have e0 : newarray.typeOf t = .int := of_decide_eq_true w0
      rw [e0] at e1 hNm
      have e2 : cA = K 0 := Option.some.inj (hNm.symm.trans (hE.1.2 0 (K 0, .int) rfl).2)
      subst e2
      exact e1
    · have e0 : newarray.typeOf t = .boolean := of_decide_eq_true w0
      rw [e0] at e1 hNm
      have e2 : cA = K 1 := Option.some.inj (hNm.symm.trans (hE.1.2 1 (K 1, .boolean) rfl).2)
      subst e2
      exact e1
    · cases w0
  have := hk _ _ _ _ _ _ _ _ _ h (sd_pushed (by rw [hsz]; exact hfit) S (S.1.push hbb z1 o1 hcell))
  rw [S.1.1]
  exact this
theorem sd_anew (C : sd_X D K base b own cc ini nL d ce se p R s m args meth c) (hk : sd_K p l e R s m args below meth c Q D K base b G nL o ce se k) (hkm : ∀ pc L st M, k pc L st M = some o → M.1 <+: o.2.1) {ci i1 idx : Nat} (hchk : (match cls_[ci]? with
    | some q => isW i1 (.classLink own idx q.1) && decide (q.1 ∈ aoL) && (kqT (ci + 2)).isSome
    | none => false) = true) (hd : decode cc pc = .ok (.anewarray idx, 3)) (S : sd_S D K base b G s nL o ce se L M ls H locs cells slots) {x : Int32} (hi : am_in x 4000 = true) (h : k (pc + 3) L (.ref M.1.length :: q) (am_new M (.inr (ci + 2, x.toNatClampNeg))) = some o) :
    W p l e R s m args below meth c H locs cells slots Q (F0 m pc ls ((Value.int x :: q).map (cV base b))) := by
  obtain ⟨hx, hb, hml, hown, hts, hE, hbb, -, -, -, hce, hse⟩ := C
  have hfit := sd_fits (hkm _ _ _ _ h)
  cases hc : cls_[ci]? with
  | none => rw [hc] at hchk; cases hchk
  | some r =>
    rw [hc] at hchk
    simp only [Bool.and_eq_true, decide_eq_true_eq] at hchk
    obtain ⟨⟨w1, w2⟩, w3⟩ := hchk
    obtain ⟨j, hj⟩ := Option.isSome_iff_exists.mp w3
    obtain ⟨r', hc', hty⟩ := kq_ok K hj
    have hr : r' = r := Option.some.inj (hc'.symm.trans hc)
    subst hr
    have hsz : am_szh (.inr (ci + 2, x.toNatClampNeg)) = x.toNatClampNeg := rfl
    rw [hsz] at hfit
    have h4 := S.2.2.2.1
    have h5 := S.2.2.2.2
    have hlt := am_in_lt hi
    refine W.anew hx hb hown (hts _ (isW_mem w1)) (va_AO.use (hE.2.2 _ w2)) rfl hd rfl (am_in_nn hi) (by omega) (by omega) (by omega) fun cA kA comp f1 f2 f3 f4 => ?_
    generalize hH1 : H.push ({ cls := cA, slots := Array.replicate x.toNatClampNeg .null, vm := .none } : Cell) = H1
    have z1 : H1.size = H.size + 1 := by rw [← hH1, Array.size_push]
    have e1 : H1[H.size]? = some (arrV cA x.toNatClampNeg (fun _ => .null)) := by rw [← hH1, Array.getElem?_push_size, ← arrV_new]
    have o1 : ∀ q : Nat, q < H.size → H1[q]? = H[q]? := fun q hq => by rw [← hH1, Array.getElem?_push, if_neg (Nat.ne_of_lt hq)]
    obtain ⟨-, -, -, -, -, g4⟩ := (hE.1.2 j _ hty).2
    have e2 : cA = K (ci + 2) := Option.some.inj (f1.symm.trans g4)
    subst e2
    have := hk _ _ _ _ _ _ _ _ _ h (sd_pushed (by rw [hsz]; exact hfit) S (S.1.push hbb z1 o1 e1))
    rw [S.1.1]
    exact this
end SDW
end
section
/-! SOUNDNESS: natives, calls, switches -/
section SDC
variable {p : Program} {l : Launch} {e : Env} {R : Room} {s : State} {m : MethodId} {args : Array Value} {below : List Frame} {meth : Method} {c : Code} {Q : State → Prop}
variable {D : va_G} {K : Nat → ClassId} {base b : Nat} {G : Nat × (Nat → Int32)} {own : String} {cc : ByteArray} {ini : Bool} {nL d : Nat} {o : Out_} {ce se : Nat}
variable {k : Kn_} {call : Nat → List Value → Mm_ → Option Out_} {pc : Nat} {L : List (Option Value)} {st q : List Value} {M : Mm_} {ls : Array Slot} {H : Heap} {locs : List Loc} {cells slots : Nat}
theorem sd_nn {z : Int32} (h : 0 ≤ z.toInt) : ¬ z < 0 ∧ z.toInt = (z.toNatClampNeg : Int) := by
  refine ⟨fun q => ?_, ?_⟩
  · rw [Int32.lt_iff_toInt_lt, Int32.toInt_zero] at q
    omega
  · show z.toInt = ((z.toInt.toNat : Nat) : Int)
    omega
/-- System.arraycopy -/
theorem sd_copy (C : sd_X D K base b own cc ini nL (d + 1) ce se p R s m args meth c) (hk : sd_K p l e R s m args below meth c Q D K base b G nL o ce se k) {idx i1 : Nat} (hw : isW i1 (.methodLink own idx arraycopyName) = true) (hd : decode cc pc = .ok (.invokestatic idx, 3)) (S : sd_S D K base b G s nL o ce se L M ls H locs cells slots)
    {n dp sp : Int32} {a a0 : Nat} (hq : q.length ≤ 8) (hok : am_okC M a0 a sp dp n = true) (h : k (pc + 3) L q (am_copy M a0 a sp.toNatClampNeg dp.toNatClampNeg n.toNatClampNeg) = some o) :
    W p l e R s m args below meth c H locs cells slots Q (F0 m pc ls ((Value.int n :: Value.int dp :: Value.ref a :: Value.int sp :: Value.ref a0 :: q).map (cV base b))) := by
  obtain ⟨hx, hb, hml, hown, hts, hE, hbb, -, hfr, hlo, -⟩ := C
  obtain ⟨x, y, ha0, ha, b1, b2, b3, b4, b5⟩ := am_okC_of hok
  obtain ⟨h1, e1⟩ := sd_nn b1
  obtain ⟨h2, e2⟩ := sd_nn b2
  obtain ⟨h3, e3⟩ := sd_nn b3
  have hc0 : H[base + a0]? = some (vp_cell (K 0) (x, .inl (M.2.1 a0))) := S.1.2.1 a0 _ ha0
  have hc1 : H[base + a]? = some (vp_cell (K 0) (y, .inl (M.2.1 a))) := S.1.2.1 a _ ha
  obtain ⟨-, k0, hk0, cm0, hkk0⟩ := (hE.1.2 0 (K 0, .int) rfl).1 x (fun j => .int (M.2.1 a0 j))
  obtain ⟨-, k1, hk1, cm1, hkk1⟩ := (hE.1.2 0 (K 0, .int) rfl).1 y (fun j => .int (M.2.1 a j))
  have hls : ls.size = nL := by
    obtain ⟨-, lv, hh, -⟩ := S.2.2.1
    exact hh.1
  intro T hT X
  obtain ⟨vm', X', step⟩ := X.arraycopy hx hown (hts _ (isW_mem hw)) (hts _ (isW_mem ok_cpyN)) (hts _ (isW_mem ok_cpyS)) (hts _ (isW_mem ok_cpyI)) (src := base + a0) (dst := base + a) (cs := vp_cell (K 0) (x, .inl (M.2.1 a0))) (cd := vp_cell (K 0) (y, .inl (M.2.1 a))) (srcPos := sp) (destPos := dp) (n := n) (by rw [hT]; exact hc0) (by rw [hT]; exact hc1)
    (fun _ h => by cases h) (fun _ h => by cases h) (fun h => by cases h) (fun h => by cases h) hk0 hk1 hkk0 hkk1 (by simp [refKind]) h1 h2 h3
    (by rw [e1, e3]; show ¬ _ > ((arrV (K 0) x (fun j => .int (M.2.1 a0 j))).slots.size : Int); rw [arrV_size]; omega)
    (by rw [e2, e3]; show ¬ _ > ((arrV (K 0) y (fun j => .int (M.2.1 a j))).slots.size : Int); rw [arrV_size]; omega)
    (fun vm₁ _ i hi => by
      have e : (vp_cell (K 0) (x, .inl (M.2.1 a0))).slots.getD (sp.toNatClampNeg + i) .null = .int (M.2.1 a0 (sp.toNatClampNeg + i)) := by
        show (arrV (K 0) x (fun j => .int (M.2.1 a0 j))).slots.getD _ _ = _
        rw [Array.getD_eq_getD_getElem?, arrV_read _ _ (by omega)]
        rfl
      refine ⟨?_, ?_⟩
      · rw [e]
        rfl
      · rw [e]
        exact trivial)
    (g := F0 m pc ls ((Value.int n :: Value.int dp :: Value.ref a :: Value.int sp :: Value.ref a0 :: q).map (cV base b))) rfl (by rw [hml]; exact hls) (rest := q.map (cV base b)) rfl (by rw [hb]; exact hd) (by omega) (by
      show 2 * 0 + ((q.map (cV base b)).map fun v => v.category).sum + (nativeFrameWords "java/lang/System" "arraycopy" 5 + 11) ≤ R.locals
      rw [cV_sum, show nativeFrameWords "java/lang/System" "arraycopy" 5 = 7 from rfl]
      omega)
  have hcp : copied (vp_cell (K 0) (x, .inl (M.2.1 a0))) (vp_cell (K 0) (y, .inl (M.2.1 a))) sp dp n = vp_cell (K 0) (y, .inl (va_cpy (M.2.1 a0) (M.2.1 a) sp.toNatClampNeg dp.toNatClampNeg n.toNatClampNeg)) := va_copied (fun z => .int z) (K 0) (K 0) (M.2.1 a0) (M.2.1 a) (by omega)
  rw [hcp] at X' step
  have hl : base + a < H.size := (Array.getElem?_eq_some_iff.mp hc1).1
  generalize hc2 : vp_cell (K 0) (y, .inl (va_cpy (M.2.1 a0) (M.2.1 a) sp.toNatClampNeg dp.toNatClampNeg n.toNatClampNeg)) = c2 at X' step
  have hheap : ((T.setVm vm').setCell (base + a) c2).heap = H.setIfInBounds (base + a) c2 := by rw [← hT]; rfl
  have oq : ∀ q : Nat, q ≠ base + a → (H.setIfInBounds (base + a) c2)[q]? = H[q]? := fun q hq => by simp [Array.getElem?_setIfInBounds, Ne.symm hq]
  have hR : am_R D K base b G s (am_copy M a0 a sp.toNatClampNeg dp.toNatClampNeg n.toNatClampNeg) (H.setIfInBounds (base + a) c2) := by
    refine S.1.write hbb ha rfl (fun q hq => ?_) (fun q hq => rfl) (by simp) oq ?_
    · funext t; simp [am_copy, rw1, hq]
    · show (H.setIfInBounds (base + a) c2)[base + a]? = some (vp_cell (K 0) (y, .inl ((am_copy M a0 a sp.toNatClampNeg dp.toNatClampNeg n.toNatClampNeg).2.1 a)))
      have e4 : (am_copy M a0 a sp.toNatClampNeg dp.toNatClampNeg n.toNatClampNeg).2.1 a = va_cpy (M.2.1 a0) (M.2.1 a) sp.toNatClampNeg dp.toNatClampNeg n.toNatClampNeg := by
        funext t; simp [am_copy, rw1]
      rw [e4, hc2]
      simp [Array.getElem?_setIfInBounds, hl]
  obtain ⟨t, a1, b1⟩ := hk _ _ _ _ ls _ _ _ _ h (sd_kept S hR rfl (fun q hq => by
    rcases List.mem_append.mp hq with h | h
    · exact S.2.1 q h
    · obtain ⟨z, -, hz⟩ := List.mem_map.mp h
      rw [← hz]
      exact Nat.le_add_right _ _)) _ hheap X'
  exact ⟨t, step t a1, b1⟩
/-- behind a call -/
theorem sd_goon {o' : Out_} {mc ms : Nat} {rest : List Value} {st0 : List Value} {a : Array Value} (hr : va_Run p l e R s m args below meth c H locs cells slots mc ms (F0 m pc ls st0) rest (am_Qc D K base b G o' a) (fun q => base ≤ q)) (hl : ∀ q ∈ locs, base ≤ q.base)
    (kk : ∀ (H1 : Heap) (locs1 : List Loc), am_R D K base b G s o'.2 H1 → (∀ q ∈ locs1, base ≤ q.base) → W p l e R s m args below meth c H1 locs1 (cells + mc) (slots + ms) Q (F0 m (pc + 3) ls ((o'.1.map (cV base b)).toList ++ rest))) : W p l e R s m args below meth c H locs cells slots Q (F0 m pc ls st0) := by
  intro T hT X
  obtain ⟨v, st₀, t, T', L, h0, X', hL, e1, e2, ⟨hv, hR⟩, st⟩ := hr T hT X
  cases hv
  have hvm : s.vm.Alike t.vm := by rw [← e2]; exact X'.warmed.alike
  have hR' := am_R.moved (U := s) hvm.symm hR
  rw [← e1] at hR'
  obtain ⟨t2, a1, b1⟩ := kk T'.heap (locs ++ L) hR' (fun q hq => by
    rcases List.mem_append.mp hq with h | h
    · exact hl q h
    · exact hL q h) T' rfl X'
  exact ⟨t2, st t2 a1, b1⟩
theorem sd_inv (C : sd_X D K base b own cc ini nL d ce se p R s m args meth c) (hk : sd_K p l e R s m args below meth c Q D K base b G nL o ce se k) (hkm : ∀ pc L st M, k pc L st M = some o → M.1 <+: o.2.1) (hcl : sd_C l D K base b G d call) (S : sd_S D K base b G s nL o ce se L M ls H locs cells slots)
    {y : Mi_} {i : Instr} {ln x1 x2 x3 : Nat} {sw : List (Int × Nat)} (hy : miL[x1]? = some y) (hna : y.2.2.2.2.2.1 = x2) (h : am_inv k call (pc, i, ln, x1, x2, x3, sw) L st M = some o)
    (run : ∀ (o' : Out_) (d' : Nat), d = d' + 1 → (st.drop x2).length ≤ 8 → (st.take x2).reverse.length = x2 → cells + (o'.2.1.length - M.1.length) ≤ R.cells ∧ slots + (am_sz o'.2.1 - am_sz M.1) ≤ R.slots → Met l y.1 (sd_ws y) (sd_rm d' M o'.2) (am_Pc D K base b G (st.take x2).reverse M) (am_Qc D K base b G o') (o'.2.1.length - M.1.length) (am_sz o'.2.1 - am_sz M.1) (fun q => base ≤ q) →
      ∃ a, va_Run p l e R s m args below meth c H locs cells slots (o'.2.1.length - M.1.length) (am_sz o'.2.1 - am_sz M.1) (F0 m pc ls (st.map (cV base b))) ((st.drop x2).map (cV base b)) (am_Qc D K base b G o' a) (fun q => base ≤ q)) :
    W p l e R s m args below meth c H locs cells slots Q (F0 m pc ls (st.map (cV base b))) := by
  obtain ⟨hc, h⟩ := cond_inv h
  rw [Bool.and_eq_true] at hc
  have hc1 : (st.drop x2).length ≤ 8 := Nat.le_of_ble_eq_true hc.1
  have hc2 : x2 ≤ st.length := Nat.le_of_ble_eq_true hc.2
  obtain ⟨o', h1, h2⟩ := Option.bind_eq_some_iff.mp h
  have hlen : (st.take x2).reverse.length = x2 := by rw [List.length_reverse, List.length_take]; omega
  obtain ⟨hp1, d', hd', hM⟩ := hcl x1 _ M o' y h1 hy (hlen.trans hna.symm)
  have hp2 := hkm _ _ _ _ h2
  have l1 := hp1.length_le
  have l2 := hp2.length_le
  have z1 : am_sz M.1 ≤ am_sz o'.2.1 := by obtain ⟨t, ht⟩ := hp1; rw [← ht, am_sz_app]; omega
  have z2 : am_sz o'.2.1 ≤ am_sz o.2.1 := by obtain ⟨t, ht⟩ := hp2; rw [← ht, am_sz_app]; omega
  have h4 := S.2.2.2.1
  have h5 := S.2.2.2.2
  obtain ⟨-, -, -, -, -, -, -, -, -, -, hce, hse⟩ := C
  obtain ⟨a, hrun⟩ := run o' d' hd' hc1 hlen ⟨by omega, by omega⟩ hM
  refine sd_goon hrun S.2.1 fun H1 locs1 hR1 hl1 => ?_
  have := hk _ _ _ _ ls H1 locs1 (cells + (o'.2.1.length - M.1.length)) (slots + (am_sz o'.2.1 - am_sz M.1)) h2 ⟨hR1, hl1, S.2.2.1, by omega, by omega⟩
  have e1 : (o'.1.toList ++ st.drop x2).map (cV base b) = (o'.1.map (cV base b)).toList ++ (st.drop x2).map (cV base b) := by
    rw [List.map_append]
    congr 1
    cases o'.1 <;> rfl
  rw [← e1]
  exact this
theorem sd_size (S : sd_S D K base b G s nL o ce se L M ls H locs cells slots) : ls.size = nL := by
  obtain ⟨-, lv, hh, -⟩ := S.2.2.1
  exact hh.1
theorem sd_pre {U : State} {as : List Value} (hE : am_E D K s) (hR : am_R D K base b G s M H) (hU : U.heap = H) (hW : s.WarmedH U.vm) : am_Pc D K base b G as M (as.map (cV base b)).toArray U :=
  ⟨rfl, by rw [hU]; exact hR.moved hW.alike, hE.warm hW⟩
theorem sd_stk {x2 a : Nat} {as : List Value} (h : (st.take x2).reverse = .ref a :: as) : st.map (cV base b) = (as.map (cV base b)).reverse ++ Value.ref (base + a) :: (st.drop x2).map (cV base b) := by
  have h1 : st.take x2 = as.reverse ++ [.ref a] := by
    have := congrArg List.reverse h
    rw [List.reverse_reverse] at this
    rw [this]; simp
  have h2 : st = (as.reverse ++ [.ref a]) ++ st.drop x2 := by rw [← h1, List.take_append_drop]
  calc st.map (cV base b) = ((as.reverse ++ [Value.ref a]) ++ st.drop x2).map (cV base b) := by rw [← h2]
    _ = _ := by simp [cV]
theorem sd_room {d' : Nat} {M' : Mm_} {maxL : Nat} (C : sd_X D K base b own cc ini nL d ce se p R s m args meth c) (hd : d = d' + 1) (hm : maxL ≤ 9) : (sd_rm d' M M').frames + 1 ≤ R.frames ∧ 8 + (maxL + 11) + (sd_rm d' M M').locals ≤ R.locals := by
  obtain ⟨-, -, -, -, -, -, -, -, hfr, hlo, -⟩ := C
  constructor
  · show d' + 1 ≤ _
    omega
  · show 8 + (maxL + 11) + (30 * d' + 40) ≤ _
    omega
theorem sd_callV (C : sd_X D K base b own cc ini nL d ce se p R s m args meth c) (hk : sd_K p l e R s m args below meth c Q D K base b G nL o ce se k) (hkm : ∀ pc L st M, k pc L st M = some o → M.1 <+: o.2.1) (hcl : sd_C l D K base b G d call) (S : sd_S D K base b G s nL o ce se L M ls H locs cells slots)
    {i : Instr} {ln x1 x2 x3 idx : Nat} {sw : List (Int × Nat)} (hd : decode cc pc = .ok (.invokevirtual idx, 3)) (hchk : (match miL[x1]?, sw with
      | some y, q :: _ => isW x3 (.methodLink own idx y.1) && Nat.beq y.2.2.2.2.1 1 && Nat.beq y.2.2.2.2.2.1 x2 && decide ((cls_[q.2]?).map (fun z => z.1) = some y.1.cls)
      | _, _ => false) = true) (hrc : am_recv M (pc, i, ln, x1, x2, x3, sw) st = true) (h : am_inv k call (pc, i, ln, x1, x2, x3, sw) L st M = some o) :
    W p l e R s m args below meth c H locs cells slots Q (F0 m pc ls (st.map (cV base b))) := by
  cases hy : miL[x1]? with
  | none => rw [hy] at hchk; cases hchk
  | some y =>
    cases sw with
    | nil => rw [hy] at hchk; cases hchk
    | cons z sw =>
      rw [hy] at hchk
      simp only [Bool.and_eq_true, decide_eq_true_eq] at hchk
      obtain ⟨⟨⟨w1, w2⟩, w3⟩, w4⟩ := hchk
      have w2' := Nat.eq_of_beq_eq_true w2
      have w3' := Nat.eq_of_beq_eq_true w3
      obtain ⟨mt, hmt, hI⟩ := mi_ok x1 y hy
      obtain ⟨yn, yb, yl, yr, yk, ya, ys⟩ := y
      dsimp only at w1 w2' w3' w4
      subst w2'
      simp only [chkI, Bool.and_eq_true, decide_eq_true_eq] at hI
      obtain ⟨⟨⟨⟨⟨⟨⟨⟨⟨⟨v1, v2⟩, ⟨⟨v3, v4⟩, v5⟩⟩, v6⟩, v7⟩, v8⟩, v9⟩, v10⟩, v11⟩, v12⟩, v13⟩ := hI
      obtain ⟨-, -⟩ : True ∧ True := ⟨trivial, trivial⟩
      refine sd_inv C hk hkm hcl S hy w3' h fun o' d' hd' hlen hrev hf hM => ?_
      unfold am_recv at hrc
      dsimp only at hrc
      cases has : (st.take x2).reverse with
      | nil => rw [has] at hrc; cases hrc
      | cons w as =>
        rw [has] at hrc hrev hM
        cases w with
        | ref a =>
          have ha := am_okO_of hrc
          cases hc : cls_[z.2]? with
          | none => rw [hc] at w4; cases w4
          | some r =>
            rw [hc] at w4
            have hr1 : r.1 = yn.cls := Option.some.inj w4
            have hx := C.1
            have hE := C.2.2.2.2.2.1
            have hts := C.2.2.2.2.1
            refine ⟨_, va_runV (C := yn.cls) (As := as.map (cV base b)) (b := base + a) (n := as.length) ⟨hx, C.2.1, C.2.2.1, C.2.2.2.1, hts⟩ hM (cwV as.length hts (good_sub fun w hw => ?_) rfl rfl rfl ⟨rfl, v7, v8, ?_⟩ (sd_room C hd' (Nat.le_of_ble_eq_true v9))) ⟨am_Pc.blind, ?_, fun U hU hW => ?_⟩ rfl (List.length_map ..) (sd_size S) (sd_stk has) (lv_room (by rw [cV_sum]; exact hlen)) hd hf⟩
            · rcases List.mem_append.mp hw with hw | hw
              · simp only [List.mem_cons, List.not_mem_nil, or_false] at hw
                rcases hw with rfl | rfl | rfl | rfl
                · exact isW_mem w1
                · exact isW_mem v3
                · exact isW_mem v4
                · exact isW_mem v2
              · rcases List.mem_cons.mp hw with rfl | hw
                · exact isW_mem v1
                · exact hw
            · cases hp : parseMethodDescriptor yn.desc with
              | none => rw [hp] at v5; cases v5
              | some sg =>
                rw [hp] at v5
                have : sg.parameters.length + 1 = ya := Option.some.inj v5
                have h9 : as.length + 1 = x2 := hrev
                show some sg.parameters.length = some as.length
                congr 1
                omega
            · have := va_recv (q0 := 0) (a := base + a) (fs := cO base (M.2.1 a) (M.2.2 a) z.2) hE.1 (S.1.one ha) hc rfl
              rw [hr1] at this
              exact this
            · exact sd_pre hE S.1 hU hW
        | _ => cases hrc
theorem sd_callS (C : sd_X D K base b own cc ini nL d ce se p R s m args meth c) (hk : sd_K p l e R s m args below meth c Q D K base b G nL o ce se k) (hkm : ∀ pc L st M, k pc L st M = some o → M.1 <+: o.2.1) (hcl : sd_C l D K base b G d call) (S : sd_S D K base b G s nL o ce se L M ls H locs cells slots)
    {i : Instr} {ln x1 x2 x3 idx : Nat} {sw : List (Int × Nat)} (hd : decode cc pc = .ok (.invokestatic idx, 3)) (hchk : (match miL[x1]? with
      | some y => isW x3 (.methodLink own idx y.1) && Nat.beq y.2.2.2.2.1 0 && Nat.beq y.2.2.2.2.2.1 x2
      | none => false) = true) (h : am_inv k call (pc, i, ln, x1, x2, x3, sw) L st M = some o) :
    W p l e R s m args below meth c H locs cells slots Q (F0 m pc ls (st.map (cV base b))) := by
  cases hy : miL[x1]? with
  | none => rw [hy] at hchk; cases hchk
  | some y =>
    rw [hy] at hchk
    simp only [Bool.and_eq_true] at hchk
    obtain ⟨⟨w1, w2⟩, w3⟩ := hchk
    have w2' := Nat.eq_of_beq_eq_true w2
    have w3' := Nat.eq_of_beq_eq_true w3
    obtain ⟨mt, hmt, hI⟩ := mi_ok x1 y hy
    obtain ⟨yn, yb, yl, yr, yk, ya, ys⟩ := y
    dsimp only at w1 w2' w3'
    subst w2'
    simp only [chkI, Bool.and_eq_true, decide_eq_true_eq] at hI
    obtain ⟨⟨⟨⟨⟨⟨⟨⟨⟨⟨v1, v2⟩, ⟨v3, v5⟩⟩, v6⟩, v7⟩, v8⟩, v9⟩, v10⟩, v11⟩, v12⟩, v13⟩ := hI
    refine sd_inv C hk hkm hcl S hy w3' h fun o' d' hd' hlen hrev hf hM => ?_
    have hx := C.1
    have hE := C.2.2.2.2.2.1
    have hts := C.2.2.2.2.1
    refine ⟨_, va_runS (As := (st.take x2).reverse.map (cV base b)) (n := ya) ⟨hx, C.2.1, C.2.2.1, C.2.2.2.1, hts⟩ hM (va_cwS ya hts (good_sub fun w hw => ?_) rfl rfl rfl ⟨v7, v8, v5⟩ (sd_room C hd' (Nat.le_of_ble_eq_true v9))) ⟨am_Pc.blind, fun U hU hW => sd_pre hE S.1 hU hW⟩ rfl ?_ (sd_size S) ?_ (lv_room (by rw [cV_sum]; exact hlen)) hd hf⟩
    · rcases List.mem_append.mp hw with hw | hw
      · simp only [List.mem_cons, List.not_mem_nil, or_false] at hw
        rcases hw with rfl | rfl | rfl
        · exact isW_mem w1
        · exact isW_mem v3
        · exact isW_mem v2
      · rcases List.mem_cons.mp hw with rfl | hw
        · exact isW_mem v1
        · exact hw
    · rw [List.length_map]; exact hrev.trans w3'.symm
    · show st.map (cV base b) = _
      rw [List.map_reverse, List.reverse_reverse, ← List.map_append, List.take_append_drop]
theorem sd_callI (C : sd_X D K base b own cc ini nL d ce se p R s m args meth c) (hk : sd_K p l e R s m args below meth c Q D K base b G nL o ce se k) (hkm : ∀ pc L st M, k pc L st M = some o → M.1 <+: o.2.1) (hcl : sd_C l D K base b G d call) (S : sd_S D K base b G s nL o ce se L M ls H locs cells slots)
    {i : Instr} {ln x1 x2 x3 idx : Nat} {sw : List (Int × Nat)} (hd : decode cc pc = .ok (.invokespecial idx, 3)) (hchk : (match miL[x1]?, sw with
      | some y, q :: _ => (match q.1 with
        | 0 => isW x3 (.methodLink own idx y.1)
        | _ => nsL.any (fun z => decide (z.1 = own ∧ z.2.1 = idx ∧ z.2.2.1 = y.1))) && Nat.beq y.2.2.2.2.1 2 && Nat.beq y.2.2.2.2.2.1 x2
      | _, _ => false) = true) (hrc : am_recv M (pc, i, ln, x1, x2, x3, sw) st = true) (h : am_inv k call (pc, i, ln, x1, x2, x3, sw) L st M = some o) :
    W p l e R s m args below meth c H locs cells slots Q (F0 m pc ls (st.map (cV base b))) := by
  cases hy : miL[x1]? with
  | none => rw [hy] at hchk; cases hchk
  | some y =>
    cases sw with
    | nil => rw [hy] at hchk; cases hchk
    | cons z sw =>
      rw [hy] at hchk
      simp only [Bool.and_eq_true] at hchk
      obtain ⟨⟨w1, w2⟩, w3⟩ := hchk
      have w2' := Nat.eq_of_beq_eq_true w2
      have w3' := Nat.eq_of_beq_eq_true w3
      obtain ⟨mt, hmt, hI⟩ := mi_ok x1 y hy
      obtain ⟨yn, yb, yl, yr, yk, ya, ys⟩ := y
      dsimp only at w1 w2' w3'
      subst w2'
      simp only [chkI, Bool.and_eq_true, decide_eq_true_eq] at hI
      obtain ⟨⟨⟨⟨⟨⟨⟨⟨⟨⟨v1, v2⟩, ⟨⟨⟨v3, v4⟩, v14⟩, v5⟩⟩, v6⟩, v7⟩, v8⟩, v9⟩, v10⟩, v11⟩, v12⟩, v13⟩ := hI
      subst v14
      refine sd_inv C hk hkm hcl S hy w3' h fun o' d' hd' hlen hrev hf hM => ?_
      unfold am_recv at hrc
      dsimp only at hrc
      cases has : (st.take x2).reverse with
      | nil => rw [has] at hrc; cases hrc
      | cons w as =>
        rw [has] at hrc hrev hM
        cases w with
        | ref a =>
          have hx := C.1
          have hE := C.2.2.2.2.2.1
          have hts := C.2.2.2.2.1
          have hg : GoodIn wsG (sd_ws (yn, yb, yl, none, 2, ya, ys)) := good_sub fun w hw => by
            rcases List.mem_cons.mp hw with rfl | hw
            · exact isW_mem v1
            · exact hw
          have hpar : (parseMethodDescriptor yn.desc).map (fun d => d.parameters.length) = some as.length := by
            cases hp : parseMethodDescriptor yn.desc with
            | none => rw [hp] at v5; cases v5
            | some sg =>
              rw [hp] at v5
              have : sg.parameters.length + 1 = ya := Option.some.inj v5
              have h9 : as.length + 1 = x2 := hrev
              show some sg.parameters.length = some as.length
              congr 1
              omega
          have hpre : PreS s H (am_Pc D K base b G (.ref a :: as) M) (Value.ref (base + a) :: as.map (cV base b)) := ⟨am_Pc.blind, fun U hU hW => sd_pre (as := .ref a :: as) hE S.1 hU hW⟩
          have hnest : ∀ q, nsL.any (fun z => decide (z.1 = own ∧ z.2.1 = idx ∧ z.2.2.1 = yn)) = true → q = 0 → ∃ host, va_Nw (.methodLinkNest own idx yn host) s := by
            intro q hn _
            obtain ⟨z, hz, hz2⟩ := List.any_eq_true.mp hn
            obtain ⟨e1, e2, e3⟩ := of_decide_eq_true hz2
            have := hE.2.1 z hz
            rw [e1, e2, e3] at this
            exact ⟨_, this⟩
          by_cases hz : z.1 = 0
          · rw [hz] at w1
            exact ⟨_, va_runI (As := as.map (cV base b)) (b := base + a) (n := as.length) ⟨hx, C.2.1, C.2.2.1, C.2.2.2.1, hts⟩ hM (cwI as.length hts hg rfl rfl rfl (hts _ (isW_mem v2)) (hts _ (isW_mem w1)) (hts _ (isW_mem v3)) v4 ⟨v7, v8, hpar⟩ (sd_room C hd' (Nat.le_of_ble_eq_true v9))) hpre rfl (List.length_map ..) (sd_size S) (sd_stk has) (lv_room (by rw [cV_sum]; exact hlen)) hd hf⟩
          · have w1' : nsL.any (fun z => decide (z.1 = own ∧ z.2.1 = idx ∧ z.2.2.1 = yn)) = true := by
              split at w1
              · next h0 => exact absurd h0 hz
              · exact w1
            obtain ⟨host, hn⟩ := hnest 0 w1' rfl
            exact ⟨_, va_runIN (As := as.map (cV base b)) (b := base + a) (n := as.length) (host := host) ⟨hx, C.2.1, C.2.2.1, C.2.2.2.1, hts⟩ hM ⟨va_cnB as.length hts hg rfl rfl rfl hn (hts _ (isW_mem v2)) ⟨v7, v8, hpar⟩ (sd_room C hd' (Nat.le_of_ble_eq_true v9)), v4, hts _ (isW_mem v3)⟩ hpre rfl (List.length_map ..) (sd_size S) (sd_stk has) (lv_room (by rw [cV_sum]; exact hlen)) hd hf⟩
        | _ => cases hrc
/-- tableswitch -/
theorem am_sw_inv {f : Nat → Option Out_} {x : Int32} {dd : Nat} : ∀ {sw : List (Int × Nat)}, am_sw f x dd sw = some o → (∃ q ∈ sw, x = zI q.1 ∧ f q.2 = some o) ∨ ((∀ q ∈ sw, ¬ x = zI q.1) ∧ f dd = some o)
  | [], h => Or.inr ⟨fun q hq => (by cases hq), h⟩
  | r :: sw, h => by
    unfold am_sw at h
    split at h
    · next e => exact Or.inl ⟨r, List.mem_cons_self, e, h⟩
    · next e =>
      rcases am_sw_inv h with ⟨q, hq, h1, h2⟩ | ⟨h1, h2⟩
      · exact Or.inl ⟨q, List.mem_cons_of_mem _ hq, h1, h2⟩
      · refine Or.inr ⟨fun q hq => ?_, h2⟩
        rcases List.mem_cons.mp hq with rfl | hq
        · exact e
        · exact h1 q hq
theorem sd_switch (C : sd_X D K base b own cc ini nL d ce se p R s m args meth c) (hk : sd_K p l e R s m args below meth c Q D K base b G nL o ce se k) (S : sd_S D K base b G s nL o ce se L M ls H locs cells slots)
    {x1 ln : Nat} {sw : List (Int × Nat)} {dd lo hi : Int} {offs : Array Int} (hd : decode cc pc = .ok (.tableswitch dd lo hi offs, ln)) (hchk : (decide ((pc : Int) + dd = (x1 : Int)) && (sw.all fun q => decide (lo ≤ q.1 ∧ q.1 ≤ hi ∧ (zI q.1).toInt = q.1) && (match offs[(q.1 - lo).toNat]? with
      | some off => decide ((pc : Int) + off = (q.2 : Int))
      | none => false)) && ((List.range (hi - lo + 1).toNat).all fun j => sw.any fun q => decide (q.1 = lo + (j : Int)))) = true) {x : Int32} (h : am_sw (fun t => k t L q M) x x1 sw = some o) :
    W p l e R s m args below meth c H locs cells slots Q (F0 m pc ls ((Value.int x :: q).map (cV base b))) := by
  have hx := C.1
  have hb := C.2.1
  simp only [Bool.and_eq_true, decide_eq_true_eq, List.all_eq_true] at hchk
  obtain ⟨⟨c1, c2⟩, c3⟩ := hchk
  rcases am_sw_inv h with ⟨z, hz, e1, h⟩ | ⟨hn, h⟩
  · obtain ⟨⟨d1, d2, d3⟩, d4⟩ := c2 z hz
    cases ho : offs[(z.1 - lo).toNat]? with
    | none => rw [ho] at d4; cases d4
    | some off =>
      rw [ho] at d4
      have ht : (pc : Int) + off = (z.2 : Int) := of_decide_eq_true d4
      have ex : x.toInt = z.1 := by rw [e1, d3]
      exact lv_tableIn hx hb hd (by omega) (by omega) (by rw [ex]; exact ho) ht (hk _ _ _ _ _ _ _ _ _ h S)
  · refine lv_tableOut hx hb hd ?_ c1 (hk _ _ _ _ _ _ _ _ _ h S)
    by_cases h1 : x.toInt < lo
    · exact Or.inl h1
    · by_cases h2 : hi < x.toInt
      · exact Or.inr h2
      · exfalso
        have hj : (x.toInt - lo).toNat < (hi - lo + 1).toNat := by omega
        obtain ⟨z, hz, e⟩ := List.any_eq_true.mp (c3 _ (List.mem_range.mpr hj))
        have e := of_decide_eq_true e
        refine hn z hz ?_
        have : z.1 = x.toInt := by rw [e]; omega
        rw [this]
        exact (Int32.ofInt_toInt x).symm
end SDC
end
section
/-! SOUNDNESS: one instruction, and the run -/
section SDM
variable {p : Program} {l : Launch} {e : Env} {R : Room} {s : State} {m : MethodId} {args : Array Value} {below : List Frame} {meth : Method} {c : Code} {Q : State → Prop}
variable {D : va_G} {K : Nat → ClassId} {base b : Nat} {G : Nat × (Nat → Int32)} {own : String} {cc : ByteArray} {ini : Bool} {nL d r : Nat} {o : Out_} {ce se : Nat}
variable {k : Kn_} {call : Nat → List Value → Mm_ → Option Out_} {nat : Bool} {pc ln x1 x2 x3 : Nat} {sw : List (Int × Nat)} {L : List (Option Value)} {st : List Value} {M : Mm_} {ls : Array Slot} {H : Heap} {locs : List Loc} {cells slots : Nat}
theorem sd_set {i : Nat} {v : Value} {ls' : Array Slot} (S : sd_S D K base b G s nL o ce se L M ls H locs cells slots) (h : sd_L base b nL (L.set i (some v)) ls') : sd_S D K base b G s nL o ce se (L.set i (some v)) M ls' H locs cells slots :=
  ⟨S.1, S.2.1, h, S.2.2.2.1, S.2.2.2.2⟩
theorem am_ld_inv {i n : Nat} {j : Instr} (h : am_ld k i n (pc, j, ln, x1, x2, x3, sw) L st M = some o) : ∃ x, L[i]? = some (some (.int x)) ∧ k (pc + n) L (.int x :: st) M = some o := by
  unfold am_ld at h
  split at h
  · next x hx => exact ⟨x, hx, h⟩
  · cases h
theorem am_ldA_inv {i n : Nat} {j : Instr} (h : am_ldA k i n (pc, j, ln, x1, x2, x3, sw) L st M = some o) : ∃ v x, L[i]? = some (some v) ∧ cV base b v = .ref x ∧ k (pc + n) L (v :: st) M = some o := by
  unfold am_ldA at h
  split at h
  · next x hx => exact ⟨_, base + x, hx, rfl, h⟩
  · next x hx => exact ⟨_, b, hx, rfl, h⟩
  · cases h
theorem am_stI_inv {i n : Nat} {j : Instr} (h : am_stI k i n (pc, j, ln, x1, x2, x3, sw) L st M = some o) : ∃ x q, st = .int x :: q ∧ i < L.length ∧ k (pc + n) (L.set i (some (.int x))) q M = some o := by
  obtain ⟨x, q, rfl, h⟩ := sI_inv h
  obtain ⟨h1, h⟩ := cond_inv h
  exact ⟨x, q, rfl, Nat.le_of_ble_eq_true h1, h⟩
theorem am_stA_inv {i n : Nat} {j : Instr} (h : am_stA k i n (pc, j, ln, x1, x2, x3, sw) L st M = some o) : ∃ x q, st = .ref x :: q ∧ i < L.length ∧ k (pc + n) (L.set i (some (.ref x))) q M = some o := by
  obtain ⟨x, q, rfl, h⟩ := sR_inv h
  obtain ⟨h1, h⟩ := cond_inv h
  exact ⟨x, q, rfl, Nat.le_of_ble_eq_true h1, h⟩
theorem sd_bin {f : Int32 → Int32 → Int32} {j : Instr} (h : am_bin k f (pc, j, ln, x1, x2, x3, sw) L st M = some o) : ∃ x y q, st = .int y :: .int x :: q ∧ k (pc + 1) L (.int (f x y) :: q) M = some o := sII_inv h
theorem am_ite {P : Prop} {hP : Decidable P} {u v : Option Out_} (h : (if P then u else v) = some o) : (P → u = some o) ∧ (¬ P → v = some o) := by
  split at h
  · next q => exact ⟨fun _ => h, fun n => absurd q n⟩
  · next q => exact ⟨fun n => absurd n q, fun _ => h⟩
set_option maxHeartbeats 4000000 in
theorem sd_step {i : Instr} (C : sd_X D K base b own cc ini nL d ce se p R s m args meth c) (hk : sd_K p l e R s m args below meth c Q D K base b G nL o ce se k) (hkm : ∀ pc L st M, k pc L st M = some o → M.1 <+: o.2.1) (hcl : sd_C l D K base b G d call) (hnat : nat = true → ∃ d', d = d' + 1)
    (hrt : sd_Rt p l e R s m args below meth c Q D K base b G cc r o ce se) (hchk : chkE own cc ini (pc, i, ln, x1, x2, x3, sw) = true) (S : sd_S D K base b G s nL o ce se L M ls H locs cells slots)
    (h : am_step G r k call nat (pc, i, ln, x1, x2, x3, sw) L st M = some o) : W p l e R s m args below meth c H locs cells slots Q (F0 m pc ls (st.map (cV base b))) := by
  have hx := C.1
  have hb := C.2.1
  have hE := C.2.2.2.2.2.1
  have hts := C.2.2.2.2.1
  have hown := C.2.2.2.1
  have hbb := C.2.2.2.2.2.2.1
  unfold chkE at hchk
  simp only [Bool.and_eq_true, decide_eq_true_eq] at hchk
  obtain ⟨⟨hd, hln⟩, hc⟩ := hchk
  have hR := S.1
  obtain ⟨hLl, lv, hlv, hcat, hmem⟩ := S.2.2.1
  have store : ∀ (v : Value) (j : Nat) (ls' : Array Slot), lv_has ls' nL ((j, cV base b v) :: lv.filter (fun q => !(q.1 == j) && !(q.1 + 1 == j && q.2.category == 2))) → sd_S D K base b G s nL o ce se (L.set j (some v)) M ls' H locs cells slots := fun v j ls' hh => sd_set S (sd_L.put hLl hcat hmem hh)
  cases i with
  | iconst n =>
    obtain rfl : ln = 1 := Nat.eq_of_beq_eq_true hln
    exact lv_iconst hx hb hd rfl (hk _ _ _ _ _ _ _ _ _ h S)
  | bipush n =>
    obtain rfl : ln = 2 := Nat.eq_of_beq_eq_true hln
    exact lv_bipush hx hb hd (of_decide_eq_true hc) (hk _ _ _ _ _ _ _ _ _ h S)
  | sipush n =>
    obtain rfl : ln = 3 := Nat.eq_of_beq_eq_true hln
    exact lv_sipush hx hb hd (of_decide_eq_true hc) (hk _ _ _ _ _ _ _ _ _ h S)
  | ldc n =>
    obtain rfl : ln = 2 := Nat.eq_of_beq_eq_true hln
    cases sw with
    | nil => cases hc
    | cons z sw => exact lv_ldc hx hb hown (hts _ (isW_mem hc)) hd (hk _ _ _ _ _ _ _ _ _ h S)
  | iload n =>
    obtain rfl : ln = 2 := Nat.eq_of_beq_eq_true hln
    obtain ⟨x, h1, h⟩ := am_ld_inv h
    exact lv_iload hx hb hd (S.2.2.1.get h1) (hk _ _ _ _ _ _ _ _ _ h S)
  | iload_n n =>
    obtain rfl : ln = 1 := Nat.eq_of_beq_eq_true hln
    obtain ⟨x, h1, h⟩ := am_ld_inv h
    exact lv_iload_n hx hb hd rfl (S.2.2.1.get h1) (hk _ _ _ _ _ _ _ _ _ h S)
  | aload n =>
    obtain rfl : ln = 2 := Nat.eq_of_beq_eq_true hln
    obtain ⟨v, x, h1, h2, h⟩ := am_ldA_inv (base := base) (b := b) h
    have hh := hk _ _ _ _ _ _ _ _ _ h S
    rw [List.map_cons, h2] at hh
    exact lv_aload hx hb hd (by rw [S.2.2.1.get h1, h2]) hh
  | aload_n n =>
    obtain rfl : ln = 1 := Nat.eq_of_beq_eq_true hln
    obtain ⟨v, x, h1, h2, h⟩ := am_ldA_inv (base := base) (b := b) h
    have hh := hk _ _ _ _ _ _ _ _ _ h S
    rw [List.map_cons, h2] at hh
    exact lv_aload_n hx hb hd rfl (by rw [S.2.2.1.get h1, h2]) hh
  | istore n =>
    obtain rfl : ln = 2 := Nat.eq_of_beq_eq_true hln
    obtain ⟨x, q, rfl, h1, h⟩ := am_stI_inv h
    exact lv_istore hx hb hd hlv (by omega) rfl fun ls' hh => hk _ _ _ _ _ _ _ _ _ h (store (.int x) _ ls' hh)
  | istore_n n =>
    obtain rfl : ln = 1 := Nat.eq_of_beq_eq_true hln
    obtain ⟨x, q, rfl, h1, h⟩ := am_stI_inv h
    exact lv_istore_n hx hb hd rfl hlv (by omega) rfl fun ls' hh => hk _ _ _ _ _ _ _ _ _ h (store (.int x) _ ls' hh)
  | astore n =>
    obtain rfl : ln = 2 := Nat.eq_of_beq_eq_true hln
    obtain ⟨x, q, rfl, h1, h⟩ := am_stA_inv h
    exact lv_astore hx hb hd hlv (by omega) rfl fun ls' hh => hk _ _ _ _ _ _ _ _ _ h (store (.ref x) _ ls' hh)
  | astore_n n =>
    obtain rfl : ln = 1 := Nat.eq_of_beq_eq_true hln
    obtain ⟨x, q, rfl, h1, h⟩ := am_stA_inv h
    exact lv_astore_n hx hb hd rfl hlv (by omega) rfl fun ls' hh => hk _ _ _ _ _ _ _ _ _ h (store (.ref x) _ ls' hh)
  | iinc n z =>
    obtain rfl : ln = 3 := Nat.eq_of_beq_eq_true hln
    have h : am_iinc k n z (pc, .iinc n z, 3, x1, x2, x3, sw) L st M = some o := h
    unfold am_iinc at h
    split at h
    · next x h1 =>
      obtain ⟨t, ht⟩ := List.getElem?_of_mem (hmem _ _ h1)
      have hlt := (List.getElem?_eq_some_iff.mp h1).1
      exact lv_iinc hx hb hd hlv ht rfl (by omega) rfl fun ls' hh => hk _ _ _ _ _ _ _ _ _ h (store (.int (x + zI z)) _ ls' hh)
    · cases h
  | iadd =>
    obtain rfl : ln = 1 := Nat.eq_of_beq_eq_true hln
    obtain ⟨x, y, q, rfl, h⟩ := sd_bin h
    exact lv_iadd hx hb hd (hk _ _ _ _ _ _ _ _ _ h S)
  | isub =>
    obtain rfl : ln = 1 := Nat.eq_of_beq_eq_true hln
    obtain ⟨x, y, q, rfl, h⟩ := sd_bin h
    exact lv_isub hx hb hd (hk _ _ _ _ _ _ _ _ _ h S)
  | imul =>
    obtain rfl : ln = 1 := Nat.eq_of_beq_eq_true hln
    obtain ⟨x, y, q, rfl, h⟩ := sd_bin h
    exact lv_imul hx hb hd (hk _ _ _ _ _ _ _ _ _ h S)
  | iand =>
    obtain rfl : ln = 1 := Nat.eq_of_beq_eq_true hln
    obtain ⟨x, y, q, rfl, h⟩ := sd_bin h
    exact lv_iand hx hb hd (hk _ _ _ _ _ _ _ _ _ h S)
  | ior =>
    obtain rfl : ln = 1 := Nat.eq_of_beq_eq_true hln
    obtain ⟨x, y, q, rfl, h⟩ := sd_bin h
    exact lv_ior hx hb hd (hk _ _ _ _ _ _ _ _ _ h S)
  | ishl =>
    obtain rfl : ln = 1 := Nat.eq_of_beq_eq_true hln
    obtain ⟨x, y, q, rfl, h⟩ := sd_bin h
    exact lv_ishl hx hb hd (hk _ _ _ _ _ _ _ _ _ h S)
  | ishr =>
    obtain rfl : ln = 1 := Nat.eq_of_beq_eq_true hln
    obtain ⟨x, y, q, rfl, h⟩ := sd_bin h
    exact lv_ishr hx hb hd (hk _ _ _ _ _ _ _ _ _ h S)
  | iushr =>
    obtain rfl : ln = 1 := Nat.eq_of_beq_eq_true hln
    obtain ⟨x, y, q, rfl, h⟩ := sd_bin h
    exact lv_iushr hx hb hd rfl (hk _ _ _ _ _ _ _ _ _ h S)
  | i2s =>
    obtain rfl : ln = 1 := Nat.eq_of_beq_eq_true hln
    obtain ⟨x, q, rfl, h⟩ := sI_inv h
    exact lv_i2s hx hb hd rfl (hk _ _ _ _ _ _ _ _ _ h S)
  | dup =>
    obtain rfl : ln = 1 := Nat.eq_of_beq_eq_true hln
    have h : am_dup k (pc, .dup, 1, x1, x2, x3, sw) L st M = some o := h
    unfold am_dup at h
    split at h
    · exact lv_dup hx hb hd rfl (hk _ _ _ _ _ _ _ _ _ h S)
    · exact lv_dup hx hb hd rfl (hk _ _ _ _ _ _ _ _ _ h S)
    · cases h
  | dup2 =>
    obtain rfl : ln = 1 := Nat.eq_of_beq_eq_true hln
    obtain ⟨x, a, q, rfl, h⟩ := sIR_inv h
    exact lv_dup2_11 hx hb hd rfl rfl (hk _ _ _ _ _ _ _ _ _ h S)
  | pop =>
    obtain rfl : ln = 1 := Nat.eq_of_beq_eq_true hln
    obtain ⟨x, q, rfl, h⟩ := sI_inv h
    exact lv_pop hx hb hd rfl (hk _ _ _ _ _ _ _ _ _ h S)
  | goto n =>
    obtain rfl : ln = 3 := Nat.eq_of_beq_eq_true hln
    exact lv_goto hx hb hd (of_decide_eq_true hc) (hk _ _ _ _ _ _ _ _ _ h S)
  | ifCond z n =>
    obtain rfl : ln = 3 := Nat.eq_of_beq_eq_true hln
    have ht := of_decide_eq_true hc
    obtain ⟨x, q, rfl, h⟩ := sI_inv h
    cases z with
    | eq => exact lv_if_eq hx hb hd ht (fun g => hk _ _ _ _ _ _ _ _ _ ((am_ite h).1 g) S) (fun g => hk _ _ _ _ _ _ _ _ _ ((am_ite h).2 g) S)
    | ne => exact lv_if_ne hx hb hd ht (fun g => hk _ _ _ _ _ _ _ _ _ ((am_ite h).2 g) S) (fun g => hk _ _ _ _ _ _ _ _ _ ((am_ite h).1 g) S)
    | lt => exact lv_if_lt hx hb hd ht (fun g => hk _ _ _ _ _ _ _ _ _ ((am_ite h).1 g) S) (fun g => hk _ _ _ _ _ _ _ _ _ ((am_ite h).2 g) S)
    | ge => exact lv_if_ge hx hb hd ht (fun g => hk _ _ _ _ _ _ _ _ _ ((am_ite h).2 (Int32.not_lt.mpr g)) S) (fun g => hk _ _ _ _ _ _ _ _ _ ((am_ite h).1 (Int32.not_le.mp g)) S)
    | gt => exact lv_if_gt hx hb hd ht (fun g => hk _ _ _ _ _ _ _ _ _ ((am_ite h).1 g) S) (fun g => hk _ _ _ _ _ _ _ _ _ ((am_ite h).2 g) S)
    | le => exact lv_if_le hx hb hd ht (fun g => hk _ _ _ _ _ _ _ _ _ ((am_ite h).2 (Int32.not_lt.mpr g)) S) (fun g => hk _ _ _ _ _ _ _ _ _ ((am_ite h).1 (Int32.not_le.mp g)) S)
  | if_icmp z n =>
    obtain rfl : ln = 3 := Nat.eq_of_beq_eq_true hln
    have ht := of_decide_eq_true hc
    obtain ⟨x, y, q, rfl, h⟩ := sII_inv h
    cases z with
    | eq => exact lv_icmp_eq hx hb hd ht (fun g => hk _ _ _ _ _ _ _ _ _ ((am_ite h).1 g) S) (fun g => hk _ _ _ _ _ _ _ _ _ ((am_ite h).2 g) S)
    | ne => exact lv_icmp_ne hx hb hd ht (fun g => hk _ _ _ _ _ _ _ _ _ ((am_ite h).2 g) S) (fun g => hk _ _ _ _ _ _ _ _ _ ((am_ite h).1 g) S)
    | lt => exact lv_icmp_lt hx hb hd ht (fun g => hk _ _ _ _ _ _ _ _ _ ((am_ite h).1 g) S) (fun g => hk _ _ _ _ _ _ _ _ _ ((am_ite h).2 g) S)
    | ge => exact lv_icmp_ge hx hb hd ht (fun g => hk _ _ _ _ _ _ _ _ _ ((am_ite h).2 (Int32.not_lt.mpr g)) S) (fun g => hk _ _ _ _ _ _ _ _ _ ((am_ite h).1 (Int32.not_le.mp g)) S)
    | gt => exact lv_icmp_gt hx hb hd ht (fun g => hk _ _ _ _ _ _ _ _ _ ((am_ite h).1 g) S) (fun g => hk _ _ _ _ _ _ _ _ _ ((am_ite h).2 g) S)
    | le => exact lv_icmp_le hx hb hd ht (fun g => hk _ _ _ _ _ _ _ _ _ ((am_ite h).2 (Int32.not_lt.mpr g)) S) (fun g => hk _ _ _ _ _ _ _ _ _ ((am_ite h).1 (Int32.not_le.mp g)) S)
  | tableswitch a1 a2 a3 a4 =>
    obtain ⟨x, q, rfl, h⟩ := sI_inv h
    exact sd_switch C hk S hd hc h
  | getfield n =>
    obtain rfl : ln = 3 := Nat.eq_of_beq_eq_true hln
    obtain ⟨a, q, rfl, h⟩ := sR_inv h
    obtain ⟨h1, h⟩ := cond_inv h
    exact sd_getf C hk hc hd S h1 h
  | putfield n =>
    obtain rfl : ln = 3 := Nat.eq_of_beq_eq_true hln
    have h : am_put k (pc, .putfield n, 3, x1, x2, x3, sw) L st M = some o := h
    have hcls : ∀ {a : Nat}, am_okO M a x1 = true → x2 < nfT x1 := by
      intro a _
      have hc : (match cls_[x1]? with
        | some q => decide (x2 < q.2.2) && decide ((q.2.1 x2).1 = q.1) && isW x3 (.fieldLink own n q.1 (q.2.1 x2).2.1 (q.2.1 x2).2.2.1) && (!(q.2.1 x2).2.2.2 || (ini && decide (q.1 = own)))
        | none => false) = true := hc
      cases hq : cls_[x1]? with
      | none => rw [hq] at hc; cases hc
      | some q =>
        rw [hq] at hc
        simp only [Bool.and_eq_true, decide_eq_true_eq] at hc
        simp only [nfT, hq, Option.map_some, Option.getD_some]
        exact hc.1.1.1
    unfold am_put at h
    split at h
    · next x a q _ =>
      obtain ⟨h1, h⟩ := cond_inv h
      unfold am_okP at h1
      rw [Bool.and_eq_true] at h1
      have hf : fkT x1 x2 = 0 := by
        have := Nat.eq_of_beq_eq_true h1.2
        dsimp only at this
        omega
      have hj := hcls h1.1
      refine sd_putf C hk hc hd S (v := .int x) (M' := am_setI M a x2 x) (am_okO_of h1.1) rfl (fun q hq => ?_) (fun q hq => rfl) (fun t ht => ?_) (yT_int hj hf x) h
      · funext t; simp [am_setI, up2, hq]
      · by_cases et : t = x2
        · subst et; simp [cF, hf, am_setI, up2, cV]
        · simp [cF, am_setI, up2, et]
    · next v a q _ =>
      obtain ⟨h1, h⟩ := cond_inv h
      unfold am_okP at h1
      rw [Bool.and_eq_true] at h1
      have hf : ¬ fkT x1 x2 = 0 := by
        have := Nat.eq_of_beq_eq_true h1.2
        dsimp only at this
        omega
      have hj := hcls h1.1
      refine sd_putf C hk hc hd S (v := .ref v) (M' := am_setR M a x2 v) (am_okO_of h1.1) rfl (fun q hq => rfl) (fun q hq => ?_) (fun t ht => ?_) (yT_ref hj hf (base + v)) h
      · funext t; simp [am_setR, up2, hq]
      · by_cases et : t = x2
        · subst et; simp [cF, hf, am_setR, up2, cV, cR, va_rf]
        · simp [cF, am_setR, up2, et]
    · cases h
  | iaload =>
    obtain rfl : ln = 1 := Nat.eq_of_beq_eq_true hln
    have h : am_iald G k (pc, .iaload, 1, x1, x2, x3, sw) L st M = some o := h
    unfold am_iald at h
    split at h
    · next j a q _ =>
      obtain ⟨h1, h⟩ := cond_inv h
      obtain ⟨n, ha, hi⟩ := am_okA_of h1
      exact va_iald (n := n) (f := M.2.1 a) hx hb hE.1 (hR.one ha) 0 0 rfl rfl (am_in_of hi) hd (hk _ _ _ _ _ _ _ _ _ h S)
    · next j z q _ =>
      obtain ⟨h1, h⟩ := cond_inv h
      exact va_sld (A := fun q => base ≤ q) (H0 := H) hx hb hR.2.2 (by rw [hR.1]; omega) (by omega) ⟨Nat.le_refl _, fun _ _ _ => rfl, S.2.1⟩ (am_in_of h1) hd (hk _ _ _ _ _ _ _ _ _ h S)
    · cases h
  | baload =>
    obtain rfl : ln = 1 := Nat.eq_of_beq_eq_true hln
    obtain ⟨j, a, q, rfl, h⟩ := sIR_inv h
    obtain ⟨h1, h⟩ := cond_inv h
    obtain ⟨n, ha, hi⟩ := am_okA_of h1
    exact va_zald (n := n) (f := M.2.1 a) hx hb hE.1 (hR.one ha) 0 1 rfl rfl (am_in_of hi) hd (hk _ _ _ _ _ _ _ _ _ h S)
  | aaload =>
    obtain rfl : ln = 1 := Nat.eq_of_beq_eq_true hln
    obtain ⟨j, a, q, rfl, h⟩ := sIR_inv h
    obtain ⟨h1, h⟩ := cond_inv h
    obtain ⟨t, n, tj, ha, hkq, hi⟩ := am_okQ_of h1
    obtain ⟨hs, h⟩ := cond_inv h
    obtain ⟨z, hz⟩ := Option.isSome_iff_exists.mp hs
    rw [hz] at h
    obtain ⟨ci, rfl⟩ : ∃ ci, t = ci + 2 := kq_two hkq
    obtain ⟨rr, hc', hty⟩ := kq_ok K hkq
    refine va_aldq (n := n) (f := fun t => cR base (M.2.2 a t)) hx hb hE.1 (hR.one ha) 0 tj rfl hty (am_in_of hi) hd ?_
    have e1 : va_rf (cR base (M.2.2 a j.toNatClampNeg)) = cV base b (.ref z) := by rw [hz]; rfl
    rw [e1]
    exact hk _ _ _ _ _ _ _ _ _ h S
  | iastore =>
    obtain rfl : ln = 1 := Nat.eq_of_beq_eq_true hln
    obtain ⟨x, j, a, q, rfl, h⟩ := sIIR_inv h
    obtain ⟨h1, h⟩ := cond_inv h
    exact sd_iast C hk hd S h1 h
  | bastore =>
    obtain rfl : ln = 1 := Nat.eq_of_beq_eq_true hln
    obtain ⟨x, j, a, q, rfl, h⟩ := sIIR_inv h
    obtain ⟨h1, h⟩ := cond_inv h
    exact sd_zast C hk hd S h1 h
  | aastore =>
    obtain rfl : ln = 1 := Nat.eq_of_beq_eq_true hln
    obtain ⟨v, j, a, q, rfl, h⟩ := sRIR_inv h
    obtain ⟨h1, h⟩ := cond_inv h
    exact sd_aast C hk hd S h1 h
  | arraylength =>
    obtain rfl : ln = 1 := Nat.eq_of_beq_eq_true hln
    have h : am_alen G k (pc, .arraylength, 1, x1, x2, x3, sw) L st M = some o := h
    unfold am_alen at h
    split at h
    · next a q _ =>
      obtain ⟨hs, h⟩ := cond_inv h
      obtain ⟨n, h1⟩ := Option.isSome_iff_exists.mp hs
      rw [h1] at h
      obtain ⟨t, ha, ht⟩ := am_len_of h1
      have hh := hk _ _ _ _ _ _ _ _ _ h S
      rcases ht with rfl | rfl | ⟨tj, hkq⟩
      · exact va_alen (x := (n, .inl (M.2.1 a))) hx hb hE.1 (hR.one ha) 0 0 rfl rfl Int32.ofInt_eq_ofNat.symm hd hh
      · exact va_alen (x := (n, .inl (M.2.1 a))) hx hb hE.1 (hR.one ha) 0 1 rfl rfl Int32.ofInt_eq_ofNat.symm hd hh
      · obtain ⟨ci, rfl⟩ : ∃ ci, t = ci + 2 := kq_two hkq
        obtain ⟨rr, hc', hty⟩ := kq_ok K hkq
        exact va_alen (x := (n, .inr (.inr (.inr (.inr (fun t => cR base (M.2.2 a t))))))) hx hb hE.1 (hR.one ha) 0 tj rfl hty Int32.ofInt_eq_ofNat.symm hd hh
    · next z q _ =>
      have hh := hk _ _ _ _ _ _ _ _ _ h S
      rw [List.map_cons, show cV base b (.int (zI (G.1 : Int))) = .int (Int32.ofNat G.1) from congrArg Value.int Int32.ofInt_eq_ofNat] at hh
      exact va_slen (A := fun q => base ≤ q) (H0 := H) hx hb hR.2.2 (by rw [hR.1]; omega) (by omega) ⟨Nat.le_refl _, fun _ _ _ => rfl, S.2.1⟩ hd hh
    · cases h
  | new n =>
    obtain rfl : ln = 3 := Nat.eq_of_beq_eq_true hln
    exact sd_new C hk hkm hc hd S h
  | newarray t =>
    obtain rfl : ln = 2 := Nat.eq_of_beq_eq_true hln
    obtain ⟨x, q, rfl, h⟩ := sI_inv h
    obtain ⟨h1, h⟩ := cond_inv h
    exact sd_newa C hk hkm hc hd S h1 h
  | anewarray n =>
    obtain rfl : ln = 3 := Nat.eq_of_beq_eq_true hln
    obtain ⟨x, q, rfl, h⟩ := sI_inv h
    obtain ⟨h1, h⟩ := cond_inv h
    exact sd_anew C hk hkm hc hd S h1 h
  | invokevirtual n =>
    obtain rfl : ln = 3 := Nat.eq_of_beq_eq_true hln
    obtain ⟨h1, h⟩ := cond_inv h
    exact sd_callV C hk hkm hcl S hd hc h1 h
  | invokespecial n =>
    obtain rfl : ln = 3 := Nat.eq_of_beq_eq_true hln
    have h : cond (Nat.beq x1 900) (sR st fun _ q => cond (nat && Nat.ble q.length 8) (k (pc + 3) L q M) none) (cond (am_recv M (pc, .invokespecial n, 3, x1, x2, x3, sw) st) (am_inv k call (pc, .invokespecial n, 3, x1, x2, x3, sw) L st M) none) = some o := h
    have hc : cond (Nat.beq x1 900) (isW x3 (.methodLink own n Lib.objectInit) && Nat.beq x2 1) _ = true := hc
    cases e9 : Nat.beq x1 900 with
    | true =>
      rw [e9] at h hc
      obtain ⟨a, q, rfl, h⟩ := sR_inv h
      obtain ⟨h1, h⟩ := cond_inv h
      rw [Bool.and_eq_true] at h1
      obtain ⟨d', hd'⟩ := hnat h1.1
      have hq := Nat.le_of_ble_eq_true h1.2
      have hc : (isW x3 (.methodLink own n Lib.objectInit) && Nat.beq x2 1) = true := hc
      rw [Bool.and_eq_true] at hc
      have hfr := C.2.2.2.2.2.2.2.2.1
      have hlo := C.2.2.2.2.2.2.2.2.2.1
      refine W.objInit hx hb hown (hts _ (isW_mem hc.1)) (hts _ (isW_mem ok_objI)) (hts _ (isW_mem ok_objC)) rfl ((sd_size S).trans C.2.2.1.symm) rfl hd (by omega) ?_ (hk _ _ _ _ _ _ _ _ _ h S)
      show 2 * 0 + ((q.map (cV base b)).map fun v => v.category).sum + 12 ≤ R.locals
      rw [cV_sum]
      omega
    | false =>
      rw [e9] at h hc
      obtain ⟨h1, h⟩ := cond_inv h
      exact sd_callI C hk hkm hcl S hd hc h1 h
  | invokestatic n =>
    obtain rfl : ln = 3 := Nat.eq_of_beq_eq_true hln
    have h : cond (Nat.beq x1 901) (am_cpy k nat (pc, .invokestatic n, 3, x1, x2, x3, sw) L st M) (am_inv k call (pc, .invokestatic n, 3, x1, x2, x3, sw) L st M) = some o := h
    have hc : cond (Nat.beq x1 901) (isW x3 (.methodLink own n arraycopyName)) (match miL[x1]? with
      | some y => isW x3 (.methodLink own n y.1) && Nat.beq y.2.2.2.2.1 0 && Nat.beq y.2.2.2.2.2.1 x2
      | none => false) = true := hc
    cases e9 : Nat.beq x1 901 with
    | true =>
      rw [e9] at h hc
      have h : am_cpy k nat (pc, .invokestatic n, 3, x1, x2, x3, sw) L st M = some o := h
      have hc : isW x3 (.methodLink own n arraycopyName) = true := hc
      unfold am_cpy at h
      split at h
      · obtain ⟨h1, h⟩ := cond_inv h
        simp only [Bool.and_eq_true] at h1
        obtain ⟨d', rfl⟩ := hnat h1.1.1
        exact sd_copy C hk hc hd S (Nat.le_of_ble_eq_true h1.1.2) h1.2 h
      · cases h
    | false =>
      rw [e9] at h hc
      exact sd_callS C hk hkm hcl S hd hc h
  | ireturn =>
    obtain rfl : ln = 1 := Nat.eq_of_beq_eq_true hln
    have h : am_iret r st M = some o := h
    unfold am_iret at h
    split at h
    · next x _ =>
      obtain ⟨h1, h⟩ := cond_inv h
      have h := Option.some.inj h
      subst h
      have h4 := S.2.2.2.1
      have h5 := S.2.2.2.2
      dsimp only at h4 h5
      have c1 : cells = ce := by omega
      have c2 : slots = se := by omega
      subst c1
      subst c2
      refine ((hrt pc ls H locs hR S.2.1).2 hd x rfl ?_)
      rw [Bool.or_eq_true, Bool.and_eq_true] at h1
      rcases h1 with h1 | h1
      · exact Or.inl (Nat.eq_of_beq_eq_true h1)
      · exact Or.inr ⟨Nat.eq_of_beq_eq_true h1.1, h1.2⟩
    · cases h
  | return_ =>
    obtain rfl : ln = 1 := Nat.eq_of_beq_eq_true hln
    have h : am_vret r st M = some o := h
    unfold am_vret at h
    split at h
    · obtain ⟨h1, h⟩ := cond_inv h
      have h := Option.some.inj h
      subst h
      have h4 := S.2.2.2.1
      have h5 := S.2.2.2.2
      dsimp only at h4 h5
      have c1 : cells = ce := by omega
      have c2 : slots = se := by omega
      subst c1
      subst c2
      exact (hrt pc ls H locs hR S.2.1).1 hd (Nat.eq_of_beq_eq_true h1) rfl
    · cases h
  | _ =>
    have h : (none : Option Out_) = some o := h
    cases h
end SDM
theorem am_fd_mem {pc : Nat} {en : En_} : ∀ {code : List En_}, am_fd pc code = some en → en ∈ code ∧ en.1 = pc
  | [], h => by cases h
  | x :: r, h => by
    unfold am_fd at h
    cases e : Nat.beq x.1 pc with
    | true =>
      rw [e] at h
      cases h
      exact ⟨List.mem_cons_self, Nat.eq_of_beq_eq_true e⟩
    | false =>
      rw [e] at h
      obtain ⟨h1, h2⟩ := am_fd_mem h
      exact ⟨List.mem_cons_of_mem _ h1, h2⟩
/-- THE SOUNDNESS: what the abstract machine answers, the machine does -/
theorem sd_run (l : Launch) (D : va_G) (K : Nat → ClassId) (base b : Nat) (G : Nat × (Nat → Int32)) (hbb : b < base) : ∀ (n d : Nat) (mt : Mt_) (pc : Nat) (L : List (Option Value)) (st : List Value) (M : Mm_) (o : Out_), am_run G n d mt pc L st M = some o →
    ∀ (p : Program) (e : Env) (R : Room) (s : State) (m : MethodId) (args : Array Value) (below : List Frame) (meth : Method) (c : Code) (Q : State → Prop) (own : String) (cc : ByteArray) (ini : Bool) (nL ce se : Nat) (ls : Array Slot) (H : Heap) (locs : List Loc) (cells slots : Nat),
      chkM own cc ini mt.1 = true → sd_X D K base b own cc ini nL d ce se p R s m args meth c → sd_Rt p l e R s m args below meth c Q D K base b G cc mt.2 o ce se → sd_S D K base b G s nL o ce se L M ls H locs cells slots →
      W p l e R s m args below meth c H locs cells slots Q (F0 m pc ls (st.map (cV base b))) := by
  intro n
  induction n with
  | zero => intro d mt pc L st M o h; cases h
  | succ n ih =>
    intro d mt pc L st M o h p e R s m args below meth c Q own cc ini nL ce se ls H locs cells slots hchk C hrt S
    obtain ⟨⟨pc', i, ln, x1, x2, x3, sw⟩, hfd, h2⟩ := Option.bind_eq_some_iff.mp h
    obtain ⟨hmem, hpc⟩ := am_fd_mem hfd
    dsimp only at hpc
    subst hpc
    refine sd_step (d := d) C (fun pc L st M ls H locs cells slots h S => ih _ _ _ _ _ _ _ h _ _ _ _ _ _ _ _ _ _ _ _ _ _ _ _ _ _ _ _ _ hchk C hrt S) (fun pc L st M h => am_run_mono _ _ _ _ _ _ _ _ h) ?_ (fun hn => ?_) hrt (List.all_eq_true.mp hchk _ hmem) S h2
    · intro y as M1 o1 q hc hq hlen
      cases d with
      | zero => cases hc
      | succ d =>
        obtain ⟨mt1, hmt1, hc⟩ := Option.bind_eq_some_iff.mp hc
        refine ⟨am_run_mono _ _ _ _ _ _ _ _ hc, d, rfl, ?_⟩
        have hpre := am_run_mono _ _ _ _ _ _ _ _ hc
        obtain ⟨mt2, hmt2, hI⟩ := mi_ok y q hq
        have : mt2 = mt1 := Option.some.inj (hmt2.symm.trans hmt1)
        subst this
        obtain ⟨yn, yb, yl, yr, yk, ya, ys⟩ := q
        simp only [chkI, Bool.and_eq_true, decide_eq_true_eq] at hI
        obtain ⟨⟨⟨⟨⟨⟨⟨⟨⟨⟨v1, v2⟩, v3⟩, v6⟩, v7⟩, v8⟩, v9⟩, v10⟩, v11⟩, v12⟩, v13⟩ := hI
        have hyl : mt2.2.2 = yl := Nat.eq_of_beq_eq_true v11
        rw [hyl] at hc
        refine Met.ofW (cc := yb) (maxL := yl) (ret := yr) v6 rfl ?_
        intro p e s m args below meth c s₁ B hml hP
        obtain ⟨rfl, hR, hE⟩ := hP
        have hts := atoms_spec (ws := sd_ws (yn, yb, yl, yr, yk, ya, ys)) B.pre
        have hown : s.vm.findClass yn.cls = some m.cls := findClass_of_methodNamed B.named
        have hle : as.length ≤ yl := by rw [hlen]; exact Nat.le_of_ble_eq_true v10
        obtain ⟨ls1, he1, hl1⟩ := sd_entry m base b as hle
        rw [he1]
        have hr := B.returns
        have hlocks := B.notSynchronized
        have z1 : am_sz M1.1 ≤ am_sz o1.2.1 := by obtain ⟨t, ht⟩ := hpre; rw [← ht, am_sz_app]; omega
        have l1 := hpre.length_le
        refine ih _ _ _ _ _ _ _ hc p e (headSpec (sd_ws (yn, yb, yl, yr, yk, ya, ys)) (sd_rm d M1 o1.2)).room s m _ below meth c _ yn.cls yb (decide (yn.name = "<init>")) yl (o1.2.1.length - M1.1.length) (am_sz o1.2.1 - am_sz M1.1) ls1 s.heap [] 0 0 v13
          ⟨B.exec, B.bytes, hml, hown, fun w hw => hts w (List.mem_cons_of_mem _ hw), hE, hbb, fun hi => (name_of_methodNamed B.named B.method).1.trans (of_decide_eq_true hi), Nat.le_refl _, Nat.le_refl _, Nat.le_refl _, Nat.le_refl _⟩ ?_
          ⟨hR, fun q hq => (by cases hq), hl1, by omega, by omega⟩
        intro pc ls H locs hR1 hl
        refine ⟨fun hd h0 ho => ?_, fun hd x ho h0 => ?_⟩
        · have hyr : yr = none := by
            rw [h0] at v12
            exact of_decide_eq_true v12
          exact W.vret (Qc := am_Qc D K base b G o1) B.exec B.bytes (by rw [hr, hyr]) (fun t ht hW => ⟨by rw [ho]; rfl, by rw [ht]; exact hR1.moved hW.alike⟩) hl hd hlocks
        · rcases h0 with h0 | ⟨h0, hbit⟩
          · have hyr : yr = some .int := by
              rw [h0] at v12
              exact of_decide_eq_true v12
            exact W.iret (Qc := am_Qc D K base b G o1) B.exec B.bytes (by rw [hr, hyr]) (fun t ht hW => ⟨by rw [ho]; rfl, by rw [ht]; exact hR1.moved hW.alike⟩) hl hd hlocks
          · have hyr : yr = some .boolean := by
              rw [h0] at v12
              exact of_decide_eq_true v12
            have hnar : narrow .boolean (.int x) = .int x := by
              unfold am_bit at hbit
              rw [Bool.or_eq_true] at hbit
              rcases hbit with hbit | hbit
              · have := of_decide_eq_true hbit; subst this; rfl
              · have := of_decide_eq_true hbit; subst this; rfl
            exact W.zret (Qc := am_Qc D K base b G o1) B.exec B.bytes (by rw [hr, hyr]) hnar (fun t ht hW => ⟨by rw [ho]; rfl, by rw [ht]; exact hR1.moved hW.alike⟩) hl hd hlocks
    · cases d with
      | zero => cases hn
      | succ d => exact ⟨d, rfl⟩
end
section
/-! RUNS THAT END: 'from some fuel on', and how stretches are put together -/
def Fin_ (f : Nat → Option Out_) (o : Out_) : Prop := ∃ n0, ∀ n, n0 ≤ n → f n = some o
def EvC (G : Nat × (Nat → Int32)) (d : Nat) (mt : Mt_) (pc : Nat) (L : List (Option Value)) (st : List Value) (M : Mm_) (o : Out_) : Prop := Fin_ (fun n => am_run G n d mt pc L st M) o
def Ev (G : Nat × (Nat → Int32)) (d y : Nat) (as : List Value) (M : Mm_) (o : Out_) : Prop := Fin_ (fun n => am_cl G n d y as M) o
theorem fin_shift {f : Nat → Option Out_} {o : Out_} (j : Nat) (h : Fin_ f o) : Fin_ (fun n => f (n + j)) o := by
  obtain ⟨n0, h⟩ := h
  exact ⟨n0, fun n hn => h _ (by omega)⟩
theorem fin_seg {G : Nat × (Nat → Int32)} {d : Nat} {mt : Mt_} {pc : Nat} {L : List (Option Value)} {st : List Value} {M : Mm_} {o : Out_} {f : Nat → Option Out_} {A : Prop} (K : Nat) (h : ∀ n, am_run G (n + K) d mt pc L st M = f n) (hA : A → Fin_ f o) (a : A) : EvC G d mt pc L st M o := by
  obtain ⟨n0, h1⟩ := hA a
  refine ⟨n0 + K, fun n hn => ?_⟩
  obtain ⟨k, rfl⟩ : ∃ k, n = k + K := ⟨n - K, by omega⟩
  show am_run G (k + K) d mt pc L st M = some o
  rw [h k]
  exact h1 k (by omega)
theorem fin_if {c : Prop} {hc : Decidable c} {A B : Prop} {f g : Nat → Option Out_} {o : Out_} (hA : A → Fin_ f o) (hB : B → Fin_ g o) (h : if c then A else B) : Fin_ (fun n => if c then f n else g n) o := by
  by_cases q : c
  · rw [if_pos q] at h
    obtain ⟨n0, h1⟩ := hA h
    exact ⟨n0, fun n hn => (if_pos q).trans (h1 n hn)⟩
  · rw [if_neg q] at h
    obtain ⟨n0, h1⟩ := hB h
    exact ⟨n0, fun n hn => (if_neg q).trans (h1 n hn)⟩
theorem fin_ck {c : Bool} {A : Prop} {f : Nat → Option Out_} {o : Out_} (hA : A → Fin_ f o) (h : c = true ∧ A) : Fin_ (fun n => cond c (f n) none) o := by
  obtain ⟨rfl, h⟩ := h
  exact hA h
theorem fin_tt {A : Prop} {f : Nat → Option Out_} {o : Out_} (hA : A → Fin_ f o) (h : A) : Fin_ (fun n => cond true (f n) none) o := hA h
theorem fin_bi {x : Option Nat} {A : Nat → Prop} {f : Nat → Nat → Option Out_} {o : Out_} (hA : ∀ q, A q → Fin_ (f q) o) (h : ∃ q, x = some q ∧ A q) : Fin_ (fun n => x.bind (fun q => f q n)) o := by
  obtain ⟨q, rfl, h⟩ := h
  exact hA q h
theorem fin_run {G : Nat × (Nat → Int32)} {d : Nat} {mt : Mt_} {pc : Nat} {L : List (Option Value)} {st : List Value} {M : Mm_} {o : Out_} (j : Nat) (h : EvC G d mt pc L st M o) : Fin_ (fun n => am_run G (n + j) d mt pc L st M) o := fin_shift j h
theorem fin_ret {o o' : Out_} (h : o = o') : Fin_ (fun _ => some o') o := ⟨0, fun _ _ => by rw [h]⟩
theorem fin_callI {G : Nat × (Nat → Int32)} {d y : Nat} {as : List Value} {M : Mm_} {o : Out_} {g : Nat → Out_ → Option Out_} {A : Int32 → Mm_ → Prop} (j : Nat) (hA : ∀ x M', A x M' → Fin_ (fun n => g n (some (.int x), M')) o) (h : ∃ x M', Ev G d y as M (some (.int x), M') ∧ A x M') : Fin_ (fun n => (am_cl G (n + j) d y as M).bind (g n)) o := by
  obtain ⟨x, M', ⟨n1, h1⟩, h2⟩ := h
  obtain ⟨n2, h3⟩ := hA x M' h2
  refine ⟨n1 + n2, fun n hn => ?_⟩
  show (am_cl G (n + j) d y as M).bind (g n) = some o
  have e : am_cl G (n + j) d y as M = _ := h1 (n + j) (by omega)
  rw [e]
  exact h3 n (by omega)
theorem fin_callV {G : Nat × (Nat → Int32)} {d y : Nat} {as : List Value} {M : Mm_} {o : Out_} {g : Nat → Out_ → Option Out_} {A : Mm_ → Prop} (j : Nat) (hA : ∀ M', A M' → Fin_ (fun n => g n (none, M')) o) (h : ∃ M', Ev G d y as M (none, M') ∧ A M') : Fin_ (fun n => (am_cl G (n + j) d y as M).bind (g n)) o := by
  obtain ⟨M', ⟨n1, h1⟩, h2⟩ := h
  obtain ⟨n2, h3⟩ := hA M' h2
  refine ⟨n1 + n2, fun n hn => ?_⟩
  show (am_cl G (n + j) d y as M).bind (g n) = some o
  have e : am_cl G (n + j) d y as M = _ := h1 (n + j) (by omega)
  rw [e]
  exact h3 n (by omega)
/-- a method by its number -/
theorem ev_of {G : Nat × (Nat → Int32)} {d y : Nat} {q : Mt_ × Nat × Nat} {as : List Value} {M : Mm_} {o : Out_} (hy : mtL[y]? = some q) (h : EvC G d q.1 0 (am_loc q.2.2 as) [] M o) : Ev G d y as M o := by
  obtain ⟨n0, h⟩ := h
  refine ⟨n0, fun n hn => ?_⟩
  show (mtL[y]?).bind _ = _
  rw [hy]
  exact h n hn
end
section
/-! INT32 NUMBERS AS INTEGERS -/
/-- in the range of an int -/
def rg (a : Int) : Prop := -2147483648 ≤ a ∧ a < 2147483648
theorem zI_toInt {a : Int} (h : rg a) : (zI a).toInt = a := Int32.toInt_ofInt_of_le (by have := h.1; omega) (by have := h.2; omega)
theorem zI_of (x : Int32) : zI x.toInt = x := Int32.ofInt_toInt x
theorem rg_toInt (x : Int32) : rg x.toInt := ⟨x.le_toInt, x.toInt_lt⟩
theorem zI_eq {a b : Int} (ha : rg a) (hb : rg b) : (zI a = zI b) ↔ a = b := by
  constructor
  · intro h
    have := congrArg Int32.toInt h
    rwa [zI_toInt ha, zI_toInt hb] at this
  · exact congrArg zI
theorem zI_lt {a b : Int} (ha : rg a) (hb : rg b) : (zI a < zI b) ↔ a < b := by
  rw [Int32.lt_iff_toInt_lt, zI_toInt ha, zI_toInt hb]
theorem zI_le {a b : Int} (ha : rg a) (hb : rg b) : (zI a ≤ zI b) ↔ a ≤ b := by
  rw [Int32.le_iff_toInt_le, zI_toInt ha, zI_toInt hb]
theorem zI_0 : (0 : Int32) = zI 0 := by decide +kernel
theorem zI_1 : (1 : Int32) = zI 1 := by decide +kernel
theorem zI_31 : (31 : Int32) = zI 31 := by decide +kernel
theorem zI_ext {x : Int32} {a : Int} (ha : rg a) (h : x.toInt = a) : x = zI a := by
  rw [← h, zI_of]
theorem zI_add (a b : Int) : zI a + zI b = zI (a + b) := (Int32.ofInt_add a b).symm
theorem zI_sub (a b : Int) : zI a - zI b = zI (a - b) := (Int32.ofInt_sub a b).symm
theorem zI_mul (a b : Int) : zI a * zI b = zI (a * b) := (Int32.ofInt_mul a b).symm
theorem zI_clamp {a : Int} (h : rg a) : (zI a).toNatClampNeg = a.toNat := by
  show (zI a).toInt.toNat = a.toNat
  rw [zI_toInt h]
theorem zI_nat {n : Nat} (h : n < 2147483648) : (zI (n : Int)).toNatClampNeg = n := by
  rw [zI_clamp ⟨by omega, by omega⟩]; omega
theorem zI_in {a : Int} {n : Nat} (h : 0 ≤ a) (h2 : a < (n : Int)) (h3 : a < 2147483648) : am_in (zI a) n = true := by
  unfold am_in
  rw [zI_toInt ⟨by omega, h3⟩]
  exact decide_eq_true ⟨h, h2⟩
/-! memory: the shapes stay, one cell changes -/
theorem up2_self {α : Type} (f : Nat → Nat → α) (a j : Nat) (x : α) : up2 f a j x a j = x := by simp [up2]
theorem up2_idx {α : Type} (f : Nat → Nat → α) {a j i : Nat} (x : α) (h : i ≠ j) : up2 f a j x a i = f a i := by simp [up2, h]
theorem up2_cell {α : Type} (f : Nat → Nat → α) {a b : Nat} (j i : Nat) (x : α) (h : b ≠ a) : up2 f a j x b i = f b i := by simp [up2, h]
end
section
theorem ev_P_put_0 {G : Nat × (Nat → Int32)} {d : Nat} {a0 : Nat} {x1 : Int32} {x2 : Int32} {M : Mm_} {r : Out_} : (if x2 < (zI 1) then (r = (some (.int (zI 0)), M)) else (if (zI 4) < x2 then (r = (some (.int (zI 0)), M)) else ((am_okF M a0 0 0) = true ∧ ((am_okF M ((a0) + 1) 4 1) = true ∧ (if (zI 80) < ((M.2.1 ((a0) + 1) 1) + (x2)) then (r = (some (.int (zI 0)), M)) else (EvC G (d) m_P_put 30 [some (.ref (a0)), some (.int (x1)), some (.int (x2)), some (.int ((x2) - (zI 1)))] [] M r)))))) → EvC G (d) m_P_put 0 [some (.ref (a0)), some (.int (x1)), some (.int (x2)), none] [] M r :=
  fin_seg (f := fun n => if x2 < (zI 1) then (some (some (.int (zI 0)), M)) else (if (zI 4) < x2 then (some (some (.int (zI 0)), M)) else (cond (am_okF M a0 0 0) (cond (am_okF M ((a0) + 1) 4 1) (if (zI 80) < ((M.2.1 ((a0) + 1) 1) + (x2)) then (some (some (.int (zI 0)), M)) else (am_run G (n + 0) (d) m_P_put 30 [some (.ref (a0)), some (.int (x1)), some (.int (x2)), some (.int ((x2) - (zI 1)))] [] M)) none) none))) 17 (fun n => rfl) (fin_if (fin_ret) (fin_if (fin_ret) (fin_ck (fin_ck (fin_if (fin_ret) (fin_run 0))))))
theorem ev_P_put_30 {G : Nat × (Nat → Int32)} {d : Nat} {a0 : Nat} {x1 : Int32} {x2 : Int32} {x3 : Int32} {M : Mm_} {r : Out_} : (if x3 < 0 then (r = (some (.int (zI 1)), M)) else ((am_okF M a0 0 0) = true ∧ ((am_okO M ((a0) + 1) 4) = true ∧ (∃ M', Ev G d 9 [.ref ((a0) + 1), .int ((am_ushr (x1) ((zI 8) * (x3))) &&& (zI 255))] M (none, M') ∧ EvC G (d + 1) m_P_put 51 [some (.ref (a0)), some (.int (x1)), some (.int (x2)), some (.int (x3))] [] M' r)))) → EvC G (d + 1) m_P_put 30 [some (.ref (a0)), some (.int (x1)), some (.int (x2)), some (.int (x3))] [] M r :=
  fin_seg (f := fun n => if x3 < 0 then (some (some (.int (zI 1)), M)) else (cond (am_okF M a0 0 0) (cond (am_okO M ((a0) + 1) 4) ((am_cl G (n + 0) d 9 [.ref ((a0) + 1), .int ((am_ushr (x1) ((zI 8) * (x3))) &&& (zI 255))] M).bind (fun o => am_run G (n + 0) (d + 1) m_P_put 51 [some (.ref (a0)), some (.int (x1)), some (.int (x2)), some (.int (x3))] (o.1.toList ++ []) o.2)) none) none)) 12 (fun n => rfl) (fin_if (fin_ret) (fin_ck (fin_ck (fin_callV 0 (fun _ => fin_run 0)))))
theorem ev_P_put_51 {G : Nat × (Nat → Int32)} {d : Nat} {a0 : Nat} {x1 : Int32} {x2 : Int32} {x3 : Int32} {M : Mm_} {r : Out_} : (EvC G (d) m_P_put 30 [some (.ref (a0)), some (.int (x1)), some (.int (x2)), some (.int ((x3) + zI (-1)))] [] M r) → EvC G (d) m_P_put 51 [some (.ref (a0)), some (.int (x1)), some (.int (x2)), some (.int (x3))] [] M r :=
  fin_seg (f := fun n => cond true (am_run G (n + 0) (d) m_P_put 30 [some (.ref (a0)), some (.int (x1)), some (.int (x2)), some (.int ((x3) + zI (-1)))] [] M) none) 2 (fun n => rfl) (fin_tt (fin_run 0))
theorem ev_R_add_0 {G : Nat × (Nat → Int32)} {d : Nat} {a0 : Nat} {x1 : Int32} {M : Mm_} {r : Out_} : ((am_okF M a0 4 1) = true ∧ ((am_okF M a0 4 0) = true ∧ (((am_len M ((a0) + 1)).isSome) = true ∧ (if (M.2.1 a0 1) < (zI ((am_len M ((a0) + 1)).getD 0)) then ((am_okF M a0 4 0) = true ∧ ((am_okF M a0 4 1) = true ∧ ((am_okA M ((a0) + 1) 0 (M.2.1 a0 1)) = true ∧ ((am_okF (am_setI M ((a0) + 1) (M.2.1 a0 1).toNatClampNeg x1) a0 4 1) = true ∧ ((am_okP (am_setI M ((a0) + 1) (M.2.1 a0 1).toNatClampNeg x1) a0 4 1 0) = true ∧ (r = (none, am_setI (am_setI M ((a0) + 1) (M.2.1 a0 1).toNatClampNeg x1) a0 1 (((am_setI M ((a0) + 1) (M.2.1 a0 1).toNatClampNeg x1).2.1 a0 1) + (zI 1))))))))) else (r = (none, M)))))) → EvC G (d) m_R_add 0 [some (.ref (a0)), some (.int (x1))] [] M r :=
  fin_seg (f := fun n => cond (am_okF M a0 4 1) (cond (am_okF M a0 4 0) (cond ((am_len M ((a0) + 1)).isSome) (if (M.2.1 a0 1) < (zI ((am_len M ((a0) + 1)).getD 0)) then (cond (am_okF M a0 4 0) (cond (am_okF M a0 4 1) (cond (am_okA M ((a0) + 1) 0 (M.2.1 a0 1)) (cond (am_okF (am_setI M ((a0) + 1) (M.2.1 a0 1).toNatClampNeg x1) a0 4 1) (cond (am_okP (am_setI M ((a0) + 1) (M.2.1 a0 1).toNatClampNeg x1) a0 4 1 0) (some (none, am_setI (am_setI M ((a0) + 1) (M.2.1 a0 1).toNatClampNeg x1) a0 1 (((am_setI M ((a0) + 1) (M.2.1 a0 1).toNatClampNeg x1).2.1 a0 1) + (zI 1)))) none) none) none) none) none) else (some (none, M))) none) none) none) 19 (fun n => rfl) (fin_ck (fin_ck (fin_ck (fin_if (fin_ck (fin_ck (fin_ck (fin_ck (fin_ck (fin_ret)))))) (fin_ret)))))
theorem ev_P_set_0 {G : Nat × (Nat → Int32)} {d : Nat} {a0 : Nat} {x1 : Int32} {x2 : Int32} {M : Mm_} {r : Out_} : (if x1 < 0 then (r = (some (.int (zI 0)), M)) else ((am_okF M a0 0 0) = true ∧ ((am_okF M ((a0) + 1) 4 1) = true ∧ (if x1 < (M.2.1 ((a0) + 1) 1) then (if x2 < 0 then (r = (some (.int (zI 0)), M)) else (if (zI 255) < x2 then (r = (some (.int (zI 0)), M)) else ((am_okF M a0 0 0) = true ∧ ((am_okF M ((a0) + 1) 4 0) = true ∧ ((am_okA M (((a0) + 1) + 1) 0 x1) = true ∧ (r = (some (.int (zI 1)), am_setI M (((a0) + 1) + 1) x1.toNatClampNeg x2))))))) else (r = (some (.int (zI 0)), M)))))) → EvC G (d) m_P_set 0 [some (.ref (a0)), some (.int (x1)), some (.int (x2))] [] M r :=
  fin_seg (f := fun n => if x1 < 0 then (some (some (.int (zI 0)), M)) else (cond (am_okF M a0 0 0) (cond (am_okF M ((a0) + 1) 4 1) (if x1 < (M.2.1 ((a0) + 1) 1) then (if x2 < 0 then (some (some (.int (zI 0)), M)) else (if (zI 255) < x2 then (some (some (.int (zI 0)), M)) else (cond (am_okF M a0 0 0) (cond (am_okF M ((a0) + 1) 4 0) (cond (am_okA M (((a0) + 1) + 1) 0 x1) (some (some (.int (zI 1)), am_setI M (((a0) + 1) + 1) x1.toNatClampNeg x2)) none) none) none))) else (some (some (.int (zI 0)), M))) none) none)) 20 (fun n => rfl) (fin_if (fin_ret) (fin_ck (fin_ck (fin_if (fin_if (fin_ret) (fin_if (fin_ret) (fin_ck (fin_ck (fin_ck (fin_ret)))))) (fin_ret)))))
theorem ev_P_cut_0 {G : Nat × (Nat → Int32)} {d : Nat} {a0 : Nat} {x1 : Int32} {M : Mm_} {r : Out_} : (if x1 < 0 then (r = (some (.int (zI 0)), M)) else ((am_okF M a0 0 0) = true ∧ ((am_okF M ((a0) + 1) 4 1) = true ∧ (if (M.2.1 ((a0) + 1) 1) < x1 then (r = (some (.int (zI 0)), M)) else ((am_okF M a0 0 0) = true ∧ ((am_okP M ((a0) + 1) 4 1 0) = true ∧ (r = (some (.int (zI 1)), am_setI M ((a0) + 1) 1 x1)))))))) → EvC G (d) m_P_cut 0 [some (.ref (a0)), some (.int (x1))] [] M r :=
  fin_seg (f := fun n => if x1 < 0 then (some (some (.int (zI 0)), M)) else (cond (am_okF M a0 0 0) (cond (am_okF M ((a0) + 1) 4 1) (if (M.2.1 ((a0) + 1) 1) < x1 then (some (some (.int (zI 0)), M)) else (cond (am_okF M a0 0 0) (cond (am_okP M ((a0) + 1) 4 1 0) (some (some (.int (zI 1)), am_setI M ((a0) + 1) 1 x1)) none) none)) none) none)) 13 (fun n => rfl) (fin_if (fin_ret) (fin_ck (fin_ck (fin_if (fin_ret) (fin_ck (fin_ck (fin_ret)))))))
theorem ev_P_size_0 {G : Nat × (Nat → Int32)} {d : Nat} {a0 : Nat} {M : Mm_} {r : Out_} : ((am_okF M a0 0 0) = true ∧ ((am_okF M ((a0) + 1) 4 1) = true ∧ (r = (some (.int (M.2.1 ((a0) + 1) 1)), M)))) → EvC G (d) m_P_size 0 [some (.ref (a0))] [] M r :=
  fin_seg (f := fun n => cond (am_okF M a0 0 0) (cond (am_okF M ((a0) + 1) 4 1) (some (some (.int (M.2.1 ((a0) + 1) 1)), M)) none) none) 4 (fun n => rfl) (fin_ck (fin_ck (fin_ret)))
theorem ev_P_at_0 {G : Nat × (Nat → Int32)} {d : Nat} {a0 : Nat} {x1 : Int32} {M : Mm_} {r : Out_} : ((am_okF M a0 0 0) = true ∧ ((am_okO M ((a0) + 1) 4) = true ∧ (∃ x' M', Ev G d 14 [.ref ((a0) + 1), .int (x1)] M (some (.int x'), M') ∧ EvC G (d + 1) m_P_at 8 [some (.ref (a0)), some (.int (x1))] (.int x' :: []) M' r))) → EvC G (d + 1) m_P_at 0 [some (.ref (a0)), some (.int (x1))] [] M r :=
  fin_seg (f := fun n => cond (am_okF M a0 0 0) (cond (am_okO M ((a0) + 1) 4) ((am_cl G (n + 0) d 14 [.ref ((a0) + 1), .int (x1)] M).bind (fun o => am_run G (n + 0) (d + 1) m_P_at 8 [some (.ref (a0)), some (.int (x1))] (o.1.toList ++ []) o.2)) none) none) 4 (fun n => rfl) (fin_ck (fin_ck (fin_callI 0 (fun _ _ => fin_run 0))))
theorem ev_P_at_8 {G : Nat × (Nat → Int32)} {d : Nat} {a0 : Nat} {x1 : Int32} {y0 : Int32} {M : Mm_} {r : Out_} : (r = (some (.int y0), M)) → EvC G (d) m_P_at 8 [some (.ref (a0)), some (.int (x1))] [.int (y0)] M r :=
  fin_seg (f := fun n => some (some (.int y0), M)) 1 (fun n => rfl) (fin_ret)
theorem ev_R_cell_0 {G : Nat × (Nat → Int32)} {d : Nat} {a0 : Nat} {x1 : Int32} {M : Mm_} {r : Out_} : (if x1 < 0 then (r = (some (.int (zI (-1))), M)) else ((am_okF M a0 4 1) = true ∧ (if x1 < (M.2.1 a0 1) then ((am_okF M a0 4 0) = true ∧ ((am_okA M ((a0) + 1) 0 x1) = true ∧ (r = (some (.int (M.2.1 ((a0) + 1) x1.toNatClampNeg)), M)))) else (r = (some (.int (zI (-1))), M))))) → EvC G (d) m_R_cell 0 [some (.ref (a0)), some (.int (x1))] [] M r :=
  fin_seg (f := fun n => if x1 < 0 then (some (some (.int (zI (-1))), M)) else (cond (am_okF M a0 4 1) (if x1 < (M.2.1 a0 1) then (cond (am_okF M a0 4 0) (cond (am_okA M ((a0) + 1) 0 x1) (some (some (.int (M.2.1 ((a0) + 1) x1.toNatClampNeg)), M)) none) none) else (some (some (.int (zI (-1))), M))) none)) 12 (fun n => rfl) (fin_if (fin_ret) (fin_ck (fin_if (fin_ck (fin_ck (fin_ret))) (fin_ret))))
theorem ev_P_path_0 {G : Nat × (Nat → Int32)} {d : Nat} {a0 : Nat} {x1 : Int32} {x2 : Int32} {M : Mm_} {r : Out_} : (∃ x' M', Ev G d 16 [.int (x1), .int (x2)] M (some (.int x'), M') ∧ EvC G (d + 1) m_P_path 5 [some (.ref (a0)), some (.int (x1)), some (.int (x2)), none] (.int x' :: []) M' r) → EvC G (d + 1) m_P_path 0 [some (.ref (a0)), some (.int (x1)), some (.int (x2)), none] [] M r :=
  fin_seg (f := fun n => (am_cl G (n + 0) d 16 [.int (x1), .int (x2)] M).bind (fun o => am_run G (n + 0) (d + 1) m_P_path 5 [some (.ref (a0)), some (.int (x1)), some (.int (x2)), none] (o.1.toList ++ []) o.2)) 3 (fun n => rfl) (fin_callI 0 (fun _ _ => fin_run 0))
theorem ev_P_path_5 {G : Nat × (Nat → Int32)} {d : Nat} {a0 : Nat} {x1 : Int32} {x2 : Int32} {u3 : Option Value} {y0 : Int32} {M : Mm_} {r : Out_} : (if y0 = 0 then (r = (some (.int (zI 0)), M)) else ((am_okF M a0 0 1) = true ∧ ((am_okP M ((a0) + 3) 3 1 0) = true ∧ ((am_okF (am_setI M ((a0) + 3) 1 (zI 0)) a0 0 1) = true ∧ ((am_okO (am_setI M ((a0) + 3) 1 (zI 0)) ((a0) + 3) 3) = true ∧ (∃ x' M', Ev G d 17 [.ref ((a0) + 3), .int (y0)] (am_setI M ((a0) + 3) 1 (zI 0)) (some (.int x'), M') ∧ EvC G (d + 1) m_P_path 28 [some (.ref (a0)), some (.int (x1)), some (.int (x2)), some (.int (y0))] (.int x' :: []) M' r)))))) → EvC G (d + 1) m_P_path 5 [some (.ref (a0)), some (.int (x1)), some (.int (x2)), u3] [.int (y0)] M r :=
  fin_seg (f := fun n => if y0 = 0 then (some (some (.int (zI 0)), M)) else (cond (am_okF M a0 0 1) (cond (am_okP M ((a0) + 3) 3 1 0) (cond (am_okF (am_setI M ((a0) + 3) 1 (zI 0)) a0 0 1) (cond (am_okO (am_setI M ((a0) + 3) 1 (zI 0)) ((a0) + 3) 3) ((am_cl G (n + 0) d 17 [.ref ((a0) + 3), .int (y0)] (am_setI M ((a0) + 3) 1 (zI 0))).bind (fun o => am_run G (n + 0) (d + 1) m_P_path 28 [some (.ref (a0)), some (.int (x1)), some (.int (x2)), some (.int (y0))] (o.1.toList ++ []) o.2)) none) none) none) none)) 11 (fun n => rfl) (fin_if (fin_ret) (fin_ck (fin_ck (fin_ck (fin_ck (fin_callI 0 (fun _ _ => fin_run 0)))))))
theorem ev_P_path_28 {G : Nat × (Nat → Int32)} {d : Nat} {a0 : Nat} {x1 : Int32} {x2 : Int32} {x3 : Int32} {y0 : Int32} {M : Mm_} {r : Out_} : ((am_bit y0) = true ∧ (r = (some (.int y0), M))) → EvC G (d) m_P_path 28 [some (.ref (a0)), some (.int (x1)), some (.int (x2)), some (.int (x3))] [.int (y0)] M r :=
  fin_seg (f := fun n => cond (am_bit y0) (some (some (.int y0), M)) none) 1 (fun n => rfl) (fin_ck (fin_ret))
theorem ev_P_nameOf_0 {G : Nat × (Nat → Int32)} {d : Nat} {x0 : Int32} {x1 : Int32} {M : Mm_} {r : Out_} : (if x1 < (zI 1) then (r = (some (.int (zI 0)), M)) else (if (zI 4) < x1 then (r = (some (.int (zI 0)), M)) else (EvC G (d) m_P_nameOf 18 [some (.int (x0)), some (.int (x1)), some (.int (zI 0)), some (.int ((x1) - (zI 1))), none] [] M r))) → EvC G (d) m_P_nameOf 0 [some (.int (x0)), some (.int (x1)), none, none, none] [] M r :=
  fin_seg (f := fun n => if x1 < (zI 1) then (some (some (.int (zI 0)), M)) else (if (zI 4) < x1 then (some (some (.int (zI 0)), M)) else (am_run G (n + 0) (d) m_P_nameOf 18 [some (.int (x0)), some (.int (x1)), some (.int (zI 0)), some (.int ((x1) - (zI 1))), none] [] M))) 12 (fun n => rfl) (fin_if (fin_ret) (fin_if (fin_ret) (fin_run 0)))
theorem ev_P_nameOf_18 {G : Nat × (Nat → Int32)} {d : Nat} {x0 : Int32} {x1 : Int32} {x2 : Int32} {x3 : Int32} {u4 : Option Value} {M : Mm_} {r : Out_} : (if x3 < 0 then (r = (some (.int x2), M)) else (if ((am_ushr (x0) ((zI 8) * (x3))) &&& (zI 255)) < (zI 97) then (r = (some (.int (zI 0)), M)) else (if (zI 122) < ((am_ushr (x0) ((zI 8) * (x3))) &&& (zI 255)) then (r = (some (.int (zI 0)), M)) else (EvC G (d) m_P_nameOf 18 [some (.int (x0)), some (.int (x1)), some (.int (((x2) <<< ((zI 8) &&& 31)) ||| ((am_ushr (x0) ((zI 8) * (x3))) &&& (zI 255)))), some (.int ((x3) + zI (-1))), some (.int ((am_ushr (x0) ((zI 8) * (x3))) &&& (zI 255)))] [] M r)))) → EvC G (d) m_P_nameOf 18 [some (.int (x0)), some (.int (x1)), some (.int (x2)), some (.int (x3)), u4] [] M r :=
  fin_seg (f := fun n => if x3 < 0 then (some (some (.int x2), M)) else (if ((am_ushr (x0) ((zI 8) * (x3))) &&& (zI 255)) < (zI 97) then (some (some (.int (zI 0)), M)) else (if (zI 122) < ((am_ushr (x0) ((zI 8) * (x3))) &&& (zI 255)) then (some (some (.int (zI 0)), M)) else (am_run G (n + 0) (d) m_P_nameOf 18 [some (.int (x0)), some (.int (x1)), some (.int (((x2) <<< ((zI 8) &&& 31)) ||| ((am_ushr (x0) ((zI 8) * (x3))) &&& (zI 255)))), some (.int ((x3) + zI (-1))), some (.int ((am_ushr (x0) ((zI 8) * (x3))) &&& (zI 255)))] [] M)))) 24 (fun n => rfl) (fin_if (fin_ret) (fin_if (fin_ret) (fin_if (fin_ret) (fin_run 0))))
theorem ev_H_add_0 {G : Nat × (Nat → Int32)} {d : Nat} {a0 : Nat} {x1 : Int32} {M : Mm_} {r : Out_} : ((am_okF M a0 3 1) = true ∧ (if (M.2.1 a0 1) < (zI 3) then ((am_okF M a0 3 0) = true ∧ ((am_okF M a0 3 1) = true ∧ ((am_okA M ((a0) + 1) 0 (M.2.1 a0 1)) = true ∧ ((am_okF (am_setI M ((a0) + 1) (M.2.1 a0 1).toNatClampNeg x1) a0 3 1) = true ∧ ((am_okP (am_setI M ((a0) + 1) (M.2.1 a0 1).toNatClampNeg x1) a0 3 1 0) = true ∧ (r = (some (.int (zI 1)), am_setI (am_setI M ((a0) + 1) (M.2.1 a0 1).toNatClampNeg x1) a0 1 (((am_setI M ((a0) + 1) (M.2.1 a0 1).toNatClampNeg x1).2.1 a0 1) + (zI 1))))))))) else (r = (some (.int (zI 0)), M)))) → EvC G (d) m_H_add 0 [some (.ref (a0)), some (.int (x1))] [] M r :=
  fin_seg (f := fun n => cond (am_okF M a0 3 1) (if (M.2.1 a0 1) < (zI 3) then (cond (am_okF M a0 3 0) (cond (am_okF M a0 3 1) (cond (am_okA M ((a0) + 1) 0 (M.2.1 a0 1)) (cond (am_okF (am_setI M ((a0) + 1) (M.2.1 a0 1).toNatClampNeg x1) a0 3 1) (cond (am_okP (am_setI M ((a0) + 1) (M.2.1 a0 1).toNatClampNeg x1) a0 3 1 0) (some (some (.int (zI 1)), am_setI (am_setI M ((a0) + 1) (M.2.1 a0 1).toNatClampNeg x1) a0 1 (((am_setI M ((a0) + 1) (M.2.1 a0 1).toNatClampNeg x1).2.1 a0 1) + (zI 1)))) none) none) none) none) none) else (some (some (.int (zI 0)), M))) none) 18 (fun n => rfl) (fin_ck (fin_if (fin_ck (fin_ck (fin_ck (fin_ck (fin_ck (fin_ret)))))) (fin_ret)))
theorem ev_P_step_0 {G : Nat × (Nat → Int32)} {d : Nat} {a0 : Nat} {x1 : Int32} {x2 : Int32} {M : Mm_} {r : Out_} : (∃ x' M', Ev G d 16 [.int (x1), .int (x2)] M (some (.int x'), M') ∧ EvC G (d + 1) m_P_step 5 [some (.ref (a0)), some (.int (x1)), some (.int (x2)), none] (.int x' :: []) M' r) → EvC G (d + 1) m_P_step 0 [some (.ref (a0)), some (.int (x1)), some (.int (x2)), none] [] M r :=
  fin_seg (f := fun n => (am_cl G (n + 0) d 16 [.int (x1), .int (x2)] M).bind (fun o => am_run G (n + 0) (d + 1) m_P_step 5 [some (.ref (a0)), some (.int (x1)), some (.int (x2)), none] (o.1.toList ++ []) o.2)) 3 (fun n => rfl) (fin_callI 0 (fun _ _ => fin_run 0))
theorem ev_P_step_5 {G : Nat × (Nat → Int32)} {d : Nat} {a0 : Nat} {x1 : Int32} {x2 : Int32} {u3 : Option Value} {y0 : Int32} {M : Mm_} {r : Out_} : (if y0 = 0 then (r = (some (.int (zI 0)), M)) else ((am_okF M a0 0 1) = true ∧ ((am_okF M ((a0) + 3) 3 1) = true ∧ (if 0 < (M.2.1 ((a0) + 3) 1) then ((am_okF M a0 0 1) = true ∧ ((am_okO M ((a0) + 3) 3) = true ∧ (∃ x' M', Ev G d 17 [.ref ((a0) + 3), .int (y0)] M (some (.int x'), M') ∧ EvC G (d + 1) m_P_step 28 [some (.ref (a0)), some (.int (x1)), some (.int (x2)), some (.int (y0))] (.int x' :: []) M' r))) else (r = (some (.int (zI 0)), M)))))) → EvC G (d + 1) m_P_step 5 [some (.ref (a0)), some (.int (x1)), some (.int (x2)), u3] [.int (y0)] M r :=
  fin_seg (f := fun n => if y0 = 0 then (some (some (.int (zI 0)), M)) else (cond (am_okF M a0 0 1) (cond (am_okF M ((a0) + 3) 3 1) (if 0 < (M.2.1 ((a0) + 3) 1) then (cond (am_okF M a0 0 1) (cond (am_okO M ((a0) + 3) 3) ((am_cl G (n + 0) d 17 [.ref ((a0) + 3), .int (y0)] M).bind (fun o => am_run G (n + 0) (d + 1) m_P_step 28 [some (.ref (a0)), some (.int (x1)), some (.int (x2)), some (.int (y0))] (o.1.toList ++ []) o.2)) none) none) else (some (some (.int (zI 0)), M))) none) none)) 11 (fun n => rfl) (fin_if (fin_ret) (fin_ck (fin_ck (fin_if (fin_ck (fin_ck (fin_callI 0 (fun _ _ => fin_run 0)))) (fin_ret)))))
theorem ev_P_step_28 {G : Nat × (Nat → Int32)} {d : Nat} {a0 : Nat} {x1 : Int32} {x2 : Int32} {x3 : Int32} {y0 : Int32} {M : Mm_} {r : Out_} : (if y0 = 0 then (r = (some (.int (zI 0)), M)) else (r = (some (.int (zI 1)), M))) → EvC G (d) m_P_step 28 [some (.ref (a0)), some (.int (x1)), some (.int (x2)), some (.int (x3))] [.int (y0)] M r :=
  fin_seg (f := fun n => if y0 = 0 then (some (some (.int (zI 0)), M)) else (some (some (.int (zI 1)), M))) 4 (fun n => rfl) (fin_if (fin_ret) (fin_ret))
theorem ev_P_insert_0 {G : Nat × (Nat → Int32)} {d : Nat} {a0 : Nat} {M : Mm_} {r : Out_} : ((am_okF M a0 0 6) = true ∧ ((am_okF M a0 0 0) = true ∧ ((am_okO M ((a0) + 42) 7) = true ∧ (∃ x' M', Ev G d 20 [.ref ((a0) + 42), .ref ((a0) + 1)] M (some (.int x'), M') ∧ EvC G (d + 1) m_P_insert 11 [some (.ref (a0)), none, none] (.int x' :: []) M' r)))) → EvC G (d + 1) m_P_insert 0 [some (.ref (a0)), none, none] [] M r :=
  fin_seg (f := fun n => cond (am_okF M a0 0 6) (cond (am_okF M a0 0 0) (cond (am_okO M ((a0) + 42) 7) ((am_cl G (n + 0) d 20 [.ref ((a0) + 42), .ref ((a0) + 1)] M).bind (fun o => am_run G (n + 0) (d + 1) m_P_insert 11 [some (.ref (a0)), none, none] (o.1.toList ++ []) o.2)) none) none) none) 5 (fun n => rfl) (fin_ck (fin_ck (fin_ck (fin_callI 0 (fun _ _ => fin_run 0)))))
theorem ev_P_insert_11 {G : Nat × (Nat → Int32)} {d : Nat} {a0 : Nat} {u1 : Option Value} {u2 : Option Value} {y0 : Int32} {M : Mm_} {r : Out_} : (if y0 = (zI (-1)) then ((am_okF M a0 0 6) = true ∧ ((am_okO M ((a0) + 42) 7) = true ∧ (∃ x' M', Ev G d 31 [.ref ((a0) + 42)] M (some (.int x'), M') ∧ EvC G (d + 1) m_P_insert 28 [some (.ref (a0)), some (.int (y0)), u2] (.int x' :: []) M' r))) else (r = (some (.int ((zI (-1)) - (y0))), M))) → EvC G (d + 1) m_P_insert 11 [some (.ref (a0)), u1, u2] [.int (y0)] M r :=
  fin_seg (f := fun n => if y0 = (zI (-1)) then (cond (am_okF M a0 0 6) (cond (am_okO M ((a0) + 42) 7) ((am_cl G (n + 1) d 31 [.ref ((a0) + 42)] M).bind (fun o => am_run G (n + 1) (d + 1) m_P_insert 28 [some (.ref (a0)), some (.int (y0)), u2] (o.1.toList ++ []) o.2)) none) none) else (some (some (.int ((zI (-1)) - (y0))), M))) 8 (fun n => rfl) (fin_if (fin_ck (fin_ck (fin_callI 1 (fun _ _ => fin_run 1)))) (fin_ret))
theorem ev_P_insert_28 {G : Nat × (Nat → Int32)} {d : Nat} {a0 : Nat} {x1 : Int32} {u2 : Option Value} {y0 : Int32} {M : Mm_} {r : Out_} : ((am_okF M a0 0 0) = true ∧ ((am_okF M ((a0) + 1) 4 1) = true ∧ (if (zI 60) < (M.2.1 ((a0) + 1) 1) then (r = (some (.int (zI (-1000))), M)) else (if y0 = (zI (-1)) then (r = (some (.int (zI (-1000))), M)) else ((am_okF M a0 0 2) = true ∧ ((am_okO M ((a0) + 5) 5) = true ∧ (∃ x' M', Ev G d 33 [.ref ((a0) + 5), .int (y0)] M (some (.int x'), M') ∧ EvC G (d + 1) m_P_insert 58 [some (.ref (a0)), some (.int (x1)), some (.int (y0))] (.int x' :: []) M' r))))))) → EvC G (d + 1) m_P_insert 28 [some (.ref (a0)), some (.int (x1)), u2] [.int (y0)] M r :=
  fin_seg (f := fun n => cond (am_okF M a0 0 0) (cond (am_okF M ((a0) + 1) 4 1) (if (zI 60) < (M.2.1 ((a0) + 1) 1) then (some (some (.int (zI (-1000))), M)) else (if y0 = (zI (-1)) then (some (some (.int (zI (-1000))), M)) else (cond (am_okF M a0 0 2) (cond (am_okO M ((a0) + 5) 5) ((am_cl G (n + 0) d 33 [.ref ((a0) + 5), .int (y0)] M).bind (fun o => am_run G (n + 0) (d + 1) m_P_insert 58 [some (.ref (a0)), some (.int (x1)), some (.int (y0))] (o.1.toList ++ []) o.2)) none) none))) none) none) 13 (fun n => rfl) (fin_ck (fin_ck (fin_if (fin_ret) (fin_if (fin_ret) (fin_ck (fin_ck (fin_callI 0 (fun _ _ => fin_run 0))))))))
theorem ev_P_insert_58 {G : Nat × (Nat → Int32)} {d : Nat} {a0 : Nat} {x1 : Int32} {x2 : Int32} {y0 : Int32} {M : Mm_} {r : Out_} : (if y0 = (zI (-1)) then ((am_okF M a0 0 2) = true ∧ ((am_okF M a0 0 0) = true ∧ ((am_okO M ((a0) + 5) 5) = true ∧ (∃ x' M', Ev G d 34 [.ref ((a0) + 5), .ref ((a0) + 1), .int (x2)] M (some (.int x'), M') ∧ EvC G (d + 1) m_P_insert 78 [some (.ref (a0)), some (.int (x1)), some (.int (x2))] (.int x' :: []) M' r)))) else (r = (some (.int (zI (-1001))), M))) → EvC G (d + 1) m_P_insert 58 [some (.ref (a0)), some (.int (x1)), some (.int (x2))] [.int (y0)] M r :=
  fin_seg (f := fun n => if y0 = (zI (-1)) then (cond (am_okF M a0 0 2) (cond (am_okF M a0 0 0) (cond (am_okO M ((a0) + 5) 5) ((am_cl G (n + 0) d 34 [.ref ((a0) + 5), .ref ((a0) + 1), .int (x2)] M).bind (fun o => am_run G (n + 0) (d + 1) m_P_insert 78 [some (.ref (a0)), some (.int (x1)), some (.int (x2))] (o.1.toList ++ []) o.2)) none) none) none) else (some (some (.int (zI (-1001))), M))) 8 (fun n => rfl) (fin_if (fin_ck (fin_ck (fin_ck (fin_callI 0 (fun _ _ => fin_run 0))))) (fin_ret))
theorem ev_P_insert_78 {G : Nat × (Nat → Int32)} {d : Nat} {a0 : Nat} {x1 : Int32} {x2 : Int32} {y0 : Int32} {M : Mm_} {r : Out_} : (if y0 = 0 then (r = (some (.int (zI (-1002))), M)) else ((am_okF M a0 0 0) = true ∧ ((am_okP M ((a0) + 1) 4 1 0) = true ∧ (r = (some (.int x2), am_setI M ((a0) + 1) 1 (zI 0)))))) → EvC G (d) m_P_insert 78 [some (.ref (a0)), some (.int (x1)), some (.int (x2))] [.int (y0)] M r :=
  fin_seg (f := fun n => if y0 = 0 then (some (some (.int (zI (-1002))), M)) else (cond (am_okF M a0 0 0) (cond (am_okP M ((a0) + 1) 4 1 0) (some (some (.int x2), am_setI M ((a0) + 1) 1 (zI 0))) none) none)) 7 (fun n => rfl) (fin_if (fin_ret) (fin_ck (fin_ck (fin_ret))))
theorem ev_T_readDocument_0 {G : Nat × (Nat → Int32)} {d : Nat} {a0 : Nat} {a1 : Nat} {M : Mm_} {r : Out_} : ((am_okO M a0 7) = true ∧ (∃ M', Ev G d 21 [.ref (a0), .ref (a1)] M (none, M') ∧ EvC G (d + 1) m_T_readDocument 5 [some (.ref (a0)), some (.ref (a1))] [] M' r)) → EvC G (d + 1) m_T_readDocument 0 [some (.ref (a0)), some (.ref (a1))] [] M r :=
  fin_seg (f := fun n => cond (am_okO M a0 7) ((am_cl G (n + 0) d 21 [.ref (a0), .ref (a1)] M).bind (fun o => am_run G (n + 0) (d + 1) m_T_readDocument 5 [some (.ref (a0)), some (.ref (a1))] (o.1.toList ++ []) o.2)) none) 3 (fun n => rfl) (fin_ck (fin_callV 0 (fun _ => fin_run 0)))
theorem ev_T_readDocument_5 {G : Nat × (Nat → Int32)} {d : Nat} {a0 : Nat} {a1 : Nat} {M : Mm_} {r : Out_} : ((am_okO M a0 7) = true ∧ (∃ x' M', Ev G d 22 [.ref (a0), .int (zI 3), .int (zI 0), .int (zI 0)] M (some (.int x'), M') ∧ EvC G (d + 1) m_T_readDocument 14 [some (.ref (a0)), some (.ref (a1))] (.int x' :: [.ref (a0), .ref (a0)]) M' r)) → EvC G (d + 1) m_T_readDocument 5 [some (.ref (a0)), some (.ref (a1))] [] M r :=
  fin_seg (f := fun n => cond (am_okO M a0 7) ((am_cl G (n + 0) d 22 [.ref (a0), .int (zI 3), .int (zI 0), .int (zI 0)] M).bind (fun o => am_run G (n + 0) (d + 1) m_T_readDocument 14 [some (.ref (a0)), some (.ref (a1))] (o.1.toList ++ [.ref (a0), .ref (a0)]) o.2)) none) 7 (fun n => rfl) (fin_ck (fin_callI 0 (fun _ _ => fin_run 0)))
theorem ev_T_readDocument_14 {G : Nat × (Nat → Int32)} {d : Nat} {a0 : Nat} {a1 : Nat} {b0 : Nat} {b1 : Nat} {y2 : Int32} {M : Mm_} {r : Out_} : ((am_okO M b1 7) = true ∧ (∃ x' M', Ev G d 23 [.ref (b1), .int (y2)] M (some (.int x'), M') ∧ EvC G (d + 1) m_T_readDocument 17 [some (.ref (a0)), some (.ref (a1))] (.int x' :: [.ref (b0)]) M' r)) → EvC G (d + 1) m_T_readDocument 14 [some (.ref (a0)), some (.ref (a1))] [.int (y2), .ref (b1), .ref (b0)] M r :=
  fin_seg (f := fun n => cond (am_okO M b1 7) ((am_cl G (n + 0) d 23 [.ref (b1), .int (y2)] M).bind (fun o => am_run G (n + 0) (d + 1) m_T_readDocument 17 [some (.ref (a0)), some (.ref (a1))] (o.1.toList ++ [.ref (b0)]) o.2)) none) 1 (fun n => rfl) (fin_ck (fin_callI 0 (fun _ _ => fin_run 0)))
theorem ev_T_readDocument_17 {G : Nat × (Nat → Int32)} {d : Nat} {a0 : Nat} {a1 : Nat} {b0 : Nat} {y1 : Int32} {M : Mm_} {r : Out_} : ((am_okO M b0 7) = true ∧ (∃ x' M', Ev G d 26 [.ref (b0), .int (y1)] M (some (.int x'), M') ∧ EvC G (d + 1) m_T_readDocument 20 [some (.ref (a0)), some (.ref (a1))] (.int x' :: []) M' r)) → EvC G (d + 1) m_T_readDocument 17 [some (.ref (a0)), some (.ref (a1))] [.int (y1), .ref (b0)] M r :=
  fin_seg (f := fun n => cond (am_okO M b0 7) ((am_cl G (n + 0) d 26 [.ref (b0), .int (y1)] M).bind (fun o => am_run G (n + 0) (d + 1) m_T_readDocument 20 [some (.ref (a0)), some (.ref (a1))] (o.1.toList ++ []) o.2)) none) 1 (fun n => rfl) (fin_ck (fin_callI 0 (fun _ _ => fin_run 0)))
theorem ev_T_readDocument_20 {G : Nat × (Nat → Int32)} {d : Nat} {a0 : Nat} {a1 : Nat} {y0 : Int32} {M : Mm_} {r : Out_} : (r = (some (.int y0), M)) → EvC G (d) m_T_readDocument 20 [some (.ref (a0)), some (.ref (a1))] [.int (y0)] M r :=
  fin_seg (f := fun n => some (some (.int y0), M)) 1 (fun n => rfl) (fin_ret)
theorem ev_T_begin_0 {G : Nat × (Nat → Int32)} {d : Nat} {a0 : Nat} {a1 : Nat} {M : Mm_} {r : Out_} : ((am_okP M a0 7 7 1) = true ∧ ((am_okP (am_setR M a0 7 a1) a0 7 8 0) = true ∧ ((am_okP (am_setI (am_setR M a0 7 a1) a0 8 (zI 0)) a0 7 9 0) = true ∧ ((am_okP (am_setI (am_setI (am_setR M a0 7 a1) a0 8 (zI 0)) a0 9 (zI (-1))) a0 7 6 0) = true ∧ ((am_okP (am_setI (am_setI (am_setI (am_setR M a0 7 a1) a0 8 (zI 0)) a0 9 (zI (-1))) a0 6 (zI 0)) a0 7 10 0) = true ∧ ((am_okP (am_setI (am_setI (am_setI (am_setI (am_setR M a0 7 a1) a0 8 (zI 0)) a0 9 (zI (-1))) a0 6 (zI 0)) a0 10 (zI (-1))) a0 7 11 0) = true ∧ (r = (none, am_setI (am_setI (am_setI (am_setI (am_setI (am_setR M a0 7 a1) a0 8 (zI 0)) a0 9 (zI (-1))) a0 6 (zI 0)) a0 10 (zI (-1))) a0 11 (zI 0))))))))) → EvC G (d) m_T_begin 0 [some (.ref (a0)), some (.ref (a1))] [] M r :=
  fin_seg (f := fun n => cond (am_okP M a0 7 7 1) (cond (am_okP (am_setR M a0 7 a1) a0 7 8 0) (cond (am_okP (am_setI (am_setR M a0 7 a1) a0 8 (zI 0)) a0 7 9 0) (cond (am_okP (am_setI (am_setI (am_setR M a0 7 a1) a0 8 (zI 0)) a0 9 (zI (-1))) a0 7 6 0) (cond (am_okP (am_setI (am_setI (am_setI (am_setR M a0 7 a1) a0 8 (zI 0)) a0 9 (zI (-1))) a0 6 (zI 0)) a0 7 10 0) (cond (am_okP (am_setI (am_setI (am_setI (am_setI (am_setR M a0 7 a1) a0 8 (zI 0)) a0 9 (zI (-1))) a0 6 (zI 0)) a0 10 (zI (-1))) a0 7 11 0) (some (none, am_setI (am_setI (am_setI (am_setI (am_setI (am_setR M a0 7 a1) a0 8 (zI 0)) a0 9 (zI (-1))) a0 6 (zI 0)) a0 10 (zI (-1))) a0 11 (zI 0))) none) none) none) none) none) none) 19 (fun n => rfl) (fin_ck (fin_ck (fin_ck (fin_ck (fin_ck (fin_ck (fin_ret)))))))
theorem ev_T_addNode_0 {G : Nat × (Nat → Int32)} {d : Nat} {a0 : Nat} {x1 : Int32} {x2 : Int32} {x3 : Int32} {M : Mm_} {r : Out_} : ((am_okF M a0 7 6) = true ∧ (if (M.2.1 a0 6) < (zI 80) then ((am_okF M a0 7 0) = true ∧ ((am_okF M a0 7 6) = true ∧ ((am_okA M ((a0) + 1) 0 (M.2.1 a0 6)) = true ∧ ((am_okF (am_setI M ((a0) + 1) (M.2.1 a0 6).toNatClampNeg x1) a0 7 1) = true ∧ ((am_okF (am_setI M ((a0) + 1) (M.2.1 a0 6).toNatClampNeg x1) a0 7 6) = true ∧ ((am_okA (am_setI M ((a0) + 1) (M.2.1 a0 6).toNatClampNeg x1) ((a0) + 2) 0 ((am_setI M ((a0) + 1) (M.2.1 a0 6).toNatClampNeg x1).2.1 a0 6)) = true ∧ ((am_okF (am_setI (am_setI M ((a0) + 1) (M.2.1 a0 6).toNatClampNeg x1) ((a0) + 2) ((am_setI M ((a0) + 1) (M.2.1 a0 6).toNatClampNeg x1).2.1 a0 6).toNatClampNeg x2) a0 7 2) = true ∧ ((am_okF (am_setI (am_setI M ((a0) + 1) (M.2.1 a0 6).toNatClampNeg x1) ((a0) + 2) ((am_setI M ((a0) + 1) (M.2.1 a0 6).toNatClampNeg x1).2.1 a0 6).toNatClampNeg x2) a0 7 6) = true ∧ ((am_okA (am_setI (am_setI M ((a0) + 1) (M.2.1 a0 6).toNatClampNeg x1) ((a0) + 2) ((am_setI M ((a0) + 1) (M.2.1 a0 6).toNatClampNeg x1).2.1 a0 6).toNatClampNeg x2) ((a0) + 3) 0 ((am_setI (am_setI M ((a0) + 1) (M.2.1 a0 6).toNatClampNeg x1) ((a0) + 2) ((am_setI M ((a0) + 1) (M.2.1 a0 6).toNatClampNeg x1).2.1 a0 6).toNatClampNeg x2).2.1 a0 6)) = true ∧ (EvC G (d) m_T_addNode 41 [some (.ref (a0)), some (.int (x1)), some (.int (x2)), some (.int (x3))] [] (am_setI (am_setI (am_setI M ((a0) + 1) (M.2.1 a0 6).toNatClampNeg x1) ((a0) + 2) ((am_setI M ((a0) + 1) (M.2.1 a0 6).toNatClampNeg x1).2.1 a0 6).toNatClampNeg x2) ((a0) + 3) ((am_setI (am_setI M ((a0) + 1) (M.2.1 a0 6).toNatClampNeg x1) ((a0) + 2) ((am_setI M ((a0) + 1) (M.2.1 a0 6).toNatClampNeg x1).2.1 a0 6).toNatClampNeg x2).2.1 a0 6).toNatClampNeg x3) r)))))))))) else (r = (some (.int (zI (-1))), M)))) → EvC G (d) m_T_addNode 0 [some (.ref (a0)), some (.int (x1)), some (.int (x2)), some (.int (x3))] [] M r :=
  fin_seg (f := fun n => cond (am_okF M a0 7 6) (if (M.2.1 a0 6) < (zI 80) then (cond (am_okF M a0 7 0) (cond (am_okF M a0 7 6) (cond (am_okA M ((a0) + 1) 0 (M.2.1 a0 6)) (cond (am_okF (am_setI M ((a0) + 1) (M.2.1 a0 6).toNatClampNeg x1) a0 7 1) (cond (am_okF (am_setI M ((a0) + 1) (M.2.1 a0 6).toNatClampNeg x1) a0 7 6) (cond (am_okA (am_setI M ((a0) + 1) (M.2.1 a0 6).toNatClampNeg x1) ((a0) + 2) 0 ((am_setI M ((a0) + 1) (M.2.1 a0 6).toNatClampNeg x1).2.1 a0 6)) (cond (am_okF (am_setI (am_setI M ((a0) + 1) (M.2.1 a0 6).toNatClampNeg x1) ((a0) + 2) ((am_setI M ((a0) + 1) (M.2.1 a0 6).toNatClampNeg x1).2.1 a0 6).toNatClampNeg x2) a0 7 2) (cond (am_okF (am_setI (am_setI M ((a0) + 1) (M.2.1 a0 6).toNatClampNeg x1) ((a0) + 2) ((am_setI M ((a0) + 1) (M.2.1 a0 6).toNatClampNeg x1).2.1 a0 6).toNatClampNeg x2) a0 7 6) (cond (am_okA (am_setI (am_setI M ((a0) + 1) (M.2.1 a0 6).toNatClampNeg x1) ((a0) + 2) ((am_setI M ((a0) + 1) (M.2.1 a0 6).toNatClampNeg x1).2.1 a0 6).toNatClampNeg x2) ((a0) + 3) 0 ((am_setI (am_setI M ((a0) + 1) (M.2.1 a0 6).toNatClampNeg x1) ((a0) + 2) ((am_setI M ((a0) + 1) (M.2.1 a0 6).toNatClampNeg x1).2.1 a0 6).toNatClampNeg x2).2.1 a0 6)) (am_run G (n + 0) (d) m_T_addNode 41 [some (.ref (a0)), some (.int (x1)), some (.int (x2)), some (.int (x3))] [] (am_setI (am_setI (am_setI M ((a0) + 1) (M.2.1 a0 6).toNatClampNeg x1) ((a0) + 2) ((am_setI M ((a0) + 1) (M.2.1 a0 6).toNatClampNeg x1).2.1 a0 6).toNatClampNeg x2) ((a0) + 3) ((am_setI (am_setI M ((a0) + 1) (M.2.1 a0 6).toNatClampNeg x1) ((a0) + 2) ((am_setI M ((a0) + 1) (M.2.1 a0 6).toNatClampNeg x1).2.1 a0 6).toNatClampNeg x2).2.1 a0 6).toNatClampNeg x3)) none) none) none) none) none) none) none) none) none) else (some (some (.int (zI (-1))), M))) none) 22 (fun n => rfl) (fin_ck (fin_if (fin_ck (fin_ck (fin_ck (fin_ck (fin_ck (fin_ck (fin_ck (fin_ck (fin_ck (fin_run 0)))))))))) (fin_ret)))
theorem ev_T_addNode_41 {G : Nat × (Nat → Int32)} {d : Nat} {a0 : Nat} {x1 : Int32} {x2 : Int32} {x3 : Int32} {M : Mm_} {r : Out_} : ((am_okF M a0 7 3) = true ∧ ((am_okF M a0 7 6) = true ∧ ((am_okF M a0 7 8) = true ∧ ((am_okA M ((a0) + 4) 0 (M.2.1 a0 6)) = true ∧ ((am_okF (am_setI M ((a0) + 4) (M.2.1 a0 6).toNatClampNeg (M.2.1 a0 8)) a0 7 5) = true ∧ ((am_okF (am_setI M ((a0) + 4) (M.2.1 a0 6).toNatClampNeg (M.2.1 a0 8)) a0 7 6) = true ∧ ((am_okF (am_setI M ((a0) + 4) (M.2.1 a0 6).toNatClampNeg (M.2.1 a0 8)) a0 7 10) = true ∧ ((am_okA (am_setI M ((a0) + 4) (M.2.1 a0 6).toNatClampNeg (M.2.1 a0 8)) ((a0) + 6) 0 ((am_setI M ((a0) + 4) (M.2.1 a0 6).toNatClampNeg (M.2.1 a0 8)).2.1 a0 6)) = true ∧ ((am_okF (am_setI (am_setI M ((a0) + 4) (M.2.1 a0 6).toNatClampNeg (M.2.1 a0 8)) ((a0) + 6) ((am_setI M ((a0) + 4) (M.2.1 a0 6).toNatClampNeg (M.2.1 a0 8)).2.1 a0 6).toNatClampNeg ((am_setI M ((a0) + 4) (M.2.1 a0 6).toNatClampNeg (M.2.1 a0 8)).2.1 a0 10)) a0 7 6) = true ∧ ((am_okP (am_setI (am_setI M ((a0) + 4) (M.2.1 a0 6).toNatClampNeg (M.2.1 a0 8)) ((a0) + 6) ((am_setI M ((a0) + 4) (M.2.1 a0 6).toNatClampNeg (M.2.1 a0 8)).2.1 a0 6).toNatClampNeg ((am_setI M ((a0) + 4) (M.2.1 a0 6).toNatClampNeg (M.2.1 a0 8)).2.1 a0 10)) a0 7 6 0) = true ∧ (EvC G (d) m_T_addNode 77 [some (.ref (a0)), some (.int (x1)), some (.int (x2)), some (.int (x3))] [] (am_setI (am_setI (am_setI M ((a0) + 4) (M.2.1 a0 6).toNatClampNeg (M.2.1 a0 8)) ((a0) + 6) ((am_setI M ((a0) + 4) (M.2.1 a0 6).toNatClampNeg (M.2.1 a0 8)).2.1 a0 6).toNatClampNeg ((am_setI M ((a0) + 4) (M.2.1 a0 6).toNatClampNeg (M.2.1 a0 8)).2.1 a0 10)) a0 6 (((am_setI (am_setI M ((a0) + 4) (M.2.1 a0 6).toNatClampNeg (M.2.1 a0 8)) ((a0) + 6) ((am_setI M ((a0) + 4) (M.2.1 a0 6).toNatClampNeg (M.2.1 a0 8)).2.1 a0 6).toNatClampNeg ((am_setI M ((a0) + 4) (M.2.1 a0 6).toNatClampNeg (M.2.1 a0 8)).2.1 a0 10)).2.1 a0 6) + (zI 1))) r))))))))))) → EvC G (d) m_T_addNode 41 [some (.ref (a0)), some (.int (x1)), some (.int (x2)), some (.int (x3))] [] M r :=
  fin_seg (f := fun n => cond (am_okF M a0 7 3) (cond (am_okF M a0 7 6) (cond (am_okF M a0 7 8) (cond (am_okA M ((a0) + 4) 0 (M.2.1 a0 6)) (cond (am_okF (am_setI M ((a0) + 4) (M.2.1 a0 6).toNatClampNeg (M.2.1 a0 8)) a0 7 5) (cond (am_okF (am_setI M ((a0) + 4) (M.2.1 a0 6).toNatClampNeg (M.2.1 a0 8)) a0 7 6) (cond (am_okF (am_setI M ((a0) + 4) (M.2.1 a0 6).toNatClampNeg (M.2.1 a0 8)) a0 7 10) (cond (am_okA (am_setI M ((a0) + 4) (M.2.1 a0 6).toNatClampNeg (M.2.1 a0 8)) ((a0) + 6) 0 ((am_setI M ((a0) + 4) (M.2.1 a0 6).toNatClampNeg (M.2.1 a0 8)).2.1 a0 6)) (cond (am_okF (am_setI (am_setI M ((a0) + 4) (M.2.1 a0 6).toNatClampNeg (M.2.1 a0 8)) ((a0) + 6) ((am_setI M ((a0) + 4) (M.2.1 a0 6).toNatClampNeg (M.2.1 a0 8)).2.1 a0 6).toNatClampNeg ((am_setI M ((a0) + 4) (M.2.1 a0 6).toNatClampNeg (M.2.1 a0 8)).2.1 a0 10)) a0 7 6) (cond (am_okP (am_setI (am_setI M ((a0) + 4) (M.2.1 a0 6).toNatClampNeg (M.2.1 a0 8)) ((a0) + 6) ((am_setI M ((a0) + 4) (M.2.1 a0 6).toNatClampNeg (M.2.1 a0 8)).2.1 a0 6).toNatClampNeg ((am_setI M ((a0) + 4) (M.2.1 a0 6).toNatClampNeg (M.2.1 a0 8)).2.1 a0 10)) a0 7 6 0) (am_run G (n + 0) (d) m_T_addNode 77 [some (.ref (a0)), some (.int (x1)), some (.int (x2)), some (.int (x3))] [] (am_setI (am_setI (am_setI M ((a0) + 4) (M.2.1 a0 6).toNatClampNeg (M.2.1 a0 8)) ((a0) + 6) ((am_setI M ((a0) + 4) (M.2.1 a0 6).toNatClampNeg (M.2.1 a0 8)).2.1 a0 6).toNatClampNeg ((am_setI M ((a0) + 4) (M.2.1 a0 6).toNatClampNeg (M.2.1 a0 8)).2.1 a0 10)) a0 6 (((am_setI (am_setI M ((a0) + 4) (M.2.1 a0 6).toNatClampNeg (M.2.1 a0 8)) ((a0) + 6) ((am_setI M ((a0) + 4) (M.2.1 a0 6).toNatClampNeg (M.2.1 a0 8)).2.1 a0 6).toNatClampNeg ((am_setI M ((a0) + 4) (M.2.1 a0 6).toNatClampNeg (M.2.1 a0 8)).2.1 a0 10)).2.1 a0 6) + (zI 1)))) none) none) none) none) none) none) none) none) none) none) 20 (fun n => rfl) (fin_ck (fin_ck (fin_ck (fin_ck (fin_ck (fin_ck (fin_ck (fin_ck (fin_ck (fin_ck (fin_run 0)))))))))))
theorem ev_T_addNode_77 {G : Nat × (Nat → Int32)} {d : Nat} {a0 : Nat} {x1 : Int32} {x2 : Int32} {x3 : Int32} {M : Mm_} {r : Out_} : ((am_okF M a0 7 6) = true ∧ (r = (some (.int ((M.2.1 a0 6) - (zI 1))), M))) → EvC G (d) m_T_addNode 77 [some (.ref (a0)), some (.int (x1)), some (.int (x2)), some (.int (x3))] [] M r :=
  fin_seg (f := fun n => cond (am_okF M a0 7 6) (some (some (.int ((M.2.1 a0 6) - (zI 1))), M)) none) 5 (fun n => rfl) (fin_ck (fin_ret))
theorem ev_T_readContent_0 {G : Nat × (Nat → Int32)} {d : Nat} {a0 : Nat} {x1 : Int32} {M : Mm_} {r : Out_} : (if x1 = (zI (-1)) then ((am_okF M a0 7 8) = true ∧ ((am_okO M a0 7) = true ∧ (∃ x' M', Ev G d 24 [.ref (a0), .int (M.2.1 a0 8)] M (some (.int x'), M') ∧ EvC G (d + 1) m_T_readContent 13 [some (.ref (a0)), some (.int (x1)), none] (.int x' :: []) M' r))) else ((am_okF M a0 7 0) = true ∧ ((am_okA M ((a0) + 1) 0 x1) = true ∧ (if (M.2.1 ((a0) + 1) x1.toNatClampNeg) = zI 1 then ((am_okO M a0 7) = true ∧ (∃ x' M', Ev G d 25 [.ref (a0), .int (zI 2), .int (zI 0), .int (zI 255)] M (some (.int x'), M') ∧ EvC G (d + 1) m_T_readContent 69 [some (.ref (a0)), some (.int (x1)), some (.int (zI 1))] (.int x' :: []) M' r)) else (if (M.2.1 ((a0) + 1) x1.toNatClampNeg) = zI 2 then ((am_okO M a0 7) = true ∧ (∃ x' M', Ev G d 25 [.ref (a0), .int (zI 1), .int (zI 0), .int (zI 8)] M (some (.int x'), M') ∧ EvC G (d + 1) m_T_readContent 81 [some (.ref (a0)), some (.int (x1)), some (.int (zI 1))] (.int x' :: []) M' r)) else (if (M.2.1 ((a0) + 1) x1.toNatClampNeg) = zI 3 then ((am_okO M a0 7) = true ∧ (∃ x' M', Ev G d 25 [.ref (a0), .int (zI 1), .int (zI 0), .int (zI 255)] M (some (.int x'), M') ∧ EvC G (d + 1) m_T_readContent 140 [some (.ref (a0)), some (.int (x1)), some (.int (zI 1))] (.int x' :: []) M' r)) else (if (M.2.1 ((a0) + 1) x1.toNatClampNeg) = zI 4 then ((am_okO M a0 7) = true ∧ (∃ x' M', Ev G d 25 [.ref (a0), .int (zI 1), .int (zI 0), .int (zI 255)] M (some (.int x'), M') ∧ EvC G (d + 1) m_T_readContent 140 [some (.ref (a0)), some (.int (x1)), some (.int (zI 1))] (.int x' :: []) M' r)) else (if (M.2.1 ((a0) + 1) x1.toNatClampNeg) = zI 5 then ((am_okO M a0 7) = true ∧ (∃ x' M', Ev G d 25 [.ref (a0), .int (zI 1), .int (zI 0), .int (zI 1)] M (some (.int x'), M') ∧ EvC G (d + 1) m_T_readContent 124 [some (.ref (a0)), some (.int (x1)), some (.int (zI 1))] (.int x' :: []) M' r)) else (if (M.2.1 ((a0) + 1) x1.toNatClampNeg) = zI 6 then (EvC G (d + 1) m_T_readContent 156 [some (.ref (a0)), some (.int (x1)), some (.int (zI 1))] [] M r) else ((am_okO M a0 7) = true ∧ (∃ x' M', Ev G d 25 [.ref (a0), .int (zI 1), .int (zI 0), .int (zI 255)] M (some (.int x'), M') ∧ EvC G (d + 1) m_T_readContent 140 [some (.ref (a0)), some (.int (x1)), some (.int (zI 1))] (.int x' :: []) M' r))))))))))) → EvC G (d + 1) m_T_readContent 0 [some (.ref (a0)), some (.int (x1)), none] [] M r :=
  fin_seg (f := fun n => if x1 = (zI (-1)) then (cond (am_okF M a0 7 8) (cond (am_okO M a0 7) ((am_cl G (n + 8) d 24 [.ref (a0), .int (M.2.1 a0 8)] M).bind (fun o => am_run G (n + 8) (d + 1) m_T_readContent 13 [some (.ref (a0)), some (.int (x1)), none] (o.1.toList ++ []) o.2)) none) none) else (cond (am_okF M a0 7 0) (cond (am_okA M ((a0) + 1) 0 x1) (if (M.2.1 ((a0) + 1) x1.toNatClampNeg) = zI 1 then (cond (am_okO M a0 7) ((am_cl G (n + 0) d 25 [.ref (a0), .int (zI 2), .int (zI 0), .int (zI 255)] M).bind (fun o => am_run G (n + 0) (d + 1) m_T_readContent 69 [some (.ref (a0)), some (.int (x1)), some (.int (zI 1))] (o.1.toList ++ []) o.2)) none) else (if (M.2.1 ((a0) + 1) x1.toNatClampNeg) = zI 2 then (cond (am_okO M a0 7) ((am_cl G (n + 0) d 25 [.ref (a0), .int (zI 1), .int (zI 0), .int (zI 8)] M).bind (fun o => am_run G (n + 0) (d + 1) m_T_readContent 81 [some (.ref (a0)), some (.int (x1)), some (.int (zI 1))] (o.1.toList ++ []) o.2)) none) else (if (M.2.1 ((a0) + 1) x1.toNatClampNeg) = zI 3 then (cond (am_okO M a0 7) ((am_cl G (n + 0) d 25 [.ref (a0), .int (zI 1), .int (zI 0), .int (zI 255)] M).bind (fun o => am_run G (n + 0) (d + 1) m_T_readContent 140 [some (.ref (a0)), some (.int (x1)), some (.int (zI 1))] (o.1.toList ++ []) o.2)) none) else (if (M.2.1 ((a0) + 1) x1.toNatClampNeg) = zI 4 then (cond (am_okO M a0 7) ((am_cl G (n + 0) d 25 [.ref (a0), .int (zI 1), .int (zI 0), .int (zI 255)] M).bind (fun o => am_run G (n + 0) (d + 1) m_T_readContent 140 [some (.ref (a0)), some (.int (x1)), some (.int (zI 1))] (o.1.toList ++ []) o.2)) none) else (if (M.2.1 ((a0) + 1) x1.toNatClampNeg) = zI 5 then (cond (am_okO M a0 7) ((am_cl G (n + 0) d 25 [.ref (a0), .int (zI 1), .int (zI 0), .int (zI 1)] M).bind (fun o => am_run G (n + 0) (d + 1) m_T_readContent 124 [some (.ref (a0)), some (.int (x1)), some (.int (zI 1))] (o.1.toList ++ []) o.2)) none) else (if (M.2.1 ((a0) + 1) x1.toNatClampNeg) = zI 6 then (am_run G (n + 4) (d + 1) m_T_readContent 156 [some (.ref (a0)), some (.int (x1)), some (.int (zI 1))] [] M) else (cond (am_okO M a0 7) ((am_cl G (n + 0) d 25 [.ref (a0), .int (zI 1), .int (zI 0), .int (zI 255)] M).bind (fun o => am_run G (n + 0) (d + 1) m_T_readContent 140 [some (.ref (a0)), some (.int (x1)), some (.int (zI 1))] (o.1.toList ++ []) o.2)) none))))))) none) none)) 15 (fun n => rfl) (fin_if (fin_ck (fin_ck (fin_callI 8 (fun _ _ => fin_run 8)))) (fin_ck (fin_ck (fin_if (fin_ck (fin_callI 0 (fun _ _ => fin_run 0))) (fin_if (fin_ck (fin_callI 0 (fun _ _ => fin_run 0))) (fin_if (fin_ck (fin_callI 0 (fun _ _ => fin_run 0))) (fin_if (fin_ck (fin_callI 0 (fun _ _ => fin_run 0))) (fin_if (fin_ck (fin_callI 0 (fun _ _ => fin_run 0))) (fin_if (fin_run 4) (fin_ck (fin_callI 0 (fun _ _ => fin_run 0))))))))))))
theorem ev_T_readContent_13 {G : Nat × (Nat → Int32)} {d : Nat} {a0 : Nat} {x1 : Int32} {u2 : Option Value} {y0 : Int32} {M : Mm_} {r : Out_} : ((am_bit y0) = true ∧ (r = (some (.int y0), M))) → EvC G (d) m_T_readContent 13 [some (.ref (a0)), some (.int (x1)), u2] [.int (y0)] M r :=
  fin_seg (f := fun n => cond (am_bit y0) (some (some (.int y0), M)) none) 1 (fun n => rfl) (fin_ck (fin_ret))
theorem ev_T_readContent_69 {G : Nat × (Nat → Int32)} {d : Nat} {a0 : Nat} {x1 : Int32} {x2 : Int32} {y0 : Int32} {M : Mm_} {r : Out_} : (EvC G (d) m_T_readContent 156 [some (.ref (a0)), some (.int (x1)), some (.int (y0))] [] M r) → EvC G (d) m_T_readContent 69 [some (.ref (a0)), some (.int (x1)), some (.int (x2))] [.int (y0)] M r :=
  fin_seg (f := fun n => cond true (am_run G (n + 0) (d) m_T_readContent 156 [some (.ref (a0)), some (.int (x1)), some (.int (y0))] [] M) none) 2 (fun n => rfl) (fin_tt (fin_run 0))
theorem ev_T_readContent_81 {G : Nat × (Nat → Int32)} {d : Nat} {a0 : Nat} {x1 : Int32} {x2 : Int32} {y0 : Int32} {M : Mm_} {r : Out_} : (if y0 = 0 then (EvC G (d + 1) m_T_readContent 112 [some (.ref (a0)), some (.int (x1)), some (.int (x2))] [] M r) else ((am_okF M a0 7 7) = true ∧ (((M.2.2 a0 7).isSome) = true ∧ ((am_okF M a0 7 8) = true ∧ ((am_okO M ((M.2.2 a0 7).getD 0) 4) = true ∧ (∃ x' M', Ev G d 14 [.ref ((M.2.2 a0 7).getD 0), .int ((M.2.1 a0 8) - (zI 1))] M (some (.int x'), M') ∧ EvC G (d + 1) m_T_readContent 98 [some (.ref (a0)), some (.int (x1)), some (.int (x2))] (.int x' :: [.ref (a0)]) M' r)))))) → EvC G (d + 1) m_T_readContent 81 [some (.ref (a0)), some (.int (x1)), some (.int (x2))] [.int (y0)] M r :=
  fin_seg (f := fun n => if y0 = 0 then (am_run G (n + 8) (d + 1) m_T_readContent 112 [some (.ref (a0)), some (.int (x1)), some (.int (x2))] [] M) else (cond (am_okF M a0 7 7) (cond ((M.2.2 a0 7).isSome) (cond (am_okF M a0 7 8) (cond (am_okO M ((M.2.2 a0 7).getD 0) 4) ((am_cl G (n + 0) d 14 [.ref ((M.2.2 a0 7).getD 0), .int ((M.2.1 a0 8) - (zI 1))] M).bind (fun o => am_run G (n + 0) (d + 1) m_T_readContent 98 [some (.ref (a0)), some (.int (x1)), some (.int (x2))] (o.1.toList ++ [.ref (a0)]) o.2)) none) none) none) none)) 9 (fun n => rfl) (fin_if (fin_run 8) (fin_ck (fin_ck (fin_ck (fin_ck (fin_callI 0 (fun _ _ => fin_run 0)))))))
theorem ev_T_readContent_98 {G : Nat × (Nat → Int32)} {d : Nat} {a0 : Nat} {x1 : Int32} {x2 : Int32} {b0 : Nat} {y1 : Int32} {M : Mm_} {r : Out_} : ((am_okO M b0 7) = true ∧ (∃ x' M', Ev G d 25 [.ref (b0), .int (y1), .int (zI 32), .int (zI 126)] M (some (.int x'), M') ∧ EvC G (d + 1) m_T_readContent 105 [some (.ref (a0)), some (.int (x1)), some (.int (x2))] (.int x' :: []) M' r)) → EvC G (d + 1) m_T_readContent 98 [some (.ref (a0)), some (.int (x1)), some (.int (x2))] [.int (y1), .ref (b0)] M r :=
  fin_seg (f := fun n => cond (am_okO M b0 7) ((am_cl G (n + 0) d 25 [.ref (b0), .int (y1), .int (zI 32), .int (zI 126)] M).bind (fun o => am_run G (n + 0) (d + 1) m_T_readContent 105 [some (.ref (a0)), some (.int (x1)), some (.int (x2))] (o.1.toList ++ []) o.2)) none) 3 (fun n => rfl) (fin_ck (fin_callI 0 (fun _ _ => fin_run 0)))
theorem ev_T_readContent_105 {G : Nat × (Nat → Int32)} {d : Nat} {a0 : Nat} {x1 : Int32} {x2 : Int32} {y0 : Int32} {M : Mm_} {r : Out_} : (if y0 = 0 then (EvC G (d) m_T_readContent 112 [some (.ref (a0)), some (.int (x1)), some (.int (x2))] [] M r) else (EvC G (d) m_T_readContent 113 [some (.ref (a0)), some (.int (x1)), some (.int (x2))] [.int (zI 1)] M r)) → EvC G (d) m_T_readContent 105 [some (.ref (a0)), some (.int (x1)), some (.int (x2))] [.int (y0)] M r :=
  fin_seg (f := fun n => if y0 = 0 then (am_run G (n + 2) (d) m_T_readContent 112 [some (.ref (a0)), some (.int (x1)), some (.int (x2))] [] M) else (am_run G (n + 0) (d) m_T_readContent 113 [some (.ref (a0)), some (.int (x1)), some (.int (x2))] [.int (zI 1)] M)) 3 (fun n => rfl) (fin_if (fin_run 2) (fin_run 0))
theorem ev_T_readContent_112 {G : Nat × (Nat → Int32)} {d : Nat} {a0 : Nat} {x1 : Int32} {x2 : Int32} {M : Mm_} {r : Out_} : (EvC G (d) m_T_readContent 113 [some (.ref (a0)), some (.int (x1)), some (.int (x2))] [.int (zI 0)] M r) → EvC G (d) m_T_readContent 112 [some (.ref (a0)), some (.int (x1)), some (.int (x2))] [] M r :=
  fin_seg (f := fun n => cond true (am_run G (n + 0) (d) m_T_readContent 113 [some (.ref (a0)), some (.int (x1)), some (.int (x2))] [.int (zI 0)] M) none) 1 (fun n => rfl) (fin_tt (fin_run 0))
theorem ev_T_readContent_113 {G : Nat × (Nat → Int32)} {d : Nat} {a0 : Nat} {x1 : Int32} {x2 : Int32} {y0 : Int32} {M : Mm_} {r : Out_} : (EvC G (d) m_T_readContent 156 [some (.ref (a0)), some (.int (x1)), some (.int (y0))] [] M r) → EvC G (d) m_T_readContent 113 [some (.ref (a0)), some (.int (x1)), some (.int (x2))] [.int (y0)] M r :=
  fin_seg (f := fun n => cond true (am_run G (n + 0) (d) m_T_readContent 156 [some (.ref (a0)), some (.int (x1)), some (.int (y0))] [] M) none) 2 (fun n => rfl) (fin_tt (fin_run 0))
theorem ev_T_readContent_124 {G : Nat × (Nat → Int32)} {d : Nat} {a0 : Nat} {x1 : Int32} {x2 : Int32} {y0 : Int32} {M : Mm_} {r : Out_} : (EvC G (d) m_T_readContent 156 [some (.ref (a0)), some (.int (x1)), some (.int (y0))] [] M r) → EvC G (d) m_T_readContent 124 [some (.ref (a0)), some (.int (x1)), some (.int (x2))] [.int (y0)] M r :=
  fin_seg (f := fun n => cond true (am_run G (n + 0) (d) m_T_readContent 156 [some (.ref (a0)), some (.int (x1)), some (.int (y0))] [] M) none) 2 (fun n => rfl) (fin_tt (fin_run 0))
theorem ev_T_readContent_140 {G : Nat × (Nat → Int32)} {d : Nat} {a0 : Nat} {x1 : Int32} {x2 : Int32} {y0 : Int32} {M : Mm_} {r : Out_} : ((am_okP M a0 7 10 0) = true ∧ ((am_okF (am_setI M a0 10 x1) a0 7 11) = true ∧ ((am_okP (am_setI M a0 10 x1) a0 7 11 0) = true ∧ (EvC G (d) m_T_readContent 156 [some (.ref (a0)), some (.int (x1)), some (.int (y0))] [] (am_setI (am_setI M a0 10 x1) a0 11 (((am_setI M a0 10 x1).2.1 a0 11) + (zI 1))) r)))) → EvC G (d) m_T_readContent 140 [some (.ref (a0)), some (.int (x1)), some (.int (x2))] [.int (y0)] M r :=
  fin_seg (f := fun n => cond (am_okP M a0 7 10 0) (cond (am_okF (am_setI M a0 10 x1) a0 7 11) (cond (am_okP (am_setI M a0 10 x1) a0 7 11 0) (am_run G (n + 0) (d) m_T_readContent 156 [some (.ref (a0)), some (.int (x1)), some (.int (y0))] [] (am_setI (am_setI M a0 10 x1) a0 11 (((am_setI M a0 10 x1).2.1 a0 11) + (zI 1)))) none) none) none) 10 (fun n => rfl) (fin_ck (fin_ck (fin_ck (fin_run 0))))
theorem ev_T_readContent_156 {G : Nat × (Nat → Int32)} {d : Nat} {a0 : Nat} {x1 : Int32} {x2 : Int32} {M : Mm_} {r : Out_} : ((am_okF M a0 7 4) = true ∧ ((am_okF M a0 7 8) = true ∧ ((am_okA M ((a0) + 5) 0 x1) = true ∧ ((am_bit x2) = true ∧ (r = (some (.int x2), am_setI M ((a0) + 5) x1.toNatClampNeg (M.2.1 a0 8))))))) → EvC G (d) m_T_readContent 156 [some (.ref (a0)), some (.int (x1)), some (.int (x2))] [] M r :=
  fin_seg (f := fun n => cond (am_okF M a0 7 4) (cond (am_okF M a0 7 8) (cond (am_okA M ((a0) + 5) 0 x1) (cond (am_bit x2) (some (some (.int x2), am_setI M ((a0) + 5) x1.toNatClampNeg (M.2.1 a0 8))) none) none) none) none) 8 (fun n => rfl) (fin_ck (fin_ck (fin_ck (fin_ck (fin_ret)))))
theorem ev_T_faultAt_0 {G : Nat × (Nat → Int32)} {d : Nat} {a0 : Nat} {x1 : Int32} {M : Mm_} {r : Out_} : ((am_okP M a0 7 9 0) = true ∧ (r = (some (.int (zI 0)), am_setI M a0 9 x1))) → EvC G (d) m_T_faultAt 0 [some (.ref (a0)), some (.int (x1))] [] M r :=
  fin_seg (f := fun n => cond (am_okP M a0 7 9 0) (some (some (.int (zI 0)), am_setI M a0 9 x1)) none) 5 (fun n => rfl) (fin_ck (fin_ret))
theorem ev_T_readBytes_0 {G : Nat × (Nat → Int32)} {d : Nat} {a0 : Nat} {x1 : Int32} {x2 : Int32} {x3 : Int32} {M : Mm_} {r : Out_} : (EvC G (d) m_T_readBytes 3 [some (.ref (a0)), some (.int (x1)), some (.int (x2)), some (.int (x3)), some (.int (zI 0)), none] [] M r) → EvC G (d) m_T_readBytes 0 [some (.ref (a0)), some (.int (x1)), some (.int (x2)), some (.int (x3)), none, none] [] M r :=
  fin_seg (f := fun n => cond true (am_run G (n + 0) (d) m_T_readBytes 3 [some (.ref (a0)), some (.int (x1)), some (.int (x2)), some (.int (x3)), some (.int (zI 0)), none] [] M) none) 2 (fun n => rfl) (fin_tt (fin_run 0))
theorem ev_T_readBytes_3 {G : Nat × (Nat → Int32)} {d : Nat} {a0 : Nat} {x1 : Int32} {x2 : Int32} {x3 : Int32} {x4 : Int32} {u5 : Option Value} {M : Mm_} {r : Out_} : (if x4 < x1 then ((am_okF M a0 7 8) = true ∧ ((am_okF M a0 7 7) = true ∧ (((M.2.2 a0 7).isSome) = true ∧ ((am_okF M ((M.2.2 a0 7).getD 0) 4 1) = true ∧ (if (M.2.1 a0 8) < (M.2.1 ((M.2.2 a0 7).getD 0) 1) then ((am_okF M a0 7 7) = true ∧ (((M.2.2 a0 7).isSome) = true ∧ ((am_okF M ((M.2.2 a0 7).getD 0) 4 0) = true ∧ ((am_okF M a0 7 8) = true ∧ ((am_okA M (((M.2.2 a0 7).getD 0) + 1) 0 (M.2.1 a0 8)) = true ∧ (EvC G (d) m_T_readBytes 39 [some (.ref (a0)), some (.int (x1)), some (.int (x2)), some (.int (x3)), some (.int (x4)), u5] [.int (M.2.1 (((M.2.2 a0 7).getD 0) + 1) (M.2.1 a0 8).toNatClampNeg)] M r)))))) else (EvC G (d) m_T_readBytes 39 [some (.ref (a0)), some (.int (x1)), some (.int (x2)), some (.int (x3)), some (.int (x4)), u5] [.int (zI (-1))] M r)))))) else (r = (some (.int (zI 1)), M))) → EvC G (d) m_T_readBytes 3 [some (.ref (a0)), some (.int (x1)), some (.int (x2)), some (.int (x3)), some (.int (x4)), u5] [] M r :=
  fin_seg (f := fun n => if x4 < x1 then (cond (am_okF M a0 7 8) (cond (am_okF M a0 7 7) (cond ((M.2.2 a0 7).isSome) (cond (am_okF M ((M.2.2 a0 7).getD 0) 4 1) (if (M.2.1 a0 8) < (M.2.1 ((M.2.2 a0 7).getD 0) 1) then (cond (am_okF M a0 7 7) (cond ((M.2.2 a0 7).isSome) (cond (am_okF M ((M.2.2 a0 7).getD 0) 4 0) (cond (am_okF M a0 7 8) (cond (am_okA M (((M.2.2 a0 7).getD 0) + 1) 0 (M.2.1 a0 8)) (am_run G (n + 0) (d) m_T_readBytes 39 [some (.ref (a0)), some (.int (x1)), some (.int (x2)), some (.int (x3)), some (.int (x4)), u5] [.int (M.2.1 (((M.2.2 a0 7).getD 0) + 1) (M.2.1 a0 8).toNatClampNeg)] M) none) none) none) none) none) else (am_run G (n + 6) (d) m_T_readBytes 39 [some (.ref (a0)), some (.int (x1)), some (.int (x2)), some (.int (x3)), some (.int (x4)), u5] [.int (zI (-1))] M)) none) none) none) none) else (some (some (.int (zI 1)), M))) 16 (fun n => rfl) (fin_if (fin_ck (fin_ck (fin_ck (fin_ck (fin_if (fin_ck (fin_ck (fin_ck (fin_ck (fin_ck (fin_run 0)))))) (fin_run 6)))))) (fin_ret))
theorem ev_T_readBytes_39 {G : Nat × (Nat → Int32)} {d : Nat} {a0 : Nat} {x1 : Int32} {x2 : Int32} {x3 : Int32} {x4 : Int32} {u5 : Option Value} {y0 : Int32} {M : Mm_} {r : Out_} : (if y0 < x2 then (EvC G (d) m_T_readBytes 53 [some (.ref (a0)), some (.int (x1)), some (.int (x2)), some (.int (x3)), some (.int (x4)), some (.int (y0))] [] M r) else (if x3 < y0 then (EvC G (d) m_T_readBytes 53 [some (.ref (a0)), some (.int (x1)), some (.int (x2)), some (.int (x3)), some (.int (x4)), some (.int (y0))] [] M r) else ((am_okF M a0 7 8) = true ∧ ((am_okP M a0 7 8 0) = true ∧ (EvC G (d) m_T_readBytes 3 [some (.ref (a0)), some (.int (x1)), some (.int (x2)), some (.int (x3)), some (.int ((x4) + zI 1)), some (.int (y0))] [] (am_setI M a0 8 ((M.2.1 a0 8) + (zI 1))) r))))) → EvC G (d) m_T_readBytes 39 [some (.ref (a0)), some (.int (x1)), some (.int (x2)), some (.int (x3)), some (.int (x4)), u5] [.int (y0)] M r :=
  fin_seg (f := fun n => if y0 < x2 then (am_run G (n + 11) (d) m_T_readBytes 53 [some (.ref (a0)), some (.int (x1)), some (.int (x2)), some (.int (x3)), some (.int (x4)), some (.int (y0))] [] M) else (if x3 < y0 then (am_run G (n + 8) (d) m_T_readBytes 53 [some (.ref (a0)), some (.int (x1)), some (.int (x2)), some (.int (x3)), some (.int (x4)), some (.int (y0))] [] M) else (cond (am_okF M a0 7 8) (cond (am_okP M a0 7 8 0) (am_run G (n + 0) (d) m_T_readBytes 3 [some (.ref (a0)), some (.int (x1)), some (.int (x2)), some (.int (x3)), some (.int ((x4) + zI 1)), some (.int (y0))] [] (am_setI M a0 8 ((M.2.1 a0 8) + (zI 1)))) none) none))) 15 (fun n => rfl) (fin_if (fin_run 11) (fin_if (fin_run 8) (fin_ck (fin_ck (fin_run 0)))))
theorem ev_T_readBytes_53 {G : Nat × (Nat → Int32)} {d : Nat} {a0 : Nat} {x1 : Int32} {x2 : Int32} {x3 : Int32} {x4 : Int32} {x5 : Int32} {M : Mm_} {r : Out_} : ((am_okF M a0 7 8) = true ∧ ((am_okP M a0 7 9 0) = true ∧ (r = (some (.int (zI 0)), am_setI M a0 9 (M.2.1 a0 8))))) → EvC G (d) m_T_readBytes 53 [some (.ref (a0)), some (.int (x1)), some (.int (x2)), some (.int (x3)), some (.int (x4)), some (.int (x5))] [] M r :=
  fin_seg (f := fun n => cond (am_okF M a0 7 8) (cond (am_okP M a0 7 9 0) (some (some (.int (zI 0)), am_setI M a0 9 (M.2.1 a0 8))) none) none) 6 (fun n => rfl) (fin_ck (fin_ck (fin_ret)))
theorem ev_T_readOn_0 {G : Nat × (Nat → Int32)} {d : Nat} {a0 : Nat} {x1 : Int32} {M : Mm_} {r : Out_} : (EvC G (d) m_T_readOn 4 [some (.ref (a0)), some (.int (x1)), some (.int (x1)), some (.int (zI 0))] [] M r) → EvC G (d) m_T_readOn 0 [some (.ref (a0)), some (.int (x1)), none, none] [] M r :=
  fin_seg (f := fun n => cond true (am_run G (n + 0) (d) m_T_readOn 4 [some (.ref (a0)), some (.int (x1)), some (.int (x1)), some (.int (zI 0))] [] M) none) 4 (fun n => rfl) (fin_tt (fin_run 0))
theorem ev_T_readOn_4 {G : Nat × (Nat → Int32)} {d : Nat} {a0 : Nat} {x1 : Int32} {x2 : Int32} {x3 : Int32} {M : Mm_} {r : Out_} : ((am_okF M a0 7 7) = true ∧ (((M.2.2 a0 7).isSome) = true ∧ ((am_okF M ((M.2.2 a0 7).getD 0) 4 1) = true ∧ (if x3 < (M.2.1 ((M.2.2 a0 7).getD 0) 1) then (if x2 = 0 then (EvC G (d + 1) m_T_readOn 59 [some (.ref (a0)), some (.int (x1)), some (.int (x2)), some (.int (x3))] [] M r) else ((am_okF M a0 7 10) = true ∧ (if (M.2.1 a0 10) = (zI (-1)) then (EvC G (d + 1) m_T_readOn 59 [some (.ref (a0)), some (.int (x1)), some (.int (x2)), some (.int (x3))] [] M r) else ((am_okF M a0 7 7) = true ∧ (((M.2.2 a0 7).isSome) = true ∧ ((am_okF M a0 7 8) = true ∧ ((am_okO M ((M.2.2 a0 7).getD 0) 4) = true ∧ (∃ x' M', Ev G d 14 [.ref ((M.2.2 a0 7).getD 0), .int (M.2.1 a0 8)] M (some (.int x'), M') ∧ EvC G (d + 1) m_T_readOn 38 [some (.ref (a0)), some (.int (x1)), some (.int (x2)), some (.int (x3))] (.int x' :: []) M' r)))))))) else (EvC G (d + 1) m_T_readOn 59 [some (.ref (a0)), some (.int (x1)), some (.int (x2)), some (.int (x3))] [] M r))))) → EvC G (d + 1) m_T_readOn 4 [some (.ref (a0)), some (.int (x1)), some (.int (x2)), some (.int (x3))] [] M r :=
  fin_seg (f := fun n => cond (am_okF M a0 7 7) (cond ((M.2.2 a0 7).isSome) (cond (am_okF M ((M.2.2 a0 7).getD 0) 4 1) (if x3 < (M.2.1 ((M.2.2 a0 7).getD 0) 1) then (if x2 = 0 then (am_run G (n + 9) (d + 1) m_T_readOn 59 [some (.ref (a0)), some (.int (x1)), some (.int (x2)), some (.int (x3))] [] M) else (cond (am_okF M a0 7 10) (if (M.2.1 a0 10) = (zI (-1)) then (am_run G (n + 5) (d + 1) m_T_readOn 59 [some (.ref (a0)), some (.int (x1)), some (.int (x2)), some (.int (x3))] [] M) else (cond (am_okF M a0 7 7) (cond ((M.2.2 a0 7).isSome) (cond (am_okF M a0 7 8) (cond (am_okO M ((M.2.2 a0 7).getD 0) 4) ((am_cl G (n + 0) d 14 [.ref ((M.2.2 a0 7).getD 0), .int (M.2.1 a0 8)] M).bind (fun o => am_run G (n + 0) (d + 1) m_T_readOn 38 [some (.ref (a0)), some (.int (x1)), some (.int (x2)), some (.int (x3))] (o.1.toList ++ []) o.2)) none) none) none) none)) none)) else (am_run G (n + 11) (d + 1) m_T_readOn 59 [some (.ref (a0)), some (.int (x1)), some (.int (x2)), some (.int (x3))] [] M)) none) none) none) 16 (fun n => rfl) (fin_ck (fin_ck (fin_ck (fin_if (fin_if (fin_run 9) (fin_ck (fin_if (fin_run 5) (fin_ck (fin_ck (fin_ck (fin_ck (fin_callI 0 (fun _ _ => fin_run 0))))))))) (fin_run 11)))))
theorem ev_T_readOn_38 {G : Nat × (Nat → Int32)} {d : Nat} {a0 : Nat} {x1 : Int32} {x2 : Int32} {x3 : Int32} {y0 : Int32} {M : Mm_} {r : Out_} : (if y0 = 0 then ((am_okO M a0 7) = true ∧ (∃ x' M', Ev G d 27 [.ref (a0)] M (some (.int x'), M') ∧ EvC G (d + 1) m_T_readOn 45 [some (.ref (a0)), some (.int (x1)), some (.int (x2)), some (.int (x3))] (.int x' :: []) M' r)) else ((am_okO M a0 7) = true ∧ (∃ x' M', Ev G d 28 [.ref (a0)] M (some (.int x'), M') ∧ EvC G (d + 1) m_T_readOn 52 [some (.ref (a0)), some (.int (x1)), some (.int (x2)), some (.int (x3))] (.int x' :: []) M' r))) → EvC G (d + 1) m_T_readOn 38 [some (.ref (a0)), some (.int (x1)), some (.int (x2)), some (.int (x3))] [.int (y0)] M r :=
  fin_seg (f := fun n => if y0 = 0 then (cond (am_okO M a0 7) ((am_cl G (n + 0) d 27 [.ref (a0)] M).bind (fun o => am_run G (n + 0) (d + 1) m_T_readOn 45 [some (.ref (a0)), some (.int (x1)), some (.int (x2)), some (.int (x3))] (o.1.toList ++ []) o.2)) none) else (cond (am_okO M a0 7) ((am_cl G (n + 0) d 28 [.ref (a0)] M).bind (fun o => am_run G (n + 0) (d + 1) m_T_readOn 52 [some (.ref (a0)), some (.int (x1)), some (.int (x2)), some (.int (x3))] (o.1.toList ++ []) o.2)) none)) 3 (fun n => rfl) (fin_if (fin_ck (fin_callI 0 (fun _ _ => fin_run 0))) (fin_ck (fin_callI 0 (fun _ _ => fin_run 0))))
theorem ev_T_readOn_45 {G : Nat × (Nat → Int32)} {d : Nat} {a0 : Nat} {x1 : Int32} {x2 : Int32} {x3 : Int32} {y0 : Int32} {M : Mm_} {r : Out_} : (EvC G (d) m_T_readOn 52 [some (.ref (a0)), some (.int (x1)), some (.int (x2)), some (.int (x3))] [.int (y0)] M r) → EvC G (d) m_T_readOn 45 [some (.ref (a0)), some (.int (x1)), some (.int (x2)), some (.int (x3))] [.int (y0)] M r :=
  fin_seg (f := fun n => cond true (am_run G (n + 0) (d) m_T_readOn 52 [some (.ref (a0)), some (.int (x1)), some (.int (x2)), some (.int (x3))] [.int (y0)] M) none) 1 (fun n => rfl) (fin_tt (fin_run 0))
theorem ev_T_readOn_52 {G : Nat × (Nat → Int32)} {d : Nat} {a0 : Nat} {x1 : Int32} {x2 : Int32} {x3 : Int32} {y0 : Int32} {M : Mm_} {r : Out_} : (EvC G (d) m_T_readOn 4 [some (.ref (a0)), some (.int (x1)), some (.int (y0)), some (.int ((x3) + zI 1))] [] M r) → EvC G (d) m_T_readOn 52 [some (.ref (a0)), some (.int (x1)), some (.int (x2)), some (.int (x3))] [.int (y0)] M r :=
  fin_seg (f := fun n => cond true (am_run G (n + 0) (d) m_T_readOn 4 [some (.ref (a0)), some (.int (x1)), some (.int (y0)), some (.int ((x3) + zI 1))] [] M) none) 3 (fun n => rfl) (fin_tt (fin_run 0))
theorem ev_T_readOn_59 {G : Nat × (Nat → Int32)} {d : Nat} {a0 : Nat} {x1 : Int32} {x2 : Int32} {x3 : Int32} {M : Mm_} {r : Out_} : (if x2 = 0 then ((am_okF M a0 7 9) = true ∧ (r = (some (.int (M.2.1 a0 9)), M))) else ((am_okF M a0 7 8) = true ∧ ((am_okF M a0 7 7) = true ∧ (((M.2.2 a0 7).isSome) = true ∧ ((am_okF M ((M.2.2 a0 7).getD 0) 4 1) = true ∧ (if (M.2.1 a0 8) < (M.2.1 ((M.2.2 a0 7).getD 0) 1) then ((am_okF M a0 7 8) = true ∧ ((am_okP M a0 7 9 0) = true ∧ ((am_okF (am_setI M a0 9 (M.2.1 a0 8)) a0 7 9) = true ∧ (r = (some (.int ((am_setI M a0 9 (M.2.1 a0 8)).2.1 a0 9)), am_setI M a0 9 (M.2.1 a0 8)))))) else ((am_okF M a0 7 9) = true ∧ (r = (some (.int (M.2.1 a0 9)), M))))))))) → EvC G (d) m_T_readOn 59 [some (.ref (a0)), some (.int (x1)), some (.int (x2)), some (.int (x3))] [] M r :=
  fin_seg (f := fun n => if x2 = 0 then (cond (am_okF M a0 7 9) (some (some (.int (M.2.1 a0 9)), M)) none) else (cond (am_okF M a0 7 8) (cond (am_okF M a0 7 7) (cond ((M.2.2 a0 7).isSome) (cond (am_okF M ((M.2.2 a0 7).getD 0) 4 1) (if (M.2.1 a0 8) < (M.2.1 ((M.2.2 a0 7).getD 0) 1) then (cond (am_okF M a0 7 8) (cond (am_okP M a0 7 9 0) (cond (am_okF (am_setI M a0 9 (M.2.1 a0 8)) a0 7 9) (some (some (.int ((am_setI M a0 9 (M.2.1 a0 8)).2.1 a0 9)), am_setI M a0 9 (M.2.1 a0 8))) none) none) none) else (cond (am_okF M a0 7 9) (some (some (.int (M.2.1 a0 9)), M)) none)) none) none) none) none)) 15 (fun n => rfl) (fin_if (fin_ck (fin_ret)) (fin_ck (fin_ck (fin_ck (fin_ck (fin_if (fin_ck (fin_ck (fin_ck (fin_ret)))) (fin_ck (fin_ret))))))))
theorem ev_T_closeNest_0 {G : Nat × (Nat → Int32)} {d : Nat} {a0 : Nat} {M : Mm_} {r : Out_} : ((am_okF M a0 7 3) = true ∧ ((am_okF M a0 7 10) = true ∧ ((am_okA M ((a0) + 4) 0 (M.2.1 a0 10)) = true ∧ ((am_okF M a0 7 8) = true ∧ ((am_okP M a0 7 8 0) = true ∧ ((am_okF (am_setI M a0 8 ((M.2.1 a0 8) + (zI 1))) a0 7 7) = true ∧ ((((am_setI M a0 8 ((M.2.1 a0 8) + (zI 1))).2.2 a0 7).isSome) = true ∧ ((am_okO (am_setI M a0 8 ((M.2.1 a0 8) + (zI 1))) (((am_setI M a0 8 ((M.2.1 a0 8) + (zI 1))).2.2 a0 7).getD 0) 4) = true ∧ (∃ x' M', Ev G d 14 [.ref (((am_setI M a0 8 ((M.2.1 a0 8) + (zI 1))).2.2 a0 7).getD 0), .int (M.2.1 ((a0) + 4) (M.2.1 a0 10).toNatClampNeg)] (am_setI M a0 8 ((M.2.1 a0 8) + (zI 1))) (some (.int x'), M') ∧ EvC G (d + 1) m_T_closeNest 28 [some (.ref (a0)), some (.int (M.2.1 ((a0) + 4) (M.2.1 a0 10).toNatClampNeg))] (.int x' :: []) M' r))))))))) → EvC G (d + 1) m_T_closeNest 0 [some (.ref (a0)), none] [] M r :=
  fin_seg (f := fun n => cond (am_okF M a0 7 3) (cond (am_okF M a0 7 10) (cond (am_okA M ((a0) + 4) 0 (M.2.1 a0 10)) (cond (am_okF M a0 7 8) (cond (am_okP M a0 7 8 0) (cond (am_okF (am_setI M a0 8 ((M.2.1 a0 8) + (zI 1))) a0 7 7) (cond (((am_setI M a0 8 ((M.2.1 a0 8) + (zI 1))).2.2 a0 7).isSome) (cond (am_okO (am_setI M a0 8 ((M.2.1 a0 8) + (zI 1))) (((am_setI M a0 8 ((M.2.1 a0 8) + (zI 1))).2.2 a0 7).getD 0) 4) ((am_cl G (n + 0) d 14 [.ref (((am_setI M a0 8 ((M.2.1 a0 8) + (zI 1))).2.2 a0 7).getD 0), .int (M.2.1 ((a0) + 4) (M.2.1 a0 10).toNatClampNeg)] (am_setI M a0 8 ((M.2.1 a0 8) + (zI 1)))).bind (fun o => am_run G (n + 0) (d + 1) m_T_closeNest 28 [some (.ref (a0)), some (.int (M.2.1 ((a0) + 4) (M.2.1 a0 10).toNatClampNeg))] (o.1.toList ++ []) o.2)) none) none) none) none) none) none) none) none) 16 (fun n => rfl) (fin_ck (fin_ck (fin_ck (fin_ck (fin_ck (fin_ck (fin_ck (fin_ck (fin_callI 0 (fun _ _ => fin_run 0))))))))))
theorem ev_T_closeNest_28 {G : Nat × (Nat → Int32)} {d : Nat} {a0 : Nat} {x1 : Int32} {y0 : Int32} {M : Mm_} {r : Out_} : ((am_okF M a0 7 8) = true ∧ (if y0 = ((M.2.1 a0 8) - (x1)) then ((am_okF M a0 7 4) = true ∧ ((am_okF M a0 7 10) = true ∧ ((am_okF M a0 7 8) = true ∧ ((am_okA M ((a0) + 5) 0 (M.2.1 a0 10)) = true ∧ ((am_okF (am_setI M ((a0) + 5) (M.2.1 a0 10).toNatClampNeg (M.2.1 a0 8)) a0 7 5) = true ∧ ((am_okF (am_setI M ((a0) + 5) (M.2.1 a0 10).toNatClampNeg (M.2.1 a0 8)) a0 7 10) = true ∧ ((am_okA (am_setI M ((a0) + 5) (M.2.1 a0 10).toNatClampNeg (M.2.1 a0 8)) ((a0) + 6) 0 ((am_setI M ((a0) + 5) (M.2.1 a0 10).toNatClampNeg (M.2.1 a0 8)).2.1 a0 10)) = true ∧ ((am_okP (am_setI M ((a0) + 5) (M.2.1 a0 10).toNatClampNeg (M.2.1 a0 8)) a0 7 10 0) = true ∧ ((am_okF (am_setI (am_setI M ((a0) + 5) (M.2.1 a0 10).toNatClampNeg (M.2.1 a0 8)) a0 10 ((am_setI M ((a0) + 5) (M.2.1 a0 10).toNatClampNeg (M.2.1 a0 8)).2.1 ((a0) + 6) ((am_setI M ((a0) + 5) (M.2.1 a0 10).toNatClampNeg (M.2.1 a0 8)).2.1 a0 10).toNatClampNeg)) a0 7 11) = true ∧ ((am_okP (am_setI (am_setI M ((a0) + 5) (M.2.1 a0 10).toNatClampNeg (M.2.1 a0 8)) a0 10 ((am_setI M ((a0) + 5) (M.2.1 a0 10).toNatClampNeg (M.2.1 a0 8)).2.1 ((a0) + 6) ((am_setI M ((a0) + 5) (M.2.1 a0 10).toNatClampNeg (M.2.1 a0 8)).2.1 a0 10).toNatClampNeg)) a0 7 11 0) = true ∧ (EvC G (d + 1) m_T_closeNest 79 [some (.ref (a0)), some (.int (x1))] [] (am_setI (am_setI (am_setI M ((a0) + 5) (M.2.1 a0 10).toNatClampNeg (M.2.1 a0 8)) a0 10 ((am_setI M ((a0) + 5) (M.2.1 a0 10).toNatClampNeg (M.2.1 a0 8)).2.1 ((a0) + 6) ((am_setI M ((a0) + 5) (M.2.1 a0 10).toNatClampNeg (M.2.1 a0 8)).2.1 a0 10).toNatClampNeg)) a0 11 (((am_setI (am_setI M ((a0) + 5) (M.2.1 a0 10).toNatClampNeg (M.2.1 a0 8)) a0 10 ((am_setI M ((a0) + 5) (M.2.1 a0 10).toNatClampNeg (M.2.1 a0 8)).2.1 ((a0) + 6) ((am_setI M ((a0) + 5) (M.2.1 a0 10).toNatClampNeg (M.2.1 a0 8)).2.1 a0 10).toNatClampNeg)).2.1 a0 11) - (zI 1))) r))))))))))) else ((am_okO M a0 7) = true ∧ (∃ x' M', Ev G d 24 [.ref (a0), .int (x1)] M (some (.int x'), M') ∧ EvC G (d + 1) m_T_closeNest 42 [some (.ref (a0)), some (.int (x1))] (.int x' :: []) M' r)))) → EvC G (d + 1) m_T_closeNest 28 [some (.ref (a0)), some (.int (x1))] [.int (y0)] M r :=
  fin_seg (f := fun n => cond (am_okF M a0 7 8) (if y0 = ((M.2.1 a0 8) - (x1)) then (cond (am_okF M a0 7 4) (cond (am_okF M a0 7 10) (cond (am_okF M a0 7 8) (cond (am_okA M ((a0) + 5) 0 (M.2.1 a0 10)) (cond (am_okF (am_setI M ((a0) + 5) (M.2.1 a0 10).toNatClampNeg (M.2.1 a0 8)) a0 7 5) (cond (am_okF (am_setI M ((a0) + 5) (M.2.1 a0 10).toNatClampNeg (M.2.1 a0 8)) a0 7 10) (cond (am_okA (am_setI M ((a0) + 5) (M.2.1 a0 10).toNatClampNeg (M.2.1 a0 8)) ((a0) + 6) 0 ((am_setI M ((a0) + 5) (M.2.1 a0 10).toNatClampNeg (M.2.1 a0 8)).2.1 a0 10)) (cond (am_okP (am_setI M ((a0) + 5) (M.2.1 a0 10).toNatClampNeg (M.2.1 a0 8)) a0 7 10 0) (cond (am_okF (am_setI (am_setI M ((a0) + 5) (M.2.1 a0 10).toNatClampNeg (M.2.1 a0 8)) a0 10 ((am_setI M ((a0) + 5) (M.2.1 a0 10).toNatClampNeg (M.2.1 a0 8)).2.1 ((a0) + 6) ((am_setI M ((a0) + 5) (M.2.1 a0 10).toNatClampNeg (M.2.1 a0 8)).2.1 a0 10).toNatClampNeg)) a0 7 11) (cond (am_okP (am_setI (am_setI M ((a0) + 5) (M.2.1 a0 10).toNatClampNeg (M.2.1 a0 8)) a0 10 ((am_setI M ((a0) + 5) (M.2.1 a0 10).toNatClampNeg (M.2.1 a0 8)).2.1 ((a0) + 6) ((am_setI M ((a0) + 5) (M.2.1 a0 10).toNatClampNeg (M.2.1 a0 8)).2.1 a0 10).toNatClampNeg)) a0 7 11 0) (am_run G (n + 0) (d + 1) m_T_closeNest 79 [some (.ref (a0)), some (.int (x1))] [] (am_setI (am_setI (am_setI M ((a0) + 5) (M.2.1 a0 10).toNatClampNeg (M.2.1 a0 8)) a0 10 ((am_setI M ((a0) + 5) (M.2.1 a0 10).toNatClampNeg (M.2.1 a0 8)).2.1 ((a0) + 6) ((am_setI M ((a0) + 5) (M.2.1 a0 10).toNatClampNeg (M.2.1 a0 8)).2.1 a0 10).toNatClampNeg)) a0 11 (((am_setI (am_setI M ((a0) + 5) (M.2.1 a0 10).toNatClampNeg (M.2.1 a0 8)) a0 10 ((am_setI M ((a0) + 5) (M.2.1 a0 10).toNatClampNeg (M.2.1 a0 8)).2.1 ((a0) + 6) ((am_setI M ((a0) + 5) (M.2.1 a0 10).toNatClampNeg (M.2.1 a0 8)).2.1 a0 10).toNatClampNeg)).2.1 a0 11) - (zI 1)))) none) none) none) none) none) none) none) none) none) none) else (cond (am_okO M a0 7) ((am_cl G (n + 17) d 24 [.ref (a0), .int (x1)] M).bind (fun o => am_run G (n + 17) (d + 1) m_T_closeNest 42 [some (.ref (a0)), some (.int (x1))] (o.1.toList ++ []) o.2)) none)) none) 25 (fun n => rfl) (fin_ck (fin_if (fin_ck (fin_ck (fin_ck (fin_ck (fin_ck (fin_ck (fin_ck (fin_ck (fin_ck (fin_ck (fin_run 0))))))))))) (fin_ck (fin_callI 17 (fun _ _ => fin_run 17)))))
theorem ev_T_closeNest_42 {G : Nat × (Nat → Int32)} {d : Nat} {a0 : Nat} {x1 : Int32} {y0 : Int32} {M : Mm_} {r : Out_} : ((am_bit y0) = true ∧ (r = (some (.int y0), M))) → EvC G (d) m_T_closeNest 42 [some (.ref (a0)), some (.int (x1))] [.int (y0)] M r :=
  fin_seg (f := fun n => cond (am_bit y0) (some (some (.int y0), M)) none) 1 (fun n => rfl) (fin_ck (fin_ret))
theorem ev_T_closeNest_79 {G : Nat × (Nat → Int32)} {d : Nat} {a0 : Nat} {x1 : Int32} {M : Mm_} {r : Out_} : (r = (some (.int (zI 1)), M)) → EvC G (d) m_T_closeNest 79 [some (.ref (a0)), some (.int (x1))] [] M r :=
  fin_seg (f := fun n => some (some (.int (zI 1)), M)) 2 (fun n => rfl) (fin_ret)
theorem ev_T_readPart_0 {G : Nat × (Nat → Int32)} {d : Nat} {a0 : Nat} {M : Mm_} {r : Out_} : ((am_okF M a0 7 8) = true ∧ ((am_okF M a0 7 7) = true ∧ (((M.2.2 a0 7).isSome) = true ∧ ((am_okF M a0 7 8) = true ∧ ((am_okO M ((M.2.2 a0 7).getD 0) 4) = true ∧ (∃ x' M', Ev G d 14 [.ref ((M.2.2 a0 7).getD 0), .int (M.2.1 a0 8)] M (some (.int x'), M') ∧ EvC G (d + 1) m_T_readPart 16 [some (.ref (a0)), some (.int (M.2.1 a0 8)), none, none, none] (.int x' :: []) M' r)))))) → EvC G (d + 1) m_T_readPart 0 [some (.ref (a0)), none, none, none, none] [] M r :=
  fin_seg (f := fun n => cond (am_okF M a0 7 8) (cond (am_okF M a0 7 7) (cond ((M.2.2 a0 7).isSome) (cond (am_okF M a0 7 8) (cond (am_okO M ((M.2.2 a0 7).getD 0) 4) ((am_cl G (n + 0) d 14 [.ref ((M.2.2 a0 7).getD 0), .int (M.2.1 a0 8)] M).bind (fun o => am_run G (n + 0) (d + 1) m_T_readPart 16 [some (.ref (a0)), some (.int (M.2.1 a0 8)), none, none, none] (o.1.toList ++ []) o.2)) none) none) none) none) none) 8 (fun n => rfl) (fin_ck (fin_ck (fin_ck (fin_ck (fin_ck (fin_callI 0 (fun _ _ => fin_run 0)))))))
theorem ev_T_readPart_16 {G : Nat × (Nat → Int32)} {d : Nat} {a0 : Nat} {x1 : Int32} {u2 : Option Value} {u3 : Option Value} {u4 : Option Value} {y0 : Int32} {M : Mm_} {r : Out_} : (if y0 = (zI 3) then (EvC G (d) m_T_readPart 27 [some (.ref (a0)), some (.int (x1)), some (.int (y0)), u3, u4] [] M r) else (if y0 = (zI 4) then (EvC G (d) m_T_readPart 27 [some (.ref (a0)), some (.int (x1)), some (.int (y0)), u3, u4] [] M r) else (EvC G (d) m_T_readPart 39 [some (.ref (a0)), some (.int (x1)), some (.int (y0)), u3, u4] [] M r))) → EvC G (d) m_T_readPart 16 [some (.ref (a0)), some (.int (x1)), u2, u3, u4] [.int (y0)] M r :=
  fin_seg (f := fun n => if y0 = (zI 3) then (am_run G (n + 3) (d) m_T_readPart 27 [some (.ref (a0)), some (.int (x1)), some (.int (y0)), u3, u4] [] M) else (if y0 = (zI 4) then (am_run G (n + 0) (d) m_T_readPart 27 [some (.ref (a0)), some (.int (x1)), some (.int (y0)), u3, u4] [] M) else (am_run G (n + 0) (d) m_T_readPart 39 [some (.ref (a0)), some (.int (x1)), some (.int (y0)), u3, u4] [] M))) 7 (fun n => rfl) (fin_if (fin_run 3) (fin_if (fin_run 0) (fin_run 0)))
theorem ev_T_readPart_27 {G : Nat × (Nat → Int32)} {d : Nat} {a0 : Nat} {x1 : Int32} {x2 : Int32} {u3 : Option Value} {u4 : Option Value} {M : Mm_} {r : Out_} : ((am_okF M a0 7 11) = true ∧ (if (M.2.1 a0 11) < (zI 4) then (EvC G (d) m_T_readPart 39 [some (.ref (a0)), some (.int (x1)), some (.int (x2)), u3, u4] [] M r) else (EvC G (d) m_T_readPart 40 [some (.ref (a0)), some (.int (x1)), some (.int (x2)), u3, u4] [.int (zI 1)] M r))) → EvC G (d) m_T_readPart 27 [some (.ref (a0)), some (.int (x1)), some (.int (x2)), u3, u4] [] M r :=
  fin_seg (f := fun n => cond (am_okF M a0 7 11) (if (M.2.1 a0 11) < (zI 4) then (am_run G (n + 2) (d) m_T_readPart 39 [some (.ref (a0)), some (.int (x1)), some (.int (x2)), u3, u4] [] M) else (am_run G (n + 0) (d) m_T_readPart 40 [some (.ref (a0)), some (.int (x1)), some (.int (x2)), u3, u4] [.int (zI 1)] M)) none) 6 (fun n => rfl) (fin_ck (fin_if (fin_run 2) (fin_run 0)))
end
