section
/-- a private method of a class that the tables say can be made, by its rows of tables_1 -/
def lw_okq (q : MethodName × Nat) : Prop := (q.1.cls ≠ "java/lang/invoke/MethodHandle" ∧ q.1.cls ≠ "java/lang/invoke/VarHandle") ∧ Cond.instantiable q.1.cls q.2 ∈ tables_1 ∧ Cond.privateMethod q.1 ∈ tables_1 ∧ Cond.instanceMethod q.1 ∈ tables_1
theorem lw_p0 : lw_okq (⟨"RulerFoot$Reader", "skipBlanks", "()V"⟩, 6) := ⟨⟨by decide +kernel, by decide +kernel⟩, List.mem_of_getElem? (i := 26) (by decide +kernel), List.mem_of_getElem? (i := 395) (by decide +kernel), List.mem_of_getElem? (i := 396) (by decide +kernel)⟩
theorem lw_p1 : lw_okq (⟨"RulerFoot$Reader", "readClause", "(LRulerFoot$Telling;)V"⟩, 6) := ⟨⟨by decide +kernel, by decide +kernel⟩, List.mem_of_getElem? (i := 26) (by decide +kernel), List.mem_of_getElem? (i := 399) (by decide +kernel), List.mem_of_getElem? (i := 400) (by decide +kernel)⟩
theorem lw_p2 : lw_okq (⟨"RulerFoot$Reader", "blame", "(II)V"⟩, 6) := ⟨⟨by decide +kernel, by decide +kernel⟩, List.mem_of_getElem? (i := 26) (by decide +kernel), List.mem_of_getElem? (i := 403) (by decide +kernel), List.mem_of_getElem? (i := 404) (by decide +kernel)⟩
theorem lw_p3 : lw_okq (⟨"RulerFoot$Reader", "readRod", "(LRulerFoot$Telling;)V"⟩, 6) := ⟨⟨by decide +kernel, by decide +kernel⟩, List.mem_of_getElem? (i := 26) (by decide +kernel), List.mem_of_getElem? (i := 407) (by decide +kernel), List.mem_of_getElem? (i := 408) (by decide +kernel)⟩
theorem lw_p4 : lw_okq (⟨"RulerFoot$Reader", "takeWord", "(Z)Z"⟩, 6) := ⟨⟨by decide +kernel, by decide +kernel⟩, List.mem_of_getElem? (i := 26) (by decide +kernel), List.mem_of_getElem? (i := 411) (by decide +kernel), List.mem_of_getElem? (i := 412) (by decide +kernel)⟩
theorem lw_p5 : lw_okq (⟨"RulerFoot$Reader", "takeNumber", "(II)I"⟩, 6) := ⟨⟨by decide +kernel, by decide +kernel⟩, List.mem_of_getElem? (i := 26) (by decide +kernel), List.mem_of_getElem? (i := 415) (by decide +kernel), List.mem_of_getElem? (i := 416) (by decide +kernel)⟩
theorem lw_p6 : lw_okq (⟨"RulerFoot$Reader", "takeEnd", "()V"⟩, 6) := ⟨⟨by decide +kernel, by decide +kernel⟩, List.mem_of_getElem? (i := 26) (by decide +kernel), List.mem_of_getElem? (i := 420) (by decide +kernel), List.mem_of_getElem? (i := 421) (by decide +kernel)⟩
theorem lw_p7 : lw_okq (⟨"RulerFoot$Reader", "takeSign", "(I)Z"⟩, 6) := ⟨⟨by decide +kernel, by decide +kernel⟩, List.mem_of_getElem? (i := 26) (by decide +kernel), List.mem_of_getElem? (i := 424) (by decide +kernel), List.mem_of_getElem? (i := 425) (by decide +kernel)⟩
theorem lw_p8 : lw_okq (⟨"RulerFoot$Reader", "readNick", "(LRulerFoot$Telling;)V"⟩, 6) := ⟨⟨by decide +kernel, by decide +kernel⟩, List.mem_of_getElem? (i := 26) (by decide +kernel), List.mem_of_getElem? (i := 428) (by decide +kernel), List.mem_of_getElem? (i := 429) (by decide +kernel)⟩
theorem lw_p9 : lw_okq (⟨"RulerFoot$Reader", "readOffice", "(LRulerFoot$Telling;)V"⟩, 6) := ⟨⟨by decide +kernel, by decide +kernel⟩, List.mem_of_getElem? (i := 26) (by decide +kernel), List.mem_of_getElem? (i := 436) (by decide +kernel), List.mem_of_getElem? (i := 437) (by decide +kernel)⟩
theorem lw_p10 : lw_okq (⟨"RulerFoot$Reader", "readPerson", "(LRulerFoot$Telling;)V"⟩, 6) := ⟨⟨by decide +kernel, by decide +kernel⟩, List.mem_of_getElem? (i := 26) (by decide +kernel), List.mem_of_getElem? (i := 440) (by decide +kernel), List.mem_of_getElem? (i := 441) (by decide +kernel)⟩
theorem lw_p11 : lw_okq (⟨"RulerFoot$Reader", "readSways", "(LRulerFoot$Telling;)V"⟩, 6) := ⟨⟨by decide +kernel, by decide +kernel⟩, List.mem_of_getElem? (i := 26) (by decide +kernel), List.mem_of_getElem? (i := 444) (by decide +kernel), List.mem_of_getElem? (i := 445) (by decide +kernel)⟩
theorem lw_p12 : lw_okq (⟨"RulerFoot", "noRealm", "()Z"⟩, 17) := ⟨⟨by decide +kernel, by decide +kernel⟩, List.mem_of_getElem? (i := 18) (by decide +kernel), List.mem_of_getElem? (i := 479) (by decide +kernel), List.mem_of_getElem? (i := 480) (by decide +kernel)⟩
theorem lw_p13 : lw_okq (⟨"RulerFoot", "isOffice", "(I)Z"⟩, 17) := ⟨⟨by decide +kernel, by decide +kernel⟩, List.mem_of_getElem? (i := 18) (by decide +kernel), List.mem_of_getElem? (i := 492) (by decide +kernel), List.mem_of_getElem? (i := 493) (by decide +kernel)⟩
theorem lw_p14 : lw_okq (⟨"RulerFoot", "isPerson", "(I)Z"⟩, 17) := ⟨⟨by decide +kernel, by decide +kernel⟩, List.mem_of_getElem? (i := 18) (by decide +kernel), List.mem_of_getElem? (i := 513) (by decide +kernel), List.mem_of_getElem? (i := 514) (by decide +kernel)⟩
theorem lw_p15 : lw_okq (⟨"RulerFoot", "refusalOfYears", "(I)I"⟩, 17) := ⟨⟨by decide +kernel, by decide +kernel⟩, List.mem_of_getElem? (i := 18) (by decide +kernel), List.mem_of_getElem? (i := 530) (by decide +kernel), List.mem_of_getElem? (i := 531) (by decide +kernel)⟩
def lw_privs_1 : List (MethodName × Nat) := [(⟨"RulerFoot$Reader", "skipBlanks", "()V"⟩, 6), (⟨"RulerFoot$Reader", "readClause", "(LRulerFoot$Telling;)V"⟩, 6), (⟨"RulerFoot$Reader", "blame", "(II)V"⟩, 6), (⟨"RulerFoot$Reader", "readRod", "(LRulerFoot$Telling;)V"⟩, 6), (⟨"RulerFoot$Reader", "takeWord", "(Z)Z"⟩, 6), (⟨"RulerFoot$Reader", "takeNumber", "(II)I"⟩, 6), (⟨"RulerFoot$Reader", "takeEnd", "()V"⟩, 6), (⟨"RulerFoot$Reader", "takeSign", "(I)Z"⟩, 6), (⟨"RulerFoot$Reader", "readNick", "(LRulerFoot$Telling;)V"⟩, 6), (⟨"RulerFoot$Reader", "readOffice", "(LRulerFoot$Telling;)V"⟩, 6), (⟨"RulerFoot$Reader", "readPerson", "(LRulerFoot$Telling;)V"⟩, 6), (⟨"RulerFoot$Reader", "readSways", "(LRulerFoot$Telling;)V"⟩, 6), (⟨"RulerFoot", "noRealm", "()Z"⟩, 17), (⟨"RulerFoot", "isOffice", "(I)Z"⟩, 17), (⟨"RulerFoot", "isPerson", "(I)Z"⟩, 17), (⟨"RulerFoot", "refusalOfYears", "(I)I"⟩, 17)]
theorem lw_r1 : ∀ q ∈ lw_privs_1, lw_okq q := List.forall_mem_cons.mpr ⟨lw_p0, List.forall_mem_cons.mpr ⟨lw_p1, List.forall_mem_cons.mpr ⟨lw_p2, List.forall_mem_cons.mpr ⟨lw_p3, List.forall_mem_cons.mpr ⟨lw_p4, List.forall_mem_cons.mpr ⟨lw_p5, List.forall_mem_cons.mpr ⟨lw_p6, List.forall_mem_cons.mpr ⟨lw_p7, List.forall_mem_cons.mpr ⟨lw_p8, List.forall_mem_cons.mpr ⟨lw_p9, List.forall_mem_cons.mpr ⟨lw_p10, List.forall_mem_cons.mpr ⟨lw_p11, List.forall_mem_cons.mpr ⟨lw_p12, List.forall_mem_cons.mpr ⟨lw_p13, List.forall_mem_cons.mpr ⟨lw_p14, List.forall_mem_cons.mpr ⟨lw_p15, fun _ h => absurd h List.not_mem_nil⟩⟩⟩⟩⟩⟩⟩⟩⟩⟩⟩⟩⟩⟩⟩⟩
theorem lw_p16 : lw_okq (⟨"RulerFoot", "noRodAtHand", "()Z"⟩, 17) := ⟨⟨by decide +kernel, by decide +kernel⟩, List.mem_of_getElem? (i := 18) (by decide +kernel), List.mem_of_getElem? (i := 573) (by decide +kernel), List.mem_of_getElem? (i := 574) (by decide +kernel)⟩
theorem lw_p17 : lw_okq (⟨"RulerFoot$Things", "loseEarliest", "()V"⟩, 5) := ⟨⟨by decide +kernel, by decide +kernel⟩, List.mem_of_getElem? (i := 151) (by decide +kernel), List.mem_of_getElem? (i := 588) (by decide +kernel), List.mem_of_getElem? (i := 589) (by decide +kernel)⟩
theorem lw_p18 : lw_okq (⟨"RulerFoot", "meetChance", "()V"⟩, 17) := ⟨⟨by decide +kernel, by decide +kernel⟩, List.mem_of_getElem? (i := 18) (by decide +kernel), List.mem_of_getElem? (i := 632) (by decide +kernel), List.mem_of_getElem? (i := 633) (by decide +kernel)⟩
theorem lw_p19 : lw_okq (⟨"RulerFoot", "draw", "(I)I"⟩, 17) := ⟨⟨by decide +kernel, by decide +kernel⟩, List.mem_of_getElem? (i := 18) (by decide +kernel), List.mem_of_getElem? (i := 636) (by decide +kernel), List.mem_of_getElem? (i := 637) (by decide +kernel)⟩
theorem lw_p20 : lw_okq (⟨"RulerFoot", "bendByDraw", "()V"⟩, 17) := ⟨⟨by decide +kernel, by decide +kernel⟩, List.mem_of_getElem? (i := 18) (by decide +kernel), List.mem_of_getElem? (i := 644) (by decide +kernel), List.mem_of_getElem? (i := 645) (by decide +kernel)⟩
theorem lw_p21 : lw_okq (⟨"RulerFoot", "produceByDraw", "()V"⟩, 17) := ⟨⟨by decide +kernel, by decide +kernel⟩, List.mem_of_getElem? (i := 18) (by decide +kernel), List.mem_of_getElem? (i := 648) (by decide +kernel), List.mem_of_getElem? (i := 649) (by decide +kernel)⟩
theorem lw_p22 : lw_okq (⟨"RulerFoot", "refusalOfTrial", "(II)I"⟩, 17) := ⟨⟨by decide +kernel, by decide +kernel⟩, List.mem_of_getElem? (i := 18) (by decide +kernel), List.mem_of_getElem? (i := 664) (by decide +kernel), List.mem_of_getElem? (i := 665) (by decide +kernel)⟩
theorem lw_p23 : lw_okq (⟨"RulerFoot", "beginTrial", "()V"⟩, 17) := ⟨⟨by decide +kernel, by decide +kernel⟩, List.mem_of_getElem? (i := 18) (by decide +kernel), List.mem_of_getElem? (i := 668) (by decide +kernel), List.mem_of_getElem? (i := 669) (by decide +kernel)⟩
theorem lw_p24 : lw_okq (⟨"RulerFoot$Laying", "reach", "(II)V"⟩, 5) := ⟨⟨by decide +kernel, by decide +kernel⟩, List.mem_of_getElem? (i := 235) (by decide +kernel), List.mem_of_getElem? (i := 696) (by decide +kernel), List.mem_of_getElem? (i := 697) (by decide +kernel)⟩
theorem lw_p25 : lw_okq (⟨"RulerFoot$Laying", "layFrom", "(I)V"⟩, 5) := ⟨⟨by decide +kernel, by decide +kernel⟩, List.mem_of_getElem? (i := 235) (by decide +kernel), List.mem_of_getElem? (i := 701) (by decide +kernel), List.mem_of_getElem? (i := 702) (by decide +kernel)⟩
theorem lw_p26 : lw_okq (⟨"RulerFoot$Posting", "firstBest", "(II)I"⟩, 3) := ⟨⟨by decide +kernel, by decide +kernel⟩, List.mem_of_getElem? (i := 259) (by decide +kernel), List.mem_of_getElem? (i := 723) (by decide +kernel), List.mem_of_getElem? (i := 724) (by decide +kernel)⟩
theorem lw_p27 : lw_okq (⟨"RulerFoot$Posting", "filledWith", "(III)I"⟩, 3) := ⟨⟨by decide +kernel, by decide +kernel⟩, List.mem_of_getElem? (i := 259) (by decide +kernel), List.mem_of_getElem? (i := 727) (by decide +kernel), List.mem_of_getElem? (i := 728) (by decide +kernel)⟩
theorem lw_p28 : lw_okq (⟨"RulerFoot$Sight", "greatestPart", "(I)I"⟩, 6) := ⟨⟨by decide +kernel, by decide +kernel⟩, List.mem_of_getElem? (i := 275) (by decide +kernel), List.mem_of_getElem? (i := 829) (by decide +kernel), List.mem_of_getElem? (i := 830) (by decide +kernel)⟩
theorem lw_p29 : lw_okq (⟨"RulerFootModel", "here", "()I"⟩, 43) := ⟨⟨by decide +kernel, by decide +kernel⟩, List.mem_of_getElem? (i := 867) (by decide +kernel), List.mem_of_getElem? (i := 1017) (by decide +kernel), List.mem_of_getElem? (i := 1018) (by decide +kernel)⟩
theorem lw_p30 : lw_okq (⟨"RulerFootModel", "takeClause", "()I"⟩, 43) := ⟨⟨by decide +kernel, by decide +kernel⟩, List.mem_of_getElem? (i := 867) (by decide +kernel), List.mem_of_getElem? (i := 1021) (by decide +kernel), List.mem_of_getElem? (i := 1022) (by decide +kernel)⟩
theorem lw_p31 : lw_okq (⟨"RulerFootModel", "fails", "(II)I"⟩, 43) := ⟨⟨by decide +kernel, by decide +kernel⟩, List.mem_of_getElem? (i := 867) (by decide +kernel), List.mem_of_getElem? (i := 1025) (by decide +kernel), List.mem_of_getElem? (i := 1026) (by decide +kernel)⟩
def lw_privs_2 : List (MethodName × Nat) := [(⟨"RulerFoot", "noRodAtHand", "()Z"⟩, 17), (⟨"RulerFoot$Things", "loseEarliest", "()V"⟩, 5), (⟨"RulerFoot", "meetChance", "()V"⟩, 17), (⟨"RulerFoot", "draw", "(I)I"⟩, 17), (⟨"RulerFoot", "bendByDraw", "()V"⟩, 17), (⟨"RulerFoot", "produceByDraw", "()V"⟩, 17), (⟨"RulerFoot", "refusalOfTrial", "(II)I"⟩, 17), (⟨"RulerFoot", "beginTrial", "()V"⟩, 17), (⟨"RulerFoot$Laying", "reach", "(II)V"⟩, 5), (⟨"RulerFoot$Laying", "layFrom", "(I)V"⟩, 5), (⟨"RulerFoot$Posting", "firstBest", "(II)I"⟩, 3), (⟨"RulerFoot$Posting", "filledWith", "(III)I"⟩, 3), (⟨"RulerFoot$Sight", "greatestPart", "(I)I"⟩, 6), (⟨"RulerFootModel", "here", "()I"⟩, 43), (⟨"RulerFootModel", "takeClause", "()I"⟩, 43), (⟨"RulerFootModel", "fails", "(II)I"⟩, 43)]
theorem lw_r2 : ∀ q ∈ lw_privs_2, lw_okq q := List.forall_mem_cons.mpr ⟨lw_p16, List.forall_mem_cons.mpr ⟨lw_p17, List.forall_mem_cons.mpr ⟨lw_p18, List.forall_mem_cons.mpr ⟨lw_p19, List.forall_mem_cons.mpr ⟨lw_p20, List.forall_mem_cons.mpr ⟨lw_p21, List.forall_mem_cons.mpr ⟨lw_p22, List.forall_mem_cons.mpr ⟨lw_p23, List.forall_mem_cons.mpr ⟨lw_p24, List.forall_mem_cons.mpr ⟨lw_p25, List.forall_mem_cons.mpr ⟨lw_p26, List.forall_mem_cons.mpr ⟨lw_p27, List.forall_mem_cons.mpr ⟨lw_p28, List.forall_mem_cons.mpr ⟨lw_p29, List.forall_mem_cons.mpr ⟨lw_p30, List.forall_mem_cons.mpr ⟨lw_p31, fun _ h => absurd h List.not_mem_nil⟩⟩⟩⟩⟩⟩⟩⟩⟩⟩⟩⟩⟩⟩⟩⟩
theorem lw_p32 : lw_okq (⟨"RulerFootModel", "isFull", "(I)Z"⟩, 43) := ⟨⟨by decide +kernel, by decide +kernel⟩, List.mem_of_getElem? (i := 867) (by decide +kernel), List.mem_of_getElem? (i := 1029) (by decide +kernel), List.mem_of_getElem? (i := 1030) (by decide +kernel)⟩
theorem lw_p33 : lw_okq (⟨"RulerFootModel", "takeBody", "(I)I"⟩, 43) := ⟨⟨by decide +kernel, by decide +kernel⟩, List.mem_of_getElem? (i := 867) (by decide +kernel), List.mem_of_getElem? (i := 1033) (by decide +kernel), List.mem_of_getElem? (i := 1034) (by decide +kernel)⟩
theorem lw_p34 : lw_okq (⟨"RulerFootModel", "takeRod", "()I"⟩, 43) := ⟨⟨by decide +kernel, by decide +kernel⟩, List.mem_of_getElem? (i := 867) (by decide +kernel), List.mem_of_getElem? (i := 1037) (by decide +kernel), List.mem_of_getElem? (i := 1038) (by decide +kernel)⟩
theorem lw_p35 : lw_okq (⟨"RulerFootModel", "takeNumber", "(II)I"⟩, 43) := ⟨⟨by decide +kernel, by decide +kernel⟩, List.mem_of_getElem? (i := 867) (by decide +kernel), List.mem_of_getElem? (i := 1041) (by decide +kernel), List.mem_of_getElem? (i := 1042) (by decide +kernel)⟩
theorem lw_p36 : lw_okq (⟨"RulerFootModel", "takeNick", "()I"⟩, 43) := ⟨⟨by decide +kernel, by decide +kernel⟩, List.mem_of_getElem? (i := 867) (by decide +kernel), List.mem_of_getElem? (i := 1047) (by decide +kernel), List.mem_of_getElem? (i := 1048) (by decide +kernel)⟩
theorem lw_p37 : lw_okq (⟨"RulerFootModel", "into", "([IIII)I"⟩, 43) := ⟨⟨by decide +kernel, by decide +kernel⟩, List.mem_of_getElem? (i := 867) (by decide +kernel), List.mem_of_getElem? (i := 1051) (by decide +kernel), List.mem_of_getElem? (i := 1052) (by decide +kernel)⟩
theorem lw_p38 : lw_okq (⟨"RulerFootModel", "takeOffice", "()I"⟩, 43) := ⟨⟨by decide +kernel, by decide +kernel⟩, List.mem_of_getElem? (i := 867) (by decide +kernel), List.mem_of_getElem? (i := 1055) (by decide +kernel), List.mem_of_getElem? (i := 1056) (by decide +kernel)⟩
theorem lw_p39 : lw_okq (⟨"RulerFootModel", "takePerson", "()I"⟩, 43) := ⟨⟨by decide +kernel, by decide +kernel⟩, List.mem_of_getElem? (i := 867) (by decide +kernel), List.mem_of_getElem? (i := 1059) (by decide +kernel), List.mem_of_getElem? (i := 1060) (by decide +kernel)⟩
theorem lw_p40 : lw_okq (⟨"RulerFootModel", "takeSways", "()I"⟩, 43) := ⟨⟨by decide +kernel, by decide +kernel⟩, List.mem_of_getElem? (i := 867) (by decide +kernel), List.mem_of_getElem? (i := 1063) (by decide +kernel), List.mem_of_getElem? (i := 1064) (by decide +kernel)⟩
theorem lw_p41 : lw_okq (⟨"RulerFootModel", "takeRead", "()V"⟩, 43) := ⟨⟨by decide +kernel, by decide +kernel⟩, List.mem_of_getElem? (i := 867) (by decide +kernel), List.mem_of_getElem? (i := 1067) (by decide +kernel), List.mem_of_getElem? (i := 1068) (by decide +kernel)⟩
theorem lw_p42 : lw_okq (⟨"RulerFootModel", "longest", "()I"⟩, 43) := ⟨⟨by decide +kernel, by decide +kernel⟩, List.mem_of_getElem? (i := 867) (by decide +kernel), List.mem_of_getElem? (i := 1082) (by decide +kernel), List.mem_of_getElem? (i := 1083) (by decide +kernel)⟩
theorem lw_p43 : lw_okq (⟨"RulerFootModel", "isRealm", "()Z"⟩, 43) := ⟨⟨by decide +kernel, by decide +kernel⟩, List.mem_of_getElem? (i := 867) (by decide +kernel), List.mem_of_getElem? (i := 1090) (by decide +kernel), List.mem_of_getElem? (i := 1091) (by decide +kernel)⟩
theorem lw_p44 : lw_okq (⟨"RulerFootModel", "isOffice", "(I)Z"⟩, 43) := ⟨⟨by decide +kernel, by decide +kernel⟩, List.mem_of_getElem? (i := 867) (by decide +kernel), List.mem_of_getElem? (i := 1103) (by decide +kernel), List.mem_of_getElem? (i := 1104) (by decide +kernel)⟩
theorem lw_p45 : lw_okq (⟨"RulerFootModel", "fitsOf", "(I)I"⟩, 43) := ⟨⟨by decide +kernel, by decide +kernel⟩, List.mem_of_getElem? (i := 867) (by decide +kernel), List.mem_of_getElem? (i := 1108) (by decide +kernel), List.mem_of_getElem? (i := 1109) (by decide +kernel)⟩
theorem lw_p46 : lw_okq (⟨"RulerFootModel", "fits", "(II)Z"⟩, 43) := ⟨⟨by decide +kernel, by decide +kernel⟩, List.mem_of_getElem? (i := 867) (by decide +kernel), List.mem_of_getElem? (i := 1112) (by decide +kernel), List.mem_of_getElem? (i := 1113) (by decide +kernel)⟩
theorem lw_p47 : lw_okq (⟨"RulerFootModel", "measuredBy", "(I)I"⟩, 43) := ⟨⟨by decide +kernel, by decide +kernel⟩, List.mem_of_getElem? (i := 867) (by decide +kernel), List.mem_of_getElem? (i := 1116) (by decide +kernel), List.mem_of_getElem? (i := 1117) (by decide +kernel)⟩
def lw_privs_3 : List (MethodName × Nat) := [(⟨"RulerFootModel", "isFull", "(I)Z"⟩, 43), (⟨"RulerFootModel", "takeBody", "(I)I"⟩, 43), (⟨"RulerFootModel", "takeRod", "()I"⟩, 43), (⟨"RulerFootModel", "takeNumber", "(II)I"⟩, 43), (⟨"RulerFootModel", "takeNick", "()I"⟩, 43), (⟨"RulerFootModel", "into", "([IIII)I"⟩, 43), (⟨"RulerFootModel", "takeOffice", "()I"⟩, 43), (⟨"RulerFootModel", "takePerson", "()I"⟩, 43), (⟨"RulerFootModel", "takeSways", "()I"⟩, 43), (⟨"RulerFootModel", "takeRead", "()V"⟩, 43), (⟨"RulerFootModel", "longest", "()I"⟩, 43), (⟨"RulerFootModel", "isRealm", "()Z"⟩, 43), (⟨"RulerFootModel", "isOffice", "(I)Z"⟩, 43), (⟨"RulerFootModel", "fitsOf", "(I)I"⟩, 43), (⟨"RulerFootModel", "fits", "(II)Z"⟩, 43), (⟨"RulerFootModel", "measuredBy", "(I)I"⟩, 43)]
theorem lw_r3 : ∀ q ∈ lw_privs_3, lw_okq q := List.forall_mem_cons.mpr ⟨lw_p32, List.forall_mem_cons.mpr ⟨lw_p33, List.forall_mem_cons.mpr ⟨lw_p34, List.forall_mem_cons.mpr ⟨lw_p35, List.forall_mem_cons.mpr ⟨lw_p36, List.forall_mem_cons.mpr ⟨lw_p37, List.forall_mem_cons.mpr ⟨lw_p38, List.forall_mem_cons.mpr ⟨lw_p39, List.forall_mem_cons.mpr ⟨lw_p40, List.forall_mem_cons.mpr ⟨lw_p41, List.forall_mem_cons.mpr ⟨lw_p42, List.forall_mem_cons.mpr ⟨lw_p43, List.forall_mem_cons.mpr ⟨lw_p44, List.forall_mem_cons.mpr ⟨lw_p45, List.forall_mem_cons.mpr ⟨lw_p46, List.forall_mem_cons.mpr ⟨lw_p47, fun _ h => absurd h List.not_mem_nil⟩⟩⟩⟩⟩⟩⟩⟩⟩⟩⟩⟩⟩⟩⟩⟩
theorem lw_p48 : lw_okq (⟨"RulerFootModel", "isPerson", "(I)Z"⟩, 43) := ⟨⟨by decide +kernel, by decide +kernel⟩, List.mem_of_getElem? (i := 867) (by decide +kernel), List.mem_of_getElem? (i := 1124) (by decide +kernel), List.mem_of_getElem? (i := 1125) (by decide +kernel)⟩
theorem lw_p49 : lw_okq (⟨"RulerFootModel", "yearsRefused", "(I)I"⟩, 43) := ⟨⟨by decide +kernel, by decide +kernel⟩, List.mem_of_getElem? (i := 867) (by decide +kernel), List.mem_of_getElem? (i := 1140) (by decide +kernel), List.mem_of_getElem? (i := 1141) (by decide +kernel)⟩
theorem lw_p50 : lw_okq (⟨"RulerFootModel", "remember", "()V"⟩, 43) := ⟨⟨by decide +kernel, by decide +kernel⟩, List.mem_of_getElem? (i := 867) (by decide +kernel), List.mem_of_getElem? (i := 1145) (by decide +kernel), List.mem_of_getElem? (i := 1146) (by decide +kernel)⟩
theorem lw_p51 : lw_okq (⟨"RulerFootModel", "pass", "()V"⟩, 43) := ⟨⟨by decide +kernel, by decide +kernel⟩, List.mem_of_getElem? (i := 867) (by decide +kernel), List.mem_of_getElem? (i := 1149) (by decide +kernel), List.mem_of_getElem? (i := 1150) (by decide +kernel)⟩
theorem lw_p52 : lw_okq (⟨"RulerFootModel", "swayOf", "(I)I"⟩, 43) := ⟨⟨by decide +kernel, by decide +kernel⟩, List.mem_of_getElem? (i := 867) (by decide +kernel), List.mem_of_getElem? (i := 1153) (by decide +kernel), List.mem_of_getElem? (i := 1154) (by decide +kernel)⟩
theorem lw_p53 : lw_okq (⟨"RulerFootModel", "canUse", "()Z"⟩, 43) := ⟨⟨by decide +kernel, by decide +kernel⟩, List.mem_of_getElem? (i := 867) (by decide +kernel), List.mem_of_getElem? (i := 1166) (by decide +kernel), List.mem_of_getElem? (i := 1167) (by decide +kernel)⟩
theorem lw_p54 : lw_okq (⟨"RulerFootModel", "makeNow", "(I)I"⟩, 43) := ⟨⟨by decide +kernel, by decide +kernel⟩, List.mem_of_getElem? (i := 867) (by decide +kernel), List.mem_of_getElem? (i := 1170) (by decide +kernel), List.mem_of_getElem? (i := 1171) (by decide +kernel)⟩
theorem lw_p55 : lw_okq (⟨"RulerFootModel", "chance", "()V"⟩, 43) := ⟨⟨by decide +kernel, by decide +kernel⟩, List.mem_of_getElem? (i := 867) (by decide +kernel), List.mem_of_getElem? (i := 1215) (by decide +kernel), List.mem_of_getElem? (i := 1216) (by decide +kernel)⟩
theorem lw_p56 : lw_okq (⟨"RulerFootModel", "draw", "(I)I"⟩, 43) := ⟨⟨by decide +kernel, by decide +kernel⟩, List.mem_of_getElem? (i := 867) (by decide +kernel), List.mem_of_getElem? (i := 1219) (by decide +kernel), List.mem_of_getElem? (i := 1220) (by decide +kernel)⟩
theorem lw_p57 : lw_okq (⟨"RulerFootModel", "longBehind", "(I)I"⟩, 43) := ⟨⟨by decide +kernel, by decide +kernel⟩, List.mem_of_getElem? (i := 867) (by decide +kernel), List.mem_of_getElem? (i := 1235) (by decide +kernel), List.mem_of_getElem? (i := 1236) (by decide +kernel)⟩
theorem lw_p58 : lw_okq (⟨"RulerFootModel", "warpBehind", "(I)I"⟩, 43) := ⟨⟨by decide +kernel, by decide +kernel⟩, List.mem_of_getElem? (i := 867) (by decide +kernel), List.mem_of_getElem? (i := 1239) (by decide +kernel), List.mem_of_getElem? (i := 1240) (by decide +kernel)⟩
theorem lw_p59 : lw_okq (⟨"RulerFootModel", "findTimes", "(I)V"⟩, 43) := ⟨⟨by decide +kernel, by decide +kernel⟩, List.mem_of_getElem? (i := 867) (by decide +kernel), List.mem_of_getElem? (i := 1256) (by decide +kernel), List.mem_of_getElem? (i := 1257) (by decide +kernel)⟩
theorem lw_p60 : lw_okq (⟨"RulerFootModel", "layOn", "(II)V"⟩, 43) := ⟨⟨by decide +kernel, by decide +kernel⟩, List.mem_of_getElem? (i := 867) (by decide +kernel), List.mem_of_getElem? (i := 1261) (by decide +kernel), List.mem_of_getElem? (i := 1262) (by decide +kernel)⟩
theorem lw_p61 : lw_okq (⟨"RulerFootModel", "findFilled", "()V"⟩, 43) := ⟨⟨by decide +kernel, by decide +kernel⟩, List.mem_of_getElem? (i := 867) (by decide +kernel), List.mem_of_getElem? (i := 1277) (by decide +kernel), List.mem_of_getElem? (i := 1278) (by decide +kernel)⟩
theorem lw_p62 : lw_okq (⟨"RulerFootModel", "whoGets", "(II)I"⟩, 43) := ⟨⟨by decide +kernel, by decide +kernel⟩, List.mem_of_getElem? (i := 867) (by decide +kernel), List.mem_of_getElem? (i := 1284) (by decide +kernel), List.mem_of_getElem? (i := 1285) (by decide +kernel)⟩
theorem lw_p63 : lw_okq (⟨"RulerFootModel", "mean", "()I"⟩, 43) := ⟨⟨by decide +kernel, by decide +kernel⟩, List.mem_of_getElem? (i := 867) (by decide +kernel), List.mem_of_getElem? (i := 1306) (by decide +kernel), List.mem_of_getElem? (i := 1307) (by decide +kernel)⟩
def lw_privs_4 : List (MethodName × Nat) := [(⟨"RulerFootModel", "isPerson", "(I)Z"⟩, 43), (⟨"RulerFootModel", "yearsRefused", "(I)I"⟩, 43), (⟨"RulerFootModel", "remember", "()V"⟩, 43), (⟨"RulerFootModel", "pass", "()V"⟩, 43), (⟨"RulerFootModel", "swayOf", "(I)I"⟩, 43), (⟨"RulerFootModel", "canUse", "()Z"⟩, 43), (⟨"RulerFootModel", "makeNow", "(I)I"⟩, 43), (⟨"RulerFootModel", "chance", "()V"⟩, 43), (⟨"RulerFootModel", "draw", "(I)I"⟩, 43), (⟨"RulerFootModel", "longBehind", "(I)I"⟩, 43), (⟨"RulerFootModel", "warpBehind", "(I)I"⟩, 43), (⟨"RulerFootModel", "findTimes", "(I)V"⟩, 43), (⟨"RulerFootModel", "layOn", "(II)V"⟩, 43), (⟨"RulerFootModel", "findFilled", "()V"⟩, 43), (⟨"RulerFootModel", "whoGets", "(II)I"⟩, 43), (⟨"RulerFootModel", "mean", "()I"⟩, 43)]
theorem lw_r4 : ∀ q ∈ lw_privs_4, lw_okq q := List.forall_mem_cons.mpr ⟨lw_p48, List.forall_mem_cons.mpr ⟨lw_p49, List.forall_mem_cons.mpr ⟨lw_p50, List.forall_mem_cons.mpr ⟨lw_p51, List.forall_mem_cons.mpr ⟨lw_p52, List.forall_mem_cons.mpr ⟨lw_p53, List.forall_mem_cons.mpr ⟨lw_p54, List.forall_mem_cons.mpr ⟨lw_p55, List.forall_mem_cons.mpr ⟨lw_p56, List.forall_mem_cons.mpr ⟨lw_p57, List.forall_mem_cons.mpr ⟨lw_p58, List.forall_mem_cons.mpr ⟨lw_p59, List.forall_mem_cons.mpr ⟨lw_p60, List.forall_mem_cons.mpr ⟨lw_p61, List.forall_mem_cons.mpr ⟨lw_p62, List.forall_mem_cons.mpr ⟨lw_p63, fun _ h => absurd h List.not_mem_nil⟩⟩⟩⟩⟩⟩⟩⟩⟩⟩⟩⟩⟩⟩⟩⟩
theorem lw_p64 : lw_okq (⟨"RulerFootModel", "middle", "()I"⟩, 43) := ⟨⟨by decide +kernel, by decide +kernel⟩, List.mem_of_getElem? (i := 867) (by decide +kernel), List.mem_of_getElem? (i := 1310) (by decide +kernel), List.mem_of_getElem? (i := 1311) (by decide +kernel)⟩
theorem lw_p65 : lw_okq (⟨"RulerFootModel", "handBy", "(IZ)I"⟩, 43) := ⟨⟨by decide +kernel, by decide +kernel⟩, List.mem_of_getElem? (i := 867) (by decide +kernel), List.mem_of_getElem? (i := 1314) (by decide +kernel), List.mem_of_getElem? (i := 1315) (by decide +kernel)⟩
theorem lw_p66 : lw_okq (⟨"RulerFootModel", "couldBe", "(II)Z"⟩, 43) := ⟨⟨by decide +kernel, by decide +kernel⟩, List.mem_of_getElem? (i := 867) (by decide +kernel), List.mem_of_getElem? (i := 1342) (by decide +kernel), List.mem_of_getElem? (i := 1343) (by decide +kernel)⟩
theorem lw_p67 : lw_okq (⟨"RulerFootModel", "greatestPart", "(I)I"⟩, 43) := ⟨⟨by decide +kernel, by decide +kernel⟩, List.mem_of_getElem? (i := 867) (by decide +kernel), List.mem_of_getElem? (i := 1351) (by decide +kernel), List.mem_of_getElem? (i := 1352) (by decide +kernel)⟩
def lw_privs_5 : List (MethodName × Nat) := [(⟨"RulerFootModel", "middle", "()I"⟩, 43), (⟨"RulerFootModel", "handBy", "(IZ)I"⟩, 43), (⟨"RulerFootModel", "couldBe", "(II)Z"⟩, 43), (⟨"RulerFootModel", "greatestPart", "(I)I"⟩, 43)]
theorem lw_r5 : ∀ q ∈ lw_privs_5, lw_okq q := List.forall_mem_cons.mpr ⟨lw_p64, List.forall_mem_cons.mpr ⟨lw_p65, List.forall_mem_cons.mpr ⟨lw_p66, List.forall_mem_cons.mpr ⟨lw_p67, fun _ h => absurd h List.not_mem_nil⟩⟩⟩⟩
def lw_privs : List (MethodName × Nat) := lw_privs_1 ++ (lw_privs_2 ++ (lw_privs_3 ++ (lw_privs_4 ++ (lw_privs_5))))
def lw_tbl : List Cond := k2_sels lw_privs ++ tables_1
theorem lw_privs_ok : ∀ q ∈ lw_privs, lw_okq q := by
  show ∀ q ∈ lw_privs_1 ++ (lw_privs_2 ++ (lw_privs_3 ++ (lw_privs_4 ++ (lw_privs_5)))), lw_okq q
  exact List.forall_mem_append.mpr ⟨lw_r1, List.forall_mem_append.mpr ⟨lw_r2, List.forall_mem_append.mpr ⟨lw_r3, List.forall_mem_append.mpr ⟨lw_r4, lw_r5⟩⟩⟩⟩
end
section
def RX0 : String := "RulerFoot$Book"
def TX0 : u_T := fun k => match k with
  | 0 => ("RulerFoot$Book", "persons", "[I", true)
  | 1 => ("RulerFoot$Book", "tall", "[I", true)
  | _ => ("RulerFoot$Book", "count", "I", false)
def tyX0 : Nat → FieldType := fun k => match k with
  | 0 => .array .int
  | 1 => .array .int
  | _ => .int
theorem nmX0 : ∀ a, a < 3 → ∀ b, b < 3 → a ≠ b → (TX0 a).2.1 ≠ (TX0 b).2.1 := by decide +kernel
theorem tyX0_ok : ∀ k, k < 3 → parseFieldDescriptor (TX0 k).2.2.1 = some (tyX0 k) := by decide +kernel
abbrev cX0_init : ByteArray := prog_2_method_1_code
def yX0_init : MethodName := ⟨RX0, "<init>", "()V"⟩
abbrev cX0_add : ByteArray := prog_2_method_2_code
def yX0_add : MethodName := ⟨RX0, "add", "(II)V"⟩
abbrev cX0_firstWrong : ByteArray := prog_2_method_3_code
def yX0_firstWrong : MethodName := ⟨RX0, "firstWrong", "(LRulerFoot$Standing;)I"⟩
def RX1 : String := "RulerFoot$Hands"
def TX1 : u_T := fun k => match k with
  | 0 => ("RulerFoot$Hands", "wide", "[I", true)
  | _ => ("RulerFoot$Hands", "count", "I", false)
def tyX1 : Nat → FieldType := fun k => match k with
  | 0 => .array .int
  | _ => .int
theorem nmX1 : ∀ a, a < 2 → ∀ b, b < 2 → a ≠ b → (TX1 a).2.1 ≠ (TX1 b).2.1 := by decide +kernel
theorem tyX1_ok : ∀ k, k < 2 → parseFieldDescriptor (TX1 k).2.2.1 = some (tyX1 k) := by decide +kernel
abbrev cX1_init : ByteArray := prog_3_method_1_code
def yX1_init : MethodName := ⟨RX1, "<init>", "()V"⟩
abbrev cX1_copyFrom : ByteArray := prog_3_method_2_code
def yX1_copyFrom : MethodName := ⟨RX1, "copyFrom", "(LRulerFoot$Hands;)V"⟩
abbrev cX1_add : ByteArray := prog_3_method_3_code
def yX1_add : MethodName := ⟨RX1, "add", "(I)V"⟩
abbrev cX1_mean : ByteArray := prog_3_method_4_code
def yX1_mean : MethodName := ⟨RX1, "mean", "()I"⟩
abbrev cX1_middle : ByteArray := prog_3_method_5_code
def yX1_middle : MethodName := ⟨RX1, "middle", "()I"⟩
abbrev cX1_farthestFrom : ByteArray := prog_3_method_6_code
def yX1_farthestFrom : MethodName := ⟨RX1, "farthestFrom", "(I)I"⟩
abbrev cX1_nearestTo : ByteArray := prog_3_method_7_code
def yX1_nearestTo : MethodName := ⟨RX1, "nearestTo", "(I)I"⟩
def RX2 : String := "RulerFoot$Laying"
def TX2 : u_T := fun k => match k with
  | 0 => ("RulerFoot$Laying", "times", "[I", true)
  | 1 => ("RulerFoot$Laying", "queue", "[I", true)
  | 2 => ("RulerFoot$Laying", "queued", "I", false)
  | 3 => ("RulerFoot$Laying", "lengths", "[I", true)
  | _ => ("RulerFoot$Laying", "lengthCount", "I", false)
def tyX2 : Nat → FieldType := fun k => match k with
  | 0 => .array .int
  | 1 => .array .int
  | 2 => .int
  | 3 => .array .int
  | _ => .int
theorem nmX2 : ∀ a, a < 5 → ∀ b, b < 5 → a ≠ b → (TX2 a).2.1 ≠ (TX2 b).2.1 := by decide +kernel
theorem tyX2_ok : ∀ k, k < 5 → parseFieldDescriptor (TX2 k).2.2.1 = some (tyX2 k) := by decide +kernel
abbrev cX2_init : ByteArray := prog_4_method_1_code
def yX2_init : MethodName := ⟨RX2, "<init>", "()V"⟩
abbrev cX2_takeLengths : ByteArray := prog_4_method_2_code
def yX2_takeLengths : MethodName := ⟨RX2, "takeLengths", "(LRulerFoot$Telling;I)V"⟩
abbrev cX2_layOn : ByteArray := prog_4_method_3_code
def yX2_layOn : MethodName := ⟨RX2, "layOn", "(I)V"⟩
abbrev cX2_layFrom : ByteArray := prog_4_method_4_code
def yX2_layFrom : MethodName := ⟨RX2, "layFrom", "(I)V"⟩
abbrev cX2_reach : ByteArray := prog_4_method_5_code
def yX2_reach : MethodName := ⟨RX2, "reach", "(II)V"⟩
def RX3 : String := "RulerFoot$Past"
def TX3 : u_T := fun k => match k with
  | 0 => ("RulerFoot$Past", "ring", "[LRulerFoot$Standing;", true)
  | 1 => ("RulerFoot$Past", "next", "I", false)
  | _ => ("RulerFoot$Past", "count", "I", false)
def tyX3 : Nat → FieldType := fun k => match k with
  | 0 => .array (.object "RulerFoot$Standing")
  | 1 => .int
  | _ => .int
theorem nmX3 : ∀ a, a < 3 → ∀ b, b < 3 → a ≠ b → (TX3 a).2.1 ≠ (TX3 b).2.1 := by decide +kernel
theorem tyX3_ok : ∀ k, k < 3 → parseFieldDescriptor (TX3 k).2.2.1 = some (tyX3 k) := by decide +kernel
abbrev cX3_init : ByteArray := prog_5_method_1_code
def yX3_init : MethodName := ⟨RX3, "<init>", "()V"⟩
abbrev cX3_remember : ByteArray := prog_5_method_2_code
def yX3_remember : MethodName := ⟨RX3, "remember", "(LRulerFoot$Standing;)V"⟩
abbrev cX3_bringBack : ByteArray := prog_5_method_3_code
def yX3_bringBack : MethodName := ⟨RX3, "bringBack", "(LRulerFoot$Standing;)V"⟩
abbrev cX3_forget : ByteArray := prog_5_method_4_code
def yX3_forget : MethodName := ⟨RX3, "forget", "()V"⟩
def RX4 : String := "RulerFoot$Posting"
def TX4 : u_T := fun k => match k with
  | 0 => ("RulerFoot$Posting", "fits", "[I", true)
  | 1 => ("RulerFoot$Posting", "most", "[I", true)
  | _ => ("RulerFoot$Posting", "offices", "I", false)
def tyX4 : Nat → FieldType := fun k => match k with
  | 0 => .array .int
  | 1 => .array .int
  | _ => .int
theorem nmX4 : ∀ a, a < 3 → ∀ b, b < 3 → a ≠ b → (TX4 a).2.1 ≠ (TX4 b).2.1 := by decide +kernel
theorem tyX4_ok : ∀ k, k < 3 → parseFieldDescriptor (TX4 k).2.2.1 = some (tyX4 k) := by decide +kernel
abbrev cX4_init : ByteArray := prog_6_method_1_code
def yX4_init : MethodName := ⟨RX4, "<init>", "()V"⟩
abbrev cX4_weigh : ByteArray := prog_6_method_2_code
def yX4_weigh : MethodName := ⟨RX4, "weigh", "(LRulerFoot$Telling;LRulerFoot$Standing;)V"⟩
abbrev cX4_mostFrom : ByteArray := prog_6_method_3_code
def yX4_mostFrom : MethodName := ⟨RX4, "mostFrom", "(II)I"⟩
abbrev cX4_holderOf : ByteArray := prog_6_method_4_code
def yX4_holderOf : MethodName := ⟨RX4, "holderOf", "(I)I"⟩
abbrev cX4_firstBest : ByteArray := prog_6_method_5_code
def yX4_firstBest : MethodName := ⟨RX4, "firstBest", "(II)I"⟩
abbrev cX4_filledWith : ByteArray := prog_6_method_6_code
def yX4_filledWith : MethodName := ⟨RX4, "filledWith", "(III)I"⟩
def RX5 : String := "RulerFoot$Reader"
def TX5 : u_T := fun k => match k with
  | 0 => ("RulerFoot$Reader", "faultKind", "I", false)
  | 1 => ("RulerFoot$Reader", "faultPlace", "I", false)
  | 2 => ("RulerFoot$Reader", "letters", "[I", false)
  | 3 => ("RulerFoot$Reader", "size", "I", false)
  | 4 => ("RulerFoot$Reader", "at", "I", false)
  | _ => ("RulerFoot$Reader", "numberPlace", "I", false)
def tyX5 : Nat → FieldType := fun k => match k with
  | 0 => .int
  | 1 => .int
  | 2 => .array .int
  | 3 => .int
  | 4 => .int
  | _ => .int
theorem nmX5 : ∀ a, a < 6 → ∀ b, b < 6 → a ≠ b → (TX5 a).2.1 ≠ (TX5 b).2.1 := by decide +kernel
theorem tyX5_ok : ∀ k, k < 6 → parseFieldDescriptor (TX5 k).2.2.1 = some (tyX5 k) := by decide +kernel
abbrev cX5_init : ByteArray := prog_7_method_1_code
def yX5_init : MethodName := ⟨RX5, "<init>", "()V"⟩
abbrev cX5_readText : ByteArray := prog_7_method_2_code
def yX5_readText : MethodName := ⟨RX5, "readText", "([IILRulerFoot$Telling;)V"⟩
abbrev cX5_readClause : ByteArray := prog_7_method_3_code
def yX5_readClause : MethodName := ⟨RX5, "readClause", "(LRulerFoot$Telling;)V"⟩
abbrev cX5_readRod : ByteArray := prog_7_method_4_code
def yX5_readRod : MethodName := ⟨RX5, "readRod", "(LRulerFoot$Telling;)V"⟩
abbrev cX5_readNick : ByteArray := prog_7_method_5_code
def yX5_readNick : MethodName := ⟨RX5, "readNick", "(LRulerFoot$Telling;)V"⟩
abbrev cX5_readOffice : ByteArray := prog_7_method_6_code
def yX5_readOffice : MethodName := ⟨RX5, "readOffice", "(LRulerFoot$Telling;)V"⟩
abbrev cX5_readPerson : ByteArray := prog_7_method_7_code
def yX5_readPerson : MethodName := ⟨RX5, "readPerson", "(LRulerFoot$Telling;)V"⟩
abbrev cX5_readSways : ByteArray := prog_7_method_8_code
def yX5_readSways : MethodName := ⟨RX5, "readSways", "(LRulerFoot$Telling;)V"⟩
abbrev cX5_takeWord : ByteArray := prog_7_method_9_code
def yX5_takeWord : MethodName := ⟨RX5, "takeWord", "(Z)Z"⟩
abbrev cX5_takeNumber : ByteArray := prog_7_method_10_code
def yX5_takeNumber : MethodName := ⟨RX5, "takeNumber", "(II)I"⟩
abbrev cX5_takeSign : ByteArray := prog_7_method_11_code
def yX5_takeSign : MethodName := ⟨RX5, "takeSign", "(I)Z"⟩
abbrev cX5_takeEnd : ByteArray := prog_7_method_12_code
def yX5_takeEnd : MethodName := ⟨RX5, "takeEnd", "()V"⟩
abbrev cX5_skipBlanks : ByteArray := prog_7_method_13_code
def yX5_skipBlanks : MethodName := ⟨RX5, "skipBlanks", "()V"⟩
abbrev cX5_blame : ByteArray := prog_7_method_14_code
def yX5_blame : MethodName := ⟨RX5, "blame", "(II)V"⟩
def RX6 : String := "RulerFoot$Rod"
def TX6 : u_T := fun k => match k with
  | 0 => ("RulerFoot$Rod", "length", "I", false)
  | 1 => ("RulerFoot$Rod", "bend", "I", false)
  | 2 => ("RulerFoot$Rod", "away", "Z", false)
  | _ => ("RulerFoot$Rod", "years", "I", false)
def tyX6 : Nat → FieldType := fun k => match k with
  | 0 => .int
  | 1 => .int
  | 2 => .boolean
  | _ => .int
theorem nmX6 : ∀ a, a < 4 → ∀ b, b < 4 → a ≠ b → (TX6 a).2.1 ≠ (TX6 b).2.1 := by decide +kernel
theorem tyX6_ok : ∀ k, k < 4 → parseFieldDescriptor (TX6 k).2.2.1 = some (tyX6 k) := by decide +kernel
abbrev cX6_init : ByteArray := prog_8_method_1_code
def yX6_init : MethodName := ⟨RX6, "<init>", "()V"⟩
abbrev cX6_copyFrom : ByteArray := prog_8_method_2_code
def yX6_copyFrom : MethodName := ⟨RX6, "copyFrom", "(LRulerFoot$Rod;)V"⟩
abbrev cX6_begin : ByteArray := prog_8_method_3_code
def yX6_begin : MethodName := ⟨RX6, "begin", "(I)V"⟩
abbrev cX6_passYear : ByteArray := prog_8_method_4_code
def yX6_passYear : MethodName := ⟨RX6, "passYear", "(LRulerFoot$Telling;)V"⟩
abbrev cX6_lengthIfPlaned : ByteArray := prog_8_method_5_code
def yX6_lengthIfPlaned : MethodName := ⟨RX6, "lengthIfPlaned", "()I"⟩
abbrev cX6_tenthsOf : ByteArray := prog_8_method_6_code
def yX6_tenthsOf : MethodName := ⟨RX6, "tenthsOf", "(I)I"⟩
def RX7 : String := "RulerFoot$Sight"
def TX7 : u_T := fun k => match k with
  | 0 => ("RulerFoot$Sight", "feet", "[I", true)
  | 1 => ("RulerFoot$Sight", "hairs", "[I", true)
  | 2 => ("RulerFoot$Sight", "count", "I", false)
  | 3 => ("RulerFoot$Sight", "low", "[I", true)
  | 4 => ("RulerFoot$Sight", "high", "[I", true)
  | _ => ("RulerFoot$Sight", "alikeAt", "[I", true)
def tyX7 : Nat → FieldType := fun k => match k with
  | 0 => .array .int
  | 1 => .array .int
  | 2 => .int
  | 3 => .array .int
  | 4 => .array .int
  | _ => .array .int
theorem nmX7 : ∀ a, a < 6 → ∀ b, b < 6 → a ≠ b → (TX7 a).2.1 ≠ (TX7 b).2.1 := by decide +kernel
theorem tyX7_ok : ∀ k, k < 6 → parseFieldDescriptor (TX7 k).2.2.1 = some (tyX7 k) := by decide +kernel
abbrev cX7_init : ByteArray := prog_9_method_1_code
def yX7_init : MethodName := ⟨RX7, "<init>", "()V"⟩
abbrev cX7_add : ByteArray := prog_9_method_2_code
def yX7_add : MethodName := ⟨RX7, "add", "(II)V"⟩
abbrev cX7_gather : ByteArray := prog_9_method_3_code
def yX7_gather : MethodName := ⟨RX7, "gather", "()I"⟩
abbrev cX7_leastLength : ByteArray := prog_9_method_4_code
def yX7_leastLength : MethodName := ⟨RX7, "leastLength", "()I"⟩
abbrev cX7_bestDoor : ByteArray := prog_9_method_5_code
def yX7_bestDoor : MethodName := ⟨RX7, "bestDoor", "()I"⟩
abbrev cX7_greatestPart : ByteArray := prog_9_method_6_code
def yX7_greatestPart : MethodName := ⟨RX7, "greatestPart", "(I)I"⟩
def RX8 : String := "RulerFoot$Standing"
def TX8 : u_T := fun k => match k with
  | 0 => ("RulerFoot$Standing", "rod", "LRulerFoot$Rod;", true)
  | 1 => ("RulerFoot$Standing", "things", "LRulerFoot$Things;", true)
  | 2 => ("RulerFoot$Standing", "palms", "LRulerFoot$Hands;", true)
  | _ => ("RulerFoot$Standing", "tall", "[I", true)
def tyX8 : Nat → FieldType := fun k => match k with
  | 0 => .object "RulerFoot$Rod"
  | 1 => .object "RulerFoot$Things"
  | 2 => .object "RulerFoot$Hands"
  | _ => .array .int
theorem nmX8 : ∀ a, a < 4 → ∀ b, b < 4 → a ≠ b → (TX8 a).2.1 ≠ (TX8 b).2.1 := by decide +kernel
theorem tyX8_ok : ∀ k, k < 4 → parseFieldDescriptor (TX8 k).2.2.1 = some (tyX8 k) := by decide +kernel
abbrev cX8_init : ByteArray := prog_10_method_1_code
def yX8_init : MethodName := ⟨RX8, "<init>", "()V"⟩
abbrev cX8_copyFrom : ByteArray := prog_10_method_2_code
def yX8_copyFrom : MethodName := ⟨RX8, "copyFrom", "(LRulerFoot$Standing;)V"⟩
abbrev cX8_begin : ByteArray := prog_10_method_3_code
def yX8_begin : MethodName := ⟨RX8, "begin", "(LRulerFoot$Telling;)V"⟩
abbrev cX8_produce : ByteArray := prog_10_method_4_code
def yX8_produce : MethodName := ⟨RX8, "produce", "(II)I"⟩
abbrev cX8_fitting : ByteArray := prog_10_method_5_code
def yX8_fitting : MethodName := ⟨RX8, "fitting", "(LRulerFoot$Telling;I)I"⟩
def RX9 : String := "RulerFoot$Telling"
def TX9 : u_T := fun k => match k with
  | 0 => ("RulerFoot$Telling", "length", "I", false)
  | 1 => ("RulerFoot$Telling", "wear", "I", false)
  | 2 => ("RulerFoot$Telling", "nicks", "[I", true)
  | 3 => ("RulerFoot$Telling", "nickCount", "I", false)
  | 4 => ("RulerFoot$Telling", "officeLow", "[I", true)
  | 5 => ("RulerFoot$Telling", "officeHigh", "[I", true)
  | 6 => ("RulerFoot$Telling", "officeCount", "I", false)
  | 7 => ("RulerFoot$Telling", "tall", "[I", true)
  | 8 => ("RulerFoot$Telling", "personCount", "I", false)
  | 9 => ("RulerFoot$Telling", "sways", "[I", true)
  | _ => ("RulerFoot$Telling", "swayCount", "I", false)
def tyX9 : Nat → FieldType := fun k => match k with
  | 0 => .int
  | 1 => .int
  | 2 => .array .int
  | 3 => .int
  | 4 => .array .int
  | 5 => .array .int
  | 6 => .int
  | 7 => .array .int
  | 8 => .int
  | 9 => .array .int
  | _ => .int
theorem nmX9 : ∀ a, a < 11 → ∀ b, b < 11 → a ≠ b → (TX9 a).2.1 ≠ (TX9 b).2.1 := by decide +kernel
theorem tyX9_ok : ∀ k, k < 11 → parseFieldDescriptor (TX9 k).2.2.1 = some (tyX9 k) := by decide +kernel
abbrev cX9_init : ByteArray := prog_11_method_1_code
def yX9_init : MethodName := ⟨RX9, "<init>", "()V"⟩
abbrev cX9_clear : ByteArray := prog_11_method_2_code
def yX9_clear : MethodName := ⟨RX9, "clear", "()V"⟩
abbrev cX9_hasNick : ByteArray := prog_11_method_3_code
def yX9_hasNick : MethodName := ⟨RX9, "hasNick", "(I)Z"⟩
abbrev cX9_bendIn : ByteArray := prog_11_method_4_code
def yX9_bendIn : MethodName := ⟨RX9, "bendIn", "(I)I"⟩
abbrev cX9_asksFor : ByteArray := prog_11_method_5_code
def yX9_asksFor : MethodName := ⟨RX9, "asksFor", "(II)Z"⟩
def RX10 : String := "RulerFoot$Things"
def TX10 : u_T := fun k => match k with
  | 0 => ("RulerFoot$Things", "hairs", "[I", true)
  | 1 => ("RulerFoot$Things", "feet", "[I", true)
  | 2 => ("RulerFoot$Things", "twelfths", "[I", true)
  | 3 => ("RulerFoot$Things", "madeIn", "[I", true)
  | _ => ("RulerFoot$Things", "count", "I", false)
def tyX10 : Nat → FieldType := fun k => match k with
  | 0 => .array .int
  | 1 => .array .int
  | 2 => .array .int
  | 3 => .array .int
  | _ => .int
theorem nmX10 : ∀ a, a < 5 → ∀ b, b < 5 → a ≠ b → (TX10 a).2.1 ≠ (TX10 b).2.1 := by decide +kernel
theorem tyX10_ok : ∀ k, k < 5 → parseFieldDescriptor (TX10 k).2.2.1 = some (tyX10 k) := by decide +kernel
abbrev cX10_init : ByteArray := prog_12_method_1_code
def yX10_init : MethodName := ⟨RX10, "<init>", "()V"⟩
abbrev cX10_copyFrom : ByteArray := prog_12_method_2_code
def yX10_copyFrom : MethodName := ⟨RX10, "copyFrom", "(LRulerFoot$Things;)V"⟩
abbrev cX10_add : ByteArray := prog_12_method_3_code
def yX10_add : MethodName := ⟨RX10, "add", "(IIII)V"⟩
abbrev cX10_loseEarliest : ByteArray := prog_12_method_4_code
def yX10_loseEarliest : MethodName := ⟨RX10, "loseEarliest", "()V"⟩
abbrev cX10_span : ByteArray := prog_12_method_5_code
def yX10_span : MethodName := ⟨RX10, "span", "(III)I"⟩
abbrev cX10_bendIfLong : ByteArray := prog_12_method_6_code
def yX10_bendIfLong : MethodName := ⟨RX10, "bendIfLong", "(II)I"⟩
abbrev cX10_longest : ByteArray := prog_12_method_7_code
def yX10_longest : MethodName := ⟨RX10, "longest", "()I"⟩
abbrev cX10_pairOfLike : ByteArray := prog_12_method_8_code
def yX10_pairOfLike : MethodName := ⟨RX10, "pairOfLike", "(I)I"⟩
def RX11 : String := "RulerFoot"
def TX11 : u_T := fun k => match k with
  | 0 => ("RulerFoot", "text", "[I", true)
  | 1 => ("RulerFoot", "letters", "I", false)
  | 2 => ("RulerFoot", "faultPlace", "I", false)
  | 3 => ("RulerFoot", "reader", "LRulerFoot$Reader;", true)
  | 4 => ("RulerFoot", "law", "LRulerFoot$Telling;", false)
  | 5 => ("RulerFoot", "draft", "LRulerFoot$Telling;", false)
  | 6 => ("RulerFoot", "now", "LRulerFoot$Standing;", true)
  | 7 => ("RulerFoot", "trial", "LRulerFoot$Rod;", true)
  | 8 => ("RulerFoot", "past", "LRulerFoot$Past;", true)
  | 9 => ("RulerFoot", "images", "[LRulerFoot$Standing;", true)
  | 10 => ("RulerFoot", "imageKept", "[Z", true)
  | 11 => ("RulerFoot", "imageSeeds", "[I", true)
  | 12 => ("RulerFoot", "seedNow", "I", false)
  | 13 => ("RulerFoot", "laying", "LRulerFoot$Laying;", true)
  | 14 => ("RulerFoot", "posting", "LRulerFoot$Posting;", true)
  | 15 => ("RulerFoot", "sight", "LRulerFoot$Sight;", true)
  | _ => ("RulerFoot", "book", "LRulerFoot$Book;", true)
def tyX11 : Nat → FieldType := fun k => match k with
  | 0 => .array .int
  | 1 => .int
  | 2 => .int
  | 3 => .object "RulerFoot$Reader"
  | 4 => .object "RulerFoot$Telling"
  | 5 => .object "RulerFoot$Telling"
  | 6 => .object "RulerFoot$Standing"
  | 7 => .object "RulerFoot$Rod"
  | 8 => .object "RulerFoot$Past"
  | 9 => .array (.object "RulerFoot$Standing")
  | 10 => .array .boolean
  | 11 => .array .int
  | 12 => .int
  | 13 => .object "RulerFoot$Laying"
  | 14 => .object "RulerFoot$Posting"
  | 15 => .object "RulerFoot$Sight"
  | _ => .object "RulerFoot$Book"
theorem nmX11 : ∀ a, a < 17 → ∀ b, b < 17 → a ≠ b → (TX11 a).2.1 ≠ (TX11 b).2.1 := by decide +kernel
theorem tyX11_ok : ∀ k, k < 17 → parseFieldDescriptor (TX11 k).2.2.1 = some (tyX11 k) := by decide +kernel
abbrev cX11_init : ByteArray := prog_1_method_1_code
def yX11_init : MethodName := ⟨RX11, "<init>", "()V"⟩
abbrev cX11_feed : ByteArray := prog_1_method_2_code
def yX11_feed : MethodName := ⟨RX11, "feed", "(I)I"⟩
abbrev cX11_realm : ByteArray := prog_1_method_3_code
def yX11_realm : MethodName := ⟨RX11, "realm", "()I"⟩
abbrev cX11_fault : ByteArray := prog_1_method_4_code
def yX11_fault : MethodName := ⟨RX11, "fault", "()I"⟩
abbrev cX11_told : ByteArray := prog_1_method_5_code
def yX11_told : MethodName := ⟨RX11, "told", "(I)I"⟩
abbrev cX11_warped : ByteArray := prog_1_method_6_code
def yX11_warped : MethodName := ⟨RX11, "warped", "()I"⟩
abbrev cX11_nick : ByteArray := prog_1_method_7_code
def yX11_nick : MethodName := ⟨RX11, "nick", "(I)I"⟩
abbrev cX11_office : ByteArray := prog_1_method_8_code
def yX11_office : MethodName := ⟨RX11, "office", "(II)I"⟩
abbrev cX11_person : ByteArray := prog_1_method_9_code
def yX11_person : MethodName := ⟨RX11, "person", "(II)I"⟩
abbrev cX11_thing : ByteArray := prog_1_method_10_code
def yX11_thing : MethodName := ⟨RX11, "thing", "(II)I"⟩
abbrev cX11_hand : ByteArray := prog_1_method_11_code
def yX11_hand : MethodName := ⟨RX11, "hand", "(I)I"⟩
abbrev cX11_year : ByteArray := prog_1_method_12_code
def yX11_year : MethodName := ⟨RX11, "year", "(I)I"⟩
abbrev cX11_make : ByteArray := prog_1_method_13_code
def yX11_make : MethodName := ⟨RX11, "make", "(II)I"⟩
abbrev cX11_warp : ByteArray := prog_1_method_14_code
def yX11_warp : MethodName := ⟨RX11, "warp", "(I)I"⟩
abbrev cX11_plane : ByteArray := prog_1_method_15_code
def yX11_plane : MethodName := ⟨RX11, "plane", "()I"⟩
abbrev cX11_lose : ByteArray := prog_1_method_16_code
def yX11_lose : MethodName := ⟨RX11, "lose", "(Z)I"⟩
abbrev cX11_hold : ByteArray := prog_1_method_17_code
def yX11_hold : MethodName := ⟨RX11, "hold", "(I)I"⟩
abbrev cX11_drop : ByteArray := prog_1_method_18_code
def yX11_drop : MethodName := ⟨RX11, "drop", "()I"⟩
abbrev cX11_shorten : ByteArray := prog_1_method_19_code
def yX11_shorten : MethodName := ⟨RX11, "shorten", "(II)I"⟩
abbrev cX11_drift : ByteArray := prog_1_method_20_code
def yX11_drift : MethodName := ⟨RX11, "drift", "(I)I"⟩
abbrev cX11_undo : ByteArray := prog_1_method_21_code
def yX11_undo : MethodName := ⟨RX11, "undo", "()I"⟩
abbrev cX11_longAt : ByteArray := prog_1_method_22_code
def yX11_longAt : MethodName := ⟨RX11, "longAt", "(II)I"⟩
abbrev cX11_firstShort : ByteArray := prog_1_method_23_code
def yX11_firstShort : MethodName := ⟨RX11, "firstShort", "(I)I"⟩
abbrev cX11_planeWhen : ByteArray := prog_1_method_24_code
def yX11_planeWhen : MethodName := ⟨RX11, "planeWhen", "(II)I"⟩
abbrev cX11_had : ByteArray := prog_1_method_25_code
def yX11_had : MethodName := ⟨RX11, "had", "(I)I"⟩
abbrev cX11_parts : ByteArray := prog_1_method_26_code
def yX11_parts : MethodName := ⟨RX11, "parts", "(I)I"⟩
abbrev cX11_fold : ByteArray := prog_1_method_27_code
def yX11_fold : MethodName := ⟨RX11, "fold", "(I)I"⟩
abbrev cX11_posts : ByteArray := prog_1_method_28_code
def yX11_posts : MethodName := ⟨RX11, "posts", "(I)I"⟩
abbrev cX11_toShorten : ByteArray := prog_1_method_29_code
def yX11_toShorten : MethodName := ⟨RX11, "toShorten", "(II)I"⟩
abbrev cX11_wasWarped : ByteArray := prog_1_method_30_code
def yX11_wasWarped : MethodName := ⟨RX11, "wasWarped", "(III)I"⟩
abbrev cX11_alike : ByteArray := prog_1_method_31_code
def yX11_alike : MethodName := ⟨RX11, "alike", "(I)I"⟩
abbrev cX11_hands : ByteArray := prog_1_method_32_code
def yX11_hands : MethodName := ⟨RX11, "hands", "(I)I"⟩
abbrev cX11_tens : ByteArray := prog_1_method_33_code
def yX11_tens : MethodName := ⟨RX11, "tens", "(III)I"⟩
abbrev cX11_lean : ByteArray := prog_1_method_34_code
def yX11_lean : MethodName := ⟨RX11, "lean", "(III)I"⟩
abbrev cX11_foundBy : ByteArray := prog_1_method_35_code
def yX11_foundBy : MethodName := ⟨RX11, "foundBy", "(II)I"⟩
abbrev cX11_see : ByteArray := prog_1_method_36_code
def yX11_see : MethodName := ⟨RX11, "see", "(II)I"⟩
abbrev cX11_rods : ByteArray := prog_1_method_37_code
def yX11_rods : MethodName := ⟨RX11, "rods", "(I)I"⟩
abbrev cX11_door : ByteArray := prog_1_method_38_code
def yX11_door : MethodName := ⟨RX11, "door", "()I"⟩
abbrev cX11_write : ByteArray := prog_1_method_39_code
def yX11_write : MethodName := ⟨RX11, "write", "(II)I"⟩
abbrev cX11_tear : ByteArray := prog_1_method_40_code
def yX11_tear : MethodName := ⟨RX11, "tear", "()I"⟩
abbrev cX11_judge : ByteArray := prog_1_method_41_code
def yX11_judge : MethodName := ⟨RX11, "judge", "()I"⟩
abbrev cX11_seed : ByteArray := prog_1_method_42_code
def yX11_seed : MethodName := ⟨RX11, "seed", "(I)I"⟩
abbrev cX11_keep : ByteArray := prog_1_method_43_code
def yX11_keep : MethodName := ⟨RX11, "keep", "(I)I"⟩
abbrev cX11_goBack : ByteArray := prog_1_method_44_code
def yX11_goBack : MethodName := ⟨RX11, "goBack", "(I)I"⟩
abbrev cX11_within : ByteArray := prog_1_method_45_code
def yX11_within : MethodName := ⟨RX11, "within", "(III)Z"⟩
abbrev cX11_noRealm : ByteArray := prog_1_method_46_code
def yX11_noRealm : MethodName := ⟨RX11, "noRealm", "()Z"⟩
abbrev cX11_noRodAtHand : ByteArray := prog_1_method_47_code
def yX11_noRodAtHand : MethodName := ⟨RX11, "noRodAtHand", "()Z"⟩
abbrev cX11_isOffice : ByteArray := prog_1_method_48_code
def yX11_isOffice : MethodName := ⟨RX11, "isOffice", "(I)Z"⟩
abbrev cX11_isPerson : ByteArray := prog_1_method_49_code
def yX11_isPerson : MethodName := ⟨RX11, "isPerson", "(I)Z"⟩
abbrev cX11_refusalOfYears : ByteArray := prog_1_method_50_code
def yX11_refusalOfYears : MethodName := ⟨RX11, "refusalOfYears", "(I)I"⟩
abbrev cX11_refusalOfTrial : ByteArray := prog_1_method_51_code
def yX11_refusalOfTrial : MethodName := ⟨RX11, "refusalOfTrial", "(II)I"⟩
abbrev cX11_draw : ByteArray := prog_1_method_52_code
def yX11_draw : MethodName := ⟨RX11, "draw", "(I)I"⟩
abbrev cX11_meetChance : ByteArray := prog_1_method_53_code
def yX11_meetChance : MethodName := ⟨RX11, "meetChance", "()V"⟩
abbrev cX11_bendByDraw : ByteArray := prog_1_method_54_code
def yX11_bendByDraw : MethodName := ⟨RX11, "bendByDraw", "()V"⟩
abbrev cX11_produceByDraw : ByteArray := prog_1_method_55_code
def yX11_produceByDraw : MethodName := ⟨RX11, "produceByDraw", "()V"⟩
abbrev cX11_beginTrial : ByteArray := prog_1_method_56_code
def yX11_beginTrial : MethodName := ⟨RX11, "beginTrial", "()V"⟩
def RX12 : String := "RulerFootModel"
def TX12 : u_T := fun k => match k with
  | 0 => ("RulerFootModel", "first", "I", false)
  | 1 => ("RulerFootModel", "wears", "I", false)
  | 2 => ("RulerFootModel", "nicks", "I", false)
  | 3 => ("RulerFootModel", "nickAt", "[I", true)
  | 4 => ("RulerFootModel", "offices", "I", false)
  | 5 => ("RulerFootModel", "least", "[I", true)
  | 6 => ("RulerFootModel", "greatest", "[I", true)
  | 7 => ("RulerFootModel", "persons", "I", false)
  | 8 => ("RulerFootModel", "tallTold", "[I", true)
  | 9 => ("RulerFootModel", "sways", "I", false)
  | 10 => ("RulerFootModel", "sway", "[I", true)
  | 11 => ("RulerFootModel", "now", "[I", true)
  | 12 => ("RulerFootModel", "seed", "I", false)
  | 13 => ("RulerFootModel", "text", "[I", true)
  | 14 => ("RulerFootModel", "texted", "I", false)
  | 15 => ("RulerFootModel", "faultPlace", "I", false)
  | 16 => ("RulerFootModel", "at0", "I", false)
  | 17 => ("RulerFootModel", "number", "I", false)
  | 18 => ("RulerFootModel", "numberAt", "I", false)
  | 19 => ("RulerFootModel", "readFirst", "I", false)
  | 20 => ("RulerFootModel", "readWears", "I", false)
  | 21 => ("RulerFootModel", "readNicks", "I", false)
  | 22 => ("RulerFootModel", "readNickAt", "[I", true)
  | 23 => ("RulerFootModel", "readOffices", "I", false)
  | 24 => ("RulerFootModel", "readLeast", "[I", true)
  | 25 => ("RulerFootModel", "readGreatest", "[I", true)
  | 26 => ("RulerFootModel", "readPersons", "I", false)
  | 27 => ("RulerFootModel", "readTall", "[I", true)
  | 28 => ("RulerFootModel", "readSways", "I", false)
  | 29 => ("RulerFootModel", "readSway", "[I", true)
  | 30 => ("RulerFootModel", "undos", "I", false)
  | 31 => ("RulerFootModel", "past", "[I", true)
  | 32 => ("RulerFootModel", "times", "[I", true)
  | 33 => ("RulerFootModel", "filled", "[I", true)
  | 34 => ("RulerFootModel", "seen", "I", false)
  | 35 => ("RulerFootModel", "seenFeet", "[I", true)
  | 36 => ("RulerFootModel", "seenIs", "[I", true)
  | 37 => ("RulerFootModel", "counts", "[I", true)
  | 38 => ("RulerFootModel", "booked", "I", false)
  | 39 => ("RulerFootModel", "bookOf", "[I", true)
  | 40 => ("RulerFootModel", "bookIs", "[I", true)
  | 41 => ("RulerFootModel", "images", "[I", true)
  | _ => ("RulerFootModel", "isKept", "[Z", true)
def tyX12 : Nat → FieldType := fun k => match k with
  | 0 => .int
  | 1 => .int
  | 2 => .int
  | 3 => .array .int
  | 4 => .int
  | 5 => .array .int
  | 6 => .array .int
  | 7 => .int
  | 8 => .array .int
  | 9 => .int
  | 10 => .array .int
  | 11 => .array .int
  | 12 => .int
  | 13 => .array .int
  | 14 => .int
  | 15 => .int
  | 16 => .int
  | 17 => .int
  | 18 => .int
  | 19 => .int
  | 20 => .int
  | 21 => .int
  | 22 => .array .int
  | 23 => .int
  | 24 => .array .int
  | 25 => .array .int
  | 26 => .int
  | 27 => .array .int
  | 28 => .int
  | 29 => .array .int
  | 30 => .int
  | 31 => .array .int
  | 32 => .array .int
  | 33 => .array .int
  | 34 => .int
  | 35 => .array .int
  | 36 => .array .int
  | 37 => .array .int
  | 38 => .int
  | 39 => .array .int
  | 40 => .array .int
  | 41 => .array .int
  | _ => .array .boolean
theorem nmX12 : ∀ a, a < 43 → ∀ b, b < 43 → a ≠ b → (TX12 a).2.1 ≠ (TX12 b).2.1 := by decide +kernel
theorem tyX12_ok : ∀ k, k < 43 → parseFieldDescriptor (TX12 k).2.2.1 = some (tyX12 k) := by decide +kernel
abbrev cX12_init : ByteArray := prog_14_method_1_code
def yX12_init : MethodName := ⟨RX12, "<init>", "()V"⟩
abbrev cX12_in : ByteArray := prog_14_method_3_code
def yX12_in : MethodName := ⟨RX12, "in", "(JJJ)Z"⟩
abbrev cX12_has : ByteArray := prog_14_method_4_code
def yX12_has : MethodName := ⟨RX12, "has", "(II)Z"⟩
abbrev cX12_size : ByteArray := prog_14_method_5_code
def yX12_size : MethodName := ⟨RX12, "size", "(I)I"⟩
abbrev cX12_isRealm : ByteArray := prog_14_method_6_code
def yX12_isRealm : MethodName := ⟨RX12, "isRealm", "()Z"⟩
abbrev cX12_isOffice : ByteArray := prog_14_method_7_code
def yX12_isOffice : MethodName := ⟨RX12, "isOffice", "(I)Z"⟩
abbrev cX12_isPerson : ByteArray := prog_14_method_8_code
def yX12_isPerson : MethodName := ⟨RX12, "isPerson", "(I)Z"⟩
abbrev cX12_feed : ByteArray := prog_14_method_9_code
def yX12_feed : MethodName := ⟨RX12, "feed", "(I)I"⟩
abbrev cX12_here : ByteArray := prog_14_method_10_code
def yX12_here : MethodName := ⟨RX12, "here", "()I"⟩
abbrev cX12_fails : ByteArray := prog_14_method_11_code
def yX12_fails : MethodName := ⟨RX12, "fails", "(II)I"⟩
abbrev cX12_takeNumber : ByteArray := prog_14_method_12_code
def yX12_takeNumber : MethodName := ⟨RX12, "takeNumber", "(II)I"⟩
abbrev cX12_into : ByteArray := prog_14_method_13_code
def yX12_into : MethodName := ⟨RX12, "into", "([IIII)I"⟩
abbrev cX12_takeRod : ByteArray := prog_14_method_14_code
def yX12_takeRod : MethodName := ⟨RX12, "takeRod", "()I"⟩
abbrev cX12_takeNick : ByteArray := prog_14_method_15_code
def yX12_takeNick : MethodName := ⟨RX12, "takeNick", "()I"⟩
abbrev cX12_takeOffice : ByteArray := prog_14_method_16_code
def yX12_takeOffice : MethodName := ⟨RX12, "takeOffice", "()I"⟩
abbrev cX12_takePerson : ByteArray := prog_14_method_17_code
def yX12_takePerson : MethodName := ⟨RX12, "takePerson", "()I"⟩
abbrev cX12_takeSways : ByteArray := prog_14_method_18_code
def yX12_takeSways : MethodName := ⟨RX12, "takeSways", "()I"⟩
abbrev cX12_isFull : ByteArray := prog_14_method_19_code
def yX12_isFull : MethodName := ⟨RX12, "isFull", "(I)Z"⟩
abbrev cX12_takeBody : ByteArray := prog_14_method_20_code
def yX12_takeBody : MethodName := ⟨RX12, "takeBody", "(I)I"⟩
abbrev cX12_takeClause : ByteArray := prog_14_method_21_code
def yX12_takeClause : MethodName := ⟨RX12, "takeClause", "()I"⟩
abbrev cX12_copyRow : ByteArray := prog_14_method_22_code
def yX12_copyRow : MethodName := ⟨RX12, "copyRow", "([I[II)V"⟩
abbrev cX12_takeRead : ByteArray := prog_14_method_23_code
def yX12_takeRead : MethodName := ⟨RX12, "takeRead", "()V"⟩
abbrev cX12_realm : ByteArray := prog_14_method_24_code
def yX12_realm : MethodName := ⟨RX12, "realm", "()I"⟩
abbrev cX12_fault : ByteArray := prog_14_method_25_code
def yX12_fault : MethodName := ⟨RX12, "fault", "()I"⟩
abbrev cX12_swayOf : ByteArray := prog_14_method_26_code
def yX12_swayOf : MethodName := ⟨RX12, "swayOf", "(I)I"⟩
abbrev cX12_bound : ByteArray := prog_14_method_27_code
def yX12_bound : MethodName := ⟨RX12, "bound", "(I)I"⟩
abbrev cX12_measuredBy : ByteArray := prog_14_method_28_code
def yX12_measuredBy : MethodName := ⟨RX12, "measuredBy", "(I)I"⟩
abbrev cX12_fits : ByteArray := prog_14_method_29_code
def yX12_fits : MethodName := ⟨RX12, "fits", "(II)Z"⟩
abbrev cX12_fitsOf : ByteArray := prog_14_method_30_code
def yX12_fitsOf : MethodName := ⟨RX12, "fitsOf", "(I)I"⟩
abbrev cX12_longest : ByteArray := prog_14_method_31_code
def yX12_longest : MethodName := ⟨RX12, "longest", "()I"⟩
abbrev cX12_told : ByteArray := prog_14_method_32_code
def yX12_told : MethodName := ⟨RX12, "told", "(I)I"⟩
abbrev cX12_warped : ByteArray := prog_14_method_33_code
def yX12_warped : MethodName := ⟨RX12, "warped", "()I"⟩
abbrev cX12_nick : ByteArray := prog_14_method_34_code
def yX12_nick : MethodName := ⟨RX12, "nick", "(I)I"⟩
abbrev cX12_office : ByteArray := prog_14_method_35_code
def yX12_office : MethodName := ⟨RX12, "office", "(II)I"⟩
abbrev cX12_person : ByteArray := prog_14_method_36_code
def yX12_person : MethodName := ⟨RX12, "person", "(II)I"⟩
abbrev cX12_thing : ByteArray := prog_14_method_37_code
def yX12_thing : MethodName := ⟨RX12, "thing", "(II)I"⟩
abbrev cX12_hand : ByteArray := prog_14_method_38_code
def yX12_hand : MethodName := ⟨RX12, "hand", "(I)I"⟩
abbrev cX12_remember : ByteArray := prog_14_method_39_code
def yX12_remember : MethodName := ⟨RX12, "remember", "()V"⟩
abbrev cX12_pass : ByteArray := prog_14_method_40_code
def yX12_pass : MethodName := ⟨RX12, "pass", "()V"⟩
abbrev cX12_yearsRefused : ByteArray := prog_14_method_41_code
def yX12_yearsRefused : MethodName := ⟨RX12, "yearsRefused", "(I)I"⟩
abbrev cX12_year : ByteArray := prog_14_method_42_code
def yX12_year : MethodName := ⟨RX12, "year", "(I)I"⟩
abbrev cX12_canUse : ByteArray := prog_14_method_43_code
def yX12_canUse : MethodName := ⟨RX12, "canUse", "()Z"⟩
abbrev cX12_madeBy : ByteArray := prog_14_method_44_code
def yX12_madeBy : MethodName := ⟨RX12, "madeBy", "(II)I"⟩
abbrev cX12_makeNow : ByteArray := prog_14_method_45_code
def yX12_makeNow : MethodName := ⟨RX12, "makeNow", "(I)I"⟩
abbrev cX12_make : ByteArray := prog_14_method_46_code
def yX12_make : MethodName := ⟨RX12, "make", "(II)I"⟩
abbrev cX12_warp : ByteArray := prog_14_method_47_code
def yX12_warp : MethodName := ⟨RX12, "warp", "(I)I"⟩
abbrev cX12_planed : ByteArray := prog_14_method_48_code
def yX12_planed : MethodName := ⟨RX12, "planed", "(II)I"⟩
abbrev cX12_plane : ByteArray := prog_14_method_49_code
def yX12_plane : MethodName := ⟨RX12, "plane", "()I"⟩
abbrev cX12_lose : ByteArray := prog_14_method_50_code
def yX12_lose : MethodName := ⟨RX12, "lose", "(Z)I"⟩
abbrev cX12_hold : ByteArray := prog_14_method_51_code
def yX12_hold : MethodName := ⟨RX12, "hold", "(I)I"⟩
abbrev cX12_drop : ByteArray := prog_14_method_52_code
def yX12_drop : MethodName := ⟨RX12, "drop", "()I"⟩
abbrev cX12_shorten : ByteArray := prog_14_method_53_code
def yX12_shorten : MethodName := ⟨RX12, "shorten", "(II)I"⟩
abbrev cX12_draw : ByteArray := prog_14_method_54_code
def yX12_draw : MethodName := ⟨RX12, "draw", "(I)I"⟩
abbrev cX12_chance : ByteArray := prog_14_method_55_code
def yX12_chance : MethodName := ⟨RX12, "chance", "()V"⟩
abbrev cX12_drift : ByteArray := prog_14_method_56_code
def yX12_drift : MethodName := ⟨RX12, "drift", "(I)I"⟩
abbrev cX12_undo : ByteArray := prog_14_method_57_code
def yX12_undo : MethodName := ⟨RX12, "undo", "()I"⟩
abbrev cX12_longBehind : ByteArray := prog_14_method_58_code
def yX12_longBehind : MethodName := ⟨RX12, "longBehind", "(I)I"⟩
abbrev cX12_warpBehind : ByteArray := prog_14_method_59_code
def yX12_warpBehind : MethodName := ⟨RX12, "warpBehind", "(I)I"⟩
abbrev cX12_longAt : ByteArray := prog_14_method_60_code
def yX12_longAt : MethodName := ⟨RX12, "longAt", "(II)I"⟩
abbrev cX12_firstShort : ByteArray := prog_14_method_61_code
def yX12_firstShort : MethodName := ⟨RX12, "firstShort", "(I)I"⟩
abbrev cX12_planeWhen : ByteArray := prog_14_method_62_code
def yX12_planeWhen : MethodName := ⟨RX12, "planeWhen", "(II)I"⟩
abbrev cX12_layOn : ByteArray := prog_14_method_63_code
def yX12_layOn : MethodName := ⟨RX12, "layOn", "(II)V"⟩
abbrev cX12_findTimes : ByteArray := prog_14_method_64_code
def yX12_findTimes : MethodName := ⟨RX12, "findTimes", "(I)V"⟩
abbrev cX12_had : ByteArray := prog_14_method_65_code
def yX12_had : MethodName := ⟨RX12, "had", "(I)I"⟩
abbrev cX12_parts : ByteArray := prog_14_method_66_code
def yX12_parts : MethodName := ⟨RX12, "parts", "(I)I"⟩
abbrev cX12_fold : ByteArray := prog_14_method_67_code
def yX12_fold : MethodName := ⟨RX12, "fold", "(I)I"⟩
abbrev cX12_findFilled : ByteArray := prog_14_method_68_code
def yX12_findFilled : MethodName := ⟨RX12, "findFilled", "()V"⟩
abbrev cX12_whoGets : ByteArray := prog_14_method_69_code
def yX12_whoGets : MethodName := ⟨RX12, "whoGets", "(II)I"⟩
abbrev cX12_posts : ByteArray := prog_14_method_70_code
def yX12_posts : MethodName := ⟨RX12, "posts", "(I)I"⟩
abbrev cX12_toShorten : ByteArray := prog_14_method_71_code
def yX12_toShorten : MethodName := ⟨RX12, "toShorten", "(II)I"⟩
abbrev cX12_wasWarped : ByteArray := prog_14_method_72_code
def yX12_wasWarped : MethodName := ⟨RX12, "wasWarped", "(III)I"⟩
abbrev cX12_alike : ByteArray := prog_14_method_73_code
def yX12_alike : MethodName := ⟨RX12, "alike", "(I)I"⟩
abbrev cX12_mean : ByteArray := prog_14_method_74_code
def yX12_mean : MethodName := ⟨RX12, "mean", "()I"⟩
abbrev cX12_middle : ByteArray := prog_14_method_75_code
def yX12_middle : MethodName := ⟨RX12, "middle", "()I"⟩
abbrev cX12_handBy : ByteArray := prog_14_method_76_code
def yX12_handBy : MethodName := ⟨RX12, "handBy", "(IZ)I"⟩
abbrev cX12_hands : ByteArray := prog_14_method_77_code
def yX12_hands : MethodName := ⟨RX12, "hands", "(I)I"⟩
abbrev cX12_tens : ByteArray := prog_14_method_78_code
def yX12_tens : MethodName := ⟨RX12, "tens", "(III)I"⟩
abbrev cX12_lean : ByteArray := prog_14_method_79_code
def yX12_lean : MethodName := ⟨RX12, "lean", "(III)I"⟩
abbrev cX12_foundBy : ByteArray := prog_14_method_80_code
def yX12_foundBy : MethodName := ⟨RX12, "foundBy", "(II)I"⟩
abbrev cX12_see : ByteArray := prog_14_method_81_code
def yX12_see : MethodName := ⟨RX12, "see", "(II)I"⟩
abbrev cX12_couldBe : ByteArray := prog_14_method_82_code
def yX12_couldBe : MethodName := ⟨RX12, "couldBe", "(II)Z"⟩
abbrev cX12_rods : ByteArray := prog_14_method_83_code
def yX12_rods : MethodName := ⟨RX12, "rods", "(I)I"⟩
abbrev cX12_greatestPart : ByteArray := prog_14_method_84_code
def yX12_greatestPart : MethodName := ⟨RX12, "greatestPart", "(I)I"⟩
abbrev cX12_door : ByteArray := prog_14_method_85_code
def yX12_door : MethodName := ⟨RX12, "door", "()I"⟩
abbrev cX12_write : ByteArray := prog_14_method_86_code
def yX12_write : MethodName := ⟨RX12, "write", "(II)I"⟩
abbrev cX12_tear : ByteArray := prog_14_method_87_code
def yX12_tear : MethodName := ⟨RX12, "tear", "()I"⟩
abbrev cX12_judge : ByteArray := prog_14_method_88_code
def yX12_judge : MethodName := ⟨RX12, "judge", "()I"⟩
abbrev cX12_seed : ByteArray := prog_14_method_89_code
def yX12_seed : MethodName := ⟨RX12, "seed", "(I)I"⟩
abbrev cX12_keep : ByteArray := prog_14_method_90_code
def yX12_keep : MethodName := ⟨RX12, "keep", "(I)I"⟩
abbrev cX12_goBack : ByteArray := prog_14_method_91_code
def yX12_goBack : MethodName := ⟨RX12, "goBack", "(I)I"⟩
def RJ9 : String := "java/lang/Math"
abbrev cJ9_abs_0f7a4 : ByteArray := prog_15_method_59_code
def yJ9_abs_0f7a4 : MethodName := ⟨RJ9, "abs", "(I)I"⟩
abbrev cJ9_max_7cf53 : ByteArray := prog_15_method_65_code
def yJ9_max_7cf53 : MethodName := ⟨RJ9, "max", "(II)I"⟩
abbrev cJ9_min_7cf53 : ByteArray := prog_15_method_69_code
def yJ9_min_7cf53 : MethodName := ⟨RJ9, "min", "(II)I"⟩
def RJ10 : String := "java/lang/System"
def RJ7 : String := "java/util/Arrays"
abbrev cJ7_fill_53178 : ByteArray := prog_17_method_103_code
def yJ7_fill_53178 : MethodName := ⟨RJ7, "fill", "([II)V"⟩
def RL : String := "RulerFootLaw"
abbrev cL_law : ByteArray := code
def yL_law : MethodName := ⟨RL, "law", "([I)Z"⟩
abbrev vwCl : List vw_C := [(RX0, TX0, 3), (RX1, TX1, 2), (RX2, TX2, 5), (RX3, TX3, 3), (RX4, TX4, 3), (RX5, TX5, 6), (RX6, TX6, 4), (RX7, TX7, 6), (RX8, TX8, 4), (RX9, TX9, 11), (RX10, TX10, 5), (RX11, TX11, 17), (RX12, TX12, 43)]
end
section
def pm_ftl : List (List (Option Nat)) := [[some 0, some 0, none], [some 0, none], [some 0, some 0, none, some 0, none], [some 2, none, none], [some 0, some 0, none], [none, none, some 0, none, none, none], [none, none, none, none], [some 0, some 0, none, some 0, some 0, some 0], [some 9, some 13, some 4, some 0], [none, none, some 0, none, some 0, some 0, none, some 0, none, some 0, none], [some 0, some 0, some 0, some 0, none], [some 0, none, none, some 8, some 12, some 12, some 11, some 9, some 6, some 2, some 1, some 0, none, some 5, some 7, some 10, some 3], [none, none, none, some 0, none, some 0, some 0, none, some 0, none, some 0, some 0, none, some 0, none, none, none, none, none, none, none, none, some 0, none, some 0, some 0, none, some 0, none, some 0, none, some 0, some 0, some 0, none, some 0, some 0, some 0, none, some 0, some 0, some 0, some 1]]
def pm_nest : List Cond := [.methodLinkNest RX5 118 yX11_within RX11, .methodLinkNest RX2 50 yX11_within RX11, .arrayOver (.object "RulerFoot$Standing")]
def lw_good : List Cond := lw_tbl.filter goodWord
theorem lw_gm {w : Cond} (i : Nat) (h : lw_tbl[i]? = some w) (g : goodWord w = true) : w ∈ lw_good := List.mem_filter.mpr ⟨List.mem_of_getElem? h, g⟩
theorem pm_nest_warm {s U : State} (hW : s.WarmedH U.vm) (h : ∀ w ∈ pm_nest, va_Nw w s) : ∀ w ∈ pm_nest, va_Nw w U := by
  intro w hw
  have h' := h w hw
  simp only [pm_nest, List.mem_cons, List.not_mem_nil, or_false] at hw
  rcases hw with rfl | rfl | rfl
  · exact va_Nw.warmM hW h'
  · exact va_Nw.warmM hW h'
  · exact va_AO.moved hW.alike h'
theorem pm_nest_same {u U : State} (hv : u.vm = U.vm) (h : ∀ w ∈ pm_nest, va_Nw w u) : ∀ w ∈ pm_nest, va_Nw w U := by
  intro w hw
  have h' := h w hw
  simp only [pm_nest, List.mem_cons, List.not_mem_nil, or_false] at hw
  rcases hw with rfl | rfl | rfl
  · exact va_Nw.same rfl hv h'
  · exact va_Nw.same rfl hv h'
  · exact va_AO.moved (by rw [hv]; exact Vm.Alike.refl _) h'
/-! WORLDS BY PLACES: a world is a list of shapes (the k-th place's kind and size; place 0 is null), ints and references by place and slot. A shape (0, n): int[n]; (1, n): boolean[n]; (2, n): Standing[n]; (3 + ci, N): an object of class ci with N fields. -/
abbrev pm_S : Type := List (Nat × Nat)
abbrev pm_H : Type := (Nat → Nat → Int32) × (Nat → Nat → Nat)
def pm_sh (S : pm_S) : Nat → Option (Nat × Nat)
  | 0 => none
  | k + 1 => S[k]?
def pm_tot : pm_S → Nat
  | [] => 0
  | t :: r => t.2 + pm_tot r
theorem pm_tot_app (S S' : pm_S) : pm_tot (S ++ S') = pm_tot S + pm_tot S' := by
  induction S with
  | nil => simp [pm_tot]
  | cons a t ih => simp [pm_tot, ih, Nat.add_assoc]
def pm_rv (B : Nat) : Nat → Value
  | 0 => .null
  | k + 1 => .ref (B + (k + 1))
def pm_ro (B : Nat) : Nat → Option Nat
  | 0 => none
  | k + 1 => some (B + (k + 1))
theorem pm_rf (B r : Nat) : va_rf (pm_ro B r) = pm_rv B r := by cases r <;> rfl
def pm_v (B : Nat) : Value → Value
  | .ref r => pm_rv B r
  | v => v
theorem pm_cat (B : Nat) (v : Value) : (pm_v B v).category = v.category := by
  cases v with
  | ref r => cases r <;> rfl
  | _ => rfl
theorem pm_rv_pos {B r : Nat} (h : 0 < r) : pm_rv B r = .ref (B + r) := by
  cases r with
  | zero => exact absurd h (Nat.lt_irrefl _)
  | succ k => rfl
theorem pm_ro_pos {B r : Nat} (h : 0 < r) : pm_ro B r = some (B + r) := by
  cases r with
  | zero => exact absurd h (Nat.lt_irrefl _)
  | succ k => rfl
theorem pm_sh_pos {S : pm_S} {q : Nat} {t : Nat × Nat} (h : pm_sh S q = some t) : 0 < q := by
  cases q with
  | zero => cases h
  | succ k => exact Nat.succ_pos k
theorem pm_sh_le {S : pm_S} {q : Nat} {t : Nat × Nat} (h : pm_sh S q = some t) : q ≤ S.length := by
  cases q with
  | zero => cases h
  | succ k => exact (List.getElem?_eq_some_iff.mp h).1
theorem pm_sh_app {S S' : pm_S} {q : Nat} {t : Nat × Nat} (h : pm_sh S q = some t) : pm_sh (S ++ S') q = some t := by
  cases q with
  | zero => cases h
  | succ k =>
    show (S ++ S')[k]? = some t
    rw [List.getElem?_append_left (List.getElem?_eq_some_iff.mp h).1]
    exact h
/-- the tags of a class's reference fields (none: an int or a boolean) -/
def pm_ft (ci k : Nat) : Option Nat := (pm_ftl.getD ci []).getD k none
def pm_fn (ci : Nat) : Nat := (pm_ftl.getD ci []).length
def pm_fv (B : Nat) (σ : pm_H) (q ci k : Nat) : Value := if (pm_ft ci k).isSome then pm_rv B (σ.2 q k) else .int (σ.1 q k)
def pm_e (aC : Nat → ClassId) (B : Nat) (σ : pm_H) (q : Nat) : Nat × Nat → va_E
  | (0, n) => .inl (aC 0, n, .inl (σ.1 q))
  | (1, n) => .inl (aC 1, n, .inl (σ.1 q))
  | (2, n) => .inl (aC 2, n, .inr (.inr (.inr (.inr (fun j => pm_ro B (σ.2 q j))))))
  | (ci + 3, _) => .inr (ci, (List.range (pm_fn ci)).map (pm_fv B σ q ci))
def pm_ws (aC : Nat → ClassId) (B : Nat) (S : pm_S) (σ : pm_H) : va_W := S.mapIdx (fun k t => (B + (k + 1), pm_e aC B σ (k + 1) t))
theorem pm_e_congr {aC : Nat → ClassId} {B : Nat} {σ σ' : pm_H} {q : Nat} (t : Nat × Nat) (h1 : σ'.1 q = σ.1 q) (h2 : σ'.2 q = σ.2 q) : pm_e aC B σ' q t = pm_e aC B σ q t := by
  obtain ⟨a, n⟩ := t
  match a with
  | 0 => simp [pm_e, h1]
  | 1 => simp [pm_e, h1]
  | 2 => simp [pm_e, h2]
  | ci + 3 =>
    simp only [pm_e]
    congr 2
    apply List.map_congr_left
    intro k _
    simp [pm_fv, h1, h2]
theorem pm_ws_at {aC : Nat → ClassId} {B : Nat} {S : pm_S} {σ : pm_H} (k : Nat) : (pm_ws aC B S σ)[k]? = (S[k]?).map (fun t => (B + (k + 1), pm_e aC B σ (k + 1) t)) := by
  simp [pm_ws, List.getElem?_mapIdx]
theorem pm_ws_get {aC : Nat → ClassId} {B : Nat} {S : pm_S} {σ : pm_H} {q : Nat} {t : Nat × Nat} (h : pm_sh S q = some t) : (pm_ws aC B S σ)[q - 1]? = some (B + q, pm_e aC B σ q t) := by
  cases q with
  | zero => cases h
  | succ k =>
    have h' : S[k]? = some t := h
    rw [Nat.add_sub_cancel, pm_ws_at, h']
    rfl
theorem pm_ws_set {aC : Nat → ClassId} {B : Nat} {S : pm_S} {σ σ' : pm_H} {q : Nat} {t : Nat × Nat} {e : va_E} (h : pm_sh S q = some t) (he : pm_e aC B σ' q t = e) (h1 : ∀ a, a ≠ q → σ'.1 a = σ.1 a) (h2 : ∀ a, a ≠ q → σ'.2 a = σ.2 a) :
    (pm_ws aC B S σ).set (q - 1) (B + q, e) = pm_ws aC B S σ' := by
  have hg := pm_ws_get (aC := aC) (B := B) (σ := σ) h
  have hl := (List.getElem?_eq_some_iff.mp hg).1
  have hp := pm_sh_pos h
  apply List.ext_getElem?
  intro i
  by_cases hi : i = q - 1
  · subst hi
    rw [List.getElem?_set_self hl, pm_ws_get h, he]
  · rw [List.getElem?_set_ne (Ne.symm hi), pm_ws_at, pm_ws_at]
    cases hS : S[i]? with
    | none => rfl
    | some u =>
      show some (B + (i + 1), pm_e aC B σ (i + 1) u) = some (B + (i + 1), pm_e aC B σ' (i + 1) u)
      rw [pm_e_congr u (h1 (i + 1) (by omega)) (h2 (i + 1) (by omega))]
theorem pm_ws_push {aC : Nat → ClassId} {B : Nat} {S : pm_S} {σ : pm_H} (t : Nat × Nat) : pm_ws aC B (S ++ [t]) σ = pm_ws aC B S σ ++ [(B + (S.length + 1), pm_e aC B σ (S.length + 1) t)] := by
  simp [pm_ws, List.mapIdx_append]
def pm_A (al : Bool) (B n : Nat) : Nat → Prop := fun q => B < q ∧ (al = false → q ≤ B + n)
theorem pm_D {al : Bool} {aC : Nat → ClassId} {B n : Nat} {S : pm_S} {σ : pm_H} (h : al = false → S.length ≤ n) : va_D (pm_A al B n) (pm_ws aC B S σ) := by
  have key : ∀ (k : Nat) (q : Nat × va_E), (pm_ws aC B S σ)[k]? = some q → q.1 = B + (k + 1) ∧ k < S.length := by
    intro k q hk
    rw [pm_ws_at] at hk
    cases hS : S[k]? with
    | none => rw [hS] at hk; cases hk
    | some t =>
      rw [hS] at hk
      cases hk
      exact ⟨rfl, (List.getElem?_eq_some_iff.mp hS).1⟩
  refine ⟨fun i j p q hi hj hpq => ?_, fun k q hk => ?_⟩
  · have a := (key i p hi).1
    have b := (key j q hj).1
    omega
  · have a := key k q hk
    refine ⟨by omega, fun z => ?_⟩
    have := h z
    omega
def pm_si (σ : pm_H) (q k : Nat) (x : Int32) : pm_H := (fun a => if a = q then upd (σ.1 q) k x else σ.1 a, σ.2)
def pm_sr (σ : pm_H) (q k r : Nat) : pm_H := (σ.1, fun a => if a = q then va_up (σ.2 q) k r else σ.2 a)
/-- a whole row of ints put anew -/
def pm_sa (σ : pm_H) (q : Nat) (f : Nat → Int32) : pm_H := (fun a => if a = q then f else σ.1 a, σ.2)
theorem pm_si_1 (σ : pm_H) (q k : Nat) (x : Int32) (a j : Nat) : (pm_si σ q k x).1 a j = if a = q ∧ j = k then x else σ.1 a j := by
  by_cases ha : a = q
  · subst ha
    by_cases hj : j = k <;> simp [pm_si, upd, hj]
  · simp [pm_si, ha]
theorem pm_si_2 (σ : pm_H) (q k : Nat) (x : Int32) : (pm_si σ q k x).2 = σ.2 := rfl
theorem pm_sr_1 (σ : pm_H) (q k r : Nat) : (pm_sr σ q k r).1 = σ.1 := rfl
theorem pm_sr_2 (σ : pm_H) (q k r a j : Nat) : (pm_sr σ q k r).2 a j = if a = q ∧ j = k then r else σ.2 a j := by
  by_cases ha : a = q
  · subst ha
    by_cases hj : j = k <;> simp [pm_sr, va_up, hj]
  · simp [pm_sr, ha]
theorem pm_sa_1 (σ : pm_H) (q : Nat) (f : Nat → Int32) (a : Nat) : (pm_sa σ q f).1 a = if a = q then f else σ.1 a := rfl
theorem pm_sa_2 (σ : pm_H) (q : Nat) (f : Nat → Int32) : (pm_sa σ q f).2 = σ.2 := rfl
theorem pm_fs_set {N k : Nat} {f g : Nat → Value} {v : Value} (hg : g k = v) (ho : ∀ j, j ≠ k → g j = f j) : ((List.range N).map f).set k v = (List.range N).map g := by
  apply List.ext_getElem?
  intro i
  by_cases hi : k = i
  · subst hi
    by_cases hl : k < N
    · rw [List.getElem?_set_self (by simpa using hl)]
      simp [hl, hg]
    · simp [hl]
  · rw [List.getElem?_set_ne hi]
    by_cases hl : i < N
    · simp [hl, ho i (Ne.symm hi)]
    · simp [hl]
theorem pm_fs_get {N k : Nat} {f : Nat → Value} (h : k < N) : ((List.range N).map f)[k]? = some (f k) := by simp [h]
def pm_tys (aC : Nat → ClassId) : List (ClassId × FieldType) := [(aC 0, .int), (aC 1, .boolean), (aC 2, .object "RulerFoot$Standing")]
def pm_is (S : pm_S) (q t : Nat) : Prop := ∃ n, pm_sh S q = some (t, n)
def pm_len (S : pm_S) (q : Nat) : Nat := match pm_sh S q with
  | some t => t.2
  | none => 0
theorem pm_is.at {S : pm_S} {q t : Nat} (h : pm_is S q t) : pm_sh S q = some (t, pm_len S q) := by
  obtain ⟨n, h⟩ := h
  rw [pm_len, h]
theorem pm_is.pos {S : pm_S} {q t : Nat} (h : pm_is S q t) : 0 < q := pm_sh_pos h.at
/-- the references are what their fields' types say, and none is null -/
def pm_T (S : pm_S) (g : Nat → Nat → Nat) : Prop :=
  (∀ q ci k t, pm_is S q (ci + 3) → pm_ft ci k = some t → pm_is S (g q k) t) ∧ (∀ q j, pm_is S q 2 → j < pm_len S q → pm_is S (g q j) 11)
/-- what the world is at a call -/
def pm_P (D : va_G) (aC : Nat → ClassId) (B : Nat) (al : Bool) (S : pm_S) (σ : pm_H) (U : State) : Prop :=
  va_P D vwCl (pm_ws aC B S σ) U.heap ∧ va_K D vwCl (pm_tys aC) U ∧ (al = false → pm_T S σ.2) ∧ (al = true → U.heap.size = B + S.length + 1) ∧ ∀ w ∈ pm_nest, va_Nw w U
def pm_Q (D : va_G) (aC : Nat → ClassId) (B : Nat) (r : Option Value × pm_S × pm_H) (al : Bool) (n : Nat) : Array Value → State → Outcome → State → Prop := fun _ st oc t =>
  oc = .returned (r.1.map (pm_v B)) ∧ va_P D vwCl (pm_ws aC B r.2.1 r.2.2) t.heap ∧ (al = false → pm_T r.2.1 r.2.2.2) ∧ va_F (pm_A al B n) st t
abbrev pm_rm (d mc ms : Nat) : Room := { frames := d, cells := mc, slots := ms, locals := 38 * d }
abbrev pm_mc (S : pm_S) (r : Option Value × pm_S × pm_H) : Nat := r.2.1.length - S.length
abbrev pm_ms (S : pm_S) (r : Option Value × pm_S × pm_H) : Nat := pm_tot r.2.1 - pm_tot S
/-- a method's contract: from the world S, σ with these arguments it comes to r (its answer, the world behind it) -/
def pm_M (l : Launch) (y : MethodName) (cc : ByteArray) (nL : Nat) (ret : Option FieldType) (al : Bool) (d : Nat) (as : List Value) (S : pm_S) (σ : pm_H) (r : Option Value × pm_S × pm_H) : Prop :=
  ∀ (D : va_G) (aC : Nat → ClassId) (B : Nat), Met l y (.code y cc nL ret :: lw_good) (pm_rm d (pm_mc S r) (pm_ms S r)) (va_Pc (as.map (pm_v B)) (pm_P D aC B al S σ)) (pm_Q D aC B r al S.length) (pm_mc S r) (pm_ms S r) (pm_A al B S.length)
def pm_X (p : Program) (s : State) (m : MethodId) (args : Array Value) (meth : Method) (c : Code) (y : MethodName) (cc : ByteArray) (nL : Nat) (ret : Option FieldType) : Prop :=
  p.tables.exec = Jvm.exec ∧ c.code = cc ∧ c.maxLocals = nL ∧ s.vm.findClass y.cls = some m.cls ∧ (∀ w ∈ lw_good, w.before args s = true) ∧ meth.sig.returnType = ret ∧ meth.locks = false ∧ meth.name = y.name ∧ (Cond.code y cc nL ret).before args s = true ∧ ∀ w ∈ pm_nest, va_Nw w s
/-- the machine at a place of a method's code, with these locals and this stack, in the world S, σ: it comes to r -/
def pm_E (l : Launch) (y : MethodName) (cc : ByteArray) (nL : Nat) (ret : Option FieldType) (al : Bool) (d : Nat) (S0 : pm_S) (r : Option Value × pm_S × pm_H) (pc : Nat) (lv : List (Nat × Value)) (st : List Value) (S : pm_S) (σ : pm_H) : Prop :=
  ∀ (p : Program) (e : Env) (s : State) (m : MethodId) (args : Array Value) (below : List Frame) (meth : Method) (c : Code) (D : va_G) (aC : Nat → ClassId) (B : Nat) (H : Heap) (ls : Array Slot) (locs : List Loc) (cells slots : Nat),
    pm_X p s m args meth c y cc nL ret → va_K D vwCl (pm_tys aC) s → va_P D vwCl (pm_ws aC B S σ) H → va_S (pm_A al B S0.length) s.heap H locs →
    (al = false → S = S0 ∧ pm_T S σ.2) → (al = true → s.heap.size = B + S0.length + 1) → cells + S0.length = S.length → slots + pm_tot S0 = pm_tot S →
    lv_has ls nL (lv.map (fun q => (q.1, pm_v B q.2))) →
    W p l e (pm_rm d (pm_mc S0 r) (pm_ms S0 r)) s m args below meth c H locs cells slots (MQ below (pm_Q D aC B r al S0.length) args s (pm_mc S0 r) (pm_ms S0 r) (pm_A al B S0.length)) (F0 m pc ls (st.map (pm_v B)))
section PMR
variable {l : Launch} {y : MethodName} {cc : ByteArray} {nL : Nat} {ret : Option FieldType} {al : Bool} {d : Nat} {S0 : pm_S} {r : Option Value × pm_S × pm_H} {pc : Nat} {lv : List (Nat × Value)} {st : List Value} {S : pm_S} {σ : pm_H}
/-- one step of the machine that leaves locals and world alone -/
def pm_Go (l : Launch) (y : MethodName) (cc : ByteArray) (pc : Nat) (st : List Value) (pc' : Nat) (st' : List Value) : Prop :=
  ∀ (p : Program) (e : Env) (R : Room) (s : State) (m : MethodId) (args : Array Value) (below : List Frame) (meth : Method) (c : Code) (H : Heap) (locs : List Loc) (cells slots : Nat) (Q : State → Prop) (ls : Array Slot) (B : Nat),
    p.tables.exec = Jvm.exec → c.code = cc → s.vm.findClass y.cls = some m.cls → (∀ w ∈ lw_good, w.before args s = true) →
    W p l e R s m args below meth c H locs cells slots Q (F0 m pc' ls (st'.map (pm_v B))) → W p l e R s m args below meth c H locs cells slots Q (F0 m pc ls (st.map (pm_v B)))
theorem pm_go {pc' : Nat} {st' : List Value} (h : pm_Go l y cc pc st pc' st') (k : pm_E l y cc nL ret al d S0 r pc' lv st' S σ) : pm_E l y cc nL ret al d S0 r pc lv st S σ :=
  fun p e s m args below meth c D aC B H ls locs cells slots hX hK hP hS h1 h2 h3 h4 hl =>
    h p e _ s m args below meth c H locs cells slots _ ls B hX.1 hX.2.1 hX.2.2.2.1 hX.2.2.2.2.1 (k p e s m args below meth c D aC B H ls locs cells slots hX hK hP hS h1 h2 h3 h4 hl)
theorem pm_iconst {n : Int} (v : Int32) (hv : Int32.ofInt n = v) (hd : decode cc pc = .ok (.iconst n, 1)) (k : pm_E l y cc nL ret al d S0 r (pc + 1) lv (.int v :: st) S σ) : pm_E l y cc nL ret al d S0 r pc lv (st) S σ :=
  pm_go (fun _ _ _ _ _ _ _ _ _ _ _ _ _ _ _ _ hx hb ho ht w => lv_iconst hx hb hd hv w) k
theorem pm_bipush {n : Int} (v : Int32) (hv : (Int8.ofInt n).toInt32 = v) (hd : decode cc pc = .ok (.bipush n, 2)) (k : pm_E l y cc nL ret al d S0 r (pc + 2) lv (.int v :: st) S σ) : pm_E l y cc nL ret al d S0 r pc lv (st) S σ :=
  pm_go (fun _ _ _ _ _ _ _ _ _ _ _ _ _ _ _ _ hx hb ho ht w => lv_bipush hx hb hd hv w) k
theorem pm_sipush {n : Int} (v : Int32) (hv : (Int16.ofInt n).toInt32 = v) (hd : decode cc pc = .ok (.sipush n, 3)) (k : pm_E l y cc nL ret al d S0 r (pc + 3) lv (.int v :: st) S σ) : pm_E l y cc nL ret al d S0 r pc lv (st) S σ :=
  pm_go (fun _ _ _ _ _ _ _ _ _ _ _ _ _ _ _ _ hx hb ho ht w => lv_sipush hx hb hd hv w) k
theorem pm_lconst {n : Fin 2} (v : Int64) (hv : Int64.ofNat (n : Nat) = v) (hd : decode cc pc = .ok (.lconst n, 1)) (k : pm_E l y cc nL ret al d S0 r (pc + 1) lv (.long v :: st) S σ) : pm_E l y cc nL ret al d S0 r pc lv (st) S σ :=
  pm_go (fun _ _ _ _ _ _ _ _ _ _ _ _ _ _ _ _ hx hb ho ht w => lv_lconst hx hb hd hv w) k
theorem pm_ldc {i : Nat} {v : Int32} (hc : Cond.constant y.cls i v ∈ lw_good) (hd : decode cc pc = .ok (.ldc i, 2)) (k : pm_E l y cc nL ret al d S0 r (pc + 2) lv (.int v :: st) S σ) : pm_E l y cc nL ret al d S0 r pc lv (st) S σ :=
  pm_go (fun _ _ _ _ _ _ _ _ _ _ _ _ _ _ _ _ hx hb ho ht w => lv_ldc hx hb ho (ht _ hc) hd w) k
theorem pm_ldcw {i : Nat} {v : Int32} (hc : Cond.constant y.cls i v ∈ lw_good) (hd : decode cc pc = .ok (.ldc_w i, 3)) (k : pm_E l y cc nL ret al d S0 r (pc + 3) lv (.int v :: st) S σ) : pm_E l y cc nL ret al d S0 r pc lv (st) S σ :=
  pm_go (fun _ _ _ _ _ _ _ _ _ _ _ _ _ _ _ _ hx hb ho ht w => lv_ldcw hx hb ho (ht _ hc) hd w) k
theorem pm_ldc2 {i : Nat} {v : Int64} (hc : Cond.constantLong y.cls i v ∈ lw_good) (hd : decode cc pc = .ok (.ldc2_w i, 3)) (k : pm_E l y cc nL ret al d S0 r (pc + 3) lv (.long v :: st) S σ) : pm_E l y cc nL ret al d S0 r pc lv (st) S σ :=
  pm_go (fun _ _ _ _ _ _ _ _ _ _ _ _ _ _ _ _ hx hb ho ht w => lv_ldc2 hx hb ho (ht _ hc) hd w) k
theorem pm_iadd {x z : Int32} (hd : decode cc pc = .ok (.iadd, 1)) (k : pm_E l y cc nL ret al d S0 r (pc + 1) lv (.int (x + z) :: st) S σ) : pm_E l y cc nL ret al d S0 r pc lv (.int z :: .int x :: st) S σ :=
  pm_go (fun _ _ _ _ _ _ _ _ _ _ _ _ _ _ _ _ hx hb ho ht w => lv_iadd hx hb hd w) k
theorem pm_isub {x z : Int32} (hd : decode cc pc = .ok (.isub, 1)) (k : pm_E l y cc nL ret al d S0 r (pc + 1) lv (.int (x - z) :: st) S σ) : pm_E l y cc nL ret al d S0 r pc lv (.int z :: .int x :: st) S σ :=
  pm_go (fun _ _ _ _ _ _ _ _ _ _ _ _ _ _ _ _ hx hb ho ht w => lv_isub hx hb hd w) k
theorem pm_imul {x z : Int32} (hd : decode cc pc = .ok (.imul, 1)) (k : pm_E l y cc nL ret al d S0 r (pc + 1) lv (.int (x * z) :: st) S σ) : pm_E l y cc nL ret al d S0 r pc lv (.int z :: .int x :: st) S σ :=
  pm_go (fun _ _ _ _ _ _ _ _ _ _ _ _ _ _ _ _ hx hb ho ht w => lv_imul hx hb hd w) k
theorem pm_iand {x z : Int32} (hd : decode cc pc = .ok (.iand, 1)) (k : pm_E l y cc nL ret al d S0 r (pc + 1) lv (.int (x &&& z) :: st) S σ) : pm_E l y cc nL ret al d S0 r pc lv (.int z :: .int x :: st) S σ :=
  pm_go (fun _ _ _ _ _ _ _ _ _ _ _ _ _ _ _ _ hx hb ho ht w => lv_iand hx hb hd w) k
theorem pm_ior {x z : Int32} (hd : decode cc pc = .ok (.ior, 1)) (k : pm_E l y cc nL ret al d S0 r (pc + 1) lv (.int (x ||| z) :: st) S σ) : pm_E l y cc nL ret al d S0 r pc lv (.int z :: .int x :: st) S σ :=
  pm_go (fun _ _ _ _ _ _ _ _ _ _ _ _ _ _ _ _ hx hb ho ht w => lv_ior hx hb hd w) k
theorem pm_ixor {x z : Int32} (hd : decode cc pc = .ok (.ixor, 1)) (k : pm_E l y cc nL ret al d S0 r (pc + 1) lv (.int (x ^^^ z) :: st) S σ) : pm_E l y cc nL ret al d S0 r pc lv (.int z :: .int x :: st) S σ :=
  pm_go (fun _ _ _ _ _ _ _ _ _ _ _ _ _ _ _ _ hx hb ho ht w => lv_ixor hx hb hd w) k
theorem pm_ishl {x z : Int32} (hd : decode cc pc = .ok (.ishl, 1)) (k : pm_E l y cc nL ret al d S0 r (pc + 1) lv (.int (x <<< (z &&& 31)) :: st) S σ) : pm_E l y cc nL ret al d S0 r pc lv (.int z :: .int x :: st) S σ :=
  pm_go (fun _ _ _ _ _ _ _ _ _ _ _ _ _ _ _ _ hx hb ho ht w => lv_ishl hx hb hd w) k
theorem pm_ishr {x z : Int32} (hd : decode cc pc = .ok (.ishr, 1)) (k : pm_E l y cc nL ret al d S0 r (pc + 1) lv (.int (x >>> (z &&& 31)) :: st) S σ) : pm_E l y cc nL ret al d S0 r pc lv (.int z :: .int x :: st) S σ :=
  pm_go (fun _ _ _ _ _ _ _ _ _ _ _ _ _ _ _ _ hx hb ho ht w => lv_ishr hx hb hd w) k
theorem pm_idiv {x z : Int32} (hz : ¬ z = 0) (hd : decode cc pc = .ok (.idiv, 1)) (k : pm_E l y cc nL ret al d S0 r (pc + 1) lv (.int (x / z) :: st) S σ) : pm_E l y cc nL ret al d S0 r pc lv (.int z :: .int x :: st) S σ :=
  pm_go (fun _ _ _ _ _ _ _ _ _ _ _ _ _ _ _ _ hx hb ho ht w => lv_idiv hx hb hd hz w) k
theorem pm_irem {x z : Int32} (hz : ¬ z = 0) (hd : decode cc pc = .ok (.irem, 1)) (k : pm_E l y cc nL ret al d S0 r (pc + 1) lv (.int (x - x / z * z) :: st) S σ) : pm_E l y cc nL ret al d S0 r pc lv (.int z :: .int x :: st) S σ :=
  pm_go (fun _ _ _ _ _ _ _ _ _ _ _ _ _ _ _ _ hx hb ho ht w => lv_irem hx hb hd hz w) k
theorem pm_ineg {x : Int32} (hd : decode cc pc = .ok (.ineg, 1)) (k : pm_E l y cc nL ret al d S0 r (pc + 1) lv (.int (-x) :: st) S σ) : pm_E l y cc nL ret al d S0 r pc lv (.int x :: st) S σ :=
  pm_go (fun _ _ _ _ _ _ _ _ _ _ _ _ _ _ _ _ hx hb ho ht w => lv_ineg hx hb hd w) k
theorem pm_ladd {x z : Int64} (hd : decode cc pc = .ok (.ladd, 1)) (k : pm_E l y cc nL ret al d S0 r (pc + 1) lv (.long (x + z) :: st) S σ) : pm_E l y cc nL ret al d S0 r pc lv (.long z :: .long x :: st) S σ :=
  pm_go (fun _ _ _ _ _ _ _ _ _ _ _ _ _ _ _ _ hx hb ho ht w => lv_ladd hx hb hd w) k
theorem pm_lmul {x z : Int64} (hd : decode cc pc = .ok (.lmul, 1)) (k : pm_E l y cc nL ret al d S0 r (pc + 1) lv (.long (x * z) :: st) S σ) : pm_E l y cc nL ret al d S0 r pc lv (.long z :: .long x :: st) S σ :=
  pm_go (fun _ _ _ _ _ _ _ _ _ _ _ _ _ _ _ _ hx hb ho ht w => lv_lmul hx hb hd w) k
theorem pm_land {x z : Int64} (hd : decode cc pc = .ok (.land, 1)) (k : pm_E l y cc nL ret al d S0 r (pc + 1) lv (.long (x &&& z) :: st) S σ) : pm_E l y cc nL ret al d S0 r pc lv (.long z :: .long x :: st) S σ :=
  pm_go (fun _ _ _ _ _ _ _ _ _ _ _ _ _ _ _ _ hx hb ho ht w => lv_land hx hb hd w) k
theorem pm_ldiv {x z : Int64} (hz : ¬ z = 0) (hd : decode cc pc = .ok (.ldiv, 1)) (k : pm_E l y cc nL ret al d S0 r (pc + 1) lv (.long (x / z) :: st) S σ) : pm_E l y cc nL ret al d S0 r pc lv (.long z :: .long x :: st) S σ :=
  pm_go (fun _ _ _ _ _ _ _ _ _ _ _ _ _ _ _ _ hx hb ho ht w => lv_ldiv hx hb hd hz w) k
theorem pm_lrem {x z : Int64} (hz : ¬ z = 0) (hd : decode cc pc = .ok (.lrem, 1)) (k : pm_E l y cc nL ret al d S0 r (pc + 1) lv (.long (x - x / z * z) :: st) S σ) : pm_E l y cc nL ret al d S0 r pc lv (.long z :: .long x :: st) S σ :=
  pm_go (fun _ _ _ _ _ _ _ _ _ _ _ _ _ _ _ _ hx hb ho ht w => lv_lrem hx hb hd hz w) k
theorem pm_i2l {x : Int32} (hd : decode cc pc = .ok (.i2l, 1)) (k : pm_E l y cc nL ret al d S0 r (pc + 1) lv (.long x.toInt64 :: st) S σ) : pm_E l y cc nL ret al d S0 r pc lv (.int x :: st) S σ :=
  pm_go (fun _ _ _ _ _ _ _ _ _ _ _ _ _ _ _ _ hx hb ho ht w => lv_i2l hx hb hd rfl w) k
theorem pm_l2i {x : Int64} (hd : decode cc pc = .ok (.l2i, 1)) (k : pm_E l y cc nL ret al d S0 r (pc + 1) lv (.int x.toInt32 :: st) S σ) : pm_E l y cc nL ret al d S0 r pc lv (.long x :: st) S σ :=
  pm_go (fun _ _ _ _ _ _ _ _ _ _ _ _ _ _ _ _ hx hb ho ht w => lv_l2i hx hb hd rfl w) k
theorem pm_lcmp {x z : Int64} (hd : decode cc pc = .ok (.lcmp, 1)) (k : pm_E l y cc nL ret al d S0 r (pc + 1) lv (.int (lg_cmp x z) :: st) S σ) : pm_E l y cc nL ret al d S0 r pc lv (.long z :: .long x :: st) S σ :=
  pm_go (fun _ _ _ _ _ _ _ _ _ _ _ _ _ _ _ _ hx hb ho ht w => W.lcmp hx hb hd w) k
theorem pm_dup {v : Value} (hv : v.category = 1) (hd : decode cc pc = .ok (.dup, 1)) (k : pm_E l y cc nL ret al d S0 r (pc + 1) lv (v :: v :: st) S σ) : pm_E l y cc nL ret al d S0 r pc lv (v :: st) S σ :=
  pm_go (fun _ _ _ _ _ _ _ _ _ _ _ _ _ _ _ _ hx hb ho ht w => lv_dup hx hb hd (by rw [pm_cat]; exact hv) w) k
theorem pm_pop {v : Value} (hv : v.category = 1) (hd : decode cc pc = .ok (.pop, 1)) (k : pm_E l y cc nL ret al d S0 r (pc + 1) lv (st) S σ) : pm_E l y cc nL ret al d S0 r pc lv (v :: st) S σ :=
  pm_go (fun _ _ _ _ _ _ _ _ _ _ _ _ _ _ _ _ hx hb ho ht w => lv_pop hx hb hd (by rw [pm_cat]; exact hv) w) k
theorem pm_dup2 {v u : Value} (hv : v.category = 1) (hu : u.category = 1) (hd : decode cc pc = .ok (.dup2, 1)) (k : pm_E l y cc nL ret al d S0 r (pc + 1) lv (v :: u :: v :: u :: st) S σ) : pm_E l y cc nL ret al d S0 r pc lv (v :: u :: st) S σ :=
  pm_go (fun _ _ _ _ _ _ _ _ _ _ _ _ _ _ _ _ hx hb ho ht w => lv_dup2_11 hx hb hd (by rw [pm_cat]; exact hv) (by rw [pm_cat]; exact hu) w) k
theorem pm_goto {off : Int} (tgt : Nat) (hd : decode cc pc = .ok (.goto off, 3)) (ht : (pc : Int) + off = (tgt : Int)) (k : pm_E l y cc nL ret al d S0 r tgt lv st S σ) : pm_E l y cc nL ret al d S0 r pc lv st S σ :=
  pm_go (fun _ _ _ _ _ _ _ _ _ _ _ _ _ _ _ _ hx hb _ _ w => lv_goto hx hb hd ht w) k
/-- a branch on a condition -/
def pm_Br (l : Launch) (cc : ByteArray) (C : Prop) (pc : Nat) (st : List Value) (pt pf : Nat) (st' : List Value) : Prop :=
  ∀ (p : Program) (e : Env) (R : Room) (s : State) (m : MethodId) (args : Array Value) (below : List Frame) (meth : Method) (c : Code) (H : Heap) (locs : List Loc) (cells slots : Nat) (Q : State → Prop) (ls : Array Slot) (B : Nat),
    p.tables.exec = Jvm.exec → c.code = cc → (C → W p l e R s m args below meth c H locs cells slots Q (F0 m pt ls (st'.map (pm_v B)))) → (¬ C → W p l e R s m args below meth c H locs cells slots Q (F0 m pf ls (st'.map (pm_v B)))) → W p l e R s m args below meth c H locs cells slots Q (F0 m pc ls (st.map (pm_v B)))
theorem pm_br {C : Prop} {pt pf : Nat} {st' : List Value} (h : pm_Br l cc C pc st pt pf st') (kt : C → pm_E l y cc nL ret al d S0 r pt lv st' S σ) (kf : ¬ C → pm_E l y cc nL ret al d S0 r pf lv st' S σ) : pm_E l y cc nL ret al d S0 r pc lv st S σ :=
  fun p e s m args below meth c D aC B H ls locs cells slots hX hK hP hS h1 h2 h3 h4 hl =>
    h p e _ s m args below meth c H locs cells slots _ ls B hX.1 hX.2.1 (fun z => kt z p e s m args below meth c D aC B H ls locs cells slots hX hK hP hS h1 h2 h3 h4 hl) (fun z => kf z p e s m args below meth c D aC B H ls locs cells slots hX hK hP hS h1 h2 h3 h4 hl)
theorem pm_if_eq {x : Int32} {off : Int} (tgt : Nat) (hd : decode cc pc = .ok (.ifCond .eq off, 3)) (ht : (pc : Int) + off = (tgt : Int)) (kt : x = 0 → pm_E l y cc nL ret al d S0 r tgt lv st S σ) (kf : ¬ (x = 0) → pm_E l y cc nL ret al d S0 r (pc + 3) lv st S σ) : pm_E l y cc nL ret al d S0 r pc lv (.int x :: st) S σ :=
  pm_br (fun _ _ _ _ _ _ _ _ _ _ _ _ _ _ _ _ hx hb a b => lv_if_eq hx hb hd ht a b) kt kf
theorem pm_icmp_eq {x z : Int32} {off : Int} (tgt : Nat) (hd : decode cc pc = .ok (.if_icmp .eq off, 3)) (ht : (pc : Int) + off = (tgt : Int)) (kt : x = z → pm_E l y cc nL ret al d S0 r tgt lv st S σ) (kf : ¬ (x = z) → pm_E l y cc nL ret al d S0 r (pc + 3) lv st S σ) : pm_E l y cc nL ret al d S0 r pc lv (.int z :: .int x :: st) S σ :=
  pm_br (fun _ _ _ _ _ _ _ _ _ _ _ _ _ _ _ _ hx hb a b => lv_icmp_eq hx hb hd ht a b) kt kf
theorem pm_if_ne {x : Int32} {off : Int} (tgt : Nat) (hd : decode cc pc = .ok (.ifCond .ne off, 3)) (ht : (pc : Int) + off = (tgt : Int)) (kf : x = 0 → pm_E l y cc nL ret al d S0 r (pc + 3) lv st S σ) (kt : ¬ (x = 0) → pm_E l y cc nL ret al d S0 r tgt lv st S σ) : pm_E l y cc nL ret al d S0 r pc lv (.int x :: st) S σ :=
  pm_br (C := x = 0) (pt := pc + 3) (pf := tgt) (fun _ _ _ _ _ _ _ _ _ _ _ _ _ _ _ _ hx hb a b => lv_if_ne hx hb hd ht b a) kf kt
theorem pm_icmp_ne {x z : Int32} {off : Int} (tgt : Nat) (hd : decode cc pc = .ok (.if_icmp .ne off, 3)) (ht : (pc : Int) + off = (tgt : Int)) (kf : x = z → pm_E l y cc nL ret al d S0 r (pc + 3) lv st S σ) (kt : ¬ (x = z) → pm_E l y cc nL ret al d S0 r tgt lv st S σ) : pm_E l y cc nL ret al d S0 r pc lv (.int z :: .int x :: st) S σ :=
  pm_br (C := x = z) (pt := pc + 3) (pf := tgt) (fun _ _ _ _ _ _ _ _ _ _ _ _ _ _ _ _ hx hb a b => lv_icmp_ne hx hb hd ht b a) kf kt
theorem pm_if_lt {x : Int32} {off : Int} (tgt : Nat) (hd : decode cc pc = .ok (.ifCond .lt off, 3)) (ht : (pc : Int) + off = (tgt : Int)) (kt : x < 0 → pm_E l y cc nL ret al d S0 r tgt lv st S σ) (kf : ¬ (x < 0) → pm_E l y cc nL ret al d S0 r (pc + 3) lv st S σ) : pm_E l y cc nL ret al d S0 r pc lv (.int x :: st) S σ :=
  pm_br (fun _ _ _ _ _ _ _ _ _ _ _ _ _ _ _ _ hx hb a b => lv_if_lt hx hb hd ht a b) kt kf
theorem pm_icmp_lt {x z : Int32} {off : Int} (tgt : Nat) (hd : decode cc pc = .ok (.if_icmp .lt off, 3)) (ht : (pc : Int) + off = (tgt : Int)) (kt : x < z → pm_E l y cc nL ret al d S0 r tgt lv st S σ) (kf : ¬ (x < z) → pm_E l y cc nL ret al d S0 r (pc + 3) lv st S σ) : pm_E l y cc nL ret al d S0 r pc lv (.int z :: .int x :: st) S σ :=
  pm_br (fun _ _ _ _ _ _ _ _ _ _ _ _ _ _ _ _ hx hb a b => lv_icmp_lt hx hb hd ht a b) kt kf
theorem pm_if_ge {x : Int32} {off : Int} (tgt : Nat) (hd : decode cc pc = .ok (.ifCond .ge off, 3)) (ht : (pc : Int) + off = (tgt : Int)) (kt : 0 ≤ x → pm_E l y cc nL ret al d S0 r tgt lv st S σ) (kf : ¬ (0 ≤ x) → pm_E l y cc nL ret al d S0 r (pc + 3) lv st S σ) : pm_E l y cc nL ret al d S0 r pc lv (.int x :: st) S σ :=
  pm_br (fun _ _ _ _ _ _ _ _ _ _ _ _ _ _ _ _ hx hb a b => lv_if_ge hx hb hd ht a b) kt kf
theorem pm_icmp_ge {x z : Int32} {off : Int} (tgt : Nat) (hd : decode cc pc = .ok (.if_icmp .ge off, 3)) (ht : (pc : Int) + off = (tgt : Int)) (kt : z ≤ x → pm_E l y cc nL ret al d S0 r tgt lv st S σ) (kf : ¬ (z ≤ x) → pm_E l y cc nL ret al d S0 r (pc + 3) lv st S σ) : pm_E l y cc nL ret al d S0 r pc lv (.int z :: .int x :: st) S σ :=
  pm_br (fun _ _ _ _ _ _ _ _ _ _ _ _ _ _ _ _ hx hb a b => lv_icmp_ge hx hb hd ht a b) kt kf
theorem pm_if_gt {x : Int32} {off : Int} (tgt : Nat) (hd : decode cc pc = .ok (.ifCond .gt off, 3)) (ht : (pc : Int) + off = (tgt : Int)) (kt : 0 < x → pm_E l y cc nL ret al d S0 r tgt lv st S σ) (kf : ¬ (0 < x) → pm_E l y cc nL ret al d S0 r (pc + 3) lv st S σ) : pm_E l y cc nL ret al d S0 r pc lv (.int x :: st) S σ :=
  pm_br (fun _ _ _ _ _ _ _ _ _ _ _ _ _ _ _ _ hx hb a b => lv_if_gt hx hb hd ht a b) kt kf
theorem pm_icmp_gt {x z : Int32} {off : Int} (tgt : Nat) (hd : decode cc pc = .ok (.if_icmp .gt off, 3)) (ht : (pc : Int) + off = (tgt : Int)) (kt : z < x → pm_E l y cc nL ret al d S0 r tgt lv st S σ) (kf : ¬ (z < x) → pm_E l y cc nL ret al d S0 r (pc + 3) lv st S σ) : pm_E l y cc nL ret al d S0 r pc lv (.int z :: .int x :: st) S σ :=
  pm_br (fun _ _ _ _ _ _ _ _ _ _ _ _ _ _ _ _ hx hb a b => lv_icmp_gt hx hb hd ht a b) kt kf
theorem pm_if_le {x : Int32} {off : Int} (tgt : Nat) (hd : decode cc pc = .ok (.ifCond .le off, 3)) (ht : (pc : Int) + off = (tgt : Int)) (kt : x ≤ 0 → pm_E l y cc nL ret al d S0 r tgt lv st S σ) (kf : ¬ (x ≤ 0) → pm_E l y cc nL ret al d S0 r (pc + 3) lv st S σ) : pm_E l y cc nL ret al d S0 r pc lv (.int x :: st) S σ :=
  pm_br (fun _ _ _ _ _ _ _ _ _ _ _ _ _ _ _ _ hx hb a b => lv_if_le hx hb hd ht a b) kt kf
theorem pm_icmp_le {x z : Int32} {off : Int} (tgt : Nat) (hd : decode cc pc = .ok (.if_icmp .le off, 3)) (ht : (pc : Int) + off = (tgt : Int)) (kt : x ≤ z → pm_E l y cc nL ret al d S0 r tgt lv st S σ) (kf : ¬ (x ≤ z) → pm_E l y cc nL ret al d S0 r (pc + 3) lv st S σ) : pm_E l y cc nL ret al d S0 r pc lv (.int z :: .int x :: st) S σ :=
  pm_br (fun _ _ _ _ _ _ _ _ _ _ _ _ _ _ _ _ hx hb a b => lv_icmp_le hx hb hd ht a b) kt kf
theorem pm_tableOut {dflt lo hi : Int} {offs : Array Int} {len : Nat} {x : Int32} (tgt : Nat) (hd : decode cc pc = .ok (.tableswitch dflt lo hi offs, len)) (h : x.toInt < lo ∨ hi < x.toInt) (ht : (pc : Int) + dflt = (tgt : Int)) (k : pm_E l y cc nL ret al d S0 r tgt lv st S σ) : pm_E l y cc nL ret al d S0 r pc lv (.int x :: st) S σ :=
  pm_go (fun _ _ _ _ _ _ _ _ _ _ _ _ _ _ _ _ hx hb _ _ w => lv_tableOut hx hb hd h ht w) k
theorem pm_tableIn {dflt lo hi : Int} {offs : Array Int} {len : Nat} {x : Int32} {off : Int} (tgt : Nat) (hd : decode cc pc = .ok (.tableswitch dflt lo hi offs, len)) (h1 : ¬ x.toInt < lo) (h2 : ¬ hi < x.toInt) (ho : offs[(x.toInt - lo).toNat]? = some off) (ht : (pc : Int) + off = (tgt : Int)) (k : pm_E l y cc nL ret al d S0 r tgt lv st S σ) : pm_E l y cc nL ret al d S0 r pc lv (.int x :: st) S σ :=
  pm_go (fun _ _ _ _ _ _ _ _ _ _ _ _ _ _ _ _ hx hb _ _ w => lv_tableIn hx hb hd h1 h2 ho ht w) k
theorem pm_lookup {dflt : Int} {ps : Array (Int × Int)} {len : Nat} {x : Int32} {off : Int} (tgt : Nat) (hd : decode cc pc = .ok (.lookupswitch dflt ps, len)) (hp : (ps.toList.zip (ps.toList.drop 1)).all (fun (a, next) => a.1 < next.1) = true) (ho : Op.lookupswitch.offset ps.toList dflt x.toInt = off) (ht : (pc : Int) + off = (tgt : Int)) (k : pm_E l y cc nL ret al d S0 r tgt lv st S σ) : pm_E l y cc nL ret al d S0 r pc lv (.int x :: st) S σ :=
  pm_go (fun _ _ _ _ _ _ _ _ _ _ _ _ _ _ _ _ hx hb _ _ w => lv_lookup hx hb hd hp ho ht w) k
theorem pm_lv_at {B : Nat} {ls : Array Slot} {i k : Nat} {v : Value} (hl : lv_has ls nL (lv.map (fun q => (q.1, pm_v B q.2)))) (hk : lv[k]? = some (i, v)) : ls[i]? = some (.val (pm_v B v)) :=
  lv_at hl k (by rw [List.getElem?_map, hk]; rfl)
theorem pm_lv_st {B i : Nat} {v : Value} : ((i, pm_v B v) :: (lv.map (fun q => (q.1, pm_v B q.2))).filter (fun q => !(q.1 == i) && !(q.1 + 1 == i && q.2.category == 2))) = ((i, v) :: lv.filter (fun q => !(q.1 == i) && !(q.1 + 1 == i && q.2.category == 2))).map (fun q => (q.1, pm_v B q.2)) := by
  simp only [List.map_cons, List.filter_map, Function.comp_def, pm_cat]
theorem pm_lv_st2 {B i : Nat} {v : Value} : ((i, pm_v B v) :: (lv.map (fun q => (q.1, pm_v B q.2))).filter (fun q => !(q.1 == i) && (!(q.1 == i + 1) && !(q.1 + 1 == i && q.2.category == 2)))) = ((i, v) :: lv.filter (fun q => !(q.1 == i) && (!(q.1 == i + 1) && !(q.1 + 1 == i && q.2.category == 2)))).map (fun q => (q.1, pm_v B q.2)) := by
  simp only [List.map_cons, List.filter_map, Function.comp_def, pm_cat]
/-- fewer locals -/
theorem pm_lv (lv' : List (Nat × Value)) (ks : List Nat) (h : lv_pick lv ks = lv') (k : pm_E l y cc nL ret al d S0 r pc lv' st S σ) : pm_E l y cc nL ret al d S0 r pc lv st S σ :=
  fun p e s m args below meth c D aC B H ls locs cells slots hX hK hP hS h1 h2 h3 h4 hl =>
    k p e s m args below meth c D aC B H ls locs cells slots hX hK hP hS h1 h2 h3 h4 (lv_sub hl ks (by rw [← h]; simp [lv_pick, List.map_filterMap, List.getElem?_map]))
theorem pm_iload_n {k0 : Fin 4} {i : Nat} {x : Int32} (j : Nat) (hd : decode cc pc = .ok (.iload_n k0, 1)) (hi : (k0 : Nat) = i) (hj : lv[j]? = some (i, .int x)) (k : pm_E l y cc nL ret al d S0 r (pc + 1) lv (.int x :: st) S σ) : pm_E l y cc nL ret al d S0 r pc lv st S σ := by
  intro p e s m args below meth c D aC B H ls locs cells slots hX hK hP hS h1 h2 h3 h4 hl
  exact lv_iload_n hX.1 hX.2.1 hd hi (pm_lv_at hl hj) (k p e s m args below meth c D aC B H ls locs cells slots hX hK hP hS h1 h2 h3 h4 hl)
theorem pm_iload {i : Nat} {x : Int32} (j : Nat) (hd : decode cc pc = .ok (.iload i, 2)) (hj : lv[j]? = some (i, .int x)) (k : pm_E l y cc nL ret al d S0 r (pc + 2) lv (.int x :: st) S σ) : pm_E l y cc nL ret al d S0 r pc lv st S σ := by
  intro p e s m args below meth c D aC B H ls locs cells slots hX hK hP hS h1 h2 h3 h4 hl
  exact lv_iload hX.1 hX.2.1 hd (pm_lv_at hl hj) (k p e s m args below meth c D aC B H ls locs cells slots hX hK hP hS h1 h2 h3 h4 hl)
theorem pm_lload_n {k0 : Fin 4} {i : Nat} {x : Int64} (j : Nat) (hd : decode cc pc = .ok (.lload_n k0, 1)) (hi : (k0 : Nat) = i) (hj : lv[j]? = some (i, .long x)) (k : pm_E l y cc nL ret al d S0 r (pc + 1) lv (.long x :: st) S σ) : pm_E l y cc nL ret al d S0 r pc lv st S σ := by
  intro p e s m args below meth c D aC B H ls locs cells slots hX hK hP hS h1 h2 h3 h4 hl
  exact lv_lload_n hX.1 hX.2.1 hd hi (pm_lv_at hl hj) (k p e s m args below meth c D aC B H ls locs cells slots hX hK hP hS h1 h2 h3 h4 hl)
theorem pm_lload {i : Nat} {x : Int64} (j : Nat) (hd : decode cc pc = .ok (.lload i, 2)) (hj : lv[j]? = some (i, .long x)) (k : pm_E l y cc nL ret al d S0 r (pc + 2) lv (.long x :: st) S σ) : pm_E l y cc nL ret al d S0 r pc lv st S σ := by
  intro p e s m args below meth c D aC B H ls locs cells slots hX hK hP hS h1 h2 h3 h4 hl
  exact lv_lload hX.1 hX.2.1 hd (pm_lv_at hl hj) (k p e s m args below meth c D aC B H ls locs cells slots hX hK hP hS h1 h2 h3 h4 hl)
theorem pm_aload_n {k0 : Fin 4} {i : Nat} {x : Nat} (j : Nat) (hd : decode cc pc = .ok (.aload_n k0, 1)) (hi : (k0 : Nat) = i) (hj : lv[j]? = some (i, .ref x)) (hq : 0 < x) (k : pm_E l y cc nL ret al d S0 r (pc + 1) lv (.ref x :: st) S σ) : pm_E l y cc nL ret al d S0 r pc lv st S σ := by
  intro p e s m args below meth c D aC B H ls locs cells slots hX hK hP hS h1 h2 h3 h4 hl
  have e1 := pm_lv_at hl hj
  have hk := k p e s m args below meth c D aC B H ls locs cells slots hX hK hP hS h1 h2 h3 h4 hl
  rw [show pm_v B (.ref x) = .ref (B + x) from pm_rv_pos hq] at e1
  rw [List.map_cons, show pm_v B (.ref x) = .ref (B + x) from pm_rv_pos hq] at hk
  exact lv_aload_n hX.1 hX.2.1 hd hi e1 hk
theorem pm_aload {i : Nat} {x : Nat} (j : Nat) (hd : decode cc pc = .ok (.aload i, 2)) (hj : lv[j]? = some (i, .ref x)) (hq : 0 < x) (k : pm_E l y cc nL ret al d S0 r (pc + 2) lv (.ref x :: st) S σ) : pm_E l y cc nL ret al d S0 r pc lv st S σ := by
  intro p e s m args below meth c D aC B H ls locs cells slots hX hK hP hS h1 h2 h3 h4 hl
  have e1 := pm_lv_at hl hj
  have hk := k p e s m args below meth c D aC B H ls locs cells slots hX hK hP hS h1 h2 h3 h4 hl
  rw [show pm_v B (.ref x) = .ref (B + x) from pm_rv_pos hq] at e1
  rw [List.map_cons, show pm_v B (.ref x) = .ref (B + x) from pm_rv_pos hq] at hk
  exact lv_aload hX.1 hX.2.1 hd e1 hk
theorem pm_istore_n {k0 : Fin 4} {i : Nat} {x : Int32} (lv' : List (Nat × Value)) (hd : decode cc pc = .ok (.istore_n k0, 1)) (hi : (k0 : Nat) = i) (hn : i < nL) (hl' : (i, .int x) :: lv.filter (fun q => !(q.1 == i) && !(q.1 + 1 == i && q.2.category == 2)) = lv') (k : pm_E l y cc nL ret al d S0 r (pc + 1) lv' st S σ) : pm_E l y cc nL ret al d S0 r pc lv (.int x :: st) S σ := by
  intro p e s m args below meth c D aC B H ls locs cells slots hX hK hP hS h1 h2 h3 h4 hl
  subst hl'
  exact lv_istore_n hX.1 hX.2.1 hd hi hl hn (pm_lv_st (v := .int x)) (fun ls hl => k p e s m args below meth c D aC B H ls locs cells slots hX hK hP hS h1 h2 h3 h4 hl)
theorem pm_istore {i : Nat} {x : Int32} (lv' : List (Nat × Value)) (hd : decode cc pc = .ok (.istore i, 2)) (hn : i < nL) (hl' : (i, .int x) :: lv.filter (fun q => !(q.1 == i) && !(q.1 + 1 == i && q.2.category == 2)) = lv') (k : pm_E l y cc nL ret al d S0 r (pc + 2) lv' st S σ) : pm_E l y cc nL ret al d S0 r pc lv (.int x :: st) S σ := by
  intro p e s m args below meth c D aC B H ls locs cells slots hX hK hP hS h1 h2 h3 h4 hl
  subst hl'
  exact lv_istore hX.1 hX.2.1 hd hl hn (pm_lv_st (v := .int x)) (fun ls hl => k p e s m args below meth c D aC B H ls locs cells slots hX hK hP hS h1 h2 h3 h4 hl)
theorem pm_lstore_n {k0 : Fin 4} {i : Nat} {x : Int64} (lv' : List (Nat × Value)) (hd : decode cc pc = .ok (.lstore_n k0, 1)) (hi : (k0 : Nat) = i) (hn : i + 1 < nL) (hl' : (i, .long x) :: lv.filter (fun q => !(q.1 == i) && (!(q.1 == i + 1) && !(q.1 + 1 == i && q.2.category == 2))) = lv') (k : pm_E l y cc nL ret al d S0 r (pc + 1) lv' st S σ) : pm_E l y cc nL ret al d S0 r pc lv (.long x :: st) S σ := by
  intro p e s m args below meth c D aC B H ls locs cells slots hX hK hP hS h1 h2 h3 h4 hl
  subst hl'
  exact lv_lstore_n hX.1 hX.2.1 hd hi hl hn (pm_lv_st2 (v := .long x)) (fun ls hl => k p e s m args below meth c D aC B H ls locs cells slots hX hK hP hS h1 h2 h3 h4 hl)
theorem pm_lstore {i : Nat} {x : Int64} (lv' : List (Nat × Value)) (hd : decode cc pc = .ok (.lstore i, 2)) (hn : i + 1 < nL) (hl' : (i, .long x) :: lv.filter (fun q => !(q.1 == i) && (!(q.1 == i + 1) && !(q.1 + 1 == i && q.2.category == 2))) = lv') (k : pm_E l y cc nL ret al d S0 r (pc + 2) lv' st S σ) : pm_E l y cc nL ret al d S0 r pc lv (.long x :: st) S σ := by
  intro p e s m args below meth c D aC B H ls locs cells slots hX hK hP hS h1 h2 h3 h4 hl
  subst hl'
  exact lv_lstore hX.1 hX.2.1 hd hl hn (pm_lv_st2 (v := .long x)) (fun ls hl => k p e s m args below meth c D aC B H ls locs cells slots hX hK hP hS h1 h2 h3 h4 hl)
theorem pm_astore_n {k0 : Fin 4} {i : Nat} {x : Nat} (lv' : List (Nat × Value)) (hd : decode cc pc = .ok (.astore_n k0, 1)) (hi : (k0 : Nat) = i) (hn : i < nL) (hq : 0 < x) (hl' : (i, .ref x) :: lv.filter (fun q => !(q.1 == i) && !(q.1 + 1 == i && q.2.category == 2)) = lv') (k : pm_E l y cc nL ret al d S0 r (pc + 1) lv' st S σ) : pm_E l y cc nL ret al d S0 r pc lv (.ref x :: st) S σ := by
  intro p e s m args below meth c D aC B H ls locs cells slots hX hK hP hS h1 h2 h3 h4 hl
  subst hl'
  have e1 := pm_lv_st (lv := lv) (B := B) (i := i) (v := .ref x)
  rw [show pm_v B (.ref x) = .ref (B + x) from pm_rv_pos hq] at e1
  rw [List.map_cons, show pm_v B (.ref x) = .ref (B + x) from pm_rv_pos hq]
  exact lv_astore_n hX.1 hX.2.1 hd hi hl hn e1 (fun ls hl => k p e s m args below meth c D aC B H ls locs cells slots hX hK hP hS h1 h2 h3 h4 hl)
theorem pm_astore {i : Nat} {x : Nat} (lv' : List (Nat × Value)) (hd : decode cc pc = .ok (.astore i, 2)) (hn : i < nL) (hq : 0 < x) (hl' : (i, .ref x) :: lv.filter (fun q => !(q.1 == i) && !(q.1 + 1 == i && q.2.category == 2)) = lv') (k : pm_E l y cc nL ret al d S0 r (pc + 2) lv' st S σ) : pm_E l y cc nL ret al d S0 r pc lv (.ref x :: st) S σ := by
  intro p e s m args below meth c D aC B H ls locs cells slots hX hK hP hS h1 h2 h3 h4 hl
  subst hl'
  have e1 := pm_lv_st (lv := lv) (B := B) (i := i) (v := .ref x)
  rw [show pm_v B (.ref x) = .ref (B + x) from pm_rv_pos hq] at e1
  rw [List.map_cons, show pm_v B (.ref x) = .ref (B + x) from pm_rv_pos hq]
  exact lv_astore hX.1 hX.2.1 hd hl hn e1 (fun ls hl => k p e s m args below meth c D aC B H ls locs cells slots hX hK hP hS h1 h2 h3 h4 hl)
theorem pm_iinc {i : Nat} {n : Int} {x : Int32} (j : Nat) (v : Int32) (lv' : List (Nat × Value)) (hd : decode cc pc = .ok (.iinc i n, 3)) (hj : lv[j]? = some (i, .int x)) (hv : x + Int32.ofInt n = v) (hn : i < nL) (hl' : (i, Value.int v) :: lv.filter (fun q => !(q.1 == i) && !(q.1 + 1 == i && q.2.category == 2)) = lv') (k : pm_E l y cc nL ret al d S0 r (pc + 3) lv' st S σ) : pm_E l y cc nL ret al d S0 r pc lv st S σ := by
  intro p e s m args below meth c D aC B H ls locs cells slots hX hK hP hS h1 h2 h3 h4 hl
  subst hl'
  exact lv_iinc hX.1 hX.2.1 hd hl (k := j) (x := x) (by rw [List.getElem?_map, hj]; rfl) hv hn (pm_lv_st (v := .int v)) (fun ls hl => k p e s m args below meth c D aC B H ls locs cells slots hX hK hP hS h1 h2 h3 h4 hl)
end PMR
section PMH
variable {l : Launch} {y : MethodName} {cc : ByteArray} {nL : Nat} {ret : Option FieldType} {al : Bool} {d : Nat} {S0 : pm_S} {r : Option Value × pm_S × pm_H} {pc : Nat} {lv : List (Nat × Value)} {st : List Value} {S : pm_S} {σ : pm_H}
def pm_CL (ci : Nat) (C : String) (T : u_T) (N : Nat) (ty : Nat → FieldType) : Prop :=
  vwCl[ci]? = some (C, T, N) ∧ (∀ w ∈ u_ws C T N, w ∈ lw_good) ∧ (∀ k, k < N → parseFieldDescriptor (T k).2.2.1 = some (ty k)) ∧ (∀ a, a < N → ∀ b, b < N → a ≠ b → (T a).2.1 ≠ (T b).2.1) ∧ pm_fn ci = N
theorem pm_T_si {S : pm_S} {σ : pm_H} {q k : Nat} {x : Int32} (h : pm_T S σ.2) : pm_T S (pm_si σ q k x).2 := h
theorem pm_obj {aC : Nat → ClassId} {B ci q : Nat} (hs : pm_is S q (ci + 3)) : (pm_ws aC B S σ)[q - 1]? = some (B + q, .inr (ci, (List.range (pm_fn ci)).map (pm_fv B σ q ci))) := pm_ws_get hs.at
theorem pm_vr {B q : Nat} (h : 0 < q) : (Value.ref q :: st).map (pm_v B) = .ref (B + q) :: st.map (pm_v B) := by
  rw [List.map_cons, show pm_v B (.ref q) = .ref (B + q) from pm_rv_pos h]
theorem pm_getI {ci k idx N q : Nat} {C : String} {T : u_T} {ty : Nat → FieldType} (hC : pm_CL ci C T N ty) (hw : Cond.fieldLink y.cls idx (T k).1 (T k).2.1 (T k).2.2.1 ∈ lw_good) (hk : k < N) (hf : pm_ft ci k = none) (hs : pm_is S q (ci + 3)) (hd : decode cc pc = .ok (.getfield idx, 3))
    (K : pm_E l y cc nL ret al d S0 r (pc + 3) lv (.int (σ.1 q k) :: st) S σ) : pm_E l y cc nL ret al d S0 r pc lv (.ref q :: st) S σ := by
  intro p e s m args below meth c D aC B H ls locs cells slots hX hK hP hS h1 h2 h3 h4 hl
  rw [pm_vr hs.pos]
  exact va_get hX.1 hX.2.1 hX.2.2.2.2.1 hC.2.1 hX.2.2.2.1 hK hP (q - 1) (pm_obj hs) hC.1 k hk (hX.2.2.2.2.1 _ hw) (fun _ h => h) (v := .int (σ.1 q k)) (by rw [pm_fs_get (by rw [hC.2.2.2.2]; exact hk)]; simp [pm_fv, hf]) hd (K p e s m args below meth c D aC B H ls locs cells slots hX hK hP hS h1 h2 h3 h4 hl)
theorem pm_getR {ci k idx N q t : Nat} {C : String} {T : u_T} {ty : Nat → FieldType} (hC : pm_CL ci C T N ty) (hw : Cond.fieldLink y.cls idx (T k).1 (T k).2.1 (T k).2.2.1 ∈ lw_good) (hk : k < N) (hf : pm_ft ci k = some t) (hs : pm_is S q (ci + 3)) (hd : decode cc pc = .ok (.getfield idx, 3))
    (K : pm_E l y cc nL ret al d S0 r (pc + 3) lv (.ref (σ.2 q k) :: st) S σ) : pm_E l y cc nL ret al d S0 r pc lv (.ref q :: st) S σ := by
  intro p e s m args below meth c D aC B H ls locs cells slots hX hK hP hS h1 h2 h3 h4 hl
  rw [pm_vr hs.pos]
  exact va_get hX.1 hX.2.1 hX.2.2.2.2.1 hC.2.1 hX.2.2.2.1 hK hP (q - 1) (pm_obj hs) hC.1 k hk (hX.2.2.2.2.1 _ hw) (fun _ h => h) (v := pm_rv B (σ.2 q k)) (by rw [pm_fs_get (by rw [hC.2.2.2.2]; exact hk)]; simp [pm_fv, hf]) hd (K p e s m args below meth c D aC B H ls locs cells slots hX hK hP hS h1 h2 h3 h4 hl)
/-- the world's types are at hand -/
theorem pm_types (K : pm_T S σ.2 → pm_E l y cc nL ret false d S0 r pc lv st S σ) : pm_E l y cc nL ret false d S0 r pc lv st S σ := by
  intro p e s m args below meth c D aC B H ls locs cells slots hX hK hP hS h1 h2 h3 h4 hl
  exact K (h1 rfl).2 p e s m args below meth c D aC B H ls locs cells slots hX hK hP hS h1 h2 h3 h4 hl
theorem pm_getT {ci k idx N q t : Nat} {C : String} {T : u_T} {ty : Nat → FieldType} (hC : pm_CL ci C T N ty) (hw : Cond.fieldLink y.cls idx (T k).1 (T k).2.1 (T k).2.2.1 ∈ lw_good) (hk : k < N) (hf : pm_ft ci k = some t) (hs : pm_is S q (ci + 3)) (hd : decode cc pc = .ok (.getfield idx, 3))
    (K : pm_is S (σ.2 q k) t → pm_E l y cc nL ret false d S0 r (pc + 3) lv (.ref (σ.2 q k) :: st) S σ) : pm_E l y cc nL ret false d S0 r pc lv (.ref q :: st) S σ :=
  pm_types fun hT => pm_getR hC hw hk hf hs hd (K (hT.1 q ci k t hs hf))
theorem pm_putG {ci k idx N q : Nat} {C : String} {T : u_T} {ty : Nat → FieldType} {v : Value} {σ' : pm_H} (hC : pm_CL ci C T N ty) (hw : Cond.fieldLink y.cls idx (T k).1 (T k).2.1 (T k).2.2.1 ∈ lw_good) (hk : k < N) (hs : pm_is S q (ci + 3)) (hfin : (T k).2.2.2 = false ∨ ((T k).2.2.2 = true ∧ y.name = "<init>" ∧ (T k).1 = y.cls))
    (hn : ∀ B, narrow (ty k) (pm_v B v) = pm_v B v) (hfit : ∀ B, fits (ty k) (pm_v B v) = true) (hv : ∀ B, pm_fv B σ' q ci k = pm_v B v) (ho : ∀ B j, j ≠ k → pm_fv B σ' q ci j = pm_fv B σ q ci j) (ho1 : ∀ a, a ≠ q → σ'.1 a = σ.1 a) (ho2 : ∀ a, a ≠ q → σ'.2 a = σ.2 a) (hT : al = false → pm_T S σ.2 → pm_T S σ'.2)
    (hd : decode cc pc = .ok (.putfield idx, 3)) (K : pm_E l y cc nL ret al d S0 r (pc + 3) lv st S σ') : pm_E l y cc nL ret al d S0 r pc lv (v :: .ref q :: st) S σ := by
  intro p e s m args below meth c D aC B H ls locs cells slots hX hK hP hS h1 h2 h3 h4 hl
  have e1 : (v :: Value.ref q :: st).map (pm_v B) = pm_v B v :: .ref (B + q) :: st.map (pm_v B) := by rw [List.map_cons, pm_vr hs.pos]
  rw [e1]
  have hD : va_D (pm_A al B S0.length) (pm_ws aC B S σ) := pm_D (fun z => by rw [(h1 z).1]; exact Nat.le_refl _)
  have hset : (pm_ws aC B S σ).set (q - 1) (B + q, .inr (ci, ((List.range (pm_fn ci)).map (pm_fv B σ q ci)).set k (pm_v B v))) = pm_ws aC B S σ' := by
    refine pm_ws_set hs.at ?_ ho1 ho2
    show (Sum.inr (ci, (List.range (pm_fn ci)).map (pm_fv B σ' q ci)) : va_E) = _
    rw [pm_fs_set (hv B) (ho B)]
  have hkl : k < ((List.range (pm_fn ci)).map (pm_fv B σ q ci)).length := by simp [hC.2.2.2.2, hk]
  have fin : ∀ (H1 : Heap) (locs1 : List Loc), va_P D vwCl ((pm_ws aC B S σ).set (q - 1) (B + q, .inr (ci, ((List.range (pm_fn ci)).map (pm_fv B σ q ci)).set k (pm_v B v)))) H1 → va_D (pm_A al B S0.length) ((pm_ws aC B S σ).set (q - 1) (B + q, .inr (ci, ((List.range (pm_fn ci)).map (pm_fv B σ q ci)).set k (pm_v B v)))) → va_S (pm_A al B S0.length) s.heap H1 locs1 →
      W p l e (pm_rm d (pm_mc S0 r) (pm_ms S0 r)) s m args below meth c H1 locs1 cells slots (MQ below (pm_Q D aC B r al S0.length) args s (pm_mc S0 r) (pm_ms S0 r) (pm_A al B S0.length)) (F0 m (pc + 3) ls (st.map (pm_v B))) := by
    intro H1 locs1 hP1 _ hS1
    rw [hset] at hP1
    exact K p e s m args below meth c D aC B H1 ls locs1 cells slots hX hK hP1 hS1 (fun z => ⟨(h1 z).1, hT z (h1 z).2⟩) h2 h3 h4 hl
  rcases hfin with hf | ⟨hf, hin, hde⟩
  · exact va_put hX.1 hX.2.1 hX.2.2.2.2.1 hC.2.1 ty hC.2.2.1 hC.2.2.2.1 hX.2.2.2.1 hK hP hD hS (q - 1) (pm_obj hs) hC.1 k hk (hX.2.2.2.2.1 _ hw) (fun _ h => h) hf (hC.2.2.1 k hk) (hn B) (hfit B) hkl hd fin
  · exact va_putF hX.1 hX.2.1 hX.2.2.2.2.1 hC.2.1 ty hC.2.2.1 hC.2.2.2.1 hX.2.2.2.1 hK hP hD hS (q - 1) (pm_obj hs) hC.1 k hk (hX.2.2.2.2.1 _ hw) (fun _ h => h) hf (by rw [hX.2.2.2.2.2.2.2.1]; exact hin) hde (hC.2.2.1 k hk) (hn B) (hfit B) hkl hd fin
theorem pm_fv_si {B ci q k a j : Nat} {x : Int32} (h : ¬ (a = q ∧ j = k)) : pm_fv B (pm_si σ q k x) a ci j = pm_fv B σ a ci j := by
  simp [pm_fv, pm_si_1, pm_si_2, h]
theorem pm_putI {ci k idx N q : Nat} {C : String} {T : u_T} {ty : Nat → FieldType} {x : Int32} (hC : pm_CL ci C T N ty) (hw : Cond.fieldLink y.cls idx (T k).1 (T k).2.1 (T k).2.2.1 ∈ lw_good) (hk : k < N) (hf : pm_ft ci k = none) (hty : ty k = .int) (hfin : (T k).2.2.2 = false) (hs : pm_is S q (ci + 3))
    (hd : decode cc pc = .ok (.putfield idx, 3)) (K : pm_E l y cc nL ret al d S0 r (pc + 3) lv st S (pm_si σ q k x)) : pm_E l y cc nL ret al d S0 r pc lv (.int x :: .ref q :: st) S σ :=
  pm_putG (v := .int x) hC hw hk hs (Or.inl hfin) (fun _ => by rw [hty]; rfl) (fun _ => by rw [hty]; rfl) (fun _ => by simp [pm_fv, hf, pm_si_1, pm_v]) (fun _ j hj => pm_fv_si (fun z => hj z.2)) (fun a ha => by simp [pm_si, ha]) (fun _ _ => rfl) (fun _ h => h) hd K
theorem pm_z_nar {x : Int32} (h : x = 0 ∨ x = 1) : narrow .boolean (.int x) = .int x := by rcases h with rfl | rfl <;> rfl
theorem pm_putZ {ci k idx N q : Nat} {C : String} {T : u_T} {ty : Nat → FieldType} {x : Int32} (hC : pm_CL ci C T N ty) (hw : Cond.fieldLink y.cls idx (T k).1 (T k).2.1 (T k).2.2.1 ∈ lw_good) (hk : k < N) (hf : pm_ft ci k = none) (hty : ty k = .boolean) (hfin : (T k).2.2.2 = false) (hs : pm_is S q (ci + 3)) (hx : x = 0 ∨ x = 1)
    (hd : decode cc pc = .ok (.putfield idx, 3)) (K : pm_E l y cc nL ret al d S0 r (pc + 3) lv st S (pm_si σ q k x)) : pm_E l y cc nL ret al d S0 r pc lv (.int x :: .ref q :: st) S σ :=
  pm_putG (v := .int x) hC hw hk hs (Or.inl hfin) (fun _ => by rw [hty]; exact pm_z_nar hx) (fun _ => by rw [hty]; rcases hx with rfl | rfl <;> rfl) (fun _ => by simp [pm_fv, hf, pm_si_1, pm_v]) (fun _ j hj => pm_fv_si (fun z => hj z.2)) (fun a ha => by simp [pm_si, ha]) (fun _ _ => rfl) (fun _ h => h) hd K
theorem pm_T_sr {S : pm_S} {σ : pm_H} {q k x t ci : Nat} (hs : pm_is S q (ci + 3)) (hf : pm_ft ci k = some t) (hx : pm_is S x t) (h : pm_T S σ.2) : pm_T S (pm_sr σ q k x).2 := by
  refine ⟨fun a ca j u ha hu => ?_, fun a j ha hj => ?_⟩
  · rw [pm_sr_2]
    by_cases hc : a = q ∧ j = k
    · rw [if_pos hc]
      obtain ⟨rfl, rfl⟩ := hc
      have e1 := ha.at.symm.trans hs.at
      have e2 : ca = ci := by injection e1 with e1; injection e1 with e1 _; omega
      subst e2
      rw [hf] at hu
      cases hu
      exact hx
    · rw [if_neg hc]
      exact h.1 a ca j u ha hu
  · rw [pm_sr_2]
    by_cases hc : a = q ∧ j = k
    · obtain ⟨rfl, rfl⟩ := hc
      have e1 := ha.at.symm.trans hs.at
      injection e1 with e1; injection e1 with e1 _; omega
    · rw [if_neg hc]
      exact h.2 a j ha hj
theorem pm_fv_sr {B ci q k a j x : Nat} (h : ¬ (a = q ∧ j = k)) : pm_fv B (pm_sr σ q k x) a ci j = pm_fv B σ a ci j := by
  simp [pm_fv, pm_sr_1, pm_sr_2, h]
theorem pm_putR {ci k idx N q x t : Nat} {C : String} {T : u_T} {ty : Nat → FieldType} (hC : pm_CL ci C T N ty) (hw : Cond.fieldLink y.cls idx (T k).1 (T k).2.1 (T k).2.2.1 ∈ lw_good) (hk : k < N) (hf : pm_ft ci k = some t) (hty : ∀ a, narrow (ty k) (.ref a) = .ref a ∧ fits (ty k) (.ref a) = true) (hfin : (T k).2.2.2 = false ∨ ((T k).2.2.2 = true ∧ y.name = "<init>" ∧ (T k).1 = y.cls)) (hs : pm_is S q (ci + 3)) (hx : pm_is S x t)
    (hd : decode cc pc = .ok (.putfield idx, 3)) (K : pm_E l y cc nL ret al d S0 r (pc + 3) lv st S (pm_sr σ q k x)) : pm_E l y cc nL ret al d S0 r pc lv (.ref x :: .ref q :: st) S σ :=
  pm_putG (v := .ref x) hC hw hk hs hfin (fun B => by rw [show pm_v B (.ref x) = .ref (B + x) from pm_rv_pos hx.pos]; exact (hty _).1) (fun B => by rw [show pm_v B (.ref x) = .ref (B + x) from pm_rv_pos hx.pos]; exact (hty _).2) (fun _ => by simp [pm_fv, hf, pm_sr_2, pm_v]) (fun _ j hj => pm_fv_sr (fun z => hj z.2)) (fun _ _ => rfl) (fun a ha => by simp [pm_sr, ha]) (fun _ h => pm_T_sr hs hf hx h) hd K
/-! arrays -/
theorem pm_arr0 {aC : Nat → ClassId} {B q : Nat} (hs : pm_is S q 0) : (pm_ws aC B S σ)[q - 1]? = some (B + q, .inl (aC 0, pm_len S q, .inl (σ.1 q))) := pm_ws_get hs.at
theorem pm_arr1 {aC : Nat → ClassId} {B q : Nat} (hs : pm_is S q 1) : (pm_ws aC B S σ)[q - 1]? = some (B + q, .inl (aC 1, pm_len S q, .inl (σ.1 q))) := pm_ws_get hs.at
theorem pm_arr2 {aC : Nat → ClassId} {B q : Nat} (hs : pm_is S q 2) : (pm_ws aC B S σ)[q - 1]? = some (B + q, .inl (aC 2, pm_len S q, .inr (.inr (.inr (.inr (fun j => pm_ro B (σ.2 q j))))))) := pm_ws_get hs.at
theorem pm_vi {B q : Nat} {i : Int32} (h : 0 < q) : (Value.int i :: .ref q :: st).map (pm_v B) = .int i :: .ref (B + q) :: st.map (pm_v B) := by rw [List.map_cons, pm_vr h]; rfl
theorem pm_vx {B q : Nat} {i x : Int32} (h : 0 < q) : (Value.int x :: .int i :: .ref q :: st).map (pm_v B) = .int x :: .int i :: .ref (B + q) :: st.map (pm_v B) := by rw [List.map_cons, pm_vi h]; rfl
theorem pm_iald {q : Nat} {i : Int32} (ha : pm_is S q 0) (hi : vp_in i (pm_len S q)) (hd : decode cc pc = .ok (.iaload, 1)) (K : pm_E l y cc nL ret al d S0 r (pc + 1) lv (.int (σ.1 q i.toNatClampNeg) :: st) S σ) : pm_E l y cc nL ret al d S0 r pc lv (.int i :: .ref q :: st) S σ := by
  intro p e s m args below meth c D aC B H ls locs cells slots hX hK hP hS h1 h2 h3 h4 hl
  rw [pm_vi ha.pos]
  exact va_iald hX.1 hX.2.1 hK hP (q - 1) 0 (pm_arr0 ha) rfl hi hd (K p e s m args below meth c D aC B H ls locs cells slots hX hK hP hS h1 h2 h3 h4 hl)
theorem pm_zald {q : Nat} {i : Int32} (ha : pm_is S q 1) (hi : vp_in i (pm_len S q)) (hd : decode cc pc = .ok (.baload, 1)) (K : pm_E l y cc nL ret al d S0 r (pc + 1) lv (.int (σ.1 q i.toNatClampNeg) :: st) S σ) : pm_E l y cc nL ret al d S0 r pc lv (.int i :: .ref q :: st) S σ := by
  intro p e s m args below meth c D aC B H ls locs cells slots hX hK hP hS h1 h2 h3 h4 hl
  rw [pm_vi ha.pos]
  exact va_zald hX.1 hX.2.1 hK hP (q - 1) 1 (pm_arr1 ha) rfl hi hd (K p e s m args below meth c D aC B H ls locs cells slots hX hK hP hS h1 h2 h3 h4 hl)
theorem pm_iast {q : Nat} {i x : Int32} (ha : pm_is S q 0) (hi : vp_in i (pm_len S q)) (hd : decode cc pc = .ok (.iastore, 1)) (K : pm_E l y cc nL ret al d S0 r (pc + 1) lv st S (pm_si σ q i.toNatClampNeg x)) : pm_E l y cc nL ret al d S0 r pc lv (.int x :: .int i :: .ref q :: st) S σ := by
  intro p e s m args below meth c D aC B H ls locs cells slots hX hK hP hS h1 h2 h3 h4 hl
  rw [pm_vx ha.pos]
  have hD : va_D (pm_A al B S0.length) (pm_ws aC B S σ) := pm_D (fun z => by rw [(h1 z).1]; exact Nat.le_refl _)
  refine va_iast hX.1 hX.2.1 hK hP hD hS (q - 1) 0 (pm_arr0 ha) rfl hi hd (fun H1 locs1 hP1 _ hS1 => ?_)
  rw [show (pm_ws aC B S σ).set (q - 1) (B + q, .inl (aC 0, pm_len S q, .inl (upd (σ.1 q) i.toNatClampNeg x))) = pm_ws aC B S (pm_si σ q i.toNatClampNeg x) from pm_ws_set ha.at (by show (Sum.inl (aC 0, pm_len S q, Sum.inl ((pm_si σ q i.toNatClampNeg x).1 q)) : va_E) = _; simp [pm_si]) (fun a h => by simp [pm_si, h]) (fun _ _ => rfl)] at hP1
  exact K p e s m args below meth c D aC B H1 ls locs1 cells slots hX hK hP1 hS1 h1 h2 h3 h4 hl
theorem pm_zast {q : Nat} {i x : Int32} (ha : pm_is S q 1) (hi : vp_in i (pm_len S q)) (hx : x = 0 ∨ x = 1) (hd : decode cc pc = .ok (.bastore, 1)) (K : pm_E l y cc nL ret al d S0 r (pc + 1) lv st S (pm_si σ q i.toNatClampNeg x)) : pm_E l y cc nL ret al d S0 r pc lv (.int x :: .int i :: .ref q :: st) S σ := by
  intro p e s m args below meth c D aC B H ls locs cells slots hX hK hP hS h1 h2 h3 h4 hl
  rw [pm_vx ha.pos]
  have hD : va_D (pm_A al B S0.length) (pm_ws aC B S σ) := pm_D (fun z => by rw [(h1 z).1]; exact Nat.le_refl _)
  have hnx : vp_nar .boolean x = x := by rcases hx with rfl | rfl <;> rfl
  refine va_zast hX.1 hX.2.1 hK hP hD hS (q - 1) 1 (pm_arr1 ha) rfl hi hd (fun H1 locs1 hP1 _ hS1 => ?_)
  rw [hnx, show (pm_ws aC B S σ).set (q - 1) (B + q, .inl (aC 1, pm_len S q, .inl (upd (σ.1 q) i.toNatClampNeg x))) = pm_ws aC B S (pm_si σ q i.toNatClampNeg x) from pm_ws_set ha.at (by show (Sum.inl (aC 1, pm_len S q, Sum.inl ((pm_si σ q i.toNatClampNeg x).1 q)) : va_E) = _; simp [pm_si]) (fun a h => by simp [pm_si, h]) (fun _ _ => rfl)] at hP1
  exact K p e s m args below meth c D aC B H1 ls locs1 cells slots hX hK hP1 hS1 h1 h2 h3 h4 hl
theorem pm_aald {q : Nat} {i : Int32} (ha : pm_is S q 2) (hi : vp_in i (pm_len S q)) (hd : decode cc pc = .ok (.aaload, 1)) (K : pm_is S (σ.2 q i.toNatClampNeg) 11 → pm_E l y cc nL ret false d S0 r (pc + 1) lv (.ref (σ.2 q i.toNatClampNeg) :: st) S σ) : pm_E l y cc nL ret false d S0 r pc lv (.int i :: .ref q :: st) S σ := by
  intro p e s m args below meth c D aC B H ls locs cells slots hX hK hP hS h1 h2 h3 h4 hl
  rw [pm_vi ha.pos]
  have hi2 : i.toNatClampNeg < pm_len S q := Nat.not_le.mp fun z => hi (Or.inr z)
  have hk := K ((h1 rfl).2.2 q _ ha hi2) p e s m args below meth c D aC B H ls locs cells slots hX hK hP hS h1 h2 h3 h4 hl
  exact va_aldq hX.1 hX.2.1 hK hP (q - 1) 2 (pm_arr2 ha) rfl hi hd (by rw [pm_rf]; exact hk)
theorem pm_alen {q t : Nat} (ha : pm_is S q t) (ht : t < 3) (hd : decode cc pc = .ok (.arraylength, 1)) (K : pm_E l y cc nL ret al d S0 r (pc + 1) lv (.int (Int32.ofNat (pm_len S q)) :: st) S σ) : pm_E l y cc nL ret al d S0 r pc lv (.ref q :: st) S σ := by
  intro p e s m args below meth c D aC B H ls locs cells slots hX hK hP hS h1 h2 h3 h4 hl
  rw [pm_vr ha.pos]
  have hk := K p e s m args below meth c D aC B H ls locs cells slots hX hK hP hS h1 h2 h3 h4 hl
  rcases (show t = 0 ∨ t = 1 ∨ t = 2 by omega) with rfl | rfl | rfl
  · exact va_alen hX.1 hX.2.1 hK hP (q - 1) 0 (pm_arr0 ha) rfl rfl hd hk
  · exact va_alen hX.1 hX.2.1 hK hP (q - 1) 1 (pm_arr1 ha) rfl rfl hd hk
  · exact va_alen hX.1 hX.2.1 hK hP (q - 1) 2 (pm_arr2 ha) rfl rfl hd hk
end PMH
section PMC
variable {l : Launch} {y : MethodName} {cc : ByteArray} {nL : Nat} {ret : Option FieldType} {al : Bool} {d : Nat} {S0 : pm_S} {r : Option Value × pm_S × pm_H} {pc : Nat} {lv : List (Nat × Value)} {st : List Value} {S : pm_S} {σ : pm_H}
theorem pm_lv_args (B : Nat) (as : List Value) : ∀ i, lv_args i (as.map (pm_v B)) = (lv_args i as).map (fun q => (q.1, pm_v B q.2)) := by
  induction as with
  | nil => intro i; rfl
  | cons a t ih =>
    intro i
    simp only [List.map_cons, lv_args, pm_cat, ih]
theorem pm_lg_sl (B : Nat) (as : List Value) : (lg_sl (as.map (pm_v B))).length = (lg_sl as).length := by
  induction as with
  | nil => rfl
  | cons a t ih =>
    have h1 : ∀ (x : Value) (u : List Value), (lg_sl (x :: u)).length = (if x.category = 2 then 2 else 1) + (lg_sl u).length := by
      intro x u
      simp only [lg_sl, List.flatMap_cons, List.length_append]
      by_cases hx : x.category = 2 <;> simp [hx]
    rw [List.map_cons, h1, h1, pm_cat, ih]
theorem pm_M.of {as : List Value} (hy : plainName y.cls = true) (hn : (lg_sl as).length ≤ nL) (k : pm_E l y cc nL ret al d S r 0 (lv_args 0 as) [] S σ) : pm_M l y cc nL ret al d as S σ r := by
  intro D aC B
  refine Met.ofW (cc := cc) (maxL := nL) (ret := ret) hy rfl ?_
  intro p e s m args below meth c s₁ Bd hml hv
  obtain ⟨rfl, hP, hK, hT, hz, hN⟩ := hv
  have hts := atoms_spec (ws := Cond.code y cc nL ret :: lw_good) Bd.pre
  have hl := lv_entry (as.map (pm_v B)) (n := nL) (by rw [pm_lg_sl]; exact hn)
  rw [lg_entry_eq]
  generalize (lg_sl (as.map (pm_v B)) ++ List.replicate (nL - (lg_sl (as.map (pm_v B))).length) Slot.unset).toArray = ls at hl ⊢
  rw [pm_lv_args] at hl
  exact k p e s m _ below meth c D aC B s.heap ls [] 0 0 ⟨Bd.exec, Bd.bytes, hml, findClass_of_methodNamed Bd.named, fun w hw => hts w (List.mem_cons_of_mem _ hw), Bd.returns, Bd.notSynchronized, (name_of_methodNamed Bd.named Bd.method).1, hts _ List.mem_cons_self, hN⟩ hK hP va_S.rf (fun z => ⟨rfl, hT z⟩) hz (Nat.zero_add _) (Nat.zero_add _) hl
theorem pm_iret {v : Int32} (hr : ret = some .int) (hd : decode cc pc = .ok (.ireturn, 1)) (he : r = (some (.int v), S, σ)) : pm_E l y cc nL ret al d S0 r pc lv [.int v] S σ := by
  intro p e s m args below meth c D aC B H ls locs cells slots hX hK hP hS h1 h2 h3 h4 hl
  subst he
  have ec : cells = pm_mc S0 (some (Value.int v), S, σ) := by simp only [pm_mc]; omega
  have es : slots = pm_ms S0 (some (Value.int v), S, σ) := by simp only [pm_ms]; omega
  subst ec; subst es
  exact W.iret (v := v) hX.1 hX.2.1 (by rw [hX.2.2.2.2.2.1, hr]) (fun t ht _ => ⟨rfl, by rw [ht]; exact hP, fun z => (h1 z).2, hS.F ht⟩) hS.2.2 hd (hlocks := hX.2.2.2.2.2.2.1)
theorem pm_zret {v : Int32} (hr : ret = some .boolean) (hv : v = 0 ∨ v = 1) (hd : decode cc pc = .ok (.ireturn, 1)) (he : r = (some (.int v), S, σ)) : pm_E l y cc nL ret al d S0 r pc lv [.int v] S σ := by
  intro p e s m args below meth c D aC B H ls locs cells slots hX hK hP hS h1 h2 h3 h4 hl
  subst he
  have ec : cells = pm_mc S0 (some (Value.int v), S, σ) := by simp only [pm_mc]; omega
  have es : slots = pm_ms S0 (some (Value.int v), S, σ) := by simp only [pm_ms]; omega
  subst ec; subst es
  exact W.zret (v := v) (ty := .boolean) hX.1 hX.2.1 (by rw [hX.2.2.2.2.2.1, hr]) (pm_z_nar hv) (fun t ht _ => ⟨rfl, by rw [ht]; exact hP, fun z => (h1 z).2, hS.F ht⟩) hS.2.2 hd (hlocks := hX.2.2.2.2.2.2.1)
theorem pm_vret (hr : ret = none) (hd : decode cc pc = .ok (.return_, 1)) (he : r = (none, S, σ)) : pm_E l y cc nL ret al d S0 r pc lv [] S σ := by
  intro p e s m args below meth c D aC B H ls locs cells slots hX hK hP hS h1 h2 h3 h4 hl
  subst he
  have ec : cells = pm_mc S0 (none, S, σ) := by simp only [pm_mc]; omega
  have es : slots = pm_ms S0 (none, S, σ) := by simp only [pm_ms]; omega
  subst ec; subst es
  exact W.vret hX.1 hX.2.1 (by rw [hX.2.2.2.2.2.1, hr]) (fun t ht _ => ⟨rfl, by rw [ht]; exact hP, fun z => (h1 z).2, hS.F ht⟩) hS.2.2 hd (hlocks := hX.2.2.2.2.2.2.1)
/-! calls -/
theorem pm_size {D : va_G} {aC : Nat → ClassId} {A : Nat → Prop} {B : Nat} {H0 H : Heap} {locs : List Loc} {cells : Nat} (hP : va_P D vwCl (pm_ws aC B S σ) H) (hS : va_S A H0 H locs) (h2 : H0.size = B + S0.length + 1) (h3 : cells + S0.length = S.length) (hz : H.size ≤ H0.size + cells) : H.size = B + S.length + 1 := by
  have h5 := hS.1
  rcases Nat.eq_zero_or_pos S.length with h6 | h6
  · omega
  · obtain ⟨t, ht⟩ : ∃ t, S[S.length - 1]? = some t := ⟨S[S.length - 1], List.getElem?_eq_getElem (by omega)⟩
    have h7 := (hP (S.length - 1) (B + (S.length - 1 + 1), pm_e aC B σ (S.length - 1 + 1) t) (by rw [pm_ws_at, ht]; rfl)).lt
    simp only at h7
    omega
theorem pm_A_mono {B n n' : Nat} (h : al = false → n' ≤ n) : ∀ q, pm_A al B n' q → pm_A al B n q := fun q hq => ⟨hq.1, fun z => by have a := hq.2 z; have b := h z; omega⟩
theorem pm_blind {D : va_G} {aC : Nat → ClassId} {B : Nat} {av : List Value} : FrameBlind (va_Pc av (pm_P D aC B al S σ)) := by
  intro a U g mk ⟨e1, hP, hK, hT, hz, hN⟩
  exact ⟨e1, hP, va_K.moved (u := U) (U := U.calling g mk a) (Vm.Alike.refl U.vm) hK, hT, hz, pm_nest_same (u := U) (U := U.calling g mk a) rfl hN⟩
theorem pm_goodIn {w0 : Cond} (h : w0 ∈ lw_good) : GoodIn lw_good (w0 :: lw_good) := by
  intro w hw
  have hm : w ∈ lw_good := by rcases List.mem_cons.mp hw with rfl | h'; exact h; exact h'
  exact ⟨hm, good_of_word (List.mem_filter.mp hm).2⟩
/-- behind a call -/
theorem pm_run {r' : Option Value × pm_S × pm_H} {p : Program} {e : Env} {s : State} {m : MethodId} {args a' : Array Value} {below : List Frame} {meth : Method} {c : Code} {D : va_G} {aC : Nat → ClassId} {B : Nat} {H : Heap} {ls : Array Slot} {locs : List Loc} {cells slots : Nat} {st0 : List Value}
    (hX : pm_X p s m args meth c y cc nL ret) (hK : va_K D vwCl (pm_tys aC) s) (hS : va_S (pm_A al B S0.length) s.heap H locs) (h1 : al = false → S = S0 ∧ pm_T S σ.2) (h2 : al = true → s.heap.size = B + S0.length + 1) (h3 : cells + S0.length = S.length) (h4 : slots + pm_tot S0 = pm_tot S) (hl : lv_has ls nL (lv.map (fun q => (q.1, pm_v B q.2))))
    (hm : S.length ≤ r'.2.1.length ∧ pm_tot S ≤ pm_tot r'.2.1) (hS' : al = false → r'.2.1 = S)
    (hr : va_Run p l e (pm_rm d (pm_mc S0 r) (pm_ms S0 r)) s m args below meth c H locs cells slots (pm_mc S r') (pm_ms S r') (F0 m pc ls st0) (st.map (pm_v B)) (pm_Q D aC B r' al S.length a') (pm_A al B S.length))
    (K : pm_E l y cc nL ret al d S0 r (pc + 3) lv (r'.1.toList ++ st) r'.2.1 r'.2.2) :
    W p l e (pm_rm d (pm_mc S0 r) (pm_ms S0 r)) s m args below meth c H locs cells slots (MQ below (pm_Q D aC B r al S0.length) args s (pm_mc S0 r) (pm_ms S0 r) (pm_A al B S0.length)) (F0 m pc ls st0) := by
  intro T hT X
  obtain ⟨v, st₀, t, T', L, h0, X', hL, e1, e2, ⟨hv, hP1, hT1, hz, hk⟩, st1⟩ := hr T hT X
  have hAm : ∀ q, pm_A al B S.length q → pm_A al B S0.length q := pm_A_mono (fun z => by rw [(h1 z).1]; exact Nat.le_refl _)
  rw [h0] at hz hk
  have hS2 : va_S (pm_A al B S0.length) s.heap T'.heap (locs ++ L) := by
    refine ⟨Nat.le_trans hS.1 (by rw [e1]; exact hz), fun q g1 g2 => ?_, fun q hq => ?_⟩
    · rw [e1, hk q (Nat.lt_of_lt_of_le g1 hS.1) (fun z => g2 (hAm q z))]
      exact hS.2.1 q g1 g2
    · rcases List.mem_append.mp hq with h | h
      · exact hS.2.2 q h
      · exact hAm _ (hL q h)
  have hv' : v = r'.1.map (pm_v B) := Outcome.returned.inj hv
  obtain ⟨t2, a1, b1⟩ := K p e s m args below meth c D aC B T'.heap ls (locs ++ L) (cells + pm_mc S r') (slots + pm_ms S r') hX hK (by rw [e1]; exact hP1) hS2 (fun z => ⟨(hS' z).trans (h1 z).1, hT1 z⟩) h2 (by simp only [pm_mc]; omega) (by simp only [pm_ms]; omega) hl T' rfl X'
  refine ⟨t2, st1 t2 ?_, b1⟩
  rw [hv']
  have e3 : (Option.map (pm_v B) r'.1).toList ++ st.map (pm_v B) = (r'.1.toList ++ st).map (pm_v B) := by
    cases r'.1 <;> simp
  rw [e3]
  exact a1
def pm_LC (own : String) (idx : Nat) (y' : MethodName) (cc' : ByteArray) (nL' : Nat) (ret' : Option FieldType) (n : Nat) : Prop :=
  Cond.methodLink own idx y' ∈ lw_good ∧ Cond.initialized y'.cls ∈ lw_good ∧ Cond.code y' cc' nL' ret' ∈ lw_good ∧ (y'.cls ≠ "java/lang/invoke/MethodHandle" ∧ y'.cls ≠ "java/lang/invoke/VarHandle" ∧ (parseMethodDescriptor y'.desc).map (fun d => d.parameters.length) = some n) ∧ nL' ≤ 19
theorem pm_fix {p : Program} {s : State} {m : MethodId} {args : Array Value} {meth : Method} {c : Code} (hX : pm_X p s m args meth c y cc nL ret) : CallFix p m c cc nL s args lw_good y.cls := ⟨hX.1, hX.2.1, hX.2.2.1, hX.2.2.2.1, hX.2.2.2.2.1⟩
theorem pm_st8 {B : Nat} {m : MethodId} {ls : Array Slot} {st0 : List Value} (h : (st.map fun v => v.category).sum ≤ 8) : 2 * (F0 m pc ls st0).monitorRoom + ((st.map (pm_v B)).map fun v => v.category).sum ≤ 8 := by
  refine lv_room ?_
  rw [List.map_map]
  rw [show ((fun v : Value => v.category) ∘ pm_v B) = fun v => v.category from funext (fun v => pm_cat B v)]
  exact h
theorem pm_pre {D : va_G} {aC : Nat → ClassId} {B : Nat} {H : Heap} {s : State} {av : List Value} (hK : va_K D vwCl (pm_tys aC) s) (hP : va_P D vwCl (pm_ws aC B S σ) H) (hT : al = false → pm_T S σ.2) (hz : al = true → H.size = B + S.length + 1) (hN : ∀ w ∈ pm_nest, va_Nw w s) : ∀ U : State, U.heap = H → s.WarmedH U.vm → va_Pc av (pm_P D aC B al S σ) av.toArray U :=
  fun U hU hW => ⟨rfl, by rw [hU]; exact hP, va_K.moved hW.alike hK, hT, fun z => by rw [hU]; exact hz z, pm_nest_warm hW hN⟩
theorem pm_callV {idx q ci n d' nL' : Nat} {y' : MethodName} {cc' : ByteArray} {ret' : Option FieldType} {as st0 : List Value} {r' : Option Value × pm_S × pm_H} (hL : pm_LC y.cls idx y' cc' nL' ret' n) (hL2 : Cond.instanceMethod y' ∈ lw_good ∧ Cond.selects y'.cls y' y' ∈ lw_good) (hM : pm_M l y' cc' nL' ret' al d' (.ref q :: as) S σ r') (hd' : d' + 1 ≤ d) (hs : pm_is S q (ci + 3)) {C : String} {T : u_T} {N : Nat} (hC : vwCl[ci]? = some (C, T, N)) (hyC : y'.cls = C) (hst : st0 = as.reverse ++ .ref q :: st) (hn : as.length = n) (h8 : (st.map fun v => v.category).sum ≤ 8)
    (hm : S.length ≤ r'.2.1.length ∧ pm_tot S ≤ pm_tot r'.2.1) (hS' : al = false → r'.2.1 = S) (hroom : r'.2.1.length ≤ r.2.1.length ∧ pm_tot r'.2.1 ≤ pm_tot r.2.1) (hd : decode cc pc = .ok (.invokevirtual idx, 3)) (K : pm_E l y cc nL ret al d S0 r (pc + 3) lv (r'.1.toList ++ st) r'.2.1 r'.2.2) : pm_E l y cc nL ret al d S0 r pc lv st0 S σ := by
  intro p e s m args below meth c D aC B H ls locs cells slots hX hK hP hS h1 h2 h3 h4 hl
  refine fun T0 hT0 X0 => ?_
  have hz : al = true → H.size = B + S.length + 1 := fun z => pm_size hP hS (h2 z) h3 (by rw [← hT0]; exact X0.heapSize)
  subst hst
  have e0 : (as.reverse ++ Value.ref q :: st).map (pm_v B) = (as.map (pm_v B)).reverse ++ .ref (B + q) :: st.map (pm_v B) := by rw [List.map_append, pm_vr hs.pos, List.map_reverse]
  rw [e0]
  have cw : CallW (pm_rm d (pm_mc S0 r) (pm_ms S0 r)) s args y.cls C idx y' cc' nL' ret' (.code y' cc' nL' ret' :: lw_good) (pm_rm d' (pm_mc S r') (pm_ms S r')) (pm_mc S r') (pm_ms S r') n := by
    subst hyC
    refine ⟨callB_of n hX.2.2.2.2.1 (pm_goodIn hL.2.2.1) rfl rfl rfl (hX.2.2.2.2.1 _ hL.2.1) (hX.2.2.2.2.1 _ hL.1) hL.2.2.2.1 ⟨hd', ?_⟩, hX.2.2.2.2.1 _ hL2.1, hX.2.2.2.2.1 _ hL2.2⟩
    show 8 + (nL' + 11) + 38 * d' ≤ 38 * d
    have := hL.2.2.2.2
    omega
  have hM' := hM D aC B
  rw [pm_vr hs.pos] at hM'
  refine pm_run hX hK hS h1 h2 h3 h4 hl hm hS' (va_runV (As := as.map (pm_v B)) (pm_fix hX) hM' cw ⟨pm_blind, va_recv hK hP hC (pm_obj hs), pm_pre hK hP (fun z => (h1 z).2) hz hX.2.2.2.2.2.2.2.2.2⟩ rfl (by rw [List.length_map]; exact hn) hl.1 rfl (pm_st8 h8) hd ⟨?_, ?_⟩) K T0 hT0 X0
  · show cells + (r'.2.1.length - S.length) ≤ r.2.1.length - S0.length
    omega
  · show slots + (pm_tot r'.2.1 - pm_tot S) ≤ pm_tot r.2.1 - pm_tot S0
    omega
theorem pm_callS {idx n d' nL' : Nat} {y' : MethodName} {cc' : ByteArray} {ret' : Option FieldType} {as st0 : List Value} {r' : Option Value × pm_S × pm_H} (hL : pm_LC y.cls idx y' cc' nL' ret' n) (hL2 : Cond.static y' ∈ lw_good) (hM : pm_M l y' cc' nL' ret' al d' as S σ r') (hd' : d' + 1 ≤ d) (hst : st0 = as.reverse ++ st) (hn : as.length = n) (h8 : (st.map fun v => v.category).sum ≤ 8)
    (hm : S.length ≤ r'.2.1.length ∧ pm_tot S ≤ pm_tot r'.2.1) (hS' : al = false → r'.2.1 = S) (hroom : r'.2.1.length ≤ r.2.1.length ∧ pm_tot r'.2.1 ≤ pm_tot r.2.1) (hd : decode cc pc = .ok (.invokestatic idx, 3)) (K : pm_E l y cc nL ret al d S0 r (pc + 3) lv (r'.1.toList ++ st) r'.2.1 r'.2.2) : pm_E l y cc nL ret al d S0 r pc lv st0 S σ := by
  intro p e s m args below meth c D aC B H ls locs cells slots hX hK hP hS h1 h2 h3 h4 hl
  refine fun T0 hT0 X0 => ?_
  have hz : al = true → H.size = B + S.length + 1 := fun z => pm_size hP hS (h2 z) h3 (by rw [← hT0]; exact X0.heapSize)
  subst hst
  rw [List.map_append, List.map_reverse]
  have cw : CallB (pm_rm d (pm_mc S0 r) (pm_ms S0 r)) s args y.cls idx y' cc' nL' ret' (.code y' cc' nL' ret' :: lw_good) (pm_rm d' (pm_mc S r') (pm_ms S r')) (pm_mc S r') (pm_ms S r') n ∧ (Cond.static y').before args s = true := by
    refine ⟨callB_of n hX.2.2.2.2.1 (pm_goodIn hL.2.2.1) rfl rfl rfl (hX.2.2.2.2.1 _ hL.2.1) (hX.2.2.2.2.1 _ hL.1) hL.2.2.2.1 ⟨hd', ?_⟩, hX.2.2.2.2.1 _ hL2⟩
    show 8 + (nL' + 11) + 38 * d' ≤ 38 * d
    have := hL.2.2.2.2
    omega
  refine pm_run hX hK hS h1 h2 h3 h4 hl hm hS' (va_runS (As := as.map (pm_v B)) (pm_fix hX) (hM D aC B) cw ⟨pm_blind, pm_pre hK hP (fun z => (h1 z).2) hz hX.2.2.2.2.2.2.2.2.2⟩ rfl (by rw [List.length_map]; exact hn) hl.1 rfl (pm_st8 h8) hd ⟨?_, ?_⟩) K T0 hT0 X0
  · show cells + (r'.2.1.length - S.length) ≤ r.2.1.length - S0.length
    omega
  · show slots + (pm_tot r'.2.1 - pm_tot S) ≤ pm_tot r.2.1 - pm_tot S0
    omega
/-- the same, of a nest mate's private static method -/
theorem pm_callSN {idx n d' nL' : Nat} {host : String} {y' : MethodName} {cc' : ByteArray} {ret' : Option FieldType} {as st0 : List Value} {r' : Option Value × pm_S × pm_H} (hN : Cond.methodLinkNest y.cls idx y' host ∈ pm_nest) (hL : Cond.initialized y'.cls ∈ lw_good ∧ Cond.code y' cc' nL' ret' ∈ lw_good ∧ (y'.cls ≠ "java/lang/invoke/MethodHandle" ∧ y'.cls ≠ "java/lang/invoke/VarHandle" ∧ (parseMethodDescriptor y'.desc).map (fun d => d.parameters.length) = some n) ∧ nL' ≤ 19) (hL2 : Cond.static y' ∈ lw_good) (hM : pm_M l y' cc' nL' ret' al d' as S σ r') (hd' : d' + 1 ≤ d) (hst : st0 = as.reverse ++ st) (hn : as.length = n) (h8 : (st.map fun v => v.category).sum ≤ 8)
    (hm : S.length ≤ r'.2.1.length ∧ pm_tot S ≤ pm_tot r'.2.1) (hS' : al = false → r'.2.1 = S) (hroom : r'.2.1.length ≤ r.2.1.length ∧ pm_tot r'.2.1 ≤ pm_tot r.2.1) (hd : decode cc pc = .ok (.invokestatic idx, 3)) (K : pm_E l y cc nL ret al d S0 r (pc + 3) lv (r'.1.toList ++ st) r'.2.1 r'.2.2) : pm_E l y cc nL ret al d S0 r pc lv st0 S σ := by
  intro p e s m args below meth c D aC B H ls locs cells slots hX hK hP hS h1 h2 h3 h4 hl
  refine fun T0 hT0 X0 => ?_
  have hz : al = true → H.size = B + S.length + 1 := fun z => pm_size hP hS (h2 z) h3 (by rw [← hT0]; exact X0.heapSize)
  subst hst
  rw [List.map_append, List.map_reverse]
  have cw : va_CN (pm_rm d (pm_mc S0 r) (pm_ms S0 r)) s args y.cls idx y' host cc' nL' ret' (.code y' cc' nL' ret' :: lw_good) (pm_rm d' (pm_mc S r') (pm_ms S r')) (pm_mc S r') (pm_ms S r') n ∧ (Cond.static y').before args s = true ∧ True := by
    refine ⟨va_cnB n hX.2.2.2.2.1 (pm_goodIn hL.2.1) rfl rfl rfl (hX.2.2.2.2.2.2.2.2.2 _ hN) (hX.2.2.2.2.1 _ hL.1) hL.2.2.1 ⟨hd', ?_⟩, hX.2.2.2.2.1 _ hL2, trivial⟩
    show 8 + (nL' + 11) + 38 * d' ≤ 38 * d
    have := hL.2.2.2
    omega
  refine pm_run hX hK hS h1 h2 h3 h4 hl hm hS' (va_runSN (As := as.map (pm_v B)) (pm_fix hX) (hM D aC B) cw ⟨pm_blind, pm_pre hK hP (fun z => (h1 z).2) hz hX.2.2.2.2.2.2.2.2.2⟩ rfl (by rw [List.length_map]; exact hn) hl.1 rfl (pm_st8 h8) hd ⟨?_, ?_⟩) K T0 hT0 X0
  · show cells + (r'.2.1.length - S.length) ≤ r.2.1.length - S0.length
    omega
  · show slots + (pm_tot r'.2.1 - pm_tot S) ≤ pm_tot r.2.1 - pm_tot S0
    omega
theorem pm_callI {idx q n d' nL' : Nat} {y' : MethodName} {cc' : ByteArray} {as st0 : List Value} {r' : Option Value × pm_S × pm_H} (hL : pm_LC y.cls idx y' cc' nL' none n) (hL2 : Cond.instanceMethod y' ∈ lw_good ∧ y'.name = "<init>") (hM : pm_M l y' cc' nL' none al d' (.ref q :: as) S σ r') (hd' : d' + 1 ≤ d) (hq : 0 < q) (hst : st0 = as.reverse ++ .ref q :: st) (hn : as.length = n) (h8 : (st.map fun v => v.category).sum ≤ 8)
    (hm : S.length ≤ r'.2.1.length ∧ pm_tot S ≤ pm_tot r'.2.1) (hS' : al = false → r'.2.1 = S) (hroom : r'.2.1.length ≤ r.2.1.length ∧ pm_tot r'.2.1 ≤ pm_tot r.2.1) (hd : decode cc pc = .ok (.invokespecial idx, 3)) (K : pm_E l y cc nL ret al d S0 r (pc + 3) lv (r'.1.toList ++ st) r'.2.1 r'.2.2) : pm_E l y cc nL ret al d S0 r pc lv st0 S σ := by
  intro p e s m args below meth c D aC B H ls locs cells slots hX hK hP hS h1 h2 h3 h4 hl
  refine fun T0 hT0 X0 => ?_
  have hz : al = true → H.size = B + S.length + 1 := fun z => pm_size hP hS (h2 z) h3 (by rw [← hT0]; exact X0.heapSize)
  subst hst
  have e0 : (as.reverse ++ Value.ref q :: st).map (pm_v B) = (as.map (pm_v B)).reverse ++ .ref (B + q) :: st.map (pm_v B) := by rw [List.map_append, pm_vr hq, List.map_reverse]
  rw [e0]
  have cw : CallB (pm_rm d (pm_mc S0 r) (pm_ms S0 r)) s args y.cls idx y' cc' nL' none (.code y' cc' nL' none :: lw_good) (pm_rm d' (pm_mc S r') (pm_ms S r')) (pm_mc S r') (pm_ms S r') n ∧ y'.name = "<init>" ∧ (Cond.instanceMethod y').before args s = true := by
    refine ⟨callB_of n hX.2.2.2.2.1 (pm_goodIn hL.2.2.1) rfl rfl rfl (hX.2.2.2.2.1 _ hL.2.1) (hX.2.2.2.2.1 _ hL.1) hL.2.2.2.1 ⟨hd', ?_⟩, hL2.2, hX.2.2.2.2.1 _ hL2.1⟩
    show 8 + (nL' + 11) + 38 * d' ≤ 38 * d
    have := hL.2.2.2.2
    omega
  have hM' := hM D aC B
  rw [pm_vr hq] at hM'
  refine pm_run hX hK hS h1 h2 h3 h4 hl hm hS' (va_runI (As := as.map (pm_v B)) (pm_fix hX) hM' cw ⟨pm_blind, pm_pre hK hP (fun z => (h1 z).2) hz hX.2.2.2.2.2.2.2.2.2⟩ rfl (by rw [List.length_map]; exact hn) hl.1 rfl (pm_st8 h8) hd ⟨?_, ?_⟩) K T0 hT0 X0
  · show cells + (r'.2.1.length - S.length) ≤ r.2.1.length - S0.length
    omega
  · show slots + (pm_tot r'.2.1 - pm_tot S) ≤ pm_tot r.2.1 - pm_tot S0
    omega
theorem pm_objInit {idx q : Nat} (hL : Cond.methodLink y.cls idx objectInit ∈ lw_good ∧ Cond.instanceMethod objectInit ∈ lw_good ∧ Cond.code objectInit ⟨#[0xb1]⟩ 1 none ∈ lw_good) (hq : 0 < q) (h8 : (st.map fun v => v.category).sum ≤ 8) (hdp : 1 ≤ d) (hd : decode cc pc = .ok (.invokespecial idx, 3)) (K : pm_E l y cc nL ret al d S0 r (pc + 3) lv st S σ) : pm_E l y cc nL ret al d S0 r pc lv (.ref q :: st) S σ := by
  intro p e s m args below meth c D aC B H ls locs cells slots hX hK hP hS h1 h2 h3 h4 hl
  rw [pm_vr hq]
  refine W.objInit hX.1 hX.2.1 hX.2.2.2.1 (hX.2.2.2.2.1 _ hL.1) (hX.2.2.2.2.1 _ hL.2.1) (hX.2.2.2.2.1 _ hL.2.2) rfl (by rw [hX.2.2.1]; exact hl.1) rfl hd hdp ?_ (K p e s m args below meth c D aC B H ls locs cells slots hX hK hP hS h1 h2 h3 h4 hl)
  have h9 := pm_st8 (pc := pc) (B := B) (m := m) (ls := ls) (st0 := .ref (B + q) :: st.map (pm_v B)) h8
  show _ ≤ 38 * d
  omega
end PMC
section PMN
variable {l : Launch} {y : MethodName} {cc : ByteArray} {nL : Nat} {ret : Option FieldType} {al : Bool} {d : Nat} {S0 : pm_S} {r : Option Value × pm_S × pm_H} {pc : Nat} {lv : List (Nat × Value)} {st : List Value} {S : pm_S} {σ : pm_H}
theorem pm_Wz {p : Program} {e : Env} {R : Room} {s : State} {m : MethodId} {args : Array Value} {below : List Frame} {meth : Method} {c : Code} {H : Heap} {locs : List Loc} {cells slots : Nat} {Q : State → Prop} {g : JFrame} (h : H.size ≤ s.heap.size + cells → W p l e R s m args below meth c H locs cells slots Q g) : W p l e R s m args below meth c H locs cells slots Q g := fun T hT X => h (by rw [← hT]; exact X.heapSize) T hT X
theorem pm_v_new {B n : Nat} : (Value.ref (n + 1) :: st).map (pm_v B) = .ref (B + n + 1) :: st.map (pm_v B) := by rw [pm_vr (Nat.succ_pos _)]; rfl
theorem pm_push {D : va_G} {aC : Nat → ClassId} {B : Nat} {H H1 : Heap} {t : Nat × Nat} (hP : va_P D vwCl (pm_ws aC B S σ) H) (o1 : ∀ q, q < H.size → H1[q]? = H[q]?) (hn : va_at D vwCl (B + S.length + 1, pm_e aC B σ (S.length + 1) t) H1) : va_P D vwCl (pm_ws aC B (S ++ [t]) σ) H1 := by
  rw [pm_ws_push]
  refine (hP.kept (fun k x hx => o1 x.1 (hP k x hx).lt)).app (fun k x hx => ?_)
  have hz : k < 1 := (List.getElem?_eq_some_iff.mp hx).1
  rw [show k = 0 by omega] at hx
  cases hx
  exact hn
theorem pm_S_push {A : Nat → Prop} {H0 H H1 : Heap} {locs : List Loc} {h : Nat} (hS : va_S A H0 H locs) (hh : H.size = h) (z1 : H1.size = h + 1) (o1 : ∀ q, q < h → H1[q]? = H[q]?) : va_S A H0 H1 locs :=
  ⟨Nat.le_trans hS.1 (by omega), fun x g1 g2 => (o1 x (by rw [← hh]; exact Nat.lt_of_lt_of_le g1 hS.1)).trans (hS.2.1 x g1 g2), hS.2.2⟩
theorem pm_new {ci idx N : Nat} {C : String} {T : u_T} {ty : Nat → FieldType} (hC : pm_CL ci C T N ty) (hL : Cond.classLink y.cls idx C ∈ lw_good ∧ Cond.instantiable C N ∈ lw_good ∧ Cond.initialized C ∈ lw_good) (h0 : ∀ j, σ.1 (S.length + 1) j = 0 ∧ σ.2 (S.length + 1) j = 0) (hdv : ∀ j, j < N → defaultValue (ty j) = if (pm_ft ci j).isSome then .null else .int 0)
    (hroom : S.length + 1 ≤ r.2.1.length ∧ pm_tot S + N ≤ pm_tot r.2.1) (hd : decode cc pc = .ok (.new idx, 3)) (K : pm_E l y cc nL ret true d S0 r (pc + 3) lv (.ref (S.length + 1) :: st) (S ++ [(ci + 3, N)]) σ) : pm_E l y cc nL ret true d S0 r pc lv st S σ := by
  intro p e s m args below meth c D aC B H ls locs cells slots hX hK hP hS h1 h2 h3 h4 hl
  refine pm_Wz (fun hz0 => ?_)
  have hz : H.size = B + S.length + 1 := pm_size hP hS (h2 rfl) h3 hz0
  have hKn := hK.1 ci _ hC.1
  refine W.newcK hX.1 hX.2.1 hX.2.2.2.1 (hX.2.2.2.2.1 _ hL.1) (hX.2.2.2.2.1 _ hL.2.1) (hX.2.2.2.2.1 _ hL.2.2) rfl hd ?_ ?_ hKn.2.1 hz (fun H1 kC hkC e1 z1 o1 => ?_)
  · show cells + 1 ≤ r.2.1.length - S0.length
    omega
  · show slots + N ≤ pm_tot r.2.1 - pm_tot S0
    omega
  · have hk := K p e s m args below meth c D aC B H1 ls locs (cells + 1) (slots + N) hX hK (pm_push hP (by rw [hz]; exact o1) ?_) (pm_S_push hS hz z1 o1) (fun z => by cases z) h2 (by simp only [List.length_append, List.length_cons, List.length_nil]; omega) (by rw [pm_tot_app]; simp only [pm_tot]; omega) hl
    · rw [pm_v_new] at hk
      exact hk
    · refine ⟨_, hC.1, (u_born ty hX.2.2.2.2.1 hC.2.1 hKn hkC e1 hC.2.2.1).to ?_⟩
      intro j hj
      rw [hdv j hj]
      show _ = ((List.range (pm_fn ci)).map (pm_fv B σ (S.length + 1) ci)).getD j .null
      have hj' : j < pm_fn ci := by rw [hC.2.2.2.2]; exact hj
      rw [List.getD_eq_getElem?_getD, pm_fs_get hj']
      simp only [pm_fv, (h0 j).1, (h0 j).2, Option.getD_some]
      rfl
theorem pm_newa {t N : Nat} {atype : ArrayType} {n : Int32} (ht : (atype = .int ∧ t = 0) ∨ (atype = .boolean ∧ t = 1)) (harr : Cond.arrayClass (newarray.typeOf atype) ∈ lw_good) (h0 : ∀ j, σ.1 (S.length + 1) j = 0) (hn : n = Int32.ofNat N) (hN : N ≤ 10000)
    (hroom : S.length + 1 ≤ r.2.1.length ∧ pm_tot S + N ≤ pm_tot r.2.1) (hd : decode cc pc = .ok (.newarray atype, 2)) (K : pm_E l y cc nL ret true d S0 r (pc + 2) lv (.ref (S.length + 1) :: st) (S ++ [(t, N)]) σ) : pm_E l y cc nL ret true d S0 r pc lv (.int n :: st) S σ := by
  intro p e s m args below meth c D aC B H ls locs cells slots hX hK hP hS h1 h2 h3 h4 hl
  refine pm_Wz (fun hz0 => ?_)
  have hz : H.size = B + S.length + 1 := pm_size hP hS (h2 rfl) h3 hz0
  have hc : n.toNatClampNeg = N := by rw [hn]; exact nI_clamp (by omega)
  have hn0 : ¬ n < 0 := by rw [hn]; exact nI_pos (by omega)
  refine va_newaK hX.1 hX.2.1 (hX.2.2.2.2.1 _ harr) rfl hd (N := N) rfl hn0 hc ?_ ?_ ?_ hz (fun H1 cA e1 z1 o1 hAr hNm => ?_)
  · rcases ht with ⟨rfl, rfl⟩ | ⟨rfl, rfl⟩
    · show N * 4 ≤ 536870912
      omega
    · show N * 1 ≤ 536870912
      omega
  · show cells + 1 ≤ r.2.1.length - S0.length
    omega
  · show slots + N ≤ pm_tot r.2.1 - pm_tot S0
    omega
  · have hk := K p e s m args below meth c D aC B H1 ls locs (cells + 1) (slots + N) hX hK (pm_push hP (by rw [hz]; exact o1) ?_) (pm_S_push hS hz z1 o1) (fun z => by cases z) h2 (by simp only [List.length_append, List.length_cons, List.length_nil]; omega) (by rw [pm_tot_app]; simp only [pm_tot]; omega) hl
    · rw [pm_v_new] at hk
      exact hk
    · have hrow : σ.1 (S.length + 1) = fun _ => 0 := funext h0
      rcases ht with ⟨rfl, rfl⟩ | ⟨rfl, rfl⟩
      · have hcA : cA = aC 0 := Option.some.inj (hNm.symm.trans (hK.2 0 _ rfl).2)
        subst hcA
        show H1[B + S.length + 1]? = some (arrV (aC 0) N (fun j => .int (σ.1 (S.length + 1) j)))
        rw [e1, hrow]
        rfl
      · have hcA : cA = aC 1 := Option.some.inj (hNm.symm.trans (hK.2 1 _ rfl).2)
        subst hcA
        show H1[B + S.length + 1]? = some (arrV (aC 1) N (fun j => .int (σ.1 (S.length + 1) j)))
        rw [e1, hrow]
        rfl
theorem pm_anew {N idx : Nat} {n : Int32} (hL : Cond.classLink y.cls idx "RulerFoot$Standing" ∈ lw_good) (h0 : ∀ j, σ.2 (S.length + 1) j = 0) (hn : n = Int32.ofNat N) (hN : N ≤ 10000)
    (hroom : S.length + 1 ≤ r.2.1.length ∧ pm_tot S + N ≤ pm_tot r.2.1) (hd : decode cc pc = .ok (.anewarray idx, 3)) (K : pm_E l y cc nL ret true d S0 r (pc + 3) lv (.ref (S.length + 1) :: st) (S ++ [(2, N)]) σ) : pm_E l y cc nL ret true d S0 r pc lv (.int n :: st) S σ := by
  intro p e s m args below meth c D aC B H ls locs cells slots hX hK hP hS h1 h2 h3 h4 hl
  refine pm_Wz (fun hz0 => ?_)
  have hz : H.size = B + S.length + 1 := pm_size hP hS (h2 rfl) h3 hz0
  have hc : n.toNatClampNeg = N := by rw [hn]; exact nI_clamp (by omega)
  have hn0 : ¬ n < 0 := by rw [hn]; exact nI_pos (by omega)
  have hover : va_AO "RulerFoot$Standing" s := hX.2.2.2.2.2.2.2.2.2 _ (by decide)
  refine W.anew hX.1 hX.2.1 hX.2.2.2.1 (hX.2.2.2.2.1 _ hL) (va_AO.use hover) rfl hd rfl hn0 (by rw [hc]; omega) ?_ ?_ (fun cA kA comp f1 f2 f3 f4 => ?_)
  · show cells + 1 ≤ r.2.1.length - S0.length
    omega
  · show slots + n.toNatClampNeg ≤ pm_tot r.2.1 - pm_tot S0
    omega
  · generalize hH1 : H.push ({ cls := cA, slots := Array.replicate n.toNatClampNeg .null, vm := .none } : Cell) = H1
    have z1 : H1.size = B + S.length + 1 + 1 := by rw [← hH1, Array.size_push, hz]
    have e1 : H1[B + S.length + 1]? = some (arrV cA N (fun _ => .null)) := by rw [← hH1, ← hz, Array.getElem?_push_size, ← arrV_new, hc]
    have o1 : ∀ q : Nat, q < B + S.length + 1 → H1[q]? = H[q]? := fun q hq => by rw [← hH1, Array.getElem?_push, if_neg (by omega)]
    have hk := K p e s m args below meth c D aC B H1 ls locs (cells + 1) (slots + N) hX hK (pm_push hP (by rw [hz]; exact o1) ?_) (pm_S_push hS hz z1 o1) (fun z => by cases z) h2 (by simp only [List.length_append, List.length_cons, List.length_nil]; omega) (by rw [pm_tot_app]; simp only [pm_tot]; omega) hl
    · rw [pm_v_new] at hk
      rw [hc, hz]
      exact hk
    · obtain ⟨-, -, -, -, -, hcn⟩ := (hK.2 2 _ rfl).2
      have hcA : cA = aC 2 := Option.some.inj (f1.symm.trans hcn)
      subst hcA
      show H1[B + S.length + 1]? = some (arrV (aC 2) N (fun j => va_rf (pm_ro B (σ.2 (S.length + 1) j))))
      rw [e1]
      congr 2
      funext j
      rw [h0 j]
      rfl
theorem pm_aast {q x : Nat} {i : Int32} (ha : pm_is S q 2) (hx : pm_is S x 11) (hi : vp_in i (pm_len S q)) (hd : decode cc pc = .ok (.aastore, 1)) (K : pm_E l y cc nL ret true d S0 r (pc + 1) lv st S (pm_sr σ q i.toNatClampNeg x)) : pm_E l y cc nL ret true d S0 r pc lv (.ref x :: .int i :: .ref q :: st) S σ := by
  intro p e s m args below meth c D aC B H ls locs cells slots hX hK hP hS h1 h2 h3 h4 hl
  have e0 : (Value.ref x :: .int i :: .ref q :: st).map (pm_v B) = .ref (B + x) :: .int i :: .ref (B + q) :: st.map (pm_v B) := by rw [pm_vr hx.pos, pm_vi ha.pos]
  rw [e0]
  have hD : va_D (pm_A true B S0.length) (pm_ws aC B S σ) := pm_D (fun z => by cases z)
  refine va_astq hX.1 hX.2.1 hK hP hD hS (q - 1) 2 (x - 1) 8 (r := (RX8, TX8, 4)) (pm_arr2 ha) rfl (pm_obj (ci := 8) hx) rfl hi hd (fun H1 locs1 hP1 _ hS1 => ?_)
  rw [show (pm_ws aC B S σ).set (q - 1) (B + q, .inl (aC 2, pm_len S q, .inr (.inr (.inr (.inr (va_up (fun j => pm_ro B (σ.2 q j)) i.toNatClampNeg (some (B + x)))))))) = pm_ws aC B S (pm_sr σ q i.toNatClampNeg x) from pm_ws_set ha.at (by
      show (Sum.inl (aC 2, pm_len S q, Sum.inr (Sum.inr (Sum.inr (Sum.inr (fun j => pm_ro B ((pm_sr σ q i.toNatClampNeg x).2 q j)))))) : va_E) = _
      have e5 : (fun j => pm_ro B ((pm_sr σ q i.toNatClampNeg x).2 q j)) = va_up (fun j => pm_ro B (σ.2 q j)) i.toNatClampNeg (some (B + x)) := by
        funext j
        rw [pm_sr_2]
        by_cases hj : j = i.toNatClampNeg
        · simp [hj, va_up, pm_ro_pos hx.pos]
        · simp [hj, va_up]
      rw [e5]) (fun _ _ => rfl) (fun a h => by simp [pm_sr, h])] at hP1
  exact K p e s m args below meth c D aC B H1 ls locs1 cells slots hX hK hP1 hS1 (fun z => by cases z) h2 h3 h4 hl
theorem pm_copy {q0 q1 idx : Nat} {sp dp n : Int32} (hL : Cond.methodLink y.cls idx arraycopyName ∈ lw_good ∧ Cond.native arraycopyName ∈ lw_good ∧ Cond.static arraycopyName ∈ lw_good ∧ Cond.initialized "java/lang/System" ∈ lw_good) (ha0 : pm_is S q0 0) (ha1 : pm_is S q1 0) (g1 : ¬ sp < 0) (g2 : ¬ dp < 0) (g3 : ¬ n < 0) (g4 : sp.toNatClampNeg + n.toNatClampNeg ≤ pm_len S q0) (g5 : dp.toNatClampNeg + n.toNatClampNeg ≤ pm_len S q1) (h8 : (st.map fun v => v.category).sum ≤ 8) (hdp : 1 ≤ d)
    (hd : decode cc pc = .ok (.invokestatic idx, 3)) (K : pm_E l y cc nL ret al d S0 r (pc + 3) lv st S (pm_sa σ q1 (va_cpy (σ.1 q0) (σ.1 q1) sp.toNatClampNeg dp.toNatClampNeg n.toNatClampNeg))) : pm_E l y cc nL ret al d S0 r pc lv (.int n :: .int dp :: .ref q1 :: .int sp :: .ref q0 :: st) S σ := by
  intro p e s m args below meth c D aC B H ls locs cells slots hX hK hP hS h1 h2 h3 h4 hl
  have e0 : (Value.int n :: .int dp :: .ref q1 :: .int sp :: .ref q0 :: st).map (pm_v B) = .int n :: .int dp :: .ref (B + q1) :: .int sp :: .ref (B + q0) :: st.map (pm_v B) := by
    rw [pm_vx ha1.pos, pm_vi ha0.pos]
  rw [e0]
  have hD : va_D (pm_A al B S0.length) (pm_ws aC B S σ) := pm_D (fun z => by rw [(h1 z).1]; exact Nat.le_refl _)
  have h9 : ((st.map (pm_v B)).map fun v => v.category).sum ≤ 8 := by
    rw [List.map_map, show ((fun v : Value => v.category) ∘ pm_v B) = fun v => v.category from funext (fun v => pm_cat B v)]
    exact h8
  refine va_copyi hX.1 hX.2.1 (by rw [hX.2.2.1]; exact hl.1.symm) hX.2.2.2.1 (hX.2.2.2.2.1 _ hL.1) (hX.2.2.2.2.1 _ hL.2.1) (hX.2.2.2.2.1 _ hL.2.2.1) (hX.2.2.2.2.1 _ hL.2.2.2) hK hP hD hS (q0 - 1) (q1 - 1) 0 0 (pm_arr0 ha0) (pm_arr0 ha1) rfl rfl rfl g1 g2 g3 g4 g5 (fun _ _ => rfl) hdp ?_ hd (fun H1 locs1 hP1 _ hS1 => ?_)
  · have hw : nativeFrameWords "java/lang/System" "arraycopy" 5 + 11 ≤ 30 := by decide +kernel
    show _ ≤ 38 * d
    omega
  · rw [show (pm_ws aC B S σ).set (q1 - 1) (B + q1, .inl (aC 0, pm_len S q1, .inl (va_cpy (σ.1 q0) (σ.1 q1) sp.toNatClampNeg dp.toNatClampNeg n.toNatClampNeg))) = pm_ws aC B S (pm_sa σ q1 (va_cpy (σ.1 q0) (σ.1 q1) sp.toNatClampNeg dp.toNatClampNeg n.toNatClampNeg)) from pm_ws_set ha1.at (by
        show (Sum.inl (aC 0, pm_len S q1, Sum.inl ((pm_sa σ q1 _).1 q1)) : va_E) = _
        simp [pm_sa]) (fun a h => by simp [pm_sa, h]) (fun _ _ => rfl)] at hP1
    exact K p e s m args below meth c D aC B H1 ls locs1 cells slots hX hK hP1 hS1 h1 h2 h3 h4 hl
end PMN
theorem pm_cl0 : pm_CL 0 RX0 TX0 3 tyX0 := ⟨rfl, by decide +kernel, tyX0_ok, nmX0, rfl⟩
theorem pm_cl1 : pm_CL 1 RX1 TX1 2 tyX1 := ⟨rfl, by decide +kernel, tyX1_ok, nmX1, rfl⟩
theorem pm_cl2 : pm_CL 2 RX2 TX2 5 tyX2 := ⟨rfl, by decide +kernel, tyX2_ok, nmX2, rfl⟩
theorem pm_cl3 : pm_CL 3 RX3 TX3 3 tyX3 := ⟨rfl, by decide +kernel, tyX3_ok, nmX3, rfl⟩
theorem pm_cl4 : pm_CL 4 RX4 TX4 3 tyX4 := ⟨rfl, by decide +kernel, tyX4_ok, nmX4, rfl⟩
theorem pm_cl5 : pm_CL 5 RX5 TX5 6 tyX5 := ⟨rfl, by decide +kernel, tyX5_ok, nmX5, rfl⟩
theorem pm_cl6 : pm_CL 6 RX6 TX6 4 tyX6 := ⟨rfl, by decide +kernel, tyX6_ok, nmX6, rfl⟩
theorem pm_cl7 : pm_CL 7 RX7 TX7 6 tyX7 := ⟨rfl, by decide +kernel, tyX7_ok, nmX7, rfl⟩
theorem pm_cl8 : pm_CL 8 RX8 TX8 4 tyX8 := ⟨rfl, by decide +kernel, tyX8_ok, nmX8, rfl⟩
theorem pm_cl9 : pm_CL 9 RX9 TX9 11 tyX9 := ⟨rfl, by decide +kernel, tyX9_ok, nmX9, rfl⟩
theorem pm_cl10 : pm_CL 10 RX10 TX10 5 tyX10 := ⟨rfl, by decide +kernel, tyX10_ok, nmX10, rfl⟩
theorem pm_cl11 : pm_CL 11 RX11 TX11 17 tyX11 := ⟨rfl, by decide +kernel, tyX11_ok, nmX11, rfl⟩
theorem pm_cl12 : pm_CL 12 RX12 TX12 43 tyX12 := ⟨rfl, by decide +kernel, tyX12_ok, nmX12, rfl⟩
end
